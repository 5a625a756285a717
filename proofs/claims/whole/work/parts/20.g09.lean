section GEN
variable {p : Program} {l : Launch} {e : Env} {R : Room} {s : State} {m : MethodId} {args : Array Value} {below : List Frame} {meth : Method} {c : Code} {H : Heap} {locs : List Loc} {Q : State → Prop} {G : GG}
def fY0_copy_L104 (N : Nat) (x1 : Int32) (x2 : Int32) (x3 : Int32) (x4 : Int32) (x5 : Int32) : Nat → St → Int32 → Option (St)
  | 0, _, _ => none
  | n + 1, S, x6 =>
    if x5 ≤ x6 then
      some S
    else
      Option.bind (fY0_rowAt S x1 (x2 + x6)) fun t27 =>
      gd (inb x6 40) <|
      nx (p1 S 4 (Int32.toNatClampNeg x6) t27) fun s30 =>
      fY0_copy_L104 N x1 x2 x3 x4 x5 n s30 (x6 + 1)
set_option maxHeartbeats 4000000 in
set_option maxRecDepth 100000 in
theorem wY0_copy_L104 {N : Nat} {x1 : Int32} {x2 : Int32} {x3 : Int32} {x4 : Int32} {x5 : Int32} (hC : CallFix p m c cX10_copy 7 s args lw_g RX10) (hF : 2 ≤ R.frames) (hL : 42 ≤ R.locals)  {t : St} (kx : ∀ (H : Heap) (locs : List Loc) (ls : Array Slot), wg LY G t s H locs → lv_has ls 7 [(0, .ref (ad G 0)), (3, .int x3), (4, .int x4), (5, .int x5)] → W p l e R s m args below meth c H locs 0 0 Q (F0 m 133 ls [])) : ∀ (n : Nat) (S : St) (x6 : Int32), fY0_copy_L104 N x1 x2 x3 x4 x5 n S x6 = some t → ∀ (H : Heap) (locs : List Loc) (ls : Array Slot), wg LY G S s H locs → lv_has ls 7 [(0, .ref (ad G 0)), (1, .int x1), (2, .int x2), (3, .int x3), (4, .int x4), (5, .int x5), (6, .int x6)] → W p l e R s m args below meth c H locs 0 0 Q (F0 m 104 ls []) := by
  have hx := hC.1
  have hb := hC.2.1
  intro n
  induction n with
  | zero =>
    intro _ _ h
    cases h
  | succ n ih =>
    intro S x6 h H locs ls hW hl
    rw [fY0_copy_L104] at h
    refine lv_iload hx hb dX10_copy_104 (lv_at hl 6 rfl) ?_
    refine lv_iload hx hb dX10_copy_106 (lv_at hl 5 rfl) ?_
    refine lv_icmp_ge (tgt := 133) hx hb dX10_copy_108 (by decide) (fun q26 => ?_) (fun q26 => ?_)
    · have h := it_p q26 h
      cases h
      exact kx _ _ _ hW (lv_sub hl [0, 3, 4, 5] rfl)
    · have h := it_n q26 h
      refine lv_aload_n hx hb dX10_copy_111 rfl (lv_at hl 0 rfl) ?_
      refine gY0_7 hC hW dX10_copy_112 ?_
      refine lv_iload hx hb dX10_copy_115 (lv_at hl 6 rfl) ?_
      refine lv_aload_n hx hb dX10_copy_117 rfl (lv_at hl 0 rfl) ?_
      refine lv_iload_n hx hb dX10_copy_118 rfl (lv_at hl 1 rfl) ?_
      refine lv_iload_n hx hb dX10_copy_119 rfl (lv_at hl 2 rfl) ?_
      refine lv_iload hx hb dX10_copy_120 (lv_at hl 6 rfl) ?_
      refine lv_iadd hx hb dX10_copy_122 ?_
      obtain ⟨t27, e28, h⟩ := bd h
      refine x_goi (x_rv (rest := [.int x6, .ref (ad G 4)]) hC hW (ctY0_rowAt e28) (cwV_g hC.2.2.2.2 ml_X10_121 mi_X10_rowAt md_X10_rowAt ⟨(Nat.le_trans (Nat.le_of_ble_eq_true rfl) hF), (Nat.le_trans (Nat.le_of_ble_eq_true rfl) hL)⟩) (rcY0 hW) rfl hl.1 rfl (Nat.le_of_ble_eq_true rfl) dX10_copy_123) hW (fun H locs hW => ?_)
      obtain ⟨g29, h⟩ := gd_some h
      refine x_iast hC hW aY4 g29 dX10_copy_126 (fun H locs hW => ?_)
      obtain ⟨s30, e31, h⟩ := nx_some h
      rw [← e31] at hW
      refine lv_iinc (v := x6 + 1) (lv' := [(6, .int (x6 + 1)), (0, .ref (ad G 0)), (1, .int x1), (2, .int x2), (3, .int x3), (4, .int x4), (5, .int x5)]) (k := 6) hx hb dX10_copy_127 hl rfl rfl (by decide) rfl (fun ls hl => ?_)
      refine lv_goto (tgt := 104) hx hb dX10_copy_130 (by decide) ?_
      exact ih _ _ h _ _ _ hW (lv_sub hl [1, 2, 3, 4, 5, 6, 0] rfl)
def fY0_copy_L136 (N : Nat) (x3 : Int32) (x4 : Int32) (x5 : Int32) : Nat → St → Int32 → Option (St)
  | 0, _, _ => none
  | n + 1, S, x6 =>
    if x5 ≤ x6 then
      some S
    else
      gd (inb x6 40) <|
      gd (inb (((40 * x3) + x4) + x6) 240) <|
      nx (p1 S 3 (Int32.toNatClampNeg (((40 * x3) + x4) + x6)) (S.1 4 (Int32.toNatClampNeg x6))) fun s37 =>
      fY0_copy_L136 N x3 x4 x5 n s37 (x6 + 1)
set_option maxHeartbeats 4000000 in
set_option maxRecDepth 100000 in
theorem wY0_copy_L136 {N : Nat} {x3 : Int32} {x4 : Int32} {x5 : Int32} (hC : CallFix p m c cX10_copy 7 s args lw_g RX10) (hF : 2 ≤ R.frames) (hL : 42 ≤ R.locals)  {t : St} (kx : ∀ (H : Heap) (locs : List Loc) (ls : Array Slot), wg LY G t s H locs → lv_has ls 7 [] → W p l e R s m args below meth c H locs 0 0 Q (F0 m 171 ls [])) : ∀ (n : Nat) (S : St) (x6 : Int32), fY0_copy_L136 N x3 x4 x5 n S x6 = some t → ∀ (H : Heap) (locs : List Loc) (ls : Array Slot), wg LY G S s H locs → lv_has ls 7 [(0, .ref (ad G 0)), (3, .int x3), (4, .int x4), (5, .int x5), (6, .int x6)] → W p l e R s m args below meth c H locs 0 0 Q (F0 m 136 ls []) := by
  have hx := hC.1
  have hb := hC.2.1
  intro n
  induction n with
  | zero =>
    intro _ _ h
    cases h
  | succ n ih =>
    intro S x6 h H locs ls hW hl
    rw [fY0_copy_L136] at h
    refine lv_iload hx hb dX10_copy_136 (lv_at hl 4 rfl) ?_
    refine lv_iload hx hb dX10_copy_138 (lv_at hl 3 rfl) ?_
    refine lv_icmp_ge (tgt := 171) hx hb dX10_copy_140 (by decide) (fun q34 => ?_) (fun q34 => ?_)
    · have h := it_p q34 h
      cases h
      exact kx _ _ _ hW (lv_sub hl [] rfl)
    · have h := it_n q34 h
      refine lv_aload_n hx hb dX10_copy_143 rfl (lv_at hl 0 rfl) ?_
      refine gY0_6 hC hW dX10_copy_144 ?_
      refine lv_bipush (v := 40) hx hb dX10_copy_147 (by decide) ?_
      refine lv_iload_n hx hb dX10_copy_149 rfl (lv_at hl 1 rfl) ?_
      refine lv_imul hx hb dX10_copy_150 ?_
      refine lv_iload hx hb dX10_copy_151 (lv_at hl 2 rfl) ?_
      refine lv_iadd hx hb dX10_copy_153 ?_
      refine lv_iload hx hb dX10_copy_154 (lv_at hl 4 rfl) ?_
      refine lv_iadd hx hb dX10_copy_156 ?_
      refine lv_aload_n hx hb dX10_copy_157 rfl (lv_at hl 0 rfl) ?_
      refine gY0_7 hC hW dX10_copy_158 ?_
      refine lv_iload hx hb dX10_copy_161 (lv_at hl 4 rfl) ?_
      obtain ⟨g35, h⟩ := gd_some h
      refine x_iald hC hW aY4 g35 dX10_copy_163 ?_
      obtain ⟨g36, h⟩ := gd_some h
      refine x_iast hC hW aY3 g36 dX10_copy_164 (fun H locs hW => ?_)
      obtain ⟨s37, e38, h⟩ := nx_some h
      rw [← e38] at hW
      refine lv_iinc (v := x6 + 1) (lv' := [(6, .int (x6 + 1)), (0, .ref (ad G 0)), (3, .int x3), (4, .int x4), (5, .int x5)]) (k := 4) hx hb dX10_copy_165 hl rfl rfl (by decide) rfl (fun ls hl => ?_)
      refine lv_goto (tgt := 136) hx hb dX10_copy_168 (by decide) ?_
      exact ih _ _ h _ _ _ hW (lv_sub hl [1, 2, 3, 4, 0] rfl)
def fY0_copy (N : Nat) (S : St) (x1 : Int32) (x2 : Int32) (x3 : Int32) (x4 : Int32) (x5 : Int32) : Option (Int32 × St) :=
  Option.bind (fYs_isRow S x1) fun t1 =>
  if t1 = 0 then
    some ((-1), S)
  else
    Option.bind (fYs_isRow S x3) fun t4 =>
    if t4 = 0 then
      some ((-1), S)
    else
      if 0 ≤ x5 then
        gd (inb x1 6) <|
        if (S.1 2 (Int32.toNatClampNeg x1)) < 0 then
          Option.bind (fY0_meets S 1) fun t10 =>
          some (t10.1, t10.2)
        else
          gd (inb x3 6) <|
          if 0 ≤ (S.1 2 (Int32.toNatClampNeg x3)) then
            if x2 < 0 then
              Option.bind (fY0_meets S 2) fun t15 =>
              some (t15.1, t15.2)
            else
              if x4 < 0 then
                Option.bind (fY0_meets S 2) fun t18 =>
                some (t18.1, t18.2)
              else
                gd (inb x1 6) <|
                if 0 < (lg_cmp ((Int32.toInt64 x2) + (Int32.toInt64 x5)) (Int32.toInt64 (S.1 2 (Int32.toNatClampNeg x1)))) then
                  Option.bind (fY0_meets S 2) fun t22 =>
                  some (t22.1, t22.2)
                else
                  gd (inb x3 6) <|
                  if (lg_cmp ((Int32.toInt64 x4) + (Int32.toInt64 x5)) (Int32.toInt64 (S.1 2 (Int32.toNatClampNeg x3)))) ≤ 0 then
                    Option.bind (fY0_copy_L104 N x1 x2 x3 x4 x5 N S 0) fun t32 =>
                    Option.bind (fY0_copy_L136 N x3 x4 x5 N t32 0) fun t39 =>
                    some (1, t39)
                  else
                    Option.bind (fY0_meets S 2) fun t41 =>
                    some (t41.1, t41.2)
          else
            Option.bind (fY0_meets S 1) fun t43 =>
            some (t43.1, t43.2)
      else
        Option.bind (fY0_meets S 5) fun t45 =>
        some (t45.1, t45.2)
set_option maxHeartbeats 4000000 in
set_option maxRecDepth 100000 in
theorem wY0_copy {N : Nat} {S : St} {x1 : Int32} {x2 : Int32} {x3 : Int32} {x4 : Int32} {x5 : Int32} (hC : CallFix p m c cX10_copy 7 s args lw_g RX10) (hF : 2 ≤ R.frames) (hL : 42 ≤ R.locals)  {v : Int32} {S' : St} (h : fY0_copy N S x1 x2 x3 x4 x5 = some (v, S')) (kr : ∀ (H : Heap) (locs : List Loc) (ls : Array Slot) (pc : Nat), decode cX10_copy pc = .ok (.ireturn, 1) → wg LY G (S') s H locs → W p l e R s m args below meth c H locs 0 0 Q (F0 m pc ls [.int v])) : ∀ (H : Heap) (locs : List Loc) (ls : Array Slot), wg LY G S s H locs → lv_has ls 7 [(0, .ref (ad G 0)), (1, .int x1), (2, .int x2), (3, .int x3), (4, .int x4), (5, .int x5)] → W p l e R s m args below meth c H locs 0 0 Q (F0 m 0 ls []) := by
  have hx := hC.1
  have hb := hC.2.1
  intro H locs ls hW hl
  unfold fY0_copy at h
  refine lv_iload_n hx hb dX10_copy_0 rfl (lv_at hl 1 rfl) ?_
  obtain ⟨t1, e2, h⟩ := bd h
  refine x_goi (x_rs (rest := []) hC hW (ctYs_isRow e2) (cwS_g hC.2.2.2.2 ml_X10_107 ms_X10_isRow md_X10_isRow ⟨(Nat.le_trans (Nat.le_of_ble_eq_true rfl) hF), (Nat.le_trans (Nat.le_of_ble_eq_true rfl) hL)⟩) rfl hl.1 rfl (Nat.le_of_ble_eq_true rfl) dX10_copy_1) hW (fun H locs hW => ?_)
  refine lv_if_eq (tgt := 14) hx hb dX10_copy_4 (by decide) (fun q3 => ?_) (fun q3 => ?_)
  · have h := it_p q3 h
    refine lv_iconst (v := (-1)) hx hb dX10_copy_14 (by decide) ?_
    cases h
    exact kr _ _ _ _ dX10_copy_15 hW
  · have h := it_n q3 h
    refine lv_iload_n hx hb dX10_copy_7 rfl (lv_at hl 3 rfl) ?_
    obtain ⟨t4, e5, h⟩ := bd h
    refine x_goi (x_rs (rest := []) hC hW (ctYs_isRow e5) (cwS_g hC.2.2.2.2 ml_X10_107 ms_X10_isRow md_X10_isRow ⟨(Nat.le_trans (Nat.le_of_ble_eq_true rfl) hF), (Nat.le_trans (Nat.le_of_ble_eq_true rfl) hL)⟩) rfl hl.1 rfl (Nat.le_of_ble_eq_true rfl) dX10_copy_8) hW (fun H locs hW => ?_)
    refine lv_if_ne (tgt := 16) hx hb dX10_copy_11 (by decide) (fun q6 => ?_) (fun q6 => ?_)
    · have h := it_n q6 h
      refine lv_iload hx hb dX10_copy_16 (lv_at hl 5 rfl) ?_
      refine lv_if_ge (tgt := 27) hx hb dX10_copy_18 (by decide) (fun q7 => ?_) (fun q7 => ?_)
      · have h := it_p q7 h
        refine lv_aload_n hx hb dX10_copy_27 rfl (lv_at hl 0 rfl) ?_
        refine gY0_5 hC hW dX10_copy_28 ?_
        refine lv_iload_n hx hb dX10_copy_31 rfl (lv_at hl 1 rfl) ?_
        obtain ⟨g8, h⟩ := gd_some h
        refine x_iald hC hW aY2 g8 dX10_copy_32 ?_
        refine lv_if_lt (tgt := 45) hx hb dX10_copy_33 (by decide) (fun q9 => ?_) (fun q9 => ?_)
        · have h := it_p q9 h
          refine lv_aload_n hx hb dX10_copy_45 rfl (lv_at hl 0 rfl) ?_
          refine lv_iconst (v := 1) hx hb dX10_copy_46 (by decide) ?_
          obtain ⟨t10, e11, h⟩ := bd h
          refine x_goi (x_rv (rest := []) hC hW (ctY0_meets e11) (cwV_g hC.2.2.2.2 ml_X10_111 mi_X10_meets md_X10_meets ⟨(Nat.le_trans (Nat.le_of_ble_eq_true rfl) hF), (Nat.le_trans (Nat.le_of_ble_eq_true rfl) hL)⟩) (rcY0 hW) rfl hl.1 rfl (Nat.le_of_ble_eq_true rfl) dX10_copy_47) hW (fun H locs hW => ?_)
          cases h
          exact kr _ _ _ _ dX10_copy_50 hW
        · have h := it_n q9 h
          refine lv_aload_n hx hb dX10_copy_36 rfl (lv_at hl 0 rfl) ?_
          refine gY0_5 hC hW dX10_copy_37 ?_
          refine lv_iload_n hx hb dX10_copy_40 rfl (lv_at hl 3 rfl) ?_
          obtain ⟨g12, h⟩ := gd_some h
          refine x_iald hC hW aY2 g12 dX10_copy_41 ?_
          refine lv_if_ge (tgt := 51) hx hb dX10_copy_42 (by decide) (fun q13 => ?_) (fun q13 => ?_)
          · have h := it_p q13 h
            refine lv_iload_n hx hb dX10_copy_51 rfl (lv_at hl 2 rfl) ?_
            refine lv_if_lt (tgt := 95) hx hb dX10_copy_52 (by decide) (fun q14 => ?_) (fun q14 => ?_)
            · have h := it_p q14 h
              refine lv_aload_n hx hb dX10_copy_95 rfl (lv_at hl 0 rfl) ?_
              refine lv_iconst (v := 2) hx hb dX10_copy_96 (by decide) ?_
              obtain ⟨t15, e16, h⟩ := bd h
              refine x_goi (x_rv (rest := []) hC hW (ctY0_meets e16) (cwV_g hC.2.2.2.2 ml_X10_111 mi_X10_meets md_X10_meets ⟨(Nat.le_trans (Nat.le_of_ble_eq_true rfl) hF), (Nat.le_trans (Nat.le_of_ble_eq_true rfl) hL)⟩) (rcY0 hW) rfl hl.1 rfl (Nat.le_of_ble_eq_true rfl) dX10_copy_97) hW (fun H locs hW => ?_)
              cases h
              exact kr _ _ _ _ dX10_copy_100 hW
            · have h := it_n q14 h
              refine lv_iload hx hb dX10_copy_55 (lv_at hl 4 rfl) ?_
              refine lv_if_lt (tgt := 95) hx hb dX10_copy_57 (by decide) (fun q17 => ?_) (fun q17 => ?_)
              · have h := it_p q17 h
                refine lv_aload_n hx hb dX10_copy_95 rfl (lv_at hl 0 rfl) ?_
                refine lv_iconst (v := 2) hx hb dX10_copy_96 (by decide) ?_
                obtain ⟨t18, e19, h⟩ := bd h
                refine x_goi (x_rv (rest := []) hC hW (ctY0_meets e19) (cwV_g hC.2.2.2.2 ml_X10_111 mi_X10_meets md_X10_meets ⟨(Nat.le_trans (Nat.le_of_ble_eq_true rfl) hF), (Nat.le_trans (Nat.le_of_ble_eq_true rfl) hL)⟩) (rcY0 hW) rfl hl.1 rfl (Nat.le_of_ble_eq_true rfl) dX10_copy_97) hW (fun H locs hW => ?_)
                cases h
                exact kr _ _ _ _ dX10_copy_100 hW
              · have h := it_n q17 h
                refine lv_iload_n hx hb dX10_copy_60 rfl (lv_at hl 2 rfl) ?_
                refine lv_i2l (v := Int32.toInt64 x2) hx hb dX10_copy_61 rfl ?_
                refine lv_iload hx hb dX10_copy_62 (lv_at hl 5 rfl) ?_
                refine lv_i2l (v := Int32.toInt64 x5) hx hb dX10_copy_64 rfl ?_
                refine lv_ladd hx hb dX10_copy_65 ?_
                refine lv_aload_n hx hb dX10_copy_66 rfl (lv_at hl 0 rfl) ?_
                refine gY0_5 hC hW dX10_copy_67 ?_
                refine lv_iload_n hx hb dX10_copy_70 rfl (lv_at hl 1 rfl) ?_
                obtain ⟨g20, h⟩ := gd_some h
                refine x_iald hC hW aY2 g20 dX10_copy_71 ?_
                refine lv_i2l (v := Int32.toInt64 (S.1 2 (Int32.toNatClampNeg x1))) hx hb dX10_copy_72 rfl ?_
                refine W.lcmp hx hb dX10_copy_73 ?_
                refine lv_if_gt (tgt := 95) hx hb dX10_copy_74 (by decide) (fun q21 => ?_) (fun q21 => ?_)
                · have h := it_p q21 h
                  refine lv_aload_n hx hb dX10_copy_95 rfl (lv_at hl 0 rfl) ?_
                  refine lv_iconst (v := 2) hx hb dX10_copy_96 (by decide) ?_
                  obtain ⟨t22, e23, h⟩ := bd h
                  refine x_goi (x_rv (rest := []) hC hW (ctY0_meets e23) (cwV_g hC.2.2.2.2 ml_X10_111 mi_X10_meets md_X10_meets ⟨(Nat.le_trans (Nat.le_of_ble_eq_true rfl) hF), (Nat.le_trans (Nat.le_of_ble_eq_true rfl) hL)⟩) (rcY0 hW) rfl hl.1 rfl (Nat.le_of_ble_eq_true rfl) dX10_copy_97) hW (fun H locs hW => ?_)
                  cases h
                  exact kr _ _ _ _ dX10_copy_100 hW
                · have h := it_n q21 h
                  refine lv_iload hx hb dX10_copy_77 (lv_at hl 4 rfl) ?_
                  refine lv_i2l (v := Int32.toInt64 x4) hx hb dX10_copy_79 rfl ?_
                  refine lv_iload hx hb dX10_copy_80 (lv_at hl 5 rfl) ?_
                  refine lv_i2l (v := Int32.toInt64 x5) hx hb dX10_copy_82 rfl ?_
                  refine lv_ladd hx hb dX10_copy_83 ?_
                  refine lv_aload_n hx hb dX10_copy_84 rfl (lv_at hl 0 rfl) ?_
                  refine gY0_5 hC hW dX10_copy_85 ?_
                  refine lv_iload_n hx hb dX10_copy_88 rfl (lv_at hl 3 rfl) ?_
                  obtain ⟨g24, h⟩ := gd_some h
                  refine x_iald hC hW aY2 g24 dX10_copy_89 ?_
                  refine lv_i2l (v := Int32.toInt64 (S.1 2 (Int32.toNatClampNeg x3))) hx hb dX10_copy_90 rfl ?_
                  refine W.lcmp hx hb dX10_copy_91 ?_
                  refine lv_if_le (tgt := 101) hx hb dX10_copy_92 (by decide) (fun q25 => ?_) (fun q25 => ?_)
                  · have h := it_p q25 h
                    refine lv_iconst (v := 0) hx hb dX10_copy_101 (by decide) ?_
                    refine lv_istore (lv' := [(6, .int 0), (0, .ref (ad G 0)), (1, .int x1), (2, .int x2), (3, .int x3), (4, .int x4), (5, .int x5)]) hx hb dX10_copy_102 hl (by decide) rfl (fun ls hl => ?_)
                    obtain ⟨t32, e33, h⟩ := bd h
                    refine wY0_copy_L104 hC hF hL  (fun H locs ls hW hl => ?_) _ _ _ e33 _ _ _ hW (lv_sub hl [1, 2, 3, 4, 5, 6, 0] rfl)
                    refine lv_iconst (v := 0) hx hb dX10_copy_133 (by decide) ?_
                    refine lv_istore (lv' := [(6, .int 0), (0, .ref (ad G 0)), (3, .int x3), (4, .int x4), (5, .int x5)]) hx hb dX10_copy_134 hl (by decide) rfl (fun ls hl => ?_)
                    obtain ⟨t39, e40, h⟩ := bd h
                    refine wY0_copy_L136 hC hF hL  (fun H locs ls hW hl => ?_) _ _ _ e40 _ _ _ hW (lv_sub hl [1, 2, 3, 4, 0] rfl)
                    refine lv_iconst (v := 1) hx hb dX10_copy_171 (by decide) ?_
                    cases h
                    exact kr _ _ _ _ dX10_copy_172 hW
                  · have h := it_n q25 h
                    refine lv_aload_n hx hb dX10_copy_95 rfl (lv_at hl 0 rfl) ?_
                    refine lv_iconst (v := 2) hx hb dX10_copy_96 (by decide) ?_
                    obtain ⟨t41, e42, h⟩ := bd h
                    refine x_goi (x_rv (rest := []) hC hW (ctY0_meets e42) (cwV_g hC.2.2.2.2 ml_X10_111 mi_X10_meets md_X10_meets ⟨(Nat.le_trans (Nat.le_of_ble_eq_true rfl) hF), (Nat.le_trans (Nat.le_of_ble_eq_true rfl) hL)⟩) (rcY0 hW) rfl hl.1 rfl (Nat.le_of_ble_eq_true rfl) dX10_copy_97) hW (fun H locs hW => ?_)
                    cases h
                    exact kr _ _ _ _ dX10_copy_100 hW
          · have h := it_n q13 h
            refine lv_aload_n hx hb dX10_copy_45 rfl (lv_at hl 0 rfl) ?_
            refine lv_iconst (v := 1) hx hb dX10_copy_46 (by decide) ?_
            obtain ⟨t43, e44, h⟩ := bd h
            refine x_goi (x_rv (rest := []) hC hW (ctY0_meets e44) (cwV_g hC.2.2.2.2 ml_X10_111 mi_X10_meets md_X10_meets ⟨(Nat.le_trans (Nat.le_of_ble_eq_true rfl) hF), (Nat.le_trans (Nat.le_of_ble_eq_true rfl) hL)⟩) (rcY0 hW) rfl hl.1 rfl (Nat.le_of_ble_eq_true rfl) dX10_copy_47) hW (fun H locs hW => ?_)
            cases h
            exact kr _ _ _ _ dX10_copy_50 hW
      · have h := it_n q7 h
        refine lv_aload_n hx hb dX10_copy_21 rfl (lv_at hl 0 rfl) ?_
        refine lv_iconst (v := 5) hx hb dX10_copy_22 (by decide) ?_
        obtain ⟨t45, e46, h⟩ := bd h
        refine x_goi (x_rv (rest := []) hC hW (ctY0_meets e46) (cwV_g hC.2.2.2.2 ml_X10_111 mi_X10_meets md_X10_meets ⟨(Nat.le_trans (Nat.le_of_ble_eq_true rfl) hF), (Nat.le_trans (Nat.le_of_ble_eq_true rfl) hL)⟩) (rcY0 hW) rfl hl.1 rfl (Nat.le_of_ble_eq_true rfl) dX10_copy_23) hW (fun H locs hW => ?_)
        cases h
        exact kr _ _ _ _ dX10_copy_26 hW
    · have h := it_p q6 h
      refine lv_iconst (v := (-1)) hx hb dX10_copy_14 (by decide) ?_
      cases h
      exact kr _ _ _ _ dX10_copy_15 hW
theorem ctY0_copy {N : Nat} {S : St} {x1 : Int32} {x2 : Int32} {x3 : Int32} {x4 : Int32} {x5 : Int32}  {v : Int32} {S' : St} (h : fY0_copy N S x1 x2 x3 x4 x5 = some (v, S')) : Met l yX10_copy (wm yX10_copy cX10_copy 7 (some .int)) (rmx 2 42) (pcm LY G S [.ref (ad G 0), .int x1, .int x2, .int x3, .int x4, .int x5]) (qcI LY G S' v) 0 0 G.2.2.2 :=
  x_enter (own := RX10) rfl rfl (Nat.le_of_ble_eq_true rfl) (fun p e s m below meth c ls hC hr hk hW hl => wY0_copy hC (Nat.le_refl _) (Nat.le_refl _)  h (fun H locs ls pc hd hW => x_reti hC hr hk hW hd) _ _ _ hW hl)
def fY0_mean_L17 (N : Nat) (S : St) (x1 : Int32) : Nat → Int64 → Int32 → Option (Int64)
  | 0, _, _ => none
  | n + 1, l3, x5 =>
    gd (inb x1 6) <|
    if (S.1 2 (Int32.toNatClampNeg x1)) ≤ x5 then
      some l3
    else
      Option.bind (fY0_rowAt S x1 x5) fun t6 =>
      nx (l3 + (Int32.toInt64 t6)) fun y8 =>
      fY0_mean_L17 N S x1 n y8 (x5 + 1)
set_option maxHeartbeats 4000000 in
set_option maxRecDepth 100000 in
theorem wY0_mean_L17 {N : Nat} {S : St} {x1 : Int32} (hC : CallFix p m c cX10_mean 6 s args lw_g RX10) (hF : 3 ≤ R.frames) (hL : 63 ≤ R.locals)  {t : Int64} (kx : ∀ (H : Heap) (locs : List Loc) (ls : Array Slot), wg LY G S s H locs → lv_has ls 6 [(0, .ref (ad G 0)), (1, .int x1), (3, .long t)] → W p l e R s m args below meth c H locs 0 0 Q (F0 m 45 ls [])) : ∀ (n : Nat) (l3 : Int64) (x5 : Int32), fY0_mean_L17 N S x1 n l3 x5 = some t → ∀ (H : Heap) (locs : List Loc) (ls : Array Slot), wg LY G S s H locs → lv_has ls 6 [(0, .ref (ad G 0)), (1, .int x1), (3, .long l3), (5, .int x5)] → W p l e R s m args below meth c H locs 0 0 Q (F0 m 17 ls []) := by
  have hx := hC.1
  have hb := hC.2.1
  intro n
  induction n with
  | zero =>
    intro _ _ h
    cases h
  | succ n ih =>
    intro l3 x5 h H locs ls hW hl
    rw [fY0_mean_L17] at h
    refine lv_iload hx hb dX10_mean_17 (lv_at hl 3 rfl) ?_
    refine lv_aload_n hx hb dX10_mean_19 rfl (lv_at hl 0 rfl) ?_
    refine gY0_5 hC hW dX10_mean_20 ?_
    refine lv_iload_n hx hb dX10_mean_23 rfl (lv_at hl 1 rfl) ?_
    obtain ⟨g4, h⟩ := gd_some h
    refine x_iald hC hW aY2 g4 dX10_mean_24 ?_
    refine lv_icmp_ge (tgt := 45) hx hb dX10_mean_25 (by decide) (fun q5 => ?_) (fun q5 => ?_)
    · have h := it_p q5 h
      cases h
      exact kx _ _ _ hW (lv_sub hl [0, 1, 2] rfl)
    · have h := it_n q5 h
      refine lv_lload_n hx hb dX10_mean_28 rfl (lv_at hl 2 rfl) ?_
      refine lv_aload_n hx hb dX10_mean_29 rfl (lv_at hl 0 rfl) ?_
      refine lv_iload_n hx hb dX10_mean_30 rfl (lv_at hl 1 rfl) ?_
      refine lv_iload hx hb dX10_mean_31 (lv_at hl 3 rfl) ?_
      obtain ⟨t6, e7, h⟩ := bd h
      refine x_goi (x_rv (rest := [.long l3]) hC hW (ctY0_rowAt e7) (cwV_g hC.2.2.2.2 ml_X10_121 mi_X10_rowAt md_X10_rowAt ⟨(Nat.le_trans (Nat.le_of_ble_eq_true rfl) hF), (Nat.le_trans (Nat.le_of_ble_eq_true rfl) hL)⟩) (rcY0 hW) rfl hl.1 rfl (Nat.le_of_ble_eq_true rfl) dX10_mean_33) hW (fun H locs hW => ?_)
      refine lv_i2l (v := Int32.toInt64 t6) hx hb dX10_mean_36 rfl ?_
      refine lv_ladd hx hb dX10_mean_37 ?_
      obtain ⟨y8, e9, h⟩ := nx_some h
      refine x_topl e9 ?_
      refine lv_lstore_n (lv' := [(3, .long y8), (0, .ref (ad G 0)), (1, .int x1), (5, .int x5)]) hx hb dX10_mean_38 rfl hl (by decide) rfl (fun ls hl => ?_)
      refine lv_iinc (v := x5 + 1) (lv' := [(5, .int (x5 + 1)), (3, .long y8), (0, .ref (ad G 0)), (1, .int x1)]) (k := 3) hx hb dX10_mean_39 hl rfl rfl (by decide) rfl (fun ls hl => ?_)
      refine lv_goto (tgt := 17) hx hb dX10_mean_42 (by decide) ?_
      exact ih _ _ h _ _ _ hW (lv_sub hl [2, 3, 1, 0] rfl)
def fY0_mean (N : Nat) (S : St) (x1 : Int32) : Option (Int32 × St) :=
  Option.bind (fY0_askedRow S x1) fun t1 =>
  if 0 ≤ t1.1 then
    Option.bind (fY0_mean_L17 N t1.2 x1 N 0 0) fun t10 =>
    gd (inb x1 6) <|
    Option.bind (α := St × Int32) (
      if (t1.2.1 2 (Int32.toNatClampNeg x1)) = 0 then
        Option.bind (fY0_meets t1.2 4) fun t21 =>
        some (t21.2, t21.1)
      else
        gd (inb x1 6) <|
        gd (!decide ((Int32.toInt64 (t1.2.1 2 (Int32.toNatClampNeg x1))) = 0)) <|
        Option.bind (fY0_ask t1.2 (Int64.toInt32 (t10 / (Int32.toInt64 (t1.2.1 2 (Int32.toNatClampNeg x1))))) 1) fun t19 =>
        some (t19.2, t19.1)
    ) fun t14 =>
    some (t14.2, t14.1)
  else
    some (t1.1, t1.2)
set_option maxHeartbeats 4000000 in
set_option maxRecDepth 100000 in
theorem wY0_mean {N : Nat} {S : St} {x1 : Int32} (hC : CallFix p m c cX10_mean 6 s args lw_g RX10) (hF : 3 ≤ R.frames) (hL : 63 ≤ R.locals)  {v : Int32} {S' : St} (h : fY0_mean N S x1 = some (v, S')) (kr : ∀ (H : Heap) (locs : List Loc) (ls : Array Slot) (pc : Nat), decode cX10_mean pc = .ok (.ireturn, 1) → wg LY G (S') s H locs → W p l e R s m args below meth c H locs 0 0 Q (F0 m pc ls [.int v])) : ∀ (H : Heap) (locs : List Loc) (ls : Array Slot), wg LY G S s H locs → lv_has ls 6 [(0, .ref (ad G 0)), (1, .int x1)] → W p l e R s m args below meth c H locs 0 0 Q (F0 m 0 ls []) := by
  have hx := hC.1
  have hb := hC.2.1
  intro H locs ls hW hl
  unfold fY0_mean at h
  refine lv_aload_n hx hb dX10_mean_0 rfl (lv_at hl 0 rfl) ?_
  refine lv_iload_n hx hb dX10_mean_1 rfl (lv_at hl 1 rfl) ?_
  obtain ⟨t1, e2, h⟩ := bd h
  refine x_goi (x_rv (rest := []) hC hW (ctY0_askedRow e2) (cwV_g hC.2.2.2.2 ml_X10_118 mi_X10_askedRow md_X10_askedRow ⟨(Nat.le_trans (Nat.le_of_ble_eq_true rfl) hF), (Nat.le_trans (Nat.le_of_ble_eq_true rfl) hL)⟩) (rcY0 hW) rfl hl.1 rfl (Nat.le_of_ble_eq_true rfl) dX10_mean_2) hW (fun H locs hW => ?_)
  refine lv_istore_n (lv' := [(2, .int t1.1), (0, .ref (ad G 0)), (1, .int x1)]) hx hb dX10_mean_5 rfl hl (by decide) rfl (fun ls hl => ?_)
  refine lv_iload_n hx hb dX10_mean_6 rfl (lv_at hl 0 rfl) ?_
  refine lv_if_ge (tgt := 12) hx hb dX10_mean_7 (by decide) (fun q3 => ?_) (fun q3 => ?_)
  · have h := it_p q3 h
    refine lv_lconst (v := 0) hx hb dX10_mean_12 rfl ?_
    refine lv_lstore_n (lv' := [(3, .long 0), (2, .int t1.1), (0, .ref (ad G 0)), (1, .int x1)]) hx hb dX10_mean_13 rfl hl (by decide) rfl (fun ls hl => ?_)
    refine lv_iconst (v := 0) hx hb dX10_mean_14 (by decide) ?_
    refine lv_istore (lv' := [(5, .int 0), (3, .long 0), (2, .int t1.1), (0, .ref (ad G 0)), (1, .int x1)]) hx hb dX10_mean_15 hl (by decide) rfl (fun ls hl => ?_)
    obtain ⟨t10, e11, h⟩ := bd h
    refine wY0_mean_L17 hC hF hL  (fun H locs ls hW hl => ?_) _ _ _ e11 _ _ _ hW (lv_sub hl [3, 4, 1, 0] rfl)
    refine lv_aload_n hx hb dX10_mean_45 rfl (lv_at hl 0 rfl) ?_
    refine gY0_5 hC hW dX10_mean_46 ?_
    refine lv_iload_n hx hb dX10_mean_49 rfl (lv_at hl 1 rfl) ?_
    obtain ⟨g12, h⟩ := gd_some h
    refine x_iald hC hW aY2 g12 dX10_mean_50 ?_
    obtain ⟨t14, e15, h⟩ := bd h
    have K13 : ∀ (H : Heap) (locs : List Loc) (ls : Array Slot), wg LY G t14.1 s H locs → lv_has ls 6 [] → W p l e R s m args below meth c H locs 0 0 Q (F0 m 77 ls [.int t14.2]) := by
      intro H locs ls hW hl
      cases h
      exact kr _ _ _ _ dX10_mean_77 hW
    clear h
    have h := e15
    clear e15
    refine lv_if_ne (tgt := 62) hx hb dX10_mean_51 (by decide) (fun q16 => ?_) (fun q16 => ?_)
    · have h := it_n q16 h
      refine lv_aload_n hx hb dX10_mean_62 rfl (lv_at hl 0 rfl) ?_
      refine lv_lload_n hx hb dX10_mean_63 rfl (lv_at hl 2 rfl) ?_
      refine lv_aload_n hx hb dX10_mean_64 rfl (lv_at hl 0 rfl) ?_
      refine gY0_5 hC hW dX10_mean_65 ?_
      refine lv_iload_n hx hb dX10_mean_68 rfl (lv_at hl 1 rfl) ?_
      obtain ⟨g17, h⟩ := gd_some h
      refine x_iald hC hW aY2 g17 dX10_mean_69 ?_
      refine lv_i2l (v := Int32.toInt64 (t1.2.1 2 (Int32.toNatClampNeg x1))) hx hb dX10_mean_70 rfl ?_
      obtain ⟨g18, h⟩ := gd_some h
      refine lv_ldiv hx hb dX10_mean_71 (nd0L g18) ?_
      refine lv_l2i (v := Int64.toInt32 (t10 / (Int32.toInt64 (t1.2.1 2 (Int32.toNatClampNeg x1))))) hx hb dX10_mean_72 rfl ?_
      refine lv_iconst (v := 1) hx hb dX10_mean_73 (by decide) ?_
      obtain ⟨t19, e20, h⟩ := bd h
      refine x_goi (x_rv (rest := []) hC hW (ctY0_ask e20) (cwV_g hC.2.2.2.2 ml_X10_125 mi_X10_ask md_X10_ask ⟨(Nat.le_trans (Nat.le_of_ble_eq_true rfl) hF), (Nat.le_trans (Nat.le_of_ble_eq_true rfl) hL)⟩) (rcY0 hW) rfl hl.1 rfl (Nat.le_of_ble_eq_true rfl) dX10_mean_74) hW (fun H locs hW => ?_)
      cases h
      exact K13 _ _ _ hW (lv_sub hl [] rfl)
    · have h := it_p q16 h
      refine lv_aload_n hx hb dX10_mean_54 rfl (lv_at hl 0 rfl) ?_
      refine lv_iconst (v := 4) hx hb dX10_mean_55 (by decide) ?_
      obtain ⟨t21, e22, h⟩ := bd h
      refine x_goi (x_rv (rest := []) hC hW (ctY0_meets e22) (cwV_g hC.2.2.2.2 ml_X10_111 mi_X10_meets md_X10_meets ⟨(Nat.le_trans (Nat.le_of_ble_eq_true rfl) hF), (Nat.le_trans (Nat.le_of_ble_eq_true rfl) hL)⟩) (rcY0 hW) rfl hl.1 rfl (Nat.le_of_ble_eq_true rfl) dX10_mean_56) hW (fun H locs hW => ?_)
      refine lv_goto (tgt := 77) hx hb dX10_mean_59 (by decide) ?_
      cases h
      exact K13 _ _ _ hW (lv_sub hl [] rfl)
  · have h := it_n q3 h
    refine lv_iload_n hx hb dX10_mean_10 rfl (lv_at hl 0 rfl) ?_
    cases h
    exact kr _ _ _ _ dX10_mean_11 hW
theorem ctY0_mean {N : Nat} {S : St} {x1 : Int32}  {v : Int32} {S' : St} (h : fY0_mean N S x1 = some (v, S')) : Met l yX10_mean (wm yX10_mean cX10_mean 6 (some .int)) (rmx 3 63) (pcm LY G S [.ref (ad G 0), .int x1]) (qcI LY G S' v) 0 0 G.2.2.2 :=
  x_enter (own := RX10) rfl rfl (Nat.le_of_ble_eq_true rfl) (fun p e s m below meth c ls hC hr hk hW hl => wY0_mean hC (Nat.le_refl _) (Nat.le_refl _)  h (fun H locs ls pc hd hW => x_reti hC hr hk hW hd) _ _ _ hW hl)
def fY0_text_L34 (N : Nat) (x1 : Int32) (x2 : Int32) : Nat → St → Int32 → Option (St)
  | 0, _, _ => none
  | n + 1, S, x3 =>
    if 60 ≤ x3 then
      some S
    else
      gd (inb ((60 * x1) + x3) 240) <|
      nx (p1 S 6 (Int32.toNatClampNeg ((60 * x1) + x3)) 32) fun s11 =>
      fY0_text_L34 N x1 x2 n s11 (x3 + 1)
set_option maxHeartbeats 4000000 in
set_option maxRecDepth 100000 in
theorem wY0_text_L34 {N : Nat} {x1 : Int32} {x2 : Int32} (hC : CallFix p m c cX10_text 4 s args lw_g RX10) (hF : 2 ≤ R.frames) (hL : 42 ≤ R.locals)  {t : St} (kx : ∀ (H : Heap) (locs : List Loc) (ls : Array Slot), wg LY G t s H locs → lv_has ls 4 [(2, .int x2)] → W p l e R s m args below meth c H locs 0 0 Q (F0 m 59 ls [])) : ∀ (n : Nat) (S : St) (x3 : Int32), fY0_text_L34 N x1 x2 n S x3 = some t → ∀ (H : Heap) (locs : List Loc) (ls : Array Slot), wg LY G S s H locs → lv_has ls 4 [(0, .ref (ad G 0)), (1, .int x1), (2, .int x2), (3, .int x3)] → W p l e R s m args below meth c H locs 0 0 Q (F0 m 34 ls []) := by
  have hx := hC.1
  have hb := hC.2.1
  intro n
  induction n with
  | zero =>
    intro _ _ h
    cases h
  | succ n ih =>
    intro S x3 h H locs ls hW hl
    rw [fY0_text_L34] at h
    refine lv_iload_n hx hb dX10_text_34 rfl (lv_at hl 3 rfl) ?_
    refine lv_bipush (v := 60) hx hb dX10_text_35 (by decide) ?_
    refine lv_icmp_ge (tgt := 59) hx hb dX10_text_37 (by decide) (fun q9 => ?_) (fun q9 => ?_)
    · have h := it_p q9 h
      cases h
      exact kx _ _ _ hW (lv_sub hl [2] rfl)
    · have h := it_n q9 h
      refine lv_aload_n hx hb dX10_text_40 rfl (lv_at hl 0 rfl) ?_
      refine gY0_9 hC hW dX10_text_41 ?_
      refine lv_bipush (v := 60) hx hb dX10_text_44 (by decide) ?_
      refine lv_iload_n hx hb dX10_text_46 rfl (lv_at hl 1 rfl) ?_
      refine lv_imul hx hb dX10_text_47 ?_
      refine lv_iload_n hx hb dX10_text_48 rfl (lv_at hl 3 rfl) ?_
      refine lv_iadd hx hb dX10_text_49 ?_
      refine lv_bipush (v := 32) hx hb dX10_text_50 (by decide) ?_
      obtain ⟨g10, h⟩ := gd_some h
      refine x_iast hC hW aY6 g10 dX10_text_52 (fun H locs hW => ?_)
      obtain ⟨s11, e12, h⟩ := nx_some h
      rw [← e12] at hW
      refine lv_iinc (v := x3 + 1) (lv' := [(3, .int (x3 + 1)), (0, .ref (ad G 0)), (1, .int x1), (2, .int x2)]) (k := 3) hx hb dX10_text_53 hl rfl rfl (by decide) rfl (fun ls hl => ?_)
      refine lv_goto (tgt := 34) hx hb dX10_text_56 (by decide) ?_
      exact ih _ _ h _ _ _ hW (lv_sub hl [1, 2, 3, 0] rfl)
def fY0_text (N : Nat) (S : St) (x1 : Int32) (x2 : Int32) : Option (Int32 × St) :=
  Option.bind (fYs_isText S x1) fun t1 =>
  if t1 = 0 then
    some ((-1), S)
  else
    if x2 ≤ 60 then
      if 0 ≤ x2 then
        gd (inb x1 4) <|
        nx (p1 S 5 (Int32.toNatClampNeg x1) x2) fun s7 =>
        Option.bind (fY0_text_L34 N x1 x2 N s7 0) fun t13 =>
        some (x2, t13)
      else
        Option.bind (fY0_meets S 5) fun t15 =>
        some (t15.1, t15.2)
    else
      some ((-1), S)
set_option maxHeartbeats 4000000 in
set_option maxRecDepth 100000 in
theorem wY0_text {N : Nat} {S : St} {x1 : Int32} {x2 : Int32} (hC : CallFix p m c cX10_text 4 s args lw_g RX10) (hF : 2 ≤ R.frames) (hL : 42 ≤ R.locals)  {v : Int32} {S' : St} (h : fY0_text N S x1 x2 = some (v, S')) (kr : ∀ (H : Heap) (locs : List Loc) (ls : Array Slot) (pc : Nat), decode cX10_text pc = .ok (.ireturn, 1) → wg LY G (S') s H locs → W p l e R s m args below meth c H locs 0 0 Q (F0 m pc ls [.int v])) : ∀ (H : Heap) (locs : List Loc) (ls : Array Slot), wg LY G S s H locs → lv_has ls 4 [(0, .ref (ad G 0)), (1, .int x1), (2, .int x2)] → W p l e R s m args below meth c H locs 0 0 Q (F0 m 0 ls []) := by
  have hx := hC.1
  have hb := hC.2.1
  intro H locs ls hW hl
  unfold fY0_text at h
  refine lv_iload_n hx hb dX10_text_0 rfl (lv_at hl 1 rfl) ?_
  obtain ⟨t1, e2, h⟩ := bd h
  refine x_goi (x_rs (rest := []) hC hW (ctYs_isText e2) (cwS_g hC.2.2.2.2 ml_X10_115 ms_X10_isText md_X10_isText ⟨(Nat.le_trans (Nat.le_of_ble_eq_true rfl) hF), (Nat.le_trans (Nat.le_of_ble_eq_true rfl) hL)⟩) rfl hl.1 rfl (Nat.le_of_ble_eq_true rfl) dX10_text_1) hW (fun H locs hW => ?_)
  refine lv_if_eq (tgt := 13) hx hb dX10_text_4 (by decide) (fun q3 => ?_) (fun q3 => ?_)
  · have h := it_p q3 h
    refine lv_iconst (v := (-1)) hx hb dX10_text_13 (by decide) ?_
    cases h
    exact kr _ _ _ _ dX10_text_14 hW
  · have h := it_n q3 h
    refine lv_iload_n hx hb dX10_text_7 rfl (lv_at hl 2 rfl) ?_
    refine lv_bipush (v := 60) hx hb dX10_text_8 (by decide) ?_
    refine lv_icmp_le (tgt := 15) hx hb dX10_text_10 (by decide) (fun q4 => ?_) (fun q4 => ?_)
    · have h := it_p q4 h
      refine lv_iload_n hx hb dX10_text_15 rfl (lv_at hl 2 rfl) ?_
      refine lv_if_ge (tgt := 25) hx hb dX10_text_16 (by decide) (fun q5 => ?_) (fun q5 => ?_)
      · have h := it_p q5 h
        refine lv_aload_n hx hb dX10_text_25 rfl (lv_at hl 0 rfl) ?_
        refine gY0_8 hC hW dX10_text_26 ?_
        refine lv_iload_n hx hb dX10_text_29 rfl (lv_at hl 1 rfl) ?_
        refine lv_iload_n hx hb dX10_text_30 rfl (lv_at hl 2 rfl) ?_
        obtain ⟨g6, h⟩ := gd_some h
        refine x_iast hC hW aY5 g6 dX10_text_31 (fun H locs hW => ?_)
        obtain ⟨s7, e8, h⟩ := nx_some h
        rw [← e8] at hW
        refine lv_iconst (v := 0) hx hb dX10_text_32 (by decide) ?_
        refine lv_istore_n (lv' := [(3, .int 0), (0, .ref (ad G 0)), (1, .int x1), (2, .int x2)]) hx hb dX10_text_33 rfl hl (by decide) rfl (fun ls hl => ?_)
        obtain ⟨t13, e14, h⟩ := bd h
        refine wY0_text_L34 hC hF hL  (fun H locs ls hW hl => ?_) _ _ _ e14 _ _ _ hW (lv_sub hl [1, 2, 3, 0] rfl)
        refine lv_iload_n hx hb dX10_text_59 rfl (lv_at hl 0 rfl) ?_
        cases h
        exact kr _ _ _ _ dX10_text_60 hW
      · have h := it_n q5 h
        refine lv_aload_n hx hb dX10_text_19 rfl (lv_at hl 0 rfl) ?_
        refine lv_iconst (v := 5) hx hb dX10_text_20 (by decide) ?_
        obtain ⟨t15, e16, h⟩ := bd h
        refine x_goi (x_rv (rest := []) hC hW (ctY0_meets e16) (cwV_g hC.2.2.2.2 ml_X10_111 mi_X10_meets md_X10_meets ⟨(Nat.le_trans (Nat.le_of_ble_eq_true rfl) hF), (Nat.le_trans (Nat.le_of_ble_eq_true rfl) hL)⟩) (rcY0 hW) rfl hl.1 rfl (Nat.le_of_ble_eq_true rfl) dX10_text_21) hW (fun H locs hW => ?_)
        cases h
        exact kr _ _ _ _ dX10_text_24 hW
    · have h := it_n q4 h
      refine lv_iconst (v := (-1)) hx hb dX10_text_13 (by decide) ?_
      cases h
      exact kr _ _ _ _ dX10_text_14 hW
theorem ctY0_text {N : Nat} {S : St} {x1 : Int32} {x2 : Int32}  {v : Int32} {S' : St} (h : fY0_text N S x1 x2 = some (v, S')) : Met l yX10_text (wm yX10_text cX10_text 4 (some .int)) (rmx 2 42) (pcm LY G S [.ref (ad G 0), .int x1, .int x2]) (qcI LY G S' v) 0 0 G.2.2.2 :=
  x_enter (own := RX10) rfl rfl (Nat.le_of_ble_eq_true rfl) (fun p e s m below meth c ls hC hr hk hW hl => wY0_text hC (Nat.le_refl _) (Nat.le_refl _)  h (fun H locs ls pc hd hW => x_reti hC hr hk hW hd) _ _ _ hW hl)
def fY0_put (S : St) (x1 : Int32) (x2 : Int32) (x3 : Int32) : Option (Int32 × St) :=
  Option.bind (fY0_askedText S x1) fun t1 =>
  if 0 ≤ t1.1 then
    gd (inb x1 4) <|
    Option.bind (fYs_in t1.2 x2 0 ((t1.2.1 5 (Int32.toNatClampNeg x1)) - 1)) fun t5 =>
    if t5 = 0 then
      Option.bind (fY0_meets t1.2 2) fun t14 =>
      some (t14.1, t14.2)
    else
      gd (inb ((60 * x1) + x2) 240) <|
      nx (t1.2.1 6 (Int32.toNatClampNeg ((60 * x1) + x2))) fun y9 =>
      gd (inb ((60 * x1) + x2) 240) <|
      nx (p1 t1.2 6 (Int32.toNatClampNeg ((60 * x1) + x2)) ((Int32.toInt8 x3).toInt32)) fun s12 =>
      some (y9 + 1000, s12)
  else
    some (t1.1, t1.2)
set_option maxHeartbeats 4000000 in
set_option maxRecDepth 100000 in
theorem wY0_put {S : St} {x1 : Int32} {x2 : Int32} {x3 : Int32} (hC : CallFix p m c cX10_put 6 s args lw_g RX10) (hF : 3 ≤ R.frames) (hL : 63 ≤ R.locals)  {v : Int32} {S' : St} (h : fY0_put S x1 x2 x3 = some (v, S')) (kr : ∀ (H : Heap) (locs : List Loc) (ls : Array Slot) (pc : Nat), decode cX10_put pc = .ok (.ireturn, 1) → wg LY G (S') s H locs → W p l e R s m args below meth c H locs 0 0 Q (F0 m pc ls [.int v])) : ∀ (H : Heap) (locs : List Loc) (ls : Array Slot), wg LY G S s H locs → lv_has ls 6 [(0, .ref (ad G 0)), (1, .int x1), (2, .int x2), (3, .int x3)] → W p l e R s m args below meth c H locs 0 0 Q (F0 m 0 ls []) := by
  have hx := hC.1
  have hb := hC.2.1
  intro H locs ls hW hl
  unfold fY0_put at h
  refine lv_aload_n hx hb dX10_put_0 rfl (lv_at hl 0 rfl) ?_
  refine lv_iload_n hx hb dX10_put_1 rfl (lv_at hl 1 rfl) ?_
  obtain ⟨t1, e2, h⟩ := bd h
  refine x_goi (x_rv (rest := []) hC hW (ctY0_askedText e2) (cwV_g hC.2.2.2.2 ml_X10_131 mi_X10_askedText md_X10_askedText ⟨(Nat.le_trans (Nat.le_of_ble_eq_true rfl) hF), (Nat.le_trans (Nat.le_of_ble_eq_true rfl) hL)⟩) (rcY0 hW) rfl hl.1 rfl (Nat.le_of_ble_eq_true rfl) dX10_put_2) hW (fun H locs hW => ?_)
  refine lv_istore (lv' := [(4, .int t1.1), (0, .ref (ad G 0)), (1, .int x1), (2, .int x2), (3, .int x3)]) hx hb dX10_put_5 hl (by decide) rfl (fun ls hl => ?_)
  refine lv_iload hx hb dX10_put_7 (lv_at hl 0 rfl) ?_
  refine lv_if_ge (tgt := 15) hx hb dX10_put_9 (by decide) (fun q3 => ?_) (fun q3 => ?_)
  · have h := it_p q3 h
    refine lv_iload_n hx hb dX10_put_15 rfl (lv_at hl 3 rfl) ?_
    refine lv_iconst (v := 0) hx hb dX10_put_16 (by decide) ?_
    refine lv_aload_n hx hb dX10_put_17 rfl (lv_at hl 1 rfl) ?_
    refine gY0_8 hC hW dX10_put_18 ?_
    refine lv_iload_n hx hb dX10_put_21 rfl (lv_at hl 2 rfl) ?_
    obtain ⟨g4, h⟩ := gd_some h
    refine x_iald hC hW aY5 g4 dX10_put_22 ?_
    refine lv_iconst (v := 1) hx hb dX10_put_23 (by decide) ?_
    refine lv_isub hx hb dX10_put_24 ?_
    obtain ⟨t5, e6, h⟩ := bd h
    refine x_goi (x_rs (rest := []) hC hW (ctYs_in e6) (cwS_g hC.2.2.2.2 ml_X10_103 ms_X10_in md_X10_in ⟨(Nat.le_trans (Nat.le_of_ble_eq_true rfl) hF), (Nat.le_trans (Nat.le_of_ble_eq_true rfl) hL)⟩) rfl hl.1 rfl (Nat.le_of_ble_eq_true rfl) dX10_put_25) hW (fun H locs hW => ?_)
    refine lv_if_ne (tgt := 37) hx hb dX10_put_28 (by decide) (fun q7 => ?_) (fun q7 => ?_)
    · have h := it_n q7 h
      refine lv_aload_n hx hb dX10_put_37 rfl (lv_at hl 1 rfl) ?_
      refine gY0_9 hC hW dX10_put_38 ?_
      refine lv_bipush (v := 60) hx hb dX10_put_41 (by decide) ?_
      refine lv_iload_n hx hb dX10_put_43 rfl (lv_at hl 2 rfl) ?_
      refine lv_imul hx hb dX10_put_44 ?_
      refine lv_iload_n hx hb dX10_put_45 rfl (lv_at hl 3 rfl) ?_
      refine lv_iadd hx hb dX10_put_46 ?_
      obtain ⟨g8, h⟩ := gd_some h
      refine x_iald hC hW aY6 g8 dX10_put_47 ?_
      obtain ⟨y9, e10, h⟩ := nx_some h
      refine x_topi e10 ?_
      refine lv_istore (lv' := [(5, .int y9), (4, .int t1.1), (0, .ref (ad G 0)), (1, .int x1), (2, .int x2), (3, .int x3)]) hx hb dX10_put_48 hl (by decide) rfl (fun ls hl => ?_)
      refine lv_aload_n hx hb dX10_put_50 rfl (lv_at hl 2 rfl) ?_
      refine gY0_9 hC hW dX10_put_51 ?_
      refine lv_bipush (v := 60) hx hb dX10_put_54 (by decide) ?_
      refine lv_iload_n hx hb dX10_put_56 rfl (lv_at hl 3 rfl) ?_
      refine lv_imul hx hb dX10_put_57 ?_
      refine lv_iload_n hx hb dX10_put_58 rfl (lv_at hl 4 rfl) ?_
      refine lv_iadd hx hb dX10_put_59 ?_
      refine lv_iload_n hx hb dX10_put_60 rfl (lv_at hl 5 rfl) ?_
      refine lv_i2b (v := (Int32.toInt8 x3).toInt32) hx hb dX10_put_61 rfl ?_
      obtain ⟨g11, h⟩ := gd_some h
      refine x_iast hC hW aY6 g11 dX10_put_62 (fun H locs hW => ?_)
      obtain ⟨s12, e13, h⟩ := nx_some h
      rw [← e13] at hW
      refine lv_iload hx hb dX10_put_63 (lv_at hl 0 rfl) ?_
      refine lv_sipush (v := 1000) hx hb dX10_put_65 (by decide) ?_
      refine lv_iadd hx hb dX10_put_68 ?_
      cases h
      exact kr _ _ _ _ dX10_put_69 hW
    · have h := it_p q7 h
      refine lv_aload_n hx hb dX10_put_31 rfl (lv_at hl 1 rfl) ?_
      refine lv_iconst (v := 2) hx hb dX10_put_32 (by decide) ?_
      obtain ⟨t14, e15, h⟩ := bd h
      refine x_goi (x_rv (rest := []) hC hW (ctY0_meets e15) (cwV_g hC.2.2.2.2 ml_X10_111 mi_X10_meets md_X10_meets ⟨(Nat.le_trans (Nat.le_of_ble_eq_true rfl) hF), (Nat.le_trans (Nat.le_of_ble_eq_true rfl) hL)⟩) (rcY0 hW) rfl hl.1 rfl (Nat.le_of_ble_eq_true rfl) dX10_put_33) hW (fun H locs hW => ?_)
      cases h
      exact kr _ _ _ _ dX10_put_36 hW
  · have h := it_n q3 h
    refine lv_iload hx hb dX10_put_12 (lv_at hl 0 rfl) ?_
    cases h
    exact kr _ _ _ _ dX10_put_14 hW
theorem ctY0_put {S : St} {x1 : Int32} {x2 : Int32} {x3 : Int32}  {v : Int32} {S' : St} (h : fY0_put S x1 x2 x3 = some (v, S')) : Met l yX10_put (wm yX10_put cX10_put 6 (some .int)) (rmx 3 63) (pcm LY G S [.ref (ad G 0), .int x1, .int x2, .int x3]) (qcI LY G S' v) 0 0 G.2.2.2 :=
  x_enter (own := RX10) rfl rfl (Nat.le_of_ble_eq_true rfl) (fun p e s m below meth c ls hC hr hk hW hl => wY0_put hC (Nat.le_refl _) (Nat.le_refl _)  h (fun H locs ls pc hd hW => x_reti hC hr hk hW hd) _ _ _ hW hl)
def fY0_here (S : St) (x1 : Int32) : Option (Int32) :=
  gd (inb x1 4) <|
  Option.bind (α := Int32) (
    if (S.1 5 (Int32.toNatClampNeg x1)) ≤ (S.1 0 13) then
      some (-9)
    else
      gd (inb ((60 * x1) + (S.1 0 13)) 240) <|
      some (S.1 6 (Int32.toNatClampNeg ((60 * x1) + (S.1 0 13))))
  ) fun t3 =>
  some t3
set_option maxHeartbeats 4000000 in
set_option maxRecDepth 100000 in
theorem wY0_here {S : St} {x1 : Int32} (hC : CallFix p m c cX10_here 2 s args lw_g RX10) (hF : 0 ≤ R.frames) (hL : 0 ≤ R.locals)  {v : Int32} (h : fY0_here S x1 = some v) (kr : ∀ (H : Heap) (locs : List Loc) (ls : Array Slot) (pc : Nat), decode cX10_here pc = .ok (.ireturn, 1) → wg LY G S s H locs → W p l e R s m args below meth c H locs 0 0 Q (F0 m pc ls [.int v])) : ∀ (H : Heap) (locs : List Loc) (ls : Array Slot), wg LY G S s H locs → lv_has ls 2 [(0, .ref (ad G 0)), (1, .int x1)] → W p l e R s m args below meth c H locs 0 0 Q (F0 m 0 ls []) := by
  have hx := hC.1
  have hb := hC.2.1
  intro H locs ls hW hl
  unfold fY0_here at h
  refine lv_aload_n hx hb dX10_here_0 rfl (lv_at hl 0 rfl) ?_
  refine gY0_13 hC hW dX10_here_1 ?_
  refine lv_aload_n hx hb dX10_here_4 rfl (lv_at hl 0 rfl) ?_
  refine gY0_8 hC hW dX10_here_5 ?_
  refine lv_iload_n hx hb dX10_here_8 rfl (lv_at hl 1 rfl) ?_
  obtain ⟨g1, h⟩ := gd_some h
  refine x_iald hC hW aY5 g1 dX10_here_9 ?_
  obtain ⟨t3, e4, h⟩ := bd h
  have K2 : ∀ (H : Heap) (locs : List Loc) (ls : Array Slot), wg LY G S s H locs → lv_has ls 2 [] → W p l e R s m args below meth c H locs 0 0 Q (F0 m 32 ls [.int t3]) := by
    intro H locs ls hW hl
    cases h
    exact kr _ _ _ _ dX10_here_32 hW
  clear h
  have h := e4
  clear e4
  refine lv_icmp_ge (tgt := 30) hx hb dX10_here_10 (by decide) (fun q5 => ?_) (fun q5 => ?_)
  · have h := it_p q5 h
    refine lv_bipush (v := (-9)) hx hb dX10_here_30 (by decide) ?_
    cases h
    exact K2 _ _ _ hW (lv_sub hl [] rfl)
  · have h := it_n q5 h
    refine lv_aload_n hx hb dX10_here_13 rfl (lv_at hl 0 rfl) ?_
    refine gY0_9 hC hW dX10_here_14 ?_
    refine lv_bipush (v := 60) hx hb dX10_here_17 (by decide) ?_
    refine lv_iload_n hx hb dX10_here_19 rfl (lv_at hl 1 rfl) ?_
    refine lv_imul hx hb dX10_here_20 ?_
    refine lv_aload_n hx hb dX10_here_21 rfl (lv_at hl 0 rfl) ?_
    refine gY0_13 hC hW dX10_here_22 ?_
    refine lv_iadd hx hb dX10_here_25 ?_
    obtain ⟨g6, h⟩ := gd_some h
    refine x_iald hC hW aY6 g6 dX10_here_26 ?_
    refine lv_goto (tgt := 32) hx hb dX10_here_27 (by decide) ?_
    cases h
    exact K2 _ _ _ hW (lv_sub hl [] rfl)
theorem ctY0_here {S : St} {x1 : Int32}  {v : Int32} (h : fY0_here S x1 = some v) : Met l yX10_here (wm yX10_here cX10_here 2 (some .int)) (rmx 0 0) (pcm LY G S [.ref (ad G 0), .int x1]) (qcI LY G S v) 0 0 G.2.2.2 :=
  x_enter (own := RX10) rfl rfl (Nat.le_of_ble_eq_true rfl) (fun p e s m below meth c ls hC hr hk hW hl => wY0_here hC (Nat.le_refl _) (Nat.le_refl _)  h (fun H locs ls pc hd hW => x_reti hC hr hk hW hd) _ _ _ hW hl)
def fY0_readsByte (S : St) (x1 : Int32) (x2 : Int32) : Option (Int32 × St) :=
  Option.bind (fY0_here S x1) fun t1 =>
  Option.bind (α := Int32) (
    if t1 = x2 then
      some 1
    else
      some 0
  ) fun t4 =>
  Option.bind (α := Int32) (
    if t4 = 0 then
      some 0
    else
      some 1
  ) fun t8 =>
  nx (p1 S 0 13 ((S.1 0 13) + t8)) fun s11 =>
  gd (isb t4) <|
  some (t4, s11)
set_option maxHeartbeats 4000000 in
set_option maxRecDepth 100000 in
theorem wY0_readsByte {S : St} {x1 : Int32} {x2 : Int32} (hC : CallFix p m c cX10_readsByte 4 s args lw_g RX10) (hF : 1 ≤ R.frames) (hL : 21 ≤ R.locals)  {v : Int32} {S' : St} (h : fY0_readsByte S x1 x2 = some (v, S')) (kr : ∀ (H : Heap) (locs : List Loc) (ls : Array Slot) (pc : Nat), isb v = true → decode cX10_readsByte pc = .ok (.ireturn, 1) → wg LY G (S') s H locs → W p l e R s m args below meth c H locs 0 0 Q (F0 m pc ls [.int v])) : ∀ (H : Heap) (locs : List Loc) (ls : Array Slot), wg LY G S s H locs → lv_has ls 4 [(0, .ref (ad G 0)), (1, .int x1), (2, .int x2)] → W p l e R s m args below meth c H locs 0 0 Q (F0 m 0 ls []) := by
  have hx := hC.1
  have hb := hC.2.1
  intro H locs ls hW hl
  unfold fY0_readsByte at h
  refine lv_aload_n hx hb dX10_readsByte_0 rfl (lv_at hl 0 rfl) ?_
  refine lv_iload_n hx hb dX10_readsByte_1 rfl (lv_at hl 1 rfl) ?_
  obtain ⟨t1, e2, h⟩ := bd h
  refine x_goi (x_rv (rest := []) hC hW (ctY0_here e2) (cwV_g hC.2.2.2.2 ml_X10_137 mi_X10_here md_X10_here ⟨(Nat.le_trans (Nat.le_of_ble_eq_true rfl) hF), (Nat.le_trans (Nat.le_of_ble_eq_true rfl) hL)⟩) (rcY0 hW) rfl hl.1 rfl (Nat.le_of_ble_eq_true rfl) dX10_readsByte_2) hW (fun H locs hW => ?_)
  refine lv_iload_n hx hb dX10_readsByte_5 rfl (lv_at hl 2 rfl) ?_
  obtain ⟨t4, e5, h⟩ := bd h
  have K3 : ∀ (H : Heap) (locs : List Loc) (ls : Array Slot), wg LY G S s H locs → lv_has ls 4 [(0, .ref (ad G 0))] → W p l e R s m args below meth c H locs 0 0 Q (F0 m 14 ls [.int t4]) := by
    intro H locs ls hW hl
    refine lv_istore_n (lv' := [(3, .int t4), (0, .ref (ad G 0))]) hx hb dX10_readsByte_14 rfl hl (by decide) rfl (fun ls hl => ?_)
    refine lv_aload_n hx hb dX10_readsByte_15 rfl (lv_at hl 1 rfl) ?_
    refine lv_dup hx hb dX10_readsByte_16 rfl ?_
    refine gY0_13 hC hW dX10_readsByte_17 ?_
    refine lv_iload_n hx hb dX10_readsByte_20 rfl (lv_at hl 0 rfl) ?_
    obtain ⟨t8, e9, h⟩ := bd h
    have K7 : ∀ (H : Heap) (locs : List Loc) (ls : Array Slot), wg LY G S s H locs → lv_has ls 4 [(3, .int t4)] → W p l e R s m args below meth c H locs 0 0 Q (F0 m 29 ls [.int t8, .int (S.1 0 13), .ref (ad G 0)]) := by
      intro H locs ls hW hl
      refine lv_iadd hx hb dX10_readsByte_29 ?_
      refine pY0_13 hC hW dX10_readsByte_30 (fun H locs hW => ?_)
      obtain ⟨s11, e12, h⟩ := nx_some h
      rw [← e12] at hW
      refine lv_iload_n hx hb dX10_readsByte_33 rfl (lv_at hl 0 rfl) ?_
      obtain ⟨g13, h⟩ := gd_some h
      cases h
      exact kr _ _ _ _ g13 dX10_readsByte_34 hW
    clear h
    have h := e9
    clear e9
    refine lv_if_eq (tgt := 28) hx hb dX10_readsByte_21 (by decide) (fun q10 => ?_) (fun q10 => ?_)
    · have h := it_p q10 h
      refine lv_iconst (v := 0) hx hb dX10_readsByte_28 (by decide) ?_
      cases h
      exact K7 _ _ _ hW (lv_sub hl [0] rfl)
    · have h := it_n q10 h
      refine lv_iconst (v := 1) hx hb dX10_readsByte_24 (by decide) ?_
      refine lv_goto (tgt := 29) hx hb dX10_readsByte_25 (by decide) ?_
      cases h
      exact K7 _ _ _ hW (lv_sub hl [0] rfl)
  clear h
  have h := e5
  clear e5
  refine lv_icmp_ne (tgt := 13) hx hb dX10_readsByte_6 (by decide) (fun q6 => ?_) (fun q6 => ?_)
  · have h := it_n q6 h
    refine lv_iconst (v := 0) hx hb dX10_readsByte_13 (by decide) ?_
    cases h
    exact K3 _ _ _ hW (lv_sub hl [0] rfl)
  · have h := it_p q6 h
    refine lv_iconst (v := 1) hx hb dX10_readsByte_9 (by decide) ?_
    refine lv_goto (tgt := 14) hx hb dX10_readsByte_10 (by decide) ?_
    cases h
    exact K3 _ _ _ hW (lv_sub hl [0] rfl)
theorem ctY0_readsByte {S : St} {x1 : Int32} {x2 : Int32}  {v : Int32} {S' : St} (h : fY0_readsByte S x1 x2 = some (v, S')) : Met l yX10_readsByte (wm yX10_readsByte cX10_readsByte 4 (some .boolean)) (rmx 1 21) (pcm LY G S [.ref (ad G 0), .int x1, .int x2]) (qcI LY G S' v) 0 0 G.2.2.2 :=
  x_enter (own := RX10) rfl rfl (Nat.le_of_ble_eq_true rfl) (fun p e s m below meth c ls hC hr hk hW hl => wY0_readsByte hC (Nat.le_refl _) (Nat.le_refl _)  h (fun H locs ls pc hz hd hW => x_retz hC hr hk hW hz hd) _ _ _ hW hl)
def fY0_readsNumber_L10 (N : Nat) (x1 : Int32) (x2 : Int32) : Nat → St → Option (St)
  | 0, _ => none
  | n + 1, S =>
    if 2 ≤ ((S.1 0 13) - x2) then
      some S
    else
      Option.bind (fY0_here S x1) fun t4 =>
      Option.bind (fYs_in S t4 48 57) fun t6 =>
      if t6 = 0 then
        some S
      else
        Option.bind (fY0_here S x1) fun t9 =>
        nx (p1 S 0 14 (((10 * (S.1 0 14)) + t9) - 48)) fun s11 =>
        nx (p1 s11 0 13 ((s11.1 0 13) + 1)) fun s13 =>
        fY0_readsNumber_L10 N x1 x2 n s13
set_option maxHeartbeats 4000000 in
set_option maxRecDepth 100000 in
theorem wY0_readsNumber_L10 {N : Nat} {x1 : Int32} {x2 : Int32} (hC : CallFix p m c cX10_readsNumber 3 s args lw_g RX10) (hF : 1 ≤ R.frames) (hL : 22 ≤ R.locals)  {t : St} (kx : ∀ (H : Heap) (locs : List Loc) (ls : Array Slot), wg LY G t s H locs → lv_has ls 3 [(0, .ref (ad G 0)), (2, .int x2)] → W p l e R s m args below meth c H locs 0 0 Q (F0 m 68 ls [])) : ∀ (n : Nat) (S : St), fY0_readsNumber_L10 N x1 x2 n S = some t → ∀ (H : Heap) (locs : List Loc) (ls : Array Slot), wg LY G S s H locs → lv_has ls 3 [(0, .ref (ad G 0)), (1, .int x1), (2, .int x2)] → W p l e R s m args below meth c H locs 0 0 Q (F0 m 10 ls []) := by
  have hx := hC.1
  have hb := hC.2.1
  intro n
  induction n with
  | zero =>
    intro _ h
    cases h
  | succ n ih =>
    intro S h H locs ls hW hl
    rw [fY0_readsNumber_L10] at h
    refine lv_aload_n hx hb dX10_readsNumber_10 rfl (lv_at hl 0 rfl) ?_
    refine gY0_13 hC hW dX10_readsNumber_11 ?_
    refine lv_iload_n hx hb dX10_readsNumber_14 rfl (lv_at hl 2 rfl) ?_
    refine lv_isub hx hb dX10_readsNumber_15 ?_
    refine lv_iconst (v := 2) hx hb dX10_readsNumber_16 (by decide) ?_
    refine lv_icmp_ge (tgt := 68) hx hb dX10_readsNumber_17 (by decide) (fun q3 => ?_) (fun q3 => ?_)
    · have h := it_p q3 h
      cases h
      exact kx _ _ _ hW (lv_sub hl [0, 2] rfl)
    · have h := it_n q3 h
      refine lv_aload_n hx hb dX10_readsNumber_20 rfl (lv_at hl 0 rfl) ?_
      refine lv_iload_n hx hb dX10_readsNumber_21 rfl (lv_at hl 1 rfl) ?_
      obtain ⟨t4, e5, h⟩ := bd h
      refine x_goi (x_rv (rest := []) hC hW (ctY0_here e5) (cwV_g hC.2.2.2.2 ml_X10_137 mi_X10_here md_X10_here ⟨(Nat.le_trans (Nat.le_of_ble_eq_true rfl) hF), (Nat.le_trans (Nat.le_of_ble_eq_true rfl) hL)⟩) (rcY0 hW) rfl hl.1 rfl (Nat.le_of_ble_eq_true rfl) dX10_readsNumber_22) hW (fun H locs hW => ?_)
      refine lv_bipush (v := 48) hx hb dX10_readsNumber_25 (by decide) ?_
      refine lv_bipush (v := 57) hx hb dX10_readsNumber_27 (by decide) ?_
      obtain ⟨t6, e7, h⟩ := bd h
      refine x_goi (x_rs (rest := []) hC hW (ctYs_in e7) (cwS_g hC.2.2.2.2 ml_X10_103 ms_X10_in md_X10_in ⟨(Nat.le_trans (Nat.le_of_ble_eq_true rfl) hF), (Nat.le_trans (Nat.le_of_ble_eq_true rfl) hL)⟩) rfl hl.1 rfl (Nat.le_of_ble_eq_true rfl) dX10_readsNumber_29) hW (fun H locs hW => ?_)
      refine lv_if_eq (tgt := 68) hx hb dX10_readsNumber_32 (by decide) (fun q8 => ?_) (fun q8 => ?_)
      · have h := it_p q8 h
        cases h
        exact kx _ _ _ hW (lv_sub hl [0, 2] rfl)
      · have h := it_n q8 h
        refine lv_aload_n hx hb dX10_readsNumber_35 rfl (lv_at hl 0 rfl) ?_
        refine lv_bipush (v := 10) hx hb dX10_readsNumber_36 (by decide) ?_
        refine lv_aload_n hx hb dX10_readsNumber_38 rfl (lv_at hl 0 rfl) ?_
        refine gY0_14 hC hW dX10_readsNumber_39 ?_
        refine lv_imul hx hb dX10_readsNumber_42 ?_
        refine lv_aload_n hx hb dX10_readsNumber_43 rfl (lv_at hl 0 rfl) ?_
        refine lv_iload_n hx hb dX10_readsNumber_44 rfl (lv_at hl 1 rfl) ?_
        obtain ⟨t9, e10, h⟩ := bd h
        refine x_goi (x_rv (rest := [.int (10 * (S.1 0 14)), .ref (ad G 0)]) hC hW (ctY0_here e10) (cwV_g hC.2.2.2.2 ml_X10_137 mi_X10_here md_X10_here ⟨(Nat.le_trans (Nat.le_of_ble_eq_true rfl) hF), (Nat.le_trans (Nat.le_of_ble_eq_true rfl) hL)⟩) (rcY0 hW) rfl hl.1 rfl (Nat.le_of_ble_eq_true rfl) dX10_readsNumber_45) hW (fun H locs hW => ?_)
        refine lv_iadd hx hb dX10_readsNumber_48 ?_
        refine lv_bipush (v := 48) hx hb dX10_readsNumber_49 (by decide) ?_
        refine lv_isub hx hb dX10_readsNumber_51 ?_
        refine pY0_14 hC hW dX10_readsNumber_52 (fun H locs hW => ?_)
        obtain ⟨s11, e12, h⟩ := nx_some h
        rw [← e12] at hW
        refine lv_aload_n hx hb dX10_readsNumber_55 rfl (lv_at hl 0 rfl) ?_
        refine lv_dup hx hb dX10_readsNumber_56 rfl ?_
        refine gY0_13 hC hW dX10_readsNumber_57 ?_
        refine lv_iconst (v := 1) hx hb dX10_readsNumber_60 (by decide) ?_
        refine lv_iadd hx hb dX10_readsNumber_61 ?_
        refine pY0_13 hC hW dX10_readsNumber_62 (fun H locs hW => ?_)
        obtain ⟨s13, e14, h⟩ := nx_some h
        rw [← e14] at hW
        refine lv_goto (tgt := 10) hx hb dX10_readsNumber_65 (by decide) ?_
        exact ih _ h _ _ _ hW (lv_sub hl [0, 1, 2] rfl)
def fY0_readsNumber (N : Nat) (S : St) (x1 : Int32) : Option (Int32 × St) :=
  nx (p1 S 0 14 0) fun s1 =>
  Option.bind (fY0_readsNumber_L10 N x1 (S.1 0 13) N s1) fun t15 =>
  Option.bind (α := Int32) (
    if (t15.1 0 13) ≤ (S.1 0 13) then
      some 0
    else
      some 1
  ) fun t18 =>
  gd (isb t18) <|
  some (t18, t15)
set_option maxHeartbeats 4000000 in
set_option maxRecDepth 100000 in
theorem wY0_readsNumber {N : Nat} {S : St} {x1 : Int32} (hC : CallFix p m c cX10_readsNumber 3 s args lw_g RX10) (hF : 1 ≤ R.frames) (hL : 22 ≤ R.locals)  {v : Int32} {S' : St} (h : fY0_readsNumber N S x1 = some (v, S')) (kr : ∀ (H : Heap) (locs : List Loc) (ls : Array Slot) (pc : Nat), isb v = true → decode cX10_readsNumber pc = .ok (.ireturn, 1) → wg LY G (S') s H locs → W p l e R s m args below meth c H locs 0 0 Q (F0 m pc ls [.int v])) : ∀ (H : Heap) (locs : List Loc) (ls : Array Slot), wg LY G S s H locs → lv_has ls 3 [(0, .ref (ad G 0)), (1, .int x1)] → W p l e R s m args below meth c H locs 0 0 Q (F0 m 0 ls []) := by
  have hx := hC.1
  have hb := hC.2.1
  intro H locs ls hW hl
  unfold fY0_readsNumber at h
  refine lv_aload_n hx hb dX10_readsNumber_0 rfl (lv_at hl 0 rfl) ?_
  refine gY0_13 hC hW dX10_readsNumber_1 ?_
  refine lv_istore_n (lv' := [(2, .int (S.1 0 13)), (0, .ref (ad G 0)), (1, .int x1)]) hx hb dX10_readsNumber_4 rfl hl (by decide) rfl (fun ls hl => ?_)
  refine lv_aload_n hx hb dX10_readsNumber_5 rfl (lv_at hl 1 rfl) ?_
  refine lv_iconst (v := 0) hx hb dX10_readsNumber_6 (by decide) ?_
  refine pY0_14 hC hW dX10_readsNumber_7 (fun H locs hW => ?_)
  obtain ⟨s1, e2, h⟩ := nx_some h
  rw [← e2] at hW
  obtain ⟨t15, e16, h⟩ := bd h
  refine wY0_readsNumber_L10 hC hF hL  (fun H locs ls hW hl => ?_) _ _ e16 _ _ _ hW (lv_sub hl [1, 2, 0] rfl)
  refine lv_aload_n hx hb dX10_readsNumber_68 rfl (lv_at hl 0 rfl) ?_
  refine gY0_13 hC hW dX10_readsNumber_69 ?_
  refine lv_iload_n hx hb dX10_readsNumber_72 rfl (lv_at hl 1 rfl) ?_
  obtain ⟨t18, e19, h⟩ := bd h
  have K17 : ∀ (H : Heap) (locs : List Loc) (ls : Array Slot), wg LY G t15 s H locs → lv_has ls 3 [] → W p l e R s m args below meth c H locs 0 0 Q (F0 m 81 ls [.int t18]) := by
    intro H locs ls hW hl
    obtain ⟨g21, h⟩ := gd_some h
    cases h
    exact kr _ _ _ _ g21 dX10_readsNumber_81 hW
  clear h
  have h := e19
  clear e19
  refine lv_icmp_le (tgt := 80) hx hb dX10_readsNumber_73 (by decide) (fun q20 => ?_) (fun q20 => ?_)
  · have h := it_p q20 h
    refine lv_iconst (v := 0) hx hb dX10_readsNumber_80 (by decide) ?_
    cases h
    exact K17 _ _ _ hW (lv_sub hl [] rfl)
  · have h := it_n q20 h
    refine lv_iconst (v := 1) hx hb dX10_readsNumber_76 (by decide) ?_
    refine lv_goto (tgt := 81) hx hb dX10_readsNumber_77 (by decide) ?_
    cases h
    exact K17 _ _ _ hW (lv_sub hl [] rfl)
theorem ctY0_readsNumber {N : Nat} {S : St} {x1 : Int32}  {v : Int32} {S' : St} (h : fY0_readsNumber N S x1 = some (v, S')) : Met l yX10_readsNumber (wm yX10_readsNumber cX10_readsNumber 3 (some .boolean)) (rmx 1 22) (pcm LY G S [.ref (ad G 0), .int x1]) (qcI LY G S' v) 0 0 G.2.2.2 :=
  x_enter (own := RX10) rfl rfl (Nat.le_of_ble_eq_true rfl) (fun p e s m below meth c ls hC hr hk hW hl => wY0_readsNumber hC (Nat.le_refl _) (Nat.le_refl _)  h (fun H locs ls pc hz hd hW => x_retz hC hr hk hW hz hd) _ _ _ hW hl)
def fY0_readsSpan (N : Nat) (S : St) (x1 : Int32) (x2 : Int32) : Option (Int32 × St) :=
  Option.bind (fY0_readsNumber N S x1) fun t1 =>
  if t1.1 = 0 then
    some (0, t1.2)
  else
    gd (inb x2 12) <|
    nx (p1 t1.2 8 (Int32.toNatClampNeg x2) (t1.2.1 0 14)) fun s5 =>
    Option.bind (fY0_readsByte s5 x1 44) fun t7 =>
    if t7.1 = 0 then
      some (0, t7.2)
    else
      Option.bind (fY0_readsNumber N t7.2 x1) fun t10 =>
      if t10.1 = 0 then
        some (0, t10.2)
      else
        gd (inb x2 12) <|
        nx (p1 t10.2 9 (Int32.toNatClampNeg x2) (t10.2.1 0 14)) fun s14 =>
        gd (inb x2 12) <|
        gd (inb x2 12) <|
        Option.bind (α := Int32) (
          if (s14.1 9 (Int32.toNatClampNeg x2)) < (s14.1 8 (Int32.toNatClampNeg x2)) then
            some 0
          else
            some 1
        ) fun t19 =>
        gd (isb t19) <|
        some (t19, s14)
set_option maxHeartbeats 4000000 in
set_option maxRecDepth 100000 in
theorem wY0_readsSpan {N : Nat} {S : St} {x1 : Int32} {x2 : Int32} (hC : CallFix p m c cX10_readsSpan 3 s args lw_g RX10) (hF : 2 ≤ R.frames) (hL : 44 ≤ R.locals)  {v : Int32} {S' : St} (h : fY0_readsSpan N S x1 x2 = some (v, S')) (kr : ∀ (H : Heap) (locs : List Loc) (ls : Array Slot) (pc : Nat), isb v = true → decode cX10_readsSpan pc = .ok (.ireturn, 1) → wg LY G (S') s H locs → W p l e R s m args below meth c H locs 0 0 Q (F0 m pc ls [.int v])) : ∀ (H : Heap) (locs : List Loc) (ls : Array Slot), wg LY G S s H locs → lv_has ls 3 [(0, .ref (ad G 0)), (1, .int x1), (2, .int x2)] → W p l e R s m args below meth c H locs 0 0 Q (F0 m 0 ls []) := by
  have hx := hC.1
  have hb := hC.2.1
  intro H locs ls hW hl
  unfold fY0_readsSpan at h
  refine lv_aload_n hx hb dX10_readsSpan_0 rfl (lv_at hl 0 rfl) ?_
  refine lv_iload_n hx hb dX10_readsSpan_1 rfl (lv_at hl 1 rfl) ?_
  obtain ⟨t1, e2, h⟩ := bd h
  refine x_goi (x_rv (rest := []) hC hW (ctY0_readsNumber e2) (cwV_g hC.2.2.2.2 ml_X10_143 mi_X10_readsNumber md_X10_readsNumber ⟨(Nat.le_trans (Nat.le_of_ble_eq_true rfl) hF), (Nat.le_trans (Nat.le_of_ble_eq_true rfl) hL)⟩) (rcY0 hW) rfl hl.1 rfl (Nat.le_of_ble_eq_true rfl) dX10_readsSpan_2) hW (fun H locs hW => ?_)
  refine lv_if_ne (tgt := 10) hx hb dX10_readsSpan_5 (by decide) (fun q3 => ?_) (fun q3 => ?_)
  · have h := it_n q3 h
    refine lv_aload_n hx hb dX10_readsSpan_10 rfl (lv_at hl 0 rfl) ?_
    refine gY0_11 hC hW dX10_readsSpan_11 ?_
    refine lv_iload_n hx hb dX10_readsSpan_14 rfl (lv_at hl 2 rfl) ?_
    refine lv_aload_n hx hb dX10_readsSpan_15 rfl (lv_at hl 0 rfl) ?_
    refine gY0_14 hC hW dX10_readsSpan_16 ?_
    obtain ⟨g4, h⟩ := gd_some h
    refine x_iast hC hW aY8 g4 dX10_readsSpan_19 (fun H locs hW => ?_)
    obtain ⟨s5, e6, h⟩ := nx_some h
    rw [← e6] at hW
    refine lv_aload_n hx hb dX10_readsSpan_20 rfl (lv_at hl 0 rfl) ?_
    refine lv_iload_n hx hb dX10_readsSpan_21 rfl (lv_at hl 1 rfl) ?_
    refine lv_bipush (v := 44) hx hb dX10_readsSpan_22 (by decide) ?_
    obtain ⟨t7, e8, h⟩ := bd h
    refine x_goi (x_rv (rest := []) hC hW (ctY0_readsByte e8) (cwV_g hC.2.2.2.2 ml_X10_146 mi_X10_readsByte md_X10_readsByte ⟨(Nat.le_trans (Nat.le_of_ble_eq_true rfl) hF), (Nat.le_trans (Nat.le_of_ble_eq_true rfl) hL)⟩) (rcY0 hW) rfl hl.1 rfl (Nat.le_of_ble_eq_true rfl) dX10_readsSpan_24) hW (fun H locs hW => ?_)
    refine lv_if_eq (tgt := 38) hx hb dX10_readsSpan_27 (by decide) (fun q9 => ?_) (fun q9 => ?_)
    · have h := it_p q9 h
      refine lv_iconst (v := 0) hx hb dX10_readsSpan_38 (by decide) ?_
      cases h
      exact kr _ _ _ _ rfl dX10_readsSpan_39 hW
    · have h := it_n q9 h
      refine lv_aload_n hx hb dX10_readsSpan_30 rfl (lv_at hl 0 rfl) ?_
      refine lv_iload_n hx hb dX10_readsSpan_31 rfl (lv_at hl 1 rfl) ?_
      obtain ⟨t10, e11, h⟩ := bd h
      refine x_goi (x_rv (rest := []) hC hW (ctY0_readsNumber e11) (cwV_g hC.2.2.2.2 ml_X10_143 mi_X10_readsNumber md_X10_readsNumber ⟨(Nat.le_trans (Nat.le_of_ble_eq_true rfl) hF), (Nat.le_trans (Nat.le_of_ble_eq_true rfl) hL)⟩) (rcY0 hW) rfl hl.1 rfl (Nat.le_of_ble_eq_true rfl) dX10_readsSpan_32) hW (fun H locs hW => ?_)
      refine lv_if_ne (tgt := 40) hx hb dX10_readsSpan_35 (by decide) (fun q12 => ?_) (fun q12 => ?_)
      · have h := it_n q12 h
        refine lv_aload_n hx hb dX10_readsSpan_40 rfl (lv_at hl 0 rfl) ?_
        refine gY0_12 hC hW dX10_readsSpan_41 ?_
        refine lv_iload_n hx hb dX10_readsSpan_44 rfl (lv_at hl 2 rfl) ?_
        refine lv_aload_n hx hb dX10_readsSpan_45 rfl (lv_at hl 0 rfl) ?_
        refine gY0_14 hC hW dX10_readsSpan_46 ?_
        obtain ⟨g13, h⟩ := gd_some h
        refine x_iast hC hW aY9 g13 dX10_readsSpan_49 (fun H locs hW => ?_)
        obtain ⟨s14, e15, h⟩ := nx_some h
        rw [← e15] at hW
        refine lv_aload_n hx hb dX10_readsSpan_50 rfl (lv_at hl 0 rfl) ?_
        refine gY0_11 hC hW dX10_readsSpan_51 ?_
        refine lv_iload_n hx hb dX10_readsSpan_54 rfl (lv_at hl 2 rfl) ?_
        obtain ⟨g16, h⟩ := gd_some h
        refine x_iald hC hW aY8 g16 dX10_readsSpan_55 ?_
        refine lv_aload_n hx hb dX10_readsSpan_56 rfl (lv_at hl 0 rfl) ?_
        refine gY0_12 hC hW dX10_readsSpan_57 ?_
        refine lv_iload_n hx hb dX10_readsSpan_60 rfl (lv_at hl 2 rfl) ?_
        obtain ⟨g17, h⟩ := gd_some h
        refine x_iald hC hW aY9 g17 dX10_readsSpan_61 ?_
        obtain ⟨t19, e20, h⟩ := bd h
        have K18 : ∀ (H : Heap) (locs : List Loc) (ls : Array Slot), wg LY G s14 s H locs → lv_has ls 3 [] → W p l e R s m args below meth c H locs 0 0 Q (F0 m 70 ls [.int t19]) := by
          intro H locs ls hW hl
          obtain ⟨g22, h⟩ := gd_some h
          cases h
          exact kr _ _ _ _ g22 dX10_readsSpan_70 hW
        clear h
        have h := e20
        clear e20
        refine lv_icmp_gt (tgt := 69) hx hb dX10_readsSpan_62 (by decide) (fun q21 => ?_) (fun q21 => ?_)
        · have h := it_p q21 h
          refine lv_iconst (v := 0) hx hb dX10_readsSpan_69 (by decide) ?_
          cases h
          exact K18 _ _ _ hW (lv_sub hl [] rfl)
        · have h := it_n q21 h
          refine lv_iconst (v := 1) hx hb dX10_readsSpan_65 (by decide) ?_
          refine lv_goto (tgt := 70) hx hb dX10_readsSpan_66 (by decide) ?_
          cases h
          exact K18 _ _ _ hW (lv_sub hl [] rfl)
      · have h := it_p q12 h
        refine lv_iconst (v := 0) hx hb dX10_readsSpan_38 (by decide) ?_
        cases h
        exact kr _ _ _ _ rfl dX10_readsSpan_39 hW
  · have h := it_p q3 h
    refine lv_iconst (v := 0) hx hb dX10_readsSpan_8 (by decide) ?_
    cases h
    exact kr _ _ _ _ rfl dX10_readsSpan_9 hW
theorem ctY0_readsSpan {N : Nat} {S : St} {x1 : Int32} {x2 : Int32}  {v : Int32} {S' : St} (h : fY0_readsSpan N S x1 x2 = some (v, S')) : Met l yX10_readsSpan (wm yX10_readsSpan cX10_readsSpan 3 (some .boolean)) (rmx 2 44) (pcm LY G S [.ref (ad G 0), .int x1, .int x2]) (qcI LY G S' v) 0 0 G.2.2.2 :=
  x_enter (own := RX10) rfl rfl (Nat.le_of_ble_eq_true rfl) (fun p e s m below meth c ls hC hr hk hW hl => wY0_readsSpan hC (Nat.le_refl _) (Nat.le_refl _)  h (fun H locs ls pc hz hd hW => x_retz hC hr hk hW hz hd) _ _ _ hW hl)
def fY0_isSign (S : St) (x1 : Int32) : Option (Int32) :=
  Option.bind (fY0_here S x1) fun t1 =>
  Option.bind (fYs_in S t1 48 57) fun t3 =>
  Option.bind (α := Int32) (
    if t3 = 0 then
      Option.bind (fY0_here S x1) fun t9 =>
      if t9 = 63 then
        some 1
      else
        Option.bind (fY0_here S x1) fun t12 =>
        if t12 = 120 then
          some 1
        else
          some 0
    else
      some 1
  ) fun t6 =>
  gd (isb t6) <|
  some t6
set_option maxHeartbeats 4000000 in
set_option maxRecDepth 100000 in
theorem wY0_isSign {S : St} {x1 : Int32} (hC : CallFix p m c cX10_isSign 2 s args lw_g RX10) (hF : 1 ≤ R.frames) (hL : 22 ≤ R.locals)  {v : Int32} (h : fY0_isSign S x1 = some v) (kr : ∀ (H : Heap) (locs : List Loc) (ls : Array Slot) (pc : Nat), isb v = true → decode cX10_isSign pc = .ok (.ireturn, 1) → wg LY G S s H locs → W p l e R s m args below meth c H locs 0 0 Q (F0 m pc ls [.int v])) : ∀ (H : Heap) (locs : List Loc) (ls : Array Slot), wg LY G S s H locs → lv_has ls 2 [(0, .ref (ad G 0)), (1, .int x1)] → W p l e R s m args below meth c H locs 0 0 Q (F0 m 0 ls []) := by
  have hx := hC.1
  have hb := hC.2.1
  intro H locs ls hW hl
  unfold fY0_isSign at h
  refine lv_aload_n hx hb dX10_isSign_0 rfl (lv_at hl 0 rfl) ?_
  refine lv_iload_n hx hb dX10_isSign_1 rfl (lv_at hl 1 rfl) ?_
  obtain ⟨t1, e2, h⟩ := bd h
  refine x_goi (x_rv (rest := []) hC hW (ctY0_here e2) (cwV_g hC.2.2.2.2 ml_X10_137 mi_X10_here md_X10_here ⟨(Nat.le_trans (Nat.le_of_ble_eq_true rfl) hF), (Nat.le_trans (Nat.le_of_ble_eq_true rfl) hL)⟩) (rcY0 hW) rfl hl.1 rfl (Nat.le_of_ble_eq_true rfl) dX10_isSign_2) hW (fun H locs hW => ?_)
  refine lv_bipush (v := 48) hx hb dX10_isSign_5 (by decide) ?_
  refine lv_bipush (v := 57) hx hb dX10_isSign_7 (by decide) ?_
  obtain ⟨t3, e4, h⟩ := bd h
  refine x_goi (x_rs (rest := []) hC hW (ctYs_in e4) (cwS_g hC.2.2.2.2 ml_X10_103 ms_X10_in md_X10_in ⟨(Nat.le_trans (Nat.le_of_ble_eq_true rfl) hF), (Nat.le_trans (Nat.le_of_ble_eq_true rfl) hL)⟩) rfl hl.1 rfl (Nat.le_of_ble_eq_true rfl) dX10_isSign_9) hW (fun H locs hW => ?_)
  obtain ⟨t6, e7, h⟩ := bd h
  have K5 : ∀ (H : Heap) (locs : List Loc) (ls : Array Slot), wg LY G S s H locs → lv_has ls 2 [] → W p l e R s m args below meth c H locs 0 0 Q (F0 m 40 ls [.int t6]) := by
    intro H locs ls hW hl
    obtain ⟨g15, h⟩ := gd_some h
    cases h
    exact kr _ _ _ _ g15 dX10_isSign_40 hW
  clear h
  have h := e7
  clear e7
  refine lv_if_ne (tgt := 35) hx hb dX10_isSign_12 (by decide) (fun q8 => ?_) (fun q8 => ?_)
  · have h := it_n q8 h
    refine lv_iconst (v := 1) hx hb dX10_isSign_35 (by decide) ?_
    refine lv_goto (tgt := 40) hx hb dX10_isSign_36 (by decide) ?_
    cases h
    exact K5 _ _ _ hW (lv_sub hl [] rfl)
  · have h := it_p q8 h
    refine lv_aload_n hx hb dX10_isSign_15 rfl (lv_at hl 0 rfl) ?_
    refine lv_iload_n hx hb dX10_isSign_16 rfl (lv_at hl 1 rfl) ?_
    obtain ⟨t9, e10, h⟩ := bd h
    refine x_goi (x_rv (rest := []) hC hW (ctY0_here e10) (cwV_g hC.2.2.2.2 ml_X10_137 mi_X10_here md_X10_here ⟨(Nat.le_trans (Nat.le_of_ble_eq_true rfl) hF), (Nat.le_trans (Nat.le_of_ble_eq_true rfl) hL)⟩) (rcY0 hW) rfl hl.1 rfl (Nat.le_of_ble_eq_true rfl) dX10_isSign_17) hW (fun H locs hW => ?_)
    refine lv_bipush (v := 63) hx hb dX10_isSign_20 (by decide) ?_
    refine lv_icmp_eq (tgt := 35) hx hb dX10_isSign_22 (by decide) (fun q11 => ?_) (fun q11 => ?_)
    · have h := it_p q11 h
      refine lv_iconst (v := 1) hx hb dX10_isSign_35 (by decide) ?_
      refine lv_goto (tgt := 40) hx hb dX10_isSign_36 (by decide) ?_
      cases h
      exact K5 _ _ _ hW (lv_sub hl [] rfl)
    · have h := it_n q11 h
      refine lv_aload_n hx hb dX10_isSign_25 rfl (lv_at hl 0 rfl) ?_
      refine lv_iload_n hx hb dX10_isSign_26 rfl (lv_at hl 1 rfl) ?_
      obtain ⟨t12, e13, h⟩ := bd h
      refine x_goi (x_rv (rest := []) hC hW (ctY0_here e13) (cwV_g hC.2.2.2.2 ml_X10_137 mi_X10_here md_X10_here ⟨(Nat.le_trans (Nat.le_of_ble_eq_true rfl) hF), (Nat.le_trans (Nat.le_of_ble_eq_true rfl) hL)⟩) (rcY0 hW) rfl hl.1 rfl (Nat.le_of_ble_eq_true rfl) dX10_isSign_27) hW (fun H locs hW => ?_)
      refine lv_bipush (v := 120) hx hb dX10_isSign_30 (by decide) ?_
      refine lv_icmp_ne (tgt := 39) hx hb dX10_isSign_32 (by decide) (fun q14 => ?_) (fun q14 => ?_)
      · have h := it_n q14 h
        refine lv_iconst (v := 0) hx hb dX10_isSign_39 (by decide) ?_
        cases h
        exact K5 _ _ _ hW (lv_sub hl [] rfl)
      · have h := it_p q14 h
        refine lv_iconst (v := 1) hx hb dX10_isSign_35 (by decide) ?_
        refine lv_goto (tgt := 40) hx hb dX10_isSign_36 (by decide) ?_
        cases h
        exact K5 _ _ _ hW (lv_sub hl [] rfl)
theorem ctY0_isSign {S : St} {x1 : Int32}  {v : Int32} (h : fY0_isSign S x1 = some v) : Met l yX10_isSign (wm yX10_isSign cX10_isSign 2 (some .boolean)) (rmx 1 22) (pcm LY G S [.ref (ad G 0), .int x1]) (qcI LY G S v) 0 0 G.2.2.2 :=
  x_enter (own := RX10) rfl rfl (Nat.le_of_ble_eq_true rfl) (fun p e s m below meth c ls hC hr hk hW hl => wY0_isSign hC (Nat.le_refl _) (Nat.le_refl _)  h (fun H locs ls pc hz hd hW => x_retz hC hr hk hW hz hd) _ _ _ hW hl)
def fY0_readsLetter (S : St) (x1 : Int32) (x2 : Int32) : Option (Int32 × St) :=
  Option.bind (fY0_here S x1) fun t1 =>
  Option.bind (fYs_in S t1 97 108) fun t3 =>
  if t3 = 0 then
    some (0, S)
  else
    Option.bind (fY0_here S x1) fun t6 =>
    nx (p1 S 0 14 (t6 - 97)) fun s8 =>
    nx (p1 s8 0 13 ((s8.1 0 13) + 1)) fun s10 =>
    Option.bind (α := Int32) (
      if (s10.1 0 14) = x2 then
        some 0
      else
        some 1
    ) fun t13 =>
    gd (isb t13) <|
    some (t13, s10)
set_option maxHeartbeats 4000000 in
set_option maxRecDepth 100000 in
theorem wY0_readsLetter {S : St} {x1 : Int32} {x2 : Int32} (hC : CallFix p m c cX10_readsLetter 3 s args lw_g RX10) (hF : 1 ≤ R.frames) (hL : 22 ≤ R.locals)  {v : Int32} {S' : St} (h : fY0_readsLetter S x1 x2 = some (v, S')) (kr : ∀ (H : Heap) (locs : List Loc) (ls : Array Slot) (pc : Nat), isb v = true → decode cX10_readsLetter pc = .ok (.ireturn, 1) → wg LY G (S') s H locs → W p l e R s m args below meth c H locs 0 0 Q (F0 m pc ls [.int v])) : ∀ (H : Heap) (locs : List Loc) (ls : Array Slot), wg LY G S s H locs → lv_has ls 3 [(0, .ref (ad G 0)), (1, .int x1), (2, .int x2)] → W p l e R s m args below meth c H locs 0 0 Q (F0 m 0 ls []) := by
  have hx := hC.1
  have hb := hC.2.1
  intro H locs ls hW hl
  unfold fY0_readsLetter at h
  refine lv_aload_n hx hb dX10_readsLetter_0 rfl (lv_at hl 0 rfl) ?_
  refine lv_iload_n hx hb dX10_readsLetter_1 rfl (lv_at hl 1 rfl) ?_
  obtain ⟨t1, e2, h⟩ := bd h
  refine x_goi (x_rv (rest := []) hC hW (ctY0_here e2) (cwV_g hC.2.2.2.2 ml_X10_137 mi_X10_here md_X10_here ⟨(Nat.le_trans (Nat.le_of_ble_eq_true rfl) hF), (Nat.le_trans (Nat.le_of_ble_eq_true rfl) hL)⟩) (rcY0 hW) rfl hl.1 rfl (Nat.le_of_ble_eq_true rfl) dX10_readsLetter_2) hW (fun H locs hW => ?_)
  refine lv_bipush (v := 97) hx hb dX10_readsLetter_5 (by decide) ?_
  refine lv_bipush (v := 108) hx hb dX10_readsLetter_7 (by decide) ?_
  obtain ⟨t3, e4, h⟩ := bd h
  refine x_goi (x_rs (rest := []) hC hW (ctYs_in e4) (cwS_g hC.2.2.2.2 ml_X10_103 ms_X10_in md_X10_in ⟨(Nat.le_trans (Nat.le_of_ble_eq_true rfl) hF), (Nat.le_trans (Nat.le_of_ble_eq_true rfl) hL)⟩) rfl hl.1 rfl (Nat.le_of_ble_eq_true rfl) dX10_readsLetter_9) hW (fun H locs hW => ?_)
  refine lv_if_ne (tgt := 17) hx hb dX10_readsLetter_12 (by decide) (fun q5 => ?_) (fun q5 => ?_)
  · have h := it_n q5 h
    refine lv_aload_n hx hb dX10_readsLetter_17 rfl (lv_at hl 0 rfl) ?_
    refine lv_aload_n hx hb dX10_readsLetter_18 rfl (lv_at hl 0 rfl) ?_
    refine lv_iload_n hx hb dX10_readsLetter_19 rfl (lv_at hl 1 rfl) ?_
    obtain ⟨t6, e7, h⟩ := bd h
    refine x_goi (x_rv (rest := [.ref (ad G 0)]) hC hW (ctY0_here e7) (cwV_g hC.2.2.2.2 ml_X10_137 mi_X10_here md_X10_here ⟨(Nat.le_trans (Nat.le_of_ble_eq_true rfl) hF), (Nat.le_trans (Nat.le_of_ble_eq_true rfl) hL)⟩) (rcY0 hW) rfl hl.1 rfl (Nat.le_of_ble_eq_true rfl) dX10_readsLetter_20) hW (fun H locs hW => ?_)
    refine lv_bipush (v := 97) hx hb dX10_readsLetter_23 (by decide) ?_
    refine lv_isub hx hb dX10_readsLetter_25 ?_
    refine pY0_14 hC hW dX10_readsLetter_26 (fun H locs hW => ?_)
    obtain ⟨s8, e9, h⟩ := nx_some h
    rw [← e9] at hW
    refine lv_aload_n hx hb dX10_readsLetter_29 rfl (lv_at hl 0 rfl) ?_
    refine lv_dup hx hb dX10_readsLetter_30 rfl ?_
    refine gY0_13 hC hW dX10_readsLetter_31 ?_
    refine lv_iconst (v := 1) hx hb dX10_readsLetter_34 (by decide) ?_
    refine lv_iadd hx hb dX10_readsLetter_35 ?_
    refine pY0_13 hC hW dX10_readsLetter_36 (fun H locs hW => ?_)
    obtain ⟨s10, e11, h⟩ := nx_some h
    rw [← e11] at hW
    refine lv_aload_n hx hb dX10_readsLetter_39 rfl (lv_at hl 0 rfl) ?_
    refine gY0_14 hC hW dX10_readsLetter_40 ?_
    refine lv_iload_n hx hb dX10_readsLetter_43 rfl (lv_at hl 2 rfl) ?_
    obtain ⟨t13, e14, h⟩ := bd h
    have K12 : ∀ (H : Heap) (locs : List Loc) (ls : Array Slot), wg LY G s10 s H locs → lv_has ls 3 [] → W p l e R s m args below meth c H locs 0 0 Q (F0 m 52 ls [.int t13]) := by
      intro H locs ls hW hl
      obtain ⟨g16, h⟩ := gd_some h
      cases h
      exact kr _ _ _ _ g16 dX10_readsLetter_52 hW
    clear h
    have h := e14
    clear e14
    refine lv_icmp_eq (tgt := 51) hx hb dX10_readsLetter_44 (by decide) (fun q15 => ?_) (fun q15 => ?_)
    · have h := it_p q15 h
      refine lv_iconst (v := 0) hx hb dX10_readsLetter_51 (by decide) ?_
      cases h
      exact K12 _ _ _ hW (lv_sub hl [] rfl)
    · have h := it_n q15 h
      refine lv_iconst (v := 1) hx hb dX10_readsLetter_47 (by decide) ?_
      refine lv_goto (tgt := 52) hx hb dX10_readsLetter_48 (by decide) ?_
      cases h
      exact K12 _ _ _ hW (lv_sub hl [] rfl)
  · have h := it_p q5 h
    refine lv_iconst (v := 0) hx hb dX10_readsLetter_15 (by decide) ?_
    cases h
    exact kr _ _ _ _ rfl dX10_readsLetter_16 hW
theorem ctY0_readsLetter {S : St} {x1 : Int32} {x2 : Int32}  {v : Int32} {S' : St} (h : fY0_readsLetter S x1 x2 = some (v, S')) : Met l yX10_readsLetter (wm yX10_readsLetter cX10_readsLetter 3 (some .boolean)) (rmx 1 22) (pcm LY G S [.ref (ad G 0), .int x1, .int x2]) (qcI LY G S' v) 0 0 G.2.2.2 :=
  x_enter (own := RX10) rfl rfl (Nat.le_of_ble_eq_true rfl) (fun p e s m below meth c ls hC hr hk hW hl => wY0_readsLetter hC (Nat.le_refl _) (Nat.le_refl _)  h (fun H locs ls pc hz hd hW => x_retz hC hr hk hW hz hd) _ _ _ hW hl)
def fY0_readsItem (N : Nat) (S : St) (x1 : Int32) (x2 : Int32) : Option (Int32 × St) :=
  Option.bind (fY0_readsByte S x1 91) fun t1 =>
  if t1.1 = 0 then
    Option.bind (fY0_readsByte t1.2 x1 126) fun t4 =>
    if t4.1 = 0 then
      Option.bind (fY0_readsByte t4.2 x1 35) fun t7 =>
      if t7.1 = 0 then
        Option.bind (fY0_readsByte t7.2 x1 61) fun t10 =>
        if t10.1 = 0 then
          Option.bind (fY0_readsByte t10.2 x1 62) fun t13 =>
          if t13.1 = 0 then
            Option.bind (fY0_readsByte t13.2 x1 42) fun t16 =>
            if t16.1 = 0 then
              some ((-9), t16.2)
            else
              Option.bind (fY0_readsLetter t16.2 x1 x2) fun t19 =>
              if t19.1 = 0 then
                some ((-9), t19.2)
              else
                gd (inb x2 12) <|
                nx (p1 t19.2 8 (Int32.toNatClampNeg x2) (t19.2.1 0 14)) fun s23 =>
                Option.bind (fY0_readsLetter s23 x1 x2) fun t25 =>
                if t25.1 = 0 then
                  some ((-9), t25.2)
                else
                  gd (inb x2 12) <|
                  nx (p1 t25.2 9 (Int32.toNatClampNeg x2) (t25.2.1 0 14)) fun s29 =>
                  some (2, s29)
          else
            Option.bind (fY0_readsLetter t13.2 x1 x2) fun t31 =>
            if t31.1 = 0 then
              some ((-9), t31.2)
            else
              gd (inb x2 12) <|
              nx (p1 t31.2 8 (Int32.toNatClampNeg x2) (t31.2.1 0 14)) fun s35 =>
              some (4, s35)
        else
          Option.bind (fY0_isSign t10.2 x1) fun t37 =>
          if t37 = 0 then
            some ((-9), t10.2)
          else
            gd (inb x2 12) <|
            nx (p1 t10.2 8 (Int32.toNatClampNeg x2) (-9)) fun s41 =>
            Option.bind (fY0_here s41 x1) fun t43 =>
            gd (inb x2 12) <|
            nx (p1 s41 9 (Int32.toNatClampNeg x2) t43) fun s46 =>
            nx (p1 s46 0 13 ((s46.1 0 13) + 1)) fun s48 =>
            Option.bind (fY0_isSign s48 x1) fun t50 =>
            Option.bind (α := St) (
              if t50 = 0 then
                some s48
              else
                gd (inb x2 12) <|
                gd (inb x2 12) <|
                nx (p1 s48 8 (Int32.toNatClampNeg x2) (s48.1 9 (Int32.toNatClampNeg x2))) fun s58 =>
                Option.bind (fY0_here s58 x1) fun t60 =>
                gd (inb x2 12) <|
                nx (p1 s58 9 (Int32.toNatClampNeg x2) t60) fun s63 =>
                nx (p1 s63 0 13 ((s63.1 0 13) + 1)) fun s65 =>
                some s65
            ) fun t53 =>
            some (1, t53)
      else
        some (3, t7.2)
    else
      Option.bind (fY0_readsSpan N t4.2 x1 x2) fun t67 =>
      Option.bind (α := Int32) (
        if t67.1 = 0 then
          some (-9)
        else
          some 5
      ) fun t70 =>
      some (t70, t67.2)
  else
    Option.bind (fY0_readsSpan N t1.2 x1 x2) fun t73 =>
    Option.bind (α := St × Int32) (
      if t73.1 = 0 then
        some (t73.2, (-9))
      else
        Option.bind (fY0_readsByte t73.2 x1 93) fun t79 =>
        if t79.1 = 0 then
          some (t79.2, (-9))
        else
          some (t79.2, 0)
    ) fun t76 =>
    some (t76.2, t76.1)
set_option maxHeartbeats 4000000 in
set_option maxRecDepth 100000 in
theorem wY0_readsItem {N : Nat} {S : St} {x1 : Int32} {x2 : Int32} (hC : CallFix p m c cX10_readsItem 3 s args lw_g RX10) (hF : 3 ≤ R.frames) (hL : 66 ≤ R.locals)  {v : Int32} {S' : St} (h : fY0_readsItem N S x1 x2 = some (v, S')) (kr : ∀ (H : Heap) (locs : List Loc) (ls : Array Slot) (pc : Nat), decode cX10_readsItem pc = .ok (.ireturn, 1) → wg LY G (S') s H locs → W p l e R s m args below meth c H locs 0 0 Q (F0 m pc ls [.int v])) : ∀ (H : Heap) (locs : List Loc) (ls : Array Slot), wg LY G S s H locs → lv_has ls 3 [(0, .ref (ad G 0)), (1, .int x1), (2, .int x2)] → W p l e R s m args below meth c H locs 0 0 Q (F0 m 0 ls []) := by
  have hx := hC.1
  have hb := hC.2.1
  intro H locs ls hW hl
  unfold fY0_readsItem at h
  refine lv_aload_n hx hb dX10_readsItem_0 rfl (lv_at hl 0 rfl) ?_
  refine lv_iload_n hx hb dX10_readsItem_1 rfl (lv_at hl 1 rfl) ?_
  refine lv_bipush (v := 91) hx hb dX10_readsItem_2 (by decide) ?_
  obtain ⟨t1, e2, h⟩ := bd h
  refine x_goi (x_rv (rest := []) hC hW (ctY0_readsByte e2) (cwV_g hC.2.2.2.2 ml_X10_146 mi_X10_readsByte md_X10_readsByte ⟨(Nat.le_trans (Nat.le_of_ble_eq_true rfl) hF), (Nat.le_trans (Nat.le_of_ble_eq_true rfl) hL)⟩) (rcY0 hW) rfl hl.1 rfl (Nat.le_of_ble_eq_true rfl) dX10_readsItem_4) hW (fun H locs hW => ?_)
  refine lv_if_eq (tgt := 36) hx hb dX10_readsItem_7 (by decide) (fun q3 => ?_) (fun q3 => ?_)
  · have h := it_p q3 h
    refine lv_aload_n hx hb dX10_readsItem_36 rfl (lv_at hl 0 rfl) ?_
    refine lv_iload_n hx hb dX10_readsItem_37 rfl (lv_at hl 1 rfl) ?_
    refine lv_bipush (v := 126) hx hb dX10_readsItem_38 (by decide) ?_
    obtain ⟨t4, e5, h⟩ := bd h
    refine x_goi (x_rv (rest := []) hC hW (ctY0_readsByte e5) (cwV_g hC.2.2.2.2 ml_X10_146 mi_X10_readsByte md_X10_readsByte ⟨(Nat.le_trans (Nat.le_of_ble_eq_true rfl) hF), (Nat.le_trans (Nat.le_of_ble_eq_true rfl) hL)⟩) (rcY0 hW) rfl hl.1 rfl (Nat.le_of_ble_eq_true rfl) dX10_readsItem_40) hW (fun H locs hW => ?_)
    refine lv_if_eq (tgt := 62) hx hb dX10_readsItem_43 (by decide) (fun q6 => ?_) (fun q6 => ?_)
    · have h := it_p q6 h
      refine lv_aload_n hx hb dX10_readsItem_62 rfl (lv_at hl 0 rfl) ?_
      refine lv_iload_n hx hb dX10_readsItem_63 rfl (lv_at hl 1 rfl) ?_
      refine lv_bipush (v := 35) hx hb dX10_readsItem_64 (by decide) ?_
      obtain ⟨t7, e8, h⟩ := bd h
      refine x_goi (x_rv (rest := []) hC hW (ctY0_readsByte e8) (cwV_g hC.2.2.2.2 ml_X10_146 mi_X10_readsByte md_X10_readsByte ⟨(Nat.le_trans (Nat.le_of_ble_eq_true rfl) hF), (Nat.le_trans (Nat.le_of_ble_eq_true rfl) hL)⟩) (rcY0 hW) rfl hl.1 rfl (Nat.le_of_ble_eq_true rfl) dX10_readsItem_66) hW (fun H locs hW => ?_)
      refine lv_if_eq (tgt := 74) hx hb dX10_readsItem_69 (by decide) (fun q9 => ?_) (fun q9 => ?_)
      · have h := it_p q9 h
        refine lv_aload_n hx hb dX10_readsItem_74 rfl (lv_at hl 0 rfl) ?_
        refine lv_iload_n hx hb dX10_readsItem_75 rfl (lv_at hl 1 rfl) ?_
        refine lv_bipush (v := 61) hx hb dX10_readsItem_76 (by decide) ?_
        obtain ⟨t10, e11, h⟩ := bd h
        refine x_goi (x_rv (rest := []) hC hW (ctY0_readsByte e11) (cwV_g hC.2.2.2.2 ml_X10_146 mi_X10_readsByte md_X10_readsByte ⟨(Nat.le_trans (Nat.le_of_ble_eq_true rfl) hF), (Nat.le_trans (Nat.le_of_ble_eq_true rfl) hL)⟩) (rcY0 hW) rfl hl.1 rfl (Nat.le_of_ble_eq_true rfl) dX10_readsItem_78) hW (fun H locs hW => ?_)
        refine lv_if_eq (tgt := 167) hx hb dX10_readsItem_81 (by decide) (fun q12 => ?_) (fun q12 => ?_)
        · have h := it_p q12 h
          refine lv_aload_n hx hb dX10_readsItem_167 rfl (lv_at hl 0 rfl) ?_
          refine lv_iload_n hx hb dX10_readsItem_168 rfl (lv_at hl 1 rfl) ?_
          refine lv_bipush (v := 62) hx hb dX10_readsItem_169 (by decide) ?_
          obtain ⟨t13, e14, h⟩ := bd h
          refine x_goi (x_rv (rest := []) hC hW (ctY0_readsByte e14) (cwV_g hC.2.2.2.2 ml_X10_146 mi_X10_readsByte md_X10_readsByte ⟨(Nat.le_trans (Nat.le_of_ble_eq_true rfl) hF), (Nat.le_trans (Nat.le_of_ble_eq_true rfl) hL)⟩) (rcY0 hW) rfl hl.1 rfl (Nat.le_of_ble_eq_true rfl) dX10_readsItem_171) hW (fun H locs hW => ?_)
          refine lv_if_eq (tgt := 201) hx hb dX10_readsItem_174 (by decide) (fun q15 => ?_) (fun q15 => ?_)
          · have h := it_p q15 h
            refine lv_aload_n hx hb dX10_readsItem_201 rfl (lv_at hl 0 rfl) ?_
            refine lv_iload_n hx hb dX10_readsItem_202 rfl (lv_at hl 1 rfl) ?_
            refine lv_bipush (v := 42) hx hb dX10_readsItem_203 (by decide) ?_
            obtain ⟨t16, e17, h⟩ := bd h
            refine x_goi (x_rv (rest := []) hC hW (ctY0_readsByte e17) (cwV_g hC.2.2.2.2 ml_X10_146 mi_X10_readsByte md_X10_readsByte ⟨(Nat.le_trans (Nat.le_of_ble_eq_true rfl) hF), (Nat.le_trans (Nat.le_of_ble_eq_true rfl) hL)⟩) (rcY0 hW) rfl hl.1 rfl (Nat.le_of_ble_eq_true rfl) dX10_readsItem_205) hW (fun H locs hW => ?_)
            refine lv_if_eq (tgt := 220) hx hb dX10_readsItem_208 (by decide) (fun q18 => ?_) (fun q18 => ?_)
            · have h := it_p q18 h
              refine lv_bipush (v := (-9)) hx hb dX10_readsItem_220 (by decide) ?_
              cases h
              exact kr _ _ _ _ dX10_readsItem_222 hW
            · have h := it_n q18 h
              refine lv_aload_n hx hb dX10_readsItem_211 rfl (lv_at hl 0 rfl) ?_
              refine lv_iload_n hx hb dX10_readsItem_212 rfl (lv_at hl 1 rfl) ?_
              refine lv_iload_n hx hb dX10_readsItem_213 rfl (lv_at hl 2 rfl) ?_
              obtain ⟨t19, e20, h⟩ := bd h
              refine x_goi (x_rv (rest := []) hC hW (ctY0_readsLetter e20) (cwV_g hC.2.2.2.2 ml_X10_156 mi_X10_readsLetter md_X10_readsLetter ⟨(Nat.le_trans (Nat.le_of_ble_eq_true rfl) hF), (Nat.le_trans (Nat.le_of_ble_eq_true rfl) hL)⟩) (rcY0 hW) rfl hl.1 rfl (Nat.le_of_ble_eq_true rfl) dX10_readsItem_214) hW (fun H locs hW => ?_)
              refine lv_if_ne (tgt := 223) hx hb dX10_readsItem_217 (by decide) (fun q21 => ?_) (fun q21 => ?_)
              · have h := it_n q21 h
                refine lv_aload_n hx hb dX10_readsItem_223 rfl (lv_at hl 0 rfl) ?_
                refine gY0_11 hC hW dX10_readsItem_224 ?_
                refine lv_iload_n hx hb dX10_readsItem_227 rfl (lv_at hl 2 rfl) ?_
                refine lv_aload_n hx hb dX10_readsItem_228 rfl (lv_at hl 0 rfl) ?_
                refine gY0_14 hC hW dX10_readsItem_229 ?_
                obtain ⟨g22, h⟩ := gd_some h
                refine x_iast hC hW aY8 g22 dX10_readsItem_232 (fun H locs hW => ?_)
                obtain ⟨s23, e24, h⟩ := nx_some h
                rw [← e24] at hW
                refine lv_aload_n hx hb dX10_readsItem_233 rfl (lv_at hl 0 rfl) ?_
                refine lv_iload_n hx hb dX10_readsItem_234 rfl (lv_at hl 1 rfl) ?_
                refine lv_iload_n hx hb dX10_readsItem_235 rfl (lv_at hl 2 rfl) ?_
                obtain ⟨t25, e26, h⟩ := bd h
                refine x_goi (x_rv (rest := []) hC hW (ctY0_readsLetter e26) (cwV_g hC.2.2.2.2 ml_X10_156 mi_X10_readsLetter md_X10_readsLetter ⟨(Nat.le_trans (Nat.le_of_ble_eq_true rfl) hF), (Nat.le_trans (Nat.le_of_ble_eq_true rfl) hL)⟩) (rcY0 hW) rfl hl.1 rfl (Nat.le_of_ble_eq_true rfl) dX10_readsItem_236) hW (fun H locs hW => ?_)
                refine lv_if_ne (tgt := 245) hx hb dX10_readsItem_239 (by decide) (fun q27 => ?_) (fun q27 => ?_)
                · have h := it_n q27 h
                  refine lv_aload_n hx hb dX10_readsItem_245 rfl (lv_at hl 0 rfl) ?_
                  refine gY0_12 hC hW dX10_readsItem_246 ?_
                  refine lv_iload_n hx hb dX10_readsItem_249 rfl (lv_at hl 2 rfl) ?_
                  refine lv_aload_n hx hb dX10_readsItem_250 rfl (lv_at hl 0 rfl) ?_
                  refine gY0_14 hC hW dX10_readsItem_251 ?_
                  obtain ⟨g28, h⟩ := gd_some h
                  refine x_iast hC hW aY9 g28 dX10_readsItem_254 (fun H locs hW => ?_)
                  obtain ⟨s29, e30, h⟩ := nx_some h
                  rw [← e30] at hW
                  refine lv_iconst (v := 2) hx hb dX10_readsItem_255 (by decide) ?_
                  cases h
                  exact kr _ _ _ _ dX10_readsItem_256 hW
                · have h := it_p q27 h
                  refine lv_bipush (v := (-9)) hx hb dX10_readsItem_242 (by decide) ?_
                  cases h
                  exact kr _ _ _ _ dX10_readsItem_244 hW
              · have h := it_p q21 h
                refine lv_bipush (v := (-9)) hx hb dX10_readsItem_220 (by decide) ?_
                cases h
                exact kr _ _ _ _ dX10_readsItem_222 hW
          · have h := it_n q15 h
            refine lv_aload_n hx hb dX10_readsItem_177 rfl (lv_at hl 0 rfl) ?_
            refine lv_iload_n hx hb dX10_readsItem_178 rfl (lv_at hl 1 rfl) ?_
            refine lv_iload_n hx hb dX10_readsItem_179 rfl (lv_at hl 2 rfl) ?_
            obtain ⟨t31, e32, h⟩ := bd h
            refine x_goi (x_rv (rest := []) hC hW (ctY0_readsLetter e32) (cwV_g hC.2.2.2.2 ml_X10_156 mi_X10_readsLetter md_X10_readsLetter ⟨(Nat.le_trans (Nat.le_of_ble_eq_true rfl) hF), (Nat.le_trans (Nat.le_of_ble_eq_true rfl) hL)⟩) (rcY0 hW) rfl hl.1 rfl (Nat.le_of_ble_eq_true rfl) dX10_readsItem_180) hW (fun H locs hW => ?_)
            refine lv_if_ne (tgt := 189) hx hb dX10_readsItem_183 (by decide) (fun q33 => ?_) (fun q33 => ?_)
            · have h := it_n q33 h
              refine lv_aload_n hx hb dX10_readsItem_189 rfl (lv_at hl 0 rfl) ?_
              refine gY0_11 hC hW dX10_readsItem_190 ?_
              refine lv_iload_n hx hb dX10_readsItem_193 rfl (lv_at hl 2 rfl) ?_
              refine lv_aload_n hx hb dX10_readsItem_194 rfl (lv_at hl 0 rfl) ?_
              refine gY0_14 hC hW dX10_readsItem_195 ?_
              obtain ⟨g34, h⟩ := gd_some h
              refine x_iast hC hW aY8 g34 dX10_readsItem_198 (fun H locs hW => ?_)
              obtain ⟨s35, e36, h⟩ := nx_some h
              rw [← e36] at hW
              refine lv_iconst (v := 4) hx hb dX10_readsItem_199 (by decide) ?_
              cases h
              exact kr _ _ _ _ dX10_readsItem_200 hW
            · have h := it_p q33 h
              refine lv_bipush (v := (-9)) hx hb dX10_readsItem_186 (by decide) ?_
              cases h
              exact kr _ _ _ _ dX10_readsItem_188 hW
        · have h := it_n q12 h
          refine lv_aload_n hx hb dX10_readsItem_84 rfl (lv_at hl 0 rfl) ?_
          refine lv_iload_n hx hb dX10_readsItem_85 rfl (lv_at hl 1 rfl) ?_
          obtain ⟨t37, e38, h⟩ := bd h
          refine x_goi (x_rv (rest := []) hC hW (ctY0_isSign e38) (cwV_g hC.2.2.2.2 ml_X10_153 mi_X10_isSign md_X10_isSign ⟨(Nat.le_trans (Nat.le_of_ble_eq_true rfl) hF), (Nat.le_trans (Nat.le_of_ble_eq_true rfl) hL)⟩) (rcY0 hW) rfl hl.1 rfl (Nat.le_of_ble_eq_true rfl) dX10_readsItem_86) hW (fun H locs hW => ?_)
          refine lv_if_ne (tgt := 95) hx hb dX10_readsItem_89 (by decide) (fun q39 => ?_) (fun q39 => ?_)
          · have h := it_n q39 h
            refine lv_aload_n hx hb dX10_readsItem_95 rfl (lv_at hl 0 rfl) ?_
            refine gY0_11 hC hW dX10_readsItem_96 ?_
            refine lv_iload_n hx hb dX10_readsItem_99 rfl (lv_at hl 2 rfl) ?_
            refine lv_bipush (v := (-9)) hx hb dX10_readsItem_100 (by decide) ?_
            obtain ⟨g40, h⟩ := gd_some h
            refine x_iast hC hW aY8 g40 dX10_readsItem_102 (fun H locs hW => ?_)
            obtain ⟨s41, e42, h⟩ := nx_some h
            rw [← e42] at hW
            refine lv_aload_n hx hb dX10_readsItem_103 rfl (lv_at hl 0 rfl) ?_
            refine gY0_12 hC hW dX10_readsItem_104 ?_
            refine lv_iload_n hx hb dX10_readsItem_107 rfl (lv_at hl 2 rfl) ?_
            refine lv_aload_n hx hb dX10_readsItem_108 rfl (lv_at hl 0 rfl) ?_
            refine lv_iload_n hx hb dX10_readsItem_109 rfl (lv_at hl 1 rfl) ?_
            obtain ⟨t43, e44, h⟩ := bd h
            refine x_goi (x_rv (rest := [.int x2, .ref (ad G 9)]) hC hW (ctY0_here e44) (cwV_g hC.2.2.2.2 ml_X10_137 mi_X10_here md_X10_here ⟨(Nat.le_trans (Nat.le_of_ble_eq_true rfl) hF), (Nat.le_trans (Nat.le_of_ble_eq_true rfl) hL)⟩) (rcY0 hW) rfl hl.1 rfl (Nat.le_of_ble_eq_true rfl) dX10_readsItem_110) hW (fun H locs hW => ?_)
            obtain ⟨g45, h⟩ := gd_some h
            refine x_iast hC hW aY9 g45 dX10_readsItem_113 (fun H locs hW => ?_)
            obtain ⟨s46, e47, h⟩ := nx_some h
            rw [← e47] at hW
            refine lv_aload_n hx hb dX10_readsItem_114 rfl (lv_at hl 0 rfl) ?_
            refine lv_dup hx hb dX10_readsItem_115 rfl ?_
            refine gY0_13 hC hW dX10_readsItem_116 ?_
            refine lv_iconst (v := 1) hx hb dX10_readsItem_119 (by decide) ?_
            refine lv_iadd hx hb dX10_readsItem_120 ?_
            refine pY0_13 hC hW dX10_readsItem_121 (fun H locs hW => ?_)
            obtain ⟨s48, e49, h⟩ := nx_some h
            rw [← e49] at hW
            refine lv_aload_n hx hb dX10_readsItem_124 rfl (lv_at hl 0 rfl) ?_
            refine lv_iload_n hx hb dX10_readsItem_125 rfl (lv_at hl 1 rfl) ?_
            obtain ⟨t50, e51, h⟩ := bd h
            refine x_goi (x_rv (rest := []) hC hW (ctY0_isSign e51) (cwV_g hC.2.2.2.2 ml_X10_153 mi_X10_isSign md_X10_isSign ⟨(Nat.le_trans (Nat.le_of_ble_eq_true rfl) hF), (Nat.le_trans (Nat.le_of_ble_eq_true rfl) hL)⟩) (rcY0 hW) rfl hl.1 rfl (Nat.le_of_ble_eq_true rfl) dX10_readsItem_126) hW (fun H locs hW => ?_)
            obtain ⟨t53, e54, h⟩ := bd h
            have K52 : ∀ (H : Heap) (locs : List Loc) (ls : Array Slot), wg LY G t53 s H locs → lv_has ls 3 [] → W p l e R s m args below meth c H locs 0 0 Q (F0 m 165 ls []) := by
              intro H locs ls hW hl
              refine lv_iconst (v := 1) hx hb dX10_readsItem_165 (by decide) ?_
              cases h
              exact kr _ _ _ _ dX10_readsItem_166 hW
            clear h
            have h := e54
            clear e54
            refine lv_if_eq (tgt := 165) hx hb dX10_readsItem_129 (by decide) (fun q55 => ?_) (fun q55 => ?_)
            · have h := it_p q55 h
              cases h
              exact K52 _ _ _ hW (lv_sub hl [] rfl)
            · have h := it_n q55 h
              refine lv_aload_n hx hb dX10_readsItem_132 rfl (lv_at hl 0 rfl) ?_
              refine gY0_11 hC hW dX10_readsItem_133 ?_
              refine lv_iload_n hx hb dX10_readsItem_136 rfl (lv_at hl 2 rfl) ?_
              refine lv_aload_n hx hb dX10_readsItem_137 rfl (lv_at hl 0 rfl) ?_
              refine gY0_12 hC hW dX10_readsItem_138 ?_
              refine lv_iload_n hx hb dX10_readsItem_141 rfl (lv_at hl 2 rfl) ?_
              obtain ⟨g56, h⟩ := gd_some h
              refine x_iald hC hW aY9 g56 dX10_readsItem_142 ?_
              obtain ⟨g57, h⟩ := gd_some h
              refine x_iast hC hW aY8 g57 dX10_readsItem_143 (fun H locs hW => ?_)
              obtain ⟨s58, e59, h⟩ := nx_some h
              rw [← e59] at hW
              refine lv_aload_n hx hb dX10_readsItem_144 rfl (lv_at hl 0 rfl) ?_
              refine gY0_12 hC hW dX10_readsItem_145 ?_
              refine lv_iload_n hx hb dX10_readsItem_148 rfl (lv_at hl 2 rfl) ?_
              refine lv_aload_n hx hb dX10_readsItem_149 rfl (lv_at hl 0 rfl) ?_
              refine lv_iload_n hx hb dX10_readsItem_150 rfl (lv_at hl 1 rfl) ?_
              obtain ⟨t60, e61, h⟩ := bd h
              refine x_goi (x_rv (rest := [.int x2, .ref (ad G 9)]) hC hW (ctY0_here e61) (cwV_g hC.2.2.2.2 ml_X10_137 mi_X10_here md_X10_here ⟨(Nat.le_trans (Nat.le_of_ble_eq_true rfl) hF), (Nat.le_trans (Nat.le_of_ble_eq_true rfl) hL)⟩) (rcY0 hW) rfl hl.1 rfl (Nat.le_of_ble_eq_true rfl) dX10_readsItem_151) hW (fun H locs hW => ?_)
              obtain ⟨g62, h⟩ := gd_some h
              refine x_iast hC hW aY9 g62 dX10_readsItem_154 (fun H locs hW => ?_)
              obtain ⟨s63, e64, h⟩ := nx_some h
              rw [← e64] at hW
              refine lv_aload_n hx hb dX10_readsItem_155 rfl (lv_at hl 0 rfl) ?_
              refine lv_dup hx hb dX10_readsItem_156 rfl ?_
              refine gY0_13 hC hW dX10_readsItem_157 ?_
              refine lv_iconst (v := 1) hx hb dX10_readsItem_160 (by decide) ?_
              refine lv_iadd hx hb dX10_readsItem_161 ?_
              refine pY0_13 hC hW dX10_readsItem_162 (fun H locs hW => ?_)
              obtain ⟨s65, e66, h⟩ := nx_some h
              rw [← e66] at hW
              cases h
              exact K52 _ _ _ hW (lv_sub hl [] rfl)
          · have h := it_p q39 h
            refine lv_bipush (v := (-9)) hx hb dX10_readsItem_92 (by decide) ?_
            cases h
            exact kr _ _ _ _ dX10_readsItem_94 hW
      · have h := it_n q9 h
        refine lv_iconst (v := 3) hx hb dX10_readsItem_72 (by decide) ?_
        cases h
        exact kr _ _ _ _ dX10_readsItem_73 hW
    · have h := it_n q6 h
      refine lv_aload_n hx hb dX10_readsItem_46 rfl (lv_at hl 0 rfl) ?_
      refine lv_iload_n hx hb dX10_readsItem_47 rfl (lv_at hl 1 rfl) ?_
      refine lv_iload_n hx hb dX10_readsItem_48 rfl (lv_at hl 2 rfl) ?_
      obtain ⟨t67, e68, h⟩ := bd h
      refine x_goi (x_rv (rest := []) hC hW (ctY0_readsSpan e68) (cwV_g hC.2.2.2.2 ml_X10_150 mi_X10_readsSpan md_X10_readsSpan ⟨(Nat.le_trans (Nat.le_of_ble_eq_true rfl) hF), (Nat.le_trans (Nat.le_of_ble_eq_true rfl) hL)⟩) (rcY0 hW) rfl hl.1 rfl (Nat.le_of_ble_eq_true rfl) dX10_readsItem_49) hW (fun H locs hW => ?_)
      obtain ⟨t70, e71, h⟩ := bd h
      have K69 : ∀ (H : Heap) (locs : List Loc) (ls : Array Slot), wg LY G t67.2 s H locs → lv_has ls 3 [] → W p l e R s m args below meth c H locs 0 0 Q (F0 m 61 ls [.int t70]) := by
        intro H locs ls hW hl
        cases h
        exact kr _ _ _ _ dX10_readsItem_61 hW
      clear h
      have h := e71
      clear e71
      refine lv_if_eq (tgt := 59) hx hb dX10_readsItem_52 (by decide) (fun q72 => ?_) (fun q72 => ?_)
      · have h := it_p q72 h
        refine lv_bipush (v := (-9)) hx hb dX10_readsItem_59 (by decide) ?_
        cases h
        exact K69 _ _ _ hW (lv_sub hl [] rfl)
      · have h := it_n q72 h
        refine lv_iconst (v := 5) hx hb dX10_readsItem_55 (by decide) ?_
        refine lv_goto (tgt := 61) hx hb dX10_readsItem_56 (by decide) ?_
        cases h
        exact K69 _ _ _ hW (lv_sub hl [] rfl)
  · have h := it_n q3 h
    refine lv_aload_n hx hb dX10_readsItem_10 rfl (lv_at hl 0 rfl) ?_
    refine lv_iload_n hx hb dX10_readsItem_11 rfl (lv_at hl 1 rfl) ?_
    refine lv_iload_n hx hb dX10_readsItem_12 rfl (lv_at hl 2 rfl) ?_
    obtain ⟨t73, e74, h⟩ := bd h
    refine x_goi (x_rv (rest := []) hC hW (ctY0_readsSpan e74) (cwV_g hC.2.2.2.2 ml_X10_150 mi_X10_readsSpan md_X10_readsSpan ⟨(Nat.le_trans (Nat.le_of_ble_eq_true rfl) hF), (Nat.le_trans (Nat.le_of_ble_eq_true rfl) hL)⟩) (rcY0 hW) rfl hl.1 rfl (Nat.le_of_ble_eq_true rfl) dX10_readsItem_13) hW (fun H locs hW => ?_)
    obtain ⟨t76, e77, h⟩ := bd h
    have K75 : ∀ (H : Heap) (locs : List Loc) (ls : Array Slot), wg LY G t76.1 s H locs → lv_has ls 3 [] → W p l e R s m args below meth c H locs 0 0 Q (F0 m 35 ls [.int t76.2]) := by
      intro H locs ls hW hl
      cases h
      exact kr _ _ _ _ dX10_readsItem_35 hW
    clear h
    have h := e77
    clear e77
    refine lv_if_eq (tgt := 33) hx hb dX10_readsItem_16 (by decide) (fun q78 => ?_) (fun q78 => ?_)
    · have h := it_p q78 h
      refine lv_bipush (v := (-9)) hx hb dX10_readsItem_33 (by decide) ?_
      cases h
      exact K75 _ _ _ hW (lv_sub hl [] rfl)
    · have h := it_n q78 h
      refine lv_aload_n hx hb dX10_readsItem_19 rfl (lv_at hl 0 rfl) ?_
      refine lv_iload_n hx hb dX10_readsItem_20 rfl (lv_at hl 1 rfl) ?_
      refine lv_bipush (v := 93) hx hb dX10_readsItem_21 (by decide) ?_
      obtain ⟨t79, e80, h⟩ := bd h
      refine x_goi (x_rv (rest := []) hC hW (ctY0_readsByte e80) (cwV_g hC.2.2.2.2 ml_X10_146 mi_X10_readsByte md_X10_readsByte ⟨(Nat.le_trans (Nat.le_of_ble_eq_true rfl) hF), (Nat.le_trans (Nat.le_of_ble_eq_true rfl) hL)⟩) (rcY0 hW) rfl hl.1 rfl (Nat.le_of_ble_eq_true rfl) dX10_readsItem_23) hW (fun H locs hW => ?_)
      refine lv_if_eq (tgt := 33) hx hb dX10_readsItem_26 (by decide) (fun q81 => ?_) (fun q81 => ?_)
      · have h := it_p q81 h
        refine lv_bipush (v := (-9)) hx hb dX10_readsItem_33 (by decide) ?_
        cases h
        exact K75 _ _ _ hW (lv_sub hl [] rfl)
      · have h := it_n q81 h
        refine lv_iconst (v := 0) hx hb dX10_readsItem_29 (by decide) ?_
        refine lv_goto (tgt := 35) hx hb dX10_readsItem_30 (by decide) ?_
        cases h
        exact K75 _ _ _ hW (lv_sub hl [] rfl)
theorem ctY0_readsItem {N : Nat} {S : St} {x1 : Int32} {x2 : Int32}  {v : Int32} {S' : St} (h : fY0_readsItem N S x1 x2 = some (v, S')) : Met l yX10_readsItem (wm yX10_readsItem cX10_readsItem 3 (some .int)) (rmx 3 66) (pcm LY G S [.ref (ad G 0), .int x1, .int x2]) (qcI LY G S' v) 0 0 G.2.2.2 :=
  x_enter (own := RX10) rfl rfl (Nat.le_of_ble_eq_true rfl) (fun p e s m below meth c ls hC hr hk hW hl => wY0_readsItem hC (Nat.le_refl _) (Nat.le_refl _)  h (fun H locs ls pc hd hW => x_reti hC hr hk hW hd) _ _ _ hW hl)
def fY0_reads_L2 (N : Nat) (x1 : Int32) : Nat → St → Int32 → Option (St)
  | 0, _, _ => none
  | n + 1, S, x2 =>
    if 12 ≤ x2 then
      some S
    else
      gd (inb x2 12) <|
      nx (p1 S 7 (Int32.toNatClampNeg x2) (-9)) fun s3 =>
      fY0_reads_L2 N x1 n s3 (x2 + 1)
set_option maxHeartbeats 4000000 in
set_option maxRecDepth 100000 in
theorem wY0_reads_L2 {N : Nat} {x1 : Int32} (hC : CallFix p m c cX10_reads 4 s args lw_g RX10) (hF : 4 ≤ R.frames) (hL : 88 ≤ R.locals)  {t : St} (kx : ∀ (H : Heap) (locs : List Loc) (ls : Array Slot), wg LY G t s H locs → lv_has ls 4 [(0, .ref (ad G 0)), (1, .int x1)] → W p l e R s m args below meth c H locs 0 0 Q (F0 m 22 ls [])) : ∀ (n : Nat) (S : St) (x2 : Int32), fY0_reads_L2 N x1 n S x2 = some t → ∀ (H : Heap) (locs : List Loc) (ls : Array Slot), wg LY G S s H locs → lv_has ls 4 [(0, .ref (ad G 0)), (1, .int x1), (2, .int x2)] → W p l e R s m args below meth c H locs 0 0 Q (F0 m 2 ls []) := by
  have hx := hC.1
  have hb := hC.2.1
  intro n
  induction n with
  | zero =>
    intro _ _ h
    cases h
  | succ n ih =>
    intro S x2 h H locs ls hW hl
    rw [fY0_reads_L2] at h
    refine lv_iload_n hx hb dX10_reads_2 rfl (lv_at hl 2 rfl) ?_
    refine lv_bipush (v := 12) hx hb dX10_reads_3 (by decide) ?_
    refine lv_icmp_ge (tgt := 22) hx hb dX10_reads_5 (by decide) (fun q1 => ?_) (fun q1 => ?_)
    · have h := it_p q1 h
      cases h
      exact kx _ _ _ hW (lv_sub hl [0, 1] rfl)
    · have h := it_n q1 h
      refine lv_aload_n hx hb dX10_reads_8 rfl (lv_at hl 0 rfl) ?_
      refine gY0_10 hC hW dX10_reads_9 ?_
      refine lv_iload_n hx hb dX10_reads_12 rfl (lv_at hl 2 rfl) ?_
      refine lv_bipush (v := (-9)) hx hb dX10_reads_13 (by decide) ?_
      obtain ⟨g2, h⟩ := gd_some h
      refine x_iast hC hW aY7 g2 dX10_reads_15 (fun H locs hW => ?_)
      obtain ⟨s3, e4, h⟩ := nx_some h
      rw [← e4] at hW
      refine lv_iinc (v := x2 + 1) (lv' := [(2, .int (x2 + 1)), (0, .ref (ad G 0)), (1, .int x1)]) (k := 2) hx hb dX10_reads_16 hl rfl rfl (by decide) rfl (fun ls hl => ?_)
      refine lv_goto (tgt := 2) hx hb dX10_reads_19 (by decide) ?_
      exact ih _ _ h _ _ _ hW (lv_sub hl [1, 2, 0] rfl)
def fY0_reads_L27 (N : Nat) (x1 : Int32) : Nat → St → Option ((Int32 × St) ⊕ (St))
  | 0, _ => none
  | n + 1, S =>
    gd (inb x1 4) <|
    if (S.1 5 (Int32.toNatClampNeg x1)) ≤ (S.1 0 13) then
      some (.inr S)
    else
      Option.bind (fY0_here S x1) fun t11 =>
      if t11 = 32 then
        nx (p1 S 0 13 ((S.1 0 13) + 1)) fun s29 =>
        fY0_reads_L27 N x1 n s29
      else
        Option.bind (fY0_here S x1) fun t14 =>
        Option.bind (fYs_in S t14 97 108) fun t16 =>
        if t16 = 0 then
          some (.inl (S.1 0 13, S))
        else
          Option.bind (fY0_here S x1) fun t19 =>
          nx (p1 S 0 13 ((S.1 0 13) + 1)) fun s21 =>
          Option.bind (fY0_readsItem N s21 x1 (t19 - 97)) fun t23 =>
          if 0 ≤ t23.1 then
            gd (inb (t19 - 97) 12) <|
            nx (p1 t23.2 7 (Int32.toNatClampNeg (t19 - 97)) t23.1) fun s27 =>
            fY0_reads_L27 N x1 n s27
          else
            some (.inl (t23.2.1 0 13, t23.2))
set_option maxHeartbeats 4000000 in
set_option maxRecDepth 100000 in
theorem wY0_reads_L27 {N : Nat} {x1 : Int32} (hC : CallFix p m c cX10_reads 4 s args lw_g RX10) (hF : 4 ≤ R.frames) (hL : 88 ≤ R.locals)  {t : (Int32 × St) ⊕ (St)} (kr : ∀ r, t = .inl r → ∀ (H : Heap) (locs : List Loc) (ls : Array Slot) (pc : Nat), decode cX10_reads pc = .ok (.ireturn, 1) → wg LY G r.2 s H locs → W p l e R s m args below meth c H locs 0 0 Q (F0 m pc ls [.int r.1])) (kx : ∀ u, t = .inr u → ∀ (H : Heap) (locs : List Loc) (ls : Array Slot), wg LY G u s H locs → lv_has ls 4 [] → W p l e R s m args below meth c H locs 0 0 Q (F0 m 128 ls [])) : ∀ (n : Nat) (S : St), fY0_reads_L27 N x1 n S = some t → ∀ (H : Heap) (locs : List Loc) (ls : Array Slot), wg LY G S s H locs → lv_has ls 4 [(0, .ref (ad G 0)), (1, .int x1)] → W p l e R s m args below meth c H locs 0 0 Q (F0 m 27 ls []) := by
  have hx := hC.1
  have hb := hC.2.1
  intro n
  induction n with
  | zero =>
    intro _ h
    cases h
  | succ n ih =>
    intro S h H locs ls hW hl
    rw [fY0_reads_L27] at h
    refine lv_aload_n hx hb dX10_reads_27 rfl (lv_at hl 0 rfl) ?_
    refine gY0_13 hC hW dX10_reads_28 ?_
    refine lv_aload_n hx hb dX10_reads_31 rfl (lv_at hl 0 rfl) ?_
    refine gY0_8 hC hW dX10_reads_32 ?_
    refine lv_iload_n hx hb dX10_reads_35 rfl (lv_at hl 1 rfl) ?_
    obtain ⟨g9, h⟩ := gd_some h
    refine x_iald hC hW aY5 g9 dX10_reads_36 ?_
    refine lv_icmp_ge (tgt := 128) hx hb dX10_reads_37 (by decide) (fun q10 => ?_) (fun q10 => ?_)
    · have h := it_p q10 h
      cases h
      exact kx _ rfl _ _ _ hW (lv_sub hl [] rfl)
    · have h := it_n q10 h
      refine lv_aload_n hx hb dX10_reads_40 rfl (lv_at hl 0 rfl) ?_
      refine lv_iload_n hx hb dX10_reads_41 rfl (lv_at hl 1 rfl) ?_
      obtain ⟨t11, e12, h⟩ := bd h
      refine x_goi (x_rv (rest := []) hC hW (ctY0_here e12) (cwV_g hC.2.2.2.2 ml_X10_137 mi_X10_here md_X10_here ⟨(Nat.le_trans (Nat.le_of_ble_eq_true rfl) hF), (Nat.le_trans (Nat.le_of_ble_eq_true rfl) hL)⟩) (rcY0 hW) rfl hl.1 rfl (Nat.le_of_ble_eq_true rfl) dX10_reads_42) hW (fun H locs hW => ?_)
      refine lv_bipush (v := 32) hx hb dX10_reads_45 (by decide) ?_
      refine lv_icmp_ne (tgt := 63) hx hb dX10_reads_47 (by decide) (fun q13 => ?_) (fun q13 => ?_)
      · have h := it_n q13 h
        refine lv_aload_n hx hb dX10_reads_63 rfl (lv_at hl 0 rfl) ?_
        refine lv_iload_n hx hb dX10_reads_64 rfl (lv_at hl 1 rfl) ?_
        obtain ⟨t14, e15, h⟩ := bd h
        refine x_goi (x_rv (rest := []) hC hW (ctY0_here e15) (cwV_g hC.2.2.2.2 ml_X10_137 mi_X10_here md_X10_here ⟨(Nat.le_trans (Nat.le_of_ble_eq_true rfl) hF), (Nat.le_trans (Nat.le_of_ble_eq_true rfl) hL)⟩) (rcY0 hW) rfl hl.1 rfl (Nat.le_of_ble_eq_true rfl) dX10_reads_65) hW (fun H locs hW => ?_)
        refine lv_bipush (v := 97) hx hb dX10_reads_68 (by decide) ?_
        refine lv_bipush (v := 108) hx hb dX10_reads_70 (by decide) ?_
        obtain ⟨t16, e17, h⟩ := bd h
        refine x_goi (x_rs (rest := []) hC hW (ctYs_in e17) (cwS_g hC.2.2.2.2 ml_X10_103 ms_X10_in md_X10_in ⟨(Nat.le_trans (Nat.le_of_ble_eq_true rfl) hF), (Nat.le_trans (Nat.le_of_ble_eq_true rfl) hL)⟩) rfl hl.1 rfl (Nat.le_of_ble_eq_true rfl) dX10_reads_72) hW (fun H locs hW => ?_)
        refine lv_if_ne (tgt := 83) hx hb dX10_reads_75 (by decide) (fun q18 => ?_) (fun q18 => ?_)
        · have h := it_n q18 h
          refine lv_aload_n hx hb dX10_reads_83 rfl (lv_at hl 0 rfl) ?_
          refine lv_iload_n hx hb dX10_reads_84 rfl (lv_at hl 1 rfl) ?_
          obtain ⟨t19, e20, h⟩ := bd h
          refine x_goi (x_rv (rest := []) hC hW (ctY0_here e20) (cwV_g hC.2.2.2.2 ml_X10_137 mi_X10_here md_X10_here ⟨(Nat.le_trans (Nat.le_of_ble_eq_true rfl) hF), (Nat.le_trans (Nat.le_of_ble_eq_true rfl) hL)⟩) (rcY0 hW) rfl hl.1 rfl (Nat.le_of_ble_eq_true rfl) dX10_reads_85) hW (fun H locs hW => ?_)
          refine lv_bipush (v := 97) hx hb dX10_reads_88 (by decide) ?_
          refine lv_isub hx hb dX10_reads_90 ?_
          refine lv_istore_n (lv' := [(2, .int (t19 - 97)), (0, .ref (ad G 0)), (1, .int x1)]) hx hb dX10_reads_91 rfl hl (by decide) rfl (fun ls hl => ?_)
          refine lv_aload_n hx hb dX10_reads_92 rfl (lv_at hl 1 rfl) ?_
          refine lv_dup hx hb dX10_reads_93 rfl ?_
          refine gY0_13 hC hW dX10_reads_94 ?_
          refine lv_iconst (v := 1) hx hb dX10_reads_97 (by decide) ?_
          refine lv_iadd hx hb dX10_reads_98 ?_
          refine pY0_13 hC hW dX10_reads_99 (fun H locs hW => ?_)
          obtain ⟨s21, e22, h⟩ := nx_some h
          rw [← e22] at hW
          refine lv_aload_n hx hb dX10_reads_102 rfl (lv_at hl 1 rfl) ?_
          refine lv_iload_n hx hb dX10_reads_103 rfl (lv_at hl 2 rfl) ?_
          refine lv_iload_n hx hb dX10_reads_104 rfl (lv_at hl 0 rfl) ?_
          obtain ⟨t23, e24, h⟩ := bd h
          refine x_goi (x_rv (rest := []) hC hW (ctY0_readsItem e24) (cwV_g hC.2.2.2.2 ml_X10_159 mi_X10_readsItem md_X10_readsItem ⟨(Nat.le_trans (Nat.le_of_ble_eq_true rfl) hF), (Nat.le_trans (Nat.le_of_ble_eq_true rfl) hL)⟩) (rcY0 hW) rfl hl.1 rfl (Nat.le_of_ble_eq_true rfl) dX10_reads_105) hW (fun H locs hW => ?_)
          refine lv_istore_n (lv' := [(3, .int t23.1), (2, .int (t19 - 97)), (0, .ref (ad G 0)), (1, .int x1)]) hx hb dX10_reads_108 rfl hl (by decide) rfl (fun ls hl => ?_)
          refine lv_iload_n hx hb dX10_reads_109 rfl (lv_at hl 0 rfl) ?_
          refine lv_if_ge (tgt := 118) hx hb dX10_reads_110 (by decide) (fun q25 => ?_) (fun q25 => ?_)
          · have h := it_p q25 h
            refine lv_aload_n hx hb dX10_reads_118 rfl (lv_at hl 2 rfl) ?_
            refine gY0_10 hC hW dX10_reads_119 ?_
            refine lv_iload_n hx hb dX10_reads_122 rfl (lv_at hl 1 rfl) ?_
            refine lv_iload_n hx hb dX10_reads_123 rfl (lv_at hl 0 rfl) ?_
            obtain ⟨g26, h⟩ := gd_some h
            refine x_iast hC hW aY7 g26 dX10_reads_124 (fun H locs hW => ?_)
            obtain ⟨s27, e28, h⟩ := nx_some h
            rw [← e28] at hW
            refine lv_goto (tgt := 27) hx hb dX10_reads_125 (by decide) ?_
            exact ih _ h _ _ _ hW (lv_sub hl [2, 3] rfl)
          · have h := it_n q25 h
            refine lv_aload_n hx hb dX10_reads_113 rfl (lv_at hl 2 rfl) ?_
            refine gY0_13 hC hW dX10_reads_114 ?_
            cases h
            exact kr _ rfl _ _ _ _ dX10_reads_117 hW
        · have h := it_p q18 h
          refine lv_aload_n hx hb dX10_reads_78 rfl (lv_at hl 0 rfl) ?_
          refine gY0_13 hC hW dX10_reads_79 ?_
          cases h
          exact kr _ rfl _ _ _ _ dX10_reads_82 hW
      · have h := it_p q13 h
        refine lv_aload_n hx hb dX10_reads_50 rfl (lv_at hl 0 rfl) ?_
        refine lv_dup hx hb dX10_reads_51 rfl ?_
        refine gY0_13 hC hW dX10_reads_52 ?_
        refine lv_iconst (v := 1) hx hb dX10_reads_55 (by decide) ?_
        refine lv_iadd hx hb dX10_reads_56 ?_
        refine pY0_13 hC hW dX10_reads_57 (fun H locs hW => ?_)
        obtain ⟨s29, e30, h⟩ := nx_some h
        rw [← e30] at hW
        refine lv_goto (tgt := 27) hx hb dX10_reads_60 (by decide) ?_
        exact ih _ h _ _ _ hW (lv_sub hl [0, 1] rfl)
def fY0_reads (N : Nat) (S : St) (x1 : Int32) : Option (Int32 × St) :=
  Option.bind (fY0_reads_L2 N x1 N S 0) fun t5 =>
  nx (p1 t5 0 13 0) fun s7 =>
  Option.bind (fY0_reads_L27 N x1 N s7) fun t31 => sm t31 fun u33 =>
  some ((-9), u33)
set_option maxHeartbeats 4000000 in
set_option maxRecDepth 100000 in
theorem wY0_reads {N : Nat} {S : St} {x1 : Int32} (hC : CallFix p m c cX10_reads 4 s args lw_g RX10) (hF : 4 ≤ R.frames) (hL : 88 ≤ R.locals)  {v : Int32} {S' : St} (h : fY0_reads N S x1 = some (v, S')) (kr : ∀ (H : Heap) (locs : List Loc) (ls : Array Slot) (pc : Nat), decode cX10_reads pc = .ok (.ireturn, 1) → wg LY G (S') s H locs → W p l e R s m args below meth c H locs 0 0 Q (F0 m pc ls [.int v])) : ∀ (H : Heap) (locs : List Loc) (ls : Array Slot), wg LY G S s H locs → lv_has ls 4 [(0, .ref (ad G 0)), (1, .int x1)] → W p l e R s m args below meth c H locs 0 0 Q (F0 m 0 ls []) := by
  have hx := hC.1
  have hb := hC.2.1
  intro H locs ls hW hl
  unfold fY0_reads at h
  refine lv_iconst (v := 0) hx hb dX10_reads_0 (by decide) ?_
  refine lv_istore_n (lv' := [(2, .int 0), (0, .ref (ad G 0)), (1, .int x1)]) hx hb dX10_reads_1 rfl hl (by decide) rfl (fun ls hl => ?_)
  obtain ⟨t5, e6, h⟩ := bd h
  refine wY0_reads_L2 hC hF hL  (fun H locs ls hW hl => ?_) _ _ _ e6 _ _ _ hW (lv_sub hl [1, 2, 0] rfl)
  refine lv_aload_n hx hb dX10_reads_22 rfl (lv_at hl 0 rfl) ?_
  refine lv_iconst (v := 0) hx hb dX10_reads_23 (by decide) ?_
  refine pY0_13 hC hW dX10_reads_24 (fun H locs hW => ?_)
  obtain ⟨s7, e8, h⟩ := nx_some h
  rw [← e8] at hW
  obtain ⟨t31, e32, h⟩ := bd h
  refine wY0_reads_L27 hC hF hL  (fun r er H locs ls pc hd hW => ?_) (fun u33 eu H locs ls hW hl => ?_) _ _ e32 _ _ _ hW (lv_sub hl [0, 1] rfl)
  · rw [er] at h
    have h := sm_l h
    cases h
    exact kr _ _ _ _ hd hW
  · rw [eu] at h
    have h := sm_r h
    refine lv_bipush (v := (-9)) hx hb dX10_reads_128 (by decide) ?_
    cases h
    exact kr _ _ _ _ dX10_reads_130 hW
theorem ctY0_reads {N : Nat} {S : St} {x1 : Int32}  {v : Int32} {S' : St} (h : fY0_reads N S x1 = some (v, S')) : Met l yX10_reads (wm yX10_reads cX10_reads 4 (some .int)) (rmx 4 88) (pcm LY G S [.ref (ad G 0), .int x1]) (qcI LY G S' v) 0 0 G.2.2.2 :=
  x_enter (own := RX10) rfl rfl (Nat.le_of_ble_eq_true rfl) (fun p e s m below meth c ls hC hr hk hW hl => wY0_reads hC (Nat.le_refl _) (Nat.le_refl _)  h (fun H locs ls pc hd hW => x_reti hC hr hk hW hd) _ _ _ hW hl)
def fY0_fault (N : Nat) (S : St) (x1 : Int32) : Option (Int32 × St) :=
  Option.bind (fY0_askedText S x1) fun t1 =>
  Option.bind (α := St × Int32) (
    if 0 ≤ t1.1 then
      Option.bind (fY0_reads N t1.2 x1) fun t7 =>
      some (t7.2, t7.1)
    else
      some (t1.2, t1.1)
  ) fun t4 =>
  some (t4.2, t4.1)
set_option maxHeartbeats 4000000 in
set_option maxRecDepth 100000 in
theorem wY0_fault {N : Nat} {S : St} {x1 : Int32} (hC : CallFix p m c cX10_fault 3 s args lw_g RX10) (hF : 5 ≤ R.frames) (hL : 111 ≤ R.locals)  {v : Int32} {S' : St} (h : fY0_fault N S x1 = some (v, S')) (kr : ∀ (H : Heap) (locs : List Loc) (ls : Array Slot) (pc : Nat), decode cX10_fault pc = .ok (.ireturn, 1) → wg LY G (S') s H locs → W p l e R s m args below meth c H locs 0 0 Q (F0 m pc ls [.int v])) : ∀ (H : Heap) (locs : List Loc) (ls : Array Slot), wg LY G S s H locs → lv_has ls 3 [(0, .ref (ad G 0)), (1, .int x1)] → W p l e R s m args below meth c H locs 0 0 Q (F0 m 0 ls []) := by
  have hx := hC.1
  have hb := hC.2.1
  intro H locs ls hW hl
  unfold fY0_fault at h
  refine lv_aload_n hx hb dX10_fault_0 rfl (lv_at hl 0 rfl) ?_
  refine lv_iload_n hx hb dX10_fault_1 rfl (lv_at hl 1 rfl) ?_
  obtain ⟨t1, e2, h⟩ := bd h
  refine x_goi (x_rv (rest := []) hC hW (ctY0_askedText e2) (cwV_g hC.2.2.2.2 ml_X10_131 mi_X10_askedText md_X10_askedText ⟨(Nat.le_trans (Nat.le_of_ble_eq_true rfl) hF), (Nat.le_trans (Nat.le_of_ble_eq_true rfl) hL)⟩) (rcY0 hW) rfl hl.1 rfl (Nat.le_of_ble_eq_true rfl) dX10_fault_2) hW (fun H locs hW => ?_)
  refine lv_istore_n (lv' := [(2, .int t1.1), (0, .ref (ad G 0)), (1, .int x1)]) hx hb dX10_fault_5 rfl hl (by decide) rfl (fun ls hl => ?_)
  refine lv_iload_n hx hb dX10_fault_6 rfl (lv_at hl 0 rfl) ?_
  obtain ⟨t4, e5, h⟩ := bd h
  have K3 : ∀ (H : Heap) (locs : List Loc) (ls : Array Slot), wg LY G t4.1 s H locs → lv_has ls 3 [] → W p l e R s m args below meth c H locs 0 0 Q (F0 m 19 ls [.int t4.2]) := by
    intro H locs ls hW hl
    cases h
    exact kr _ _ _ _ dX10_fault_19 hW
  clear h
  have h := e5
  clear e5
  refine lv_if_ge (tgt := 14) hx hb dX10_fault_7 (by decide) (fun q6 => ?_) (fun q6 => ?_)
  · have h := it_p q6 h
    refine lv_aload_n hx hb dX10_fault_14 rfl (lv_at hl 1 rfl) ?_
    refine lv_iload_n hx hb dX10_fault_15 rfl (lv_at hl 2 rfl) ?_
    obtain ⟨t7, e8, h⟩ := bd h
    refine x_goi (x_rv (rest := []) hC hW (ctY0_reads e8) (cwV_g hC.2.2.2.2 ml_X10_162 mi_X10_reads md_X10_reads ⟨(Nat.le_trans (Nat.le_of_ble_eq_true rfl) hF), (Nat.le_trans (Nat.le_of_ble_eq_true rfl) hL)⟩) (rcY0 hW) rfl hl.1 rfl (Nat.le_of_ble_eq_true rfl) dX10_fault_16) hW (fun H locs hW => ?_)
    cases h
    exact K3 _ _ _ hW (lv_sub hl [] rfl)
  · have h := it_n q6 h
    refine lv_iload_n hx hb dX10_fault_10 rfl (lv_at hl 0 rfl) ?_
    refine lv_goto (tgt := 19) hx hb dX10_fault_11 (by decide) ?_
    cases h
    exact K3 _ _ _ hW (lv_sub hl [] rfl)
theorem ctY0_fault {N : Nat} {S : St} {x1 : Int32}  {v : Int32} {S' : St} (h : fY0_fault N S x1 = some (v, S')) : Met l yX10_fault (wm yX10_fault cX10_fault 3 (some .int)) (rmx 5 111) (pcm LY G S [.ref (ad G 0), .int x1]) (qcI LY G S' v) 0 0 G.2.2.2 :=
  x_enter (own := RX10) rfl rfl (Nat.le_of_ble_eq_true rfl) (fun p e s m below meth c ls hC hr hk hW hl => wY0_fault hC (Nat.le_refl _) (Nat.le_refl _)  h (fun H locs ls pc hd hW => x_reti hC hr hk hW hd) _ _ _ hW hl)
def fY0_cells_L4 (N : Nat) (S : St)  : Nat → Int32 → Int32 → Option (Int32)
  | 0, _, _ => none
  | n + 1, x1, x2 =>
    if 12 ≤ x2 then
      some x1
    else
      gd (inb x2 12) <|
      Option.bind (α := Int32) (
        if (S.1 10 (Int32.toNatClampNeg x2)) < 0 then
          some 0
        else
          some 1
      ) fun t4 =>
      fY0_cells_L4 N S n (x1 + t4) (x2 + 1)
set_option maxHeartbeats 4000000 in
set_option maxRecDepth 100000 in
theorem wY0_cells_L4 {N : Nat} {S : St}  (hC : CallFix p m c cX10_cells 3 s args lw_g RX10) (hF : 0 ≤ R.frames) (hL : 0 ≤ R.locals)  {t : Int32} (kx : ∀ (H : Heap) (locs : List Loc) (ls : Array Slot), wg LY G S s H locs → lv_has ls 3 [(1, .int t)] → W p l e R s m args below meth c H locs 0 0 Q (F0 m 33 ls [])) : ∀ (n : Nat) (x1 : Int32) (x2 : Int32), fY0_cells_L4 N S  n x1 x2 = some t → ∀ (H : Heap) (locs : List Loc) (ls : Array Slot), wg LY G S s H locs → lv_has ls 3 [(0, .ref (ad G 0)), (1, .int x1), (2, .int x2)] → W p l e R s m args below meth c H locs 0 0 Q (F0 m 4 ls []) := by
  have hx := hC.1
  have hb := hC.2.1
  intro n
  induction n with
  | zero =>
    intro _ _ h
    cases h
  | succ n ih =>
    intro x1 x2 h H locs ls hW hl
    rw [fY0_cells_L4] at h
    refine lv_iload_n hx hb dX10_cells_4 rfl (lv_at hl 2 rfl) ?_
    refine lv_bipush (v := 12) hx hb dX10_cells_5 (by decide) ?_
    refine lv_icmp_ge (tgt := 33) hx hb dX10_cells_7 (by decide) (fun q1 => ?_) (fun q1 => ?_)
    · have h := it_p q1 h
      cases h
      exact kx _ _ _ hW (lv_sub hl [1] rfl)
    · have h := it_n q1 h
      refine lv_iload_n hx hb dX10_cells_10 rfl (lv_at hl 1 rfl) ?_
      refine lv_aload_n hx hb dX10_cells_11 rfl (lv_at hl 0 rfl) ?_
      refine gY0_15 hC hW dX10_cells_12 ?_
      refine lv_iload_n hx hb dX10_cells_15 rfl (lv_at hl 2 rfl) ?_
      obtain ⟨g2, h⟩ := gd_some h
      refine x_iald hC hW aY10 g2 dX10_cells_16 ?_
      obtain ⟨t4, e5, h⟩ := bd h
      have K3 : ∀ (H : Heap) (locs : List Loc) (ls : Array Slot), wg LY G S s H locs → lv_has ls 3 [(0, .ref (ad G 0)), (2, .int x2)] → W p l e R s m args below meth c H locs 0 0 Q (F0 m 25 ls [.int t4, .int x1]) := by
        intro H locs ls hW hl
        refine lv_iadd hx hb dX10_cells_25 ?_
        refine lv_istore_n (lv' := [(1, .int (x1 + t4)), (0, .ref (ad G 0)), (2, .int x2)]) hx hb dX10_cells_26 rfl hl (by decide) rfl (fun ls hl => ?_)
        refine lv_iinc (v := x2 + 1) (lv' := [(2, .int (x2 + 1)), (1, .int (x1 + t4)), (0, .ref (ad G 0))]) (k := 2) hx hb dX10_cells_27 hl rfl rfl (by decide) rfl (fun ls hl => ?_)
        refine lv_goto (tgt := 4) hx hb dX10_cells_30 (by decide) ?_
        exact ih _ _ h _ _ _ hW (lv_sub hl [2, 1, 0] rfl)
      clear h
      have h := e5
      clear e5
      refine lv_if_lt (tgt := 24) hx hb dX10_cells_17 (by decide) (fun q6 => ?_) (fun q6 => ?_)
      · have h := it_p q6 h
        refine lv_iconst (v := 0) hx hb dX10_cells_24 (by decide) ?_
        cases h
        exact K3 _ _ _ hW (lv_sub hl [0, 2] rfl)
      · have h := it_n q6 h
        refine lv_iconst (v := 1) hx hb dX10_cells_20 (by decide) ?_
        refine lv_goto (tgt := 25) hx hb dX10_cells_21 (by decide) ?_
        cases h
        exact K3 _ _ _ hW (lv_sub hl [0, 2] rfl)
def fY0_cells (N : Nat) (S : St)  : Option (Int32) :=
  Option.bind (fY0_cells_L4 N S N 0 0) fun t7 =>
  some t7
set_option maxHeartbeats 4000000 in
set_option maxRecDepth 100000 in
theorem wY0_cells {N : Nat} {S : St}  (hC : CallFix p m c cX10_cells 3 s args lw_g RX10) (hF : 0 ≤ R.frames) (hL : 0 ≤ R.locals)  {v : Int32} (h : fY0_cells N S = some v) (kr : ∀ (H : Heap) (locs : List Loc) (ls : Array Slot) (pc : Nat), decode cX10_cells pc = .ok (.ireturn, 1) → wg LY G S s H locs → W p l e R s m args below meth c H locs 0 0 Q (F0 m pc ls [.int v])) : ∀ (H : Heap) (locs : List Loc) (ls : Array Slot), wg LY G S s H locs → lv_has ls 3 [(0, .ref (ad G 0))] → W p l e R s m args below meth c H locs 0 0 Q (F0 m 0 ls []) := by
  have hx := hC.1
  have hb := hC.2.1
  intro H locs ls hW hl
  unfold fY0_cells at h
  refine lv_iconst (v := 0) hx hb dX10_cells_0 (by decide) ?_
  refine lv_istore_n (lv' := [(1, .int 0), (0, .ref (ad G 0))]) hx hb dX10_cells_1 rfl hl (by decide) rfl (fun ls hl => ?_)
  refine lv_iconst (v := 0) hx hb dX10_cells_2 (by decide) ?_
  refine lv_istore_n (lv' := [(2, .int 0), (1, .int 0), (0, .ref (ad G 0))]) hx hb dX10_cells_3 rfl hl (by decide) rfl (fun ls hl => ?_)
  obtain ⟨t7, e8, h⟩ := bd h
  refine wY0_cells_L4 hC hF hL  (fun H locs ls hW hl => ?_) _ _ _ e8 _ _ _ hW (lv_sub hl [2, 1, 0] rfl)
  refine lv_iload_n hx hb dX10_cells_33 rfl (lv_at hl 0 rfl) ?_
  cases h
  exact kr _ _ _ _ dX10_cells_34 hW
theorem ctY0_cells {N : Nat} {S : St}   {v : Int32} (h : fY0_cells N S = some v) : Met l yX10_cells (wm yX10_cells cX10_cells 3 (some .int)) (rmx 0 0) (pcm LY G S [.ref (ad G 0)]) (qcI LY G S v) 0 0 G.2.2.2 :=
  x_enter (own := RX10) rfl rfl (Nat.le_of_ble_eq_true rfl) (fun p e s m below meth c ls hC hr hk hW hl => wY0_cells hC (Nat.le_refl _) (Nat.le_refl _)  h (fun H locs ls pc hd hW => x_reti hC hr hk hW hd) _ _ _ hW hl)
end GEN
