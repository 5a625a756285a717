section GEN
variable {p : Program} {l : Launch} {e : Env} {R : Room} {s : State} {m : MethodId} {args : Array Value} {below : List Frame} {meth : Method} {c : Code} {H : Heap} {locs : List Loc} {Q : State → Prop} {G : GG}
def fY0_waysWith_L2 (N : Nat) (x1 : Int32) (x2 : Int32) : Nat → St → Int32 → Option (St)
  | 0, _, _ => none
  | n + 1, S, x3 =>
    if 4096 ≤ x3 then
      some S
    else
      Option.bind (α := Int32) (
        if x3 = 0 then
          some 1
        else
          some 0
      ) fun t3 =>
      gd (inb x3 4096) <|
      nx (p1 S 26 (Int32.toNatClampNeg x3) t3) fun s7 =>
      fY0_waysWith_L2 N x1 x2 n s7 (x3 + 1)
set_option maxHeartbeats 4000000 in
set_option maxRecDepth 100000 in
theorem wY0_waysWith_L2 {N : Nat} {x1 : Int32} {x2 : Int32} (hC : CallFix p m c cX10_waysWith 7 s args lw_g RX10) (hF : 1 ≤ R.frames) (hL : 21 ≤ R.locals)  {t : St} (kx : ∀ (H : Heap) (locs : List Loc) (ls : Array Slot), wg LY G t s H locs → lv_has ls 7 [(0, .ref (ad G 0)), (1, .int x1), (2, .int x2)] → W p l e R s m args below meth c H locs 0 0 Q (F0 m 30 ls [])) : ∀ (n : Nat) (S : St) (x3 : Int32), fY0_waysWith_L2 N x1 x2 n S x3 = some t → ∀ (H : Heap) (locs : List Loc) (ls : Array Slot), wg LY G S s H locs → lv_has ls 7 [(0, .ref (ad G 0)), (1, .int x1), (2, .int x2), (3, .int x3)] → W p l e R s m args below meth c H locs 0 0 Q (F0 m 2 ls []) := by
  have hx := hC.1
  have hb := hC.2.1
  intro n
  induction n with
  | zero =>
    intro _ _ h
    cases h
  | succ n ih =>
    intro S x3 h H locs ls hW hl
    rw [fY0_waysWith_L2] at h
    refine lv_iload_n hx hb dX10_waysWith_2 rfl (lv_at hl 3 rfl) ?_
    refine lv_sipush (v := 4096) hx hb dX10_waysWith_3 (by decide) ?_
    refine lv_icmp_ge (tgt := 30) hx hb dX10_waysWith_6 (by decide) (fun q1 => ?_) (fun q1 => ?_)
    · have h := it_p q1 h
      cases h
      exact kx _ _ _ hW (lv_sub hl [0, 1, 2] rfl)
    · have h := it_n q1 h
      refine lv_aload_n hx hb dX10_waysWith_9 rfl (lv_at hl 0 rfl) ?_
      refine gY0_41 hC hW dX10_waysWith_10 ?_
      refine lv_iload_n hx hb dX10_waysWith_13 rfl (lv_at hl 3 rfl) ?_
      refine lv_iload_n hx hb dX10_waysWith_14 rfl (lv_at hl 3 rfl) ?_
      obtain ⟨t3, e4, h⟩ := bd h
      have K2 : ∀ (H : Heap) (locs : List Loc) (ls : Array Slot), wg LY G S s H locs → lv_has ls 7 [(0, .ref (ad G 0)), (1, .int x1), (2, .int x2), (3, .int x3)] → W p l e R s m args below meth c H locs 0 0 Q (F0 m 23 ls [.int t3, .int x3, .ref (ad G 26)]) := by
        intro H locs ls hW hl
        obtain ⟨g6, h⟩ := gd_some h
        refine x_iast hC hW aY26 g6 dX10_waysWith_23 (fun H locs hW => ?_)
        obtain ⟨s7, e8, h⟩ := nx_some h
        rw [← e8] at hW
        refine lv_iinc (v := x3 + 1) (lv' := [(3, .int (x3 + 1)), (0, .ref (ad G 0)), (1, .int x1), (2, .int x2)]) (k := 3) hx hb dX10_waysWith_24 hl rfl rfl (by decide) rfl (fun ls hl => ?_)
        refine lv_goto (tgt := 2) hx hb dX10_waysWith_27 (by decide) ?_
        exact ih _ _ h _ _ _ hW (lv_sub hl [1, 2, 3, 0] rfl)
      clear h
      have h := e4
      clear e4
      refine lv_if_ne (tgt := 22) hx hb dX10_waysWith_15 (by decide) (fun q5 => ?_) (fun q5 => ?_)
      · have h := it_n q5 h
        refine lv_iconst (v := 0) hx hb dX10_waysWith_22 (by decide) ?_
        cases h
        exact K2 _ _ _ hW (lv_sub hl [0, 1, 2, 3] rfl)
      · have h := it_p q5 h
        refine lv_iconst (v := 1) hx hb dX10_waysWith_18 (by decide) ?_
        refine lv_goto (tgt := 23) hx hb dX10_waysWith_19 (by decide) ?_
        cases h
        exact K2 _ _ _ hW (lv_sub hl [0, 1, 2, 3] rfl)
def fY0_waysWith_L54 (N : Nat) (x1 : Int32) (x2 : Int32) (x3 : Int32) : Nat → St → Int32 → Option (St)
  | 0, _, _ => none
  | n + 1, S, x4 =>
    if 4096 ≤ x4 then
      some S
    else
      gd (inb x4 4096) <|
      nx (p1 S 27 (Int32.toNatClampNeg x4) 0) fun s19 =>
      fY0_waysWith_L54 N x1 x2 x3 n s19 (x4 + 1)
set_option maxHeartbeats 4000000 in
set_option maxRecDepth 100000 in
theorem wY0_waysWith_L54 {N : Nat} {x1 : Int32} {x2 : Int32} {x3 : Int32} (hC : CallFix p m c cX10_waysWith 7 s args lw_g RX10) (hF : 1 ≤ R.frames) (hL : 21 ≤ R.locals)  {t : St} (kx : ∀ (H : Heap) (locs : List Loc) (ls : Array Slot), wg LY G t s H locs → lv_has ls 7 [(0, .ref (ad G 0)), (1, .int x1), (2, .int x2), (3, .int x3)] → W p l e R s m args below meth c H locs 0 0 Q (F0 m 76 ls [])) : ∀ (n : Nat) (S : St) (x4 : Int32), fY0_waysWith_L54 N x1 x2 x3 n S x4 = some t → ∀ (H : Heap) (locs : List Loc) (ls : Array Slot), wg LY G S s H locs → lv_has ls 7 [(0, .ref (ad G 0)), (1, .int x1), (2, .int x2), (3, .int x3), (4, .int x4)] → W p l e R s m args below meth c H locs 0 0 Q (F0 m 54 ls []) := by
  have hx := hC.1
  have hb := hC.2.1
  intro n
  induction n with
  | zero =>
    intro _ _ h
    cases h
  | succ n ih =>
    intro S x4 h H locs ls hW hl
    rw [fY0_waysWith_L54] at h
    refine lv_iload hx hb dX10_waysWith_54 (lv_at hl 4 rfl) ?_
    refine lv_sipush (v := 4096) hx hb dX10_waysWith_56 (by decide) ?_
    refine lv_icmp_ge (tgt := 76) hx hb dX10_waysWith_59 (by decide) (fun q17 => ?_) (fun q17 => ?_)
    · have h := it_p q17 h
      cases h
      exact kx _ _ _ hW (lv_sub hl [0, 1, 2, 3] rfl)
    · have h := it_n q17 h
      refine lv_aload_n hx hb dX10_waysWith_62 rfl (lv_at hl 0 rfl) ?_
      refine gY0_42 hC hW dX10_waysWith_63 ?_
      refine lv_iload hx hb dX10_waysWith_66 (lv_at hl 4 rfl) ?_
      refine lv_iconst (v := 0) hx hb dX10_waysWith_68 (by decide) ?_
      obtain ⟨g18, h⟩ := gd_some h
      refine x_iast hC hW aY27 g18 dX10_waysWith_69 (fun H locs hW => ?_)
      obtain ⟨s19, e20, h⟩ := nx_some h
      rw [← e20] at hW
      refine lv_iinc (v := x4 + 1) (lv' := [(4, .int (x4 + 1)), (0, .ref (ad G 0)), (1, .int x1), (2, .int x2), (3, .int x3)]) (k := 4) hx hb dX10_waysWith_70 hl rfl rfl (by decide) rfl (fun ls hl => ?_)
      refine lv_goto (tgt := 54) hx hb dX10_waysWith_73 (by decide) ?_
      exact ih _ _ h _ _ _ hW (lv_sub hl [1, 2, 3, 4, 0] rfl)
def fY0_waysWith_L90 (N : Nat) (x1 : Int32) (x2 : Int32) (x3 : Int32) (x4 : Int32) : Nat → St → Int32 → Option (St)
  | 0, _, _ => none
  | n + 1, S, x5 =>
    if (S.1 0 22) ≤ x5 then
      some S
    else
      gd (inb x4 4096) <|
      if (S.1 26 (Int32.toNatClampNeg x4)) ≤ 0 then
        some S
      else
        Option.bind (fYs_has S x4 x5) fun t27 =>
        Option.bind (α := Int32) (
          if t27 = 0 then
            gd (inb x5 12) <|
            gd (inb ((100 * x3) + (S.1 16 (Int32.toNatClampNeg x5))) 1200) <|
            if (S.1 17 (Int32.toNatClampNeg ((100 * x3) + (S.1 16 (Int32.toNatClampNeg x5))))) = 0 then
              some 0
            else
              if x3 = x1 then
                gd (inb x5 12) <|
                if (S.1 16 (Int32.toNatClampNeg x5)) = x2 then
                  some 1
                else
                  some 0
              else
                some 1
          else
            some 0
        ) fun t30 =>
        gd (inb (x4 ||| (1 <<< (x5 &&& 31))) 4096) <|
        Option.bind (α := Int32) (
          if t30 = 0 then
            some 0
          else
            gd (inb x4 4096) <|
            some (S.1 26 (Int32.toNatClampNeg x4))
        ) fun t41 =>
        gd (inb (x4 ||| (1 <<< (x5 &&& 31))) 4096) <|
        nx (p1 S 27 (Int32.toNatClampNeg (x4 ||| (1 <<< (x5 &&& 31)))) ((S.1 27 (Int32.toNatClampNeg (x4 ||| (1 <<< (x5 &&& 31))))) + t41)) fun s46 =>
        fY0_waysWith_L90 N x1 x2 x3 x4 n s46 (x5 + 1)
set_option maxHeartbeats 4000000 in
set_option maxRecDepth 100000 in
theorem wY0_waysWith_L90 {N : Nat} {x1 : Int32} {x2 : Int32} {x3 : Int32} {x4 : Int32} (hC : CallFix p m c cX10_waysWith 7 s args lw_g RX10) (hF : 1 ≤ R.frames) (hL : 21 ≤ R.locals)  {t : St} (kx : ∀ (H : Heap) (locs : List Loc) (ls : Array Slot), wg LY G t s H locs → lv_has ls 7 [(0, .ref (ad G 0)), (1, .int x1), (2, .int x2), (3, .int x3), (4, .int x4)] → W p l e R s m args below meth c H locs 0 0 Q (F0 m 199 ls [])) : ∀ (n : Nat) (S : St) (x5 : Int32), fY0_waysWith_L90 N x1 x2 x3 x4 n S x5 = some t → ∀ (H : Heap) (locs : List Loc) (ls : Array Slot), wg LY G S s H locs → lv_has ls 7 [(0, .ref (ad G 0)), (1, .int x1), (2, .int x2), (3, .int x3), (4, .int x4), (5, .int x5)] → W p l e R s m args below meth c H locs 0 0 Q (F0 m 90 ls []) := by
  have hx := hC.1
  have hb := hC.2.1
  intro n
  induction n with
  | zero =>
    intro _ _ h
    cases h
  | succ n ih =>
    intro S x5 h H locs ls hW hl
    rw [fY0_waysWith_L90] at h
    refine lv_iload hx hb dX10_waysWith_90 (lv_at hl 5 rfl) ?_
    refine lv_aload_n hx hb dX10_waysWith_92 rfl (lv_at hl 0 rfl) ?_
    refine gY0_22 hC hW dX10_waysWith_93 ?_
    refine lv_icmp_ge (tgt := 199) hx hb dX10_waysWith_96 (by decide) (fun q24 => ?_) (fun q24 => ?_)
    · have h := it_p q24 h
      cases h
      exact kx _ _ _ hW (lv_sub hl [0, 1, 2, 3, 4] rfl)
    · have h := it_n q24 h
      refine lv_aload_n hx hb dX10_waysWith_99 rfl (lv_at hl 0 rfl) ?_
      refine gY0_41 hC hW dX10_waysWith_100 ?_
      refine lv_iload hx hb dX10_waysWith_103 (lv_at hl 4 rfl) ?_
      obtain ⟨g25, h⟩ := gd_some h
      refine x_iald hC hW aY26 g25 dX10_waysWith_105 ?_
      refine lv_if_le (tgt := 199) hx hb dX10_waysWith_106 (by decide) (fun q26 => ?_) (fun q26 => ?_)
      · have h := it_p q26 h
        cases h
        exact kx _ _ _ hW (lv_sub hl [0, 1, 2, 3, 4] rfl)
      · have h := it_n q26 h
        refine lv_iload hx hb dX10_waysWith_109 (lv_at hl 4 rfl) ?_
        refine lv_iload hx hb dX10_waysWith_111 (lv_at hl 5 rfl) ?_
        obtain ⟨t27, e28, h⟩ := bd h
        refine x_goi (x_rs (rest := []) hC hW (ctYs_has e28) (cwS_g hC.2.2.2.2 ml_X10_208 ms_X10_has md_X10_has ⟨(Nat.le_trans (Nat.le_of_ble_eq_true rfl) hF), (Nat.le_trans (Nat.le_of_ble_eq_true rfl) hL)⟩) rfl hl.1 rfl (Nat.le_of_ble_eq_true rfl) dX10_waysWith_113) hW (fun H locs hW => ?_)
        obtain ⟨t30, e31, h⟩ := bd h
        have K29 : ∀ (H : Heap) (locs : List Loc) (ls : Array Slot), wg LY G S s H locs → lv_has ls 7 [(0, .ref (ad G 0)), (1, .int x1), (2, .int x2), (3, .int x3), (4, .int x4), (5, .int x5)] → W p l e R s m args below meth c H locs 0 0 Q (F0 m 160 ls [.int t30]) := by
          intro H locs ls hW hl
          refine lv_istore (lv' := [(6, .int t30), (0, .ref (ad G 0)), (1, .int x1), (2, .int x2), (3, .int x3), (4, .int x4), (5, .int x5)]) hx hb dX10_waysWith_160 hl (by decide) rfl (fun ls hl => ?_)
          refine lv_aload_n hx hb dX10_waysWith_162 rfl (lv_at hl 1 rfl) ?_
          refine gY0_42 hC hW dX10_waysWith_163 ?_
          refine lv_iload hx hb dX10_waysWith_166 (lv_at hl 5 rfl) ?_
          refine lv_iconst (v := 1) hx hb dX10_waysWith_168 (by decide) ?_
          refine lv_iload hx hb dX10_waysWith_169 (lv_at hl 6 rfl) ?_
          refine lv_ishl hx hb dX10_waysWith_171 ?_
          refine lv_ior hx hb dX10_waysWith_172 ?_
          refine lv_dup2_11 hx hb dX10_waysWith_173 rfl rfl ?_
          obtain ⟨g39, h⟩ := gd_some h
          refine x_iald hC hW aY27 g39 dX10_waysWith_174 ?_
          refine lv_iload hx hb dX10_waysWith_175 (lv_at hl 0 rfl) ?_
          obtain ⟨t41, e42, h⟩ := bd h
          have K40 : ∀ (H : Heap) (locs : List Loc) (ls : Array Slot), wg LY G S s H locs → lv_has ls 7 [(0, .ref (ad G 0)), (1, .int x1), (2, .int x2), (3, .int x3), (4, .int x4), (5, .int x5)] → W p l e R s m args below meth c H locs 0 0 Q (F0 m 191 ls [.int t41, .int (S.1 27 (Int32.toNatClampNeg (x4 ||| (1 <<< (x5 &&& 31))))), .int (x4 ||| (1 <<< (x5 &&& 31))), .ref (ad G 27)]) := by
            intro H locs ls hW hl
            refine lv_iadd hx hb dX10_waysWith_191 ?_
            obtain ⟨g45, h⟩ := gd_some h
            refine x_iast hC hW aY27 g45 dX10_waysWith_192 (fun H locs hW => ?_)
            obtain ⟨s46, e47, h⟩ := nx_some h
            rw [← e47] at hW
            refine lv_iinc (v := x5 + 1) (lv' := [(5, .int (x5 + 1)), (0, .ref (ad G 0)), (1, .int x1), (2, .int x2), (3, .int x3), (4, .int x4)]) (k := 5) hx hb dX10_waysWith_193 hl rfl rfl (by decide) rfl (fun ls hl => ?_)
            refine lv_goto (tgt := 90) hx hb dX10_waysWith_196 (by decide) ?_
            exact ih _ _ h _ _ _ hW (lv_sub hl [1, 2, 3, 4, 5, 0] rfl)
          clear h
          have h := e42
          clear e42
          refine lv_if_eq (tgt := 190) hx hb dX10_waysWith_177 (by decide) (fun q43 => ?_) (fun q43 => ?_)
          · have h := it_p q43 h
            refine lv_iconst (v := 0) hx hb dX10_waysWith_190 (by decide) ?_
            cases h
            exact K40 _ _ _ hW (lv_sub hl [1, 2, 3, 4, 5, 6] rfl)
          · have h := it_n q43 h
            refine lv_aload_n hx hb dX10_waysWith_180 rfl (lv_at hl 1 rfl) ?_
            refine gY0_41 hC hW dX10_waysWith_181 ?_
            refine lv_iload hx hb dX10_waysWith_184 (lv_at hl 5 rfl) ?_
            obtain ⟨g44, h⟩ := gd_some h
            refine x_iald hC hW aY26 g44 dX10_waysWith_186 ?_
            refine lv_goto (tgt := 191) hx hb dX10_waysWith_187 (by decide) ?_
            cases h
            exact K40 _ _ _ hW (lv_sub hl [1, 2, 3, 4, 5, 6] rfl)
        clear h
        have h := e31
        clear e31
        refine lv_if_ne (tgt := 159) hx hb dX10_waysWith_116 (by decide) (fun q32 => ?_) (fun q32 => ?_)
        · have h := it_n q32 h
          refine lv_iconst (v := 0) hx hb dX10_waysWith_159 (by decide) ?_
          cases h
          exact K29 _ _ _ hW (lv_sub hl [0, 1, 2, 3, 4, 5] rfl)
        · have h := it_p q32 h
          refine lv_aload_n hx hb dX10_waysWith_119 rfl (lv_at hl 0 rfl) ?_
          refine gY0_24 hC hW dX10_waysWith_120 ?_
          refine lv_bipush (v := 100) hx hb dX10_waysWith_123 (by decide) ?_
          refine lv_iload_n hx hb dX10_waysWith_125 rfl (lv_at hl 3 rfl) ?_
          refine lv_imul hx hb dX10_waysWith_126 ?_
          refine lv_aload_n hx hb dX10_waysWith_127 rfl (lv_at hl 0 rfl) ?_
          refine gY0_23 hC hW dX10_waysWith_128 ?_
          refine lv_iload hx hb dX10_waysWith_131 (lv_at hl 5 rfl) ?_
          obtain ⟨g33, h⟩ := gd_some h
          refine x_iald hC hW aY16 g33 dX10_waysWith_133 ?_
          refine lv_iadd hx hb dX10_waysWith_134 ?_
          obtain ⟨g34, h⟩ := gd_some h
          refine x_zald hC hW zY17 g34 dX10_waysWith_135 ?_
          refine lv_if_eq (tgt := 159) hx hb dX10_waysWith_136 (by decide) (fun q35 => ?_) (fun q35 => ?_)
          · have h := it_p q35 h
            refine lv_iconst (v := 0) hx hb dX10_waysWith_159 (by decide) ?_
            cases h
            exact K29 _ _ _ hW (lv_sub hl [0, 1, 2, 3, 4, 5] rfl)
          · have h := it_n q35 h
            refine lv_iload_n hx hb dX10_waysWith_139 rfl (lv_at hl 3 rfl) ?_
            refine lv_iload_n hx hb dX10_waysWith_140 rfl (lv_at hl 1 rfl) ?_
            refine lv_icmp_ne (tgt := 155) hx hb dX10_waysWith_141 (by decide) (fun q36 => ?_) (fun q36 => ?_)
            · have h := it_n q36 h
              refine lv_iconst (v := 1) hx hb dX10_waysWith_155 (by decide) ?_
              refine lv_goto (tgt := 160) hx hb dX10_waysWith_156 (by decide) ?_
              cases h
              exact K29 _ _ _ hW (lv_sub hl [0, 1, 2, 3, 4, 5] rfl)
            · have h := it_p q36 h
              refine lv_aload_n hx hb dX10_waysWith_144 rfl (lv_at hl 0 rfl) ?_
              refine gY0_23 hC hW dX10_waysWith_145 ?_
              refine lv_iload hx hb dX10_waysWith_148 (lv_at hl 5 rfl) ?_
              obtain ⟨g37, h⟩ := gd_some h
              refine x_iald hC hW aY16 g37 dX10_waysWith_150 ?_
              refine lv_iload_n hx hb dX10_waysWith_151 rfl (lv_at hl 2 rfl) ?_
              refine lv_icmp_ne (tgt := 159) hx hb dX10_waysWith_152 (by decide) (fun q38 => ?_) (fun q38 => ?_)
              · have h := it_n q38 h
                refine lv_iconst (v := 0) hx hb dX10_waysWith_159 (by decide) ?_
                cases h
                exact K29 _ _ _ hW (lv_sub hl [0, 1, 2, 3, 4, 5] rfl)
              · have h := it_p q38 h
                refine lv_iconst (v := 1) hx hb dX10_waysWith_155 (by decide) ?_
                refine lv_goto (tgt := 160) hx hb dX10_waysWith_156 (by decide) ?_
                cases h
                exact K29 _ _ _ hW (lv_sub hl [0, 1, 2, 3, 4, 5] rfl)
def fY0_waysWith_L79 (N : Nat) (x1 : Int32) (x2 : Int32) (x3 : Int32) : Nat → St → Int32 → Option (St)
  | 0, _, _ => none
  | n + 1, S, x4 =>
    if 4096 ≤ x4 then
      some S
    else
      Option.bind (fY0_waysWith_L90 N x1 x2 x3 x4 N S 0) fun t48 =>
      fY0_waysWith_L79 N x1 x2 x3 n t48 (x4 + 1)
set_option maxHeartbeats 4000000 in
set_option maxRecDepth 100000 in
theorem wY0_waysWith_L79 {N : Nat} {x1 : Int32} {x2 : Int32} {x3 : Int32} (hC : CallFix p m c cX10_waysWith 7 s args lw_g RX10) (hF : 1 ≤ R.frames) (hL : 21 ≤ R.locals)  {t : St} (kx : ∀ (H : Heap) (locs : List Loc) (ls : Array Slot), wg LY G t s H locs → lv_has ls 7 [(0, .ref (ad G 0)), (1, .int x1), (2, .int x2), (3, .int x3)] → W p l e R s m args below meth c H locs 0 0 Q (F0 m 205 ls [])) : ∀ (n : Nat) (S : St) (x4 : Int32), fY0_waysWith_L79 N x1 x2 x3 n S x4 = some t → ∀ (H : Heap) (locs : List Loc) (ls : Array Slot), wg LY G S s H locs → lv_has ls 7 [(0, .ref (ad G 0)), (1, .int x1), (2, .int x2), (3, .int x3), (4, .int x4)] → W p l e R s m args below meth c H locs 0 0 Q (F0 m 79 ls []) := by
  have hx := hC.1
  have hb := hC.2.1
  intro n
  induction n with
  | zero =>
    intro _ _ h
    cases h
  | succ n ih =>
    intro S x4 h H locs ls hW hl
    rw [fY0_waysWith_L79] at h
    refine lv_iload hx hb dX10_waysWith_79 (lv_at hl 4 rfl) ?_
    refine lv_sipush (v := 4096) hx hb dX10_waysWith_81 (by decide) ?_
    refine lv_icmp_ge (tgt := 205) hx hb dX10_waysWith_84 (by decide) (fun q23 => ?_) (fun q23 => ?_)
    · have h := it_p q23 h
      cases h
      exact kx _ _ _ hW (lv_sub hl [0, 1, 2, 3] rfl)
    · have h := it_n q23 h
      refine lv_iconst (v := 0) hx hb dX10_waysWith_87 (by decide) ?_
      refine lv_istore (lv' := [(5, .int 0), (0, .ref (ad G 0)), (1, .int x1), (2, .int x2), (3, .int x3), (4, .int x4)]) hx hb dX10_waysWith_88 hl (by decide) rfl (fun ls hl => ?_)
      obtain ⟨t48, e49, h⟩ := bd h
      refine wY0_waysWith_L90 hC hF hL  (fun H locs ls hW hl => ?_) _ _ _ e49 _ _ _ hW (lv_sub hl [1, 2, 3, 4, 5, 0] rfl)
      refine lv_iinc (v := x4 + 1) (lv' := [(4, .int (x4 + 1)), (0, .ref (ad G 0)), (1, .int x1), (2, .int x2), (3, .int x3)]) (k := 4) hx hb dX10_waysWith_199 hl rfl rfl (by decide) rfl (fun ls hl => ?_)
      refine lv_goto (tgt := 79) hx hb dX10_waysWith_202 (by decide) ?_
      exact ih _ _ h _ _ _ hW (lv_sub hl [1, 2, 3, 4, 0] rfl)
def fY0_waysWith_L208 (N : Nat) (x1 : Int32) (x2 : Int32) (x3 : Int32) : Nat → St → Int32 → Option (St)
  | 0, _, _ => none
  | n + 1, S, x4 =>
    if 4096 ≤ x4 then
      some S
    else
      gd (inb x4 4096) <|
      gd (inb x4 4096) <|
      nx (p1 S 26 (Int32.toNatClampNeg x4) (S.1 27 (Int32.toNatClampNeg x4))) fun s55 =>
      fY0_waysWith_L208 N x1 x2 x3 n s55 (x4 + 1)
set_option maxHeartbeats 4000000 in
set_option maxRecDepth 100000 in
theorem wY0_waysWith_L208 {N : Nat} {x1 : Int32} {x2 : Int32} {x3 : Int32} (hC : CallFix p m c cX10_waysWith 7 s args lw_g RX10) (hF : 1 ≤ R.frames) (hL : 21 ≤ R.locals)  {t : St} (kx : ∀ (H : Heap) (locs : List Loc) (ls : Array Slot), wg LY G t s H locs → lv_has ls 7 [(0, .ref (ad G 0)), (1, .int x1), (2, .int x2), (3, .int x3)] → W p l e R s m args below meth c H locs 0 0 Q (F0 m 236 ls [])) : ∀ (n : Nat) (S : St) (x4 : Int32), fY0_waysWith_L208 N x1 x2 x3 n S x4 = some t → ∀ (H : Heap) (locs : List Loc) (ls : Array Slot), wg LY G S s H locs → lv_has ls 7 [(0, .ref (ad G 0)), (1, .int x1), (2, .int x2), (3, .int x3), (4, .int x4)] → W p l e R s m args below meth c H locs 0 0 Q (F0 m 208 ls []) := by
  have hx := hC.1
  have hb := hC.2.1
  intro n
  induction n with
  | zero =>
    intro _ _ h
    cases h
  | succ n ih =>
    intro S x4 h H locs ls hW hl
    rw [fY0_waysWith_L208] at h
    refine lv_iload hx hb dX10_waysWith_208 (lv_at hl 4 rfl) ?_
    refine lv_sipush (v := 4096) hx hb dX10_waysWith_210 (by decide) ?_
    refine lv_icmp_ge (tgt := 236) hx hb dX10_waysWith_213 (by decide) (fun q52 => ?_) (fun q52 => ?_)
    · have h := it_p q52 h
      cases h
      exact kx _ _ _ hW (lv_sub hl [0, 1, 2, 3] rfl)
    · have h := it_n q52 h
      refine lv_aload_n hx hb dX10_waysWith_216 rfl (lv_at hl 0 rfl) ?_
      refine gY0_41 hC hW dX10_waysWith_217 ?_
      refine lv_iload hx hb dX10_waysWith_220 (lv_at hl 4 rfl) ?_
      refine lv_aload_n hx hb dX10_waysWith_222 rfl (lv_at hl 0 rfl) ?_
      refine gY0_42 hC hW dX10_waysWith_223 ?_
      refine lv_iload hx hb dX10_waysWith_226 (lv_at hl 4 rfl) ?_
      obtain ⟨g53, h⟩ := gd_some h
      refine x_iald hC hW aY27 g53 dX10_waysWith_228 ?_
      obtain ⟨g54, h⟩ := gd_some h
      refine x_iast hC hW aY26 g54 dX10_waysWith_229 (fun H locs hW => ?_)
      obtain ⟨s55, e56, h⟩ := nx_some h
      rw [← e56] at hW
      refine lv_iinc (v := x4 + 1) (lv' := [(4, .int (x4 + 1)), (0, .ref (ad G 0)), (1, .int x1), (2, .int x2), (3, .int x3)]) (k := 4) hx hb dX10_waysWith_230 hl rfl rfl (by decide) rfl (fun ls hl => ?_)
      refine lv_goto (tgt := 208) hx hb dX10_waysWith_233 (by decide) ?_
      exact ih _ _ h _ _ _ hW (lv_sub hl [1, 2, 3, 4, 0] rfl)
def fY0_waysWith_L32 (N : Nat) (x1 : Int32) (x2 : Int32) : Nat → St → Int32 → Option (St)
  | 0, _, _ => none
  | n + 1, S, x3 =>
    if 12 ≤ x3 then
      some S
    else
      gd (inb x3 12) <|
      Option.bind (α := St) (
        if (S.1 10 (Int32.toNatClampNeg x3)) = 3 then
          Option.bind (fY0_waysWith_L54 N x1 x2 x3 N S 0) fun t21 =>
          Option.bind (fY0_waysWith_L79 N x1 x2 x3 N t21 0) fun t50 =>
          Option.bind (fY0_waysWith_L208 N x1 x2 x3 N t50 0) fun t57 =>
          some t57
        else
          some S
      ) fun t14 =>
      fY0_waysWith_L32 N x1 x2 n t14 (x3 + 1)
set_option maxHeartbeats 4000000 in
set_option maxRecDepth 100000 in
theorem wY0_waysWith_L32 {N : Nat} {x1 : Int32} {x2 : Int32} (hC : CallFix p m c cX10_waysWith 7 s args lw_g RX10) (hF : 1 ≤ R.frames) (hL : 21 ≤ R.locals)  {t : St} (kx : ∀ (H : Heap) (locs : List Loc) (ls : Array Slot), wg LY G t s H locs → lv_has ls 7 [(0, .ref (ad G 0))] → W p l e R s m args below meth c H locs 0 0 Q (F0 m 242 ls [])) : ∀ (n : Nat) (S : St) (x3 : Int32), fY0_waysWith_L32 N x1 x2 n S x3 = some t → ∀ (H : Heap) (locs : List Loc) (ls : Array Slot), wg LY G S s H locs → lv_has ls 7 [(0, .ref (ad G 0)), (1, .int x1), (2, .int x2), (3, .int x3)] → W p l e R s m args below meth c H locs 0 0 Q (F0 m 32 ls []) := by
  have hx := hC.1
  have hb := hC.2.1
  intro n
  induction n with
  | zero =>
    intro _ _ h
    cases h
  | succ n ih =>
    intro S x3 h H locs ls hW hl
    rw [fY0_waysWith_L32] at h
    refine lv_iload_n hx hb dX10_waysWith_32 rfl (lv_at hl 3 rfl) ?_
    refine lv_bipush (v := 12) hx hb dX10_waysWith_33 (by decide) ?_
    refine lv_icmp_ge (tgt := 242) hx hb dX10_waysWith_35 (by decide) (fun q11 => ?_) (fun q11 => ?_)
    · have h := it_p q11 h
      cases h
      exact kx _ _ _ hW (lv_sub hl [0] rfl)
    · have h := it_n q11 h
      refine lv_aload_n hx hb dX10_waysWith_38 rfl (lv_at hl 0 rfl) ?_
      refine gY0_15 hC hW dX10_waysWith_39 ?_
      refine lv_iload_n hx hb dX10_waysWith_42 rfl (lv_at hl 3 rfl) ?_
      obtain ⟨g12, h⟩ := gd_some h
      refine x_iald hC hW aY10 g12 dX10_waysWith_43 ?_
      refine lv_iconst (v := 3) hx hb dX10_waysWith_44 (by decide) ?_
      obtain ⟨t14, e15, h⟩ := bd h
      have K13 : ∀ (H : Heap) (locs : List Loc) (ls : Array Slot), wg LY G t14 s H locs → lv_has ls 7 [(0, .ref (ad G 0)), (1, .int x1), (2, .int x2), (3, .int x3)] → W p l e R s m args below meth c H locs 0 0 Q (F0 m 236 ls []) := by
        intro H locs ls hW hl
        refine lv_iinc (v := x3 + 1) (lv' := [(3, .int (x3 + 1)), (0, .ref (ad G 0)), (1, .int x1), (2, .int x2)]) (k := 3) hx hb dX10_waysWith_236 hl rfl rfl (by decide) rfl (fun ls hl => ?_)
        refine lv_goto (tgt := 32) hx hb dX10_waysWith_239 (by decide) ?_
        exact ih _ _ h _ _ _ hW (lv_sub hl [1, 2, 3, 0] rfl)
      clear h
      have h := e15
      clear e15
      refine lv_icmp_eq (tgt := 51) hx hb dX10_waysWith_45 (by decide) (fun q16 => ?_) (fun q16 => ?_)
      · have h := it_p q16 h
        refine lv_iconst (v := 0) hx hb dX10_waysWith_51 (by decide) ?_
        refine lv_istore (lv' := [(4, .int 0), (0, .ref (ad G 0)), (1, .int x1), (2, .int x2), (3, .int x3)]) hx hb dX10_waysWith_52 hl (by decide) rfl (fun ls hl => ?_)
        obtain ⟨t21, e22, h⟩ := bd h
        refine wY0_waysWith_L54 hC hF hL  (fun H locs ls hW hl => ?_) _ _ _ e22 _ _ _ hW (lv_sub hl [1, 2, 3, 4, 0] rfl)
        refine lv_iconst (v := 0) hx hb dX10_waysWith_76 (by decide) ?_
        refine lv_istore (lv' := [(4, .int 0), (0, .ref (ad G 0)), (1, .int x1), (2, .int x2), (3, .int x3)]) hx hb dX10_waysWith_77 hl (by decide) rfl (fun ls hl => ?_)
        obtain ⟨t50, e51, h⟩ := bd h
        refine wY0_waysWith_L79 hC hF hL  (fun H locs ls hW hl => ?_) _ _ _ e51 _ _ _ hW (lv_sub hl [1, 2, 3, 4, 0] rfl)
        refine lv_iconst (v := 0) hx hb dX10_waysWith_205 (by decide) ?_
        refine lv_istore (lv' := [(4, .int 0), (0, .ref (ad G 0)), (1, .int x1), (2, .int x2), (3, .int x3)]) hx hb dX10_waysWith_206 hl (by decide) rfl (fun ls hl => ?_)
        obtain ⟨t57, e58, h⟩ := bd h
        refine wY0_waysWith_L208 hC hF hL  (fun H locs ls hW hl => ?_) _ _ _ e58 _ _ _ hW (lv_sub hl [1, 2, 3, 4, 0] rfl)
        cases h
        exact K13 _ _ _ hW (lv_sub hl [0, 1, 2, 3] rfl)
      · have h := it_n q16 h
        refine lv_goto (tgt := 236) hx hb dX10_waysWith_48 (by decide) ?_
        cases h
        exact K13 _ _ _ hW (lv_sub hl [0, 1, 2, 3] rfl)
def fY0_waysWith_L247 (N : Nat) (S : St)  : Nat → Int32 → Int32 → Option (Int32)
  | 0, _, _ => none
  | n + 1, x3, x4 =>
    if 4096 ≤ x4 then
      some x3
    else
      gd (inb x4 4096) <|
      nx (x3 + (S.1 26 (Int32.toNatClampNeg x4))) fun y63 =>
      fY0_waysWith_L247 N S n y63 (x4 + 1)
set_option maxHeartbeats 4000000 in
set_option maxRecDepth 100000 in
theorem wY0_waysWith_L247 {N : Nat} {S : St}  (hC : CallFix p m c cX10_waysWith 7 s args lw_g RX10) (hF : 1 ≤ R.frames) (hL : 21 ≤ R.locals)  {t : Int32} (kx : ∀ (H : Heap) (locs : List Loc) (ls : Array Slot), wg LY G S s H locs → lv_has ls 7 [(3, .int t)] → W p l e R s m args below meth c H locs 0 0 Q (F0 m 271 ls [])) : ∀ (n : Nat) (x3 : Int32) (x4 : Int32), fY0_waysWith_L247 N S  n x3 x4 = some t → ∀ (H : Heap) (locs : List Loc) (ls : Array Slot), wg LY G S s H locs → lv_has ls 7 [(0, .ref (ad G 0)), (3, .int x3), (4, .int x4)] → W p l e R s m args below meth c H locs 0 0 Q (F0 m 247 ls []) := by
  have hx := hC.1
  have hb := hC.2.1
  intro n
  induction n with
  | zero =>
    intro _ _ h
    cases h
  | succ n ih =>
    intro x3 x4 h H locs ls hW hl
    rw [fY0_waysWith_L247] at h
    refine lv_iload hx hb dX10_waysWith_247 (lv_at hl 2 rfl) ?_
    refine lv_sipush (v := 4096) hx hb dX10_waysWith_249 (by decide) ?_
    refine lv_icmp_ge (tgt := 271) hx hb dX10_waysWith_252 (by decide) (fun q61 => ?_) (fun q61 => ?_)
    · have h := it_p q61 h
      cases h
      exact kx _ _ _ hW (lv_sub hl [1] rfl)
    · have h := it_n q61 h
      refine lv_iload_n hx hb dX10_waysWith_255 rfl (lv_at hl 1 rfl) ?_
      refine lv_aload_n hx hb dX10_waysWith_256 rfl (lv_at hl 0 rfl) ?_
      refine gY0_41 hC hW dX10_waysWith_257 ?_
      refine lv_iload hx hb dX10_waysWith_260 (lv_at hl 2 rfl) ?_
      obtain ⟨g62, h⟩ := gd_some h
      refine x_iald hC hW aY26 g62 dX10_waysWith_262 ?_
      refine lv_iadd hx hb dX10_waysWith_263 ?_
      obtain ⟨y63, e64, h⟩ := nx_some h
      refine x_topi e64 ?_
      refine lv_istore_n (lv' := [(3, .int y63), (0, .ref (ad G 0)), (4, .int x4)]) hx hb dX10_waysWith_264 rfl hl (by decide) rfl (fun ls hl => ?_)
      refine lv_iinc (v := x4 + 1) (lv' := [(4, .int (x4 + 1)), (3, .int y63), (0, .ref (ad G 0))]) (k := 2) hx hb dX10_waysWith_265 hl rfl rfl (by decide) rfl (fun ls hl => ?_)
      refine lv_goto (tgt := 247) hx hb dX10_waysWith_268 (by decide) ?_
      exact ih _ _ h _ _ _ hW (lv_sub hl [2, 1, 0] rfl)
def fY0_waysWith (N : Nat) (S : St) (x1 : Int32) (x2 : Int32) : Option (Int32 × St) :=
  Option.bind (fY0_waysWith_L2 N x1 x2 N S 0) fun t9 =>
  Option.bind (fY0_waysWith_L32 N x1 x2 N t9 0) fun t59 =>
  Option.bind (fY0_waysWith_L247 N t59 N 0 0) fun t65 =>
  some (t65, t59)
set_option maxHeartbeats 4000000 in
set_option maxRecDepth 100000 in
theorem wY0_waysWith {N : Nat} {S : St} {x1 : Int32} {x2 : Int32} (hC : CallFix p m c cX10_waysWith 7 s args lw_g RX10) (hF : 1 ≤ R.frames) (hL : 21 ≤ R.locals)  {v : Int32} {S' : St} (h : fY0_waysWith N S x1 x2 = some (v, S')) (kr : ∀ (H : Heap) (locs : List Loc) (ls : Array Slot) (pc : Nat), decode cX10_waysWith pc = .ok (.ireturn, 1) → wg LY G (S') s H locs → W p l e R s m args below meth c H locs 0 0 Q (F0 m pc ls [.int v])) : ∀ (H : Heap) (locs : List Loc) (ls : Array Slot), wg LY G S s H locs → lv_has ls 7 [(0, .ref (ad G 0)), (1, .int x1), (2, .int x2)] → W p l e R s m args below meth c H locs 0 0 Q (F0 m 0 ls []) := by
  have hx := hC.1
  have hb := hC.2.1
  intro H locs ls hW hl
  unfold fY0_waysWith at h
  refine lv_iconst (v := 0) hx hb dX10_waysWith_0 (by decide) ?_
  refine lv_istore_n (lv' := [(3, .int 0), (0, .ref (ad G 0)), (1, .int x1), (2, .int x2)]) hx hb dX10_waysWith_1 rfl hl (by decide) rfl (fun ls hl => ?_)
  obtain ⟨t9, e10, h⟩ := bd h
  refine wY0_waysWith_L2 hC hF hL  (fun H locs ls hW hl => ?_) _ _ _ e10 _ _ _ hW (lv_sub hl [1, 2, 3, 0] rfl)
  refine lv_iconst (v := 0) hx hb dX10_waysWith_30 (by decide) ?_
  refine lv_istore_n (lv' := [(3, .int 0), (0, .ref (ad G 0)), (1, .int x1), (2, .int x2)]) hx hb dX10_waysWith_31 rfl hl (by decide) rfl (fun ls hl => ?_)
  obtain ⟨t59, e60, h⟩ := bd h
  refine wY0_waysWith_L32 hC hF hL  (fun H locs ls hW hl => ?_) _ _ _ e60 _ _ _ hW (lv_sub hl [1, 2, 3, 0] rfl)
  refine lv_iconst (v := 0) hx hb dX10_waysWith_242 (by decide) ?_
  refine lv_istore_n (lv' := [(3, .int 0), (0, .ref (ad G 0))]) hx hb dX10_waysWith_243 rfl hl (by decide) rfl (fun ls hl => ?_)
  refine lv_iconst (v := 0) hx hb dX10_waysWith_244 (by decide) ?_
  refine lv_istore (lv' := [(4, .int 0), (3, .int 0), (0, .ref (ad G 0))]) hx hb dX10_waysWith_245 hl (by decide) rfl (fun ls hl => ?_)
  obtain ⟨t65, e66, h⟩ := bd h
  refine wY0_waysWith_L247 hC hF hL  (fun H locs ls hW hl => ?_) _ _ _ e66 _ _ _ hW (lv_sub hl [2, 1, 0] rfl)
  refine lv_iload_n hx hb dX10_waysWith_271 rfl (lv_at hl 0 rfl) ?_
  cases h
  exact kr _ _ _ _ dX10_waysWith_272 hW
theorem ctY0_waysWith {N : Nat} {S : St} {x1 : Int32} {x2 : Int32}  {v : Int32} {S' : St} (h : fY0_waysWith N S x1 x2 = some (v, S')) : Met l yX10_waysWith (wm yX10_waysWith cX10_waysWith 7 (some .int)) (rmx 1 21) (pcm LY G S [.ref (ad G 0), .int x1, .int x2]) (qcI LY G S' v) 0 0 G.2.2.2 :=
  x_enter (own := RX10) rfl rfl (Nat.le_of_ble_eq_true rfl) (fun p e s m below meth c ls hC hr hk hW hl => wY0_waysWith hC (Nat.le_refl _) (Nat.le_refl _)  h (fun H locs ls pc hd hW => x_reti hC hr hk hW hd) _ _ _ hW hl)
def fY0_matches_L30 (N : Nat) (x1 : Int32) (x3 : Int32) : Nat → St → Int32 → Int32 → Option (St × Int32)
  | 0, _, _, _ => none
  | n + 1, S, x2, x4 =>
    if (S.1 0 22) ≤ x4 then
      some (S, x2)
    else
      gd (inb x3 12) <|
      if (S.1 10 (Int32.toNatClampNeg x3)) = 3 then
        gd (inb x4 12) <|
        Option.bind (fY0_waysWith N S x3 (S.1 16 (Int32.toNatClampNeg x4))) fun t11 =>
        Option.bind (α := Int32) (
          if t11.1 = x1 then
            some (1 <<< (x3 &&& 31))
          else
            some 0
        ) fun t14 =>
        fY0_matches_L30 N x1 x3 n t11.2 (x2 ||| t14) (x4 + 1)
      else
        some (S, x2)
set_option maxHeartbeats 4000000 in
set_option maxRecDepth 100000 in
theorem wY0_matches_L30 {N : Nat} {x1 : Int32} {x3 : Int32} (hC : CallFix p m c cX10_matches 5 s args lw_g RX10) (hF : 5 ≤ R.frames) (hL : 120 ≤ R.locals)  {t : St × Int32} (kx : ∀ (H : Heap) (locs : List Loc) (ls : Array Slot), wg LY G t.1 s H locs → lv_has ls 5 [(0, .ref (ad G 0)), (1, .int x1), (2, .int t.2), (3, .int x3)] → W p l e R s m args below meth c H locs 0 0 Q (F0 m 81 ls [])) : ∀ (n : Nat) (S : St) (x2 : Int32) (x4 : Int32), fY0_matches_L30 N x1 x3 n S x2 x4 = some t → ∀ (H : Heap) (locs : List Loc) (ls : Array Slot), wg LY G S s H locs → lv_has ls 5 [(0, .ref (ad G 0)), (1, .int x1), (2, .int x2), (3, .int x3), (4, .int x4)] → W p l e R s m args below meth c H locs 0 0 Q (F0 m 30 ls []) := by
  have hx := hC.1
  have hb := hC.2.1
  intro n
  induction n with
  | zero =>
    intro _ _ _ h
    cases h
  | succ n ih =>
    intro S x2 x4 h H locs ls hW hl
    rw [fY0_matches_L30] at h
    refine lv_iload hx hb dX10_matches_30 (lv_at hl 4 rfl) ?_
    refine lv_aload_n hx hb dX10_matches_32 rfl (lv_at hl 0 rfl) ?_
    refine gY0_22 hC hW dX10_matches_33 ?_
    refine lv_icmp_ge (tgt := 81) hx hb dX10_matches_36 (by decide) (fun q7 => ?_) (fun q7 => ?_)
    · have h := it_p q7 h
      cases h
      exact kx _ _ _ hW (lv_sub hl [0, 1, 2, 3] rfl)
    · have h := it_n q7 h
      refine lv_aload_n hx hb dX10_matches_39 rfl (lv_at hl 0 rfl) ?_
      refine gY0_15 hC hW dX10_matches_40 ?_
      refine lv_iload_n hx hb dX10_matches_43 rfl (lv_at hl 3 rfl) ?_
      obtain ⟨g8, h⟩ := gd_some h
      refine x_iald hC hW aY10 g8 dX10_matches_44 ?_
      refine lv_iconst (v := 3) hx hb dX10_matches_45 (by decide) ?_
      refine lv_icmp_ne (tgt := 81) hx hb dX10_matches_46 (by decide) (fun q9 => ?_) (fun q9 => ?_)
      · have h := it_n q9 h
        cases h
        exact kx _ _ _ hW (lv_sub hl [0, 1, 2, 3] rfl)
      · have h := it_p q9 h
        refine lv_iload_n hx hb dX10_matches_49 rfl (lv_at hl 2 rfl) ?_
        refine lv_aload_n hx hb dX10_matches_50 rfl (lv_at hl 0 rfl) ?_
        refine lv_iload_n hx hb dX10_matches_51 rfl (lv_at hl 3 rfl) ?_
        refine lv_aload_n hx hb dX10_matches_52 rfl (lv_at hl 0 rfl) ?_
        refine gY0_23 hC hW dX10_matches_53 ?_
        refine lv_iload hx hb dX10_matches_56 (lv_at hl 4 rfl) ?_
        obtain ⟨g10, h⟩ := gd_some h
        refine x_iald hC hW aY16 g10 dX10_matches_58 ?_
        obtain ⟨t11, e12, h⟩ := bd h
        refine x_goi (x_rv (rest := [.int x2]) hC hW (ctY0_waysWith e12) (cwV_g hC.2.2.2.2 ml_X10_303 mi_X10_waysWith md_X10_waysWith ⟨(Nat.le_trans (Nat.le_of_ble_eq_true rfl) hF), (Nat.le_trans (Nat.le_of_ble_eq_true rfl) hL)⟩) (rcY0 hW) rfl hl.1 rfl (Nat.le_of_ble_eq_true rfl) dX10_matches_59) hW (fun H locs hW => ?_)
        refine lv_iload_n hx hb dX10_matches_62 rfl (lv_at hl 1 rfl) ?_
        obtain ⟨t14, e15, h⟩ := bd h
        have K13 : ∀ (H : Heap) (locs : List Loc) (ls : Array Slot), wg LY G t11.2 s H locs → lv_has ls 5 [(0, .ref (ad G 0)), (1, .int x1), (3, .int x3), (4, .int x4)] → W p l e R s m args below meth c H locs 0 0 Q (F0 m 73 ls [.int t14, .int x2]) := by
          intro H locs ls hW hl
          refine lv_ior hx hb dX10_matches_73 ?_
          refine lv_istore_n (lv' := [(2, .int (x2 ||| t14)), (0, .ref (ad G 0)), (1, .int x1), (3, .int x3), (4, .int x4)]) hx hb dX10_matches_74 rfl hl (by decide) rfl (fun ls hl => ?_)
          refine lv_iinc (v := x4 + 1) (lv' := [(4, .int (x4 + 1)), (2, .int (x2 ||| t14)), (0, .ref (ad G 0)), (1, .int x1), (3, .int x3)]) (k := 4) hx hb dX10_matches_75 hl rfl rfl (by decide) rfl (fun ls hl => ?_)
          refine lv_goto (tgt := 30) hx hb dX10_matches_78 (by decide) ?_
          exact ih _ _ _ h _ _ _ hW (lv_sub hl [2, 3, 1, 4, 0] rfl)
        clear h
        have h := e15
        clear e15
        refine lv_icmp_ne (tgt := 72) hx hb dX10_matches_63 (by decide) (fun q16 => ?_) (fun q16 => ?_)
        · have h := it_n q16 h
          refine lv_iconst (v := 0) hx hb dX10_matches_72 (by decide) ?_
          cases h
          exact K13 _ _ _ hW (lv_sub hl [0, 1, 3, 4] rfl)
        · have h := it_p q16 h
          refine lv_iconst (v := 1) hx hb dX10_matches_66 (by decide) ?_
          refine lv_iload_n hx hb dX10_matches_67 rfl (lv_at hl 3 rfl) ?_
          refine lv_ishl hx hb dX10_matches_68 ?_
          refine lv_goto (tgt := 73) hx hb dX10_matches_69 (by decide) ?_
          cases h
          exact K13 _ _ _ hW (lv_sub hl [0, 1, 3, 4] rfl)
def fY0_matches_L17 (N : Nat) (x1 : Int32) : Nat → St → Int32 → Int32 → Option (St × Int32)
  | 0, _, _, _ => none
  | n + 1, S, x2, x3 =>
    if 12 ≤ x3 then
      some (S, x2)
    else
      if x1 ≤ 0 then
        some (S, x2)
      else
        Option.bind (fY0_matches_L30 N x1 x3 N S x2 0) fun t17 =>
        fY0_matches_L17 N x1 n t17.1 t17.2 (x3 + 1)
set_option maxHeartbeats 4000000 in
set_option maxRecDepth 100000 in
theorem wY0_matches_L17 {N : Nat} {x1 : Int32} (hC : CallFix p m c cX10_matches 5 s args lw_g RX10) (hF : 5 ≤ R.frames) (hL : 120 ≤ R.locals)  {t : St × Int32} (kx : ∀ (H : Heap) (locs : List Loc) (ls : Array Slot), wg LY G t.1 s H locs → lv_has ls 5 [(0, .ref (ad G 0)), (1, .int x1), (2, .int t.2)] → W p l e R s m args below meth c H locs 0 0 Q (F0 m 87 ls [])) : ∀ (n : Nat) (S : St) (x2 : Int32) (x3 : Int32), fY0_matches_L17 N x1 n S x2 x3 = some t → ∀ (H : Heap) (locs : List Loc) (ls : Array Slot), wg LY G S s H locs → lv_has ls 5 [(0, .ref (ad G 0)), (1, .int x1), (2, .int x2), (3, .int x3)] → W p l e R s m args below meth c H locs 0 0 Q (F0 m 17 ls []) := by
  have hx := hC.1
  have hb := hC.2.1
  intro n
  induction n with
  | zero =>
    intro _ _ _ h
    cases h
  | succ n ih =>
    intro S x2 x3 h H locs ls hW hl
    rw [fY0_matches_L17] at h
    refine lv_iload_n hx hb dX10_matches_17 rfl (lv_at hl 3 rfl) ?_
    refine lv_bipush (v := 12) hx hb dX10_matches_18 (by decide) ?_
    refine lv_icmp_ge (tgt := 87) hx hb dX10_matches_20 (by decide) (fun q5 => ?_) (fun q5 => ?_)
    · have h := it_p q5 h
      cases h
      exact kx _ _ _ hW (lv_sub hl [0, 1, 2] rfl)
    · have h := it_n q5 h
      refine lv_iload_n hx hb dX10_matches_23 rfl (lv_at hl 1 rfl) ?_
      refine lv_if_le (tgt := 87) hx hb dX10_matches_24 (by decide) (fun q6 => ?_) (fun q6 => ?_)
      · have h := it_p q6 h
        cases h
        exact kx _ _ _ hW (lv_sub hl [0, 1, 2] rfl)
      · have h := it_n q6 h
        refine lv_iconst (v := 0) hx hb dX10_matches_27 (by decide) ?_
        refine lv_istore (lv' := [(4, .int 0), (0, .ref (ad G 0)), (1, .int x1), (2, .int x2), (3, .int x3)]) hx hb dX10_matches_28 hl (by decide) rfl (fun ls hl => ?_)
        obtain ⟨t17, e18, h⟩ := bd h
        refine wY0_matches_L30 hC hF hL  (fun H locs ls hW hl => ?_) _ _ _ _ e18 _ _ _ hW (lv_sub hl [1, 2, 3, 4, 0] rfl)
        refine lv_iinc (v := x3 + 1) (lv' := [(3, .int (x3 + 1)), (0, .ref (ad G 0)), (1, .int x1), (2, .int t17.2)]) (k := 3) hx hb dX10_matches_81 hl rfl rfl (by decide) rfl (fun ls hl => ?_)
        refine lv_goto (tgt := 17) hx hb dX10_matches_84 (by decide) ?_
        exact ih _ _ _ h _ _ _ hW (lv_sub hl [1, 2, 3, 0] rfl)
def fY0_matches (N : Nat) (S : St)  : Option (Int32 × St) :=
  Option.bind (fY0_narrow N S 0) fun t1 =>
  Option.bind (fY0_waysWith N t1 (-9) 0) fun t3 =>
  Option.bind (fY0_matches_L17 N t3.1 N t3.2 0 0) fun t19 =>
  Option.bind (fY0_ask t19.1 t19.2 t3.1) fun t21 =>
  some (t21.1, t21.2)
set_option maxHeartbeats 4000000 in
set_option maxRecDepth 100000 in
theorem wY0_matches {N : Nat} {S : St}  (hC : CallFix p m c cX10_matches 5 s args lw_g RX10) (hF : 5 ≤ R.frames) (hL : 120 ≤ R.locals)  {v : Int32} {S' : St} (h : fY0_matches N S = some (v, S')) (kr : ∀ (H : Heap) (locs : List Loc) (ls : Array Slot) (pc : Nat), decode cX10_matches pc = .ok (.ireturn, 1) → wg LY G (S') s H locs → W p l e R s m args below meth c H locs 0 0 Q (F0 m pc ls [.int v])) : ∀ (H : Heap) (locs : List Loc) (ls : Array Slot), wg LY G S s H locs → lv_has ls 5 [(0, .ref (ad G 0))] → W p l e R s m args below meth c H locs 0 0 Q (F0 m 0 ls []) := by
  have hx := hC.1
  have hb := hC.2.1
  intro H locs ls hW hl
  unfold fY0_matches at h
  refine lv_aload_n hx hb dX10_matches_0 rfl (lv_at hl 0 rfl) ?_
  refine lv_iconst (v := 0) hx hb dX10_matches_1 (by decide) ?_
  obtain ⟨t1, e2, h⟩ := bd h
  refine x_gov (x_rv (rest := []) hC hW (ctY0_narrow e2) (cwV_g hC.2.2.2.2 ml_X10_224 mi_X10_narrow md_X10_narrow ⟨(Nat.le_trans (Nat.le_of_ble_eq_true rfl) hF), (Nat.le_trans (Nat.le_of_ble_eq_true rfl) hL)⟩) (rcY0 hW) rfl hl.1 rfl (Nat.le_of_ble_eq_true rfl) dX10_matches_2) hW (fun H locs hW => ?_)
  refine lv_aload_n hx hb dX10_matches_5 rfl (lv_at hl 0 rfl) ?_
  refine lv_bipush (v := (-9)) hx hb dX10_matches_6 (by decide) ?_
  refine lv_iconst (v := 0) hx hb dX10_matches_8 (by decide) ?_
  obtain ⟨t3, e4, h⟩ := bd h
  refine x_goi (x_rv (rest := []) hC hW (ctY0_waysWith e4) (cwV_g hC.2.2.2.2 ml_X10_303 mi_X10_waysWith md_X10_waysWith ⟨(Nat.le_trans (Nat.le_of_ble_eq_true rfl) hF), (Nat.le_trans (Nat.le_of_ble_eq_true rfl) hL)⟩) (rcY0 hW) rfl hl.1 rfl (Nat.le_of_ble_eq_true rfl) dX10_matches_9) hW (fun H locs hW => ?_)
  refine lv_istore_n (lv' := [(1, .int t3.1), (0, .ref (ad G 0))]) hx hb dX10_matches_12 rfl hl (by decide) rfl (fun ls hl => ?_)
  refine lv_iconst (v := 0) hx hb dX10_matches_13 (by decide) ?_
  refine lv_istore_n (lv' := [(2, .int 0), (1, .int t3.1), (0, .ref (ad G 0))]) hx hb dX10_matches_14 rfl hl (by decide) rfl (fun ls hl => ?_)
  refine lv_iconst (v := 0) hx hb dX10_matches_15 (by decide) ?_
  refine lv_istore_n (lv' := [(3, .int 0), (2, .int 0), (1, .int t3.1), (0, .ref (ad G 0))]) hx hb dX10_matches_16 rfl hl (by decide) rfl (fun ls hl => ?_)
  obtain ⟨t19, e20, h⟩ := bd h
  refine wY0_matches_L17 hC hF hL  (fun H locs ls hW hl => ?_) _ _ _ _ e20 _ _ _ hW (lv_sub hl [3, 2, 1, 0] rfl)
  refine lv_aload_n hx hb dX10_matches_87 rfl (lv_at hl 0 rfl) ?_
  refine lv_iload_n hx hb dX10_matches_88 rfl (lv_at hl 2 rfl) ?_
  refine lv_iload_n hx hb dX10_matches_89 rfl (lv_at hl 1 rfl) ?_
  obtain ⟨t21, e22, h⟩ := bd h
  refine x_goi (x_rv (rest := []) hC hW (ctY0_ask e22) (cwV_g hC.2.2.2.2 ml_X10_125 mi_X10_ask md_X10_ask ⟨(Nat.le_trans (Nat.le_of_ble_eq_true rfl) hF), (Nat.le_trans (Nat.le_of_ble_eq_true rfl) hL)⟩) (rcY0 hW) rfl hl.1 rfl (Nat.le_of_ble_eq_true rfl) dX10_matches_90) hW (fun H locs hW => ?_)
  cases h
  exact kr _ _ _ _ dX10_matches_93 hW
theorem ctY0_matches {N : Nat} {S : St}   {v : Int32} {S' : St} (h : fY0_matches N S = some (v, S')) : Met l yX10_matches (wm yX10_matches cX10_matches 5 (some .int)) (rmx 5 120) (pcm LY G S [.ref (ad G 0)]) (qcI LY G S' v) 0 0 G.2.2.2 :=
  x_enter (own := RX10) rfl rfl (Nat.le_of_ble_eq_true rfl) (fun p e s m below meth c ls hC hr hk hW hl => wY0_matches hC (Nat.le_refl _) (Nat.le_refl _)  h (fun H locs ls pc hd hW => x_reti hC hr hk hW hd) _ _ _ hW hl)
def fY0_asked (S : St)  : Option (Int32) :=
  some (S.1 0 2)
set_option maxHeartbeats 4000000 in
set_option maxRecDepth 100000 in
theorem wY0_asked {S : St}  (hC : CallFix p m c cX10_asked 1 s args lw_g RX10) (hF : 0 ≤ R.frames) (hL : 0 ≤ R.locals)  {v : Int32} (h : fY0_asked S = some v) (kr : ∀ (H : Heap) (locs : List Loc) (ls : Array Slot) (pc : Nat), decode cX10_asked pc = .ok (.ireturn, 1) → wg LY G S s H locs → W p l e R s m args below meth c H locs 0 0 Q (F0 m pc ls [.int v])) : ∀ (H : Heap) (locs : List Loc) (ls : Array Slot), wg LY G S s H locs → lv_has ls 1 [(0, .ref (ad G 0))] → W p l e R s m args below meth c H locs 0 0 Q (F0 m 0 ls []) := by
  have hx := hC.1
  have hb := hC.2.1
  intro H locs ls hW hl
  unfold fY0_asked at h
  refine lv_aload_n hx hb dX10_asked_0 rfl (lv_at hl 0 rfl) ?_
  refine gY0_2 hC hW dX10_asked_1 ?_
  cases h
  exact kr _ _ _ _ dX10_asked_4 hW
theorem ctY0_asked {S : St}   {v : Int32} (h : fY0_asked S = some v) : Met l yX10_asked (wm yX10_asked cX10_asked 1 (some .int)) (rmx 0 0) (pcm LY G S [.ref (ad G 0)]) (qcI LY G S v) 0 0 G.2.2.2 :=
  x_enter (own := RX10) rfl rfl (Nat.le_of_ble_eq_true rfl) (fun p e s m below meth c ls hC hr hk hW hl => wY0_asked hC (Nat.le_refl _) (Nat.le_refl _)  h (fun H locs ls pc hd hW => x_reti hC hr hk hW hd) _ _ _ hW hl)
def fY0_upper (S : St)  : Option (Int64) :=
  some (S.2 0 3)
set_option maxHeartbeats 4000000 in
set_option maxRecDepth 100000 in
theorem wY0_upper {S : St}  (hC : CallFix p m c cX10_upper 1 s args lw_g RX10) (hF : 0 ≤ R.frames) (hL : 0 ≤ R.locals)  {v : Int64} (h : fY0_upper S = some v) (kr : ∀ (H : Heap) (locs : List Loc) (ls : Array Slot) (pc : Nat), decode cX10_upper pc = .ok (.lreturn, 1) → wg LY G S s H locs → W p l e R s m args below meth c H locs 0 0 Q (F0 m pc ls [.long v])) : ∀ (H : Heap) (locs : List Loc) (ls : Array Slot), wg LY G S s H locs → lv_has ls 1 [(0, .ref (ad G 0))] → W p l e R s m args below meth c H locs 0 0 Q (F0 m 0 ls []) := by
  have hx := hC.1
  have hb := hC.2.1
  intro H locs ls hW hl
  unfold fY0_upper at h
  refine lv_aload_n hx hb dX10_upper_0 rfl (lv_at hl 0 rfl) ?_
  refine gY0_3 hC hW dX10_upper_1 ?_
  cases h
  exact kr _ _ _ _ dX10_upper_4 hW
theorem ctY0_upper {S : St}   {v : Int64} (h : fY0_upper S = some v) : Met l yX10_upper (wm yX10_upper cX10_upper 1 (some .long)) (rmx 0 0) (pcm LY G S [.ref (ad G 0)]) (qcL LY G S v) 0 0 G.2.2.2 :=
  x_enter (own := RX10) rfl rfl (Nat.le_of_ble_eq_true rfl) (fun p e s m below meth c ls hC hr hk hW hl => wY0_upper hC (Nat.le_refl _) (Nat.le_refl _)  h (fun H locs ls pc hd hW => x_retl hC hr hk hW hd) _ _ _ hW hl)
def fY0_lower (S : St)  : Option (Int64) :=
  some (S.2 0 4)
set_option maxHeartbeats 4000000 in
set_option maxRecDepth 100000 in
theorem wY0_lower {S : St}  (hC : CallFix p m c cX10_lower 1 s args lw_g RX10) (hF : 0 ≤ R.frames) (hL : 0 ≤ R.locals)  {v : Int64} (h : fY0_lower S = some v) (kr : ∀ (H : Heap) (locs : List Loc) (ls : Array Slot) (pc : Nat), decode cX10_lower pc = .ok (.lreturn, 1) → wg LY G S s H locs → W p l e R s m args below meth c H locs 0 0 Q (F0 m pc ls [.long v])) : ∀ (H : Heap) (locs : List Loc) (ls : Array Slot), wg LY G S s H locs → lv_has ls 1 [(0, .ref (ad G 0))] → W p l e R s m args below meth c H locs 0 0 Q (F0 m 0 ls []) := by
  have hx := hC.1
  have hb := hC.2.1
  intro H locs ls hW hl
  unfold fY0_lower at h
  refine lv_aload_n hx hb dX10_lower_0 rfl (lv_at hl 0 rfl) ?_
  refine gY0_4 hC hW dX10_lower_1 ?_
  cases h
  exact kr _ _ _ _ dX10_lower_4 hW
theorem ctY0_lower {S : St}   {v : Int64} (h : fY0_lower S = some v) : Met l yX10_lower (wm yX10_lower cX10_lower 1 (some .long)) (rmx 0 0) (pcm LY G S [.ref (ad G 0)]) (qcL LY G S v) 0 0 G.2.2.2 :=
  x_enter (own := RX10) rfl rfl (Nat.le_of_ble_eq_true rfl) (fun p e s m below meth c ls hC hr hk hW hl => wY0_lower hC (Nat.le_refl _) (Nat.le_refl _)  h (fun H locs ls pc hd hW => x_retl hC hr hk hW hd) _ _ _ hW hl)
def fY0_counts_L4 (N : Nat) (S : St) (x1 : Int32) : Nat → Int32 → Int32 → Option (Int32)
  | 0, _, _ => none
  | n + 1, x2, x3 =>
    if 6 ≤ x3 then
      some x2
    else
      Option.bind (α := Int32) (
        if x1 = 3 then
          gd (inb x3 6) <|
          if (S.1 2 (Int32.toNatClampNeg x3)) < 0 then
            some 0
          else
            some 1
        else
          some 0
      ) fun t3 =>
      fY0_counts_L4 N S x1 n (x2 + t3) (x3 + 1)
set_option maxHeartbeats 4000000 in
set_option maxRecDepth 100000 in
theorem wY0_counts_L4 {N : Nat} {S : St} {x1 : Int32} (hC : CallFix p m c cX10_counts 4 s args lw_g RX10) (hF : 1 ≤ R.frames) (hL : 22 ≤ R.locals)  {t : Int32} (kx : ∀ (H : Heap) (locs : List Loc) (ls : Array Slot), wg LY G S s H locs → lv_has ls 4 [(0, .ref (ad G 0)), (1, .int x1), (2, .int t)] → W p l e R s m args below meth c H locs 0 0 Q (F0 m 38 ls [])) : ∀ (n : Nat) (x2 : Int32) (x3 : Int32), fY0_counts_L4 N S x1 n x2 x3 = some t → ∀ (H : Heap) (locs : List Loc) (ls : Array Slot), wg LY G S s H locs → lv_has ls 4 [(0, .ref (ad G 0)), (1, .int x1), (2, .int x2), (3, .int x3)] → W p l e R s m args below meth c H locs 0 0 Q (F0 m 4 ls []) := by
  have hx := hC.1
  have hb := hC.2.1
  intro n
  induction n with
  | zero =>
    intro _ _ h
    cases h
  | succ n ih =>
    intro x2 x3 h H locs ls hW hl
    rw [fY0_counts_L4] at h
    refine lv_iload_n hx hb dX10_counts_4 rfl (lv_at hl 3 rfl) ?_
    refine lv_bipush (v := 6) hx hb dX10_counts_5 (by decide) ?_
    refine lv_icmp_ge (tgt := 38) hx hb dX10_counts_7 (by decide) (fun q1 => ?_) (fun q1 => ?_)
    · have h := it_p q1 h
      cases h
      exact kx _ _ _ hW (lv_sub hl [0, 1, 2] rfl)
    · have h := it_n q1 h
      refine lv_iload_n hx hb dX10_counts_10 rfl (lv_at hl 2 rfl) ?_
      refine lv_iload_n hx hb dX10_counts_11 rfl (lv_at hl 1 rfl) ?_
      refine lv_iconst (v := 3) hx hb dX10_counts_12 (by decide) ?_
      obtain ⟨t3, e4, h⟩ := bd h
      have K2 : ∀ (H : Heap) (locs : List Loc) (ls : Array Slot), wg LY G S s H locs → lv_has ls 4 [(0, .ref (ad G 0)), (1, .int x1), (3, .int x3)] → W p l e R s m args below meth c H locs 0 0 Q (F0 m 30 ls [.int t3, .int x2]) := by
        intro H locs ls hW hl
        refine lv_iadd hx hb dX10_counts_30 ?_
        refine lv_istore_n (lv' := [(2, .int (x2 + t3)), (0, .ref (ad G 0)), (1, .int x1), (3, .int x3)]) hx hb dX10_counts_31 rfl hl (by decide) rfl (fun ls hl => ?_)
        refine lv_iinc (v := x3 + 1) (lv' := [(3, .int (x3 + 1)), (2, .int (x2 + t3)), (0, .ref (ad G 0)), (1, .int x1)]) (k := 3) hx hb dX10_counts_32 hl rfl rfl (by decide) rfl (fun ls hl => ?_)
        refine lv_goto (tgt := 4) hx hb dX10_counts_35 (by decide) ?_
        exact ih _ _ h _ _ _ hW (lv_sub hl [2, 3, 1, 0] rfl)
      clear h
      have h := e4
      clear e4
      refine lv_icmp_ne (tgt := 29) hx hb dX10_counts_13 (by decide) (fun q5 => ?_) (fun q5 => ?_)
      · have h := it_n q5 h
        refine lv_iconst (v := 0) hx hb dX10_counts_29 (by decide) ?_
        cases h
        exact K2 _ _ _ hW (lv_sub hl [0, 1, 3] rfl)
      · have h := it_p q5 h
        refine lv_aload_n hx hb dX10_counts_16 rfl (lv_at hl 0 rfl) ?_
        refine gY0_5 hC hW dX10_counts_17 ?_
        refine lv_iload_n hx hb dX10_counts_20 rfl (lv_at hl 3 rfl) ?_
        obtain ⟨g6, h⟩ := gd_some h
        refine x_iald hC hW aY2 g6 dX10_counts_21 ?_
        refine lv_if_lt (tgt := 29) hx hb dX10_counts_22 (by decide) (fun q7 => ?_) (fun q7 => ?_)
        · have h := it_p q7 h
          refine lv_iconst (v := 0) hx hb dX10_counts_29 (by decide) ?_
          cases h
          exact K2 _ _ _ hW (lv_sub hl [0, 1, 3] rfl)
        · have h := it_n q7 h
          refine lv_iconst (v := 1) hx hb dX10_counts_25 (by decide) ?_
          refine lv_goto (tgt := 30) hx hb dX10_counts_26 (by decide) ?_
          cases h
          exact K2 _ _ _ hW (lv_sub hl [0, 1, 3] rfl)
def fY0_counts_L40 (N : Nat) (S : St) (x1 : Int32) : Nat → Int32 → Int32 → Option (Int32)
  | 0, _, _ => none
  | n + 1, x2, x3 =>
    if 4 ≤ x3 then
      some x2
    else
      Option.bind (α := Int32) (
        if x1 = 4 then
          gd (inb x3 4) <|
          if (S.1 5 (Int32.toNatClampNeg x3)) < 0 then
            some 0
          else
            some 1
        else
          some 0
      ) fun t12 =>
      fY0_counts_L40 N S x1 n (x2 + t12) (x3 + 1)
set_option maxHeartbeats 4000000 in
set_option maxRecDepth 100000 in
theorem wY0_counts_L40 {N : Nat} {S : St} {x1 : Int32} (hC : CallFix p m c cX10_counts 4 s args lw_g RX10) (hF : 1 ≤ R.frames) (hL : 22 ≤ R.locals)  {t : Int32} (kx : ∀ (H : Heap) (locs : List Loc) (ls : Array Slot), wg LY G S s H locs → lv_has ls 4 [(0, .ref (ad G 0)), (1, .int x1), (2, .int t)] → W p l e R s m args below meth c H locs 0 0 Q (F0 m 73 ls [])) : ∀ (n : Nat) (x2 : Int32) (x3 : Int32), fY0_counts_L40 N S x1 n x2 x3 = some t → ∀ (H : Heap) (locs : List Loc) (ls : Array Slot), wg LY G S s H locs → lv_has ls 4 [(0, .ref (ad G 0)), (1, .int x1), (2, .int x2), (3, .int x3)] → W p l e R s m args below meth c H locs 0 0 Q (F0 m 40 ls []) := by
  have hx := hC.1
  have hb := hC.2.1
  intro n
  induction n with
  | zero =>
    intro _ _ h
    cases h
  | succ n ih =>
    intro x2 x3 h H locs ls hW hl
    rw [fY0_counts_L40] at h
    refine lv_iload_n hx hb dX10_counts_40 rfl (lv_at hl 3 rfl) ?_
    refine lv_iconst (v := 4) hx hb dX10_counts_41 (by decide) ?_
    refine lv_icmp_ge (tgt := 73) hx hb dX10_counts_42 (by decide) (fun q10 => ?_) (fun q10 => ?_)
    · have h := it_p q10 h
      cases h
      exact kx _ _ _ hW (lv_sub hl [0, 1, 2] rfl)
    · have h := it_n q10 h
      refine lv_iload_n hx hb dX10_counts_45 rfl (lv_at hl 2 rfl) ?_
      refine lv_iload_n hx hb dX10_counts_46 rfl (lv_at hl 1 rfl) ?_
      refine lv_iconst (v := 4) hx hb dX10_counts_47 (by decide) ?_
      obtain ⟨t12, e13, h⟩ := bd h
      have K11 : ∀ (H : Heap) (locs : List Loc) (ls : Array Slot), wg LY G S s H locs → lv_has ls 4 [(0, .ref (ad G 0)), (1, .int x1), (3, .int x3)] → W p l e R s m args below meth c H locs 0 0 Q (F0 m 65 ls [.int t12, .int x2]) := by
        intro H locs ls hW hl
        refine lv_iadd hx hb dX10_counts_65 ?_
        refine lv_istore_n (lv' := [(2, .int (x2 + t12)), (0, .ref (ad G 0)), (1, .int x1), (3, .int x3)]) hx hb dX10_counts_66 rfl hl (by decide) rfl (fun ls hl => ?_)
        refine lv_iinc (v := x3 + 1) (lv' := [(3, .int (x3 + 1)), (2, .int (x2 + t12)), (0, .ref (ad G 0)), (1, .int x1)]) (k := 3) hx hb dX10_counts_67 hl rfl rfl (by decide) rfl (fun ls hl => ?_)
        refine lv_goto (tgt := 40) hx hb dX10_counts_70 (by decide) ?_
        exact ih _ _ h _ _ _ hW (lv_sub hl [2, 3, 1, 0] rfl)
      clear h
      have h := e13
      clear e13
      refine lv_icmp_ne (tgt := 64) hx hb dX10_counts_48 (by decide) (fun q14 => ?_) (fun q14 => ?_)
      · have h := it_n q14 h
        refine lv_iconst (v := 0) hx hb dX10_counts_64 (by decide) ?_
        cases h
        exact K11 _ _ _ hW (lv_sub hl [0, 1, 3] rfl)
      · have h := it_p q14 h
        refine lv_aload_n hx hb dX10_counts_51 rfl (lv_at hl 0 rfl) ?_
        refine gY0_8 hC hW dX10_counts_52 ?_
        refine lv_iload_n hx hb dX10_counts_55 rfl (lv_at hl 3 rfl) ?_
        obtain ⟨g15, h⟩ := gd_some h
        refine x_iald hC hW aY5 g15 dX10_counts_56 ?_
        refine lv_if_lt (tgt := 64) hx hb dX10_counts_57 (by decide) (fun q16 => ?_) (fun q16 => ?_)
        · have h := it_p q16 h
          refine lv_iconst (v := 0) hx hb dX10_counts_64 (by decide) ?_
          cases h
          exact K11 _ _ _ hW (lv_sub hl [0, 1, 3] rfl)
        · have h := it_n q16 h
          refine lv_iconst (v := 1) hx hb dX10_counts_60 (by decide) ?_
          refine lv_goto (tgt := 65) hx hb dX10_counts_61 (by decide) ?_
          cases h
          exact K11 _ _ _ hW (lv_sub hl [0, 1, 3] rfl)
def fY0_counts (N : Nat) (S : St) (x1 : Int32) : Option (Int32) :=
  Option.bind (fY0_counts_L4 N S x1 N 0 0) fun t8 =>
  Option.bind (fY0_counts_L40 N S x1 N t8 0) fun t17 =>
  Option.bind (α := Int32) (
    if x1 = 0 then
      Option.bind (fY0_cells N S) fun t25 =>
      some t25
    else
      if x1 = 1 then
        some (S.1 0 18)
      else
        if x1 = 2 then
          some (S.1 0 22)
        else
          some t17
  ) fun t20 =>
  some t20
set_option maxHeartbeats 4000000 in
set_option maxRecDepth 100000 in
theorem wY0_counts {N : Nat} {S : St} {x1 : Int32} (hC : CallFix p m c cX10_counts 4 s args lw_g RX10) (hF : 1 ≤ R.frames) (hL : 22 ≤ R.locals)  {v : Int32} (h : fY0_counts N S x1 = some v) (kr : ∀ (H : Heap) (locs : List Loc) (ls : Array Slot) (pc : Nat), decode cX10_counts pc = .ok (.ireturn, 1) → wg LY G S s H locs → W p l e R s m args below meth c H locs 0 0 Q (F0 m pc ls [.int v])) : ∀ (H : Heap) (locs : List Loc) (ls : Array Slot), wg LY G S s H locs → lv_has ls 4 [(0, .ref (ad G 0)), (1, .int x1)] → W p l e R s m args below meth c H locs 0 0 Q (F0 m 0 ls []) := by
  have hx := hC.1
  have hb := hC.2.1
  intro H locs ls hW hl
  unfold fY0_counts at h
  refine lv_iconst (v := 0) hx hb dX10_counts_0 (by decide) ?_
  refine lv_istore_n (lv' := [(2, .int 0), (0, .ref (ad G 0)), (1, .int x1)]) hx hb dX10_counts_1 rfl hl (by decide) rfl (fun ls hl => ?_)
  refine lv_iconst (v := 0) hx hb dX10_counts_2 (by decide) ?_
  refine lv_istore_n (lv' := [(3, .int 0), (2, .int 0), (0, .ref (ad G 0)), (1, .int x1)]) hx hb dX10_counts_3 rfl hl (by decide) rfl (fun ls hl => ?_)
  obtain ⟨t8, e9, h⟩ := bd h
  refine wY0_counts_L4 hC hF hL  (fun H locs ls hW hl => ?_) _ _ _ e9 _ _ _ hW (lv_sub hl [2, 3, 1, 0] rfl)
  refine lv_iconst (v := 0) hx hb dX10_counts_38 (by decide) ?_
  refine lv_istore_n (lv' := [(3, .int 0), (0, .ref (ad G 0)), (1, .int x1), (2, .int t8)]) hx hb dX10_counts_39 rfl hl (by decide) rfl (fun ls hl => ?_)
  obtain ⟨t17, e18, h⟩ := bd h
  refine wY0_counts_L40 hC hF hL  (fun H locs ls hW hl => ?_) _ _ _ e18 _ _ _ hW (lv_sub hl [1, 2, 3, 0] rfl)
  refine lv_iload_n hx hb dX10_counts_73 rfl (lv_at hl 1 rfl) ?_
  obtain ⟨t20, e21, h⟩ := bd h
  have K19 : ∀ (H : Heap) (locs : List Loc) (ls : Array Slot), wg LY G S s H locs → lv_has ls 4 [] → W p l e R s m args below meth c H locs 0 0 Q (F0 m 109 ls [.int t20]) := by
    intro H locs ls hW hl
    cases h
    exact kr _ _ _ _ dX10_counts_109 hW
  clear h
  have h := e21
  clear e21
  refine lv_if_ne (tgt := 84) hx hb dX10_counts_74 (by decide) (fun q22 => ?_) (fun q22 => ?_)
  · have h := it_n q22 h
    refine lv_iload_n hx hb dX10_counts_84 rfl (lv_at hl 1 rfl) ?_
    refine lv_iconst (v := 1) hx hb dX10_counts_85 (by decide) ?_
    refine lv_icmp_ne (tgt := 96) hx hb dX10_counts_86 (by decide) (fun q23 => ?_) (fun q23 => ?_)
    · have h := it_n q23 h
      refine lv_iload_n hx hb dX10_counts_96 rfl (lv_at hl 1 rfl) ?_
      refine lv_iconst (v := 2) hx hb dX10_counts_97 (by decide) ?_
      refine lv_icmp_ne (tgt := 108) hx hb dX10_counts_98 (by decide) (fun q24 => ?_) (fun q24 => ?_)
      · have h := it_n q24 h
        refine lv_iload_n hx hb dX10_counts_108 rfl (lv_at hl 2 rfl) ?_
        cases h
        exact K19 _ _ _ hW (lv_sub hl [] rfl)
      · have h := it_p q24 h
        refine lv_aload_n hx hb dX10_counts_101 rfl (lv_at hl 0 rfl) ?_
        refine gY0_22 hC hW dX10_counts_102 ?_
        refine lv_goto (tgt := 109) hx hb dX10_counts_105 (by decide) ?_
        cases h
        exact K19 _ _ _ hW (lv_sub hl [] rfl)
    · have h := it_p q23 h
      refine lv_aload_n hx hb dX10_counts_89 rfl (lv_at hl 0 rfl) ?_
      refine gY0_18 hC hW dX10_counts_90 ?_
      refine lv_goto (tgt := 109) hx hb dX10_counts_93 (by decide) ?_
      cases h
      exact K19 _ _ _ hW (lv_sub hl [] rfl)
  · have h := it_p q22 h
    refine lv_aload_n hx hb dX10_counts_77 rfl (lv_at hl 0 rfl) ?_
    obtain ⟨t25, e26, h⟩ := bd h
    refine x_goi (x_rv (rest := []) hC hW (ctY0_cells e26) (cwV_g hC.2.2.2.2 ml_X10_165 mi_X10_cells md_X10_cells ⟨(Nat.le_trans (Nat.le_of_ble_eq_true rfl) hF), (Nat.le_trans (Nat.le_of_ble_eq_true rfl) hL)⟩) (rcY0 hW) rfl hl.1 rfl (Nat.le_of_ble_eq_true rfl) dX10_counts_78) hW (fun H locs hW => ?_)
    refine lv_goto (tgt := 109) hx hb dX10_counts_81 (by decide) ?_
    cases h
    exact K19 _ _ _ hW (lv_sub hl [] rfl)
theorem ctY0_counts {N : Nat} {S : St} {x1 : Int32}  {v : Int32} (h : fY0_counts N S x1 = some v) : Met l yX10_counts (wm yX10_counts cX10_counts 4 (some .int)) (rmx 1 22) (pcm LY G S [.ref (ad G 0), .int x1]) (qcI LY G S v) 0 0 G.2.2.2 :=
  x_enter (own := RX10) rfl rfl (Nat.le_of_ble_eq_true rfl) (fun p e s m below meth c ls hC hr hk hW hl => wY0_counts hC (Nat.le_refl _) (Nat.le_refl _)  h (fun H locs ls pc hd hW => x_reti hC hr hk hW hd) _ _ _ hW hl)
def fY0_there (N : Nat) (S : St) (x1 : Int32) : Option (Int32) :=
  Option.bind (fYs_in S x1 0 4) fun t1 =>
  Option.bind (α := Int32) (
    if t1 = 0 then
      some (-1)
    else
      Option.bind (fY0_counts N S x1) fun t7 =>
      some t7
  ) fun t4 =>
  some t4
set_option maxHeartbeats 4000000 in
set_option maxRecDepth 100000 in
theorem wY0_there {N : Nat} {S : St} {x1 : Int32} (hC : CallFix p m c cX10_there 2 s args lw_g RX10) (hF : 2 ≤ R.frames) (hL : 45 ≤ R.locals)  {v : Int32} (h : fY0_there N S x1 = some v) (kr : ∀ (H : Heap) (locs : List Loc) (ls : Array Slot) (pc : Nat), decode cX10_there pc = .ok (.ireturn, 1) → wg LY G S s H locs → W p l e R s m args below meth c H locs 0 0 Q (F0 m pc ls [.int v])) : ∀ (H : Heap) (locs : List Loc) (ls : Array Slot), wg LY G S s H locs → lv_has ls 2 [(0, .ref (ad G 0)), (1, .int x1)] → W p l e R s m args below meth c H locs 0 0 Q (F0 m 0 ls []) := by
  have hx := hC.1
  have hb := hC.2.1
  intro H locs ls hW hl
  unfold fY0_there at h
  refine lv_iload_n hx hb dX10_there_0 rfl (lv_at hl 1 rfl) ?_
  refine lv_iconst (v := 0) hx hb dX10_there_1 (by decide) ?_
  refine lv_iconst (v := 4) hx hb dX10_there_2 (by decide) ?_
  obtain ⟨t1, e2, h⟩ := bd h
  refine x_goi (x_rs (rest := []) hC hW (ctYs_in e2) (cwS_g hC.2.2.2.2 ml_X10_103 ms_X10_in md_X10_in ⟨(Nat.le_trans (Nat.le_of_ble_eq_true rfl) hF), (Nat.le_trans (Nat.le_of_ble_eq_true rfl) hL)⟩) rfl hl.1 rfl (Nat.le_of_ble_eq_true rfl) dX10_there_3) hW (fun H locs hW => ?_)
  obtain ⟨t4, e5, h⟩ := bd h
  have K3 : ∀ (H : Heap) (locs : List Loc) (ls : Array Slot), wg LY G S s H locs → lv_has ls 2 [] → W p l e R s m args below meth c H locs 0 0 Q (F0 m 18 ls [.int t4]) := by
    intro H locs ls hW hl
    cases h
    exact kr _ _ _ _ dX10_there_18 hW
  clear h
  have h := e5
  clear e5
  refine lv_if_eq (tgt := 17) hx hb dX10_there_6 (by decide) (fun q6 => ?_) (fun q6 => ?_)
  · have h := it_p q6 h
    refine lv_iconst (v := (-1)) hx hb dX10_there_17 (by decide) ?_
    cases h
    exact K3 _ _ _ hW (lv_sub hl [] rfl)
  · have h := it_n q6 h
    refine lv_aload_n hx hb dX10_there_9 rfl (lv_at hl 0 rfl) ?_
    refine lv_iload_n hx hb dX10_there_10 rfl (lv_at hl 1 rfl) ?_
    obtain ⟨t7, e8, h⟩ := bd h
    refine x_goi (x_rv (rest := []) hC hW (ctY0_counts e8) (cwV_g hC.2.2.2.2 ml_X10_306 mi_X10_counts md_X10_counts ⟨(Nat.le_trans (Nat.le_of_ble_eq_true rfl) hF), (Nat.le_trans (Nat.le_of_ble_eq_true rfl) hL)⟩) (rcY0 hW) rfl hl.1 rfl (Nat.le_of_ble_eq_true rfl) dX10_there_11) hW (fun H locs hW => ?_)
    refine lv_goto (tgt := 18) hx hb dX10_there_14 (by decide) ?_
    cases h
    exact K3 _ _ _ hW (lv_sub hl [] rfl)
theorem ctY0_there {N : Nat} {S : St} {x1 : Int32}  {v : Int32} (h : fY0_there N S x1 = some v) : Met l yX10_there (wm yX10_there cX10_there 2 (some .int)) (rmx 2 45) (pcm LY G S [.ref (ad G 0), .int x1]) (qcI LY G S v) 0 0 G.2.2.2 :=
  x_enter (own := RX10) rfl rfl (Nat.le_of_ble_eq_true rfl) (fun p e s m below meth c ls hC hr hk hW hl => wY0_there hC (Nat.le_refl _) (Nat.le_refl _)  h (fun H locs ls pc hd hW => x_reti hC hr hk hW hd) _ _ _ hW hl)
def fY0_finding (S : St)  : Option (Int32) :=
  some (S.1 0 0)
set_option maxHeartbeats 4000000 in
set_option maxRecDepth 100000 in
theorem wY0_finding {S : St}  (hC : CallFix p m c cX10_finding 1 s args lw_g RX10) (hF : 0 ≤ R.frames) (hL : 0 ≤ R.locals)  {v : Int32} (h : fY0_finding S = some v) (kr : ∀ (H : Heap) (locs : List Loc) (ls : Array Slot) (pc : Nat), decode cX10_finding pc = .ok (.ireturn, 1) → wg LY G S s H locs → W p l e R s m args below meth c H locs 0 0 Q (F0 m pc ls [.int v])) : ∀ (H : Heap) (locs : List Loc) (ls : Array Slot), wg LY G S s H locs → lv_has ls 1 [(0, .ref (ad G 0))] → W p l e R s m args below meth c H locs 0 0 Q (F0 m 0 ls []) := by
  have hx := hC.1
  have hb := hC.2.1
  intro H locs ls hW hl
  unfold fY0_finding at h
  refine lv_aload_n hx hb dX10_finding_0 rfl (lv_at hl 0 rfl) ?_
  refine gY0_0 hC hW dX10_finding_1 ?_
  cases h
  exact kr _ _ _ _ dX10_finding_4 hW
theorem ctY0_finding {S : St}   {v : Int32} (h : fY0_finding S = some v) : Met l yX10_finding (wm yX10_finding cX10_finding 1 (some .int)) (rmx 0 0) (pcm LY G S [.ref (ad G 0)]) (qcI LY G S v) 0 0 G.2.2.2 :=
  x_enter (own := RX10) rfl rfl (Nat.le_of_ble_eq_true rfl) (fun p e s m below meth c ls hC hr hk hW hl => wY0_finding hC (Nat.le_refl _) (Nat.le_refl _)  h (fun H locs ls pc hd hW => x_reti hC hr hk hW hd) _ _ _ hW hl)
def fY0_findings (S : St) (x1 : Int32) : Option (Int32) :=
  Option.bind (fYs_in S x1 1 5) fun t1 =>
  Option.bind (α := Int32) (
    if t1 = 0 then
      some (-1)
    else
      gd (inb x1 6) <|
      some (S.1 1 (Int32.toNatClampNeg x1))
  ) fun t4 =>
  some t4
set_option maxHeartbeats 4000000 in
set_option maxRecDepth 100000 in
theorem wY0_findings {S : St} {x1 : Int32} (hC : CallFix p m c cX10_findings 2 s args lw_g RX10) (hF : 1 ≤ R.frames) (hL : 22 ≤ R.locals)  {v : Int32} (h : fY0_findings S x1 = some v) (kr : ∀ (H : Heap) (locs : List Loc) (ls : Array Slot) (pc : Nat), decode cX10_findings pc = .ok (.ireturn, 1) → wg LY G S s H locs → W p l e R s m args below meth c H locs 0 0 Q (F0 m pc ls [.int v])) : ∀ (H : Heap) (locs : List Loc) (ls : Array Slot), wg LY G S s H locs → lv_has ls 2 [(0, .ref (ad G 0)), (1, .int x1)] → W p l e R s m args below meth c H locs 0 0 Q (F0 m 0 ls []) := by
  have hx := hC.1
  have hb := hC.2.1
  intro H locs ls hW hl
  unfold fY0_findings at h
  refine lv_iload_n hx hb dX10_findings_0 rfl (lv_at hl 1 rfl) ?_
  refine lv_iconst (v := 1) hx hb dX10_findings_1 (by decide) ?_
  refine lv_iconst (v := 5) hx hb dX10_findings_2 (by decide) ?_
  obtain ⟨t1, e2, h⟩ := bd h
  refine x_goi (x_rs (rest := []) hC hW (ctYs_in e2) (cwS_g hC.2.2.2.2 ml_X10_103 ms_X10_in md_X10_in ⟨(Nat.le_trans (Nat.le_of_ble_eq_true rfl) hF), (Nat.le_trans (Nat.le_of_ble_eq_true rfl) hL)⟩) rfl hl.1 rfl (Nat.le_of_ble_eq_true rfl) dX10_findings_3) hW (fun H locs hW => ?_)
  obtain ⟨t4, e5, h⟩ := bd h
  have K3 : ∀ (H : Heap) (locs : List Loc) (ls : Array Slot), wg LY G S s H locs → lv_has ls 2 [] → W p l e R s m args below meth c H locs 0 0 Q (F0 m 19 ls [.int t4]) := by
    intro H locs ls hW hl
    cases h
    exact kr _ _ _ _ dX10_findings_19 hW
  clear h
  have h := e5
  clear e5
  refine lv_if_eq (tgt := 18) hx hb dX10_findings_6 (by decide) (fun q6 => ?_) (fun q6 => ?_)
  · have h := it_p q6 h
    refine lv_iconst (v := (-1)) hx hb dX10_findings_18 (by decide) ?_
    cases h
    exact K3 _ _ _ hW (lv_sub hl [] rfl)
  · have h := it_n q6 h
    refine lv_aload_n hx hb dX10_findings_9 rfl (lv_at hl 0 rfl) ?_
    refine gY0_1 hC hW dX10_findings_10 ?_
    refine lv_iload_n hx hb dX10_findings_13 rfl (lv_at hl 1 rfl) ?_
    obtain ⟨g7, h⟩ := gd_some h
    refine x_iald hC hW aY1 g7 dX10_findings_14 ?_
    refine lv_goto (tgt := 19) hx hb dX10_findings_15 (by decide) ?_
    cases h
    exact K3 _ _ _ hW (lv_sub hl [] rfl)
theorem ctY0_findings {S : St} {x1 : Int32}  {v : Int32} (h : fY0_findings S x1 = some v) : Met l yX10_findings (wm yX10_findings cX10_findings 2 (some .int)) (rmx 1 22) (pcm LY G S [.ref (ad G 0), .int x1]) (qcI LY G S v) 0 0 G.2.2.2 :=
  x_enter (own := RX10) rfl rfl (Nat.le_of_ble_eq_true rfl) (fun p e s m below meth c ls hC hr hk hW hl => wY0_findings hC (Nat.le_refl _) (Nat.le_refl _)  h (fun H locs ls pc hd hW => x_reti hC hr hk hW hd) _ _ _ hW hl)
def fY0_mix (S : St) (x1 : Int32) : Option (St) :=
  nx (p2 S 0 43 ((31 * (S.2 0 43)) + (Int32.toInt64 x1))) fun s1 =>
  some s1
set_option maxHeartbeats 4000000 in
set_option maxRecDepth 100000 in
theorem wY0_mix {S : St} {x1 : Int32} (hC : CallFix p m c cX10_mix 2 s args lw_g RX10) (hF : 0 ≤ R.frames) (hL : 0 ≤ R.locals)  {S' : St} (h : fY0_mix S x1 = some (S')) (kr : ∀ (H : Heap) (locs : List Loc) (ls : Array Slot) (pc : Nat), decode cX10_mix pc = .ok (.return_, 1) → wg LY G (S') s H locs → W p l e R s m args below meth c H locs 0 0 Q (F0 m pc ls [])) : ∀ (H : Heap) (locs : List Loc) (ls : Array Slot), wg LY G S s H locs → lv_has ls 2 [(0, .ref (ad G 0)), (1, .int x1)] → W p l e R s m args below meth c H locs 0 0 Q (F0 m 0 ls []) := by
  have hx := hC.1
  have hb := hC.2.1
  intro H locs ls hW hl
  unfold fY0_mix at h
  refine lv_aload_n hx hb dX10_mix_0 rfl (lv_at hl 0 rfl) ?_
  refine lv_ldc2 (v := 31) hx hb hC.2.2.2.1 (hC.2.2.2.2 _ kl_X10_309) dX10_mix_1 ?_
  refine lv_aload_n hx hb dX10_mix_4 rfl (lv_at hl 0 rfl) ?_
  refine gY0_43 hC hW dX10_mix_5 ?_
  refine lv_lmul hx hb dX10_mix_8 ?_
  refine lv_iload_n hx hb dX10_mix_9 rfl (lv_at hl 1 rfl) ?_
  refine lv_i2l (v := Int32.toInt64 x1) hx hb dX10_mix_10 rfl ?_
  refine lv_ladd hx hb dX10_mix_11 ?_
  refine pY0_43 hC hW dX10_mix_12 (fun H locs hW => ?_)
  obtain ⟨s1, e2, h⟩ := nx_some h
  rw [← e2] at hW
  cases h
  exact kr _ _ _ _ dX10_mix_15 hW
theorem ctY0_mix {S : St} {x1 : Int32}  {S' : St} (h : fY0_mix S x1 = some (S')) : Met l yX10_mix (wm yX10_mix cX10_mix 2 none) (rmx 0 0) (pcm LY G S [.ref (ad G 0), .int x1]) (qcV LY G S') 0 0 G.2.2.2 :=
  x_enter (own := RX10) rfl rfl (Nat.le_of_ble_eq_true rfl) (fun p e s m below meth c ls hC hr hk hW hl => wY0_mix hC (Nat.le_refl _) (Nat.le_refl _)  h (fun H locs ls pc hd hW => x_retv hC hr hk hW hd) _ _ _ hW hl)
def fY0_digest_L9 (N : Nat)  : Nat → St → Int32 → Option (St)
  | 0, _, _ => none
  | n + 1, S, x1 =>
    if 4 < x1 then
      some S
    else
      Option.bind (fY0_counts N S x1) fun t4 =>
      Option.bind (fY0_mix S t4) fun t6 =>
      fY0_digest_L9 N n t6 (x1 + 1)
set_option maxHeartbeats 4000000 in
set_option maxRecDepth 100000 in
theorem wY0_digest_L9 {N : Nat}  (hC : CallFix p m c cX10_digest 3 s args lw_g RX10) (hF : 4 ≤ R.frames) (hL : 89 ≤ R.locals)  {t : St} (kx : ∀ (H : Heap) (locs : List Loc) (ls : Array Slot), wg LY G t s H locs → lv_has ls 3 [(0, .ref (ad G 0))] → W p l e R s m args below meth c H locs 0 0 Q (F0 m 29 ls [])) : ∀ (n : Nat) (S : St) (x1 : Int32), fY0_digest_L9 N  n S x1 = some t → ∀ (H : Heap) (locs : List Loc) (ls : Array Slot), wg LY G S s H locs → lv_has ls 3 [(0, .ref (ad G 0)), (1, .int x1)] → W p l e R s m args below meth c H locs 0 0 Q (F0 m 9 ls []) := by
  have hx := hC.1
  have hb := hC.2.1
  intro n
  induction n with
  | zero =>
    intro _ _ h
    cases h
  | succ n ih =>
    intro S x1 h H locs ls hW hl
    rw [fY0_digest_L9] at h
    refine lv_iload_n hx hb dX10_digest_9 rfl (lv_at hl 1 rfl) ?_
    refine lv_iconst (v := 4) hx hb dX10_digest_10 (by decide) ?_
    refine lv_icmp_gt (tgt := 29) hx hb dX10_digest_11 (by decide) (fun q3 => ?_) (fun q3 => ?_)
    · have h := it_p q3 h
      cases h
      exact kx _ _ _ hW (lv_sub hl [0] rfl)
    · have h := it_n q3 h
      refine lv_aload_n hx hb dX10_digest_14 rfl (lv_at hl 0 rfl) ?_
      refine lv_aload_n hx hb dX10_digest_15 rfl (lv_at hl 0 rfl) ?_
      refine lv_iload_n hx hb dX10_digest_16 rfl (lv_at hl 1 rfl) ?_
      obtain ⟨t4, e5, h⟩ := bd h
      refine x_goi (x_rv (rest := [.ref (ad G 0)]) hC hW (ctY0_counts e5) (cwV_g hC.2.2.2.2 ml_X10_306 mi_X10_counts md_X10_counts ⟨(Nat.le_trans (Nat.le_of_ble_eq_true rfl) hF), (Nat.le_trans (Nat.le_of_ble_eq_true rfl) hL)⟩) (rcY0 hW) rfl hl.1 rfl (Nat.le_of_ble_eq_true rfl) dX10_digest_17) hW (fun H locs hW => ?_)
      obtain ⟨t6, e7, h⟩ := bd h
      refine x_gov (x_rv (rest := []) hC hW (ctY0_mix e7) (cwV_g hC.2.2.2.2 ml_X10_316 mi_X10_mix md_X10_mix ⟨(Nat.le_trans (Nat.le_of_ble_eq_true rfl) hF), (Nat.le_trans (Nat.le_of_ble_eq_true rfl) hL)⟩) (rcY0 hW) rfl hl.1 rfl (Nat.le_of_ble_eq_true rfl) dX10_digest_20) hW (fun H locs hW => ?_)
      refine lv_iinc (v := x1 + 1) (lv' := [(1, .int (x1 + 1)), (0, .ref (ad G 0))]) (k := 1) hx hb dX10_digest_23 hl rfl rfl (by decide) rfl (fun ls hl => ?_)
      refine lv_goto (tgt := 9) hx hb dX10_digest_26 (by decide) ?_
      exact ih _ _ h _ _ _ hW (lv_sub hl [1, 0] rfl)
def fY0_digest_L31 (N : Nat)  : Nat → St → Int32 → Option (St)
  | 0, _, _ => none
  | n + 1, S, x1 =>
    if 12 ≤ x1 then
      some S
    else
      Option.bind (fY0_isThere S x1) fun t11 =>
      Option.bind (α := St) (
        if t11 = 0 then
          Option.bind (fY0_mix S (-1)) fun t28 =>
          some t28
        else
          gd (inb x1 12) <|
          Option.bind (fY0_mix S (S.1 10 (Int32.toNatClampNeg x1))) fun t18 =>
          Option.bind (fY0_tells N t18 x1) fun t20 =>
          Option.bind (fY0_mix t18 t20) fun t22 =>
          Option.bind (fY0_firstMany N t22 x1) fun t24 =>
          Option.bind (fY0_mix t22 t24) fun t26 =>
          some t26
      ) fun t14 =>
      fY0_digest_L31 N n t14 (x1 + 1)
set_option maxHeartbeats 4000000 in
set_option maxRecDepth 100000 in
theorem wY0_digest_L31 {N : Nat}  (hC : CallFix p m c cX10_digest 3 s args lw_g RX10) (hF : 4 ≤ R.frames) (hL : 89 ≤ R.locals)  {t : St} (kx : ∀ (H : Heap) (locs : List Loc) (ls : Array Slot), wg LY G t s H locs → lv_has ls 3 [(0, .ref (ad G 0))] → W p l e R s m args below meth c H locs 0 0 Q (F0 m 87 ls [])) : ∀ (n : Nat) (S : St) (x1 : Int32), fY0_digest_L31 N  n S x1 = some t → ∀ (H : Heap) (locs : List Loc) (ls : Array Slot), wg LY G S s H locs → lv_has ls 3 [(0, .ref (ad G 0)), (1, .int x1)] → W p l e R s m args below meth c H locs 0 0 Q (F0 m 31 ls []) := by
  have hx := hC.1
  have hb := hC.2.1
  intro n
  induction n with
  | zero =>
    intro _ _ h
    cases h
  | succ n ih =>
    intro S x1 h H locs ls hW hl
    rw [fY0_digest_L31] at h
    refine lv_iload_n hx hb dX10_digest_31 rfl (lv_at hl 1 rfl) ?_
    refine lv_bipush (v := 12) hx hb dX10_digest_32 (by decide) ?_
    refine lv_icmp_ge (tgt := 87) hx hb dX10_digest_34 (by decide) (fun q10 => ?_) (fun q10 => ?_)
    · have h := it_p q10 h
      cases h
      exact kx _ _ _ hW (lv_sub hl [0] rfl)
    · have h := it_n q10 h
      refine lv_aload_n hx hb dX10_digest_37 rfl (lv_at hl 0 rfl) ?_
      refine lv_iload_n hx hb dX10_digest_38 rfl (lv_at hl 1 rfl) ?_
      obtain ⟨t11, e12, h⟩ := bd h
      refine x_goi (x_rv (rest := []) hC hW (ctY0_isThere e12) (cwV_g hC.2.2.2.2 ml_X10_193 mi_X10_isThere md_X10_isThere ⟨(Nat.le_trans (Nat.le_of_ble_eq_true rfl) hF), (Nat.le_trans (Nat.le_of_ble_eq_true rfl) hL)⟩) (rcY0 hW) rfl hl.1 rfl (Nat.le_of_ble_eq_true rfl) dX10_digest_39) hW (fun H locs hW => ?_)
      obtain ⟨t14, e15, h⟩ := bd h
      have K13 : ∀ (H : Heap) (locs : List Loc) (ls : Array Slot), wg LY G t14 s H locs → lv_has ls 3 [(0, .ref (ad G 0)), (1, .int x1)] → W p l e R s m args below meth c H locs 0 0 Q (F0 m 81 ls []) := by
        intro H locs ls hW hl
        refine lv_iinc (v := x1 + 1) (lv' := [(1, .int (x1 + 1)), (0, .ref (ad G 0))]) (k := 1) hx hb dX10_digest_81 hl rfl rfl (by decide) rfl (fun ls hl => ?_)
        refine lv_goto (tgt := 31) hx hb dX10_digest_84 (by decide) ?_
        exact ih _ _ h _ _ _ hW (lv_sub hl [1, 0] rfl)
      clear h
      have h := e15
      clear e15
      refine lv_if_ne (tgt := 53) hx hb dX10_digest_42 (by decide) (fun q16 => ?_) (fun q16 => ?_)
      · have h := it_n q16 h
        refine lv_aload_n hx hb dX10_digest_53 rfl (lv_at hl 0 rfl) ?_
        refine lv_aload_n hx hb dX10_digest_54 rfl (lv_at hl 0 rfl) ?_
        refine gY0_15 hC hW dX10_digest_55 ?_
        refine lv_iload_n hx hb dX10_digest_58 rfl (lv_at hl 1 rfl) ?_
        obtain ⟨g17, h⟩ := gd_some h
        refine x_iald hC hW aY10 g17 dX10_digest_59 ?_
        obtain ⟨t18, e19, h⟩ := bd h
        refine x_gov (x_rv (rest := []) hC hW (ctY0_mix e19) (cwV_g hC.2.2.2.2 ml_X10_316 mi_X10_mix md_X10_mix ⟨(Nat.le_trans (Nat.le_of_ble_eq_true rfl) hF), (Nat.le_trans (Nat.le_of_ble_eq_true rfl) hL)⟩) (rcY0 hW) rfl hl.1 rfl (Nat.le_of_ble_eq_true rfl) dX10_digest_60) hW (fun H locs hW => ?_)
        refine lv_aload_n hx hb dX10_digest_63 rfl (lv_at hl 0 rfl) ?_
        refine lv_aload_n hx hb dX10_digest_64 rfl (lv_at hl 0 rfl) ?_
        refine lv_iload_n hx hb dX10_digest_65 rfl (lv_at hl 1 rfl) ?_
        obtain ⟨t20, e21, h⟩ := bd h
        refine x_goi (x_rv (rest := [.ref (ad G 0)]) hC hW (ctY0_tells e21) (cwV_g hC.2.2.2.2 ml_X10_202 mi_X10_tells md_X10_tells ⟨(Nat.le_trans (Nat.le_of_ble_eq_true rfl) hF), (Nat.le_trans (Nat.le_of_ble_eq_true rfl) hL)⟩) (rcY0 hW) rfl hl.1 rfl (Nat.le_of_ble_eq_true rfl) dX10_digest_66) hW (fun H locs hW => ?_)
        obtain ⟨t22, e23, h⟩ := bd h
        refine x_gov (x_rv (rest := []) hC hW (ctY0_mix e23) (cwV_g hC.2.2.2.2 ml_X10_316 mi_X10_mix md_X10_mix ⟨(Nat.le_trans (Nat.le_of_ble_eq_true rfl) hF), (Nat.le_trans (Nat.le_of_ble_eq_true rfl) hL)⟩) (rcY0 hW) rfl hl.1 rfl (Nat.le_of_ble_eq_true rfl) dX10_digest_69) hW (fun H locs hW => ?_)
        refine lv_aload_n hx hb dX10_digest_72 rfl (lv_at hl 0 rfl) ?_
        refine lv_aload_n hx hb dX10_digest_73 rfl (lv_at hl 0 rfl) ?_
        refine lv_iload_n hx hb dX10_digest_74 rfl (lv_at hl 1 rfl) ?_
        obtain ⟨t24, e25, h⟩ := bd h
        refine x_goi (x_rv (rest := [.ref (ad G 0)]) hC hW (ctY0_firstMany e25) (cwV_g hC.2.2.2.2 ml_X10_199 mi_X10_firstMany md_X10_firstMany ⟨(Nat.le_trans (Nat.le_of_ble_eq_true rfl) hF), (Nat.le_trans (Nat.le_of_ble_eq_true rfl) hL)⟩) (rcY0 hW) rfl hl.1 rfl (Nat.le_of_ble_eq_true rfl) dX10_digest_75) hW (fun H locs hW => ?_)
        obtain ⟨t26, e27, h⟩ := bd h
        refine x_gov (x_rv (rest := []) hC hW (ctY0_mix e27) (cwV_g hC.2.2.2.2 ml_X10_316 mi_X10_mix md_X10_mix ⟨(Nat.le_trans (Nat.le_of_ble_eq_true rfl) hF), (Nat.le_trans (Nat.le_of_ble_eq_true rfl) hL)⟩) (rcY0 hW) rfl hl.1 rfl (Nat.le_of_ble_eq_true rfl) dX10_digest_78) hW (fun H locs hW => ?_)
        cases h
        exact K13 _ _ _ hW (lv_sub hl [0, 1] rfl)
      · have h := it_p q16 h
        refine lv_aload_n hx hb dX10_digest_45 rfl (lv_at hl 0 rfl) ?_
        refine lv_iconst (v := (-1)) hx hb dX10_digest_46 (by decide) ?_
        obtain ⟨t28, e29, h⟩ := bd h
        refine x_gov (x_rv (rest := []) hC hW (ctY0_mix e29) (cwV_g hC.2.2.2.2 ml_X10_316 mi_X10_mix md_X10_mix ⟨(Nat.le_trans (Nat.le_of_ble_eq_true rfl) hF), (Nat.le_trans (Nat.le_of_ble_eq_true rfl) hL)⟩) (rcY0 hW) rfl hl.1 rfl (Nat.le_of_ble_eq_true rfl) dX10_digest_47) hW (fun H locs hW => ?_)
        refine lv_goto (tgt := 81) hx hb dX10_digest_50 (by decide) ?_
        cases h
        exact K13 _ _ _ hW (lv_sub hl [0, 1] rfl)
def fY0_digest_L89 (N : Nat)  : Nat → St → Int32 → Option (St)
  | 0, _, _ => none
  | n + 1, S, x1 =>
    if (S.1 0 18) ≤ x1 then
      some S
    else
      gd (inb x1 8) <|
      Option.bind (fY0_mix S (S.1 13 (Int32.toNatClampNeg x1))) fun t34 =>
      gd (inb x1 8) <|
      Option.bind (fY0_mix t34 (t34.1 14 (Int32.toNatClampNeg x1))) fun t37 =>
      gd (inb x1 8) <|
      Option.bind (fY0_mix t37 (t37.1 15 (Int32.toNatClampNeg x1))) fun t40 =>
      fY0_digest_L89 N n t40 (x1 + 1)
set_option maxHeartbeats 4000000 in
set_option maxRecDepth 100000 in
theorem wY0_digest_L89 {N : Nat}  (hC : CallFix p m c cX10_digest 3 s args lw_g RX10) (hF : 4 ≤ R.frames) (hL : 89 ≤ R.locals)  {t : St} (kx : ∀ (H : Heap) (locs : List Loc) (ls : Array Slot), wg LY G t s H locs → lv_has ls 3 [(0, .ref (ad G 0))] → W p l e R s m args below meth c H locs 0 0 Q (F0 m 133 ls [])) : ∀ (n : Nat) (S : St) (x1 : Int32), fY0_digest_L89 N  n S x1 = some t → ∀ (H : Heap) (locs : List Loc) (ls : Array Slot), wg LY G S s H locs → lv_has ls 3 [(0, .ref (ad G 0)), (1, .int x1)] → W p l e R s m args below meth c H locs 0 0 Q (F0 m 89 ls []) := by
  have hx := hC.1
  have hb := hC.2.1
  intro n
  induction n with
  | zero =>
    intro _ _ h
    cases h
  | succ n ih =>
    intro S x1 h H locs ls hW hl
    rw [fY0_digest_L89] at h
    refine lv_iload_n hx hb dX10_digest_89 rfl (lv_at hl 1 rfl) ?_
    refine lv_aload_n hx hb dX10_digest_90 rfl (lv_at hl 0 rfl) ?_
    refine gY0_18 hC hW dX10_digest_91 ?_
    refine lv_icmp_ge (tgt := 133) hx hb dX10_digest_94 (by decide) (fun q32 => ?_) (fun q32 => ?_)
    · have h := it_p q32 h
      cases h
      exact kx _ _ _ hW (lv_sub hl [0] rfl)
    · have h := it_n q32 h
      refine lv_aload_n hx hb dX10_digest_97 rfl (lv_at hl 0 rfl) ?_
      refine lv_aload_n hx hb dX10_digest_98 rfl (lv_at hl 0 rfl) ?_
      refine gY0_19 hC hW dX10_digest_99 ?_
      refine lv_iload_n hx hb dX10_digest_102 rfl (lv_at hl 1 rfl) ?_
      obtain ⟨g33, h⟩ := gd_some h
      refine x_iald hC hW aY13 g33 dX10_digest_103 ?_
      obtain ⟨t34, e35, h⟩ := bd h
      refine x_gov (x_rv (rest := []) hC hW (ctY0_mix e35) (cwV_g hC.2.2.2.2 ml_X10_316 mi_X10_mix md_X10_mix ⟨(Nat.le_trans (Nat.le_of_ble_eq_true rfl) hF), (Nat.le_trans (Nat.le_of_ble_eq_true rfl) hL)⟩) (rcY0 hW) rfl hl.1 rfl (Nat.le_of_ble_eq_true rfl) dX10_digest_104) hW (fun H locs hW => ?_)
      refine lv_aload_n hx hb dX10_digest_107 rfl (lv_at hl 0 rfl) ?_
      refine lv_aload_n hx hb dX10_digest_108 rfl (lv_at hl 0 rfl) ?_
      refine gY0_20 hC hW dX10_digest_109 ?_
      refine lv_iload_n hx hb dX10_digest_112 rfl (lv_at hl 1 rfl) ?_
      obtain ⟨g36, h⟩ := gd_some h
      refine x_iald hC hW aY14 g36 dX10_digest_113 ?_
      obtain ⟨t37, e38, h⟩ := bd h
      refine x_gov (x_rv (rest := []) hC hW (ctY0_mix e38) (cwV_g hC.2.2.2.2 ml_X10_316 mi_X10_mix md_X10_mix ⟨(Nat.le_trans (Nat.le_of_ble_eq_true rfl) hF), (Nat.le_trans (Nat.le_of_ble_eq_true rfl) hL)⟩) (rcY0 hW) rfl hl.1 rfl (Nat.le_of_ble_eq_true rfl) dX10_digest_114) hW (fun H locs hW => ?_)
      refine lv_aload_n hx hb dX10_digest_117 rfl (lv_at hl 0 rfl) ?_
      refine lv_aload_n hx hb dX10_digest_118 rfl (lv_at hl 0 rfl) ?_
      refine gY0_21 hC hW dX10_digest_119 ?_
      refine lv_iload_n hx hb dX10_digest_122 rfl (lv_at hl 1 rfl) ?_
      obtain ⟨g39, h⟩ := gd_some h
      refine x_iald hC hW aY15 g39 dX10_digest_123 ?_
      obtain ⟨t40, e41, h⟩ := bd h
      refine x_gov (x_rv (rest := []) hC hW (ctY0_mix e41) (cwV_g hC.2.2.2.2 ml_X10_316 mi_X10_mix md_X10_mix ⟨(Nat.le_trans (Nat.le_of_ble_eq_true rfl) hF), (Nat.le_trans (Nat.le_of_ble_eq_true rfl) hL)⟩) (rcY0 hW) rfl hl.1 rfl (Nat.le_of_ble_eq_true rfl) dX10_digest_124) hW (fun H locs hW => ?_)
      refine lv_iinc (v := x1 + 1) (lv' := [(1, .int (x1 + 1)), (0, .ref (ad G 0))]) (k := 1) hx hb dX10_digest_127 hl rfl rfl (by decide) rfl (fun ls hl => ?_)
      refine lv_goto (tgt := 89) hx hb dX10_digest_130 (by decide) ?_
      exact ih _ _ h _ _ _ hW (lv_sub hl [1, 0] rfl)
def fY0_digest_L135 (N : Nat)  : Nat → St → Int32 → Option (St)
  | 0, _, _ => none
  | n + 1, S, x1 =>
    if (S.1 0 22) ≤ x1 then
      some S
    else
      gd (inb x1 12) <|
      Option.bind (fY0_mix S (S.1 16 (Int32.toNatClampNeg x1))) fun t46 =>
      fY0_digest_L135 N n t46 (x1 + 1)
set_option maxHeartbeats 4000000 in
set_option maxRecDepth 100000 in
theorem wY0_digest_L135 {N : Nat}  (hC : CallFix p m c cX10_digest 3 s args lw_g RX10) (hF : 4 ≤ R.frames) (hL : 89 ≤ R.locals)  {t : St} (kx : ∀ (H : Heap) (locs : List Loc) (ls : Array Slot), wg LY G t s H locs → lv_has ls 3 [(0, .ref (ad G 0))] → W p l e R s m args below meth c H locs 0 0 Q (F0 m 159 ls [])) : ∀ (n : Nat) (S : St) (x1 : Int32), fY0_digest_L135 N  n S x1 = some t → ∀ (H : Heap) (locs : List Loc) (ls : Array Slot), wg LY G S s H locs → lv_has ls 3 [(0, .ref (ad G 0)), (1, .int x1)] → W p l e R s m args below meth c H locs 0 0 Q (F0 m 135 ls []) := by
  have hx := hC.1
  have hb := hC.2.1
  intro n
  induction n with
  | zero =>
    intro _ _ h
    cases h
  | succ n ih =>
    intro S x1 h H locs ls hW hl
    rw [fY0_digest_L135] at h
    refine lv_iload_n hx hb dX10_digest_135 rfl (lv_at hl 1 rfl) ?_
    refine lv_aload_n hx hb dX10_digest_136 rfl (lv_at hl 0 rfl) ?_
    refine gY0_22 hC hW dX10_digest_137 ?_
    refine lv_icmp_ge (tgt := 159) hx hb dX10_digest_140 (by decide) (fun q44 => ?_) (fun q44 => ?_)
    · have h := it_p q44 h
      cases h
      exact kx _ _ _ hW (lv_sub hl [0] rfl)
    · have h := it_n q44 h
      refine lv_aload_n hx hb dX10_digest_143 rfl (lv_at hl 0 rfl) ?_
      refine lv_aload_n hx hb dX10_digest_144 rfl (lv_at hl 0 rfl) ?_
      refine gY0_23 hC hW dX10_digest_145 ?_
      refine lv_iload_n hx hb dX10_digest_148 rfl (lv_at hl 1 rfl) ?_
      obtain ⟨g45, h⟩ := gd_some h
      refine x_iald hC hW aY16 g45 dX10_digest_149 ?_
      obtain ⟨t46, e47, h⟩ := bd h
      refine x_gov (x_rv (rest := []) hC hW (ctY0_mix e47) (cwV_g hC.2.2.2.2 ml_X10_316 mi_X10_mix md_X10_mix ⟨(Nat.le_trans (Nat.le_of_ble_eq_true rfl) hF), (Nat.le_trans (Nat.le_of_ble_eq_true rfl) hL)⟩) (rcY0 hW) rfl hl.1 rfl (Nat.le_of_ble_eq_true rfl) dX10_digest_150) hW (fun H locs hW => ?_)
      refine lv_iinc (v := x1 + 1) (lv' := [(1, .int (x1 + 1)), (0, .ref (ad G 0))]) (k := 1) hx hb dX10_digest_153 hl rfl rfl (by decide) rfl (fun ls hl => ?_)
      refine lv_goto (tgt := 135) hx hb dX10_digest_156 (by decide) ?_
      exact ih _ _ h _ _ _ hW (lv_sub hl [1, 0] rfl)
def fY0_digest_L192 (N : Nat) (x1 : Int32) : Nat → St → Int32 → Option (St)
  | 0, _, _ => none
  | n + 1, S, x2 =>
    gd (inb x1 6) <|
    if (S.1 2 (Int32.toNatClampNeg x1)) ≤ x2 then
      some S
    else
      Option.bind (fY0_rowAt S x1 x2) fun t61 =>
      Option.bind (fY0_mix S t61) fun t63 =>
      fY0_digest_L192 N x1 n t63 (x2 + 1)
set_option maxHeartbeats 4000000 in
set_option maxRecDepth 100000 in
theorem wY0_digest_L192 {N : Nat} {x1 : Int32} (hC : CallFix p m c cX10_digest 3 s args lw_g RX10) (hF : 4 ≤ R.frames) (hL : 89 ≤ R.locals)  {t : St} (kx : ∀ (H : Heap) (locs : List Loc) (ls : Array Slot), wg LY G t s H locs → lv_has ls 3 [(0, .ref (ad G 0)), (1, .int x1)] → W p l e R s m args below meth c H locs 0 0 Q (F0 m 218 ls [])) : ∀ (n : Nat) (S : St) (x2 : Int32), fY0_digest_L192 N x1 n S x2 = some t → ∀ (H : Heap) (locs : List Loc) (ls : Array Slot), wg LY G S s H locs → lv_has ls 3 [(0, .ref (ad G 0)), (1, .int x1), (2, .int x2)] → W p l e R s m args below meth c H locs 0 0 Q (F0 m 192 ls []) := by
  have hx := hC.1
  have hb := hC.2.1
  intro n
  induction n with
  | zero =>
    intro _ _ h
    cases h
  | succ n ih =>
    intro S x2 h H locs ls hW hl
    rw [fY0_digest_L192] at h
    refine lv_iload_n hx hb dX10_digest_192 rfl (lv_at hl 2 rfl) ?_
    refine lv_aload_n hx hb dX10_digest_193 rfl (lv_at hl 0 rfl) ?_
    refine gY0_5 hC hW dX10_digest_194 ?_
    refine lv_iload_n hx hb dX10_digest_197 rfl (lv_at hl 1 rfl) ?_
    obtain ⟨g59, h⟩ := gd_some h
    refine x_iald hC hW aY2 g59 dX10_digest_198 ?_
    refine lv_icmp_ge (tgt := 218) hx hb dX10_digest_199 (by decide) (fun q60 => ?_) (fun q60 => ?_)
    · have h := it_p q60 h
      cases h
      exact kx _ _ _ hW (lv_sub hl [0, 1] rfl)
    · have h := it_n q60 h
      refine lv_aload_n hx hb dX10_digest_202 rfl (lv_at hl 0 rfl) ?_
      refine lv_aload_n hx hb dX10_digest_203 rfl (lv_at hl 0 rfl) ?_
      refine lv_iload_n hx hb dX10_digest_204 rfl (lv_at hl 1 rfl) ?_
      refine lv_iload_n hx hb dX10_digest_205 rfl (lv_at hl 2 rfl) ?_
      obtain ⟨t61, e62, h⟩ := bd h
      refine x_goi (x_rv (rest := [.ref (ad G 0)]) hC hW (ctY0_rowAt e62) (cwV_g hC.2.2.2.2 ml_X10_121 mi_X10_rowAt md_X10_rowAt ⟨(Nat.le_trans (Nat.le_of_ble_eq_true rfl) hF), (Nat.le_trans (Nat.le_of_ble_eq_true rfl) hL)⟩) (rcY0 hW) rfl hl.1 rfl (Nat.le_of_ble_eq_true rfl) dX10_digest_206) hW (fun H locs hW => ?_)
      obtain ⟨t63, e64, h⟩ := bd h
      refine x_gov (x_rv (rest := []) hC hW (ctY0_mix e64) (cwV_g hC.2.2.2.2 ml_X10_316 mi_X10_mix md_X10_mix ⟨(Nat.le_trans (Nat.le_of_ble_eq_true rfl) hF), (Nat.le_trans (Nat.le_of_ble_eq_true rfl) hL)⟩) (rcY0 hW) rfl hl.1 rfl (Nat.le_of_ble_eq_true rfl) dX10_digest_209) hW (fun H locs hW => ?_)
      refine lv_iinc (v := x2 + 1) (lv' := [(2, .int (x2 + 1)), (0, .ref (ad G 0)), (1, .int x1)]) (k := 2) hx hb dX10_digest_212 hl rfl rfl (by decide) rfl (fun ls hl => ?_)
      refine lv_goto (tgt := 192) hx hb dX10_digest_215 (by decide) ?_
      exact ih _ _ h _ _ _ hW (lv_sub hl [1, 2, 0] rfl)
def fY0_digest_L161 (N : Nat)  : Nat → St → Int32 → Option (St)
  | 0, _, _ => none
  | n + 1, S, x1 =>
    if 6 ≤ x1 then
      some S
    else
      gd (inb x1 6) <|
      Option.bind (α := Int32) (
        if 0 ≤ (S.1 2 (Int32.toNatClampNeg x1)) then
          gd (inb x1 6) <|
          some (S.1 2 (Int32.toNatClampNeg x1))
        else
          some (-1)
      ) fun t53 =>
      Option.bind (fY0_mix S t53) fun t57 =>
      Option.bind (fY0_digest_L192 N x1 N t57 0) fun t65 =>
      fY0_digest_L161 N n t65 (x1 + 1)
set_option maxHeartbeats 4000000 in
set_option maxRecDepth 100000 in
theorem wY0_digest_L161 {N : Nat}  (hC : CallFix p m c cX10_digest 3 s args lw_g RX10) (hF : 4 ≤ R.frames) (hL : 89 ≤ R.locals)  {t : St} (kx : ∀ (H : Heap) (locs : List Loc) (ls : Array Slot), wg LY G t s H locs → lv_has ls 3 [(0, .ref (ad G 0))] → W p l e R s m args below meth c H locs 0 0 Q (F0 m 224 ls [])) : ∀ (n : Nat) (S : St) (x1 : Int32), fY0_digest_L161 N  n S x1 = some t → ∀ (H : Heap) (locs : List Loc) (ls : Array Slot), wg LY G S s H locs → lv_has ls 3 [(0, .ref (ad G 0)), (1, .int x1)] → W p l e R s m args below meth c H locs 0 0 Q (F0 m 161 ls []) := by
  have hx := hC.1
  have hb := hC.2.1
  intro n
  induction n with
  | zero =>
    intro _ _ h
    cases h
  | succ n ih =>
    intro S x1 h H locs ls hW hl
    rw [fY0_digest_L161] at h
    refine lv_iload_n hx hb dX10_digest_161 rfl (lv_at hl 1 rfl) ?_
    refine lv_bipush (v := 6) hx hb dX10_digest_162 (by decide) ?_
    refine lv_icmp_ge (tgt := 224) hx hb dX10_digest_164 (by decide) (fun q50 => ?_) (fun q50 => ?_)
    · have h := it_p q50 h
      cases h
      exact kx _ _ _ hW (lv_sub hl [0] rfl)
    · have h := it_n q50 h
      refine lv_aload_n hx hb dX10_digest_167 rfl (lv_at hl 0 rfl) ?_
      refine lv_aload_n hx hb dX10_digest_168 rfl (lv_at hl 0 rfl) ?_
      refine gY0_5 hC hW dX10_digest_169 ?_
      refine lv_iload_n hx hb dX10_digest_172 rfl (lv_at hl 1 rfl) ?_
      obtain ⟨g51, h⟩ := gd_some h
      refine x_iald hC hW aY2 g51 dX10_digest_173 ?_
      obtain ⟨t53, e54, h⟩ := bd h
      have K52 : ∀ (H : Heap) (locs : List Loc) (ls : Array Slot), wg LY G S s H locs → lv_has ls 3 [(0, .ref (ad G 0)), (1, .int x1)] → W p l e R s m args below meth c H locs 0 0 Q (F0 m 187 ls [.int t53, .ref (ad G 0)]) := by
        intro H locs ls hW hl
        obtain ⟨t57, e58, h⟩ := bd h
        refine x_gov (x_rv (rest := []) hC hW (ctY0_mix e58) (cwV_g hC.2.2.2.2 ml_X10_316 mi_X10_mix md_X10_mix ⟨(Nat.le_trans (Nat.le_of_ble_eq_true rfl) hF), (Nat.le_trans (Nat.le_of_ble_eq_true rfl) hL)⟩) (rcY0 hW) rfl hl.1 rfl (Nat.le_of_ble_eq_true rfl) dX10_digest_187) hW (fun H locs hW => ?_)
        refine lv_iconst (v := 0) hx hb dX10_digest_190 (by decide) ?_
        refine lv_istore_n (lv' := [(2, .int 0), (0, .ref (ad G 0)), (1, .int x1)]) hx hb dX10_digest_191 rfl hl (by decide) rfl (fun ls hl => ?_)
        obtain ⟨t65, e66, h⟩ := bd h
        refine wY0_digest_L192 hC hF hL  (fun H locs ls hW hl => ?_) _ _ _ e66 _ _ _ hW (lv_sub hl [1, 2, 0] rfl)
        refine lv_iinc (v := x1 + 1) (lv' := [(1, .int (x1 + 1)), (0, .ref (ad G 0))]) (k := 1) hx hb dX10_digest_218 hl rfl rfl (by decide) rfl (fun ls hl => ?_)
        refine lv_goto (tgt := 161) hx hb dX10_digest_221 (by decide) ?_
        exact ih _ _ h _ _ _ hW (lv_sub hl [1, 0] rfl)
      clear h
      have h := e54
      clear e54
      refine lv_if_ge (tgt := 181) hx hb dX10_digest_174 (by decide) (fun q55 => ?_) (fun q55 => ?_)
      · have h := it_p q55 h
        refine lv_aload_n hx hb dX10_digest_181 rfl (lv_at hl 0 rfl) ?_
        refine gY0_5 hC hW dX10_digest_182 ?_
        refine lv_iload_n hx hb dX10_digest_185 rfl (lv_at hl 1 rfl) ?_
        obtain ⟨g56, h⟩ := gd_some h
        refine x_iald hC hW aY2 g56 dX10_digest_186 ?_
        cases h
        exact K52 _ _ _ hW (lv_sub hl [0, 1] rfl)
      · have h := it_n q55 h
        refine lv_iconst (v := (-1)) hx hb dX10_digest_177 (by decide) ?_
        refine lv_goto (tgt := 187) hx hb dX10_digest_178 (by decide) ?_
        cases h
        exact K52 _ _ _ hW (lv_sub hl [0, 1] rfl)
def fY0_digest_L256 (N : Nat) (x1 : Int32) : Nat → St → Int32 → Option (St)
  | 0, _, _ => none
  | n + 1, S, x2 =>
    gd (inb x1 4) <|
    if (S.1 5 (Int32.toNatClampNeg x1)) ≤ x2 then
      some S
    else
      gd (inb ((60 * x1) + x2) 240) <|
      Option.bind (fY0_mix S (S.1 6 (Int32.toNatClampNeg ((60 * x1) + x2)))) fun t81 =>
      fY0_digest_L256 N x1 n t81 (x2 + 1)
set_option maxHeartbeats 4000000 in
set_option maxRecDepth 100000 in
theorem wY0_digest_L256 {N : Nat} {x1 : Int32} (hC : CallFix p m c cX10_digest 3 s args lw_g RX10) (hF : 4 ≤ R.frames) (hL : 89 ≤ R.locals)  {t : St} (kx : ∀ (H : Heap) (locs : List Loc) (ls : Array Slot), wg LY G t s H locs → lv_has ls 3 [(0, .ref (ad G 0)), (1, .int x1)] → W p l e R s m args below meth c H locs 0 0 Q (F0 m 287 ls [])) : ∀ (n : Nat) (S : St) (x2 : Int32), fY0_digest_L256 N x1 n S x2 = some t → ∀ (H : Heap) (locs : List Loc) (ls : Array Slot), wg LY G S s H locs → lv_has ls 3 [(0, .ref (ad G 0)), (1, .int x1), (2, .int x2)] → W p l e R s m args below meth c H locs 0 0 Q (F0 m 256 ls []) := by
  have hx := hC.1
  have hb := hC.2.1
  intro n
  induction n with
  | zero =>
    intro _ _ h
    cases h
  | succ n ih =>
    intro S x2 h H locs ls hW hl
    rw [fY0_digest_L256] at h
    refine lv_iload_n hx hb dX10_digest_256 rfl (lv_at hl 2 rfl) ?_
    refine lv_aload_n hx hb dX10_digest_257 rfl (lv_at hl 0 rfl) ?_
    refine gY0_8 hC hW dX10_digest_258 ?_
    refine lv_iload_n hx hb dX10_digest_261 rfl (lv_at hl 1 rfl) ?_
    obtain ⟨g78, h⟩ := gd_some h
    refine x_iald hC hW aY5 g78 dX10_digest_262 ?_
    refine lv_icmp_ge (tgt := 287) hx hb dX10_digest_263 (by decide) (fun q79 => ?_) (fun q79 => ?_)
    · have h := it_p q79 h
      cases h
      exact kx _ _ _ hW (lv_sub hl [0, 1] rfl)
    · have h := it_n q79 h
      refine lv_aload_n hx hb dX10_digest_266 rfl (lv_at hl 0 rfl) ?_
      refine lv_aload_n hx hb dX10_digest_267 rfl (lv_at hl 0 rfl) ?_
      refine gY0_9 hC hW dX10_digest_268 ?_
      refine lv_bipush (v := 60) hx hb dX10_digest_271 (by decide) ?_
      refine lv_iload_n hx hb dX10_digest_273 rfl (lv_at hl 1 rfl) ?_
      refine lv_imul hx hb dX10_digest_274 ?_
      refine lv_iload_n hx hb dX10_digest_275 rfl (lv_at hl 2 rfl) ?_
      refine lv_iadd hx hb dX10_digest_276 ?_
      obtain ⟨g80, h⟩ := gd_some h
      refine x_iald hC hW aY6 g80 dX10_digest_277 ?_
      obtain ⟨t81, e82, h⟩ := bd h
      refine x_gov (x_rv (rest := []) hC hW (ctY0_mix e82) (cwV_g hC.2.2.2.2 ml_X10_316 mi_X10_mix md_X10_mix ⟨(Nat.le_trans (Nat.le_of_ble_eq_true rfl) hF), (Nat.le_trans (Nat.le_of_ble_eq_true rfl) hL)⟩) (rcY0 hW) rfl hl.1 rfl (Nat.le_of_ble_eq_true rfl) dX10_digest_278) hW (fun H locs hW => ?_)
      refine lv_iinc (v := x2 + 1) (lv' := [(2, .int (x2 + 1)), (0, .ref (ad G 0)), (1, .int x1)]) (k := 2) hx hb dX10_digest_281 hl rfl rfl (by decide) rfl (fun ls hl => ?_)
      refine lv_goto (tgt := 256) hx hb dX10_digest_284 (by decide) ?_
      exact ih _ _ h _ _ _ hW (lv_sub hl [1, 2, 0] rfl)
def fY0_digest_L226 (N : Nat)  : Nat → St → Int32 → Option (St)
  | 0, _, _ => none
  | n + 1, S, x1 =>
    if 4 ≤ x1 then
      some S
    else
      gd (inb x1 4) <|
      Option.bind (α := Int32) (
        if 0 ≤ (S.1 5 (Int32.toNatClampNeg x1)) then
          gd (inb x1 4) <|
          some (S.1 5 (Int32.toNatClampNeg x1))
        else
          some (-1)
      ) fun t72 =>
      Option.bind (fY0_mix S t72) fun t76 =>
      Option.bind (fY0_digest_L256 N x1 N t76 0) fun t83 =>
      fY0_digest_L226 N n t83 (x1 + 1)
set_option maxHeartbeats 4000000 in
set_option maxRecDepth 100000 in
theorem wY0_digest_L226 {N : Nat}  (hC : CallFix p m c cX10_digest 3 s args lw_g RX10) (hF : 4 ≤ R.frames) (hL : 89 ≤ R.locals)  {t : St} (kx : ∀ (H : Heap) (locs : List Loc) (ls : Array Slot), wg LY G t s H locs → lv_has ls 3 [(0, .ref (ad G 0))] → W p l e R s m args below meth c H locs 0 0 Q (F0 m 293 ls [])) : ∀ (n : Nat) (S : St) (x1 : Int32), fY0_digest_L226 N  n S x1 = some t → ∀ (H : Heap) (locs : List Loc) (ls : Array Slot), wg LY G S s H locs → lv_has ls 3 [(0, .ref (ad G 0)), (1, .int x1)] → W p l e R s m args below meth c H locs 0 0 Q (F0 m 226 ls []) := by
  have hx := hC.1
  have hb := hC.2.1
  intro n
  induction n with
  | zero =>
    intro _ _ h
    cases h
  | succ n ih =>
    intro S x1 h H locs ls hW hl
    rw [fY0_digest_L226] at h
    refine lv_iload_n hx hb dX10_digest_226 rfl (lv_at hl 1 rfl) ?_
    refine lv_iconst (v := 4) hx hb dX10_digest_227 (by decide) ?_
    refine lv_icmp_ge (tgt := 293) hx hb dX10_digest_228 (by decide) (fun q69 => ?_) (fun q69 => ?_)
    · have h := it_p q69 h
      cases h
      exact kx _ _ _ hW (lv_sub hl [0] rfl)
    · have h := it_n q69 h
      refine lv_aload_n hx hb dX10_digest_231 rfl (lv_at hl 0 rfl) ?_
      refine lv_aload_n hx hb dX10_digest_232 rfl (lv_at hl 0 rfl) ?_
      refine gY0_8 hC hW dX10_digest_233 ?_
      refine lv_iload_n hx hb dX10_digest_236 rfl (lv_at hl 1 rfl) ?_
      obtain ⟨g70, h⟩ := gd_some h
      refine x_iald hC hW aY5 g70 dX10_digest_237 ?_
      obtain ⟨t72, e73, h⟩ := bd h
      have K71 : ∀ (H : Heap) (locs : List Loc) (ls : Array Slot), wg LY G S s H locs → lv_has ls 3 [(0, .ref (ad G 0)), (1, .int x1)] → W p l e R s m args below meth c H locs 0 0 Q (F0 m 251 ls [.int t72, .ref (ad G 0)]) := by
        intro H locs ls hW hl
        obtain ⟨t76, e77, h⟩ := bd h
        refine x_gov (x_rv (rest := []) hC hW (ctY0_mix e77) (cwV_g hC.2.2.2.2 ml_X10_316 mi_X10_mix md_X10_mix ⟨(Nat.le_trans (Nat.le_of_ble_eq_true rfl) hF), (Nat.le_trans (Nat.le_of_ble_eq_true rfl) hL)⟩) (rcY0 hW) rfl hl.1 rfl (Nat.le_of_ble_eq_true rfl) dX10_digest_251) hW (fun H locs hW => ?_)
        refine lv_iconst (v := 0) hx hb dX10_digest_254 (by decide) ?_
        refine lv_istore_n (lv' := [(2, .int 0), (0, .ref (ad G 0)), (1, .int x1)]) hx hb dX10_digest_255 rfl hl (by decide) rfl (fun ls hl => ?_)
        obtain ⟨t83, e84, h⟩ := bd h
        refine wY0_digest_L256 hC hF hL  (fun H locs ls hW hl => ?_) _ _ _ e84 _ _ _ hW (lv_sub hl [1, 2, 0] rfl)
        refine lv_iinc (v := x1 + 1) (lv' := [(1, .int (x1 + 1)), (0, .ref (ad G 0))]) (k := 1) hx hb dX10_digest_287 hl rfl rfl (by decide) rfl (fun ls hl => ?_)
        refine lv_goto (tgt := 226) hx hb dX10_digest_290 (by decide) ?_
        exact ih _ _ h _ _ _ hW (lv_sub hl [1, 0] rfl)
      clear h
      have h := e73
      clear e73
      refine lv_if_ge (tgt := 245) hx hb dX10_digest_238 (by decide) (fun q74 => ?_) (fun q74 => ?_)
      · have h := it_p q74 h
        refine lv_aload_n hx hb dX10_digest_245 rfl (lv_at hl 0 rfl) ?_
        refine gY0_8 hC hW dX10_digest_246 ?_
        refine lv_iload_n hx hb dX10_digest_249 rfl (lv_at hl 1 rfl) ?_
        obtain ⟨g75, h⟩ := gd_some h
        refine x_iald hC hW aY5 g75 dX10_digest_250 ?_
        cases h
        exact K71 _ _ _ hW (lv_sub hl [0, 1] rfl)
      · have h := it_n q74 h
        refine lv_iconst (v := (-1)) hx hb dX10_digest_241 (by decide) ?_
        refine lv_goto (tgt := 251) hx hb dX10_digest_242 (by decide) ?_
        cases h
        exact K71 _ _ _ hW (lv_sub hl [0, 1] rfl)
def fY0_digest (N : Nat) (S : St)  : Option (Int64 × St) :=
  nx (p2 S 0 43 17) fun s1 =>
  Option.bind (fY0_digest_L9 N N s1 0) fun t8 =>
  Option.bind (fY0_digest_L31 N N t8 0) fun t30 =>
  Option.bind (fY0_digest_L89 N N t30 0) fun t42 =>
  Option.bind (fY0_digest_L135 N N t42 0) fun t48 =>
  Option.bind (fY0_digest_L161 N N t48 0) fun t67 =>
  Option.bind (fY0_digest_L226 N N t67 0) fun t85 =>
  some (t85.2 0 43, t85)
set_option maxHeartbeats 4000000 in
set_option maxRecDepth 100000 in
theorem wY0_digest {N : Nat} {S : St}  (hC : CallFix p m c cX10_digest 3 s args lw_g RX10) (hF : 4 ≤ R.frames) (hL : 89 ≤ R.locals)  {v : Int64} {S' : St} (h : fY0_digest N S = some (v, S')) (kr : ∀ (H : Heap) (locs : List Loc) (ls : Array Slot) (pc : Nat), decode cX10_digest pc = .ok (.lreturn, 1) → wg LY G (S') s H locs → W p l e R s m args below meth c H locs 0 0 Q (F0 m pc ls [.long v])) : ∀ (H : Heap) (locs : List Loc) (ls : Array Slot), wg LY G S s H locs → lv_has ls 3 [(0, .ref (ad G 0))] → W p l e R s m args below meth c H locs 0 0 Q (F0 m 0 ls []) := by
  have hx := hC.1
  have hb := hC.2.1
  intro H locs ls hW hl
  unfold fY0_digest at h
  refine lv_aload_n hx hb dX10_digest_0 rfl (lv_at hl 0 rfl) ?_
  refine lv_ldc2 (v := 17) hx hb hC.2.2.2.1 (hC.2.2.2.2 _ kl_X10_314) dX10_digest_1 ?_
  refine pY0_43 hC hW dX10_digest_4 (fun H locs hW => ?_)
  obtain ⟨s1, e2, h⟩ := nx_some h
  rw [← e2] at hW
  refine lv_iconst (v := 0) hx hb dX10_digest_7 (by decide) ?_
  refine lv_istore_n (lv' := [(1, .int 0), (0, .ref (ad G 0))]) hx hb dX10_digest_8 rfl hl (by decide) rfl (fun ls hl => ?_)
  obtain ⟨t8, e9, h⟩ := bd h
  refine wY0_digest_L9 hC hF hL  (fun H locs ls hW hl => ?_) _ _ _ e9 _ _ _ hW (lv_sub hl [1, 0] rfl)
  refine lv_iconst (v := 0) hx hb dX10_digest_29 (by decide) ?_
  refine lv_istore_n (lv' := [(1, .int 0), (0, .ref (ad G 0))]) hx hb dX10_digest_30 rfl hl (by decide) rfl (fun ls hl => ?_)
  obtain ⟨t30, e31, h⟩ := bd h
  refine wY0_digest_L31 hC hF hL  (fun H locs ls hW hl => ?_) _ _ _ e31 _ _ _ hW (lv_sub hl [1, 0] rfl)
  refine lv_iconst (v := 0) hx hb dX10_digest_87 (by decide) ?_
  refine lv_istore_n (lv' := [(1, .int 0), (0, .ref (ad G 0))]) hx hb dX10_digest_88 rfl hl (by decide) rfl (fun ls hl => ?_)
  obtain ⟨t42, e43, h⟩ := bd h
  refine wY0_digest_L89 hC hF hL  (fun H locs ls hW hl => ?_) _ _ _ e43 _ _ _ hW (lv_sub hl [1, 0] rfl)
  refine lv_iconst (v := 0) hx hb dX10_digest_133 (by decide) ?_
  refine lv_istore_n (lv' := [(1, .int 0), (0, .ref (ad G 0))]) hx hb dX10_digest_134 rfl hl (by decide) rfl (fun ls hl => ?_)
  obtain ⟨t48, e49, h⟩ := bd h
  refine wY0_digest_L135 hC hF hL  (fun H locs ls hW hl => ?_) _ _ _ e49 _ _ _ hW (lv_sub hl [1, 0] rfl)
  refine lv_iconst (v := 0) hx hb dX10_digest_159 (by decide) ?_
  refine lv_istore_n (lv' := [(1, .int 0), (0, .ref (ad G 0))]) hx hb dX10_digest_160 rfl hl (by decide) rfl (fun ls hl => ?_)
  obtain ⟨t67, e68, h⟩ := bd h
  refine wY0_digest_L161 hC hF hL  (fun H locs ls hW hl => ?_) _ _ _ e68 _ _ _ hW (lv_sub hl [1, 0] rfl)
  refine lv_iconst (v := 0) hx hb dX10_digest_224 (by decide) ?_
  refine lv_istore_n (lv' := [(1, .int 0), (0, .ref (ad G 0))]) hx hb dX10_digest_225 rfl hl (by decide) rfl (fun ls hl => ?_)
  obtain ⟨t85, e86, h⟩ := bd h
  refine wY0_digest_L226 hC hF hL  (fun H locs ls hW hl => ?_) _ _ _ e86 _ _ _ hW (lv_sub hl [1, 0] rfl)
  refine lv_aload_n hx hb dX10_digest_293 rfl (lv_at hl 0 rfl) ?_
  refine gY0_43 hC hW dX10_digest_294 ?_
  cases h
  exact kr _ _ _ _ dX10_digest_297 hW
theorem ctY0_digest {N : Nat} {S : St}   {v : Int64} {S' : St} (h : fY0_digest N S = some (v, S')) : Met l yX10_digest (wm yX10_digest cX10_digest 3 (some .long)) (rmx 4 89) (pcm LY G S [.ref (ad G 0)]) (qcL LY G S' v) 0 0 G.2.2.2 :=
  x_enter (own := RX10) rfl rfl (Nat.le_of_ble_eq_true rfl) (fun p e s m below meth c ls hC hr hk hW hl => wY0_digest hC (Nat.le_refl _) (Nat.le_refl _)  h (fun H locs ls pc hd hW => x_retl hC hr hk hW hd) _ _ _ hW hl)
end GEN
