section GEN
variable {p : Program} {l : Launch} {e : Env} {R : Room} {s : State} {m : MethodId} {args : Array Value} {below : List Frame} {meth : Method} {c : Code} {H : Heap} {locs : List Loc} {Q : State → Prop} {G : GG}
def fY0_wrong_L21 (N : Nat) (x1 : Int32) (x2 : Int32) : Nat → St → Int32 → Option ((Int32 × St) ⊕ (St))
  | 0, _, _ => none
  | n + 1, S, x3 =>
    if (1 <<< ((S.1 0 18) &&& 31)) ≤ x3 then
      some (.inr S)
    else
      Option.bind (fYs_bits N S x3) fun t6 =>
      if t6 = x2 then
        Option.bind (fY0_begin N S x1 x3) fun t9 =>
        Option.bind (fY0_nextFilling N t9) fun t11 =>
        if t11.1 = 0 then
          if (t11.2.1 0 36) = 0 then
            fY0_wrong_L21 N x1 x2 n t11.2 (x3 + 1)
          else
            some (.inl ((-6), t11.2))
        else
          some (.inl (x3, t11.2))
      else
        fY0_wrong_L21 N x1 x2 n S (x3 + 1)
set_option maxHeartbeats 4000000 in
set_option maxRecDepth 100000 in
theorem wY0_wrong_L21 {N : Nat} {x1 : Int32} {x2 : Int32} (hC : CallFix p m c cX10_wrong 4 s args lw_g RX10) (hF : 6 ≤ R.frames) (hL : 143 ≤ R.locals)  {t : (Int32 × St) ⊕ (St)} (kr : ∀ r, t = .inl r → ∀ (H : Heap) (locs : List Loc) (ls : Array Slot) (pc : Nat), decode cX10_wrong pc = .ok (.ireturn, 1) → wg LY G r.2 s H locs → W p l e R s m args below meth c H locs 0 0 Q (F0 m pc ls [.int r.1])) (kx : ∀ u, t = .inr u → ∀ (H : Heap) (locs : List Loc) (ls : Array Slot), wg LY G u s H locs → lv_has ls 4 [(0, .ref (ad G 0)), (1, .int x1), (2, .int x2)] → W p l e R s m args below meth c H locs 0 0 Q (F0 m 70 ls [])) : ∀ (n : Nat) (S : St) (x3 : Int32), fY0_wrong_L21 N x1 x2 n S x3 = some t → ∀ (H : Heap) (locs : List Loc) (ls : Array Slot), wg LY G S s H locs → lv_has ls 4 [(0, .ref (ad G 0)), (1, .int x1), (2, .int x2), (3, .int x3)] → W p l e R s m args below meth c H locs 0 0 Q (F0 m 21 ls []) := by
  have hx := hC.1
  have hb := hC.2.1
  intro n
  induction n with
  | zero =>
    intro _ _ h
    cases h
  | succ n ih =>
    intro S x3 h H locs ls hW hl
    rw [fY0_wrong_L21] at h
    refine lv_iload_n hx hb dX10_wrong_21 rfl (lv_at hl 3 rfl) ?_
    refine lv_iconst (v := 1) hx hb dX10_wrong_22 (by decide) ?_
    refine lv_aload_n hx hb dX10_wrong_23 rfl (lv_at hl 0 rfl) ?_
    refine gY0_18 hC hW dX10_wrong_24 ?_
    refine lv_ishl hx hb dX10_wrong_27 ?_
    refine lv_icmp_ge (tgt := 70) hx hb dX10_wrong_28 (by decide) (fun q5 => ?_) (fun q5 => ?_)
    · have h := it_p q5 h
      cases h
      exact kx _ rfl _ _ _ hW (lv_sub hl [0, 1, 2] rfl)
    · have h := it_n q5 h
      refine lv_iload_n hx hb dX10_wrong_31 rfl (lv_at hl 3 rfl) ?_
      obtain ⟨t6, e7, h⟩ := bd h
      refine x_goi (x_rs (rest := []) hC hW (ctYs_bits e7) (cwS_g hC.2.2.2.2 ml_X10_291 ms_X10_bits md_X10_bits ⟨(Nat.le_trans (Nat.le_of_ble_eq_true rfl) hF), (Nat.le_trans (Nat.le_of_ble_eq_true rfl) hL)⟩) rfl hl.1 rfl (Nat.le_of_ble_eq_true rfl) dX10_wrong_32) hW (fun H locs hW => ?_)
      refine lv_iload_n hx hb dX10_wrong_35 rfl (lv_at hl 2 rfl) ?_
      refine lv_icmp_ne (tgt := 64) hx hb dX10_wrong_36 (by decide) (fun q8 => ?_) (fun q8 => ?_)
      · have h := it_n q8 h
        refine lv_iinc (v := x3 + 1) (lv' := [(3, .int (x3 + 1)), (0, .ref (ad G 0)), (1, .int x1), (2, .int x2)]) (k := 3) hx hb dX10_wrong_64 hl rfl rfl (by decide) rfl (fun ls hl => ?_)
        refine lv_goto (tgt := 21) hx hb dX10_wrong_67 (by decide) ?_
        exact ih _ _ h _ _ _ hW (lv_sub hl [1, 2, 3, 0] rfl)
      · have h := it_p q8 h
        refine lv_aload_n hx hb dX10_wrong_39 rfl (lv_at hl 0 rfl) ?_
        refine lv_iload_n hx hb dX10_wrong_40 rfl (lv_at hl 1 rfl) ?_
        refine lv_iload_n hx hb dX10_wrong_41 rfl (lv_at hl 3 rfl) ?_
        obtain ⟨t9, e10, h⟩ := bd h
        refine x_gov (x_rv (rest := []) hC hW (ctY0_begin e10) (cwV_g hC.2.2.2.2 ml_X10_262 mi_X10_begin md_X10_begin ⟨(Nat.le_trans (Nat.le_of_ble_eq_true rfl) hF), (Nat.le_trans (Nat.le_of_ble_eq_true rfl) hL)⟩) (rcY0 hW) rfl hl.1 rfl (Nat.le_of_ble_eq_true rfl) dX10_wrong_42) hW (fun H locs hW => ?_)
        refine lv_aload_n hx hb dX10_wrong_45 rfl (lv_at hl 0 rfl) ?_
        obtain ⟨t11, e12, h⟩ := bd h
        refine x_goi (x_rv (rest := []) hC hW (ctY0_nextFilling e12) (cwV_g hC.2.2.2.2 ml_X10_269 mi_X10_nextFilling md_X10_nextFilling ⟨(Nat.le_trans (Nat.le_of_ble_eq_true rfl) hF), (Nat.le_trans (Nat.le_of_ble_eq_true rfl) hL)⟩) (rcY0 hW) rfl hl.1 rfl (Nat.le_of_ble_eq_true rfl) dX10_wrong_46) hW (fun H locs hW => ?_)
        refine lv_if_eq (tgt := 54) hx hb dX10_wrong_49 (by decide) (fun q13 => ?_) (fun q13 => ?_)
        · have h := it_p q13 h
          refine lv_aload_n hx hb dX10_wrong_54 rfl (lv_at hl 0 rfl) ?_
          refine gY0_36 hC hW dX10_wrong_55 ?_
          refine lv_if_eq (tgt := 64) hx hb dX10_wrong_58 (by decide) (fun q14 => ?_) (fun q14 => ?_)
          · have h := it_p q14 h
            refine lv_iinc (v := x3 + 1) (lv' := [(3, .int (x3 + 1)), (0, .ref (ad G 0)), (1, .int x1), (2, .int x2)]) (k := 3) hx hb dX10_wrong_64 hl rfl rfl (by decide) rfl (fun ls hl => ?_)
            refine lv_goto (tgt := 21) hx hb dX10_wrong_67 (by decide) ?_
            exact ih _ _ h _ _ _ hW (lv_sub hl [1, 2, 3, 0] rfl)
          · have h := it_n q14 h
            refine lv_bipush (v := (-6)) hx hb dX10_wrong_61 (by decide) ?_
            cases h
            exact kr _ rfl _ _ _ _ dX10_wrong_63 hW
        · have h := it_n q13 h
          refine lv_iload_n hx hb dX10_wrong_52 rfl (lv_at hl 3 rfl) ?_
          cases h
          exact kr _ rfl _ _ _ _ dX10_wrong_53 hW
def fY0_wrong_L11 (N : Nat) (x1 : Int32) : Nat → St → Int32 → Option ((Int32 × St) ⊕ (St))
  | 0, _, _ => none
  | n + 1, S, x2 =>
    if (S.1 0 18) < x2 then
      some (.inr S)
    else
      Option.bind (fY0_wrong_L21 N x1 x2 N S 0) fun t15 => sm2 t15 fun u17 =>
      fY0_wrong_L11 N x1 n u17 (x2 + 1)
set_option maxHeartbeats 4000000 in
set_option maxRecDepth 100000 in
theorem wY0_wrong_L11 {N : Nat} {x1 : Int32} (hC : CallFix p m c cX10_wrong 4 s args lw_g RX10) (hF : 6 ≤ R.frames) (hL : 143 ≤ R.locals)  {t : (Int32 × St) ⊕ (St)} (kr : ∀ r, t = .inl r → ∀ (H : Heap) (locs : List Loc) (ls : Array Slot) (pc : Nat), decode cX10_wrong pc = .ok (.ireturn, 1) → wg LY G r.2 s H locs → W p l e R s m args below meth c H locs 0 0 Q (F0 m pc ls [.int r.1])) (kx : ∀ u, t = .inr u → ∀ (H : Heap) (locs : List Loc) (ls : Array Slot), wg LY G u s H locs → lv_has ls 4 [] → W p l e R s m args below meth c H locs 0 0 Q (F0 m 76 ls [])) : ∀ (n : Nat) (S : St) (x2 : Int32), fY0_wrong_L11 N x1 n S x2 = some t → ∀ (H : Heap) (locs : List Loc) (ls : Array Slot), wg LY G S s H locs → lv_has ls 4 [(0, .ref (ad G 0)), (1, .int x1), (2, .int x2)] → W p l e R s m args below meth c H locs 0 0 Q (F0 m 11 ls []) := by
  have hx := hC.1
  have hb := hC.2.1
  intro n
  induction n with
  | zero =>
    intro _ _ h
    cases h
  | succ n ih =>
    intro S x2 h H locs ls hW hl
    rw [fY0_wrong_L11] at h
    refine lv_iload_n hx hb dX10_wrong_11 rfl (lv_at hl 2 rfl) ?_
    refine lv_aload_n hx hb dX10_wrong_12 rfl (lv_at hl 0 rfl) ?_
    refine gY0_18 hC hW dX10_wrong_13 ?_
    refine lv_icmp_gt (tgt := 76) hx hb dX10_wrong_16 (by decide) (fun q4 => ?_) (fun q4 => ?_)
    · have h := it_p q4 h
      cases h
      exact kx _ rfl _ _ _ hW (lv_sub hl [] rfl)
    · have h := it_n q4 h
      refine lv_iconst (v := 0) hx hb dX10_wrong_19 (by decide) ?_
      refine lv_istore_n (lv' := [(3, .int 0), (0, .ref (ad G 0)), (1, .int x1), (2, .int x2)]) hx hb dX10_wrong_20 rfl hl (by decide) rfl (fun ls hl => ?_)
      obtain ⟨t15, e16, h⟩ := bd h
      refine wY0_wrong_L21 hC hF hL  (fun r er H locs ls pc hd hW => ?_) (fun u17 eu H locs ls hW hl => ?_) _ _ _ e16 _ _ _ hW (lv_sub hl [1, 2, 3, 0] rfl)
      · rw [er] at h
        have h := sm2_l h
        cases h
        exact kr _ rfl _ _ _ _ hd hW
      · rw [eu] at h
        have h := sm2_r h
        refine lv_iinc (v := x2 + 1) (lv' := [(2, .int (x2 + 1)), (0, .ref (ad G 0)), (1, .int x1)]) (k := 2) hx hb dX10_wrong_70 hl rfl rfl (by decide) rfl (fun ls hl => ?_)
        refine lv_goto (tgt := 11) hx hb dX10_wrong_73 (by decide) ?_
        exact ih _ _ h _ _ _ hW (lv_sub hl [1, 2, 0] rfl)
def fY0_wrong (N : Nat) (S : St) (x1 : Int32) : Option (Int32 × St) :=
  Option.bind (fYs_areTurns S x1) fun t1 =>
  if t1 = 0 then
    some ((-1), S)
  else
    Option.bind (fY0_wrong_L11 N x1 N S 0) fun t18 => sm t18 fun u20 =>
    some ((-9), u20)
set_option maxHeartbeats 4000000 in
set_option maxRecDepth 100000 in
theorem wY0_wrong {N : Nat} {S : St} {x1 : Int32} (hC : CallFix p m c cX10_wrong 4 s args lw_g RX10) (hF : 6 ≤ R.frames) (hL : 143 ≤ R.locals)  {v : Int32} {S' : St} (h : fY0_wrong N S x1 = some (v, S')) (kr : ∀ (H : Heap) (locs : List Loc) (ls : Array Slot) (pc : Nat), decode cX10_wrong pc = .ok (.ireturn, 1) → wg LY G (S') s H locs → W p l e R s m args below meth c H locs 0 0 Q (F0 m pc ls [.int v])) : ∀ (H : Heap) (locs : List Loc) (ls : Array Slot), wg LY G S s H locs → lv_has ls 4 [(0, .ref (ad G 0)), (1, .int x1)] → W p l e R s m args below meth c H locs 0 0 Q (F0 m 0 ls []) := by
  have hx := hC.1
  have hb := hC.2.1
  intro H locs ls hW hl
  unfold fY0_wrong at h
  refine lv_iload_n hx hb dX10_wrong_0 rfl (lv_at hl 1 rfl) ?_
  obtain ⟨t1, e2, h⟩ := bd h
  refine x_goi (x_rs (rest := []) hC hW (ctYs_areTurns e2) (cwS_g hC.2.2.2.2 ml_X10_273 ms_X10_areTurns md_X10_areTurns ⟨(Nat.le_trans (Nat.le_of_ble_eq_true rfl) hF), (Nat.le_trans (Nat.le_of_ble_eq_true rfl) hL)⟩) rfl hl.1 rfl (Nat.le_of_ble_eq_true rfl) dX10_wrong_1) hW (fun H locs hW => ?_)
  refine lv_if_ne (tgt := 9) hx hb dX10_wrong_4 (by decide) (fun q3 => ?_) (fun q3 => ?_)
  · have h := it_n q3 h
    refine lv_iconst (v := 0) hx hb dX10_wrong_9 (by decide) ?_
    refine lv_istore_n (lv' := [(2, .int 0), (0, .ref (ad G 0)), (1, .int x1)]) hx hb dX10_wrong_10 rfl hl (by decide) rfl (fun ls hl => ?_)
    obtain ⟨t18, e19, h⟩ := bd h
    refine wY0_wrong_L11 hC hF hL  (fun r er H locs ls pc hd hW => ?_) (fun u20 eu H locs ls hW hl => ?_) _ _ _ e19 _ _ _ hW (lv_sub hl [1, 2, 0] rfl)
    · rw [er] at h
      have h := sm_l h
      cases h
      exact kr _ _ _ _ hd hW
    · rw [eu] at h
      have h := sm_r h
      refine lv_bipush (v := (-9)) hx hb dX10_wrong_76 (by decide) ?_
      cases h
      exact kr _ _ _ _ dX10_wrong_78 hW
  · have h := it_p q3 h
    refine lv_iconst (v := (-1)) hx hb dX10_wrong_7 (by decide) ?_
    cases h
    exact kr _ _ _ _ dX10_wrong_8 hW
theorem ctY0_wrong {N : Nat} {S : St} {x1 : Int32}  {v : Int32} {S' : St} (h : fY0_wrong N S x1 = some (v, S')) : Met l yX10_wrong (wm yX10_wrong cX10_wrong 4 (some .int)) (rmx 6 143) (pcm LY G S [.ref (ad G 0), .int x1]) (qcI LY G S' v) 0 0 G.2.2.2 :=
  x_enter (own := RX10) rfl rfl (Nat.le_of_ble_eq_true rfl) (fun p e s m below meth c ls hC hr hk hW hl => wY0_wrong hC (Nat.le_refl _) (Nat.le_refl _)  h (fun H locs ls pc hd hW => x_reti hC hr hk hW hd) _ _ _ hW hl)
def fY0_isRule_L114 (N : Nat) (S : St) (x1 : Int32) (x2 : Int32) (x3 : Int32) (x4 : Int32) (x5 : Int32) : Nat → Int32 → Int32 → Option (Int32)
  | 0, _, _ => none
  | n + 1, x6, x7 =>
    if x2 < x7 then
      some x6
    else
      gd (inb x7 12) <|
      Option.bind (α := Int32) (
        if (S.1 10 (Int32.toNatClampNeg x7)) = 3 then
          Option.bind (fY0_rowAt S x1 x7) fun t39 =>
          if t39 = x3 then
            some 1
          else
            some 0
        else
          some 0
      ) fun t36 =>
      fY0_isRule_L114 N S x1 x2 x3 x4 x5 n (x6 + t36) (x7 + 1)
set_option maxHeartbeats 4000000 in
set_option maxRecDepth 100000 in
theorem wY0_isRule_L114 {N : Nat} {S : St} {x1 : Int32} {x2 : Int32} {x3 : Int32} {x4 : Int32} {x5 : Int32} (hC : CallFix p m c cX10_isRule 8 s args lw_g RX10) (hF : 2 ≤ R.frames) (hL : 45 ≤ R.locals)  {t : Int32} (kx : ∀ (H : Heap) (locs : List Loc) (ls : Array Slot), wg LY G S s H locs → lv_has ls 8 [(0, .ref (ad G 0)), (2, .int x2), (3, .int x3), (4, .int x4), (5, .int x5), (6, .int t)] → W p l e R s m args below meth c H locs 0 0 Q (F0 m 158 ls [])) : ∀ (n : Nat) (x6 : Int32) (x7 : Int32), fY0_isRule_L114 N S x1 x2 x3 x4 x5 n x6 x7 = some t → ∀ (H : Heap) (locs : List Loc) (ls : Array Slot), wg LY G S s H locs → lv_has ls 8 [(0, .ref (ad G 0)), (1, .int x1), (2, .int x2), (3, .int x3), (4, .int x4), (5, .int x5), (6, .int x6), (7, .int x7)] → W p l e R s m args below meth c H locs 0 0 Q (F0 m 114 ls []) := by
  have hx := hC.1
  have hb := hC.2.1
  intro n
  induction n with
  | zero =>
    intro _ _ h
    cases h
  | succ n ih =>
    intro x6 x7 h H locs ls hW hl
    rw [fY0_isRule_L114] at h
    refine lv_iload hx hb dX10_isRule_114 (lv_at hl 7 rfl) ?_
    refine lv_iload_n hx hb dX10_isRule_116 rfl (lv_at hl 2 rfl) ?_
    refine lv_icmp_gt (tgt := 158) hx hb dX10_isRule_117 (by decide) (fun q33 => ?_) (fun q33 => ?_)
    · have h := it_p q33 h
      cases h
      exact kx _ _ _ hW (lv_sub hl [0, 2, 3, 4, 5, 6] rfl)
    · have h := it_n q33 h
      refine lv_iload hx hb dX10_isRule_120 (lv_at hl 6 rfl) ?_
      refine lv_aload_n hx hb dX10_isRule_122 rfl (lv_at hl 0 rfl) ?_
      refine gY0_15 hC hW dX10_isRule_123 ?_
      refine lv_iload hx hb dX10_isRule_126 (lv_at hl 7 rfl) ?_
      obtain ⟨g34, h⟩ := gd_some h
      refine x_iald hC hW aY10 g34 dX10_isRule_128 ?_
      refine lv_iconst (v := 3) hx hb dX10_isRule_129 (by decide) ?_
      obtain ⟨t36, e37, h⟩ := bd h
      have K35 : ∀ (H : Heap) (locs : List Loc) (ls : Array Slot), wg LY G S s H locs → lv_has ls 8 [(0, .ref (ad G 0)), (1, .int x1), (2, .int x2), (3, .int x3), (4, .int x4), (5, .int x5), (7, .int x7)] → W p l e R s m args below meth c H locs 0 0 Q (F0 m 149 ls [.int t36, .int x6]) := by
        intro H locs ls hW hl
        refine lv_iadd hx hb dX10_isRule_149 ?_
        refine lv_istore (lv' := [(6, .int (x6 + t36)), (0, .ref (ad G 0)), (1, .int x1), (2, .int x2), (3, .int x3), (4, .int x4), (5, .int x5), (7, .int x7)]) hx hb dX10_isRule_150 hl (by decide) rfl (fun ls hl => ?_)
        refine lv_iinc (v := x7 + 1) (lv' := [(7, .int (x7 + 1)), (6, .int (x6 + t36)), (0, .ref (ad G 0)), (1, .int x1), (2, .int x2), (3, .int x3), (4, .int x4), (5, .int x5)]) (k := 7) hx hb dX10_isRule_152 hl rfl rfl (by decide) rfl (fun ls hl => ?_)
        refine lv_goto (tgt := 114) hx hb dX10_isRule_155 (by decide) ?_
        exact ih _ _ h _ _ _ hW (lv_sub hl [2, 3, 4, 5, 6, 7, 1, 0] rfl)
      clear h
      have h := e37
      clear e37
      refine lv_icmp_ne (tgt := 148) hx hb dX10_isRule_130 (by decide) (fun q38 => ?_) (fun q38 => ?_)
      · have h := it_n q38 h
        refine lv_iconst (v := 0) hx hb dX10_isRule_148 (by decide) ?_
        cases h
        exact K35 _ _ _ hW (lv_sub hl [0, 1, 2, 3, 4, 5, 7] rfl)
      · have h := it_p q38 h
        refine lv_aload_n hx hb dX10_isRule_133 rfl (lv_at hl 0 rfl) ?_
        refine lv_iload_n hx hb dX10_isRule_134 rfl (lv_at hl 1 rfl) ?_
        refine lv_iload hx hb dX10_isRule_135 (lv_at hl 7 rfl) ?_
        obtain ⟨t39, e40, h⟩ := bd h
        refine x_goi (x_rv (rest := [.int x6]) hC hW (ctY0_rowAt e40) (cwV_g hC.2.2.2.2 ml_X10_121 mi_X10_rowAt md_X10_rowAt ⟨(Nat.le_trans (Nat.le_of_ble_eq_true rfl) hF), (Nat.le_trans (Nat.le_of_ble_eq_true rfl) hL)⟩) (rcY0 hW) rfl hl.1 rfl (Nat.le_of_ble_eq_true rfl) dX10_isRule_137) hW (fun H locs hW => ?_)
        refine lv_iload_n hx hb dX10_isRule_140 rfl (lv_at hl 3 rfl) ?_
        refine lv_icmp_ne (tgt := 148) hx hb dX10_isRule_141 (by decide) (fun q41 => ?_) (fun q41 => ?_)
        · have h := it_n q41 h
          refine lv_iconst (v := 0) hx hb dX10_isRule_148 (by decide) ?_
          cases h
          exact K35 _ _ _ hW (lv_sub hl [0, 1, 2, 3, 4, 5, 7] rfl)
        · have h := it_p q41 h
          refine lv_iconst (v := 1) hx hb dX10_isRule_144 (by decide) ?_
          refine lv_goto (tgt := 149) hx hb dX10_isRule_145 (by decide) ?_
          cases h
          exact K35 _ _ _ hW (lv_sub hl [0, 1, 2, 3, 4, 5, 7] rfl)
def fY0_isRule (N : Nat) (S : St) (x1 : Int32) (x2 : Int32) : Option (Int32) :=
  Option.bind (fY0_rowAt S x1 x2) fun t1 =>
  Option.bind (fY0_isThere S x2) fun t3 =>
  if t3 = 0 then
    Option.bind (α := Int32) (
      if t1 = (-1) then
        some 1
      else
        some 0
    ) fun t73 =>
    gd (isb t73) <|
    some t73
  else
    Option.bind (fYs_isNumber S t1) fun t6 =>
    if t6 = 0 then
      some 0
    else
      Option.bind (fY0_isFirst N S x2 t1) fun t9 =>
      if t9 = 0 then
        some 0
      else
        gd (inb x2 12) <|
        Option.bind (α := Int32) (
          if (S.1 10 (Int32.toNatClampNeg x2)) = 2 then
            gd (inb x2 12) <|
            Option.bind (fY0_rowAt S x1 (S.1 11 (Int32.toNatClampNeg x2))) fun t18 =>
            some t18
          else
            gd (inb x2 12) <|
            if (S.1 10 (Int32.toNatClampNeg x2)) = 4 then
              gd (inb x2 12) <|
              Option.bind (fY0_rowAt S x1 (S.1 11 (Int32.toNatClampNeg x2))) fun t23 =>
              some t23
            else
              some 0
        ) fun t14 =>
        gd (inb x2 12) <|
        Option.bind (α := Int32) (
          if (S.1 10 (Int32.toNatClampNeg x2)) = 2 then
            gd (inb x2 12) <|
            Option.bind (fY0_rowAt S x1 (S.1 12 (Int32.toNatClampNeg x2))) fun t31 =>
            some t31
          else
            some 0
        ) fun t27 =>
        Option.bind (fY0_isRule_L114 N S x1 x2 t1 t14 t27 N 0 0) fun t42 =>
        gd (inb x2 12) <|
        if (S.1 10 (Int32.toNatClampNeg x2)) = 2 then
          Option.bind (fYs_isNumber S t14) fun t46 =>
          Option.bind (α := Int32) (
            if t46 = 0 then
              some 0
            else
              Option.bind (fYs_isNumber S t27) fun t52 =>
              if t52 = 0 then
                some 0
              else
                if t1 = (t14 * t27) then
                  some 1
                else
                  some 0
          ) fun t49 =>
          gd (isb t49) <|
          some t49
        else
        if (S.1 10 (Int32.toNatClampNeg x2)) = 3 then
          Option.bind (fY0_inHeap N S t1) fun t57 =>
          Option.bind (α := Int32) (
            if t57 < t42 then
              some 0
            else
              some 1
          ) fun t60 =>
          gd (isb t60) <|
          some t60
        else
        if (S.1 10 (Int32.toNatClampNeg x2)) = 4 then
          Option.bind (fYs_isNumber S t14) fun t64 =>
          Option.bind (α := Int32) (
            if t64 = 0 then
              some 0
            else
              if t1 ≤ t14 then
                some 0
              else
                some 1
          ) fun t67 =>
          gd (isb t67) <|
          some t67
        else
        some 1
set_option maxHeartbeats 4000000 in
set_option maxRecDepth 100000 in
theorem wY0_isRule {N : Nat} {S : St} {x1 : Int32} {x2 : Int32} (hC : CallFix p m c cX10_isRule 8 s args lw_g RX10) (hF : 2 ≤ R.frames) (hL : 45 ≤ R.locals)  {v : Int32} (h : fY0_isRule N S x1 x2 = some v) (kr : ∀ (H : Heap) (locs : List Loc) (ls : Array Slot) (pc : Nat), isb v = true → decode cX10_isRule pc = .ok (.ireturn, 1) → wg LY G S s H locs → W p l e R s m args below meth c H locs 0 0 Q (F0 m pc ls [.int v])) : ∀ (H : Heap) (locs : List Loc) (ls : Array Slot), wg LY G S s H locs → lv_has ls 8 [(0, .ref (ad G 0)), (1, .int x1), (2, .int x2)] → W p l e R s m args below meth c H locs 0 0 Q (F0 m 0 ls []) := by
  have hx := hC.1
  have hb := hC.2.1
  intro H locs ls hW hl
  unfold fY0_isRule at h
  refine lv_aload_n hx hb dX10_isRule_0 rfl (lv_at hl 0 rfl) ?_
  refine lv_iload_n hx hb dX10_isRule_1 rfl (lv_at hl 1 rfl) ?_
  refine lv_iload_n hx hb dX10_isRule_2 rfl (lv_at hl 2 rfl) ?_
  obtain ⟨t1, e2, h⟩ := bd h
  refine x_goi (x_rv (rest := []) hC hW (ctY0_rowAt e2) (cwV_g hC.2.2.2.2 ml_X10_121 mi_X10_rowAt md_X10_rowAt ⟨(Nat.le_trans (Nat.le_of_ble_eq_true rfl) hF), (Nat.le_trans (Nat.le_of_ble_eq_true rfl) hL)⟩) (rcY0 hW) rfl hl.1 rfl (Nat.le_of_ble_eq_true rfl) dX10_isRule_3) hW (fun H locs hW => ?_)
  refine lv_istore_n (lv' := [(3, .int t1), (0, .ref (ad G 0)), (1, .int x1), (2, .int x2)]) hx hb dX10_isRule_6 rfl hl (by decide) rfl (fun ls hl => ?_)
  refine lv_aload_n hx hb dX10_isRule_7 rfl (lv_at hl 1 rfl) ?_
  refine lv_iload_n hx hb dX10_isRule_8 rfl (lv_at hl 3 rfl) ?_
  obtain ⟨t3, e4, h⟩ := bd h
  refine x_goi (x_rv (rest := []) hC hW (ctY0_isThere e4) (cwV_g hC.2.2.2.2 ml_X10_193 mi_X10_isThere md_X10_isThere ⟨(Nat.le_trans (Nat.le_of_ble_eq_true rfl) hF), (Nat.le_trans (Nat.le_of_ble_eq_true rfl) hL)⟩) (rcY0 hW) rfl hl.1 rfl (Nat.le_of_ble_eq_true rfl) dX10_isRule_9) hW (fun H locs hW => ?_)
  refine lv_if_ne (tgt := 26) hx hb dX10_isRule_12 (by decide) (fun q5 => ?_) (fun q5 => ?_)
  · have h := it_n q5 h
    refine lv_iload_n hx hb dX10_isRule_26 rfl (lv_at hl 0 rfl) ?_
    obtain ⟨t6, e7, h⟩ := bd h
    refine x_goi (x_rs (rest := []) hC hW (ctYs_isNumber e7) (cwS_g hC.2.2.2.2 ml_X10_175 ms_X10_isNumber md_X10_isNumber ⟨(Nat.le_trans (Nat.le_of_ble_eq_true rfl) hF), (Nat.le_trans (Nat.le_of_ble_eq_true rfl) hL)⟩) rfl hl.1 rfl (Nat.le_of_ble_eq_true rfl) dX10_isRule_27) hW (fun H locs hW => ?_)
    refine lv_if_eq (tgt := 42) hx hb dX10_isRule_30 (by decide) (fun q8 => ?_) (fun q8 => ?_)
    · have h := it_p q8 h
      refine lv_iconst (v := 0) hx hb dX10_isRule_42 (by decide) ?_
      cases h
      exact kr _ _ _ _ rfl dX10_isRule_43 hW
    · have h := it_n q8 h
      refine lv_aload_n hx hb dX10_isRule_33 rfl (lv_at hl 1 rfl) ?_
      refine lv_iload_n hx hb dX10_isRule_34 rfl (lv_at hl 3 rfl) ?_
      refine lv_iload_n hx hb dX10_isRule_35 rfl (lv_at hl 0 rfl) ?_
      obtain ⟨t9, e10, h⟩ := bd h
      refine x_goi (x_rv (rest := []) hC hW (ctY0_isFirst e10) (cwV_g hC.2.2.2.2 ml_X10_196 mi_X10_isFirst md_X10_isFirst ⟨(Nat.le_trans (Nat.le_of_ble_eq_true rfl) hF), (Nat.le_trans (Nat.le_of_ble_eq_true rfl) hL)⟩) (rcY0 hW) rfl hl.1 rfl (Nat.le_of_ble_eq_true rfl) dX10_isRule_36) hW (fun H locs hW => ?_)
      refine lv_if_ne (tgt := 44) hx hb dX10_isRule_39 (by decide) (fun q11 => ?_) (fun q11 => ?_)
      · have h := it_n q11 h
        refine lv_aload_n hx hb dX10_isRule_44 rfl (lv_at hl 1 rfl) ?_
        refine gY0_15 hC hW dX10_isRule_45 ?_
        refine lv_iload_n hx hb dX10_isRule_48 rfl (lv_at hl 3 rfl) ?_
        obtain ⟨g12, h⟩ := gd_some h
        refine x_iald hC hW aY10 g12 dX10_isRule_49 ?_
        refine lv_iconst (v := 2) hx hb dX10_isRule_50 (by decide) ?_
        obtain ⟨t14, e15, h⟩ := bd h
        have K13 : ∀ (H : Heap) (locs : List Loc) (ls : Array Slot), wg LY G S s H locs → lv_has ls 8 [(0, .ref (ad G 0)), (1, .int x1), (2, .int x2), (3, .int t1)] → W p l e R s m args below meth c H locs 0 0 Q (F0 m 79 ls [.int t14]) := by
          intro H locs ls hW hl
          refine lv_istore (lv' := [(4, .int t14), (0, .ref (ad G 0)), (1, .int x1), (2, .int x2), (3, .int t1)]) hx hb dX10_isRule_79 hl (by decide) rfl (fun ls hl => ?_)
          refine lv_aload_n hx hb dX10_isRule_81 rfl (lv_at hl 1 rfl) ?_
          refine gY0_15 hC hW dX10_isRule_82 ?_
          refine lv_iload_n hx hb dX10_isRule_85 rfl (lv_at hl 3 rfl) ?_
          obtain ⟨g25, h⟩ := gd_some h
          refine x_iald hC hW aY10 g25 dX10_isRule_86 ?_
          refine lv_iconst (v := 2) hx hb dX10_isRule_87 (by decide) ?_
          obtain ⟨t27, e28, h⟩ := bd h
          have K26 : ∀ (H : Heap) (locs : List Loc) (ls : Array Slot), wg LY G S s H locs → lv_has ls 8 [(0, .ref (ad G 0)), (1, .int x1), (2, .int x2), (3, .int t1), (4, .int t14)] → W p l e R s m args below meth c H locs 0 0 Q (F0 m 106 ls [.int t27]) := by
            intro H locs ls hW hl
            refine lv_istore (lv' := [(5, .int t27), (0, .ref (ad G 0)), (1, .int x1), (2, .int x2), (3, .int t1), (4, .int t14)]) hx hb dX10_isRule_106 hl (by decide) rfl (fun ls hl => ?_)
            refine lv_iconst (v := 0) hx hb dX10_isRule_108 (by decide) ?_
            refine lv_istore (lv' := [(6, .int 0), (5, .int t27), (0, .ref (ad G 0)), (1, .int x1), (2, .int x2), (3, .int t1), (4, .int t14)]) hx hb dX10_isRule_109 hl (by decide) rfl (fun ls hl => ?_)
            refine lv_iconst (v := 0) hx hb dX10_isRule_111 (by decide) ?_
            refine lv_istore (lv' := [(7, .int 0), (6, .int 0), (5, .int t27), (0, .ref (ad G 0)), (1, .int x1), (2, .int x2), (3, .int t1), (4, .int t14)]) hx hb dX10_isRule_112 hl (by decide) rfl (fun ls hl => ?_)
            obtain ⟨t42, e43, h⟩ := bd h
            refine wY0_isRule_L114 hC hF hL  (fun H locs ls hW hl => ?_) _ _ _ e43 _ _ _ hW (lv_sub hl [3, 4, 5, 6, 7, 2, 1, 0] rfl)
            refine lv_aload_n hx hb dX10_isRule_158 rfl (lv_at hl 0 rfl) ?_
            refine gY0_15 hC hW dX10_isRule_159 ?_
            refine lv_iload_n hx hb dX10_isRule_162 rfl (lv_at hl 1 rfl) ?_
            obtain ⟨g44, h⟩ := gd_some h
            refine x_iald hC hW aY10 g44 dX10_isRule_163 ?_
            by_cases q45_0 : (S.1 10 (Int32.toNatClampNeg x2)) = 2
            · have h := it_p q45_0 h
              refine lv_tableIn (off := 28) (tgt := 192) hx hb dX10_isRule_164 (by rw [q45_0]; decide) (by rw [q45_0]; decide) (by rw [q45_0]; rfl) (by decide) ?_
              refine lv_iload hx hb dX10_isRule_192 (lv_at hl 3 rfl) ?_
              obtain ⟨t46, e47, h⟩ := bd h
              refine x_goi (x_rs (rest := []) hC hW (ctYs_isNumber e47) (cwS_g hC.2.2.2.2 ml_X10_175 ms_X10_isNumber md_X10_isNumber ⟨(Nat.le_trans (Nat.le_of_ble_eq_true rfl) hF), (Nat.le_trans (Nat.le_of_ble_eq_true rfl) hL)⟩) rfl hl.1 rfl (Nat.le_of_ble_eq_true rfl) dX10_isRule_194) hW (fun H locs hW => ?_)
              obtain ⟨t49, e50, h⟩ := bd h
              have K48 : ∀ (H : Heap) (locs : List Loc) (ls : Array Slot), wg LY G S s H locs → lv_has ls 8 [] → W p l e R s m args below meth c H locs 0 0 Q (F0 m 222 ls [.int t49]) := by
                intro H locs ls hW hl
                obtain ⟨g56, h⟩ := gd_some h
                cases h
                exact kr _ _ _ _ g56 dX10_isRule_222 hW
              clear h
              have h := e50
              clear e50
              refine lv_if_eq (tgt := 221) hx hb dX10_isRule_197 (by decide) (fun q51 => ?_) (fun q51 => ?_)
              · have h := it_p q51 h
                refine lv_iconst (v := 0) hx hb dX10_isRule_221 (by decide) ?_
                cases h
                exact K48 _ _ _ hW (lv_sub hl [] rfl)
              · have h := it_n q51 h
                refine lv_iload hx hb dX10_isRule_200 (lv_at hl 4 rfl) ?_
                obtain ⟨t52, e53, h⟩ := bd h
                refine x_goi (x_rs (rest := []) hC hW (ctYs_isNumber e53) (cwS_g hC.2.2.2.2 ml_X10_175 ms_X10_isNumber md_X10_isNumber ⟨(Nat.le_trans (Nat.le_of_ble_eq_true rfl) hF), (Nat.le_trans (Nat.le_of_ble_eq_true rfl) hL)⟩) rfl hl.1 rfl (Nat.le_of_ble_eq_true rfl) dX10_isRule_202) hW (fun H locs hW => ?_)
                refine lv_if_eq (tgt := 221) hx hb dX10_isRule_205 (by decide) (fun q54 => ?_) (fun q54 => ?_)
                · have h := it_p q54 h
                  refine lv_iconst (v := 0) hx hb dX10_isRule_221 (by decide) ?_
                  cases h
                  exact K48 _ _ _ hW (lv_sub hl [] rfl)
                · have h := it_n q54 h
                  refine lv_iload_n hx hb dX10_isRule_208 rfl (lv_at hl 2 rfl) ?_
                  refine lv_iload hx hb dX10_isRule_209 (lv_at hl 3 rfl) ?_
                  refine lv_iload hx hb dX10_isRule_211 (lv_at hl 4 rfl) ?_
                  refine lv_imul hx hb dX10_isRule_213 ?_
                  refine lv_icmp_ne (tgt := 221) hx hb dX10_isRule_214 (by decide) (fun q55 => ?_) (fun q55 => ?_)
                  · have h := it_n q55 h
                    refine lv_iconst (v := 0) hx hb dX10_isRule_221 (by decide) ?_
                    cases h
                    exact K48 _ _ _ hW (lv_sub hl [] rfl)
                  · have h := it_p q55 h
                    refine lv_iconst (v := 1) hx hb dX10_isRule_217 (by decide) ?_
                    refine lv_goto (tgt := 222) hx hb dX10_isRule_218 (by decide) ?_
                    cases h
                    exact K48 _ _ _ hW (lv_sub hl [] rfl)
            have h := it_n q45_0 h
            by_cases q45_1 : (S.1 10 (Int32.toNatClampNeg x2)) = 3
            · have h := it_p q45_1 h
              refine lv_tableIn (off := 79) (tgt := 243) hx hb dX10_isRule_164 (by rw [q45_1]; decide) (by rw [q45_1]; decide) (by rw [q45_1]; rfl) (by decide) ?_
              refine lv_iload hx hb dX10_isRule_243 (lv_at hl 5 rfl) ?_
              refine lv_aload_n hx hb dX10_isRule_245 rfl (lv_at hl 0 rfl) ?_
              refine lv_iload_n hx hb dX10_isRule_246 rfl (lv_at hl 2 rfl) ?_
              obtain ⟨t57, e58, h⟩ := bd h
              refine x_goi (x_rv (rest := [.int t42]) hC hW (ctY0_inHeap e58) (cwV_g hC.2.2.2.2 ml_X10_190 mi_X10_inHeap md_X10_inHeap ⟨(Nat.le_trans (Nat.le_of_ble_eq_true rfl) hF), (Nat.le_trans (Nat.le_of_ble_eq_true rfl) hL)⟩) (rcY0 hW) rfl hl.1 rfl (Nat.le_of_ble_eq_true rfl) dX10_isRule_247) hW (fun H locs hW => ?_)
              obtain ⟨t60, e61, h⟩ := bd h
              have K59 : ∀ (H : Heap) (locs : List Loc) (ls : Array Slot), wg LY G S s H locs → lv_has ls 8 [] → W p l e R s m args below meth c H locs 0 0 Q (F0 m 258 ls [.int t60]) := by
                intro H locs ls hW hl
                obtain ⟨g63, h⟩ := gd_some h
                cases h
                exact kr _ _ _ _ g63 dX10_isRule_258 hW
              clear h
              have h := e61
              clear e61
              refine lv_icmp_gt (tgt := 257) hx hb dX10_isRule_250 (by decide) (fun q62 => ?_) (fun q62 => ?_)
              · have h := it_p q62 h
                refine lv_iconst (v := 0) hx hb dX10_isRule_257 (by decide) ?_
                cases h
                exact K59 _ _ _ hW (lv_sub hl [] rfl)
              · have h := it_n q62 h
                refine lv_iconst (v := 1) hx hb dX10_isRule_253 (by decide) ?_
                refine lv_goto (tgt := 258) hx hb dX10_isRule_254 (by decide) ?_
                cases h
                exact K59 _ _ _ hW (lv_sub hl [] rfl)
            have h := it_n q45_1 h
            by_cases q45_2 : (S.1 10 (Int32.toNatClampNeg x2)) = 4
            · have h := it_p q45_2 h
              refine lv_tableIn (off := 59) (tgt := 223) hx hb dX10_isRule_164 (by rw [q45_2]; decide) (by rw [q45_2]; decide) (by rw [q45_2]; rfl) (by decide) ?_
              refine lv_iload hx hb dX10_isRule_223 (lv_at hl 3 rfl) ?_
              obtain ⟨t64, e65, h⟩ := bd h
              refine x_goi (x_rs (rest := []) hC hW (ctYs_isNumber e65) (cwS_g hC.2.2.2.2 ml_X10_175 ms_X10_isNumber md_X10_isNumber ⟨(Nat.le_trans (Nat.le_of_ble_eq_true rfl) hF), (Nat.le_trans (Nat.le_of_ble_eq_true rfl) hL)⟩) rfl hl.1 rfl (Nat.le_of_ble_eq_true rfl) dX10_isRule_225) hW (fun H locs hW => ?_)
              obtain ⟨t67, e68, h⟩ := bd h
              have K66 : ∀ (H : Heap) (locs : List Loc) (ls : Array Slot), wg LY G S s H locs → lv_has ls 8 [] → W p l e R s m args below meth c H locs 0 0 Q (F0 m 242 ls [.int t67]) := by
                intro H locs ls hW hl
                obtain ⟨g71, h⟩ := gd_some h
                cases h
                exact kr _ _ _ _ g71 dX10_isRule_242 hW
              clear h
              have h := e68
              clear e68
              refine lv_if_eq (tgt := 241) hx hb dX10_isRule_228 (by decide) (fun q69 => ?_) (fun q69 => ?_)
              · have h := it_p q69 h
                refine lv_iconst (v := 0) hx hb dX10_isRule_241 (by decide) ?_
                cases h
                exact K66 _ _ _ hW (lv_sub hl [] rfl)
              · have h := it_n q69 h
                refine lv_iload_n hx hb dX10_isRule_231 rfl (lv_at hl 2 rfl) ?_
                refine lv_iload hx hb dX10_isRule_232 (lv_at hl 3 rfl) ?_
                refine lv_icmp_le (tgt := 241) hx hb dX10_isRule_234 (by decide) (fun q70 => ?_) (fun q70 => ?_)
                · have h := it_p q70 h
                  refine lv_iconst (v := 0) hx hb dX10_isRule_241 (by decide) ?_
                  cases h
                  exact K66 _ _ _ hW (lv_sub hl [] rfl)
                · have h := it_n q70 h
                  refine lv_iconst (v := 1) hx hb dX10_isRule_237 (by decide) ?_
                  refine lv_goto (tgt := 242) hx hb dX10_isRule_238 (by decide) ?_
                  cases h
                  exact K66 _ _ _ hW (lv_sub hl [] rfl)
            have h := it_n q45_2 h
            have q45_0i := lv_neT (a := 2) q45_0 (by decide)
            have q45_1i := lv_neT (a := 3) q45_1 (by decide)
            have q45_2i := lv_neT (a := 4) q45_2 (by decide)
            refine lv_tableOut (tgt := 259) hx hb dX10_isRule_164 (by omega) (by decide) ?_
            refine lv_iconst (v := 1) hx hb dX10_isRule_259 (by decide) ?_
            cases h
            exact kr _ _ _ _ rfl dX10_isRule_260 hW
          clear h
          have h := e28
          clear e28
          refine lv_icmp_ne (tgt := 105) hx hb dX10_isRule_88 (by decide) (fun q29 => ?_) (fun q29 => ?_)
          · have h := it_n q29 h
            refine lv_iconst (v := 0) hx hb dX10_isRule_105 (by decide) ?_
            cases h
            exact K26 _ _ _ hW (lv_sub hl [1, 2, 3, 4, 0] rfl)
          · have h := it_p q29 h
            refine lv_aload_n hx hb dX10_isRule_91 rfl (lv_at hl 1 rfl) ?_
            refine lv_iload_n hx hb dX10_isRule_92 rfl (lv_at hl 2 rfl) ?_
            refine lv_aload_n hx hb dX10_isRule_93 rfl (lv_at hl 1 rfl) ?_
            refine gY0_17 hC hW dX10_isRule_94 ?_
            refine lv_iload_n hx hb dX10_isRule_97 rfl (lv_at hl 3 rfl) ?_
            obtain ⟨g30, h⟩ := gd_some h
            refine x_iald hC hW aY12 g30 dX10_isRule_98 ?_
            obtain ⟨t31, e32, h⟩ := bd h
            refine x_goi (x_rv (rest := []) hC hW (ctY0_rowAt e32) (cwV_g hC.2.2.2.2 ml_X10_121 mi_X10_rowAt md_X10_rowAt ⟨(Nat.le_trans (Nat.le_of_ble_eq_true rfl) hF), (Nat.le_trans (Nat.le_of_ble_eq_true rfl) hL)⟩) (rcY0 hW) rfl hl.1 rfl (Nat.le_of_ble_eq_true rfl) dX10_isRule_99) hW (fun H locs hW => ?_)
            refine lv_goto (tgt := 106) hx hb dX10_isRule_102 (by decide) ?_
            cases h
            exact K26 _ _ _ hW (lv_sub hl [1, 2, 3, 4, 0] rfl)
        clear h
        have h := e15
        clear e15
        refine lv_icmp_eq (tgt := 64) hx hb dX10_isRule_51 (by decide) (fun q16 => ?_) (fun q16 => ?_)
        · have h := it_p q16 h
          refine lv_aload_n hx hb dX10_isRule_64 rfl (lv_at hl 1 rfl) ?_
          refine lv_iload_n hx hb dX10_isRule_65 rfl (lv_at hl 2 rfl) ?_
          refine lv_aload_n hx hb dX10_isRule_66 rfl (lv_at hl 1 rfl) ?_
          refine gY0_16 hC hW dX10_isRule_67 ?_
          refine lv_iload_n hx hb dX10_isRule_70 rfl (lv_at hl 3 rfl) ?_
          obtain ⟨g17, h⟩ := gd_some h
          refine x_iald hC hW aY11 g17 dX10_isRule_71 ?_
          obtain ⟨t18, e19, h⟩ := bd h
          refine x_goi (x_rv (rest := []) hC hW (ctY0_rowAt e19) (cwV_g hC.2.2.2.2 ml_X10_121 mi_X10_rowAt md_X10_rowAt ⟨(Nat.le_trans (Nat.le_of_ble_eq_true rfl) hF), (Nat.le_trans (Nat.le_of_ble_eq_true rfl) hL)⟩) (rcY0 hW) rfl hl.1 rfl (Nat.le_of_ble_eq_true rfl) dX10_isRule_72) hW (fun H locs hW => ?_)
          refine lv_goto (tgt := 79) hx hb dX10_isRule_75 (by decide) ?_
          cases h
          exact K13 _ _ _ hW (lv_sub hl [1, 2, 3, 0] rfl)
        · have h := it_n q16 h
          refine lv_aload_n hx hb dX10_isRule_54 rfl (lv_at hl 1 rfl) ?_
          refine gY0_15 hC hW dX10_isRule_55 ?_
          refine lv_iload_n hx hb dX10_isRule_58 rfl (lv_at hl 3 rfl) ?_
          obtain ⟨g20, h⟩ := gd_some h
          refine x_iald hC hW aY10 g20 dX10_isRule_59 ?_
          refine lv_iconst (v := 4) hx hb dX10_isRule_60 (by decide) ?_
          refine lv_icmp_ne (tgt := 78) hx hb dX10_isRule_61 (by decide) (fun q21 => ?_) (fun q21 => ?_)
          · have h := it_n q21 h
            refine lv_iconst (v := 0) hx hb dX10_isRule_78 (by decide) ?_
            cases h
            exact K13 _ _ _ hW (lv_sub hl [1, 2, 3, 0] rfl)
          · have h := it_p q21 h
            refine lv_aload_n hx hb dX10_isRule_64 rfl (lv_at hl 1 rfl) ?_
            refine lv_iload_n hx hb dX10_isRule_65 rfl (lv_at hl 2 rfl) ?_
            refine lv_aload_n hx hb dX10_isRule_66 rfl (lv_at hl 1 rfl) ?_
            refine gY0_16 hC hW dX10_isRule_67 ?_
            refine lv_iload_n hx hb dX10_isRule_70 rfl (lv_at hl 3 rfl) ?_
            obtain ⟨g22, h⟩ := gd_some h
            refine x_iald hC hW aY11 g22 dX10_isRule_71 ?_
            obtain ⟨t23, e24, h⟩ := bd h
            refine x_goi (x_rv (rest := []) hC hW (ctY0_rowAt e24) (cwV_g hC.2.2.2.2 ml_X10_121 mi_X10_rowAt md_X10_rowAt ⟨(Nat.le_trans (Nat.le_of_ble_eq_true rfl) hF), (Nat.le_trans (Nat.le_of_ble_eq_true rfl) hL)⟩) (rcY0 hW) rfl hl.1 rfl (Nat.le_of_ble_eq_true rfl) dX10_isRule_72) hW (fun H locs hW => ?_)
            refine lv_goto (tgt := 79) hx hb dX10_isRule_75 (by decide) ?_
            cases h
            exact K13 _ _ _ hW (lv_sub hl [1, 2, 3, 0] rfl)
      · have h := it_p q11 h
        refine lv_iconst (v := 0) hx hb dX10_isRule_42 (by decide) ?_
        cases h
        exact kr _ _ _ _ rfl dX10_isRule_43 hW
  · have h := it_p q5 h
    refine lv_iload_n hx hb dX10_isRule_15 rfl (lv_at hl 0 rfl) ?_
    refine lv_iconst (v := (-1)) hx hb dX10_isRule_16 (by decide) ?_
    obtain ⟨t73, e74, h⟩ := bd h
    have K72 : ∀ (H : Heap) (locs : List Loc) (ls : Array Slot), wg LY G S s H locs → lv_has ls 8 [] → W p l e R s m args below meth c H locs 0 0 Q (F0 m 25 ls [.int t73]) := by
      intro H locs ls hW hl
      obtain ⟨g76, h⟩ := gd_some h
      cases h
      exact kr _ _ _ _ g76 dX10_isRule_25 hW
    clear h
    have h := e74
    clear e74
    refine lv_icmp_ne (tgt := 24) hx hb dX10_isRule_17 (by decide) (fun q75 => ?_) (fun q75 => ?_)
    · have h := it_n q75 h
      refine lv_iconst (v := 0) hx hb dX10_isRule_24 (by decide) ?_
      cases h
      exact K72 _ _ _ hW (lv_sub hl [] rfl)
    · have h := it_p q75 h
      refine lv_iconst (v := 1) hx hb dX10_isRule_20 (by decide) ?_
      refine lv_goto (tgt := 25) hx hb dX10_isRule_21 (by decide) ?_
      cases h
      exact K72 _ _ _ hW (lv_sub hl [] rfl)
theorem ctY0_isRule {N : Nat} {S : St} {x1 : Int32} {x2 : Int32}  {v : Int32} (h : fY0_isRule N S x1 x2 = some v) : Met l yX10_isRule (wm yX10_isRule cX10_isRule 8 (some .boolean)) (rmx 2 45) (pcm LY G S [.ref (ad G 0), .int x1, .int x2]) (qcI LY G S v) 0 0 G.2.2.2 :=
  x_enter (own := RX10) rfl rfl (Nat.le_of_ble_eq_true rfl) (fun p e s m below meth c ls hC hr hk hW hl => wY0_isRule hC (Nat.le_refl _) (Nat.le_refl _)  h (fun H locs ls pc hz hd hW => x_retz hC hr hk hW hz hd) _ _ _ hW hl)
def fY0_judge_L31 (N : Nat) (S : St) (x1 : Int32) : Nat → Int32 → Option ((Int32 × St) ⊕ (Unit))
  | 0, _ => none
  | n + 1, x3 =>
    if 12 ≤ x3 then
      some (.inr ())
    else
      Option.bind (fY0_isRule N S x1 x3) fun t7 =>
      if t7 = 0 then
        some (.inl (100 + x3, S))
      else
        fY0_judge_L31 N S x1 n (x3 + 1)
set_option maxHeartbeats 4000000 in
set_option maxRecDepth 100000 in
theorem wY0_judge_L31 {N : Nat} {S : St} {x1 : Int32} (hC : CallFix p m c cX10_judge 4 s args lw_g RX10) (hF : 3 ≤ R.frames) (hL : 72 ≤ R.locals)  {t : (Int32 × St) ⊕ (Unit)} (kr : ∀ r, t = .inl r → ∀ (H : Heap) (locs : List Loc) (ls : Array Slot) (pc : Nat), decode cX10_judge pc = .ok (.ireturn, 1) → wg LY G r.2 s H locs → W p l e R s m args below meth c H locs 0 0 Q (F0 m pc ls [.int r.1])) (kx : ∀ u, t = .inr u → ∀ (H : Heap) (locs : List Loc) (ls : Array Slot), wg LY G S s H locs → lv_has ls 4 [(0, .ref (ad G 0)), (1, .int x1)] → W p l e R s m args below meth c H locs 0 0 Q (F0 m 57 ls [])) : ∀ (n : Nat) (x3 : Int32), fY0_judge_L31 N S x1 n x3 = some t → ∀ (H : Heap) (locs : List Loc) (ls : Array Slot), wg LY G S s H locs → lv_has ls 4 [(0, .ref (ad G 0)), (1, .int x1), (3, .int x3)] → W p l e R s m args below meth c H locs 0 0 Q (F0 m 31 ls []) := by
  have hx := hC.1
  have hb := hC.2.1
  intro n
  induction n with
  | zero =>
    intro _ h
    cases h
  | succ n ih =>
    intro x3 h H locs ls hW hl
    rw [fY0_judge_L31] at h
    refine lv_iload_n hx hb dX10_judge_31 rfl (lv_at hl 2 rfl) ?_
    refine lv_bipush (v := 12) hx hb dX10_judge_32 (by decide) ?_
    refine lv_icmp_ge (tgt := 57) hx hb dX10_judge_34 (by decide) (fun q6 => ?_) (fun q6 => ?_)
    · have h := it_p q6 h
      cases h
      exact kx _ rfl _ _ _ hW (lv_sub hl [0, 1] rfl)
    · have h := it_n q6 h
      refine lv_aload_n hx hb dX10_judge_37 rfl (lv_at hl 0 rfl) ?_
      refine lv_iload_n hx hb dX10_judge_38 rfl (lv_at hl 1 rfl) ?_
      refine lv_iload_n hx hb dX10_judge_39 rfl (lv_at hl 2 rfl) ?_
      obtain ⟨t7, e8, h⟩ := bd h
      refine x_goi (x_rv (rest := []) hC hW (ctY0_isRule e8) (cwV_g hC.2.2.2.2 ml_X10_294 mi_X10_isRule md_X10_isRule ⟨(Nat.le_trans (Nat.le_of_ble_eq_true rfl) hF), (Nat.le_trans (Nat.le_of_ble_eq_true rfl) hL)⟩) (rcY0 hW) rfl hl.1 rfl (Nat.le_of_ble_eq_true rfl) dX10_judge_40) hW (fun H locs hW => ?_)
      refine lv_if_ne (tgt := 51) hx hb dX10_judge_43 (by decide) (fun q9 => ?_) (fun q9 => ?_)
      · have h := it_n q9 h
        refine lv_iinc (v := x3 + 1) (lv' := [(3, .int (x3 + 1)), (0, .ref (ad G 0)), (1, .int x1)]) (k := 2) hx hb dX10_judge_51 hl rfl rfl (by decide) rfl (fun ls hl => ?_)
        refine lv_goto (tgt := 31) hx hb dX10_judge_54 (by decide) ?_
        exact ih _ h _ _ _ hW (lv_sub hl [1, 2, 0] rfl)
      · have h := it_p q9 h
        refine lv_bipush (v := 100) hx hb dX10_judge_46 (by decide) ?_
        refine lv_iload_n hx hb dX10_judge_48 rfl (lv_at hl 2 rfl) ?_
        refine lv_iadd hx hb dX10_judge_49 ?_
        cases h
        exact kr _ rfl _ _ _ _ dX10_judge_50 hW
def fY0_judge_L59 (N : Nat) (x1 : Int32) : Nat → St → Int32 → Option (St)
  | 0, _, _ => none
  | n + 1, S, x3 =>
    if 12 ≤ x3 then
      some S
    else
      Option.bind (fY0_rowAt S x1 x3) fun t14 =>
      gd (inb x3 12) <|
      nx (p1 S 22 (Int32.toNatClampNeg x3) t14) fun s17 =>
      fY0_judge_L59 N x1 n s17 (x3 + 1)
set_option maxHeartbeats 4000000 in
set_option maxRecDepth 100000 in
theorem wY0_judge_L59 {N : Nat} {x1 : Int32} (hC : CallFix p m c cX10_judge 4 s args lw_g RX10) (hF : 3 ≤ R.frames) (hL : 72 ≤ R.locals)  {t : St} (kx : ∀ (H : Heap) (locs : List Loc) (ls : Array Slot), wg LY G t s H locs → lv_has ls 4 [(0, .ref (ad G 0))] → W p l e R s m args below meth c H locs 0 0 Q (F0 m 83 ls [])) : ∀ (n : Nat) (S : St) (x3 : Int32), fY0_judge_L59 N x1 n S x3 = some t → ∀ (H : Heap) (locs : List Loc) (ls : Array Slot), wg LY G S s H locs → lv_has ls 4 [(0, .ref (ad G 0)), (1, .int x1), (3, .int x3)] → W p l e R s m args below meth c H locs 0 0 Q (F0 m 59 ls []) := by
  have hx := hC.1
  have hb := hC.2.1
  intro n
  induction n with
  | zero =>
    intro _ _ h
    cases h
  | succ n ih =>
    intro S x3 h H locs ls hW hl
    rw [fY0_judge_L59] at h
    refine lv_iload_n hx hb dX10_judge_59 rfl (lv_at hl 2 rfl) ?_
    refine lv_bipush (v := 12) hx hb dX10_judge_60 (by decide) ?_
    refine lv_icmp_ge (tgt := 83) hx hb dX10_judge_62 (by decide) (fun q13 => ?_) (fun q13 => ?_)
    · have h := it_p q13 h
      cases h
      exact kx _ _ _ hW (lv_sub hl [0] rfl)
    · have h := it_n q13 h
      refine lv_aload_n hx hb dX10_judge_65 rfl (lv_at hl 0 rfl) ?_
      refine gY0_30 hC hW dX10_judge_66 ?_
      refine lv_iload_n hx hb dX10_judge_69 rfl (lv_at hl 2 rfl) ?_
      refine lv_aload_n hx hb dX10_judge_70 rfl (lv_at hl 0 rfl) ?_
      refine lv_iload_n hx hb dX10_judge_71 rfl (lv_at hl 1 rfl) ?_
      refine lv_iload_n hx hb dX10_judge_72 rfl (lv_at hl 2 rfl) ?_
      obtain ⟨t14, e15, h⟩ := bd h
      refine x_goi (x_rv (rest := [.int x3, .ref (ad G 22)]) hC hW (ctY0_rowAt e15) (cwV_g hC.2.2.2.2 ml_X10_121 mi_X10_rowAt md_X10_rowAt ⟨(Nat.le_trans (Nat.le_of_ble_eq_true rfl) hF), (Nat.le_trans (Nat.le_of_ble_eq_true rfl) hL)⟩) (rcY0 hW) rfl hl.1 rfl (Nat.le_of_ble_eq_true rfl) dX10_judge_73) hW (fun H locs hW => ?_)
      obtain ⟨g16, h⟩ := gd_some h
      refine x_iast hC hW aY22 g16 dX10_judge_76 (fun H locs hW => ?_)
      obtain ⟨s17, e18, h⟩ := nx_some h
      rw [← e18] at hW
      refine lv_iinc (v := x3 + 1) (lv' := [(3, .int (x3 + 1)), (0, .ref (ad G 0)), (1, .int x1)]) (k := 2) hx hb dX10_judge_77 hl rfl rfl (by decide) rfl (fun ls hl => ?_)
      refine lv_goto (tgt := 59) hx hb dX10_judge_80 (by decide) ?_
      exact ih _ _ h _ _ _ hW (lv_sub hl [1, 2, 0] rfl)
def fY0_judge_L85 (N : Nat) (S : St)  : Nat → Int32 → Option ((Int32 × St) ⊕ (Unit))
  | 0, _ => none
  | n + 1, x3 =>
    if (S.1 0 18) ≤ x3 then
      some (.inr ())
    else
      Option.bind (fY0_sumOf N S x3) fun t22 =>
      gd (inb x3 8) <|
      if t22 = (S.1 15 (Int32.toNatClampNeg x3)) then
        fY0_judge_L85 N S n (x3 + 1)
      else
        some (.inl (200 + x3, S))
set_option maxHeartbeats 4000000 in
set_option maxRecDepth 100000 in
theorem wY0_judge_L85 {N : Nat} {S : St}  (hC : CallFix p m c cX10_judge 4 s args lw_g RX10) (hF : 3 ≤ R.frames) (hL : 72 ≤ R.locals)  {t : (Int32 × St) ⊕ (Unit)} (kr : ∀ r, t = .inl r → ∀ (H : Heap) (locs : List Loc) (ls : Array Slot) (pc : Nat), decode cX10_judge pc = .ok (.ireturn, 1) → wg LY G r.2 s H locs → W p l e R s m args below meth c H locs 0 0 Q (F0 m pc ls [.int r.1])) (kx : ∀ u, t = .inr u → ∀ (H : Heap) (locs : List Loc) (ls : Array Slot), wg LY G S s H locs → lv_has ls 4 [] → W p l e R s m args below meth c H locs 0 0 Q (F0 m 119 ls [])) : ∀ (n : Nat) (x3 : Int32), fY0_judge_L85 N S  n x3 = some t → ∀ (H : Heap) (locs : List Loc) (ls : Array Slot), wg LY G S s H locs → lv_has ls 4 [(0, .ref (ad G 0)), (3, .int x3)] → W p l e R s m args below meth c H locs 0 0 Q (F0 m 85 ls []) := by
  have hx := hC.1
  have hb := hC.2.1
  intro n
  induction n with
  | zero =>
    intro _ h
    cases h
  | succ n ih =>
    intro x3 h H locs ls hW hl
    rw [fY0_judge_L85] at h
    refine lv_iload_n hx hb dX10_judge_85 rfl (lv_at hl 1 rfl) ?_
    refine lv_aload_n hx hb dX10_judge_86 rfl (lv_at hl 0 rfl) ?_
    refine gY0_18 hC hW dX10_judge_87 ?_
    refine lv_icmp_ge (tgt := 119) hx hb dX10_judge_90 (by decide) (fun q21 => ?_) (fun q21 => ?_)
    · have h := it_p q21 h
      cases h
      exact kx _ rfl _ _ _ hW (lv_sub hl [] rfl)
    · have h := it_n q21 h
      refine lv_aload_n hx hb dX10_judge_93 rfl (lv_at hl 0 rfl) ?_
      refine lv_iload_n hx hb dX10_judge_94 rfl (lv_at hl 1 rfl) ?_
      obtain ⟨t22, e23, h⟩ := bd h
      refine x_goi (x_rv (rest := []) hC hW (ctY0_sumOf e23) (cwV_g hC.2.2.2.2 ml_X10_256 mi_X10_sumOf md_X10_sumOf ⟨(Nat.le_trans (Nat.le_of_ble_eq_true rfl) hF), (Nat.le_trans (Nat.le_of_ble_eq_true rfl) hL)⟩) (rcY0 hW) rfl hl.1 rfl (Nat.le_of_ble_eq_true rfl) dX10_judge_95) hW (fun H locs hW => ?_)
      refine lv_aload_n hx hb dX10_judge_98 rfl (lv_at hl 0 rfl) ?_
      refine gY0_21 hC hW dX10_judge_99 ?_
      refine lv_iload_n hx hb dX10_judge_102 rfl (lv_at hl 1 rfl) ?_
      obtain ⟨g24, h⟩ := gd_some h
      refine x_iald hC hW aY15 g24 dX10_judge_103 ?_
      refine lv_icmp_eq (tgt := 113) hx hb dX10_judge_104 (by decide) (fun q25 => ?_) (fun q25 => ?_)
      · have h := it_p q25 h
        refine lv_iinc (v := x3 + 1) (lv' := [(3, .int (x3 + 1)), (0, .ref (ad G 0))]) (k := 1) hx hb dX10_judge_113 hl rfl rfl (by decide) rfl (fun ls hl => ?_)
        refine lv_goto (tgt := 85) hx hb dX10_judge_116 (by decide) ?_
        exact ih _ h _ _ _ hW (lv_sub hl [1, 0] rfl)
      · have h := it_n q25 h
        refine lv_sipush (v := 200) hx hb dX10_judge_107 (by decide) ?_
        refine lv_iload_n hx hb dX10_judge_110 rfl (lv_at hl 1 rfl) ?_
        refine lv_iadd hx hb dX10_judge_111 ?_
        cases h
        exact kr _ rfl _ _ _ _ dX10_judge_112 hW
def fY0_judge (N : Nat) (S : St) (x1 : Int32) : Option (Int32 × St) :=
  Option.bind (fY0_askedRow S x1) fun t1 =>
  if 0 ≤ t1.1 then
    gd (inb x1 6) <|
    if (t1.2.1 2 (Int32.toNatClampNeg x1)) = 12 then
      Option.bind (fY0_judge_L31 N t1.2 x1 N 0) fun t10 => sm t10 fun u12 =>
      Option.bind (fY0_judge_L59 N x1 N t1.2 0) fun t19 =>
      Option.bind (fY0_judge_L85 N t19 N 0) fun t26 => sm t26 fun u28 =>
      some ((-9), t19)
    else
      Option.bind (fY0_meets t1.2 5) fun t29 =>
      some (t29.1, t29.2)
  else
    some (t1.1, t1.2)
set_option maxHeartbeats 4000000 in
set_option maxRecDepth 100000 in
theorem wY0_judge {N : Nat} {S : St} {x1 : Int32} (hC : CallFix p m c cX10_judge 4 s args lw_g RX10) (hF : 3 ≤ R.frames) (hL : 72 ≤ R.locals)  {v : Int32} {S' : St} (h : fY0_judge N S x1 = some (v, S')) (kr : ∀ (H : Heap) (locs : List Loc) (ls : Array Slot) (pc : Nat), decode cX10_judge pc = .ok (.ireturn, 1) → wg LY G (S') s H locs → W p l e R s m args below meth c H locs 0 0 Q (F0 m pc ls [.int v])) : ∀ (H : Heap) (locs : List Loc) (ls : Array Slot), wg LY G S s H locs → lv_has ls 4 [(0, .ref (ad G 0)), (1, .int x1)] → W p l e R s m args below meth c H locs 0 0 Q (F0 m 0 ls []) := by
  have hx := hC.1
  have hb := hC.2.1
  intro H locs ls hW hl
  unfold fY0_judge at h
  refine lv_aload_n hx hb dX10_judge_0 rfl (lv_at hl 0 rfl) ?_
  refine lv_iload_n hx hb dX10_judge_1 rfl (lv_at hl 1 rfl) ?_
  obtain ⟨t1, e2, h⟩ := bd h
  refine x_goi (x_rv (rest := []) hC hW (ctY0_askedRow e2) (cwV_g hC.2.2.2.2 ml_X10_118 mi_X10_askedRow md_X10_askedRow ⟨(Nat.le_trans (Nat.le_of_ble_eq_true rfl) hF), (Nat.le_trans (Nat.le_of_ble_eq_true rfl) hL)⟩) (rcY0 hW) rfl hl.1 rfl (Nat.le_of_ble_eq_true rfl) dX10_judge_2) hW (fun H locs hW => ?_)
  refine lv_istore_n (lv' := [(2, .int t1.1), (0, .ref (ad G 0)), (1, .int x1)]) hx hb dX10_judge_5 rfl hl (by decide) rfl (fun ls hl => ?_)
  refine lv_iload_n hx hb dX10_judge_6 rfl (lv_at hl 0 rfl) ?_
  refine lv_if_ge (tgt := 12) hx hb dX10_judge_7 (by decide) (fun q3 => ?_) (fun q3 => ?_)
  · have h := it_p q3 h
    refine lv_aload_n hx hb dX10_judge_12 rfl (lv_at hl 1 rfl) ?_
    refine gY0_5 hC hW dX10_judge_13 ?_
    refine lv_iload_n hx hb dX10_judge_16 rfl (lv_at hl 2 rfl) ?_
    obtain ⟨g4, h⟩ := gd_some h
    refine x_iald hC hW aY2 g4 dX10_judge_17 ?_
    refine lv_bipush (v := 12) hx hb dX10_judge_18 (by decide) ?_
    refine lv_icmp_eq (tgt := 29) hx hb dX10_judge_20 (by decide) (fun q5 => ?_) (fun q5 => ?_)
    · have h := it_p q5 h
      refine lv_iconst (v := 0) hx hb dX10_judge_29 (by decide) ?_
      refine lv_istore_n (lv' := [(3, .int 0), (2, .int t1.1), (0, .ref (ad G 0)), (1, .int x1)]) hx hb dX10_judge_30 rfl hl (by decide) rfl (fun ls hl => ?_)
      obtain ⟨t10, e11, h⟩ := bd h
      refine wY0_judge_L31 hC hF hL  (fun r er H locs ls pc hd hW => ?_) (fun u12 eu H locs ls hW hl => ?_) _ _ e11 _ _ _ hW (lv_sub hl [2, 3, 0] rfl)
      · rw [er] at h
        have h := sm_l h
        cases h
        exact kr _ _ _ _ hd hW
      · rw [eu] at h
        have h := sm_r h
        refine lv_iconst (v := 0) hx hb dX10_judge_57 (by decide) ?_
        refine lv_istore_n (lv' := [(3, .int 0), (0, .ref (ad G 0)), (1, .int x1)]) hx hb dX10_judge_58 rfl hl (by decide) rfl (fun ls hl => ?_)
        obtain ⟨t19, e20, h⟩ := bd h
        refine wY0_judge_L59 hC hF hL  (fun H locs ls hW hl => ?_) _ _ _ e20 _ _ _ hW (lv_sub hl [1, 2, 0] rfl)
        refine lv_iconst (v := 0) hx hb dX10_judge_83 (by decide) ?_
        refine lv_istore_n (lv' := [(3, .int 0), (0, .ref (ad G 0))]) hx hb dX10_judge_84 rfl hl (by decide) rfl (fun ls hl => ?_)
        obtain ⟨t26, e27, h⟩ := bd h
        refine wY0_judge_L85 hC hF hL  (fun r er H locs ls pc hd hW => ?_) (fun u28 eu H locs ls hW hl => ?_) _ _ e27 _ _ _ hW (lv_sub hl [1, 0] rfl)
        · rw [er] at h
          have h := sm_l h
          cases h
          exact kr _ _ _ _ hd hW
        · rw [eu] at h
          have h := sm_r h
          refine lv_bipush (v := (-9)) hx hb dX10_judge_119 (by decide) ?_
          cases h
          exact kr _ _ _ _ dX10_judge_121 hW
    · have h := it_n q5 h
      refine lv_aload_n hx hb dX10_judge_23 rfl (lv_at hl 1 rfl) ?_
      refine lv_iconst (v := 5) hx hb dX10_judge_24 (by decide) ?_
      obtain ⟨t29, e30, h⟩ := bd h
      refine x_goi (x_rv (rest := []) hC hW (ctY0_meets e30) (cwV_g hC.2.2.2.2 ml_X10_111 mi_X10_meets md_X10_meets ⟨(Nat.le_trans (Nat.le_of_ble_eq_true rfl) hF), (Nat.le_trans (Nat.le_of_ble_eq_true rfl) hL)⟩) (rcY0 hW) rfl hl.1 rfl (Nat.le_of_ble_eq_true rfl) dX10_judge_25) hW (fun H locs hW => ?_)
      cases h
      exact kr _ _ _ _ dX10_judge_28 hW
  · have h := it_n q3 h
    refine lv_iload_n hx hb dX10_judge_10 rfl (lv_at hl 0 rfl) ?_
    cases h
    exact kr _ _ _ _ dX10_judge_11 hW
theorem ctY0_judge {N : Nat} {S : St} {x1 : Int32}  {v : Int32} {S' : St} (h : fY0_judge N S x1 = some (v, S')) : Met l yX10_judge (wm yX10_judge cX10_judge 4 (some .int)) (rmx 3 72) (pcm LY G S [.ref (ad G 0), .int x1]) (qcI LY G S' v) 0 0 G.2.2.2 :=
  x_enter (own := RX10) rfl rfl (Nat.le_of_ble_eq_true rfl) (fun p e s m below meth c ls hC hr hk hW hl => wY0_judge hC (Nat.le_refl _) (Nat.le_refl _)  h (fun H locs ls pc hd hW => x_reti hC hr hk hW hd) _ _ _ hW hl)
def fY0_runsOn_L16 (N : Nat) (S : St) (x1 : Int32) (x3 : Int32) : Nat → Int32 → Int32 → Int32 → Int32 → Int32 → Option (Int32 × Int32)
  | 0, _, _, _, _, _ => none
  | n + 1, x4, x5, x6, x7, x8 =>
    if x3 ≤ x8 then
      some (x6, x7)
    else
      if x7 = 0 then
        some (x6, x7)
      else
        nx ((x6 - x6 / 10 * 10) - 1) fun y3 =>
        Option.bind (fYs_in S y3 0 (x3 - 1)) fun t5 =>
        Option.bind (α := Int32) (
          if t5 = 0 then
            some 0
          else
            Option.bind (fYs_has S x4 y3) fun t11 =>
            if t11 = 0 then
              some 1
            else
              some 0
        ) fun t8 =>
        Option.bind (α := Int32) (
          if t8 = 0 then
            some t8
          else
            if x5 < 0 then
              some t8
            else
              Option.bind (fY0_rowAt S x1 ((2 * y3) + 1)) fun t19 =>
              Option.bind (fY0_rowAt S x1 (2 * x5)) fun t21 =>
              Option.bind (α := Int32) (
                if t19 = (-9) then
                  some 1
                else
                  if t21 = (-9) then
                    some 1
                  else
                    if t19 = t21 then
                      some 1
                    else
                      some 0
              ) fun t24 =>
              some t24
        ) fun t15 =>
        Option.bind (α := Int32) (
          if t15 = 0 then
            some 0
          else
            some (1 <<< (y3 &&& 31))
        ) fun t30 =>
        fY0_runsOn_L16 N S x1 x3 n (x4 ||| t30) y3 (x6 / 10) t15 (x8 + 1)
set_option maxHeartbeats 4000000 in
set_option maxRecDepth 100000 in
theorem wY0_runsOn_L16 {N : Nat} {S : St} {x1 : Int32} {x3 : Int32} (hC : CallFix p m c cX10_runsOn 12 s args lw_g RX10) (hF : 1 ≤ R.frames) (hL : 22 ≤ R.locals)  {t : Int32 × Int32} (kx : ∀ (H : Heap) (locs : List Loc) (ls : Array Slot), wg LY G S s H locs → lv_has ls 12 [(6, .int t.1), (7, .int t.2)] → W p l e R s m args below meth c H locs 0 0 Q (F0 m 162 ls [])) : ∀ (n : Nat) (x4 : Int32) (x5 : Int32) (x6 : Int32) (x7 : Int32) (x8 : Int32), fY0_runsOn_L16 N S x1 x3 n x4 x5 x6 x7 x8 = some t → ∀ (H : Heap) (locs : List Loc) (ls : Array Slot), wg LY G S s H locs → lv_has ls 12 [(0, .ref (ad G 0)), (1, .int x1), (3, .int x3), (4, .int x4), (5, .int x5), (6, .int x6), (7, .int x7), (8, .int x8)] → W p l e R s m args below meth c H locs 0 0 Q (F0 m 16 ls []) := by
  have hx := hC.1
  have hb := hC.2.1
  intro n
  induction n with
  | zero =>
    intro _ _ _ _ _ h
    cases h
  | succ n ih =>
    intro x4 x5 x6 x7 x8 h H locs ls hW hl
    rw [fY0_runsOn_L16] at h
    refine lv_iload hx hb dX10_runsOn_16 (lv_at hl 7 rfl) ?_
    refine lv_iload_n hx hb dX10_runsOn_18 rfl (lv_at hl 2 rfl) ?_
    refine lv_icmp_ge (tgt := 162) hx hb dX10_runsOn_19 (by decide) (fun q1 => ?_) (fun q1 => ?_)
    · have h := it_p q1 h
      cases h
      exact kx _ _ _ hW (lv_sub hl [5, 6] rfl)
    · have h := it_n q1 h
      refine lv_iload hx hb dX10_runsOn_22 (lv_at hl 6 rfl) ?_
      refine lv_if_eq (tgt := 162) hx hb dX10_runsOn_24 (by decide) (fun q2 => ?_) (fun q2 => ?_)
      · have h := it_p q2 h
        cases h
        exact kx _ _ _ hW (lv_sub hl [5, 6] rfl)
      · have h := it_n q2 h
        refine lv_iload hx hb dX10_runsOn_27 (lv_at hl 5 rfl) ?_
        refine lv_bipush (v := 10) hx hb dX10_runsOn_29 (by decide) ?_
        refine lv_irem hx hb dX10_runsOn_31 (by decide) ?_
        refine lv_iconst (v := 1) hx hb dX10_runsOn_32 (by decide) ?_
        refine lv_isub hx hb dX10_runsOn_33 ?_
        obtain ⟨y3, e4, h⟩ := nx_some h
        refine x_topi e4 ?_
        refine lv_istore (lv' := [(9, .int y3), (0, .ref (ad G 0)), (1, .int x1), (3, .int x3), (4, .int x4), (5, .int x5), (6, .int x6), (7, .int x7), (8, .int x8)]) hx hb dX10_runsOn_34 hl (by decide) rfl (fun ls hl => ?_)
        refine lv_iload hx hb dX10_runsOn_36 (lv_at hl 6 rfl) ?_
        refine lv_bipush (v := 10) hx hb dX10_runsOn_38 (by decide) ?_
        refine lv_idiv hx hb dX10_runsOn_40 (by decide) ?_
        refine lv_istore (lv' := [(6, .int (x6 / 10)), (9, .int y3), (0, .ref (ad G 0)), (1, .int x1), (3, .int x3), (4, .int x4), (5, .int x5), (7, .int x7), (8, .int x8)]) hx hb dX10_runsOn_41 hl (by decide) rfl (fun ls hl => ?_)
        refine lv_iload hx hb dX10_runsOn_43 (lv_at hl 1 rfl) ?_
        refine lv_iconst (v := 0) hx hb dX10_runsOn_45 (by decide) ?_
        refine lv_iload_n hx hb dX10_runsOn_46 rfl (lv_at hl 4 rfl) ?_
        refine lv_iconst (v := 1) hx hb dX10_runsOn_47 (by decide) ?_
        refine lv_isub hx hb dX10_runsOn_48 ?_
        obtain ⟨t5, e6, h⟩ := bd h
        refine x_goi (x_rs (rest := []) hC hW (ctYs_in e6) (cwS_g hC.2.2.2.2 ml_X10_103 ms_X10_in md_X10_in ⟨(Nat.le_trans (Nat.le_of_ble_eq_true rfl) hF), (Nat.le_trans (Nat.le_of_ble_eq_true rfl) hL)⟩) rfl hl.1 rfl (Nat.le_of_ble_eq_true rfl) dX10_runsOn_49) hW (fun H locs hW => ?_)
        obtain ⟨t8, e9, h⟩ := bd h
        have K7 : ∀ (H : Heap) (locs : List Loc) (ls : Array Slot), wg LY G S s H locs → lv_has ls 12 [(0, .ref (ad G 0)), (1, .int x1), (3, .int x3), (4, .int x4), (5, .int x5), (6, .int (x6 / 10)), (8, .int x8), (9, .int y3)] → W p l e R s m args below meth c H locs 0 0 Q (F0 m 70 ls [.int t8]) := by
          intro H locs ls hW hl
          refine lv_istore (lv' := [(7, .int t8), (0, .ref (ad G 0)), (1, .int x1), (3, .int x3), (4, .int x4), (5, .int x5), (6, .int (x6 / 10)), (8, .int x8), (9, .int y3)]) hx hb dX10_runsOn_70 hl (by decide) rfl (fun ls hl => ?_)
          refine lv_iload hx hb dX10_runsOn_72 (lv_at hl 0 rfl) ?_
          obtain ⟨t15, e16, h⟩ := bd h
          have K14 : ∀ (H : Heap) (locs : List Loc) (ls : Array Slot), wg LY G S s H locs → lv_has ls 12 [(0, .ref (ad G 0)), (1, .int x1), (3, .int x3), (4, .int x4), (6, .int (x6 / 10)), (7, .int t15), (8, .int x8), (9, .int y3)] → W p l e R s m args below meth c H locs 0 0 Q (F0 m 134 ls []) := by
            intro H locs ls hW hl
            refine lv_iload hx hb dX10_runsOn_134 (lv_at hl 3 rfl) ?_
            refine lv_iload hx hb dX10_runsOn_136 (lv_at hl 5 rfl) ?_
            obtain ⟨t30, e31, h⟩ := bd h
            have K29 : ∀ (H : Heap) (locs : List Loc) (ls : Array Slot), wg LY G S s H locs → lv_has ls 12 [(0, .ref (ad G 0)), (1, .int x1), (3, .int x3), (6, .int (x6 / 10)), (7, .int t15), (8, .int x8), (9, .int y3)] → W p l e R s m args below meth c H locs 0 0 Q (F0 m 149 ls [.int t30, .int x4]) := by
              intro H locs ls hW hl
              refine lv_ior hx hb dX10_runsOn_149 ?_
              refine lv_istore (lv' := [(4, .int (x4 ||| t30)), (0, .ref (ad G 0)), (1, .int x1), (3, .int x3), (6, .int (x6 / 10)), (7, .int t15), (8, .int x8), (9, .int y3)]) hx hb dX10_runsOn_150 hl (by decide) rfl (fun ls hl => ?_)
              refine lv_iload hx hb dX10_runsOn_152 (lv_at hl 7 rfl) ?_
              refine lv_istore (lv' := [(5, .int y3), (4, .int (x4 ||| t30)), (0, .ref (ad G 0)), (1, .int x1), (3, .int x3), (6, .int (x6 / 10)), (7, .int t15), (8, .int x8), (9, .int y3)]) hx hb dX10_runsOn_154 hl (by decide) rfl (fun ls hl => ?_)
              refine lv_iinc (v := x8 + 1) (lv' := [(8, .int (x8 + 1)), (5, .int y3), (4, .int (x4 ||| t30)), (0, .ref (ad G 0)), (1, .int x1), (3, .int x3), (6, .int (x6 / 10)), (7, .int t15), (9, .int y3)]) (k := 7) hx hb dX10_runsOn_156 hl rfl rfl (by decide) rfl (fun ls hl => ?_)
              refine lv_goto (tgt := 16) hx hb dX10_runsOn_159 (by decide) ?_
              exact ih _ _ _ _ _ h _ _ _ hW (lv_sub hl [3, 4, 5, 2, 1, 6, 7, 0] rfl)
            clear h
            have h := e31
            clear e31
            refine lv_if_eq (tgt := 148) hx hb dX10_runsOn_138 (by decide) (fun q32 => ?_) (fun q32 => ?_)
            · have h := it_p q32 h
              refine lv_iconst (v := 0) hx hb dX10_runsOn_148 (by decide) ?_
              cases h
              exact K29 _ _ _ hW (lv_sub hl [0, 1, 2, 4, 5, 6, 7] rfl)
            · have h := it_n q32 h
              refine lv_iconst (v := 1) hx hb dX10_runsOn_141 (by decide) ?_
              refine lv_iload hx hb dX10_runsOn_142 (lv_at hl 7 rfl) ?_
              refine lv_ishl hx hb dX10_runsOn_144 ?_
              refine lv_goto (tgt := 149) hx hb dX10_runsOn_145 (by decide) ?_
              cases h
              exact K29 _ _ _ hW (lv_sub hl [0, 1, 2, 4, 5, 6, 7] rfl)
          clear h
          have h := e16
          clear e16
          refine lv_if_eq (tgt := 134) hx hb dX10_runsOn_74 (by decide) (fun q17 => ?_) (fun q17 => ?_)
          · have h := it_p q17 h
            cases h
            exact K14 _ _ _ hW (lv_sub hl [1, 2, 3, 4, 6, 0, 7, 8] rfl)
          · have h := it_n q17 h
            refine lv_iload hx hb dX10_runsOn_77 (lv_at hl 5 rfl) ?_
            refine lv_if_lt (tgt := 134) hx hb dX10_runsOn_79 (by decide) (fun q18 => ?_) (fun q18 => ?_)
            · have h := it_p q18 h
              cases h
              exact K14 _ _ _ hW (lv_sub hl [1, 2, 3, 4, 6, 0, 7, 8] rfl)
            · have h := it_n q18 h
              refine lv_aload_n hx hb dX10_runsOn_82 rfl (lv_at hl 1 rfl) ?_
              refine lv_iload_n hx hb dX10_runsOn_83 rfl (lv_at hl 2 rfl) ?_
              refine lv_iconst (v := 2) hx hb dX10_runsOn_84 (by decide) ?_
              refine lv_iload hx hb dX10_runsOn_85 (lv_at hl 8 rfl) ?_
              refine lv_imul hx hb dX10_runsOn_87 ?_
              refine lv_iconst (v := 1) hx hb dX10_runsOn_88 (by decide) ?_
              refine lv_iadd hx hb dX10_runsOn_89 ?_
              obtain ⟨t19, e20, h⟩ := bd h
              refine x_goi (x_rv (rest := []) hC hW (ctY0_rowAt e20) (cwV_g hC.2.2.2.2 ml_X10_121 mi_X10_rowAt md_X10_rowAt ⟨(Nat.le_trans (Nat.le_of_ble_eq_true rfl) hF), (Nat.le_trans (Nat.le_of_ble_eq_true rfl) hL)⟩) (rcY0 hW) rfl hl.1 rfl (Nat.le_of_ble_eq_true rfl) dX10_runsOn_90) hW (fun H locs hW => ?_)
              refine lv_istore (lv' := [(10, .int t19), (7, .int t8), (0, .ref (ad G 0)), (1, .int x1), (3, .int x3), (4, .int x4), (5, .int x5), (6, .int (x6 / 10)), (8, .int x8), (9, .int y3)]) hx hb dX10_runsOn_93 hl (by decide) rfl (fun ls hl => ?_)
              refine lv_aload_n hx hb dX10_runsOn_95 rfl (lv_at hl 2 rfl) ?_
              refine lv_iload_n hx hb dX10_runsOn_96 rfl (lv_at hl 3 rfl) ?_
              refine lv_iconst (v := 2) hx hb dX10_runsOn_97 (by decide) ?_
              refine lv_iload hx hb dX10_runsOn_98 (lv_at hl 6 rfl) ?_
              refine lv_imul hx hb dX10_runsOn_100 ?_
              obtain ⟨t21, e22, h⟩ := bd h
              refine x_goi (x_rv (rest := []) hC hW (ctY0_rowAt e22) (cwV_g hC.2.2.2.2 ml_X10_121 mi_X10_rowAt md_X10_rowAt ⟨(Nat.le_trans (Nat.le_of_ble_eq_true rfl) hF), (Nat.le_trans (Nat.le_of_ble_eq_true rfl) hL)⟩) (rcY0 hW) rfl hl.1 rfl (Nat.le_of_ble_eq_true rfl) dX10_runsOn_101) hW (fun H locs hW => ?_)
              refine lv_istore (lv' := [(11, .int t21), (10, .int t19), (7, .int t8), (0, .ref (ad G 0)), (1, .int x1), (3, .int x3), (4, .int x4), (5, .int x5), (6, .int (x6 / 10)), (8, .int x8), (9, .int y3)]) hx hb dX10_runsOn_104 hl (by decide) rfl (fun ls hl => ?_)
              refine lv_iload hx hb dX10_runsOn_106 (lv_at hl 1 rfl) ?_
              refine lv_bipush (v := (-9)) hx hb dX10_runsOn_108 (by decide) ?_
              obtain ⟨t24, e25, h⟩ := bd h
              have K23 : ∀ (H : Heap) (locs : List Loc) (ls : Array Slot), wg LY G S s H locs → lv_has ls 12 [(0, .ref (ad G 0)), (1, .int x1), (3, .int x3), (4, .int x4), (6, .int (x6 / 10)), (8, .int x8), (9, .int y3)] → W p l e R s m args below meth c H locs 0 0 Q (F0 m 132 ls [.int t24]) := by
                intro H locs ls hW hl
                refine lv_istore (lv' := [(7, .int t24), (0, .ref (ad G 0)), (1, .int x1), (3, .int x3), (4, .int x4), (6, .int (x6 / 10)), (8, .int x8), (9, .int y3)]) hx hb dX10_runsOn_132 hl (by decide) rfl (fun ls hl => ?_)
                cases h
                exact K14 _ _ _ hW (lv_sub hl [1, 2, 3, 4, 5, 0, 6, 7] rfl)
              clear h
              have h := e25
              clear e25
              refine lv_icmp_eq (tgt := 127) hx hb dX10_runsOn_110 (by decide) (fun q26 => ?_) (fun q26 => ?_)
              · have h := it_p q26 h
                refine lv_iconst (v := 1) hx hb dX10_runsOn_127 (by decide) ?_
                refine lv_goto (tgt := 132) hx hb dX10_runsOn_128 (by decide) ?_
                cases h
                exact K23 _ _ _ hW (lv_sub hl [3, 4, 5, 6, 8, 9, 10] rfl)
              · have h := it_n q26 h
                refine lv_iload hx hb dX10_runsOn_113 (lv_at hl 0 rfl) ?_
                refine lv_bipush (v := (-9)) hx hb dX10_runsOn_115 (by decide) ?_
                refine lv_icmp_eq (tgt := 127) hx hb dX10_runsOn_117 (by decide) (fun q27 => ?_) (fun q27 => ?_)
                · have h := it_p q27 h
                  refine lv_iconst (v := 1) hx hb dX10_runsOn_127 (by decide) ?_
                  refine lv_goto (tgt := 132) hx hb dX10_runsOn_128 (by decide) ?_
                  cases h
                  exact K23 _ _ _ hW (lv_sub hl [3, 4, 5, 6, 8, 9, 10] rfl)
                · have h := it_n q27 h
                  refine lv_iload hx hb dX10_runsOn_120 (lv_at hl 1 rfl) ?_
                  refine lv_iload hx hb dX10_runsOn_122 (lv_at hl 0 rfl) ?_
                  refine lv_icmp_ne (tgt := 131) hx hb dX10_runsOn_124 (by decide) (fun q28 => ?_) (fun q28 => ?_)
                  · have h := it_n q28 h
                    refine lv_iconst (v := 0) hx hb dX10_runsOn_131 (by decide) ?_
                    cases h
                    exact K23 _ _ _ hW (lv_sub hl [3, 4, 5, 6, 8, 9, 10] rfl)
                  · have h := it_p q28 h
                    refine lv_iconst (v := 1) hx hb dX10_runsOn_127 (by decide) ?_
                    refine lv_goto (tgt := 132) hx hb dX10_runsOn_128 (by decide) ?_
                    cases h
                    exact K23 _ _ _ hW (lv_sub hl [3, 4, 5, 6, 8, 9, 10] rfl)
        clear h
        have h := e9
        clear e9
        refine lv_if_eq (tgt := 69) hx hb dX10_runsOn_52 (by decide) (fun q10 => ?_) (fun q10 => ?_)
        · have h := it_p q10 h
          refine lv_iconst (v := 0) hx hb dX10_runsOn_69 (by decide) ?_
          cases h
          exact K7 _ _ _ hW (lv_sub hl [2, 3, 4, 5, 6, 0, 8, 1] rfl)
        · have h := it_n q10 h
          refine lv_iload hx hb dX10_runsOn_55 (lv_at hl 5 rfl) ?_
          refine lv_iload hx hb dX10_runsOn_57 (lv_at hl 1 rfl) ?_
          obtain ⟨t11, e12, h⟩ := bd h
          refine x_goi (x_rs (rest := []) hC hW (ctYs_has e12) (cwS_g hC.2.2.2.2 ml_X10_208 ms_X10_has md_X10_has ⟨(Nat.le_trans (Nat.le_of_ble_eq_true rfl) hF), (Nat.le_trans (Nat.le_of_ble_eq_true rfl) hL)⟩) rfl hl.1 rfl (Nat.le_of_ble_eq_true rfl) dX10_runsOn_59) hW (fun H locs hW => ?_)
          refine lv_if_ne (tgt := 69) hx hb dX10_runsOn_62 (by decide) (fun q13 => ?_) (fun q13 => ?_)
          · have h := it_n q13 h
            refine lv_iconst (v := 0) hx hb dX10_runsOn_69 (by decide) ?_
            cases h
            exact K7 _ _ _ hW (lv_sub hl [2, 3, 4, 5, 6, 0, 8, 1] rfl)
          · have h := it_p q13 h
            refine lv_iconst (v := 1) hx hb dX10_runsOn_65 (by decide) ?_
            refine lv_goto (tgt := 70) hx hb dX10_runsOn_66 (by decide) ?_
            cases h
            exact K7 _ _ _ hW (lv_sub hl [2, 3, 4, 5, 6, 0, 8, 1] rfl)
def fY0_runsOn (N : Nat) (S : St) (x1 : Int32) (x2 : Int32) (x3 : Int32) : Option (Int32) :=
  Option.bind (fY0_runsOn_L16 N S x1 x3 N 0 (-9) x2 1 0) fun t33 =>
  Option.bind (α := Int32) (
    if t33.2 = 0 then
      some 0
    else
      if t33.1 = 0 then
        some 1
      else
        some 0
  ) fun t36 =>
  gd (isb t36) <|
  some t36
set_option maxHeartbeats 4000000 in
set_option maxRecDepth 100000 in
theorem wY0_runsOn {N : Nat} {S : St} {x1 : Int32} {x2 : Int32} {x3 : Int32} (hC : CallFix p m c cX10_runsOn 12 s args lw_g RX10) (hF : 1 ≤ R.frames) (hL : 22 ≤ R.locals)  {v : Int32} (h : fY0_runsOn N S x1 x2 x3 = some v) (kr : ∀ (H : Heap) (locs : List Loc) (ls : Array Slot) (pc : Nat), isb v = true → decode cX10_runsOn pc = .ok (.ireturn, 1) → wg LY G S s H locs → W p l e R s m args below meth c H locs 0 0 Q (F0 m pc ls [.int v])) : ∀ (H : Heap) (locs : List Loc) (ls : Array Slot), wg LY G S s H locs → lv_has ls 12 [(0, .ref (ad G 0)), (1, .int x1), (2, .int x2), (3, .int x3)] → W p l e R s m args below meth c H locs 0 0 Q (F0 m 0 ls []) := by
  have hx := hC.1
  have hb := hC.2.1
  intro H locs ls hW hl
  unfold fY0_runsOn at h
  refine lv_iconst (v := 0) hx hb dX10_runsOn_0 (by decide) ?_
  refine lv_istore (lv' := [(4, .int 0), (0, .ref (ad G 0)), (1, .int x1), (2, .int x2), (3, .int x3)]) hx hb dX10_runsOn_1 hl (by decide) rfl (fun ls hl => ?_)
  refine lv_bipush (v := (-9)) hx hb dX10_runsOn_3 (by decide) ?_
  refine lv_istore (lv' := [(5, .int (-9)), (4, .int 0), (0, .ref (ad G 0)), (1, .int x1), (2, .int x2), (3, .int x3)]) hx hb dX10_runsOn_5 hl (by decide) rfl (fun ls hl => ?_)
  refine lv_iload_n hx hb dX10_runsOn_7 rfl (lv_at hl 4 rfl) ?_
  refine lv_istore (lv' := [(6, .int x2), (5, .int (-9)), (4, .int 0), (0, .ref (ad G 0)), (1, .int x1), (2, .int x2), (3, .int x3)]) hx hb dX10_runsOn_8 hl (by decide) rfl (fun ls hl => ?_)
  refine lv_iconst (v := 1) hx hb dX10_runsOn_10 (by decide) ?_
  refine lv_istore (lv' := [(7, .int 1), (6, .int x2), (5, .int (-9)), (4, .int 0), (0, .ref (ad G 0)), (1, .int x1), (2, .int x2), (3, .int x3)]) hx hb dX10_runsOn_11 hl (by decide) rfl (fun ls hl => ?_)
  refine lv_iconst (v := 0) hx hb dX10_runsOn_13 (by decide) ?_
  refine lv_istore (lv' := [(8, .int 0), (7, .int 1), (6, .int x2), (5, .int (-9)), (4, .int 0), (0, .ref (ad G 0)), (1, .int x1), (2, .int x2), (3, .int x3)]) hx hb dX10_runsOn_14 hl (by decide) rfl (fun ls hl => ?_)
  obtain ⟨t33, e34, h⟩ := bd h
  refine wY0_runsOn_L16 hC hF hL  (fun H locs ls hW hl => ?_) _ _ _ _ _ _ e34 _ _ _ hW (lv_sub hl [5, 6, 8, 4, 3, 2, 1, 0] rfl)
  refine lv_iload hx hb dX10_runsOn_162 (lv_at hl 1 rfl) ?_
  obtain ⟨t36, e37, h⟩ := bd h
  have K35 : ∀ (H : Heap) (locs : List Loc) (ls : Array Slot), wg LY G S s H locs → lv_has ls 12 [] → W p l e R s m args below meth c H locs 0 0 Q (F0 m 177 ls [.int t36]) := by
    intro H locs ls hW hl
    obtain ⟨g40, h⟩ := gd_some h
    cases h
    exact kr _ _ _ _ g40 dX10_runsOn_177 hW
  clear h
  have h := e37
  clear e37
  refine lv_if_eq (tgt := 176) hx hb dX10_runsOn_164 (by decide) (fun q38 => ?_) (fun q38 => ?_)
  · have h := it_p q38 h
    refine lv_iconst (v := 0) hx hb dX10_runsOn_176 (by decide) ?_
    cases h
    exact K35 _ _ _ hW (lv_sub hl [] rfl)
  · have h := it_n q38 h
    refine lv_iload hx hb dX10_runsOn_167 (lv_at hl 0 rfl) ?_
    refine lv_if_ne (tgt := 176) hx hb dX10_runsOn_169 (by decide) (fun q39 => ?_) (fun q39 => ?_)
    · have h := it_n q39 h
      refine lv_iconst (v := 0) hx hb dX10_runsOn_176 (by decide) ?_
      cases h
      exact K35 _ _ _ hW (lv_sub hl [] rfl)
    · have h := it_p q39 h
      refine lv_iconst (v := 1) hx hb dX10_runsOn_172 (by decide) ?_
      refine lv_goto (tgt := 177) hx hb dX10_runsOn_173 (by decide) ?_
      cases h
      exact K35 _ _ _ hW (lv_sub hl [] rfl)
theorem ctY0_runsOn {N : Nat} {S : St} {x1 : Int32} {x2 : Int32} {x3 : Int32}  {v : Int32} (h : fY0_runsOn N S x1 x2 x3 = some v) : Met l yX10_runsOn (wm yX10_runsOn cX10_runsOn 12 (some .boolean)) (rmx 1 22) (pcm LY G S [.ref (ad G 0), .int x1, .int x2, .int x3]) (qcI LY G S v) 0 0 G.2.2.2 :=
  x_enter (own := RX10) rfl rfl (Nat.le_of_ble_eq_true rfl) (fun p e s m below meth c ls hC hr hk hW hl => wY0_runsOn hC (Nat.le_refl _) (Nat.le_refl _)  h (fun H locs ls pc hz hd hW => x_retz hC hr hk hW hz hd) _ _ _ hW hl)
def fYs_isCarried (S : St) (x0 : Int32) : Option (Int32) :=
  Option.bind (α := Int32) (
    if x0 = (-9) then
      some 1
    else
      Option.bind (fYs_in S x0 0 9999) fun t5 =>
      if t5 = 0 then
        some 0
      else
        some 1
  ) fun t2 =>
  gd (isb t2) <|
  some t2
set_option maxHeartbeats 4000000 in
set_option maxRecDepth 100000 in
theorem wYs_isCarried {S : St} {x0 : Int32} (hC : CallFix p m c cX10_isCarried 1 s args lw_g RX10) (hF : 1 ≤ R.frames) (hL : 22 ≤ R.locals)  {v : Int32} (h : fYs_isCarried S x0 = some v) (kr : ∀ (H : Heap) (locs : List Loc) (ls : Array Slot) (pc : Nat), isb v = true → decode cX10_isCarried pc = .ok (.ireturn, 1) → wg LY G S s H locs → W p l e R s m args below meth c H locs 0 0 Q (F0 m pc ls [.int v])) : ∀ (H : Heap) (locs : List Loc) (ls : Array Slot), wg LY G S s H locs → lv_has ls 1 [(0, .int x0)] → W p l e R s m args below meth c H locs 0 0 Q (F0 m 0 ls []) := by
  have hx := hC.1
  have hb := hC.2.1
  intro H locs ls hW hl
  unfold fYs_isCarried at h
  refine lv_iload_n hx hb dX10_isCarried_0 rfl (lv_at hl 0 rfl) ?_
  refine lv_bipush (v := (-9)) hx hb dX10_isCarried_1 (by decide) ?_
  obtain ⟨t2, e3, h⟩ := bd h
  have K1 : ∀ (H : Heap) (locs : List Loc) (ls : Array Slot), wg LY G S s H locs → lv_has ls 1 [] → W p l e R s m args below meth c H locs 0 0 Q (F0 m 22 ls [.int t2]) := by
    intro H locs ls hW hl
    obtain ⟨g8, h⟩ := gd_some h
    cases h
    exact kr _ _ _ _ g8 dX10_isCarried_22 hW
  clear h
  have h := e3
  clear e3
  refine lv_icmp_eq (tgt := 17) hx hb dX10_isCarried_3 (by decide) (fun q4 => ?_) (fun q4 => ?_)
  · have h := it_p q4 h
    refine lv_iconst (v := 1) hx hb dX10_isCarried_17 (by decide) ?_
    refine lv_goto (tgt := 22) hx hb dX10_isCarried_18 (by decide) ?_
    cases h
    exact K1 _ _ _ hW (lv_sub hl [] rfl)
  · have h := it_n q4 h
    refine lv_iload_n hx hb dX10_isCarried_6 rfl (lv_at hl 0 rfl) ?_
    refine lv_iconst (v := 0) hx hb dX10_isCarried_7 (by decide) ?_
    refine lv_sipush (v := 9999) hx hb dX10_isCarried_8 (by decide) ?_
    obtain ⟨t5, e6, h⟩ := bd h
    refine x_goi (x_rs (rest := []) hC hW (ctYs_in e6) (cwS_g hC.2.2.2.2 ml_X10_103 ms_X10_in md_X10_in ⟨(Nat.le_trans (Nat.le_of_ble_eq_true rfl) hF), (Nat.le_trans (Nat.le_of_ble_eq_true rfl) hL)⟩) rfl hl.1 rfl (Nat.le_of_ble_eq_true rfl) dX10_isCarried_11) hW (fun H locs hW => ?_)
    refine lv_if_eq (tgt := 21) hx hb dX10_isCarried_14 (by decide) (fun q7 => ?_) (fun q7 => ?_)
    · have h := it_p q7 h
      refine lv_iconst (v := 0) hx hb dX10_isCarried_21 (by decide) ?_
      cases h
      exact K1 _ _ _ hW (lv_sub hl [] rfl)
    · have h := it_n q7 h
      refine lv_iconst (v := 1) hx hb dX10_isCarried_17 (by decide) ?_
      refine lv_goto (tgt := 22) hx hb dX10_isCarried_18 (by decide) ?_
      cases h
      exact K1 _ _ _ hW (lv_sub hl [] rfl)
theorem ctYs_isCarried {S : St} {x0 : Int32}  {v : Int32} (h : fYs_isCarried S x0 = some v) : Met l yX10_isCarried (wm yX10_isCarried cX10_isCarried 1 (some .boolean)) (rmx 1 22) (pcm LY G S [.int x0]) (qcI LY G S v) 0 0 G.2.2.2 :=
  x_enter (own := RX10) rfl rfl (Nat.le_of_ble_eq_true rfl) (fun p e s m below meth c ls hC hr hk hW hl => wYs_isCarried hC (Nat.le_refl _) (Nat.le_refl _)  h (fun H locs ls pc hz hd hW => x_retz hC hr hk hW hz hd) _ _ _ hW hl)
def fY0_orders_L49 (N : Nat) (S : St) (x1 : Int32) : Nat → Int32 → Int32 → Option (Int32)
  | 0, _, _ => none
  | n + 1, x3, x4 =>
    gd (inb x1 6) <|
    if (S.1 2 (Int32.toNatClampNeg x1)) ≤ x4 then
      some x3
    else
      Option.bind (α := Int32) (
        if x3 = 0 then
          some 0
        else
          Option.bind (fY0_rowAt S x1 x4) fun t18 =>
          Option.bind (fYs_isCarried S t18) fun t20 =>
          if t20 = 0 then
            some 0
          else
            some 1
      ) fun t15 =>
      fY0_orders_L49 N S x1 n t15 (x4 + 1)
set_option maxHeartbeats 4000000 in
set_option maxRecDepth 100000 in
theorem wY0_orders_L49 {N : Nat} {S : St} {x1 : Int32} (hC : CallFix p m c cX10_orders 9 s args lw_g RX10) (hF : 3 ≤ R.frames) (hL : 63 ≤ R.locals)  {t : Int32} (kx : ∀ (H : Heap) (locs : List Loc) (ls : Array Slot), wg LY G S s H locs → lv_has ls 9 [(0, .ref (ad G 0)), (1, .int x1), (3, .int t)] → W p l e R s m args below meth c H locs 0 0 Q (F0 m 89 ls [])) : ∀ (n : Nat) (x3 : Int32) (x4 : Int32), fY0_orders_L49 N S x1 n x3 x4 = some t → ∀ (H : Heap) (locs : List Loc) (ls : Array Slot), wg LY G S s H locs → lv_has ls 9 [(0, .ref (ad G 0)), (1, .int x1), (3, .int x3), (4, .int x4)] → W p l e R s m args below meth c H locs 0 0 Q (F0 m 49 ls []) := by
  have hx := hC.1
  have hb := hC.2.1
  intro n
  induction n with
  | zero =>
    intro _ _ h
    cases h
  | succ n ih =>
    intro x3 x4 h H locs ls hW hl
    rw [fY0_orders_L49] at h
    refine lv_iload hx hb dX10_orders_49 (lv_at hl 3 rfl) ?_
    refine lv_aload_n hx hb dX10_orders_51 rfl (lv_at hl 0 rfl) ?_
    refine gY0_5 hC hW dX10_orders_52 ?_
    refine lv_iload_n hx hb dX10_orders_55 rfl (lv_at hl 1 rfl) ?_
    obtain ⟨g12, h⟩ := gd_some h
    refine x_iald hC hW aY2 g12 dX10_orders_56 ?_
    refine lv_icmp_ge (tgt := 89) hx hb dX10_orders_57 (by decide) (fun q13 => ?_) (fun q13 => ?_)
    · have h := it_p q13 h
      cases h
      exact kx _ _ _ hW (lv_sub hl [0, 1, 2] rfl)
    · have h := it_n q13 h
      refine lv_iload_n hx hb dX10_orders_60 rfl (lv_at hl 2 rfl) ?_
      obtain ⟨t15, e16, h⟩ := bd h
      have K14 : ∀ (H : Heap) (locs : List Loc) (ls : Array Slot), wg LY G S s H locs → lv_has ls 9 [(0, .ref (ad G 0)), (1, .int x1), (4, .int x4)] → W p l e R s m args below meth c H locs 0 0 Q (F0 m 82 ls [.int t15]) := by
        intro H locs ls hW hl
        refine lv_istore_n (lv' := [(3, .int t15), (0, .ref (ad G 0)), (1, .int x1), (4, .int x4)]) hx hb dX10_orders_82 rfl hl (by decide) rfl (fun ls hl => ?_)
        refine lv_iinc (v := x4 + 1) (lv' := [(4, .int (x4 + 1)), (3, .int t15), (0, .ref (ad G 0)), (1, .int x1)]) (k := 3) hx hb dX10_orders_83 hl rfl rfl (by decide) rfl (fun ls hl => ?_)
        refine lv_goto (tgt := 49) hx hb dX10_orders_86 (by decide) ?_
        exact ih _ _ h _ _ _ hW (lv_sub hl [2, 3, 1, 0] rfl)
      clear h
      have h := e16
      clear e16
      refine lv_if_eq (tgt := 81) hx hb dX10_orders_61 (by decide) (fun q17 => ?_) (fun q17 => ?_)
      · have h := it_p q17 h
        refine lv_iconst (v := 0) hx hb dX10_orders_81 (by decide) ?_
        cases h
        exact K14 _ _ _ hW (lv_sub hl [0, 1, 3] rfl)
      · have h := it_n q17 h
        refine lv_aload_n hx hb dX10_orders_64 rfl (lv_at hl 0 rfl) ?_
        refine lv_iload_n hx hb dX10_orders_65 rfl (lv_at hl 1 rfl) ?_
        refine lv_iload hx hb dX10_orders_66 (lv_at hl 3 rfl) ?_
        obtain ⟨t18, e19, h⟩ := bd h
        refine x_goi (x_rv (rest := []) hC hW (ctY0_rowAt e19) (cwV_g hC.2.2.2.2 ml_X10_121 mi_X10_rowAt md_X10_rowAt ⟨(Nat.le_trans (Nat.le_of_ble_eq_true rfl) hF), (Nat.le_trans (Nat.le_of_ble_eq_true rfl) hL)⟩) (rcY0 hW) rfl hl.1 rfl (Nat.le_of_ble_eq_true rfl) dX10_orders_68) hW (fun H locs hW => ?_)
        obtain ⟨t20, e21, h⟩ := bd h
        refine x_goi (x_rs (rest := []) hC hW (ctYs_isCarried e21) (cwS_g hC.2.2.2.2 ml_X10_297 ms_X10_isCarried md_X10_isCarried ⟨(Nat.le_trans (Nat.le_of_ble_eq_true rfl) hF), (Nat.le_trans (Nat.le_of_ble_eq_true rfl) hL)⟩) rfl hl.1 rfl (Nat.le_of_ble_eq_true rfl) dX10_orders_71) hW (fun H locs hW => ?_)
        refine lv_if_eq (tgt := 81) hx hb dX10_orders_74 (by decide) (fun q22 => ?_) (fun q22 => ?_)
        · have h := it_p q22 h
          refine lv_iconst (v := 0) hx hb dX10_orders_81 (by decide) ?_
          cases h
          exact K14 _ _ _ hW (lv_sub hl [0, 1, 3] rfl)
        · have h := it_n q22 h
          refine lv_iconst (v := 1) hx hb dX10_orders_77 (by decide) ?_
          refine lv_goto (tgt := 82) hx hb dX10_orders_78 (by decide) ?_
          cases h
          exact K14 _ _ _ hW (lv_sub hl [0, 1, 3] rfl)
def fY0_orders_L115 (N : Nat) (S : St) (x1 : Int32) (x4 : Int32) : Nat → Int32 → Int32 → Option (Int32)
  | 0, _, _ => none
  | n + 1, x5, x6 =>
    if x4 ≤ x6 then
      some x5
    else
      fY0_orders_L115 N S x1 x4 n ((10 * x5) + 1) (x6 + 1)
set_option maxHeartbeats 4000000 in
set_option maxRecDepth 100000 in
theorem wY0_orders_L115 {N : Nat} {S : St} {x1 : Int32} {x4 : Int32} (hC : CallFix p m c cX10_orders 9 s args lw_g RX10) (hF : 3 ≤ R.frames) (hL : 63 ≤ R.locals)  {t : Int32} (kx : ∀ (H : Heap) (locs : List Loc) (ls : Array Slot), wg LY G S s H locs → lv_has ls 9 [(0, .ref (ad G 0)), (1, .int x1), (4, .int x4), (5, .int t)] → W p l e R s m args below meth c H locs 0 0 Q (F0 m 137 ls [])) : ∀ (n : Nat) (x5 : Int32) (x6 : Int32), fY0_orders_L115 N S x1 x4 n x5 x6 = some t → ∀ (H : Heap) (locs : List Loc) (ls : Array Slot), wg LY G S s H locs → lv_has ls 9 [(0, .ref (ad G 0)), (1, .int x1), (4, .int x4), (5, .int x5), (6, .int x6)] → W p l e R s m args below meth c H locs 0 0 Q (F0 m 115 ls []) := by
  have hx := hC.1
  have hb := hC.2.1
  intro n
  induction n with
  | zero =>
    intro _ _ h
    cases h
  | succ n ih =>
    intro x5 x6 h H locs ls hW hl
    rw [fY0_orders_L115] at h
    refine lv_iload hx hb dX10_orders_115 (lv_at hl 4 rfl) ?_
    refine lv_iload hx hb dX10_orders_117 (lv_at hl 2 rfl) ?_
    refine lv_icmp_ge (tgt := 137) hx hb dX10_orders_119 (by decide) (fun q29 => ?_) (fun q29 => ?_)
    · have h := it_p q29 h
      cases h
      exact kx _ _ _ hW (lv_sub hl [0, 1, 2, 3] rfl)
    · have h := it_n q29 h
      refine lv_bipush (v := 10) hx hb dX10_orders_122 (by decide) ?_
      refine lv_iload hx hb dX10_orders_124 (lv_at hl 3 rfl) ?_
      refine lv_imul hx hb dX10_orders_126 ?_
      refine lv_iconst (v := 1) hx hb dX10_orders_127 (by decide) ?_
      refine lv_iadd hx hb dX10_orders_128 ?_
      refine lv_istore (lv' := [(5, .int ((10 * x5) + 1)), (0, .ref (ad G 0)), (1, .int x1), (4, .int x4), (6, .int x6)]) hx hb dX10_orders_129 hl (by decide) rfl (fun ls hl => ?_)
      refine lv_iinc (v := x6 + 1) (lv' := [(6, .int (x6 + 1)), (5, .int ((10 * x5) + 1)), (0, .ref (ad G 0)), (1, .int x1), (4, .int x4)]) (k := 4) hx hb dX10_orders_131 hl rfl rfl (by decide) rfl (fun ls hl => ?_)
      refine lv_goto (tgt := 115) hx hb dX10_orders_134 (by decide) ?_
      exact ih _ _ h _ _ _ hW (lv_sub hl [2, 3, 4, 1, 0] rfl)
def fY0_orders_L147 (N : Nat) (S : St) (x1 : Int32) (x4 : Int32) (x5 : Int32) : Nat → Int32 → Int32 → Int32 → Option (Int32 × Int32)
  | 0, _, _, _ => none
  | n + 1, x6, x7, x8 =>
    if (x4 * x5) < x8 then
      some (x6, x7)
    else
      Option.bind (fY0_runsOn N S x1 x8 x4) fun t33 =>
      Option.bind (α := Int32 × Int32) (
        if t33 = 0 then
          some (x6, x7)
        else
          Option.bind (α := Int32) (
            if x6 = 0 then
              some x8
            else
              some x7
          ) fun t40 =>
          some (x6 + 1, t40)
      ) fun t36 =>
      fY0_orders_L147 N S x1 x4 x5 n t36.1 t36.2 (x8 + 1)
set_option maxHeartbeats 4000000 in
set_option maxRecDepth 100000 in
theorem wY0_orders_L147 {N : Nat} {S : St} {x1 : Int32} {x4 : Int32} {x5 : Int32} (hC : CallFix p m c cX10_orders 9 s args lw_g RX10) (hF : 3 ≤ R.frames) (hL : 63 ≤ R.locals)  {t : Int32 × Int32} (kx : ∀ (H : Heap) (locs : List Loc) (ls : Array Slot), wg LY G S s H locs → lv_has ls 9 [(0, .ref (ad G 0)), (6, .int t.1), (7, .int t.2)] → W p l e R s m args below meth c H locs 0 0 Q (F0 m 192 ls [])) : ∀ (n : Nat) (x6 : Int32) (x7 : Int32) (x8 : Int32), fY0_orders_L147 N S x1 x4 x5 n x6 x7 x8 = some t → ∀ (H : Heap) (locs : List Loc) (ls : Array Slot), wg LY G S s H locs → lv_has ls 9 [(0, .ref (ad G 0)), (1, .int x1), (4, .int x4), (5, .int x5), (6, .int x6), (7, .int x7), (8, .int x8)] → W p l e R s m args below meth c H locs 0 0 Q (F0 m 147 ls []) := by
  have hx := hC.1
  have hb := hC.2.1
  intro n
  induction n with
  | zero =>
    intro _ _ _ h
    cases h
  | succ n ih =>
    intro x6 x7 x8 h H locs ls hW hl
    rw [fY0_orders_L147] at h
    refine lv_iload hx hb dX10_orders_147 (lv_at hl 6 rfl) ?_
    refine lv_iload hx hb dX10_orders_149 (lv_at hl 2 rfl) ?_
    refine lv_iload hx hb dX10_orders_151 (lv_at hl 3 rfl) ?_
    refine lv_imul hx hb dX10_orders_153 ?_
    refine lv_icmp_gt (tgt := 192) hx hb dX10_orders_154 (by decide) (fun q32 => ?_) (fun q32 => ?_)
    · have h := it_p q32 h
      cases h
      exact kx _ _ _ hW (lv_sub hl [0, 4, 5] rfl)
    · have h := it_n q32 h
      refine lv_aload_n hx hb dX10_orders_157 rfl (lv_at hl 0 rfl) ?_
      refine lv_iload_n hx hb dX10_orders_158 rfl (lv_at hl 1 rfl) ?_
      refine lv_iload hx hb dX10_orders_159 (lv_at hl 6 rfl) ?_
      refine lv_iload hx hb dX10_orders_161 (lv_at hl 2 rfl) ?_
      obtain ⟨t33, e34, h⟩ := bd h
      refine x_goi (x_rv (rest := []) hC hW (ctY0_runsOn e34) (cwV_g hC.2.2.2.2 ml_X10_300 mi_X10_runsOn md_X10_runsOn ⟨(Nat.le_trans (Nat.le_of_ble_eq_true rfl) hF), (Nat.le_trans (Nat.le_of_ble_eq_true rfl) hL)⟩) (rcY0 hW) rfl hl.1 rfl (Nat.le_of_ble_eq_true rfl) dX10_orders_163) hW (fun H locs hW => ?_)
      obtain ⟨t36, e37, h⟩ := bd h
      have K35 : ∀ (H : Heap) (locs : List Loc) (ls : Array Slot), wg LY G S s H locs → lv_has ls 9 [(0, .ref (ad G 0)), (1, .int x1), (4, .int x4), (5, .int x5), (6, .int t36.1), (7, .int t36.2), (8, .int x8)] → W p l e R s m args below meth c H locs 0 0 Q (F0 m 186 ls []) := by
        intro H locs ls hW hl
        refine lv_iinc (v := x8 + 1) (lv' := [(8, .int (x8 + 1)), (0, .ref (ad G 0)), (1, .int x1), (4, .int x4), (5, .int x5), (6, .int t36.1), (7, .int t36.2)]) (k := 6) hx hb dX10_orders_186 hl rfl rfl (by decide) rfl (fun ls hl => ?_)
        refine lv_goto (tgt := 147) hx hb dX10_orders_189 (by decide) ?_
        exact ih _ _ _ h _ _ _ hW (lv_sub hl [1, 2, 3, 4, 5, 6, 0] rfl)
      clear h
      have h := e37
      clear e37
      refine lv_if_eq (tgt := 186) hx hb dX10_orders_166 (by decide) (fun q38 => ?_) (fun q38 => ?_)
      · have h := it_p q38 h
        cases h
        exact K35 _ _ _ hW (lv_sub hl [0, 1, 2, 3, 4, 5, 6] rfl)
      · have h := it_n q38 h
        refine lv_iload hx hb dX10_orders_169 (lv_at hl 4 rfl) ?_
        obtain ⟨t40, e41, h⟩ := bd h
        have K39 : ∀ (H : Heap) (locs : List Loc) (ls : Array Slot), wg LY G S s H locs → lv_has ls 9 [(0, .ref (ad G 0)), (1, .int x1), (4, .int x4), (5, .int x5), (6, .int x6), (8, .int x8)] → W p l e R s m args below meth c H locs 0 0 Q (F0 m 181 ls [.int t40]) := by
          intro H locs ls hW hl
          refine lv_istore (lv' := [(7, .int t40), (0, .ref (ad G 0)), (1, .int x1), (4, .int x4), (5, .int x5), (6, .int x6), (8, .int x8)]) hx hb dX10_orders_181 hl (by decide) rfl (fun ls hl => ?_)
          refine lv_iinc (v := x6 + 1) (lv' := [(6, .int (x6 + 1)), (7, .int t40), (0, .ref (ad G 0)), (1, .int x1), (4, .int x4), (5, .int x5), (8, .int x8)]) (k := 5) hx hb dX10_orders_183 hl rfl rfl (by decide) rfl (fun ls hl => ?_)
          cases h
          exact K35 _ _ _ hW (lv_sub hl [2, 3, 4, 5, 0, 1, 6] rfl)
        clear h
        have h := e41
        clear e41
        refine lv_if_ne (tgt := 179) hx hb dX10_orders_171 (by decide) (fun q42 => ?_) (fun q42 => ?_)
        · have h := it_n q42 h
          refine lv_iload hx hb dX10_orders_179 (lv_at hl 5 rfl) ?_
          cases h
          exact K39 _ _ _ hW (lv_sub hl [0, 1, 2, 3, 4, 6] rfl)
        · have h := it_p q42 h
          refine lv_iload hx hb dX10_orders_174 (lv_at hl 6 rfl) ?_
          refine lv_goto (tgt := 181) hx hb dX10_orders_176 (by decide) ?_
          cases h
          exact K39 _ _ _ hW (lv_sub hl [0, 1, 2, 3, 4, 6] rfl)
def fY0_orders (N : Nat) (S : St) (x1 : Int32) : Option (Int32 × St) :=
  Option.bind (fY0_askedRow S x1) fun t1 =>
  if 0 ≤ t1.1 then
    gd (inb x1 6) <|
    if ((t1.2.1 2 (Int32.toNatClampNeg x1)) - (t1.2.1 2 (Int32.toNatClampNeg x1)) / 2 * 2) = 0 then
      gd (inb x1 6) <|
      Option.bind (fYs_in t1.2 (t1.2.1 2 (Int32.toNatClampNeg x1)) 2 12) fun t9 =>
      if t9 = 0 then
        Option.bind (fY0_meets t1.2 5) fun t49 =>
        some (t49.1, t49.2)
      else
        Option.bind (fY0_orders_L49 N t1.2 x1 N 1 0) fun t23 =>
        if t23 = 0 then
          Option.bind (fY0_meets t1.2 3) fun t47 =>
          some (t47.1, t47.2)
        else
          gd (inb x1 6) <|
          nx ((t1.2.1 2 (Int32.toNatClampNeg x1)) / 2) fun y27 =>
          Option.bind (fY0_orders_L115 N t1.2 x1 y27 N 0 0) fun t30 =>
          Option.bind (fY0_orders_L147 N t1.2 x1 y27 t30 N 0 0 t30) fun t43 =>
          Option.bind (fY0_ask t1.2 t43.2 t43.1) fun t45 =>
          some (t45.1, t45.2)
    else
      Option.bind (fY0_meets t1.2 5) fun t6 =>
      some (t6.1, t6.2)
  else
    some (t1.1, t1.2)
set_option maxHeartbeats 4000000 in
set_option maxRecDepth 100000 in
theorem wY0_orders {N : Nat} {S : St} {x1 : Int32} (hC : CallFix p m c cX10_orders 9 s args lw_g RX10) (hF : 3 ≤ R.frames) (hL : 63 ≤ R.locals)  {v : Int32} {S' : St} (h : fY0_orders N S x1 = some (v, S')) (kr : ∀ (H : Heap) (locs : List Loc) (ls : Array Slot) (pc : Nat), decode cX10_orders pc = .ok (.ireturn, 1) → wg LY G (S') s H locs → W p l e R s m args below meth c H locs 0 0 Q (F0 m pc ls [.int v])) : ∀ (H : Heap) (locs : List Loc) (ls : Array Slot), wg LY G S s H locs → lv_has ls 9 [(0, .ref (ad G 0)), (1, .int x1)] → W p l e R s m args below meth c H locs 0 0 Q (F0 m 0 ls []) := by
  have hx := hC.1
  have hb := hC.2.1
  intro H locs ls hW hl
  unfold fY0_orders at h
  refine lv_aload_n hx hb dX10_orders_0 rfl (lv_at hl 0 rfl) ?_
  refine lv_iload_n hx hb dX10_orders_1 rfl (lv_at hl 1 rfl) ?_
  obtain ⟨t1, e2, h⟩ := bd h
  refine x_goi (x_rv (rest := []) hC hW (ctY0_askedRow e2) (cwV_g hC.2.2.2.2 ml_X10_118 mi_X10_askedRow md_X10_askedRow ⟨(Nat.le_trans (Nat.le_of_ble_eq_true rfl) hF), (Nat.le_trans (Nat.le_of_ble_eq_true rfl) hL)⟩) (rcY0 hW) rfl hl.1 rfl (Nat.le_of_ble_eq_true rfl) dX10_orders_2) hW (fun H locs hW => ?_)
  refine lv_istore_n (lv' := [(2, .int t1.1), (0, .ref (ad G 0)), (1, .int x1)]) hx hb dX10_orders_5 rfl hl (by decide) rfl (fun ls hl => ?_)
  refine lv_iload_n hx hb dX10_orders_6 rfl (lv_at hl 0 rfl) ?_
  refine lv_if_ge (tgt := 12) hx hb dX10_orders_7 (by decide) (fun q3 => ?_) (fun q3 => ?_)
  · have h := it_p q3 h
    refine lv_aload_n hx hb dX10_orders_12 rfl (lv_at hl 1 rfl) ?_
    refine gY0_5 hC hW dX10_orders_13 ?_
    refine lv_iload_n hx hb dX10_orders_16 rfl (lv_at hl 2 rfl) ?_
    obtain ⟨g4, h⟩ := gd_some h
    refine x_iald hC hW aY2 g4 dX10_orders_17 ?_
    refine lv_iconst (v := 2) hx hb dX10_orders_18 (by decide) ?_
    refine lv_irem hx hb dX10_orders_19 (by decide) ?_
    refine lv_if_ne (tgt := 38) hx hb dX10_orders_20 (by decide) (fun q5 => ?_) (fun q5 => ?_)
    · have h := it_n q5 h
      refine lv_aload_n hx hb dX10_orders_38 rfl (lv_at hl 1 rfl) ?_
      refine lv_iconst (v := 5) hx hb dX10_orders_39 (by decide) ?_
      obtain ⟨t6, e7, h⟩ := bd h
      refine x_goi (x_rv (rest := []) hC hW (ctY0_meets e7) (cwV_g hC.2.2.2.2 ml_X10_111 mi_X10_meets md_X10_meets ⟨(Nat.le_trans (Nat.le_of_ble_eq_true rfl) hF), (Nat.le_trans (Nat.le_of_ble_eq_true rfl) hL)⟩) (rcY0 hW) rfl hl.1 rfl (Nat.le_of_ble_eq_true rfl) dX10_orders_40) hW (fun H locs hW => ?_)
      cases h
      exact kr _ _ _ _ dX10_orders_43 hW
    · have h := it_p q5 h
      refine lv_aload_n hx hb dX10_orders_23 rfl (lv_at hl 1 rfl) ?_
      refine gY0_5 hC hW dX10_orders_24 ?_
      refine lv_iload_n hx hb dX10_orders_27 rfl (lv_at hl 2 rfl) ?_
      obtain ⟨g8, h⟩ := gd_some h
      refine x_iald hC hW aY2 g8 dX10_orders_28 ?_
      refine lv_iconst (v := 2) hx hb dX10_orders_29 (by decide) ?_
      refine lv_bipush (v := 12) hx hb dX10_orders_30 (by decide) ?_
      obtain ⟨t9, e10, h⟩ := bd h
      refine x_goi (x_rs (rest := []) hC hW (ctYs_in e10) (cwS_g hC.2.2.2.2 ml_X10_103 ms_X10_in md_X10_in ⟨(Nat.le_trans (Nat.le_of_ble_eq_true rfl) hF), (Nat.le_trans (Nat.le_of_ble_eq_true rfl) hL)⟩) rfl hl.1 rfl (Nat.le_of_ble_eq_true rfl) dX10_orders_32) hW (fun H locs hW => ?_)
      refine lv_if_ne (tgt := 44) hx hb dX10_orders_35 (by decide) (fun q11 => ?_) (fun q11 => ?_)
      · have h := it_n q11 h
        refine lv_iconst (v := 1) hx hb dX10_orders_44 (by decide) ?_
        refine lv_istore_n (lv' := [(3, .int 1), (2, .int t1.1), (0, .ref (ad G 0)), (1, .int x1)]) hx hb dX10_orders_45 rfl hl (by decide) rfl (fun ls hl => ?_)
        refine lv_iconst (v := 0) hx hb dX10_orders_46 (by decide) ?_
        refine lv_istore (lv' := [(4, .int 0), (3, .int 1), (2, .int t1.1), (0, .ref (ad G 0)), (1, .int x1)]) hx hb dX10_orders_47 hl (by decide) rfl (fun ls hl => ?_)
        obtain ⟨t23, e24, h⟩ := bd h
        refine wY0_orders_L49 hC hF hL  (fun H locs ls hW hl => ?_) _ _ _ e24 _ _ _ hW (lv_sub hl [3, 4, 1, 0] rfl)
        refine lv_iload_n hx hb dX10_orders_89 rfl (lv_at hl 2 rfl) ?_
        refine lv_if_ne (tgt := 99) hx hb dX10_orders_90 (by decide) (fun q25 => ?_) (fun q25 => ?_)
        · have h := it_n q25 h
          refine lv_aload_n hx hb dX10_orders_99 rfl (lv_at hl 0 rfl) ?_
          refine gY0_5 hC hW dX10_orders_100 ?_
          refine lv_iload_n hx hb dX10_orders_103 rfl (lv_at hl 1 rfl) ?_
          obtain ⟨g26, h⟩ := gd_some h
          refine x_iald hC hW aY2 g26 dX10_orders_104 ?_
          refine lv_iconst (v := 2) hx hb dX10_orders_105 (by decide) ?_
          refine lv_idiv hx hb dX10_orders_106 (by decide) ?_
          obtain ⟨y27, e28, h⟩ := nx_some h
          refine x_topi e28 ?_
          refine lv_istore (lv' := [(4, .int y27), (0, .ref (ad G 0)), (1, .int x1), (3, .int t23)]) hx hb dX10_orders_107 hl (by decide) rfl (fun ls hl => ?_)
          refine lv_iconst (v := 0) hx hb dX10_orders_109 (by decide) ?_
          refine lv_istore (lv' := [(5, .int 0), (4, .int y27), (0, .ref (ad G 0)), (1, .int x1), (3, .int t23)]) hx hb dX10_orders_110 hl (by decide) rfl (fun ls hl => ?_)
          refine lv_iconst (v := 0) hx hb dX10_orders_112 (by decide) ?_
          refine lv_istore (lv' := [(6, .int 0), (5, .int 0), (4, .int y27), (0, .ref (ad G 0)), (1, .int x1), (3, .int t23)]) hx hb dX10_orders_113 hl (by decide) rfl (fun ls hl => ?_)
          obtain ⟨t30, e31, h⟩ := bd h
          refine wY0_orders_L115 hC hF hL  (fun H locs ls hW hl => ?_) _ _ _ e31 _ _ _ hW (lv_sub hl [3, 4, 2, 1, 0] rfl)
          refine lv_iconst (v := 0) hx hb dX10_orders_137 (by decide) ?_
          refine lv_istore (lv' := [(6, .int 0), (0, .ref (ad G 0)), (1, .int x1), (4, .int y27), (5, .int t30)]) hx hb dX10_orders_138 hl (by decide) rfl (fun ls hl => ?_)
          refine lv_iconst (v := 0) hx hb dX10_orders_140 (by decide) ?_
          refine lv_istore (lv' := [(7, .int 0), (6, .int 0), (0, .ref (ad G 0)), (1, .int x1), (4, .int y27), (5, .int t30)]) hx hb dX10_orders_141 hl (by decide) rfl (fun ls hl => ?_)
          refine lv_iload hx hb dX10_orders_143 (lv_at hl 5 rfl) ?_
          refine lv_istore (lv' := [(8, .int t30), (7, .int 0), (6, .int 0), (0, .ref (ad G 0)), (1, .int x1), (4, .int y27), (5, .int t30)]) hx hb dX10_orders_145 hl (by decide) rfl (fun ls hl => ?_)
          obtain ⟨t43, e44, h⟩ := bd h
          refine wY0_orders_L147 hC hF hL  (fun H locs ls hW hl => ?_) _ _ _ _ e44 _ _ _ hW (lv_sub hl [3, 4, 5, 6, 2, 1, 0] rfl)
          refine lv_aload_n hx hb dX10_orders_192 rfl (lv_at hl 0 rfl) ?_
          refine lv_iload hx hb dX10_orders_193 (lv_at hl 2 rfl) ?_
          refine lv_iload hx hb dX10_orders_195 (lv_at hl 1 rfl) ?_
          obtain ⟨t45, e46, h⟩ := bd h
          refine x_goi (x_rv (rest := []) hC hW (ctY0_ask e46) (cwV_g hC.2.2.2.2 ml_X10_125 mi_X10_ask md_X10_ask ⟨(Nat.le_trans (Nat.le_of_ble_eq_true rfl) hF), (Nat.le_trans (Nat.le_of_ble_eq_true rfl) hL)⟩) (rcY0 hW) rfl hl.1 rfl (Nat.le_of_ble_eq_true rfl) dX10_orders_197) hW (fun H locs hW => ?_)
          cases h
          exact kr _ _ _ _ dX10_orders_200 hW
        · have h := it_p q25 h
          refine lv_aload_n hx hb dX10_orders_93 rfl (lv_at hl 0 rfl) ?_
          refine lv_iconst (v := 3) hx hb dX10_orders_94 (by decide) ?_
          obtain ⟨t47, e48, h⟩ := bd h
          refine x_goi (x_rv (rest := []) hC hW (ctY0_meets e48) (cwV_g hC.2.2.2.2 ml_X10_111 mi_X10_meets md_X10_meets ⟨(Nat.le_trans (Nat.le_of_ble_eq_true rfl) hF), (Nat.le_trans (Nat.le_of_ble_eq_true rfl) hL)⟩) (rcY0 hW) rfl hl.1 rfl (Nat.le_of_ble_eq_true rfl) dX10_orders_95) hW (fun H locs hW => ?_)
          cases h
          exact kr _ _ _ _ dX10_orders_98 hW
      · have h := it_p q11 h
        refine lv_aload_n hx hb dX10_orders_38 rfl (lv_at hl 1 rfl) ?_
        refine lv_iconst (v := 5) hx hb dX10_orders_39 (by decide) ?_
        obtain ⟨t49, e50, h⟩ := bd h
        refine x_goi (x_rv (rest := []) hC hW (ctY0_meets e50) (cwV_g hC.2.2.2.2 ml_X10_111 mi_X10_meets md_X10_meets ⟨(Nat.le_trans (Nat.le_of_ble_eq_true rfl) hF), (Nat.le_trans (Nat.le_of_ble_eq_true rfl) hL)⟩) (rcY0 hW) rfl hl.1 rfl (Nat.le_of_ble_eq_true rfl) dX10_orders_40) hW (fun H locs hW => ?_)
        cases h
        exact kr _ _ _ _ dX10_orders_43 hW
  · have h := it_n q3 h
    refine lv_iload_n hx hb dX10_orders_10 rfl (lv_at hl 0 rfl) ?_
    cases h
    exact kr _ _ _ _ dX10_orders_11 hW
theorem ctY0_orders {N : Nat} {S : St} {x1 : Int32}  {v : Int32} {S' : St} (h : fY0_orders N S x1 = some (v, S')) : Met l yX10_orders (wm yX10_orders cX10_orders 9 (some .int)) (rmx 3 63) (pcm LY G S [.ref (ad G 0), .int x1]) (qcI LY G S' v) 0 0 G.2.2.2 :=
  x_enter (own := RX10) rfl rfl (Nat.le_of_ble_eq_true rfl) (fun p e s m below meth c ls hC hr hk hW hl => wY0_orders hC (Nat.le_refl _) (Nat.le_refl _)  h (fun H locs ls pc hd hW => x_reti hC hr hk hW hd) _ _ _ hW hl)
end GEN
