section GEN
variable {p : Program} {l : Launch} {e : Env} {R : Room} {s : State} {m : MethodId} {args : Array Value} {below : List Frame} {meth : Method} {c : Code} {H : Heap} {locs : List Loc} {Q : State → Prop} {G : GG}
def fY0_burnt_L42 (N : Nat) (S : St) (x1 : Int32) : Nat → Int32 → Int32 → Option (Int32)
  | 0, _, _ => none
  | n + 1, x2, x3 =>
    if 12 ≤ x3 then
      some x2
    else
      Option.bind (α := Int32) (
        if x2 = 0 then
          some 0
        else
          gd (inb x1 8) <|
          gd (inb x1 8) <|
          Option.bind (fYs_has S ((S.1 13 (Int32.toNatClampNeg x1)) ||| (S.1 14 (Int32.toNatClampNeg x1))) x3) fun t18 =>
          if t18 = 0 then
            some 1
          else
            Option.bind (fY0_isThere S x3) fun t21 =>
            if t21 = 0 then
              some 1
            else
              gd (inb x3 12) <|
              if (S.1 19 (Int32.toNatClampNeg x3)) < 0 then
                some 0
              else
                some 1
      ) fun t13 =>
      fY0_burnt_L42 N S x1 n t13 (x3 + 1)
set_option maxHeartbeats 4000000 in
set_option maxRecDepth 100000 in
theorem wY0_burnt_L42 {N : Nat} {S : St} {x1 : Int32} (hC : CallFix p m c cX10_burnt 4 s args lw_g RX10) (hF : 3 ≤ R.frames) (hL : 67 ≤ R.locals)  {t : Int32} (kx : ∀ (H : Heap) (locs : List Loc) (ls : Array Slot), wg LY G S s H locs → lv_has ls 4 [(0, .ref (ad G 0)), (1, .int x1), (2, .int t)] → W p l e R s m args below meth c H locs 0 0 Q (F0 m 101 ls [])) : ∀ (n : Nat) (x2 : Int32) (x3 : Int32), fY0_burnt_L42 N S x1 n x2 x3 = some t → ∀ (H : Heap) (locs : List Loc) (ls : Array Slot), wg LY G S s H locs → lv_has ls 4 [(0, .ref (ad G 0)), (1, .int x1), (2, .int x2), (3, .int x3)] → W p l e R s m args below meth c H locs 0 0 Q (F0 m 42 ls []) := by
  have hx := hC.1
  have hb := hC.2.1
  intro n
  induction n with
  | zero =>
    intro _ _ h
    cases h
  | succ n ih =>
    intro x2 x3 h H locs ls hW hl
    rw [fY0_burnt_L42] at h
    refine lv_iload_n hx hb dX10_burnt_42 rfl (lv_at hl 3 rfl) ?_
    refine lv_bipush (v := 12) hx hb dX10_burnt_43 (by decide) ?_
    refine lv_icmp_ge (tgt := 101) hx hb dX10_burnt_45 (by decide) (fun q11 => ?_) (fun q11 => ?_)
    · have h := it_p q11 h
      cases h
      exact kx _ _ _ hW (lv_sub hl [0, 1, 2] rfl)
    · have h := it_n q11 h
      refine lv_iload_n hx hb dX10_burnt_48 rfl (lv_at hl 2 rfl) ?_
      obtain ⟨t13, e14, h⟩ := bd h
      have K12 : ∀ (H : Heap) (locs : List Loc) (ls : Array Slot), wg LY G S s H locs → lv_has ls 4 [(0, .ref (ad G 0)), (1, .int x1), (3, .int x3)] → W p l e R s m args below meth c H locs 0 0 Q (F0 m 94 ls [.int t13]) := by
        intro H locs ls hW hl
        refine lv_istore_n (lv' := [(2, .int t13), (0, .ref (ad G 0)), (1, .int x1), (3, .int x3)]) hx hb dX10_burnt_94 rfl hl (by decide) rfl (fun ls hl => ?_)
        refine lv_iinc (v := x3 + 1) (lv' := [(3, .int (x3 + 1)), (2, .int t13), (0, .ref (ad G 0)), (1, .int x1)]) (k := 3) hx hb dX10_burnt_95 hl rfl rfl (by decide) rfl (fun ls hl => ?_)
        refine lv_goto (tgt := 42) hx hb dX10_burnt_98 (by decide) ?_
        exact ih _ _ h _ _ _ hW (lv_sub hl [2, 3, 1, 0] rfl)
      clear h
      have h := e14
      clear e14
      refine lv_if_eq (tgt := 93) hx hb dX10_burnt_49 (by decide) (fun q15 => ?_) (fun q15 => ?_)
      · have h := it_p q15 h
        refine lv_iconst (v := 0) hx hb dX10_burnt_93 (by decide) ?_
        cases h
        exact K12 _ _ _ hW (lv_sub hl [0, 1, 3] rfl)
      · have h := it_n q15 h
        refine lv_aload_n hx hb dX10_burnt_52 rfl (lv_at hl 0 rfl) ?_
        refine gY0_19 hC hW dX10_burnt_53 ?_
        refine lv_iload_n hx hb dX10_burnt_56 rfl (lv_at hl 1 rfl) ?_
        obtain ⟨g16, h⟩ := gd_some h
        refine x_iald hC hW aY13 g16 dX10_burnt_57 ?_
        refine lv_aload_n hx hb dX10_burnt_58 rfl (lv_at hl 0 rfl) ?_
        refine gY0_20 hC hW dX10_burnt_59 ?_
        refine lv_iload_n hx hb dX10_burnt_62 rfl (lv_at hl 1 rfl) ?_
        obtain ⟨g17, h⟩ := gd_some h
        refine x_iald hC hW aY14 g17 dX10_burnt_63 ?_
        refine lv_ior hx hb dX10_burnt_64 ?_
        refine lv_iload_n hx hb dX10_burnt_65 rfl (lv_at hl 3 rfl) ?_
        obtain ⟨t18, e19, h⟩ := bd h
        refine x_goi (x_rs (rest := []) hC hW (ctYs_has e19) (cwS_g hC.2.2.2.2 ml_X10_208 ms_X10_has md_X10_has ⟨(Nat.le_trans (Nat.le_of_ble_eq_true rfl) hF), (Nat.le_trans (Nat.le_of_ble_eq_true rfl) hL)⟩) rfl hl.1 rfl (Nat.le_of_ble_eq_true rfl) dX10_burnt_66) hW (fun H locs hW => ?_)
        refine lv_if_eq (tgt := 89) hx hb dX10_burnt_69 (by decide) (fun q20 => ?_) (fun q20 => ?_)
        · have h := it_p q20 h
          refine lv_iconst (v := 1) hx hb dX10_burnt_89 (by decide) ?_
          refine lv_goto (tgt := 94) hx hb dX10_burnt_90 (by decide) ?_
          cases h
          exact K12 _ _ _ hW (lv_sub hl [0, 1, 3] rfl)
        · have h := it_n q20 h
          refine lv_aload_n hx hb dX10_burnt_72 rfl (lv_at hl 0 rfl) ?_
          refine lv_iload_n hx hb dX10_burnt_73 rfl (lv_at hl 3 rfl) ?_
          obtain ⟨t21, e22, h⟩ := bd h
          refine x_goi (x_rv (rest := []) hC hW (ctY0_isThere e22) (cwV_g hC.2.2.2.2 ml_X10_193 mi_X10_isThere md_X10_isThere ⟨(Nat.le_trans (Nat.le_of_ble_eq_true rfl) hF), (Nat.le_trans (Nat.le_of_ble_eq_true rfl) hL)⟩) (rcY0 hW) rfl hl.1 rfl (Nat.le_of_ble_eq_true rfl) dX10_burnt_74) hW (fun H locs hW => ?_)
          refine lv_if_eq (tgt := 89) hx hb dX10_burnt_77 (by decide) (fun q23 => ?_) (fun q23 => ?_)
          · have h := it_p q23 h
            refine lv_iconst (v := 1) hx hb dX10_burnt_89 (by decide) ?_
            refine lv_goto (tgt := 94) hx hb dX10_burnt_90 (by decide) ?_
            cases h
            exact K12 _ _ _ hW (lv_sub hl [0, 1, 3] rfl)
          · have h := it_n q23 h
            refine lv_aload_n hx hb dX10_burnt_80 rfl (lv_at hl 0 rfl) ?_
            refine gY0_26 hC hW dX10_burnt_81 ?_
            refine lv_iload_n hx hb dX10_burnt_84 rfl (lv_at hl 3 rfl) ?_
            obtain ⟨g24, h⟩ := gd_some h
            refine x_iald hC hW aY19 g24 dX10_burnt_85 ?_
            refine lv_if_lt (tgt := 93) hx hb dX10_burnt_86 (by decide) (fun q25 => ?_) (fun q25 => ?_)
            · have h := it_p q25 h
              refine lv_iconst (v := 0) hx hb dX10_burnt_93 (by decide) ?_
              cases h
              exact K12 _ _ _ hW (lv_sub hl [0, 1, 3] rfl)
            · have h := it_n q25 h
              refine lv_iconst (v := 1) hx hb dX10_burnt_89 (by decide) ?_
              refine lv_goto (tgt := 94) hx hb dX10_burnt_90 (by decide) ?_
              cases h
              exact K12 _ _ _ hW (lv_sub hl [0, 1, 3] rfl)
def fY0_burnt_L6 (N : Nat) (S : St)  : Nat → Int32 → Option ((Int32 × St) ⊕ (Unit))
  | 0, _ => none
  | n + 1, x1 =>
    if (S.1 0 18) ≤ x1 then
      some (.inr ())
    else
      gd (inb x1 8) <|
      Option.bind (fY0_makes N S x1 (-9) 0) fun t5 =>
      Option.bind (fY0_makes N S x1 (-9) 1) fun t7 =>
      Option.bind (fYs_in S (S.1 15 (Int32.toNatClampNeg x1)) t5 t7) fun t9 =>
      Option.bind (fY0_burnt_L42 N S x1 N t9 0) fun t26 =>
      if t26 = 0 then
        some (.inl (x1, S))
      else
        fY0_burnt_L6 N S n (x1 + 1)
set_option maxHeartbeats 4000000 in
set_option maxRecDepth 100000 in
theorem wY0_burnt_L6 {N : Nat} {S : St}  (hC : CallFix p m c cX10_burnt 4 s args lw_g RX10) (hF : 3 ≤ R.frames) (hL : 67 ≤ R.locals)  {t : (Int32 × St) ⊕ (Unit)} (kr : ∀ r, t = .inl r → ∀ (H : Heap) (locs : List Loc) (ls : Array Slot) (pc : Nat), decode cX10_burnt pc = .ok (.ireturn, 1) → wg LY G r.2 s H locs → W p l e R s m args below meth c H locs 0 0 Q (F0 m pc ls [.int r.1])) (kx : ∀ u, t = .inr u → ∀ (H : Heap) (locs : List Loc) (ls : Array Slot), wg LY G S s H locs → lv_has ls 4 [] → W p l e R s m args below meth c H locs 0 0 Q (F0 m 113 ls [])) : ∀ (n : Nat) (x1 : Int32), fY0_burnt_L6 N S  n x1 = some t → ∀ (H : Heap) (locs : List Loc) (ls : Array Slot), wg LY G S s H locs → lv_has ls 4 [(0, .ref (ad G 0)), (1, .int x1)] → W p l e R s m args below meth c H locs 0 0 Q (F0 m 6 ls []) := by
  have hx := hC.1
  have hb := hC.2.1
  intro n
  induction n with
  | zero =>
    intro _ h
    cases h
  | succ n ih =>
    intro x1 h H locs ls hW hl
    rw [fY0_burnt_L6] at h
    refine lv_iload_n hx hb dX10_burnt_6 rfl (lv_at hl 1 rfl) ?_
    refine lv_aload_n hx hb dX10_burnt_7 rfl (lv_at hl 0 rfl) ?_
    refine gY0_18 hC hW dX10_burnt_8 ?_
    refine lv_icmp_ge (tgt := 113) hx hb dX10_burnt_11 (by decide) (fun q3 => ?_) (fun q3 => ?_)
    · have h := it_p q3 h
      cases h
      exact kx _ rfl _ _ _ hW (lv_sub hl [] rfl)
    · have h := it_n q3 h
      refine lv_aload_n hx hb dX10_burnt_14 rfl (lv_at hl 0 rfl) ?_
      refine gY0_21 hC hW dX10_burnt_15 ?_
      refine lv_iload_n hx hb dX10_burnt_18 rfl (lv_at hl 1 rfl) ?_
      obtain ⟨g4, h⟩ := gd_some h
      refine x_iald hC hW aY15 g4 dX10_burnt_19 ?_
      refine lv_aload_n hx hb dX10_burnt_20 rfl (lv_at hl 0 rfl) ?_
      refine lv_iload_n hx hb dX10_burnt_21 rfl (lv_at hl 1 rfl) ?_
      refine lv_bipush (v := (-9)) hx hb dX10_burnt_22 (by decide) ?_
      refine lv_iconst (v := 0) hx hb dX10_burnt_24 (by decide) ?_
      obtain ⟨t5, e6, h⟩ := bd h
      refine x_goi (x_rv (rest := [.int (S.1 15 (Int32.toNatClampNeg x1))]) hC hW (ctY0_makes e6) (cwV_g hC.2.2.2.2 ml_X10_211 mi_X10_makes md_X10_makes ⟨(Nat.le_trans (Nat.le_of_ble_eq_true rfl) hF), (Nat.le_trans (Nat.le_of_ble_eq_true rfl) hL)⟩) (rcY0 hW) rfl hl.1 rfl (Nat.le_of_ble_eq_true rfl) dX10_burnt_25) hW (fun H locs hW => ?_)
      refine lv_aload_n hx hb dX10_burnt_28 rfl (lv_at hl 0 rfl) ?_
      refine lv_iload_n hx hb dX10_burnt_29 rfl (lv_at hl 1 rfl) ?_
      refine lv_bipush (v := (-9)) hx hb dX10_burnt_30 (by decide) ?_
      refine lv_iconst (v := 1) hx hb dX10_burnt_32 (by decide) ?_
      obtain ⟨t7, e8, h⟩ := bd h
      refine x_goi (x_rv (rest := [.int t5, .int (S.1 15 (Int32.toNatClampNeg x1))]) hC hW (ctY0_makes e8) (cwV_g hC.2.2.2.2 ml_X10_211 mi_X10_makes md_X10_makes ⟨(Nat.le_trans (Nat.le_of_ble_eq_true rfl) hF), (Nat.le_trans (Nat.le_of_ble_eq_true rfl) hL)⟩) (rcY0 hW) rfl hl.1 rfl (Nat.le_of_ble_eq_true rfl) dX10_burnt_33) hW (fun H locs hW => ?_)
      obtain ⟨t9, e10, h⟩ := bd h
      refine x_goi (x_rs (rest := []) hC hW (ctYs_in e10) (cwS_g hC.2.2.2.2 ml_X10_103 ms_X10_in md_X10_in ⟨(Nat.le_trans (Nat.le_of_ble_eq_true rfl) hF), (Nat.le_trans (Nat.le_of_ble_eq_true rfl) hL)⟩) rfl hl.1 rfl (Nat.le_of_ble_eq_true rfl) dX10_burnt_36) hW (fun H locs hW => ?_)
      refine lv_istore_n (lv' := [(2, .int t9), (0, .ref (ad G 0)), (1, .int x1)]) hx hb dX10_burnt_39 rfl hl (by decide) rfl (fun ls hl => ?_)
      refine lv_iconst (v := 0) hx hb dX10_burnt_40 (by decide) ?_
      refine lv_istore_n (lv' := [(3, .int 0), (2, .int t9), (0, .ref (ad G 0)), (1, .int x1)]) hx hb dX10_burnt_41 rfl hl (by decide) rfl (fun ls hl => ?_)
      obtain ⟨t26, e27, h⟩ := bd h
      refine wY0_burnt_L42 hC hF hL  (fun H locs ls hW hl => ?_) _ _ _ e27 _ _ _ hW (lv_sub hl [2, 3, 1, 0] rfl)
      refine lv_iload_n hx hb dX10_burnt_101 rfl (lv_at hl 2 rfl) ?_
      refine lv_if_ne (tgt := 107) hx hb dX10_burnt_102 (by decide) (fun q28 => ?_) (fun q28 => ?_)
      · have h := it_n q28 h
        refine lv_iinc (v := x1 + 1) (lv' := [(1, .int (x1 + 1)), (0, .ref (ad G 0)), (2, .int t26)]) (k := 1) hx hb dX10_burnt_107 hl rfl rfl (by decide) rfl (fun ls hl => ?_)
        refine lv_goto (tgt := 6) hx hb dX10_burnt_110 (by decide) ?_
        exact ih _ h _ _ _ hW (lv_sub hl [1, 0] rfl)
      · have h := it_p q28 h
        refine lv_iload_n hx hb dX10_burnt_105 rfl (lv_at hl 1 rfl) ?_
        cases h
        exact kr _ rfl _ _ _ _ dX10_burnt_106 hW
def fY0_burnt (N : Nat) (S : St)  : Option (Int32 × St) :=
  Option.bind (fY0_setFirst N S) fun t1 =>
  Option.bind (fY0_burnt_L6 N t1 N 0) fun t29 => sm t29 fun u31 =>
  some ((-9), t1)
set_option maxHeartbeats 4000000 in
set_option maxRecDepth 100000 in
theorem wY0_burnt {N : Nat} {S : St}  (hC : CallFix p m c cX10_burnt 4 s args lw_g RX10) (hF : 3 ≤ R.frames) (hL : 67 ≤ R.locals)  {v : Int32} {S' : St} (h : fY0_burnt N S = some (v, S')) (kr : ∀ (H : Heap) (locs : List Loc) (ls : Array Slot) (pc : Nat), decode cX10_burnt pc = .ok (.ireturn, 1) → wg LY G (S') s H locs → W p l e R s m args below meth c H locs 0 0 Q (F0 m pc ls [.int v])) : ∀ (H : Heap) (locs : List Loc) (ls : Array Slot), wg LY G S s H locs → lv_has ls 4 [(0, .ref (ad G 0))] → W p l e R s m args below meth c H locs 0 0 Q (F0 m 0 ls []) := by
  have hx := hC.1
  have hb := hC.2.1
  intro H locs ls hW hl
  unfold fY0_burnt at h
  refine lv_aload_n hx hb dX10_burnt_0 rfl (lv_at hl 0 rfl) ?_
  obtain ⟨t1, e2, h⟩ := bd h
  refine x_gov (x_rv (rest := []) hC hW (ctY0_setFirst e2) (cwV_g hC.2.2.2.2 ml_X10_218 mi_X10_setFirst md_X10_setFirst ⟨(Nat.le_trans (Nat.le_of_ble_eq_true rfl) hF), (Nat.le_trans (Nat.le_of_ble_eq_true rfl) hL)⟩) (rcY0 hW) rfl hl.1 rfl (Nat.le_of_ble_eq_true rfl) dX10_burnt_1) hW (fun H locs hW => ?_)
  refine lv_iconst (v := 0) hx hb dX10_burnt_4 (by decide) ?_
  refine lv_istore_n (lv' := [(1, .int 0), (0, .ref (ad G 0))]) hx hb dX10_burnt_5 rfl hl (by decide) rfl (fun ls hl => ?_)
  obtain ⟨t29, e30, h⟩ := bd h
  refine wY0_burnt_L6 hC hF hL  (fun r er H locs ls pc hd hW => ?_) (fun u31 eu H locs ls hW hl => ?_) _ _ e30 _ _ _ hW (lv_sub hl [1, 0] rfl)
  · rw [er] at h
    have h := sm_l h
    cases h
    exact kr _ _ _ _ hd hW
  · rw [eu] at h
    have h := sm_r h
    refine lv_bipush (v := (-9)) hx hb dX10_burnt_113 (by decide) ?_
    cases h
    exact kr _ _ _ _ dX10_burnt_115 hW
theorem ctY0_burnt {N : Nat} {S : St}   {v : Int32} {S' : St} (h : fY0_burnt N S = some (v, S')) : Met l yX10_burnt (wm yX10_burnt cX10_burnt 4 (some .int)) (rmx 3 67) (pcm LY G S [.ref (ad G 0)]) (qcI LY G S' v) 0 0 G.2.2.2 :=
  x_enter (own := RX10) rfl rfl (Nat.le_of_ble_eq_true rfl) (fun p e s m below meth c ls hC hr hk hW hl => wY0_burnt hC (Nat.le_refl _) (Nat.le_refl _)  h (fun H locs ls pc hd hW => x_reti hC hr hk hW hd) _ _ _ hW hl)
def fY0_lastOf_L5 (N : Nat) (S : St) (x1 : Int32) : Nat → Int32 → Int32 → Option (Int32)
  | 0, _, _ => none
  | n + 1, x2, x3 =>
    if 12 ≤ x3 then
      some x2
    else
      gd (inb x1 8) <|
      gd (inb x1 8) <|
      Option.bind (fYs_has S ((S.1 13 (Int32.toNatClampNeg x1)) ||| (S.1 14 (Int32.toNatClampNeg x1))) x3) fun t4 =>
      Option.bind (α := Int32) (
        if t4 = 0 then
          some x2
        else
          Option.bind (fY0_isThere S x3) fun t10 =>
          if t10 = 0 then
            some x2
          else
            some x3
      ) fun t7 =>
      fY0_lastOf_L5 N S x1 n t7 (x3 + 1)
set_option maxHeartbeats 4000000 in
set_option maxRecDepth 100000 in
theorem wY0_lastOf_L5 {N : Nat} {S : St} {x1 : Int32} (hC : CallFix p m c cX10_lastOf 4 s args lw_g RX10) (hF : 1 ≤ R.frames) (hL : 21 ≤ R.locals)  {t : Int32} (kx : ∀ (H : Heap) (locs : List Loc) (ls : Array Slot), wg LY G S s H locs → lv_has ls 4 [(2, .int t)] → W p l e R s m args below meth c H locs 0 0 Q (F0 m 51 ls [])) : ∀ (n : Nat) (x2 : Int32) (x3 : Int32), fY0_lastOf_L5 N S x1 n x2 x3 = some t → ∀ (H : Heap) (locs : List Loc) (ls : Array Slot), wg LY G S s H locs → lv_has ls 4 [(0, .ref (ad G 0)), (1, .int x1), (2, .int x2), (3, .int x3)] → W p l e R s m args below meth c H locs 0 0 Q (F0 m 5 ls []) := by
  have hx := hC.1
  have hb := hC.2.1
  intro n
  induction n with
  | zero =>
    intro _ _ h
    cases h
  | succ n ih =>
    intro x2 x3 h H locs ls hW hl
    rw [fY0_lastOf_L5] at h
    refine lv_iload_n hx hb dX10_lastOf_5 rfl (lv_at hl 3 rfl) ?_
    refine lv_bipush (v := 12) hx hb dX10_lastOf_6 (by decide) ?_
    refine lv_icmp_ge (tgt := 51) hx hb dX10_lastOf_8 (by decide) (fun q1 => ?_) (fun q1 => ?_)
    · have h := it_p q1 h
      cases h
      exact kx _ _ _ hW (lv_sub hl [2] rfl)
    · have h := it_n q1 h
      refine lv_aload_n hx hb dX10_lastOf_11 rfl (lv_at hl 0 rfl) ?_
      refine gY0_19 hC hW dX10_lastOf_12 ?_
      refine lv_iload_n hx hb dX10_lastOf_15 rfl (lv_at hl 1 rfl) ?_
      obtain ⟨g2, h⟩ := gd_some h
      refine x_iald hC hW aY13 g2 dX10_lastOf_16 ?_
      refine lv_aload_n hx hb dX10_lastOf_17 rfl (lv_at hl 0 rfl) ?_
      refine gY0_20 hC hW dX10_lastOf_18 ?_
      refine lv_iload_n hx hb dX10_lastOf_21 rfl (lv_at hl 1 rfl) ?_
      obtain ⟨g3, h⟩ := gd_some h
      refine x_iald hC hW aY14 g3 dX10_lastOf_22 ?_
      refine lv_ior hx hb dX10_lastOf_23 ?_
      refine lv_iload_n hx hb dX10_lastOf_24 rfl (lv_at hl 3 rfl) ?_
      obtain ⟨t4, e5, h⟩ := bd h
      refine x_goi (x_rs (rest := []) hC hW (ctYs_has e5) (cwS_g hC.2.2.2.2 ml_X10_208 ms_X10_has md_X10_has ⟨(Nat.le_trans (Nat.le_of_ble_eq_true rfl) hF), (Nat.le_trans (Nat.le_of_ble_eq_true rfl) hL)⟩) rfl hl.1 rfl (Nat.le_of_ble_eq_true rfl) dX10_lastOf_25) hW (fun H locs hW => ?_)
      obtain ⟨t7, e8, h⟩ := bd h
      have K6 : ∀ (H : Heap) (locs : List Loc) (ls : Array Slot), wg LY G S s H locs → lv_has ls 4 [(0, .ref (ad G 0)), (1, .int x1), (3, .int x3)] → W p l e R s m args below meth c H locs 0 0 Q (F0 m 44 ls [.int t7]) := by
        intro H locs ls hW hl
        refine lv_istore_n (lv' := [(2, .int t7), (0, .ref (ad G 0)), (1, .int x1), (3, .int x3)]) hx hb dX10_lastOf_44 rfl hl (by decide) rfl (fun ls hl => ?_)
        refine lv_iinc (v := x3 + 1) (lv' := [(3, .int (x3 + 1)), (2, .int t7), (0, .ref (ad G 0)), (1, .int x1)]) (k := 3) hx hb dX10_lastOf_45 hl rfl rfl (by decide) rfl (fun ls hl => ?_)
        refine lv_goto (tgt := 5) hx hb dX10_lastOf_48 (by decide) ?_
        exact ih _ _ h _ _ _ hW (lv_sub hl [2, 3, 1, 0] rfl)
      clear h
      have h := e8
      clear e8
      refine lv_if_eq (tgt := 43) hx hb dX10_lastOf_28 (by decide) (fun q9 => ?_) (fun q9 => ?_)
      · have h := it_p q9 h
        refine lv_iload_n hx hb dX10_lastOf_43 rfl (lv_at hl 2 rfl) ?_
        cases h
        exact K6 _ _ _ hW (lv_sub hl [0, 1, 3] rfl)
      · have h := it_n q9 h
        refine lv_aload_n hx hb dX10_lastOf_31 rfl (lv_at hl 0 rfl) ?_
        refine lv_iload_n hx hb dX10_lastOf_32 rfl (lv_at hl 3 rfl) ?_
        obtain ⟨t10, e11, h⟩ := bd h
        refine x_goi (x_rv (rest := []) hC hW (ctY0_isThere e11) (cwV_g hC.2.2.2.2 ml_X10_193 mi_X10_isThere md_X10_isThere ⟨(Nat.le_trans (Nat.le_of_ble_eq_true rfl) hF), (Nat.le_trans (Nat.le_of_ble_eq_true rfl) hL)⟩) (rcY0 hW) rfl hl.1 rfl (Nat.le_of_ble_eq_true rfl) dX10_lastOf_33) hW (fun H locs hW => ?_)
        refine lv_if_eq (tgt := 43) hx hb dX10_lastOf_36 (by decide) (fun q12 => ?_) (fun q12 => ?_)
        · have h := it_p q12 h
          refine lv_iload_n hx hb dX10_lastOf_43 rfl (lv_at hl 2 rfl) ?_
          cases h
          exact K6 _ _ _ hW (lv_sub hl [0, 1, 3] rfl)
        · have h := it_n q12 h
          refine lv_iload_n hx hb dX10_lastOf_39 rfl (lv_at hl 3 rfl) ?_
          refine lv_goto (tgt := 44) hx hb dX10_lastOf_40 (by decide) ?_
          cases h
          exact K6 _ _ _ hW (lv_sub hl [0, 1, 3] rfl)
def fY0_lastOf (N : Nat) (S : St) (x1 : Int32) : Option (Int32) :=
  Option.bind (fY0_lastOf_L5 N S x1 N (-9) 0) fun t13 =>
  some t13
set_option maxHeartbeats 4000000 in
set_option maxRecDepth 100000 in
theorem wY0_lastOf {N : Nat} {S : St} {x1 : Int32} (hC : CallFix p m c cX10_lastOf 4 s args lw_g RX10) (hF : 1 ≤ R.frames) (hL : 21 ≤ R.locals)  {v : Int32} (h : fY0_lastOf N S x1 = some v) (kr : ∀ (H : Heap) (locs : List Loc) (ls : Array Slot) (pc : Nat), decode cX10_lastOf pc = .ok (.ireturn, 1) → wg LY G S s H locs → W p l e R s m args below meth c H locs 0 0 Q (F0 m pc ls [.int v])) : ∀ (H : Heap) (locs : List Loc) (ls : Array Slot), wg LY G S s H locs → lv_has ls 4 [(0, .ref (ad G 0)), (1, .int x1)] → W p l e R s m args below meth c H locs 0 0 Q (F0 m 0 ls []) := by
  have hx := hC.1
  have hb := hC.2.1
  intro H locs ls hW hl
  unfold fY0_lastOf at h
  refine lv_bipush (v := (-9)) hx hb dX10_lastOf_0 (by decide) ?_
  refine lv_istore_n (lv' := [(2, .int (-9)), (0, .ref (ad G 0)), (1, .int x1)]) hx hb dX10_lastOf_2 rfl hl (by decide) rfl (fun ls hl => ?_)
  refine lv_iconst (v := 0) hx hb dX10_lastOf_3 (by decide) ?_
  refine lv_istore_n (lv' := [(3, .int 0), (2, .int (-9)), (0, .ref (ad G 0)), (1, .int x1)]) hx hb dX10_lastOf_4 rfl hl (by decide) rfl (fun ls hl => ?_)
  obtain ⟨t13, e14, h⟩ := bd h
  refine wY0_lastOf_L5 hC hF hL  (fun H locs ls hW hl => ?_) _ _ _ e14 _ _ _ hW (lv_sub hl [2, 3, 1, 0] rfl)
  refine lv_iload_n hx hb dX10_lastOf_51 rfl (lv_at hl 0 rfl) ?_
  cases h
  exact kr _ _ _ _ dX10_lastOf_52 hW
theorem ctY0_lastOf {N : Nat} {S : St} {x1 : Int32}  {v : Int32} (h : fY0_lastOf N S x1 = some v) : Met l yX10_lastOf (wm yX10_lastOf cX10_lastOf 4 (some .int)) (rmx 1 21) (pcm LY G S [.ref (ad G 0), .int x1]) (qcI LY G S v) 0 0 G.2.2.2 :=
  x_enter (own := RX10) rfl rfl (Nat.le_of_ble_eq_true rfl) (fun p e s m below meth c ls hC hr hk hW hl => wY0_lastOf hC (Nat.le_refl _) (Nat.le_refl _)  h (fun H locs ls pc hd hW => x_reti hC hr hk hW hd) _ _ _ hW hl)
def fY0_begin_L12 (N : Nat) (x1 : Int32) (x2 : Int32) : Nat → St → Int32 → Option (St)
  | 0, _, _ => none
  | n + 1, S, x3 =>
    if 12 ≤ x3 then
      some S
    else
      gd (inb x3 12) <|
      nx (p1 S 22 (Int32.toNatClampNeg x3) (-1)) fun s7 =>
      Option.bind (fY0_isThere s7 x3) fun t9 =>
      Option.bind (α := St) (
        if t9 = 0 then
          some s7
        else
          gd (inb (s7.1 0 27) 12) <|
          nx (p1 s7 20 (Int32.toNatClampNeg (s7.1 0 27)) x3) fun s16 =>
          nx (p1 s16 0 27 ((s16.1 0 27) + 1)) fun s18 =>
          some s18
      ) fun t12 =>
      fY0_begin_L12 N x1 x2 n t12 (x3 + 1)
set_option maxHeartbeats 4000000 in
set_option maxRecDepth 100000 in
theorem wY0_begin_L12 {N : Nat} {x1 : Int32} {x2 : Int32} (hC : CallFix p m c cX10_begin 4 s args lw_g RX10) (hF : 5 ≤ R.frames) (hL : 120 ≤ R.locals)  {t : St} (kx : ∀ (H : Heap) (locs : List Loc) (ls : Array Slot), wg LY G t s H locs → lv_has ls 4 [(0, .ref (ad G 0)), (1, .int x1), (2, .int x2)] → W p l e R s m args below meth c H locs 0 0 Q (F0 m 59 ls [])) : ∀ (n : Nat) (S : St) (x3 : Int32), fY0_begin_L12 N x1 x2 n S x3 = some t → ∀ (H : Heap) (locs : List Loc) (ls : Array Slot), wg LY G S s H locs → lv_has ls 4 [(0, .ref (ad G 0)), (1, .int x1), (2, .int x2), (3, .int x3)] → W p l e R s m args below meth c H locs 0 0 Q (F0 m 12 ls []) := by
  have hx := hC.1
  have hb := hC.2.1
  intro n
  induction n with
  | zero =>
    intro _ _ h
    cases h
  | succ n ih =>
    intro S x3 h H locs ls hW hl
    rw [fY0_begin_L12] at h
    refine lv_iload_n hx hb dX10_begin_12 rfl (lv_at hl 3 rfl) ?_
    refine lv_bipush (v := 12) hx hb dX10_begin_13 (by decide) ?_
    refine lv_icmp_ge (tgt := 59) hx hb dX10_begin_15 (by decide) (fun q5 => ?_) (fun q5 => ?_)
    · have h := it_p q5 h
      cases h
      exact kx _ _ _ hW (lv_sub hl [0, 1, 2] rfl)
    · have h := it_n q5 h
      refine lv_aload_n hx hb dX10_begin_18 rfl (lv_at hl 0 rfl) ?_
      refine gY0_30 hC hW dX10_begin_19 ?_
      refine lv_iload_n hx hb dX10_begin_22 rfl (lv_at hl 3 rfl) ?_
      refine lv_iconst (v := (-1)) hx hb dX10_begin_23 (by decide) ?_
      obtain ⟨g6, h⟩ := gd_some h
      refine x_iast hC hW aY22 g6 dX10_begin_24 (fun H locs hW => ?_)
      obtain ⟨s7, e8, h⟩ := nx_some h
      rw [← e8] at hW
      refine lv_aload_n hx hb dX10_begin_25 rfl (lv_at hl 0 rfl) ?_
      refine lv_iload_n hx hb dX10_begin_26 rfl (lv_at hl 3 rfl) ?_
      obtain ⟨t9, e10, h⟩ := bd h
      refine x_goi (x_rv (rest := []) hC hW (ctY0_isThere e10) (cwV_g hC.2.2.2.2 ml_X10_193 mi_X10_isThere md_X10_isThere ⟨(Nat.le_trans (Nat.le_of_ble_eq_true rfl) hF), (Nat.le_trans (Nat.le_of_ble_eq_true rfl) hL)⟩) (rcY0 hW) rfl hl.1 rfl (Nat.le_of_ble_eq_true rfl) dX10_begin_27) hW (fun H locs hW => ?_)
      obtain ⟨t12, e13, h⟩ := bd h
      have K11 : ∀ (H : Heap) (locs : List Loc) (ls : Array Slot), wg LY G t12 s H locs → lv_has ls 4 [(0, .ref (ad G 0)), (1, .int x1), (2, .int x2), (3, .int x3)] → W p l e R s m args below meth c H locs 0 0 Q (F0 m 53 ls []) := by
        intro H locs ls hW hl
        refine lv_iinc (v := x3 + 1) (lv' := [(3, .int (x3 + 1)), (0, .ref (ad G 0)), (1, .int x1), (2, .int x2)]) (k := 3) hx hb dX10_begin_53 hl rfl rfl (by decide) rfl (fun ls hl => ?_)
        refine lv_goto (tgt := 12) hx hb dX10_begin_56 (by decide) ?_
        exact ih _ _ h _ _ _ hW (lv_sub hl [1, 2, 3, 0] rfl)
      clear h
      have h := e13
      clear e13
      refine lv_if_eq (tgt := 53) hx hb dX10_begin_30 (by decide) (fun q14 => ?_) (fun q14 => ?_)
      · have h := it_p q14 h
        cases h
        exact K11 _ _ _ hW (lv_sub hl [0, 1, 2, 3] rfl)
      · have h := it_n q14 h
        refine lv_aload_n hx hb dX10_begin_33 rfl (lv_at hl 0 rfl) ?_
        refine gY0_28 hC hW dX10_begin_34 ?_
        refine lv_aload_n hx hb dX10_begin_37 rfl (lv_at hl 0 rfl) ?_
        refine gY0_27 hC hW dX10_begin_38 ?_
        refine lv_iload_n hx hb dX10_begin_41 rfl (lv_at hl 3 rfl) ?_
        obtain ⟨g15, h⟩ := gd_some h
        refine x_iast hC hW aY20 g15 dX10_begin_42 (fun H locs hW => ?_)
        obtain ⟨s16, e17, h⟩ := nx_some h
        rw [← e17] at hW
        refine lv_aload_n hx hb dX10_begin_43 rfl (lv_at hl 0 rfl) ?_
        refine lv_dup hx hb dX10_begin_44 rfl ?_
        refine gY0_27 hC hW dX10_begin_45 ?_
        refine lv_iconst (v := 1) hx hb dX10_begin_48 (by decide) ?_
        refine lv_iadd hx hb dX10_begin_49 ?_
        refine pY0_27 hC hW dX10_begin_50 (fun H locs hW => ?_)
        obtain ⟨s18, e19, h⟩ := nx_some h
        rw [← e19] at hW
        cases h
        exact K11 _ _ _ hW (lv_sub hl [0, 1, 2, 3] rfl)
def fY0_begin_L98 (N : Nat) (x2 : Int32) : Nat → St → Int32 → Option (St)
  | 0, _, _ => none
  | n + 1, S, x3 =>
    if (S.1 0 18) ≤ x3 then
      some S
    else
      Option.bind (α := Int32) (
        if (S.1 0 35) = 0 then
          Option.bind (fYs_has S x2 x3) fun t42 =>
          if t42 = 0 then
            Option.bind (fY0_lastOf N S x3) fun t45 =>
            if 0 ≤ t45 then
              some 0
            else
              gd (inb x3 8) <|
              if (S.1 15 (Int32.toNatClampNeg x3)) = 0 then
                some 0
              else
                some 1
          else
            some 0
        else
          some 1
      ) fun t39 =>
      gd (isb t39) <|
      nx (p1 S 0 35 t39) fun s51 =>
      fY0_begin_L98 N x2 n s51 (x3 + 1)
set_option maxHeartbeats 4000000 in
set_option maxRecDepth 100000 in
theorem wY0_begin_L98 {N : Nat} {x2 : Int32} (hC : CallFix p m c cX10_begin 4 s args lw_g RX10) (hF : 5 ≤ R.frames) (hL : 120 ≤ R.locals)  {t : St} (kx : ∀ (H : Heap) (locs : List Loc) (ls : Array Slot), wg LY G t s H locs → lv_has ls 4 [] → W p l e R s m args below meth c H locs 0 0 Q (F0 m 153 ls [])) : ∀ (n : Nat) (S : St) (x3 : Int32), fY0_begin_L98 N x2 n S x3 = some t → ∀ (H : Heap) (locs : List Loc) (ls : Array Slot), wg LY G S s H locs → lv_has ls 4 [(0, .ref (ad G 0)), (2, .int x2), (3, .int x3)] → W p l e R s m args below meth c H locs 0 0 Q (F0 m 98 ls []) := by
  have hx := hC.1
  have hb := hC.2.1
  intro n
  induction n with
  | zero =>
    intro _ _ h
    cases h
  | succ n ih =>
    intro S x3 h H locs ls hW hl
    rw [fY0_begin_L98] at h
    refine lv_iload_n hx hb dX10_begin_98 rfl (lv_at hl 2 rfl) ?_
    refine lv_aload_n hx hb dX10_begin_99 rfl (lv_at hl 0 rfl) ?_
    refine gY0_18 hC hW dX10_begin_100 ?_
    refine lv_icmp_ge (tgt := 153) hx hb dX10_begin_103 (by decide) (fun q37 => ?_) (fun q37 => ?_)
    · have h := it_p q37 h
      cases h
      exact kx _ _ _ hW (lv_sub hl [] rfl)
    · have h := it_n q37 h
      refine lv_aload_n hx hb dX10_begin_106 rfl (lv_at hl 0 rfl) ?_
      refine lv_aload_n hx hb dX10_begin_107 rfl (lv_at hl 0 rfl) ?_
      refine gY0_35 hC hW dX10_begin_108 ?_
      obtain ⟨t39, e40, h⟩ := bd h
      have K38 : ∀ (H : Heap) (locs : List Loc) (ls : Array Slot), wg LY G S s H locs → lv_has ls 4 [(0, .ref (ad G 0)), (2, .int x2), (3, .int x3)] → W p l e R s m args below meth c H locs 0 0 Q (F0 m 144 ls [.int t39, .ref (ad G 0)]) := by
        intro H locs ls hW hl
        obtain ⟨g50, h⟩ := gd_some h
        refine pY0_35 hC hW g50 dX10_begin_144 (fun H locs hW => ?_)
        obtain ⟨s51, e52, h⟩ := nx_some h
        rw [← e52] at hW
        refine lv_iinc (v := x3 + 1) (lv' := [(3, .int (x3 + 1)), (0, .ref (ad G 0)), (2, .int x2)]) (k := 2) hx hb dX10_begin_147 hl rfl rfl (by decide) rfl (fun ls hl => ?_)
        refine lv_goto (tgt := 98) hx hb dX10_begin_150 (by decide) ?_
        exact ih _ _ h _ _ _ hW (lv_sub hl [1, 2, 0] rfl)
      clear h
      have h := e40
      clear e40
      refine lv_if_ne (tgt := 139) hx hb dX10_begin_111 (by decide) (fun q41 => ?_) (fun q41 => ?_)
      · have h := it_n q41 h
        refine lv_iconst (v := 1) hx hb dX10_begin_139 (by decide) ?_
        refine lv_goto (tgt := 144) hx hb dX10_begin_140 (by decide) ?_
        cases h
        exact K38 _ _ _ hW (lv_sub hl [0, 1, 2] rfl)
      · have h := it_p q41 h
        refine lv_iload_n hx hb dX10_begin_114 rfl (lv_at hl 1 rfl) ?_
        refine lv_iload_n hx hb dX10_begin_115 rfl (lv_at hl 2 rfl) ?_
        obtain ⟨t42, e43, h⟩ := bd h
        refine x_goi (x_rs (rest := [.ref (ad G 0)]) hC hW (ctYs_has e43) (cwS_g hC.2.2.2.2 ml_X10_208 ms_X10_has md_X10_has ⟨(Nat.le_trans (Nat.le_of_ble_eq_true rfl) hF), (Nat.le_trans (Nat.le_of_ble_eq_true rfl) hL)⟩) rfl hl.1 rfl (Nat.le_of_ble_eq_true rfl) dX10_begin_116) hW (fun H locs hW => ?_)
        refine lv_if_ne (tgt := 143) hx hb dX10_begin_119 (by decide) (fun q44 => ?_) (fun q44 => ?_)
        · have h := it_n q44 h
          refine lv_iconst (v := 0) hx hb dX10_begin_143 (by decide) ?_
          cases h
          exact K38 _ _ _ hW (lv_sub hl [0, 1, 2] rfl)
        · have h := it_p q44 h
          refine lv_aload_n hx hb dX10_begin_122 rfl (lv_at hl 0 rfl) ?_
          refine lv_iload_n hx hb dX10_begin_123 rfl (lv_at hl 2 rfl) ?_
          obtain ⟨t45, e46, h⟩ := bd h
          refine x_goi (x_rv (rest := [.ref (ad G 0)]) hC hW (ctY0_lastOf e46) (cwV_g hC.2.2.2.2 ml_X10_253 mi_X10_lastOf md_X10_lastOf ⟨(Nat.le_trans (Nat.le_of_ble_eq_true rfl) hF), (Nat.le_trans (Nat.le_of_ble_eq_true rfl) hL)⟩) (rcY0 hW) rfl hl.1 rfl (Nat.le_of_ble_eq_true rfl) dX10_begin_124) hW (fun H locs hW => ?_)
          refine lv_if_ge (tgt := 143) hx hb dX10_begin_127 (by decide) (fun q47 => ?_) (fun q47 => ?_)
          · have h := it_p q47 h
            refine lv_iconst (v := 0) hx hb dX10_begin_143 (by decide) ?_
            cases h
            exact K38 _ _ _ hW (lv_sub hl [0, 1, 2] rfl)
          · have h := it_n q47 h
            refine lv_aload_n hx hb dX10_begin_130 rfl (lv_at hl 0 rfl) ?_
            refine gY0_21 hC hW dX10_begin_131 ?_
            refine lv_iload_n hx hb dX10_begin_134 rfl (lv_at hl 2 rfl) ?_
            obtain ⟨g48, h⟩ := gd_some h
            refine x_iald hC hW aY15 g48 dX10_begin_135 ?_
            refine lv_if_eq (tgt := 143) hx hb dX10_begin_136 (by decide) (fun q49 => ?_) (fun q49 => ?_)
            · have h := it_p q49 h
              refine lv_iconst (v := 0) hx hb dX10_begin_143 (by decide) ?_
              cases h
              exact K38 _ _ _ hW (lv_sub hl [0, 1, 2] rfl)
            · have h := it_n q49 h
              refine lv_iconst (v := 1) hx hb dX10_begin_139 (by decide) ?_
              refine lv_goto (tgt := 144) hx hb dX10_begin_140 (by decide) ?_
              cases h
              exact K38 _ _ _ hW (lv_sub hl [0, 1, 2] rfl)
def fY0_begin (N : Nat) (S : St) (x1 : Int32) (x2 : Int32) : Option (St) :=
  Option.bind (fY0_narrow N S x2) fun t1 =>
  nx (p1 t1 0 27 0) fun s3 =>
  Option.bind (fY0_begin_L12 N x1 x2 N s3 0) fun t20 =>
  nx (p1 t20 0 31 0) fun s22 =>
  gd (inb 0 12) <|
  nx (p1 s22 21 (Int32.toNatClampNeg 0) 0) fun s25 =>
  nx (p1 s25 0 32 0) fun s27 =>
  nx (p1 s27 0 33 x1) fun s29 =>
  nx (p1 s29 0 34 x2) fun s31 =>
  nx (p1 s31 0 36 0) fun s33 =>
  nx (p1 s33 0 35 0) fun s35 =>
  Option.bind (fY0_begin_L98 N x2 N s35 0) fun t53 =>
  some t53
set_option maxHeartbeats 4000000 in
set_option maxRecDepth 100000 in
theorem wY0_begin {N : Nat} {S : St} {x1 : Int32} {x2 : Int32} (hC : CallFix p m c cX10_begin 4 s args lw_g RX10) (hF : 5 ≤ R.frames) (hL : 120 ≤ R.locals)  {S' : St} (h : fY0_begin N S x1 x2 = some (S')) (kr : ∀ (H : Heap) (locs : List Loc) (ls : Array Slot) (pc : Nat), decode cX10_begin pc = .ok (.return_, 1) → wg LY G (S') s H locs → W p l e R s m args below meth c H locs 0 0 Q (F0 m pc ls [])) : ∀ (H : Heap) (locs : List Loc) (ls : Array Slot), wg LY G S s H locs → lv_has ls 4 [(0, .ref (ad G 0)), (1, .int x1), (2, .int x2)] → W p l e R s m args below meth c H locs 0 0 Q (F0 m 0 ls []) := by
  have hx := hC.1
  have hb := hC.2.1
  intro H locs ls hW hl
  unfold fY0_begin at h
  refine lv_aload_n hx hb dX10_begin_0 rfl (lv_at hl 0 rfl) ?_
  refine lv_iload_n hx hb dX10_begin_1 rfl (lv_at hl 2 rfl) ?_
  obtain ⟨t1, e2, h⟩ := bd h
  refine x_gov (x_rv (rest := []) hC hW (ctY0_narrow e2) (cwV_g hC.2.2.2.2 ml_X10_224 mi_X10_narrow md_X10_narrow ⟨(Nat.le_trans (Nat.le_of_ble_eq_true rfl) hF), (Nat.le_trans (Nat.le_of_ble_eq_true rfl) hL)⟩) (rcY0 hW) rfl hl.1 rfl (Nat.le_of_ble_eq_true rfl) dX10_begin_2) hW (fun H locs hW => ?_)
  refine lv_aload_n hx hb dX10_begin_5 rfl (lv_at hl 0 rfl) ?_
  refine lv_iconst (v := 0) hx hb dX10_begin_6 (by decide) ?_
  refine pY0_27 hC hW dX10_begin_7 (fun H locs hW => ?_)
  obtain ⟨s3, e4, h⟩ := nx_some h
  rw [← e4] at hW
  refine lv_iconst (v := 0) hx hb dX10_begin_10 (by decide) ?_
  refine lv_istore_n (lv' := [(3, .int 0), (0, .ref (ad G 0)), (1, .int x1), (2, .int x2)]) hx hb dX10_begin_11 rfl hl (by decide) rfl (fun ls hl => ?_)
  obtain ⟨t20, e21, h⟩ := bd h
  refine wY0_begin_L12 hC hF hL  (fun H locs ls hW hl => ?_) _ _ _ e21 _ _ _ hW (lv_sub hl [1, 2, 3, 0] rfl)
  refine lv_aload_n hx hb dX10_begin_59 rfl (lv_at hl 0 rfl) ?_
  refine lv_iconst (v := 0) hx hb dX10_begin_60 (by decide) ?_
  refine pY0_31 hC hW dX10_begin_61 (fun H locs hW => ?_)
  obtain ⟨s22, e23, h⟩ := nx_some h
  rw [← e23] at hW
  refine lv_aload_n hx hb dX10_begin_64 rfl (lv_at hl 0 rfl) ?_
  refine gY0_29 hC hW dX10_begin_65 ?_
  refine lv_iconst (v := 0) hx hb dX10_begin_68 (by decide) ?_
  refine lv_iconst (v := 0) hx hb dX10_begin_69 (by decide) ?_
  obtain ⟨g24, h⟩ := gd_some h
  refine x_iast hC hW aY21 g24 dX10_begin_70 (fun H locs hW => ?_)
  obtain ⟨s25, e26, h⟩ := nx_some h
  rw [← e26] at hW
  refine lv_aload_n hx hb dX10_begin_71 rfl (lv_at hl 0 rfl) ?_
  refine lv_iconst (v := 0) hx hb dX10_begin_72 (by decide) ?_
  refine pY0_32 hC hW dX10_begin_73 (fun H locs hW => ?_)
  obtain ⟨s27, e28, h⟩ := nx_some h
  rw [← e28] at hW
  refine lv_aload_n hx hb dX10_begin_76 rfl (lv_at hl 0 rfl) ?_
  refine lv_iload_n hx hb dX10_begin_77 rfl (lv_at hl 1 rfl) ?_
  refine pY0_33 hC hW dX10_begin_78 (fun H locs hW => ?_)
  obtain ⟨s29, e30, h⟩ := nx_some h
  rw [← e30] at hW
  refine lv_aload_n hx hb dX10_begin_81 rfl (lv_at hl 0 rfl) ?_
  refine lv_iload_n hx hb dX10_begin_82 rfl (lv_at hl 2 rfl) ?_
  refine pY0_34 hC hW dX10_begin_83 (fun H locs hW => ?_)
  obtain ⟨s31, e32, h⟩ := nx_some h
  rw [← e32] at hW
  refine lv_aload_n hx hb dX10_begin_86 rfl (lv_at hl 0 rfl) ?_
  refine lv_iconst (v := 0) hx hb dX10_begin_87 (by decide) ?_
  refine pY0_36 hC hW rfl dX10_begin_88 (fun H locs hW => ?_)
  obtain ⟨s33, e34, h⟩ := nx_some h
  rw [← e34] at hW
  refine lv_aload_n hx hb dX10_begin_91 rfl (lv_at hl 0 rfl) ?_
  refine lv_iconst (v := 0) hx hb dX10_begin_92 (by decide) ?_
  refine pY0_35 hC hW rfl dX10_begin_93 (fun H locs hW => ?_)
  obtain ⟨s35, e36, h⟩ := nx_some h
  rw [← e36] at hW
  refine lv_iconst (v := 0) hx hb dX10_begin_96 (by decide) ?_
  refine lv_istore_n (lv' := [(3, .int 0), (0, .ref (ad G 0)), (1, .int x1), (2, .int x2)]) hx hb dX10_begin_97 rfl hl (by decide) rfl (fun ls hl => ?_)
  obtain ⟨t53, e54, h⟩ := bd h
  refine wY0_begin_L98 hC hF hL  (fun H locs ls hW hl => ?_) _ _ _ e54 _ _ _ hW (lv_sub hl [1, 3, 0] rfl)
  cases h
  exact kr _ _ _ _ dX10_begin_153 hW
theorem ctY0_begin {N : Nat} {S : St} {x1 : Int32} {x2 : Int32}  {S' : St} (h : fY0_begin N S x1 x2 = some (S')) : Met l yX10_begin (wm yX10_begin cX10_begin 4 none) (rmx 5 120) (pcm LY G S [.ref (ad G 0), .int x1, .int x2]) (qcV LY G S') 0 0 G.2.2.2 :=
  x_enter (own := RX10) rfl rfl (Nat.le_of_ble_eq_true rfl) (fun p e s m below meth c ls hC hr hk hW hl => wY0_begin hC (Nat.le_refl _) (Nat.le_refl _)  h (fun H locs ls pc hd hW => x_retv hC hr hk hW hd) _ _ _ hW hl)
def fY0_sumOf_L4 (N : Nat) (S : St) (x1 : Int32) : Nat → Int32 → Int32 → Option (Int32)
  | 0, _, _ => none
  | n + 1, x2, x3 =>
    if 12 ≤ x3 then
      some x2
    else
      Option.bind (fY0_isThere S x3) fun t2 =>
      Option.bind (α := Int32) (
        if t2 = 0 then
          some 0
        else
          gd (inb x3 12) <|
          some (S.1 22 (Int32.toNatClampNeg x3))
      ) fun t5 =>
      gd (inb x1 8) <|
      Option.bind (fYs_has S (S.1 13 (Int32.toNatClampNeg x1)) x3) fun t10 =>
      Option.bind (α := Int32) (
        if t10 = 0 then
          gd (inb x1 8) <|
          Option.bind (fYs_has S (S.1 14 (Int32.toNatClampNeg x1)) x3) fun t17 =>
          if t17 = 0 then
            some 0
          else
            some (-t5)
        else
          some t5
      ) fun t13 =>
      fY0_sumOf_L4 N S x1 n (x2 + t13) (x3 + 1)
set_option maxHeartbeats 4000000 in
set_option maxRecDepth 100000 in
theorem wY0_sumOf_L4 {N : Nat} {S : St} {x1 : Int32} (hC : CallFix p m c cX10_sumOf 5 s args lw_g RX10) (hF : 1 ≤ R.frames) (hL : 21 ≤ R.locals)  {t : Int32} (kx : ∀ (H : Heap) (locs : List Loc) (ls : Array Slot), wg LY G S s H locs → lv_has ls 5 [(2, .int t)] → W p l e R s m args below meth c H locs 0 0 Q (F0 m 77 ls [])) : ∀ (n : Nat) (x2 : Int32) (x3 : Int32), fY0_sumOf_L4 N S x1 n x2 x3 = some t → ∀ (H : Heap) (locs : List Loc) (ls : Array Slot), wg LY G S s H locs → lv_has ls 5 [(0, .ref (ad G 0)), (1, .int x1), (2, .int x2), (3, .int x3)] → W p l e R s m args below meth c H locs 0 0 Q (F0 m 4 ls []) := by
  have hx := hC.1
  have hb := hC.2.1
  intro n
  induction n with
  | zero =>
    intro _ _ h
    cases h
  | succ n ih =>
    intro x2 x3 h H locs ls hW hl
    rw [fY0_sumOf_L4] at h
    refine lv_iload_n hx hb dX10_sumOf_4 rfl (lv_at hl 3 rfl) ?_
    refine lv_bipush (v := 12) hx hb dX10_sumOf_5 (by decide) ?_
    refine lv_icmp_ge (tgt := 77) hx hb dX10_sumOf_7 (by decide) (fun q1 => ?_) (fun q1 => ?_)
    · have h := it_p q1 h
      cases h
      exact kx _ _ _ hW (lv_sub hl [2] rfl)
    · have h := it_n q1 h
      refine lv_aload_n hx hb dX10_sumOf_10 rfl (lv_at hl 0 rfl) ?_
      refine lv_iload_n hx hb dX10_sumOf_11 rfl (lv_at hl 3 rfl) ?_
      obtain ⟨t2, e3, h⟩ := bd h
      refine x_goi (x_rv (rest := []) hC hW (ctY0_isThere e3) (cwV_g hC.2.2.2.2 ml_X10_193 mi_X10_isThere md_X10_isThere ⟨(Nat.le_trans (Nat.le_of_ble_eq_true rfl) hF), (Nat.le_trans (Nat.le_of_ble_eq_true rfl) hL)⟩) (rcY0 hW) rfl hl.1 rfl (Nat.le_of_ble_eq_true rfl) dX10_sumOf_12) hW (fun H locs hW => ?_)
      obtain ⟨t5, e6, h⟩ := bd h
      have K4 : ∀ (H : Heap) (locs : List Loc) (ls : Array Slot), wg LY G S s H locs → lv_has ls 5 [(0, .ref (ad G 0)), (1, .int x1), (2, .int x2), (3, .int x3)] → W p l e R s m args below meth c H locs 0 0 Q (F0 m 28 ls [.int t5]) := by
        intro H locs ls hW hl
        refine lv_istore (lv' := [(4, .int t5), (0, .ref (ad G 0)), (1, .int x1), (2, .int x2), (3, .int x3)]) hx hb dX10_sumOf_28 hl (by decide) rfl (fun ls hl => ?_)
        refine lv_iload_n hx hb dX10_sumOf_30 rfl (lv_at hl 3 rfl) ?_
        refine lv_aload_n hx hb dX10_sumOf_31 rfl (lv_at hl 1 rfl) ?_
        refine gY0_19 hC hW dX10_sumOf_32 ?_
        refine lv_iload_n hx hb dX10_sumOf_35 rfl (lv_at hl 2 rfl) ?_
        obtain ⟨g9, h⟩ := gd_some h
        refine x_iald hC hW aY13 g9 dX10_sumOf_36 ?_
        refine lv_iload_n hx hb dX10_sumOf_37 rfl (lv_at hl 4 rfl) ?_
        obtain ⟨t10, e11, h⟩ := bd h
        refine x_goi (x_rs (rest := [.int x2]) hC hW (ctYs_has e11) (cwS_g hC.2.2.2.2 ml_X10_208 ms_X10_has md_X10_has ⟨(Nat.le_trans (Nat.le_of_ble_eq_true rfl) hF), (Nat.le_trans (Nat.le_of_ble_eq_true rfl) hL)⟩) rfl hl.1 rfl (Nat.le_of_ble_eq_true rfl) dX10_sumOf_38) hW (fun H locs hW => ?_)
        obtain ⟨t13, e14, h⟩ := bd h
        have K12 : ∀ (H : Heap) (locs : List Loc) (ls : Array Slot), wg LY G S s H locs → lv_has ls 5 [(0, .ref (ad G 0)), (1, .int x1), (3, .int x3)] → W p l e R s m args below meth c H locs 0 0 Q (F0 m 69 ls [.int t13, .int x2]) := by
          intro H locs ls hW hl
          refine lv_iadd hx hb dX10_sumOf_69 ?_
          refine lv_istore_n (lv' := [(2, .int (x2 + t13)), (0, .ref (ad G 0)), (1, .int x1), (3, .int x3)]) hx hb dX10_sumOf_70 rfl hl (by decide) rfl (fun ls hl => ?_)
          refine lv_iinc (v := x3 + 1) (lv' := [(3, .int (x3 + 1)), (2, .int (x2 + t13)), (0, .ref (ad G 0)), (1, .int x1)]) (k := 3) hx hb dX10_sumOf_71 hl rfl rfl (by decide) rfl (fun ls hl => ?_)
          refine lv_goto (tgt := 4) hx hb dX10_sumOf_74 (by decide) ?_
          exact ih _ _ h _ _ _ hW (lv_sub hl [2, 3, 1, 0] rfl)
        clear h
        have h := e14
        clear e14
        refine lv_if_eq (tgt := 49) hx hb dX10_sumOf_41 (by decide) (fun q15 => ?_) (fun q15 => ?_)
        · have h := it_p q15 h
          refine lv_aload_n hx hb dX10_sumOf_49 rfl (lv_at hl 1 rfl) ?_
          refine gY0_20 hC hW dX10_sumOf_50 ?_
          refine lv_iload_n hx hb dX10_sumOf_53 rfl (lv_at hl 2 rfl) ?_
          obtain ⟨g16, h⟩ := gd_some h
          refine x_iald hC hW aY14 g16 dX10_sumOf_54 ?_
          refine lv_iload_n hx hb dX10_sumOf_55 rfl (lv_at hl 4 rfl) ?_
          obtain ⟨t17, e18, h⟩ := bd h
          refine x_goi (x_rs (rest := [.int x2]) hC hW (ctYs_has e18) (cwS_g hC.2.2.2.2 ml_X10_208 ms_X10_has md_X10_has ⟨(Nat.le_trans (Nat.le_of_ble_eq_true rfl) hF), (Nat.le_trans (Nat.le_of_ble_eq_true rfl) hL)⟩) rfl hl.1 rfl (Nat.le_of_ble_eq_true rfl) dX10_sumOf_56) hW (fun H locs hW => ?_)
          refine lv_if_eq (tgt := 68) hx hb dX10_sumOf_59 (by decide) (fun q19 => ?_) (fun q19 => ?_)
          · have h := it_p q19 h
            refine lv_iconst (v := 0) hx hb dX10_sumOf_68 (by decide) ?_
            cases h
            exact K12 _ _ _ hW (lv_sub hl [1, 2, 4] rfl)
          · have h := it_n q19 h
            refine lv_iload hx hb dX10_sumOf_62 (lv_at hl 0 rfl) ?_
            refine lv_ineg hx hb dX10_sumOf_64 ?_
            refine lv_goto (tgt := 69) hx hb dX10_sumOf_65 (by decide) ?_
            cases h
            exact K12 _ _ _ hW (lv_sub hl [1, 2, 4] rfl)
        · have h := it_n q15 h
          refine lv_iload hx hb dX10_sumOf_44 (lv_at hl 0 rfl) ?_
          refine lv_goto (tgt := 69) hx hb dX10_sumOf_46 (by decide) ?_
          cases h
          exact K12 _ _ _ hW (lv_sub hl [1, 2, 4] rfl)
      clear h
      have h := e6
      clear e6
      refine lv_if_eq (tgt := 27) hx hb dX10_sumOf_15 (by decide) (fun q7 => ?_) (fun q7 => ?_)
      · have h := it_p q7 h
        refine lv_iconst (v := 0) hx hb dX10_sumOf_27 (by decide) ?_
        cases h
        exact K4 _ _ _ hW (lv_sub hl [0, 1, 2, 3] rfl)
      · have h := it_n q7 h
        refine lv_aload_n hx hb dX10_sumOf_18 rfl (lv_at hl 0 rfl) ?_
        refine gY0_30 hC hW dX10_sumOf_19 ?_
        refine lv_iload_n hx hb dX10_sumOf_22 rfl (lv_at hl 3 rfl) ?_
        obtain ⟨g8, h⟩ := gd_some h
        refine x_iald hC hW aY22 g8 dX10_sumOf_23 ?_
        refine lv_goto (tgt := 28) hx hb dX10_sumOf_24 (by decide) ?_
        cases h
        exact K4 _ _ _ hW (lv_sub hl [0, 1, 2, 3] rfl)
def fY0_sumOf (N : Nat) (S : St) (x1 : Int32) : Option (Int32) :=
  Option.bind (fY0_sumOf_L4 N S x1 N 0 0) fun t20 =>
  some t20
set_option maxHeartbeats 4000000 in
set_option maxRecDepth 100000 in
theorem wY0_sumOf {N : Nat} {S : St} {x1 : Int32} (hC : CallFix p m c cX10_sumOf 5 s args lw_g RX10) (hF : 1 ≤ R.frames) (hL : 21 ≤ R.locals)  {v : Int32} (h : fY0_sumOf N S x1 = some v) (kr : ∀ (H : Heap) (locs : List Loc) (ls : Array Slot) (pc : Nat), decode cX10_sumOf pc = .ok (.ireturn, 1) → wg LY G S s H locs → W p l e R s m args below meth c H locs 0 0 Q (F0 m pc ls [.int v])) : ∀ (H : Heap) (locs : List Loc) (ls : Array Slot), wg LY G S s H locs → lv_has ls 5 [(0, .ref (ad G 0)), (1, .int x1)] → W p l e R s m args below meth c H locs 0 0 Q (F0 m 0 ls []) := by
  have hx := hC.1
  have hb := hC.2.1
  intro H locs ls hW hl
  unfold fY0_sumOf at h
  refine lv_iconst (v := 0) hx hb dX10_sumOf_0 (by decide) ?_
  refine lv_istore_n (lv' := [(2, .int 0), (0, .ref (ad G 0)), (1, .int x1)]) hx hb dX10_sumOf_1 rfl hl (by decide) rfl (fun ls hl => ?_)
  refine lv_iconst (v := 0) hx hb dX10_sumOf_2 (by decide) ?_
  refine lv_istore_n (lv' := [(3, .int 0), (2, .int 0), (0, .ref (ad G 0)), (1, .int x1)]) hx hb dX10_sumOf_3 rfl hl (by decide) rfl (fun ls hl => ?_)
  obtain ⟨t20, e21, h⟩ := bd h
  refine wY0_sumOf_L4 hC hF hL  (fun H locs ls hW hl => ?_) _ _ _ e21 _ _ _ hW (lv_sub hl [2, 3, 1, 0] rfl)
  refine lv_iload_n hx hb dX10_sumOf_77 rfl (lv_at hl 0 rfl) ?_
  cases h
  exact kr _ _ _ _ dX10_sumOf_78 hW
theorem ctY0_sumOf {N : Nat} {S : St} {x1 : Int32}  {v : Int32} (h : fY0_sumOf N S x1 = some v) : Met l yX10_sumOf (wm yX10_sumOf cX10_sumOf 5 (some .int)) (rmx 1 21) (pcm LY G S [.ref (ad G 0), .int x1]) (qcI LY G S v) 0 0 G.2.2.2 :=
  x_enter (own := RX10) rfl rfl (Nat.le_of_ble_eq_true rfl) (fun p e s m below meth c ls hC hr hk hW hl => wY0_sumOf hC (Nat.le_refl _) (Nat.le_refl _)  h (fun H locs ls pc hd hW => x_reti hC hr hk hW hd) _ _ _ hW hl)
def fY0_isWell_L7 (N : Nat) (S : St) (x1 : Int32) : Nat → Int32 → Int32 → Int32 → Option (Int32 × Int32)
  | 0, _, _, _ => none
  | n + 1, x2, x3, x4 =>
    if x1 < x4 then
      some (x2, x3)
    else
      gd (inb x4 12) <|
      nx (S.1 11 (Int32.toNatClampNeg x4)) fun y3 =>
      gd (inb x4 12) <|
      nx (S.1 12 (Int32.toNatClampNeg x4)) fun y6 =>
      gd (inb x4 12) <|
      Option.bind (α := Int32) (
        if (S.1 10 (Int32.toNatClampNeg x4)) = 2 then
          if x1 < y3 then
            some x2
          else
            if x1 < y6 then
              some x2
            else
              if x4 = x1 then
                Option.bind (α := Int32) (
                  if x2 = 0 then
                    some 0
                  else
                    gd (inb x4 12) <|
                    gd (inb y3 12) <|
                    gd (inb y6 12) <|
                    if (S.1 22 (Int32.toNatClampNeg x4)) = ((S.1 22 (Int32.toNatClampNeg y3)) * (S.1 22 (Int32.toNatClampNeg y6))) then
                      some 1
                    else
                      some 0
                ) fun t17 =>
                some t17
              else
                if y3 = x1 then
                  Option.bind (α := Int32) (
                    if x2 = 0 then
                      some 0
                    else
                      gd (inb x4 12) <|
                      gd (inb y3 12) <|
                      gd (inb y6 12) <|
                      if (S.1 22 (Int32.toNatClampNeg x4)) = ((S.1 22 (Int32.toNatClampNeg y3)) * (S.1 22 (Int32.toNatClampNeg y6))) then
                        some 1
                      else
                        some 0
                  ) fun t26 =>
                  some t26
                else
                  if y6 = x1 then
                    Option.bind (α := Int32) (
                      if x2 = 0 then
                        some 0
                      else
                        gd (inb x4 12) <|
                        gd (inb y3 12) <|
                        gd (inb y6 12) <|
                        if (S.1 22 (Int32.toNatClampNeg x4)) = ((S.1 22 (Int32.toNatClampNeg y3)) * (S.1 22 (Int32.toNatClampNeg y6))) then
                          some 1
                        else
                          some 0
                    ) fun t35 =>
                    some t35
                  else
                    some x2
        else
          some x2
      ) fun t10 =>
      gd (inb x4 12) <|
      Option.bind (α := Int32) (
        if (S.1 10 (Int32.toNatClampNeg x4)) = 4 then
          if x1 < y3 then
            some t10
          else
            if x4 = x1 then
              Option.bind (α := Int32) (
                if t10 = 0 then
                  some 0
                else
                  gd (inb x4 12) <|
                  gd (inb y3 12) <|
                  if (S.1 22 (Int32.toNatClampNeg x4)) ≤ (S.1 22 (Int32.toNatClampNeg y3)) then
                    some 0
                  else
                    some 1
              ) fun t50 =>
              some t50
            else
              if y3 = x1 then
                Option.bind (α := Int32) (
                  if t10 = 0 then
                    some 0
                  else
                    gd (inb x4 12) <|
                    gd (inb y3 12) <|
                    if (S.1 22 (Int32.toNatClampNeg x4)) ≤ (S.1 22 (Int32.toNatClampNeg y3)) then
                      some 0
                    else
                      some 1
                ) fun t58 =>
                some t58
              else
                some t10
        else
          some t10
      ) fun t44 =>
      gd (inb x4 12) <|
      Option.bind (α := Int32) (
        if (S.1 10 (Int32.toNatClampNeg x4)) = 3 then
          gd (inb x4 12) <|
          gd (inb x1 12) <|
          if (S.1 22 (Int32.toNatClampNeg x4)) = (S.1 22 (Int32.toNatClampNeg x1)) then
            some 1
          else
            some 0
        else
          some 0
      ) fun t66 =>
      fY0_isWell_L7 N S x1 n t44 (x3 + t66) (x4 + 1)
set_option maxHeartbeats 4000000 in
set_option maxRecDepth 100000 in
theorem wY0_isWell_L7 {N : Nat} {S : St} {x1 : Int32} (hC : CallFix p m c cX10_isWell 7 s args lw_g RX10) (hF : 2 ≤ R.frames) (hL : 45 ≤ R.locals)  {t : Int32 × Int32} (kx : ∀ (H : Heap) (locs : List Loc) (ls : Array Slot), wg LY G S s H locs → lv_has ls 7 [(0, .ref (ad G 0)), (1, .int x1), (2, .int t.1), (3, .int t.2)] → W p l e R s m args below meth c H locs 0 0 Q (F0 m 204 ls [])) : ∀ (n : Nat) (x2 : Int32) (x3 : Int32) (x4 : Int32), fY0_isWell_L7 N S x1 n x2 x3 x4 = some t → ∀ (H : Heap) (locs : List Loc) (ls : Array Slot), wg LY G S s H locs → lv_has ls 7 [(0, .ref (ad G 0)), (1, .int x1), (2, .int x2), (3, .int x3), (4, .int x4)] → W p l e R s m args below meth c H locs 0 0 Q (F0 m 7 ls []) := by
  have hx := hC.1
  have hb := hC.2.1
  intro n
  induction n with
  | zero =>
    intro _ _ _ h
    cases h
  | succ n ih =>
    intro x2 x3 x4 h H locs ls hW hl
    rw [fY0_isWell_L7] at h
    refine lv_iload hx hb dX10_isWell_7 (lv_at hl 4 rfl) ?_
    refine lv_iload_n hx hb dX10_isWell_9 rfl (lv_at hl 1 rfl) ?_
    refine lv_icmp_gt (tgt := 204) hx hb dX10_isWell_10 (by decide) (fun q1 => ?_) (fun q1 => ?_)
    · have h := it_p q1 h
      cases h
      exact kx _ _ _ hW (lv_sub hl [0, 1, 2, 3] rfl)
    · have h := it_n q1 h
      refine lv_aload_n hx hb dX10_isWell_13 rfl (lv_at hl 0 rfl) ?_
      refine gY0_16 hC hW dX10_isWell_14 ?_
      refine lv_iload hx hb dX10_isWell_17 (lv_at hl 4 rfl) ?_
      obtain ⟨g2, h⟩ := gd_some h
      refine x_iald hC hW aY11 g2 dX10_isWell_19 ?_
      obtain ⟨y3, e4, h⟩ := nx_some h
      refine x_topi e4 ?_
      refine lv_istore (lv' := [(5, .int y3), (0, .ref (ad G 0)), (1, .int x1), (2, .int x2), (3, .int x3), (4, .int x4)]) hx hb dX10_isWell_20 hl (by decide) rfl (fun ls hl => ?_)
      refine lv_aload_n hx hb dX10_isWell_22 rfl (lv_at hl 1 rfl) ?_
      refine gY0_17 hC hW dX10_isWell_23 ?_
      refine lv_iload hx hb dX10_isWell_26 (lv_at hl 5 rfl) ?_
      obtain ⟨g5, h⟩ := gd_some h
      refine x_iald hC hW aY12 g5 dX10_isWell_28 ?_
      obtain ⟨y6, e7, h⟩ := nx_some h
      refine x_topi e7 ?_
      refine lv_istore (lv' := [(6, .int y6), (5, .int y3), (0, .ref (ad G 0)), (1, .int x1), (2, .int x2), (3, .int x3), (4, .int x4)]) hx hb dX10_isWell_29 hl (by decide) rfl (fun ls hl => ?_)
      refine lv_aload_n hx hb dX10_isWell_31 rfl (lv_at hl 2 rfl) ?_
      refine gY0_15 hC hW dX10_isWell_32 ?_
      refine lv_iload hx hb dX10_isWell_35 (lv_at hl 6 rfl) ?_
      obtain ⟨g8, h⟩ := gd_some h
      refine x_iald hC hW aY10 g8 dX10_isWell_37 ?_
      refine lv_iconst (v := 2) hx hb dX10_isWell_38 (by decide) ?_
      obtain ⟨t10, e11, h⟩ := bd h
      have K9 : ∀ (H : Heap) (locs : List Loc) (ls : Array Slot), wg LY G S s H locs → lv_has ls 7 [(0, .ref (ad G 0)), (1, .int x1), (2, .int t10), (3, .int x3), (4, .int x4), (5, .int y3)] → W p l e R s m args below meth c H locs 0 0 Q (F0 m 107 ls []) := by
        intro H locs ls hW hl
        refine lv_aload_n hx hb dX10_isWell_107 rfl (lv_at hl 0 rfl) ?_
        refine gY0_15 hC hW dX10_isWell_108 ?_
        refine lv_iload hx hb dX10_isWell_111 (lv_at hl 4 rfl) ?_
        obtain ⟨g42, h⟩ := gd_some h
        refine x_iald hC hW aY10 g42 dX10_isWell_113 ?_
        refine lv_iconst (v := 4) hx hb dX10_isWell_114 (by decide) ?_
        obtain ⟨t44, e45, h⟩ := bd h
        have K43 : ∀ (H : Heap) (locs : List Loc) (ls : Array Slot), wg LY G S s H locs → lv_has ls 7 [(0, .ref (ad G 0)), (1, .int x1), (2, .int t44), (3, .int x3), (4, .int x4)] → W p l e R s m args below meth c H locs 0 0 Q (F0 m 163 ls []) := by
          intro H locs ls hW hl
          refine lv_iload_n hx hb dX10_isWell_163 rfl (lv_at hl 3 rfl) ?_
          refine lv_aload_n hx hb dX10_isWell_164 rfl (lv_at hl 0 rfl) ?_
          refine gY0_15 hC hW dX10_isWell_165 ?_
          refine lv_iload hx hb dX10_isWell_168 (lv_at hl 4 rfl) ?_
          obtain ⟨g64, h⟩ := gd_some h
          refine x_iald hC hW aY10 g64 dX10_isWell_170 ?_
          refine lv_iconst (v := 3) hx hb dX10_isWell_171 (by decide) ?_
          obtain ⟨t66, e67, h⟩ := bd h
          have K65 : ∀ (H : Heap) (locs : List Loc) (ls : Array Slot), wg LY G S s H locs → lv_has ls 7 [(0, .ref (ad G 0)), (1, .int x1), (2, .int t44), (4, .int x4)] → W p l e R s m args below meth c H locs 0 0 Q (F0 m 196 ls [.int t66, .int x3]) := by
            intro H locs ls hW hl
            refine lv_iadd hx hb dX10_isWell_196 ?_
            refine lv_istore_n (lv' := [(3, .int (x3 + t66)), (0, .ref (ad G 0)), (1, .int x1), (2, .int t44), (4, .int x4)]) hx hb dX10_isWell_197 rfl hl (by decide) rfl (fun ls hl => ?_)
            refine lv_iinc (v := x4 + 1) (lv' := [(4, .int (x4 + 1)), (3, .int (x3 + t66)), (0, .ref (ad G 0)), (1, .int x1), (2, .int t44)]) (k := 4) hx hb dX10_isWell_198 hl rfl rfl (by decide) rfl (fun ls hl => ?_)
            refine lv_goto (tgt := 7) hx hb dX10_isWell_201 (by decide) ?_
            exact ih _ _ _ h _ _ _ hW (lv_sub hl [2, 3, 4, 1, 0] rfl)
          clear h
          have h := e67
          clear e67
          refine lv_icmp_ne (tgt := 195) hx hb dX10_isWell_172 (by decide) (fun q68 => ?_) (fun q68 => ?_)
          · have h := it_n q68 h
            refine lv_iconst (v := 0) hx hb dX10_isWell_195 (by decide) ?_
            cases h
            exact K65 _ _ _ hW (lv_sub hl [0, 1, 2, 4] rfl)
          · have h := it_p q68 h
            refine lv_aload_n hx hb dX10_isWell_175 rfl (lv_at hl 0 rfl) ?_
            refine gY0_30 hC hW dX10_isWell_176 ?_
            refine lv_iload hx hb dX10_isWell_179 (lv_at hl 4 rfl) ?_
            obtain ⟨g69, h⟩ := gd_some h
            refine x_iald hC hW aY22 g69 dX10_isWell_181 ?_
            refine lv_aload_n hx hb dX10_isWell_182 rfl (lv_at hl 0 rfl) ?_
            refine gY0_30 hC hW dX10_isWell_183 ?_
            refine lv_iload_n hx hb dX10_isWell_186 rfl (lv_at hl 1 rfl) ?_
            obtain ⟨g70, h⟩ := gd_some h
            refine x_iald hC hW aY22 g70 dX10_isWell_187 ?_
            refine lv_icmp_ne (tgt := 195) hx hb dX10_isWell_188 (by decide) (fun q71 => ?_) (fun q71 => ?_)
            · have h := it_n q71 h
              refine lv_iconst (v := 0) hx hb dX10_isWell_195 (by decide) ?_
              cases h
              exact K65 _ _ _ hW (lv_sub hl [0, 1, 2, 4] rfl)
            · have h := it_p q71 h
              refine lv_iconst (v := 1) hx hb dX10_isWell_191 (by decide) ?_
              refine lv_goto (tgt := 196) hx hb dX10_isWell_192 (by decide) ?_
              cases h
              exact K65 _ _ _ hW (lv_sub hl [0, 1, 2, 4] rfl)
        clear h
        have h := e45
        clear e45
        refine lv_icmp_ne (tgt := 163) hx hb dX10_isWell_115 (by decide) (fun q46 => ?_) (fun q46 => ?_)
        · have h := it_n q46 h
          cases h
          exact K43 _ _ _ hW (lv_sub hl [0, 1, 2, 3, 4] rfl)
        · have h := it_p q46 h
          refine lv_iload hx hb dX10_isWell_118 (lv_at hl 5 rfl) ?_
          refine lv_iload_n hx hb dX10_isWell_120 rfl (lv_at hl 1 rfl) ?_
          refine lv_icmp_gt (tgt := 163) hx hb dX10_isWell_121 (by decide) (fun q47 => ?_) (fun q47 => ?_)
          · have h := it_p q47 h
            cases h
            exact K43 _ _ _ hW (lv_sub hl [0, 1, 2, 3, 4] rfl)
          · have h := it_n q47 h
            refine lv_iload hx hb dX10_isWell_124 (lv_at hl 4 rfl) ?_
            refine lv_iload_n hx hb dX10_isWell_126 rfl (lv_at hl 1 rfl) ?_
            refine lv_icmp_eq (tgt := 136) hx hb dX10_isWell_127 (by decide) (fun q48 => ?_) (fun q48 => ?_)
            · have h := it_p q48 h
              refine lv_iload_n hx hb dX10_isWell_136 rfl (lv_at hl 2 rfl) ?_
              obtain ⟨t50, e51, h⟩ := bd h
              have K49 : ∀ (H : Heap) (locs : List Loc) (ls : Array Slot), wg LY G S s H locs → lv_has ls 7 [(0, .ref (ad G 0)), (1, .int x1), (3, .int x3), (4, .int x4)] → W p l e R s m args below meth c H locs 0 0 Q (F0 m 162 ls [.int t50]) := by
                intro H locs ls hW hl
                refine lv_istore_n (lv' := [(2, .int t50), (0, .ref (ad G 0)), (1, .int x1), (3, .int x3), (4, .int x4)]) hx hb dX10_isWell_162 rfl hl (by decide) rfl (fun ls hl => ?_)
                cases h
                exact K43 _ _ _ hW (lv_sub hl [1, 2, 0, 3, 4] rfl)
              clear h
              have h := e51
              clear e51
              refine lv_if_eq (tgt := 161) hx hb dX10_isWell_137 (by decide) (fun q52 => ?_) (fun q52 => ?_)
              · have h := it_p q52 h
                refine lv_iconst (v := 0) hx hb dX10_isWell_161 (by decide) ?_
                cases h
                exact K49 _ _ _ hW (lv_sub hl [0, 1, 3, 4] rfl)
              · have h := it_n q52 h
                refine lv_aload_n hx hb dX10_isWell_140 rfl (lv_at hl 0 rfl) ?_
                refine gY0_30 hC hW dX10_isWell_141 ?_
                refine lv_iload hx hb dX10_isWell_144 (lv_at hl 4 rfl) ?_
                obtain ⟨g53, h⟩ := gd_some h
                refine x_iald hC hW aY22 g53 dX10_isWell_146 ?_
                refine lv_aload_n hx hb dX10_isWell_147 rfl (lv_at hl 0 rfl) ?_
                refine gY0_30 hC hW dX10_isWell_148 ?_
                refine lv_iload hx hb dX10_isWell_151 (lv_at hl 5 rfl) ?_
                obtain ⟨g54, h⟩ := gd_some h
                refine x_iald hC hW aY22 g54 dX10_isWell_153 ?_
                refine lv_icmp_le (tgt := 161) hx hb dX10_isWell_154 (by decide) (fun q55 => ?_) (fun q55 => ?_)
                · have h := it_p q55 h
                  refine lv_iconst (v := 0) hx hb dX10_isWell_161 (by decide) ?_
                  cases h
                  exact K49 _ _ _ hW (lv_sub hl [0, 1, 3, 4] rfl)
                · have h := it_n q55 h
                  refine lv_iconst (v := 1) hx hb dX10_isWell_157 (by decide) ?_
                  refine lv_goto (tgt := 162) hx hb dX10_isWell_158 (by decide) ?_
                  cases h
                  exact K49 _ _ _ hW (lv_sub hl [0, 1, 3, 4] rfl)
            · have h := it_n q48 h
              refine lv_iload hx hb dX10_isWell_130 (lv_at hl 5 rfl) ?_
              refine lv_iload_n hx hb dX10_isWell_132 rfl (lv_at hl 1 rfl) ?_
              refine lv_icmp_ne (tgt := 163) hx hb dX10_isWell_133 (by decide) (fun q56 => ?_) (fun q56 => ?_)
              · have h := it_n q56 h
                cases h
                exact K43 _ _ _ hW (lv_sub hl [0, 1, 2, 3, 4] rfl)
              · have h := it_p q56 h
                refine lv_iload_n hx hb dX10_isWell_136 rfl (lv_at hl 2 rfl) ?_
                obtain ⟨t58, e59, h⟩ := bd h
                have K57 : ∀ (H : Heap) (locs : List Loc) (ls : Array Slot), wg LY G S s H locs → lv_has ls 7 [(0, .ref (ad G 0)), (1, .int x1), (3, .int x3), (4, .int x4)] → W p l e R s m args below meth c H locs 0 0 Q (F0 m 162 ls [.int t58]) := by
                  intro H locs ls hW hl
                  refine lv_istore_n (lv' := [(2, .int t58), (0, .ref (ad G 0)), (1, .int x1), (3, .int x3), (4, .int x4)]) hx hb dX10_isWell_162 rfl hl (by decide) rfl (fun ls hl => ?_)
                  cases h
                  exact K43 _ _ _ hW (lv_sub hl [1, 2, 0, 3, 4] rfl)
                clear h
                have h := e59
                clear e59
                refine lv_if_eq (tgt := 161) hx hb dX10_isWell_137 (by decide) (fun q60 => ?_) (fun q60 => ?_)
                · have h := it_p q60 h
                  refine lv_iconst (v := 0) hx hb dX10_isWell_161 (by decide) ?_
                  cases h
                  exact K57 _ _ _ hW (lv_sub hl [0, 1, 3, 4] rfl)
                · have h := it_n q60 h
                  refine lv_aload_n hx hb dX10_isWell_140 rfl (lv_at hl 0 rfl) ?_
                  refine gY0_30 hC hW dX10_isWell_141 ?_
                  refine lv_iload hx hb dX10_isWell_144 (lv_at hl 4 rfl) ?_
                  obtain ⟨g61, h⟩ := gd_some h
                  refine x_iald hC hW aY22 g61 dX10_isWell_146 ?_
                  refine lv_aload_n hx hb dX10_isWell_147 rfl (lv_at hl 0 rfl) ?_
                  refine gY0_30 hC hW dX10_isWell_148 ?_
                  refine lv_iload hx hb dX10_isWell_151 (lv_at hl 5 rfl) ?_
                  obtain ⟨g62, h⟩ := gd_some h
                  refine x_iald hC hW aY22 g62 dX10_isWell_153 ?_
                  refine lv_icmp_le (tgt := 161) hx hb dX10_isWell_154 (by decide) (fun q63 => ?_) (fun q63 => ?_)
                  · have h := it_p q63 h
                    refine lv_iconst (v := 0) hx hb dX10_isWell_161 (by decide) ?_
                    cases h
                    exact K57 _ _ _ hW (lv_sub hl [0, 1, 3, 4] rfl)
                  · have h := it_n q63 h
                    refine lv_iconst (v := 1) hx hb dX10_isWell_157 (by decide) ?_
                    refine lv_goto (tgt := 162) hx hb dX10_isWell_158 (by decide) ?_
                    cases h
                    exact K57 _ _ _ hW (lv_sub hl [0, 1, 3, 4] rfl)
      clear h
      have h := e11
      clear e11
      refine lv_icmp_ne (tgt := 107) hx hb dX10_isWell_39 (by decide) (fun q12 => ?_) (fun q12 => ?_)
      · have h := it_n q12 h
        cases h
        exact K9 _ _ _ hW (lv_sub hl [2, 3, 4, 5, 6, 1] rfl)
      · have h := it_p q12 h
        refine lv_iload hx hb dX10_isWell_42 (lv_at hl 1 rfl) ?_
        refine lv_iload_n hx hb dX10_isWell_44 rfl (lv_at hl 3 rfl) ?_
        refine lv_icmp_gt (tgt := 107) hx hb dX10_isWell_45 (by decide) (fun q13 => ?_) (fun q13 => ?_)
        · have h := it_p q13 h
          cases h
          exact K9 _ _ _ hW (lv_sub hl [2, 3, 4, 5, 6, 1] rfl)
        · have h := it_n q13 h
          refine lv_iload hx hb dX10_isWell_48 (lv_at hl 0 rfl) ?_
          refine lv_iload_n hx hb dX10_isWell_50 rfl (lv_at hl 3 rfl) ?_
          refine lv_icmp_gt (tgt := 107) hx hb dX10_isWell_51 (by decide) (fun q14 => ?_) (fun q14 => ?_)
          · have h := it_p q14 h
            cases h
            exact K9 _ _ _ hW (lv_sub hl [2, 3, 4, 5, 6, 1] rfl)
          · have h := it_n q14 h
            refine lv_iload hx hb dX10_isWell_54 (lv_at hl 6 rfl) ?_
            refine lv_iload_n hx hb dX10_isWell_56 rfl (lv_at hl 3 rfl) ?_
            refine lv_icmp_eq (tgt := 72) hx hb dX10_isWell_57 (by decide) (fun q15 => ?_) (fun q15 => ?_)
            · have h := it_p q15 h
              refine lv_iload_n hx hb dX10_isWell_72 rfl (lv_at hl 4 rfl) ?_
              obtain ⟨t17, e18, h⟩ := bd h
              have K16 : ∀ (H : Heap) (locs : List Loc) (ls : Array Slot), wg LY G S s H locs → lv_has ls 7 [(0, .ref (ad G 0)), (1, .int x1), (3, .int x3), (4, .int x4), (5, .int y3)] → W p l e R s m args below meth c H locs 0 0 Q (F0 m 106 ls [.int t17]) := by
                intro H locs ls hW hl
                refine lv_istore_n (lv' := [(2, .int t17), (0, .ref (ad G 0)), (1, .int x1), (3, .int x3), (4, .int x4), (5, .int y3)]) hx hb dX10_isWell_106 rfl hl (by decide) rfl (fun ls hl => ?_)
                cases h
                exact K9 _ _ _ hW (lv_sub hl [1, 2, 0, 3, 4, 5] rfl)
              clear h
              have h := e18
              clear e18
              refine lv_if_eq (tgt := 105) hx hb dX10_isWell_73 (by decide) (fun q19 => ?_) (fun q19 => ?_)
              · have h := it_p q19 h
                refine lv_iconst (v := 0) hx hb dX10_isWell_105 (by decide) ?_
                cases h
                exact K16 _ _ _ hW (lv_sub hl [2, 3, 5, 6, 1] rfl)
              · have h := it_n q19 h
                refine lv_aload_n hx hb dX10_isWell_76 rfl (lv_at hl 2 rfl) ?_
                refine gY0_30 hC hW dX10_isWell_77 ?_
                refine lv_iload hx hb dX10_isWell_80 (lv_at hl 6 rfl) ?_
                obtain ⟨g20, h⟩ := gd_some h
                refine x_iald hC hW aY22 g20 dX10_isWell_82 ?_
                refine lv_aload_n hx hb dX10_isWell_83 rfl (lv_at hl 2 rfl) ?_
                refine gY0_30 hC hW dX10_isWell_84 ?_
                refine lv_iload hx hb dX10_isWell_87 (lv_at hl 1 rfl) ?_
                obtain ⟨g21, h⟩ := gd_some h
                refine x_iald hC hW aY22 g21 dX10_isWell_89 ?_
                refine lv_aload_n hx hb dX10_isWell_90 rfl (lv_at hl 2 rfl) ?_
                refine gY0_30 hC hW dX10_isWell_91 ?_
                refine lv_iload hx hb dX10_isWell_94 (lv_at hl 0 rfl) ?_
                obtain ⟨g22, h⟩ := gd_some h
                refine x_iald hC hW aY22 g22 dX10_isWell_96 ?_
                refine lv_imul hx hb dX10_isWell_97 ?_
                refine lv_icmp_ne (tgt := 105) hx hb dX10_isWell_98 (by decide) (fun q23 => ?_) (fun q23 => ?_)
                · have h := it_n q23 h
                  refine lv_iconst (v := 0) hx hb dX10_isWell_105 (by decide) ?_
                  cases h
                  exact K16 _ _ _ hW (lv_sub hl [2, 3, 5, 6, 1] rfl)
                · have h := it_p q23 h
                  refine lv_iconst (v := 1) hx hb dX10_isWell_101 (by decide) ?_
                  refine lv_goto (tgt := 106) hx hb dX10_isWell_102 (by decide) ?_
                  cases h
                  exact K16 _ _ _ hW (lv_sub hl [2, 3, 5, 6, 1] rfl)
            · have h := it_n q15 h
              refine lv_iload hx hb dX10_isWell_60 (lv_at hl 1 rfl) ?_
              refine lv_iload_n hx hb dX10_isWell_62 rfl (lv_at hl 3 rfl) ?_
              refine lv_icmp_eq (tgt := 72) hx hb dX10_isWell_63 (by decide) (fun q24 => ?_) (fun q24 => ?_)
              · have h := it_p q24 h
                refine lv_iload_n hx hb dX10_isWell_72 rfl (lv_at hl 4 rfl) ?_
                obtain ⟨t26, e27, h⟩ := bd h
                have K25 : ∀ (H : Heap) (locs : List Loc) (ls : Array Slot), wg LY G S s H locs → lv_has ls 7 [(0, .ref (ad G 0)), (1, .int x1), (3, .int x3), (4, .int x4), (5, .int y3)] → W p l e R s m args below meth c H locs 0 0 Q (F0 m 106 ls [.int t26]) := by
                  intro H locs ls hW hl
                  refine lv_istore_n (lv' := [(2, .int t26), (0, .ref (ad G 0)), (1, .int x1), (3, .int x3), (4, .int x4), (5, .int y3)]) hx hb dX10_isWell_106 rfl hl (by decide) rfl (fun ls hl => ?_)
                  cases h
                  exact K9 _ _ _ hW (lv_sub hl [1, 2, 0, 3, 4, 5] rfl)
                clear h
                have h := e27
                clear e27
                refine lv_if_eq (tgt := 105) hx hb dX10_isWell_73 (by decide) (fun q28 => ?_) (fun q28 => ?_)
                · have h := it_p q28 h
                  refine lv_iconst (v := 0) hx hb dX10_isWell_105 (by decide) ?_
                  cases h
                  exact K25 _ _ _ hW (lv_sub hl [2, 3, 5, 6, 1] rfl)
                · have h := it_n q28 h
                  refine lv_aload_n hx hb dX10_isWell_76 rfl (lv_at hl 2 rfl) ?_
                  refine gY0_30 hC hW dX10_isWell_77 ?_
                  refine lv_iload hx hb dX10_isWell_80 (lv_at hl 6 rfl) ?_
                  obtain ⟨g29, h⟩ := gd_some h
                  refine x_iald hC hW aY22 g29 dX10_isWell_82 ?_
                  refine lv_aload_n hx hb dX10_isWell_83 rfl (lv_at hl 2 rfl) ?_
                  refine gY0_30 hC hW dX10_isWell_84 ?_
                  refine lv_iload hx hb dX10_isWell_87 (lv_at hl 1 rfl) ?_
                  obtain ⟨g30, h⟩ := gd_some h
                  refine x_iald hC hW aY22 g30 dX10_isWell_89 ?_
                  refine lv_aload_n hx hb dX10_isWell_90 rfl (lv_at hl 2 rfl) ?_
                  refine gY0_30 hC hW dX10_isWell_91 ?_
                  refine lv_iload hx hb dX10_isWell_94 (lv_at hl 0 rfl) ?_
                  obtain ⟨g31, h⟩ := gd_some h
                  refine x_iald hC hW aY22 g31 dX10_isWell_96 ?_
                  refine lv_imul hx hb dX10_isWell_97 ?_
                  refine lv_icmp_ne (tgt := 105) hx hb dX10_isWell_98 (by decide) (fun q32 => ?_) (fun q32 => ?_)
                  · have h := it_n q32 h
                    refine lv_iconst (v := 0) hx hb dX10_isWell_105 (by decide) ?_
                    cases h
                    exact K25 _ _ _ hW (lv_sub hl [2, 3, 5, 6, 1] rfl)
                  · have h := it_p q32 h
                    refine lv_iconst (v := 1) hx hb dX10_isWell_101 (by decide) ?_
                    refine lv_goto (tgt := 106) hx hb dX10_isWell_102 (by decide) ?_
                    cases h
                    exact K25 _ _ _ hW (lv_sub hl [2, 3, 5, 6, 1] rfl)
              · have h := it_n q24 h
                refine lv_iload hx hb dX10_isWell_66 (lv_at hl 0 rfl) ?_
                refine lv_iload_n hx hb dX10_isWell_68 rfl (lv_at hl 3 rfl) ?_
                refine lv_icmp_ne (tgt := 107) hx hb dX10_isWell_69 (by decide) (fun q33 => ?_) (fun q33 => ?_)
                · have h := it_n q33 h
                  cases h
                  exact K9 _ _ _ hW (lv_sub hl [2, 3, 4, 5, 6, 1] rfl)
                · have h := it_p q33 h
                  refine lv_iload_n hx hb dX10_isWell_72 rfl (lv_at hl 4 rfl) ?_
                  obtain ⟨t35, e36, h⟩ := bd h
                  have K34 : ∀ (H : Heap) (locs : List Loc) (ls : Array Slot), wg LY G S s H locs → lv_has ls 7 [(0, .ref (ad G 0)), (1, .int x1), (3, .int x3), (4, .int x4), (5, .int y3)] → W p l e R s m args below meth c H locs 0 0 Q (F0 m 106 ls [.int t35]) := by
                    intro H locs ls hW hl
                    refine lv_istore_n (lv' := [(2, .int t35), (0, .ref (ad G 0)), (1, .int x1), (3, .int x3), (4, .int x4), (5, .int y3)]) hx hb dX10_isWell_106 rfl hl (by decide) rfl (fun ls hl => ?_)
                    cases h
                    exact K9 _ _ _ hW (lv_sub hl [1, 2, 0, 3, 4, 5] rfl)
                  clear h
                  have h := e36
                  clear e36
                  refine lv_if_eq (tgt := 105) hx hb dX10_isWell_73 (by decide) (fun q37 => ?_) (fun q37 => ?_)
                  · have h := it_p q37 h
                    refine lv_iconst (v := 0) hx hb dX10_isWell_105 (by decide) ?_
                    cases h
                    exact K34 _ _ _ hW (lv_sub hl [2, 3, 5, 6, 1] rfl)
                  · have h := it_n q37 h
                    refine lv_aload_n hx hb dX10_isWell_76 rfl (lv_at hl 2 rfl) ?_
                    refine gY0_30 hC hW dX10_isWell_77 ?_
                    refine lv_iload hx hb dX10_isWell_80 (lv_at hl 6 rfl) ?_
                    obtain ⟨g38, h⟩ := gd_some h
                    refine x_iald hC hW aY22 g38 dX10_isWell_82 ?_
                    refine lv_aload_n hx hb dX10_isWell_83 rfl (lv_at hl 2 rfl) ?_
                    refine gY0_30 hC hW dX10_isWell_84 ?_
                    refine lv_iload hx hb dX10_isWell_87 (lv_at hl 1 rfl) ?_
                    obtain ⟨g39, h⟩ := gd_some h
                    refine x_iald hC hW aY22 g39 dX10_isWell_89 ?_
                    refine lv_aload_n hx hb dX10_isWell_90 rfl (lv_at hl 2 rfl) ?_
                    refine gY0_30 hC hW dX10_isWell_91 ?_
                    refine lv_iload hx hb dX10_isWell_94 (lv_at hl 0 rfl) ?_
                    obtain ⟨g40, h⟩ := gd_some h
                    refine x_iald hC hW aY22 g40 dX10_isWell_96 ?_
                    refine lv_imul hx hb dX10_isWell_97 ?_
                    refine lv_icmp_ne (tgt := 105) hx hb dX10_isWell_98 (by decide) (fun q41 => ?_) (fun q41 => ?_)
                    · have h := it_n q41 h
                      refine lv_iconst (v := 0) hx hb dX10_isWell_105 (by decide) ?_
                      cases h
                      exact K34 _ _ _ hW (lv_sub hl [2, 3, 5, 6, 1] rfl)
                    · have h := it_p q41 h
                      refine lv_iconst (v := 1) hx hb dX10_isWell_101 (by decide) ?_
                      refine lv_goto (tgt := 106) hx hb dX10_isWell_102 (by decide) ?_
                      cases h
                      exact K34 _ _ _ hW (lv_sub hl [2, 3, 5, 6, 1] rfl)
def fY0_isWell_L241 (N : Nat) (S : St) (x1 : Int32) : Nat → Int32 → Int32 → Option (Int32)
  | 0, _, _ => none
  | n + 1, x2, x4 =>
    if (S.1 0 18) ≤ x4 then
      some x2
    else
      if x2 = 0 then
        some x2
      else
        Option.bind (fYs_has S (S.1 0 34) x4) fun t86 =>
        Option.bind (α := Int32) (
          if t86 = 0 then
            Option.bind (fY0_lastOf N S x4) fun t92 =>
            if t92 = x1 then
              Option.bind (fY0_sumOf N S x4) fun t95 =>
              gd (inb x4 8) <|
              if t95 = (S.1 15 (Int32.toNatClampNeg x4)) then
                some 1
              else
                some 0
            else
              some 1
          else
            some 1
        ) fun t89 =>
        fY0_isWell_L241 N S x1 n t89 (x4 + 1)
set_option maxHeartbeats 4000000 in
set_option maxRecDepth 100000 in
theorem wY0_isWell_L241 {N : Nat} {S : St} {x1 : Int32} (hC : CallFix p m c cX10_isWell 7 s args lw_g RX10) (hF : 2 ≤ R.frames) (hL : 45 ≤ R.locals)  {t : Int32} (kx : ∀ (H : Heap) (locs : List Loc) (ls : Array Slot), wg LY G S s H locs → lv_has ls 7 [(2, .int t)] → W p l e R s m args below meth c H locs 0 0 Q (F0 m 304 ls [])) : ∀ (n : Nat) (x2 : Int32) (x4 : Int32), fY0_isWell_L241 N S x1 n x2 x4 = some t → ∀ (H : Heap) (locs : List Loc) (ls : Array Slot), wg LY G S s H locs → lv_has ls 7 [(0, .ref (ad G 0)), (1, .int x1), (2, .int x2), (4, .int x4)] → W p l e R s m args below meth c H locs 0 0 Q (F0 m 241 ls []) := by
  have hx := hC.1
  have hb := hC.2.1
  intro n
  induction n with
  | zero =>
    intro _ _ h
    cases h
  | succ n ih =>
    intro x2 x4 h H locs ls hW hl
    rw [fY0_isWell_L241] at h
    refine lv_iload hx hb dX10_isWell_241 (lv_at hl 3 rfl) ?_
    refine lv_aload_n hx hb dX10_isWell_243 rfl (lv_at hl 0 rfl) ?_
    refine gY0_18 hC hW dX10_isWell_244 ?_
    refine lv_icmp_ge (tgt := 304) hx hb dX10_isWell_247 (by decide) (fun q84 => ?_) (fun q84 => ?_)
    · have h := it_p q84 h
      cases h
      exact kx _ _ _ hW (lv_sub hl [2] rfl)
    · have h := it_n q84 h
      refine lv_iload_n hx hb dX10_isWell_250 rfl (lv_at hl 2 rfl) ?_
      refine lv_if_eq (tgt := 304) hx hb dX10_isWell_251 (by decide) (fun q85 => ?_) (fun q85 => ?_)
      · have h := it_p q85 h
        cases h
        exact kx _ _ _ hW (lv_sub hl [2] rfl)
      · have h := it_n q85 h
        refine lv_aload_n hx hb dX10_isWell_254 rfl (lv_at hl 0 rfl) ?_
        refine gY0_34 hC hW dX10_isWell_255 ?_
        refine lv_iload hx hb dX10_isWell_258 (lv_at hl 3 rfl) ?_
        obtain ⟨t86, e87, h⟩ := bd h
        refine x_goi (x_rs (rest := []) hC hW (ctYs_has e87) (cwS_g hC.2.2.2.2 ml_X10_208 ms_X10_has md_X10_has ⟨(Nat.le_trans (Nat.le_of_ble_eq_true rfl) hF), (Nat.le_trans (Nat.le_of_ble_eq_true rfl) hL)⟩) rfl hl.1 rfl (Nat.le_of_ble_eq_true rfl) dX10_isWell_260) hW (fun H locs hW => ?_)
        obtain ⟨t89, e90, h⟩ := bd h
        have K88 : ∀ (H : Heap) (locs : List Loc) (ls : Array Slot), wg LY G S s H locs → lv_has ls 7 [(0, .ref (ad G 0)), (1, .int x1), (4, .int x4)] → W p l e R s m args below meth c H locs 0 0 Q (F0 m 297 ls [.int t89]) := by
          intro H locs ls hW hl
          refine lv_istore_n (lv' := [(2, .int t89), (0, .ref (ad G 0)), (1, .int x1), (4, .int x4)]) hx hb dX10_isWell_297 rfl hl (by decide) rfl (fun ls hl => ?_)
          refine lv_iinc (v := x4 + 1) (lv' := [(4, .int (x4 + 1)), (2, .int t89), (0, .ref (ad G 0)), (1, .int x1)]) (k := 3) hx hb dX10_isWell_298 hl rfl rfl (by decide) rfl (fun ls hl => ?_)
          refine lv_goto (tgt := 241) hx hb dX10_isWell_301 (by decide) ?_
          exact ih _ _ h _ _ _ hW (lv_sub hl [2, 3, 1, 0] rfl)
        clear h
        have h := e90
        clear e90
        refine lv_if_ne (tgt := 292) hx hb dX10_isWell_263 (by decide) (fun q91 => ?_) (fun q91 => ?_)
        · have h := it_n q91 h
          refine lv_iconst (v := 1) hx hb dX10_isWell_292 (by decide) ?_
          refine lv_goto (tgt := 297) hx hb dX10_isWell_293 (by decide) ?_
          cases h
          exact K88 _ _ _ hW (lv_sub hl [0, 1, 3] rfl)
        · have h := it_p q91 h
          refine lv_aload_n hx hb dX10_isWell_266 rfl (lv_at hl 0 rfl) ?_
          refine lv_iload hx hb dX10_isWell_267 (lv_at hl 3 rfl) ?_
          obtain ⟨t92, e93, h⟩ := bd h
          refine x_goi (x_rv (rest := []) hC hW (ctY0_lastOf e93) (cwV_g hC.2.2.2.2 ml_X10_253 mi_X10_lastOf md_X10_lastOf ⟨(Nat.le_trans (Nat.le_of_ble_eq_true rfl) hF), (Nat.le_trans (Nat.le_of_ble_eq_true rfl) hL)⟩) (rcY0 hW) rfl hl.1 rfl (Nat.le_of_ble_eq_true rfl) dX10_isWell_269) hW (fun H locs hW => ?_)
          refine lv_iload_n hx hb dX10_isWell_272 rfl (lv_at hl 1 rfl) ?_
          refine lv_icmp_ne (tgt := 292) hx hb dX10_isWell_273 (by decide) (fun q94 => ?_) (fun q94 => ?_)
          · have h := it_n q94 h
            refine lv_iconst (v := 1) hx hb dX10_isWell_292 (by decide) ?_
            refine lv_goto (tgt := 297) hx hb dX10_isWell_293 (by decide) ?_
            cases h
            exact K88 _ _ _ hW (lv_sub hl [0, 1, 3] rfl)
          · have h := it_p q94 h
            refine lv_aload_n hx hb dX10_isWell_276 rfl (lv_at hl 0 rfl) ?_
            refine lv_iload hx hb dX10_isWell_277 (lv_at hl 3 rfl) ?_
            obtain ⟨t95, e96, h⟩ := bd h
            refine x_goi (x_rv (rest := []) hC hW (ctY0_sumOf e96) (cwV_g hC.2.2.2.2 ml_X10_256 mi_X10_sumOf md_X10_sumOf ⟨(Nat.le_trans (Nat.le_of_ble_eq_true rfl) hF), (Nat.le_trans (Nat.le_of_ble_eq_true rfl) hL)⟩) (rcY0 hW) rfl hl.1 rfl (Nat.le_of_ble_eq_true rfl) dX10_isWell_279) hW (fun H locs hW => ?_)
            refine lv_aload_n hx hb dX10_isWell_282 rfl (lv_at hl 0 rfl) ?_
            refine gY0_21 hC hW dX10_isWell_283 ?_
            refine lv_iload hx hb dX10_isWell_286 (lv_at hl 3 rfl) ?_
            obtain ⟨g97, h⟩ := gd_some h
            refine x_iald hC hW aY15 g97 dX10_isWell_288 ?_
            refine lv_icmp_ne (tgt := 296) hx hb dX10_isWell_289 (by decide) (fun q98 => ?_) (fun q98 => ?_)
            · have h := it_n q98 h
              refine lv_iconst (v := 0) hx hb dX10_isWell_296 (by decide) ?_
              cases h
              exact K88 _ _ _ hW (lv_sub hl [0, 1, 3] rfl)
            · have h := it_p q98 h
              refine lv_iconst (v := 1) hx hb dX10_isWell_292 (by decide) ?_
              refine lv_goto (tgt := 297) hx hb dX10_isWell_293 (by decide) ?_
              cases h
              exact K88 _ _ _ hW (lv_sub hl [0, 1, 3] rfl)
def fY0_isWell (N : Nat) (S : St) (x1 : Int32) : Option (Int32) :=
  Option.bind (fY0_isWell_L7 N S x1 N 1 0 0) fun t72 =>
  Option.bind (α := Int32) (
    if t72.1 = 0 then
      some 0
    else
      gd (inb x1 12) <|
      if (S.1 10 (Int32.toNatClampNeg x1)) = 3 then
        gd (inb x1 12) <|
        Option.bind (fY0_inHeap N S (S.1 22 (Int32.toNatClampNeg x1))) fun t81 =>
        if t81 < t72.2 then
          some 0
        else
          some 1
      else
        some 1
  ) fun t75 =>
  Option.bind (fY0_isWell_L241 N S x1 N t75 0) fun t99 =>
  gd (isb t99) <|
  some t99
set_option maxHeartbeats 4000000 in
set_option maxRecDepth 100000 in
theorem wY0_isWell {N : Nat} {S : St} {x1 : Int32} (hC : CallFix p m c cX10_isWell 7 s args lw_g RX10) (hF : 2 ≤ R.frames) (hL : 45 ≤ R.locals)  {v : Int32} (h : fY0_isWell N S x1 = some v) (kr : ∀ (H : Heap) (locs : List Loc) (ls : Array Slot) (pc : Nat), isb v = true → decode cX10_isWell pc = .ok (.ireturn, 1) → wg LY G S s H locs → W p l e R s m args below meth c H locs 0 0 Q (F0 m pc ls [.int v])) : ∀ (H : Heap) (locs : List Loc) (ls : Array Slot), wg LY G S s H locs → lv_has ls 7 [(0, .ref (ad G 0)), (1, .int x1)] → W p l e R s m args below meth c H locs 0 0 Q (F0 m 0 ls []) := by
  have hx := hC.1
  have hb := hC.2.1
  intro H locs ls hW hl
  unfold fY0_isWell at h
  refine lv_iconst (v := 1) hx hb dX10_isWell_0 (by decide) ?_
  refine lv_istore_n (lv' := [(2, .int 1), (0, .ref (ad G 0)), (1, .int x1)]) hx hb dX10_isWell_1 rfl hl (by decide) rfl (fun ls hl => ?_)
  refine lv_iconst (v := 0) hx hb dX10_isWell_2 (by decide) ?_
  refine lv_istore_n (lv' := [(3, .int 0), (2, .int 1), (0, .ref (ad G 0)), (1, .int x1)]) hx hb dX10_isWell_3 rfl hl (by decide) rfl (fun ls hl => ?_)
  refine lv_iconst (v := 0) hx hb dX10_isWell_4 (by decide) ?_
  refine lv_istore (lv' := [(4, .int 0), (3, .int 0), (2, .int 1), (0, .ref (ad G 0)), (1, .int x1)]) hx hb dX10_isWell_5 hl (by decide) rfl (fun ls hl => ?_)
  obtain ⟨t72, e73, h⟩ := bd h
  refine wY0_isWell_L7 hC hF hL  (fun H locs ls hW hl => ?_) _ _ _ _ e73 _ _ _ hW (lv_sub hl [3, 4, 2, 1, 0] rfl)
  refine lv_iload_n hx hb dX10_isWell_204 rfl (lv_at hl 2 rfl) ?_
  obtain ⟨t75, e76, h⟩ := bd h
  have K74 : ∀ (H : Heap) (locs : List Loc) (ls : Array Slot), wg LY G S s H locs → lv_has ls 7 [(0, .ref (ad G 0)), (1, .int x1)] → W p l e R s m args below meth c H locs 0 0 Q (F0 m 237 ls [.int t75]) := by
    intro H locs ls hW hl
    refine lv_istore_n (lv' := [(2, .int t75), (0, .ref (ad G 0)), (1, .int x1)]) hx hb dX10_isWell_237 rfl hl (by decide) rfl (fun ls hl => ?_)
    refine lv_iconst (v := 0) hx hb dX10_isWell_238 (by decide) ?_
    refine lv_istore (lv' := [(4, .int 0), (2, .int t75), (0, .ref (ad G 0)), (1, .int x1)]) hx hb dX10_isWell_239 hl (by decide) rfl (fun ls hl => ?_)
    obtain ⟨t99, e100, h⟩ := bd h
    refine wY0_isWell_L241 hC hF hL  (fun H locs ls hW hl => ?_) _ _ _ e100 _ _ _ hW (lv_sub hl [2, 3, 1, 0] rfl)
    refine lv_iload_n hx hb dX10_isWell_304 rfl (lv_at hl 0 rfl) ?_
    obtain ⟨g101, h⟩ := gd_some h
    cases h
    exact kr _ _ _ _ g101 dX10_isWell_305 hW
  clear h
  have h := e76
  clear e76
  refine lv_if_eq (tgt := 236) hx hb dX10_isWell_205 (by decide) (fun q77 => ?_) (fun q77 => ?_)
  · have h := it_p q77 h
    refine lv_iconst (v := 0) hx hb dX10_isWell_236 (by decide) ?_
    cases h
    exact K74 _ _ _ hW (lv_sub hl [0, 1] rfl)
  · have h := it_n q77 h
    refine lv_aload_n hx hb dX10_isWell_208 rfl (lv_at hl 0 rfl) ?_
    refine gY0_15 hC hW dX10_isWell_209 ?_
    refine lv_iload_n hx hb dX10_isWell_212 rfl (lv_at hl 1 rfl) ?_
    obtain ⟨g78, h⟩ := gd_some h
    refine x_iald hC hW aY10 g78 dX10_isWell_213 ?_
    refine lv_iconst (v := 3) hx hb dX10_isWell_214 (by decide) ?_
    refine lv_icmp_ne (tgt := 232) hx hb dX10_isWell_215 (by decide) (fun q79 => ?_) (fun q79 => ?_)
    · have h := it_n q79 h
      refine lv_iconst (v := 1) hx hb dX10_isWell_232 (by decide) ?_
      refine lv_goto (tgt := 237) hx hb dX10_isWell_233 (by decide) ?_
      cases h
      exact K74 _ _ _ hW (lv_sub hl [0, 1] rfl)
    · have h := it_p q79 h
      refine lv_iload_n hx hb dX10_isWell_218 rfl (lv_at hl 3 rfl) ?_
      refine lv_aload_n hx hb dX10_isWell_219 rfl (lv_at hl 0 rfl) ?_
      refine lv_aload_n hx hb dX10_isWell_220 rfl (lv_at hl 0 rfl) ?_
      refine gY0_30 hC hW dX10_isWell_221 ?_
      refine lv_iload_n hx hb dX10_isWell_224 rfl (lv_at hl 1 rfl) ?_
      obtain ⟨g80, h⟩ := gd_some h
      refine x_iald hC hW aY22 g80 dX10_isWell_225 ?_
      obtain ⟨t81, e82, h⟩ := bd h
      refine x_goi (x_rv (rest := [.int t72.2]) hC hW (ctY0_inHeap e82) (cwV_g hC.2.2.2.2 ml_X10_190 mi_X10_inHeap md_X10_inHeap ⟨(Nat.le_trans (Nat.le_of_ble_eq_true rfl) hF), (Nat.le_trans (Nat.le_of_ble_eq_true rfl) hL)⟩) (rcY0 hW) rfl hl.1 rfl (Nat.le_of_ble_eq_true rfl) dX10_isWell_226) hW (fun H locs hW => ?_)
      refine lv_icmp_gt (tgt := 236) hx hb dX10_isWell_229 (by decide) (fun q83 => ?_) (fun q83 => ?_)
      · have h := it_p q83 h
        refine lv_iconst (v := 0) hx hb dX10_isWell_236 (by decide) ?_
        cases h
        exact K74 _ _ _ hW (lv_sub hl [0, 1] rfl)
      · have h := it_n q83 h
        refine lv_iconst (v := 1) hx hb dX10_isWell_232 (by decide) ?_
        refine lv_goto (tgt := 237) hx hb dX10_isWell_233 (by decide) ?_
        cases h
        exact K74 _ _ _ hW (lv_sub hl [0, 1] rfl)
theorem ctY0_isWell {N : Nat} {S : St} {x1 : Int32}  {v : Int32} (h : fY0_isWell N S x1 = some v) : Met l yX10_isWell (wm yX10_isWell cX10_isWell 7 (some .boolean)) (rmx 2 45) (pcm LY G S [.ref (ad G 0), .int x1]) (qcI LY G S v) 0 0 G.2.2.2 :=
  x_enter (own := RX10) rfl rfl (Nat.le_of_ble_eq_true rfl) (fun p e s m below meth c ls hC hr hk hW hl => wY0_isWell hC (Nat.le_refl _) (Nat.le_refl _)  h (fun H locs ls pc hz hd hW => x_retz hC hr hk hW hz hd) _ _ _ hW hl)
def fY0_nextFilling_L55 (N : Nat) (S : St) (x1 : Int32) : Nat → Int32 → Option (Int32)
  | 0, _ => none
  | n + 1, x2 =>
    if 100 ≤ x2 then
      some x2
    else
      gd (inb ((100 * x1) + x2) 1200) <|
      if (S.1 17 (Int32.toNatClampNeg ((100 * x1) + x2))) = 0 then
        fY0_nextFilling_L55 N S x1 n (x2 + 1)
      else
        some x2
set_option maxHeartbeats 4000000 in
set_option maxRecDepth 100000 in
theorem wY0_nextFilling_L55 {N : Nat} {S : St} {x1 : Int32} (hC : CallFix p m c cX10_nextFilling 3 s args lw_g RX10) (hF : 3 ≤ R.frames) (hL : 71 ≤ R.locals)  {t : Int32} (kx : ∀ (H : Heap) (locs : List Loc) (ls : Array Slot), wg LY G S s H locs → lv_has ls 3 [(0, .ref (ad G 0)), (1, .int x1), (2, .int t)] → W p l e R s m args below meth c H locs 0 0 Q (F0 m 81 ls [])) : ∀ (n : Nat) (x2 : Int32), fY0_nextFilling_L55 N S x1 n x2 = some t → ∀ (H : Heap) (locs : List Loc) (ls : Array Slot), wg LY G S s H locs → lv_has ls 3 [(0, .ref (ad G 0)), (1, .int x1), (2, .int x2)] → W p l e R s m args below meth c H locs 0 0 Q (F0 m 55 ls []) := by
  have hx := hC.1
  have hb := hC.2.1
  intro n
  induction n with
  | zero =>
    intro _ h
    cases h
  | succ n ih =>
    intro x2 h H locs ls hW hl
    rw [fY0_nextFilling_L55] at h
    refine lv_iload_n hx hb dX10_nextFilling_55 rfl (lv_at hl 2 rfl) ?_
    refine lv_bipush (v := 100) hx hb dX10_nextFilling_56 (by decide) ?_
    refine lv_icmp_ge (tgt := 81) hx hb dX10_nextFilling_58 (by decide) (fun q10 => ?_) (fun q10 => ?_)
    · have h := it_p q10 h
      cases h
      exact kx _ _ _ hW (lv_sub hl [0, 1, 2] rfl)
    · have h := it_n q10 h
      refine lv_aload_n hx hb dX10_nextFilling_61 rfl (lv_at hl 0 rfl) ?_
      refine gY0_24 hC hW dX10_nextFilling_62 ?_
      refine lv_bipush (v := 100) hx hb dX10_nextFilling_65 (by decide) ?_
      refine lv_iload_n hx hb dX10_nextFilling_67 rfl (lv_at hl 1 rfl) ?_
      refine lv_imul hx hb dX10_nextFilling_68 ?_
      refine lv_iload_n hx hb dX10_nextFilling_69 rfl (lv_at hl 2 rfl) ?_
      refine lv_iadd hx hb dX10_nextFilling_70 ?_
      obtain ⟨g11, h⟩ := gd_some h
      refine x_zald hC hW zY17 g11 dX10_nextFilling_71 ?_
      refine lv_if_ne (tgt := 81) hx hb dX10_nextFilling_72 (by decide) (fun q12 => ?_) (fun q12 => ?_)
      · have h := it_n q12 h
        cases h
        exact kx _ _ _ hW (lv_sub hl [0, 1, 2] rfl)
      · have h := it_p q12 h
        refine lv_iinc (v := x2 + 1) (lv' := [(2, .int (x2 + 1)), (0, .ref (ad G 0)), (1, .int x1)]) (k := 2) hx hb dX10_nextFilling_75 hl rfl rfl (by decide) rfl (fun ls hl => ?_)
        refine lv_goto (tgt := 55) hx hb dX10_nextFilling_78 (by decide) ?_
        exact ih _ h _ _ _ hW (lv_sub hl [1, 2, 0] rfl)
def fY0_nextFilling_L21 (N : Nat)  : Nat → St → Option ((Int32 × St) ⊕ (St))
  | 0, _ => none
  | n + 1, S =>
    if (S.1 0 35) = 0 then
      if (S.1 0 31) < 0 then
        some (.inr S)
      else
        gd (inb (S.1 0 31) 12) <|
        nx (S.1 20 (Int32.toNatClampNeg (S.1 0 31))) fun y5 =>
        gd (inb (S.1 0 31) 12) <|
        nx (S.1 21 (Int32.toNatClampNeg (S.1 0 31))) fun y8 =>
        Option.bind (fY0_nextFilling_L55 N S y5 N y8) fun t13 =>
        if t13 = 100 then
          nx (p1 S 0 31 ((S.1 0 31) - 1)) fun s36 =>
          fY0_nextFilling_L21 N n s36
        else
          gd (inb (S.1 0 31) 12) <|
          nx (p1 S 21 (Int32.toNatClampNeg (S.1 0 31)) (t13 + 1)) fun s17 =>
          nx (p1 s17 0 32 ((s17.1 0 32) + 1)) fun s19 =>
          if (s19.1 0 32) ≤ (s19.1 0 33) then
            gd (inb y5 12) <|
            nx (p1 s19 22 (Int32.toNatClampNeg y5) t13) fun s23 =>
            Option.bind (fY0_isWell N s23 y5) fun t25 =>
            if t25 = 0 then
              fY0_nextFilling_L21 N n s23
            else
              if (s23.1 0 31) = ((s23.1 0 27) - 1) then
                some (.inl (1, s23))
              else
                nx (p1 s23 0 31 ((s23.1 0 31) + 1)) fun s29 =>
                gd (inb (s29.1 0 31) 12) <|
                nx (p1 s29 21 (Int32.toNatClampNeg (s29.1 0 31)) 0) fun s32 =>
                fY0_nextFilling_L21 N n s32
          else
            nx (p1 s19 0 36 1) fun s34 =>
            some (.inr s34)
    else
      some (.inr S)
set_option maxHeartbeats 4000000 in
set_option maxRecDepth 100000 in
theorem wY0_nextFilling_L21 {N : Nat}  (hC : CallFix p m c cX10_nextFilling 3 s args lw_g RX10) (hF : 3 ≤ R.frames) (hL : 71 ≤ R.locals)  {t : (Int32 × St) ⊕ (St)} (kr : ∀ r, t = .inl r → ∀ (H : Heap) (locs : List Loc) (ls : Array Slot) (pc : Nat), isb r.1 = true → decode cX10_nextFilling pc = .ok (.ireturn, 1) → wg LY G r.2 s H locs → W p l e R s m args below meth c H locs 0 0 Q (F0 m pc ls [.int r.1])) (kx : ∀ u, t = .inr u → ∀ (H : Heap) (locs : List Loc) (ls : Array Slot), wg LY G u s H locs → lv_has ls 3 [(0, .ref (ad G 0))] → W p l e R s m args below meth c H locs 0 0 Q (F0 m 194 ls [])) : ∀ (n : Nat) (S : St), fY0_nextFilling_L21 N  n S = some t → ∀ (H : Heap) (locs : List Loc) (ls : Array Slot), wg LY G S s H locs → lv_has ls 3 [(0, .ref (ad G 0))] → W p l e R s m args below meth c H locs 0 0 Q (F0 m 21 ls []) := by
  have hx := hC.1
  have hb := hC.2.1
  intro n
  induction n with
  | zero =>
    intro _ h
    cases h
  | succ n ih =>
    intro S h H locs ls hW hl
    rw [fY0_nextFilling_L21] at h
    refine lv_aload_n hx hb dX10_nextFilling_21 rfl (lv_at hl 0 rfl) ?_
    refine gY0_35 hC hW dX10_nextFilling_22 ?_
    refine lv_if_ne (tgt := 194) hx hb dX10_nextFilling_25 (by decide) (fun q2 => ?_) (fun q2 => ?_)
    · have h := it_n q2 h
      cases h
      exact kx _ rfl _ _ _ hW (lv_sub hl [0] rfl)
    · have h := it_p q2 h
      refine lv_aload_n hx hb dX10_nextFilling_28 rfl (lv_at hl 0 rfl) ?_
      refine gY0_31 hC hW dX10_nextFilling_29 ?_
      refine lv_if_lt (tgt := 194) hx hb dX10_nextFilling_32 (by decide) (fun q3 => ?_) (fun q3 => ?_)
      · have h := it_p q3 h
        cases h
        exact kx _ rfl _ _ _ hW (lv_sub hl [0] rfl)
      · have h := it_n q3 h
        refine lv_aload_n hx hb dX10_nextFilling_35 rfl (lv_at hl 0 rfl) ?_
        refine gY0_28 hC hW dX10_nextFilling_36 ?_
        refine lv_aload_n hx hb dX10_nextFilling_39 rfl (lv_at hl 0 rfl) ?_
        refine gY0_31 hC hW dX10_nextFilling_40 ?_
        obtain ⟨g4, h⟩ := gd_some h
        refine x_iald hC hW aY20 g4 dX10_nextFilling_43 ?_
        obtain ⟨y5, e6, h⟩ := nx_some h
        refine x_topi e6 ?_
        refine lv_istore_n (lv' := [(1, .int y5), (0, .ref (ad G 0))]) hx hb dX10_nextFilling_44 rfl hl (by decide) rfl (fun ls hl => ?_)
        refine lv_aload_n hx hb dX10_nextFilling_45 rfl (lv_at hl 1 rfl) ?_
        refine gY0_29 hC hW dX10_nextFilling_46 ?_
        refine lv_aload_n hx hb dX10_nextFilling_49 rfl (lv_at hl 1 rfl) ?_
        refine gY0_31 hC hW dX10_nextFilling_50 ?_
        obtain ⟨g7, h⟩ := gd_some h
        refine x_iald hC hW aY21 g7 dX10_nextFilling_53 ?_
        obtain ⟨y8, e9, h⟩ := nx_some h
        refine x_topi e9 ?_
        refine lv_istore_n (lv' := [(2, .int y8), (1, .int y5), (0, .ref (ad G 0))]) hx hb dX10_nextFilling_54 rfl hl (by decide) rfl (fun ls hl => ?_)
        obtain ⟨t13, e14, h⟩ := bd h
        refine wY0_nextFilling_L55 hC hF hL  (fun H locs ls hW hl => ?_) _ _ e14 _ _ _ hW (lv_sub hl [2, 1, 0] rfl)
        refine lv_iload_n hx hb dX10_nextFilling_81 rfl (lv_at hl 2 rfl) ?_
        refine lv_bipush (v := 100) hx hb dX10_nextFilling_82 (by decide) ?_
        refine lv_icmp_ne (tgt := 100) hx hb dX10_nextFilling_84 (by decide) (fun q15 => ?_) (fun q15 => ?_)
        · have h := it_n q15 h
          refine lv_aload_n hx hb dX10_nextFilling_100 rfl (lv_at hl 0 rfl) ?_
          refine gY0_29 hC hW dX10_nextFilling_101 ?_
          refine lv_aload_n hx hb dX10_nextFilling_104 rfl (lv_at hl 0 rfl) ?_
          refine gY0_31 hC hW dX10_nextFilling_105 ?_
          refine lv_iload_n hx hb dX10_nextFilling_108 rfl (lv_at hl 2 rfl) ?_
          refine lv_iconst (v := 1) hx hb dX10_nextFilling_109 (by decide) ?_
          refine lv_iadd hx hb dX10_nextFilling_110 ?_
          obtain ⟨g16, h⟩ := gd_some h
          refine x_iast hC hW aY21 g16 dX10_nextFilling_111 (fun H locs hW => ?_)
          obtain ⟨s17, e18, h⟩ := nx_some h
          rw [← e18] at hW
          refine lv_aload_n hx hb dX10_nextFilling_112 rfl (lv_at hl 0 rfl) ?_
          refine lv_dup hx hb dX10_nextFilling_113 rfl ?_
          refine gY0_32 hC hW dX10_nextFilling_114 ?_
          refine lv_iconst (v := 1) hx hb dX10_nextFilling_117 (by decide) ?_
          refine lv_iadd hx hb dX10_nextFilling_118 ?_
          refine pY0_32 hC hW dX10_nextFilling_119 (fun H locs hW => ?_)
          obtain ⟨s19, e20, h⟩ := nx_some h
          rw [← e20] at hW
          refine lv_aload_n hx hb dX10_nextFilling_122 rfl (lv_at hl 0 rfl) ?_
          refine gY0_32 hC hW dX10_nextFilling_123 ?_
          refine lv_aload_n hx hb dX10_nextFilling_126 rfl (lv_at hl 0 rfl) ?_
          refine gY0_33 hC hW dX10_nextFilling_127 ?_
          refine lv_icmp_le (tgt := 141) hx hb dX10_nextFilling_130 (by decide) (fun q21 => ?_) (fun q21 => ?_)
          · have h := it_p q21 h
            refine lv_aload_n hx hb dX10_nextFilling_141 rfl (lv_at hl 0 rfl) ?_
            refine gY0_30 hC hW dX10_nextFilling_142 ?_
            refine lv_iload_n hx hb dX10_nextFilling_145 rfl (lv_at hl 1 rfl) ?_
            refine lv_iload_n hx hb dX10_nextFilling_146 rfl (lv_at hl 2 rfl) ?_
            obtain ⟨g22, h⟩ := gd_some h
            refine x_iast hC hW aY22 g22 dX10_nextFilling_147 (fun H locs hW => ?_)
            obtain ⟨s23, e24, h⟩ := nx_some h
            rw [← e24] at hW
            refine lv_aload_n hx hb dX10_nextFilling_148 rfl (lv_at hl 0 rfl) ?_
            refine lv_iload_n hx hb dX10_nextFilling_149 rfl (lv_at hl 1 rfl) ?_
            obtain ⟨t25, e26, h⟩ := bd h
            refine x_goi (x_rv (rest := []) hC hW (ctY0_isWell e26) (cwV_g hC.2.2.2.2 ml_X10_259 mi_X10_isWell md_X10_isWell ⟨(Nat.le_trans (Nat.le_of_ble_eq_true rfl) hF), (Nat.le_trans (Nat.le_of_ble_eq_true rfl) hL)⟩) (rcY0 hW) rfl hl.1 rfl (Nat.le_of_ble_eq_true rfl) dX10_nextFilling_150) hW (fun H locs hW => ?_)
            refine lv_if_eq (tgt := 191) hx hb dX10_nextFilling_153 (by decide) (fun q27 => ?_) (fun q27 => ?_)
            · have h := it_p q27 h
              refine lv_goto (tgt := 21) hx hb dX10_nextFilling_191 (by decide) ?_
              exact ih _ h _ _ _ hW (lv_sub hl [0] rfl)
            · have h := it_n q27 h
              refine lv_aload_n hx hb dX10_nextFilling_156 rfl (lv_at hl 0 rfl) ?_
              refine gY0_31 hC hW dX10_nextFilling_157 ?_
              refine lv_aload_n hx hb dX10_nextFilling_160 rfl (lv_at hl 0 rfl) ?_
              refine gY0_27 hC hW dX10_nextFilling_161 ?_
              refine lv_iconst (v := 1) hx hb dX10_nextFilling_164 (by decide) ?_
              refine lv_isub hx hb dX10_nextFilling_165 ?_
              refine lv_icmp_ne (tgt := 171) hx hb dX10_nextFilling_166 (by decide) (fun q28 => ?_) (fun q28 => ?_)
              · have h := it_n q28 h
                refine lv_aload_n hx hb dX10_nextFilling_171 rfl (lv_at hl 0 rfl) ?_
                refine lv_dup hx hb dX10_nextFilling_172 rfl ?_
                refine gY0_31 hC hW dX10_nextFilling_173 ?_
                refine lv_iconst (v := 1) hx hb dX10_nextFilling_176 (by decide) ?_
                refine lv_iadd hx hb dX10_nextFilling_177 ?_
                refine pY0_31 hC hW dX10_nextFilling_178 (fun H locs hW => ?_)
                obtain ⟨s29, e30, h⟩ := nx_some h
                rw [← e30] at hW
                refine lv_aload_n hx hb dX10_nextFilling_181 rfl (lv_at hl 0 rfl) ?_
                refine gY0_29 hC hW dX10_nextFilling_182 ?_
                refine lv_aload_n hx hb dX10_nextFilling_185 rfl (lv_at hl 0 rfl) ?_
                refine gY0_31 hC hW dX10_nextFilling_186 ?_
                refine lv_iconst (v := 0) hx hb dX10_nextFilling_189 (by decide) ?_
                obtain ⟨g31, h⟩ := gd_some h
                refine x_iast hC hW aY21 g31 dX10_nextFilling_190 (fun H locs hW => ?_)
                obtain ⟨s32, e33, h⟩ := nx_some h
                rw [← e33] at hW
                refine lv_goto (tgt := 21) hx hb dX10_nextFilling_191 (by decide) ?_
                exact ih _ h _ _ _ hW (lv_sub hl [0] rfl)
              · have h := it_p q28 h
                refine lv_iconst (v := 1) hx hb dX10_nextFilling_169 (by decide) ?_
                cases h
                exact kr _ rfl _ _ _ _ rfl dX10_nextFilling_170 hW
          · have h := it_n q21 h
            refine lv_aload_n hx hb dX10_nextFilling_133 rfl (lv_at hl 0 rfl) ?_
            refine lv_iconst (v := 1) hx hb dX10_nextFilling_134 (by decide) ?_
            refine pY0_36 hC hW rfl dX10_nextFilling_135 (fun H locs hW => ?_)
            obtain ⟨s34, e35, h⟩ := nx_some h
            rw [← e35] at hW
            refine lv_goto (tgt := 194) hx hb dX10_nextFilling_138 (by decide) ?_
            cases h
            exact kx _ rfl _ _ _ hW (lv_sub hl [0] rfl)
        · have h := it_p q15 h
          refine lv_aload_n hx hb dX10_nextFilling_87 rfl (lv_at hl 0 rfl) ?_
          refine lv_dup hx hb dX10_nextFilling_88 rfl ?_
          refine gY0_31 hC hW dX10_nextFilling_89 ?_
          refine lv_iconst (v := 1) hx hb dX10_nextFilling_92 (by decide) ?_
          refine lv_isub hx hb dX10_nextFilling_93 ?_
          refine pY0_31 hC hW dX10_nextFilling_94 (fun H locs hW => ?_)
          obtain ⟨s36, e37, h⟩ := nx_some h
          rw [← e37] at hW
          refine lv_goto (tgt := 21) hx hb dX10_nextFilling_97 (by decide) ?_
          exact ih _ h _ _ _ hW (lv_sub hl [0] rfl)
def fY0_nextFilling (N : Nat) (S : St)  : Option (Int32 × St) :=
  if (S.1 0 35) = 0 then
    if (S.1 0 27) = 0 then
      nx (p1 S 0 35 1) fun s49 =>
      some (1, s49)
    else
      Option.bind (fY0_nextFilling_L21 N N S) fun t44 => sm t44 fun u46 =>
      nx (p1 u46 0 35 1) fun s47 =>
      some (0, s47)
  else
    Option.bind (fY0_nextFilling_L21 N N S) fun t38 => sm t38 fun u40 =>
    nx (p1 u40 0 35 1) fun s41 =>
    some (0, s41)
set_option maxHeartbeats 4000000 in
set_option maxRecDepth 100000 in
theorem wY0_nextFilling {N : Nat} {S : St}  (hC : CallFix p m c cX10_nextFilling 3 s args lw_g RX10) (hF : 3 ≤ R.frames) (hL : 71 ≤ R.locals)  {v : Int32} {S' : St} (h : fY0_nextFilling N S = some (v, S')) (kr : ∀ (H : Heap) (locs : List Loc) (ls : Array Slot) (pc : Nat), isb v = true → decode cX10_nextFilling pc = .ok (.ireturn, 1) → wg LY G (S') s H locs → W p l e R s m args below meth c H locs 0 0 Q (F0 m pc ls [.int v])) : ∀ (H : Heap) (locs : List Loc) (ls : Array Slot), wg LY G S s H locs → lv_has ls 3 [(0, .ref (ad G 0))] → W p l e R s m args below meth c H locs 0 0 Q (F0 m 0 ls []) := by
  have hx := hC.1
  have hb := hC.2.1
  intro H locs ls hW hl
  unfold fY0_nextFilling at h
  refine lv_aload_n hx hb dX10_nextFilling_0 rfl (lv_at hl 0 rfl) ?_
  refine gY0_35 hC hW dX10_nextFilling_1 ?_
  refine lv_if_ne (tgt := 21) hx hb dX10_nextFilling_4 (by decide) (fun q1 => ?_) (fun q1 => ?_)
  · have h := it_n q1 h
    obtain ⟨t38, e39, h⟩ := bd h
    refine wY0_nextFilling_L21 hC hF hL  (fun r er H locs ls pc hz hd hW => ?_) (fun u40 eu H locs ls hW hl => ?_) _ _ e39 _ _ _ hW (lv_sub hl [0] rfl)
    · rw [er] at h
      have h := sm_l h
      cases h
      exact kr _ _ _ _ hz hd hW
    · rw [eu] at h
      have h := sm_r h
      refine lv_aload_n hx hb dX10_nextFilling_194 rfl (lv_at hl 0 rfl) ?_
      refine lv_iconst (v := 1) hx hb dX10_nextFilling_195 (by decide) ?_
      refine pY0_35 hC hW rfl dX10_nextFilling_196 (fun H locs hW => ?_)
      obtain ⟨s41, e42, h⟩ := nx_some h
      rw [← e42] at hW
      refine lv_iconst (v := 0) hx hb dX10_nextFilling_199 (by decide) ?_
      cases h
      exact kr _ _ _ _ rfl dX10_nextFilling_200 hW
  · have h := it_p q1 h
    refine lv_aload_n hx hb dX10_nextFilling_7 rfl (lv_at hl 0 rfl) ?_
    refine gY0_27 hC hW dX10_nextFilling_8 ?_
    refine lv_if_ne (tgt := 21) hx hb dX10_nextFilling_11 (by decide) (fun q43 => ?_) (fun q43 => ?_)
    · have h := it_n q43 h
      obtain ⟨t44, e45, h⟩ := bd h
      refine wY0_nextFilling_L21 hC hF hL  (fun r er H locs ls pc hz hd hW => ?_) (fun u46 eu H locs ls hW hl => ?_) _ _ e45 _ _ _ hW (lv_sub hl [0] rfl)
      · rw [er] at h
        have h := sm_l h
        cases h
        exact kr _ _ _ _ hz hd hW
      · rw [eu] at h
        have h := sm_r h
        refine lv_aload_n hx hb dX10_nextFilling_194 rfl (lv_at hl 0 rfl) ?_
        refine lv_iconst (v := 1) hx hb dX10_nextFilling_195 (by decide) ?_
        refine pY0_35 hC hW rfl dX10_nextFilling_196 (fun H locs hW => ?_)
        obtain ⟨s47, e48, h⟩ := nx_some h
        rw [← e48] at hW
        refine lv_iconst (v := 0) hx hb dX10_nextFilling_199 (by decide) ?_
        cases h
        exact kr _ _ _ _ rfl dX10_nextFilling_200 hW
    · have h := it_p q43 h
      refine lv_aload_n hx hb dX10_nextFilling_14 rfl (lv_at hl 0 rfl) ?_
      refine lv_iconst (v := 1) hx hb dX10_nextFilling_15 (by decide) ?_
      refine pY0_35 hC hW rfl dX10_nextFilling_16 (fun H locs hW => ?_)
      obtain ⟨s49, e50, h⟩ := nx_some h
      rw [← e50] at hW
      refine lv_iconst (v := 1) hx hb dX10_nextFilling_19 (by decide) ?_
      cases h
      exact kr _ _ _ _ rfl dX10_nextFilling_20 hW
theorem ctY0_nextFilling {N : Nat} {S : St}   {v : Int32} {S' : St} (h : fY0_nextFilling N S = some (v, S')) : Met l yX10_nextFilling (wm yX10_nextFilling cX10_nextFilling 3 (some .boolean)) (rmx 3 71) (pcm LY G S [.ref (ad G 0)]) (qcI LY G S' v) 0 0 G.2.2.2 :=
  x_enter (own := RX10) rfl rfl (Nat.le_of_ble_eq_true rfl) (fun p e s m below meth c ls hC hr hk hW hl => wY0_nextFilling hC (Nat.le_refl _) (Nat.le_refl _)  h (fun H locs ls pc hz hd hW => x_retz hC hr hk hW hz hd) _ _ _ hW hl)
end GEN
