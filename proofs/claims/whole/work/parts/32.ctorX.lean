theorem win_X0 : Cond.instantiable RX0 5 ∈ lw_g := mt 87 (by decide +kernel) rfl
theorem wit_X0 : Cond.initialized RX0 ∈ lw_g := mt 5 (by decide +kernel) rfl
theorem wim_X0 : Cond.instanceMethod yX0_init ∈ lw_g := mt 89 (by decide +kernel) rfl
theorem mdc_X0 : (yX0_init).cls ≠ "java/lang/invoke/MethodHandle" ∧ (yX0_init).cls ≠ "java/lang/invoke/VarHandle" ∧ (parseMethodDescriptor (yX0_init).desc).map (fun d => d.parameters.length) = some 1 := by decide +kernel
theorem win_X1 : Cond.instantiable RX1 3 ∈ lw_g := mt 71 (by decide +kernel) rfl
theorem wit_X1 : Cond.initialized RX1 ∈ lw_g := mt 4 (by decide +kernel) rfl
theorem wim_X1 : Cond.instanceMethod yX1_init ∈ lw_g := mt 73 (by decide +kernel) rfl
theorem mdc_X1 : (yX1_init).cls ≠ "java/lang/invoke/MethodHandle" ∧ (yX1_init).cls ≠ "java/lang/invoke/VarHandle" ∧ (parseMethodDescriptor (yX1_init).desc).map (fun d => d.parameters.length) = some 0 := by decide +kernel
theorem win_X2 : Cond.instantiable RX2 7 ∈ lw_g := mt 131 (by decide +kernel) rfl
theorem wit_X2 : Cond.initialized RX2 ∈ lw_g := mt 7 (by decide +kernel) rfl
theorem wim_X2 : Cond.instanceMethod yX2_init ∈ lw_g := mt 133 (by decide +kernel) rfl
theorem mdc_X2 : (yX2_init).cls ≠ "java/lang/invoke/MethodHandle" ∧ (yX2_init).cls ≠ "java/lang/invoke/VarHandle" ∧ (parseMethodDescriptor (yX2_init).desc).map (fun d => d.parameters.length) = some 2 := by decide +kernel
theorem win_X3 : Cond.instantiable RX3 5 ∈ lw_g := mt 215 (by decide +kernel) rfl
theorem wit_X3 : Cond.initialized RX3 ∈ lw_g := mt 9 (by decide +kernel) rfl
theorem wim_X3 : Cond.instanceMethod yX3_init ∈ lw_g := mt 217 (by decide +kernel) rfl
theorem mdc_X3 : (yX3_init).cls ≠ "java/lang/invoke/MethodHandle" ∧ (yX3_init).cls ≠ "java/lang/invoke/VarHandle" ∧ (parseMethodDescriptor (yX3_init).desc).map (fun d => d.parameters.length) = some 0 := by decide +kernel
theorem win_X4 : Cond.instantiable RX4 9 ∈ lw_g := mt 237 (by decide +kernel) rfl
theorem wit_X4 : Cond.initialized RX4 ∈ lw_g := mt 10 (by decide +kernel) rfl
theorem wim_X4 : Cond.instanceMethod yX4_init ∈ lw_g := mt 239 (by decide +kernel) rfl
theorem mdc_X4 : (yX4_init).cls ≠ "java/lang/invoke/MethodHandle" ∧ (yX4_init).cls ≠ "java/lang/invoke/VarHandle" ∧ (parseMethodDescriptor (yX4_init).desc).map (fun d => d.parameters.length) = some 3 := by decide +kernel
theorem win_X5 : Cond.instantiable RX5 7 ∈ lw_g := mt 43 (by decide +kernel) rfl
theorem wit_X5 : Cond.initialized RX5 ∈ lw_g := mt 3 (by decide +kernel) rfl
theorem wim_X5 : Cond.instanceMethod yX5_init ∈ lw_g := mt 45 (by decide +kernel) rfl
theorem mdc_X5 : (yX5_init).cls ≠ "java/lang/invoke/MethodHandle" ∧ (yX5_init).cls ≠ "java/lang/invoke/VarHandle" ∧ (parseMethodDescriptor (yX5_init).desc).map (fun d => d.parameters.length) = some 0 := by decide +kernel
theorem win_X6 : Cond.instantiable RX6 3 ∈ lw_g := mt 24 (by decide +kernel) rfl
theorem wit_X6 : Cond.initialized RX6 ∈ lw_g := mt 2 (by decide +kernel) rfl
theorem wim_X6 : Cond.instanceMethod yX6_init ∈ lw_g := mt 26 (by decide +kernel) rfl
theorem mdc_X6 : (yX6_init).cls ≠ "java/lang/invoke/MethodHandle" ∧ (yX6_init).cls ≠ "java/lang/invoke/VarHandle" ∧ (parseMethodDescriptor (yX6_init).desc).map (fun d => d.parameters.length) = some 3 := by decide +kernel
theorem win_X7 : Cond.instantiable RX7 5 ∈ lw_g := mt 109 (by decide +kernel) rfl
theorem wit_X7 : Cond.initialized RX7 ∈ lw_g := mt 6 (by decide +kernel) rfl
theorem wim_X7 : Cond.instanceMethod yX7_init ∈ lw_g := mt 111 (by decide +kernel) rfl
theorem mdc_X7 : (yX7_init).cls ≠ "java/lang/invoke/MethodHandle" ∧ (yX7_init).cls ≠ "java/lang/invoke/VarHandle" ∧ (parseMethodDescriptor (yX7_init).desc).map (fun d => d.parameters.length) = some 1 := by decide +kernel
theorem win_X8 : Cond.instantiable RX8 16 ∈ lw_g := mt 160 (by decide +kernel) rfl
theorem wit_X8 : Cond.initialized RX8 ∈ lw_g := mt 8 (by decide +kernel) rfl
theorem wim_X8 : Cond.instanceMethod yX8_init ∈ lw_g := mt 162 (by decide +kernel) rfl
theorem mdc_X8 : (yX8_init).cls ≠ "java/lang/invoke/MethodHandle" ∧ (yX8_init).cls ≠ "java/lang/invoke/VarHandle" ∧ (parseMethodDescriptor (yX8_init).desc).map (fun d => d.parameters.length) = some 3 := by decide +kernel
theorem win_X9 : Cond.instantiable RX9 15 ∈ lw_g := mt 16 (by decide +kernel) rfl
theorem wit_X9 : Cond.initialized RX9 ∈ lw_g := mt 1 (by decide +kernel) rfl
theorem wim_X9 : Cond.instanceMethod yX9_init ∈ lw_g := mt 18 (by decide +kernel) rfl
theorem mdc_X9 : (yX9_init).cls ≠ "java/lang/invoke/MethodHandle" ∧ (yX9_init).cls ≠ "java/lang/invoke/VarHandle" ∧ (parseMethodDescriptor (yX9_init).desc).map (fun d => d.parameters.length) = some 0 := by decide +kernel
theorem win_X10 : Cond.instantiable RX10 44 ∈ lw_g := mt 1054 (by decide +kernel) rfl
theorem wit_X10 : Cond.initialized RX10 ∈ lw_g := mt 11 (by decide +kernel) rfl
theorem wim_X10 : Cond.instanceMethod yX10_init ∈ lw_g := mt 1056 (by decide +kernel) rfl
theorem mdc_X10 : (yX10_init).cls ≠ "java/lang/invoke/MethodHandle" ∧ (yX10_init).cls ≠ "java/lang/invoke/VarHandle" ∧ (parseMethodDescriptor (yX10_init).desc).map (fun d => d.parameters.length) = some 0 := by decide +kernel
section CG
variable {p : Program} {l : Launch} {e : Env} {R : Room} {s : State} {m : MethodId} {args : Array Value} {below : List Frame} {meth : Method} {c : Code} {Q : State → Prop} {D : va_G} {cy : cyT} {A : Nat → Prop} {cells slots : Nat}
theorem wcl_X9_7 : Cond.classLink RX9 7 RX6 ∈ lw_g := mt 23 (by decide +kernel) rfl
theorem wcl_X9_21 : Cond.classLink RX9 21 RX5 ∈ lw_g := mt 42 (by decide +kernel) rfl
theorem wcl_X9_28 : Cond.classLink RX9 28 RX1 ∈ lw_g := mt 70 (by decide +kernel) rfl
theorem wcl_X9_35 : Cond.classLink RX9 35 RX0 ∈ lw_g := mt 86 (by decide +kernel) rfl
theorem wcl_X9_44 : Cond.classLink RX9 44 RX7 ∈ lw_g := mt 108 (by decide +kernel) rfl
theorem wcl_X9_53 : Cond.classLink RX9 53 RX2 ∈ lw_g := mt 130 (by decide +kernel) rfl
theorem wcl_X9_62 : Cond.classLink RX9 62 RX8 ∈ lw_g := mt 159 (by decide +kernel) rfl
theorem wcl_X9_71 : Cond.classLink RX9 71 RX3 ∈ lw_g := mt 214 (by decide +kernel) rfl
theorem wcl_X9_78 : Cond.classLink RX9 78 RX4 ∈ lw_g := mt 236 (by decide +kernel) rfl
abbrev poX9 (cy : cyT) (h0 : Nat) : va_W → Prop := fun u => ∃ q1 : Nat, ∃ u2 : va_W, ∃ q4 : Nat, ∃ u5 : va_W, ∃ q7 : Nat, ∃ u8 : va_W, ∃ q10 : Nat, ∃ u11 : va_W, ∃ q13 : Nat, ∃ u14 : va_W, ∃ q16 : Nat, ∃ u17 : va_W, ∃ q19 : Nat, ∃ u20 : va_W, ∃ q22 : Nat, ∃ u23 : va_W, ∃ q25 : Nat, ∃ u26 : va_W, ∃ q28 : Nat, ∃ u29 : va_W, ∃ q31 : Nat, u = ((h0, .inr (9, [.ref q1, .ref q4, .ref q7, .ref q10, .ref q13, .ref q16, .ref q19, .ref q22, .ref q25, .ref q28, .ref q31, .int 0, .int 0, .long 0, .long 1])) :: (((((((((((u2) ++ u5) ++ u8) ++ u11) ++ u14) ++ u17) ++ u20) ++ u23) ++ u26) ++ u29) ++ [(q31, .inl (cy.1, 6, .inl (fun _ => 0)))])) ∧ poX6r cy q1  u2 ∧ poX6t cy q4  u5 ∧ poX5 cy q7  u8 ∧ poX1 cy q10  u11 ∧ poX0 cy q13 q10 u14 ∧ poX7 cy q16 q13 u17 ∧ poX2 cy q19 q13 q16 u20 ∧ poX8 cy q22 q13 q16 q19 u23 ∧ poX3 cy q25  u26 ∧ poX4 cy q28 q13 q10 q19 u29
set_option maxHeartbeats 4000000 in
set_option maxRecDepth 100000 in
theorem kX9 {D : va_G} {cy : cyT} {sz h0 : Nat} : Met l yX9_init (wm yX9_init cX9_init 1 none) (rmc 2 40 53 11499) (pcc D cy sz [.ref h0] h0 (.inr (9, [.null, .null, .null, .null, .null, .null, .null, .null, .null, .null, .null, .int 0, .int 0, .long 0, .long 0]))) (qcc D cy sz h0 (.inr (9, [.null, .null, .null, .null, .null, .null, .null, .null, .null, .null, .null, .int 0, .int 0, .long 0, .long 0])) (poX9 cy h0 )) 53 11499 (va_A [(h0, .inr (9, [.null, .null, .null, .null, .null, .null, .null, .null, .null, .null, .null, .int 0, .int 0, .long 0, .long 0]))] sz) := by
  refine c_enter (own := RX9) rfl rfl rfl (Nat.le_of_ble_eq_true rfl) ?_
  intro p e s m below meth c ls hsz hC hr hk hi hN hw hl
  have hx := hC.1
  have hb := hC.2.1
  have hF : 2 ≤ (rmc 2 40 53 11499).frames := Nat.le_refl _
  have hL : 40 ≤ (rmc 2 40 53 11499).locals := Nat.le_refl _
  have hl : lv_has ls 1 [(0, .ref h0)] := hl
  refine lv_aload_n hx hb dX9_init_0 rfl (lv_at hl 0 rfl) ?_
  refine c_obj hC ml_X9_1 hl.1 dX9_init_1 (Nat.le_of_ble_eq_true rfl) (Nat.le_of_ble_eq_true rfl) ?_
  refine lv_aload_n hx hb dX9_init_4 rfl (lv_at hl 0 rfl) ?_
  refine c_new hC hw (ci := 6) (T := TX6) (N := 3) (fs := [.null, .null, .int 0]) inX6 tyX6 tyX6_ok wcl_X9_7 win_X6 wit_X6 rfl (fun j hj => by rcases (show j = 0 ∨ j = 1 ∨ j = 2 by omega) with rfl | rfl | rfl <;> rfl) (Nat.le_of_ble_eq_true rfl) (Nat.le_of_ble_eq_true rfl) dX9_init_5 (fun q1 H hw => ?_)
  refine lv_dup hx hb dX9_init_8 rfl ?_
  refine lv_bipush (v := 6) hx hb dX9_init_9 (by decide) ?_
  refine lv_bipush (v := 40) hx hb dX9_init_11 (by decide) ?_
  refine lv_iconst (v := 0) hx hb dX9_init_13 (by decide) ?_
  refine c_go (post := poX6r cy q1 ) (c_ri (As := [.int 6, .int 40, .int 0]) (rest := [.ref q1, .ref h0]) hC hw hN kX6r (cwI_g hC.2.2.2.2 ml_X9_11 mc_X6_init wim_X6 wit_X6 rfl mdc_X6 ⟨Nat.le_of_ble_eq_true rfl, Nat.le_of_ble_eq_true rfl⟩) rfl hl.1 rfl (Nat.le_of_ble_eq_true rfl) dX9_init_14 ⟨Nat.le_of_ble_eq_true rfl, Nat.le_of_ble_eq_true rfl⟩) hw (fun u2 H locs hu3 hw => ?_)
  have hw : cw D cy _ ((h0, .inr (9, [.null, .null, .null, .null, .null, .null, .null, .null, .null, .null, .null, .int 0, .int 0, .long 0, .long 0])) :: (u2)) s H _ := hw
  refine c_putF hC hi hw 0 (ci := 9) (j := 0) (T := TX9) (N := 15) (v := .ref q1) (ty := .object "BurntLedger$Rows") rfl rfl inX9 tyX9 tyX9_ok nmX9 (by decide) fl_X9_14 rfl rfl (by decide +kernel) rfl rfl (by simp) dX9_init_17 (fun H locs hw => ?_)
  have hw : cw D cy _ ((h0, .inr (9, [.ref q1, .null, .null, .null, .null, .null, .null, .null, .null, .null, .null, .int 0, .int 0, .long 0, .long 0])) :: (u2)) s H _ := hw
  refine lv_aload_n hx hb dX9_init_20 rfl (lv_at hl 0 rfl) ?_
  refine c_new hC hw (ci := 6) (T := TX6) (N := 3) (fs := [.null, .null, .int 0]) inX6 tyX6 tyX6_ok wcl_X9_7 win_X6 wit_X6 rfl (fun j hj => by rcases (show j = 0 ∨ j = 1 ∨ j = 2 by omega) with rfl | rfl | rfl <;> rfl) (Nat.le_of_ble_eq_true rfl) (Nat.le_of_ble_eq_true rfl) dX9_init_21 (fun q4 H hw => ?_)
  refine lv_dup hx hb dX9_init_24 rfl ?_
  refine lv_iconst (v := 4) hx hb dX9_init_25 (by decide) ?_
  refine lv_bipush (v := 60) hx hb dX9_init_26 (by decide) ?_
  refine lv_bipush (v := 32) hx hb dX9_init_28 (by decide) ?_
  refine c_go (post := poX6t cy q4 ) (c_ri (As := [.int 4, .int 60, .int 32]) (rest := [.ref q4, .ref h0]) hC hw hN kX6t (cwI_g hC.2.2.2.2 ml_X9_11 mc_X6_init wim_X6 wit_X6 rfl mdc_X6 ⟨Nat.le_of_ble_eq_true rfl, Nat.le_of_ble_eq_true rfl⟩) rfl hl.1 rfl (Nat.le_of_ble_eq_true rfl) dX9_init_30 ⟨Nat.le_of_ble_eq_true rfl, Nat.le_of_ble_eq_true rfl⟩) hw (fun u5 H locs hu6 hw => ?_)
  have hw : cw D cy _ ((h0, .inr (9, [.ref q1, .null, .null, .null, .null, .null, .null, .null, .null, .null, .null, .int 0, .int 0, .long 0, .long 0])) :: ((u2) ++ u5)) s H _ := hw
  refine c_putF hC hi hw 0 (ci := 9) (j := 1) (T := TX9) (N := 15) (v := .ref q4) (ty := .object "BurntLedger$Rows") rfl rfl inX9 tyX9 tyX9_ok nmX9 (by decide) fl_X9_18 rfl rfl (by decide +kernel) rfl rfl (by simp) dX9_init_33 (fun H locs hw => ?_)
  have hw : cw D cy _ ((h0, .inr (9, [.ref q1, .ref q4, .null, .null, .null, .null, .null, .null, .null, .null, .null, .int 0, .int 0, .long 0, .long 0])) :: ((u2) ++ u5)) s H _ := hw
  refine lv_aload_n hx hb dX9_init_36 rfl (lv_at hl 0 rfl) ?_
  refine c_new hC hw (ci := 5) (T := TX5) (N := 7) (fs := [.null, .null, .null, .null, .int 0, .int 0, .int 0]) inX5 tyX5 tyX5_ok wcl_X9_21 win_X5 wit_X5 rfl (fun j hj => by rcases (show j = 0 ∨ j = 1 ∨ j = 2 ∨ j = 3 ∨ j = 4 ∨ j = 5 ∨ j = 6 by omega) with rfl | rfl | rfl | rfl | rfl | rfl | rfl <;> rfl) (Nat.le_of_ble_eq_true rfl) (Nat.le_of_ble_eq_true rfl) dX9_init_37 (fun q7 H hw => ?_)
  refine lv_dup hx hb dX9_init_40 rfl ?_
  refine c_go (post := poX5 cy q7 ) (c_rin (As := []) (rest := [.ref q7, .ref h0]) hC hw hN kX5 (cwIN_g hC.2.2.2.2 hN.2.2.1 mc_X5_init wim_X5 wit_X5 rfl mdc_X5 ⟨Nat.le_of_ble_eq_true rfl, Nat.le_of_ble_eq_true rfl⟩) rfl hl.1 rfl (Nat.le_of_ble_eq_true rfl) dX9_init_41 ⟨Nat.le_of_ble_eq_true rfl, Nat.le_of_ble_eq_true rfl⟩) hw (fun u8 H locs hu9 hw => ?_)
  have hw : cw D cy _ ((h0, .inr (9, [.ref q1, .ref q4, .null, .null, .null, .null, .null, .null, .null, .null, .null, .int 0, .int 0, .long 0, .long 0])) :: (((u2) ++ u5) ++ u8)) s H _ := hw
  refine c_putF hC hi hw 0 (ci := 9) (j := 2) (T := TX9) (N := 15) (v := .ref q7) (ty := .object "BurntLedger$Reader") rfl rfl inX9 tyX9 tyX9_ok nmX9 (by decide) fl_X9_24 rfl rfl (by decide +kernel) rfl rfl (by simp) dX9_init_44 (fun H locs hw => ?_)
  have hw : cw D cy _ ((h0, .inr (9, [.ref q1, .ref q4, .ref q7, .null, .null, .null, .null, .null, .null, .null, .null, .int 0, .int 0, .long 0, .long 0])) :: (((u2) ++ u5) ++ u8)) s H _ := hw
  refine lv_aload_n hx hb dX9_init_47 rfl (lv_at hl 0 rfl) ?_
  refine c_new hC hw (ci := 1) (T := TX1) (N := 3) (fs := [.null, .null, .int 0]) inX1 tyX1 tyX1_ok wcl_X9_28 win_X1 wit_X1 rfl (fun j hj => by rcases (show j = 0 ∨ j = 1 ∨ j = 2 by omega) with rfl | rfl | rfl <;> rfl) (Nat.le_of_ble_eq_true rfl) (Nat.le_of_ble_eq_true rfl) dX9_init_48 (fun q10 H hw => ?_)
  refine lv_dup hx hb dX9_init_51 rfl ?_
  refine c_go (post := poX1 cy q10 ) (c_rin (As := []) (rest := [.ref q10, .ref h0]) hC hw hN kX1 (cwIN_g hC.2.2.2.2 hN.2.2.2.1 mc_X1_init wim_X1 wit_X1 rfl mdc_X1 ⟨Nat.le_of_ble_eq_true rfl, Nat.le_of_ble_eq_true rfl⟩) rfl hl.1 rfl (Nat.le_of_ble_eq_true rfl) dX9_init_52 ⟨Nat.le_of_ble_eq_true rfl, Nat.le_of_ble_eq_true rfl⟩) hw (fun u11 H locs hu12 hw => ?_)
  have hw : cw D cy _ ((h0, .inr (9, [.ref q1, .ref q4, .ref q7, .null, .null, .null, .null, .null, .null, .null, .null, .int 0, .int 0, .long 0, .long 0])) :: ((((u2) ++ u5) ++ u8) ++ u11)) s H _ := hw
  refine c_putF hC hi hw 0 (ci := 9) (j := 3) (T := TX9) (N := 15) (v := .ref q10) (ty := .object "BurntLedger$Heap") rfl rfl inX9 tyX9 tyX9_ok nmX9 (by decide) fl_X9_31 rfl rfl (by decide +kernel) rfl rfl (by simp) dX9_init_55 (fun H locs hw => ?_)
  have hw : cw D cy _ ((h0, .inr (9, [.ref q1, .ref q4, .ref q7, .ref q10, .null, .null, .null, .null, .null, .null, .null, .int 0, .int 0, .long 0, .long 0])) :: ((((u2) ++ u5) ++ u8) ++ u11)) s H _ := hw
  refine lv_aload_n hx hb dX9_init_58 rfl (lv_at hl 0 rfl) ?_
  refine c_new hC hw (ci := 0) (T := TX0) (N := 5) (fs := [.null, .null, .null, .null, .int 0]) inX0 tyX0 tyX0_ok wcl_X9_35 win_X0 wit_X0 rfl (fun j hj => by rcases (show j = 0 ∨ j = 1 ∨ j = 2 ∨ j = 3 ∨ j = 4 by omega) with rfl | rfl | rfl | rfl | rfl <;> rfl) (Nat.le_of_ble_eq_true rfl) (Nat.le_of_ble_eq_true rfl) dX9_init_59 (fun q13 H hw => ?_)
  refine lv_dup hx hb dX9_init_62 rfl ?_
  refine lv_aload_n hx hb dX9_init_63 rfl (lv_at hl 0 rfl) ?_
  refine c_get hC hw 0 (ci := 9) (j := 3) (T := TX9) (N := 15) rfl rfl inX9 (by decide) fl_X9_31 rfl dX9_init_64 ?_
  refine c_go (post := poX0 cy q13 q10) (c_ri (As := [.ref q10]) (rest := [.ref q13, .ref h0]) hC hw hN kX0 (cwI_g hC.2.2.2.2 ml_X9_37 mc_X0_init wim_X0 wit_X0 rfl mdc_X0 ⟨Nat.le_of_ble_eq_true rfl, Nat.le_of_ble_eq_true rfl⟩) rfl hl.1 rfl (Nat.le_of_ble_eq_true rfl) dX9_init_67 ⟨Nat.le_of_ble_eq_true rfl, Nat.le_of_ble_eq_true rfl⟩) hw (fun u14 H locs hu15 hw => ?_)
  have hw : cw D cy _ ((h0, .inr (9, [.ref q1, .ref q4, .ref q7, .ref q10, .null, .null, .null, .null, .null, .null, .null, .int 0, .int 0, .long 0, .long 0])) :: (((((u2) ++ u5) ++ u8) ++ u11) ++ u14)) s H _ := hw
  refine c_putF hC hi hw 0 (ci := 9) (j := 4) (T := TX9) (N := 15) (v := .ref q13) (ty := .object "BurntLedger$Cells") rfl rfl inX9 tyX9 tyX9_ok nmX9 (by decide) fl_X9_40 rfl rfl (by decide +kernel) rfl rfl (by simp) dX9_init_70 (fun H locs hw => ?_)
  have hw : cw D cy _ ((h0, .inr (9, [.ref q1, .ref q4, .ref q7, .ref q10, .ref q13, .null, .null, .null, .null, .null, .null, .int 0, .int 0, .long 0, .long 0])) :: (((((u2) ++ u5) ++ u8) ++ u11) ++ u14)) s H _ := hw
  refine lv_aload_n hx hb dX9_init_73 rfl (lv_at hl 0 rfl) ?_
  refine c_new hC hw (ci := 7) (T := TX7) (N := 5) (fs := [.null, .null, .null, .null, .int 0]) inX7 tyX7 tyX7_ok wcl_X9_44 win_X7 wit_X7 rfl (fun j hj => by rcases (show j = 0 ∨ j = 1 ∨ j = 2 ∨ j = 3 ∨ j = 4 by omega) with rfl | rfl | rfl | rfl | rfl <;> rfl) (Nat.le_of_ble_eq_true rfl) (Nat.le_of_ble_eq_true rfl) dX9_init_74 (fun q16 H hw => ?_)
  refine lv_dup hx hb dX9_init_77 rfl ?_
  refine lv_aload_n hx hb dX9_init_78 rfl (lv_at hl 0 rfl) ?_
  refine c_get hC hw 0 (ci := 9) (j := 4) (T := TX9) (N := 15) rfl rfl inX9 (by decide) fl_X9_40 rfl dX9_init_79 ?_
  refine c_go (post := poX7 cy q16 q13) (c_ri (As := [.ref q13]) (rest := [.ref q16, .ref h0]) hC hw hN kX7 (cwI_g hC.2.2.2.2 ml_X9_46 mc_X7_init wim_X7 wit_X7 rfl mdc_X7 ⟨Nat.le_of_ble_eq_true rfl, Nat.le_of_ble_eq_true rfl⟩) rfl hl.1 rfl (Nat.le_of_ble_eq_true rfl) dX9_init_82 ⟨Nat.le_of_ble_eq_true rfl, Nat.le_of_ble_eq_true rfl⟩) hw (fun u17 H locs hu18 hw => ?_)
  have hw : cw D cy _ ((h0, .inr (9, [.ref q1, .ref q4, .ref q7, .ref q10, .ref q13, .null, .null, .null, .null, .null, .null, .int 0, .int 0, .long 0, .long 0])) :: ((((((u2) ++ u5) ++ u8) ++ u11) ++ u14) ++ u17)) s H _ := hw
  refine c_putF hC hi hw 0 (ci := 9) (j := 5) (T := TX9) (N := 15) (v := .ref q16) (ty := .object "BurntLedger$Sums") rfl rfl inX9 tyX9 tyX9_ok nmX9 (by decide) fl_X9_49 rfl rfl (by decide +kernel) rfl rfl (by simp) dX9_init_85 (fun H locs hw => ?_)
  have hw : cw D cy _ ((h0, .inr (9, [.ref q1, .ref q4, .ref q7, .ref q10, .ref q13, .ref q16, .null, .null, .null, .null, .null, .int 0, .int 0, .long 0, .long 0])) :: ((((((u2) ++ u5) ++ u8) ++ u11) ++ u14) ++ u17)) s H _ := hw
  refine lv_aload_n hx hb dX9_init_88 rfl (lv_at hl 0 rfl) ?_
  refine c_new hC hw (ci := 2) (T := TX2) (N := 7) (fs := [.null, .null, .null, .null, .null, .int 0, .int 0]) inX2 tyX2 tyX2_ok wcl_X9_53 win_X2 wit_X2 rfl (fun j hj => by rcases (show j = 0 ∨ j = 1 ∨ j = 2 ∨ j = 3 ∨ j = 4 ∨ j = 5 ∨ j = 6 by omega) with rfl | rfl | rfl | rfl | rfl | rfl | rfl <;> rfl) (Nat.le_of_ble_eq_true rfl) (Nat.le_of_ble_eq_true rfl) dX9_init_89 (fun q19 H hw => ?_)
  refine lv_dup hx hb dX9_init_92 rfl ?_
  refine lv_aload_n hx hb dX9_init_93 rfl (lv_at hl 0 rfl) ?_
  refine c_get hC hw 0 (ci := 9) (j := 4) (T := TX9) (N := 15) rfl rfl inX9 (by decide) fl_X9_40 rfl dX9_init_94 ?_
  refine lv_aload_n hx hb dX9_init_97 rfl (lv_at hl 0 rfl) ?_
  refine c_get hC hw 0 (ci := 9) (j := 5) (T := TX9) (N := 15) rfl rfl inX9 (by decide) fl_X9_49 rfl dX9_init_98 ?_
  refine c_go (post := poX2 cy q19 q13 q16) (c_ri (As := [.ref q13, .ref q16]) (rest := [.ref q19, .ref h0]) hC hw hN kX2 (cwI_g hC.2.2.2.2 ml_X9_55 mc_X2_init wim_X2 wit_X2 rfl mdc_X2 ⟨Nat.le_of_ble_eq_true rfl, Nat.le_of_ble_eq_true rfl⟩) rfl hl.1 rfl (Nat.le_of_ble_eq_true rfl) dX9_init_101 ⟨Nat.le_of_ble_eq_true rfl, Nat.le_of_ble_eq_true rfl⟩) hw (fun u20 H locs hu21 hw => ?_)
  have hw : cw D cy _ ((h0, .inr (9, [.ref q1, .ref q4, .ref q7, .ref q10, .ref q13, .ref q16, .null, .null, .null, .null, .null, .int 0, .int 0, .long 0, .long 0])) :: (((((((u2) ++ u5) ++ u8) ++ u11) ++ u14) ++ u17) ++ u20)) s H _ := hw
  refine c_putF hC hi hw 0 (ci := 9) (j := 6) (T := TX9) (N := 15) (v := .ref q19) (ty := .object "BurntLedger$Narrowing") rfl rfl inX9 tyX9 tyX9_ok nmX9 (by decide) fl_X9_58 rfl rfl (by decide +kernel) rfl rfl (by simp) dX9_init_104 (fun H locs hw => ?_)
  have hw : cw D cy _ ((h0, .inr (9, [.ref q1, .ref q4, .ref q7, .ref q10, .ref q13, .ref q16, .ref q19, .null, .null, .null, .null, .int 0, .int 0, .long 0, .long 0])) :: (((((((u2) ++ u5) ++ u8) ++ u11) ++ u14) ++ u17) ++ u20)) s H _ := hw
  refine lv_aload_n hx hb dX9_init_107 rfl (lv_at hl 0 rfl) ?_
  refine c_new hC hw (ci := 8) (T := TX8) (N := 16) (fs := [.null, .null, .null, .null, .null, .null, .null, .null, .null, .int 0, .int 0, .int 0, .int 0, .int 0, .int 0, .int 0]) inX8 tyX8 tyX8_ok wcl_X9_62 win_X8 wit_X8 rfl (fun j hj => by rcases (show j = 0 ∨ j = 1 ∨ j = 2 ∨ j = 3 ∨ j = 4 ∨ j = 5 ∨ j = 6 ∨ j = 7 ∨ j = 8 ∨ j = 9 ∨ j = 10 ∨ j = 11 ∨ j = 12 ∨ j = 13 ∨ j = 14 ∨ j = 15 by omega) with rfl | rfl | rfl | rfl | rfl | rfl | rfl | rfl | rfl | rfl | rfl | rfl | rfl | rfl | rfl | rfl <;> rfl) (Nat.le_of_ble_eq_true rfl) (Nat.le_of_ble_eq_true rfl) dX9_init_108 (fun q22 H hw => ?_)
  refine lv_dup hx hb dX9_init_111 rfl ?_
  refine lv_aload_n hx hb dX9_init_112 rfl (lv_at hl 0 rfl) ?_
  refine c_get hC hw 0 (ci := 9) (j := 4) (T := TX9) (N := 15) rfl rfl inX9 (by decide) fl_X9_40 rfl dX9_init_113 ?_
  refine lv_aload_n hx hb dX9_init_116 rfl (lv_at hl 0 rfl) ?_
  refine c_get hC hw 0 (ci := 9) (j := 5) (T := TX9) (N := 15) rfl rfl inX9 (by decide) fl_X9_49 rfl dX9_init_117 ?_
  refine lv_aload_n hx hb dX9_init_120 rfl (lv_at hl 0 rfl) ?_
  refine c_get hC hw 0 (ci := 9) (j := 6) (T := TX9) (N := 15) rfl rfl inX9 (by decide) fl_X9_58 rfl dX9_init_121 ?_
  refine c_go (post := poX8 cy q22 q13 q16 q19) (c_ri (As := [.ref q13, .ref q16, .ref q19]) (rest := [.ref q22, .ref h0]) hC hw hN kX8 (cwI_g hC.2.2.2.2 ml_X9_64 mc_X8_init wim_X8 wit_X8 rfl mdc_X8 ⟨Nat.le_of_ble_eq_true rfl, Nat.le_of_ble_eq_true rfl⟩) rfl hl.1 rfl (Nat.le_of_ble_eq_true rfl) dX9_init_124 ⟨Nat.le_of_ble_eq_true rfl, Nat.le_of_ble_eq_true rfl⟩) hw (fun u23 H locs hu24 hw => ?_)
  have hw : cw D cy _ ((h0, .inr (9, [.ref q1, .ref q4, .ref q7, .ref q10, .ref q13, .ref q16, .ref q19, .null, .null, .null, .null, .int 0, .int 0, .long 0, .long 0])) :: ((((((((u2) ++ u5) ++ u8) ++ u11) ++ u14) ++ u17) ++ u20) ++ u23)) s H _ := hw
  refine c_putF hC hi hw 0 (ci := 9) (j := 7) (T := TX9) (N := 15) (v := .ref q22) (ty := .object "BurntLedger$Walk") rfl rfl inX9 tyX9 tyX9_ok nmX9 (by decide) fl_X9_67 rfl rfl (by decide +kernel) rfl rfl (by simp) dX9_init_127 (fun H locs hw => ?_)
  have hw : cw D cy _ ((h0, .inr (9, [.ref q1, .ref q4, .ref q7, .ref q10, .ref q13, .ref q16, .ref q19, .ref q22, .null, .null, .null, .int 0, .int 0, .long 0, .long 0])) :: ((((((((u2) ++ u5) ++ u8) ++ u11) ++ u14) ++ u17) ++ u20) ++ u23)) s H _ := hw
  refine lv_aload_n hx hb dX9_init_130 rfl (lv_at hl 0 rfl) ?_
  refine c_new hC hw (ci := 3) (T := TX3) (N := 5) (fs := [.null, .null, .int 0, .int 0, .int 0]) inX3 tyX3 tyX3_ok wcl_X9_71 win_X3 wit_X3 rfl (fun j hj => by rcases (show j = 0 ∨ j = 1 ∨ j = 2 ∨ j = 3 ∨ j = 4 by omega) with rfl | rfl | rfl | rfl | rfl <;> rfl) (Nat.le_of_ble_eq_true rfl) (Nat.le_of_ble_eq_true rfl) dX9_init_131 (fun q25 H hw => ?_)
  refine lv_dup hx hb dX9_init_134 rfl ?_
  refine c_go (post := poX3 cy q25 ) (c_rin (As := []) (rest := [.ref q25, .ref h0]) hC hw hN kX3 (cwIN_g hC.2.2.2.2 hN.2.2.2.2 mc_X3_init wim_X3 wit_X3 rfl mdc_X3 ⟨Nat.le_of_ble_eq_true rfl, Nat.le_of_ble_eq_true rfl⟩) rfl hl.1 rfl (Nat.le_of_ble_eq_true rfl) dX9_init_135 ⟨Nat.le_of_ble_eq_true rfl, Nat.le_of_ble_eq_true rfl⟩) hw (fun u26 H locs hu27 hw => ?_)
  have hw : cw D cy _ ((h0, .inr (9, [.ref q1, .ref q4, .ref q7, .ref q10, .ref q13, .ref q16, .ref q19, .ref q22, .null, .null, .null, .int 0, .int 0, .long 0, .long 0])) :: (((((((((u2) ++ u5) ++ u8) ++ u11) ++ u14) ++ u17) ++ u20) ++ u23) ++ u26)) s H _ := hw
  refine c_putF hC hi hw 0 (ci := 9) (j := 8) (T := TX9) (N := 15) (v := .ref q25) (ty := .object "BurntLedger$Pages") rfl rfl inX9 tyX9 tyX9_ok nmX9 (by decide) fl_X9_74 rfl rfl (by decide +kernel) rfl rfl (by simp) dX9_init_138 (fun H locs hw => ?_)
  have hw : cw D cy _ ((h0, .inr (9, [.ref q1, .ref q4, .ref q7, .ref q10, .ref q13, .ref q16, .ref q19, .ref q22, .ref q25, .null, .null, .int 0, .int 0, .long 0, .long 0])) :: (((((((((u2) ++ u5) ++ u8) ++ u11) ++ u14) ++ u17) ++ u20) ++ u23) ++ u26)) s H _ := hw
  refine lv_aload_n hx hb dX9_init_141 rfl (lv_at hl 0 rfl) ?_
  refine c_new hC hw (ci := 4) (T := TX4) (N := 9) (fs := [.null, .null, .null, .null, .null, .null, .null, .null, .int 0]) inX4 tyX4 tyX4_ok wcl_X9_78 win_X4 wit_X4 rfl (fun j hj => by rcases (show j = 0 ∨ j = 1 ∨ j = 2 ∨ j = 3 ∨ j = 4 ∨ j = 5 ∨ j = 6 ∨ j = 7 ∨ j = 8 by omega) with rfl | rfl | rfl | rfl | rfl | rfl | rfl | rfl | rfl <;> rfl) (Nat.le_of_ble_eq_true rfl) (Nat.le_of_ble_eq_true rfl) dX9_init_142 (fun q28 H hw => ?_)
  refine lv_dup hx hb dX9_init_145 rfl ?_
  refine lv_aload_n hx hb dX9_init_146 rfl (lv_at hl 0 rfl) ?_
  refine c_get hC hw 0 (ci := 9) (j := 4) (T := TX9) (N := 15) rfl rfl inX9 (by decide) fl_X9_40 rfl dX9_init_147 ?_
  refine lv_aload_n hx hb dX9_init_150 rfl (lv_at hl 0 rfl) ?_
  refine c_get hC hw 0 (ci := 9) (j := 3) (T := TX9) (N := 15) rfl rfl inX9 (by decide) fl_X9_31 rfl dX9_init_151 ?_
  refine lv_aload_n hx hb dX9_init_154 rfl (lv_at hl 0 rfl) ?_
  refine c_get hC hw 0 (ci := 9) (j := 6) (T := TX9) (N := 15) rfl rfl inX9 (by decide) fl_X9_58 rfl dX9_init_155 ?_
  refine c_go (post := poX4 cy q28 q13 q10 q19) (c_ri (As := [.ref q13, .ref q10, .ref q19]) (rest := [.ref q28, .ref h0]) hC hw hN kX4 (cwI_g hC.2.2.2.2 ml_X9_80 mc_X4_init wim_X4 wit_X4 rfl mdc_X4 ⟨Nat.le_of_ble_eq_true rfl, Nat.le_of_ble_eq_true rfl⟩) rfl hl.1 rfl (Nat.le_of_ble_eq_true rfl) dX9_init_158 ⟨Nat.le_of_ble_eq_true rfl, Nat.le_of_ble_eq_true rfl⟩) hw (fun u29 H locs hu30 hw => ?_)
  have hw : cw D cy _ ((h0, .inr (9, [.ref q1, .ref q4, .ref q7, .ref q10, .ref q13, .ref q16, .ref q19, .ref q22, .ref q25, .null, .null, .int 0, .int 0, .long 0, .long 0])) :: ((((((((((u2) ++ u5) ++ u8) ++ u11) ++ u14) ++ u17) ++ u20) ++ u23) ++ u26) ++ u29)) s H _ := hw
  refine c_putF hC hi hw 0 (ci := 9) (j := 9) (T := TX9) (N := 15) (v := .ref q28) (ty := .object "BurntLedger$Places") rfl rfl inX9 tyX9 tyX9_ok nmX9 (by decide) fl_X9_83 rfl rfl (by decide +kernel) rfl rfl (by simp) dX9_init_161 (fun H locs hw => ?_)
  have hw : cw D cy _ ((h0, .inr (9, [.ref q1, .ref q4, .ref q7, .ref q10, .ref q13, .ref q16, .ref q19, .ref q22, .ref q25, .ref q28, .null, .int 0, .int 0, .long 0, .long 0])) :: ((((((((((u2) ++ u5) ++ u8) ++ u11) ++ u14) ++ u17) ++ u20) ++ u23) ++ u26) ++ u29)) s H _ := hw
  refine lv_aload_n hx hb dX9_init_164 rfl (lv_at hl 0 rfl) ?_
  refine lv_bipush (v := 6) hx hb dX9_init_165 (by decide) ?_
  refine c_newI hC hw (N' := 6) (by decide) rfl (by decide) (Nat.le_of_ble_eq_true rfl) (Nat.le_of_ble_eq_true rfl) dX9_init_167 (fun q31 H hw => ?_)
  have hw : cw D cy _ ((h0, .inr (9, [.ref q1, .ref q4, .ref q7, .ref q10, .ref q13, .ref q16, .ref q19, .ref q22, .ref q25, .ref q28, .null, .int 0, .int 0, .long 0, .long 0])) :: (((((((((((u2) ++ u5) ++ u8) ++ u11) ++ u14) ++ u17) ++ u20) ++ u23) ++ u26) ++ u29) ++ [(q31, .inl (cy.1, 6, .inl (fun _ => 0)))])) s H _ := hw
  refine c_putF hC hi hw 0 (ci := 9) (j := 10) (T := TX9) (N := 15) (v := .ref q31) (ty := .array .int) rfl rfl inX9 tyX9 tyX9_ok nmX9 (by decide) fl_X9_87 rfl rfl (by decide +kernel) rfl rfl (by simp) dX9_init_169 (fun H locs hw => ?_)
  have hw : cw D cy _ ((h0, .inr (9, [.ref q1, .ref q4, .ref q7, .ref q10, .ref q13, .ref q16, .ref q19, .ref q22, .ref q25, .ref q28, .ref q31, .int 0, .int 0, .long 0, .long 0])) :: (((((((((((u2) ++ u5) ++ u8) ++ u11) ++ u14) ++ u17) ++ u20) ++ u23) ++ u26) ++ u29) ++ [(q31, .inl (cy.1, 6, .inl (fun _ => 0)))])) s H _ := hw
  refine lv_aload_n hx hb dX9_init_172 rfl (lv_at hl 0 rfl) ?_
  refine lv_iconst (v := 0) hx hb dX9_init_173 (by decide) ?_
  refine c_put hC hw 0 (ci := 9) (j := 11) (T := TX9) (N := 15) (v := .int 0) (ty := .int) rfl rfl inX9 tyX9 tyX9_ok nmX9 (by decide) fl_X9_91 rfl (by decide +kernel) rfl rfl (by simp) dX9_init_174 (fun H locs hw => ?_)
  have hw : cw D cy _ ((h0, .inr (9, [.ref q1, .ref q4, .ref q7, .ref q10, .ref q13, .ref q16, .ref q19, .ref q22, .ref q25, .ref q28, .ref q31, .int 0, .int 0, .long 0, .long 0])) :: (((((((((((u2) ++ u5) ++ u8) ++ u11) ++ u14) ++ u17) ++ u20) ++ u23) ++ u26) ++ u29) ++ [(q31, .inl (cy.1, 6, .inl (fun _ => 0)))])) s H _ := hw
  refine lv_aload_n hx hb dX9_init_177 rfl (lv_at hl 0 rfl) ?_
  refine lv_iconst (v := 0) hx hb dX9_init_178 (by decide) ?_
  refine c_put hC hw 0 (ci := 9) (j := 12) (T := TX9) (N := 15) (v := .int 0) (ty := .int) rfl rfl inX9 tyX9 tyX9_ok nmX9 (by decide) fl_X9_95 rfl (by decide +kernel) rfl rfl (by simp) dX9_init_179 (fun H locs hw => ?_)
  have hw : cw D cy _ ((h0, .inr (9, [.ref q1, .ref q4, .ref q7, .ref q10, .ref q13, .ref q16, .ref q19, .ref q22, .ref q25, .ref q28, .ref q31, .int 0, .int 0, .long 0, .long 0])) :: (((((((((((u2) ++ u5) ++ u8) ++ u11) ++ u14) ++ u17) ++ u20) ++ u23) ++ u26) ++ u29) ++ [(q31, .inl (cy.1, 6, .inl (fun _ => 0)))])) s H _ := hw
  refine lv_aload_n hx hb dX9_init_182 rfl (lv_at hl 0 rfl) ?_
  refine lv_lconst (v := 0) hx hb dX9_init_183 rfl ?_
  refine c_put hC hw 0 (ci := 9) (j := 13) (T := TX9) (N := 15) (v := .long 0) (ty := .long) rfl rfl inX9 tyX9 tyX9_ok nmX9 (by decide) fl_X9_98 rfl (by decide +kernel) rfl rfl (by simp) dX9_init_184 (fun H locs hw => ?_)
  have hw : cw D cy _ ((h0, .inr (9, [.ref q1, .ref q4, .ref q7, .ref q10, .ref q13, .ref q16, .ref q19, .ref q22, .ref q25, .ref q28, .ref q31, .int 0, .int 0, .long 0, .long 0])) :: (((((((((((u2) ++ u5) ++ u8) ++ u11) ++ u14) ++ u17) ++ u20) ++ u23) ++ u26) ++ u29) ++ [(q31, .inl (cy.1, 6, .inl (fun _ => 0)))])) s H _ := hw
  refine lv_aload_n hx hb dX9_init_187 rfl (lv_at hl 0 rfl) ?_
  refine lv_lconst (v := 1) hx hb dX9_init_188 rfl ?_
  refine c_put hC hw 0 (ci := 9) (j := 14) (T := TX9) (N := 15) (v := .long 1) (ty := .long) rfl rfl inX9 tyX9 tyX9_ok nmX9 (by decide) fl_X9_102 rfl (by decide +kernel) rfl rfl (by simp) dX9_init_189 (fun H locs hw => ?_)
  have hw : cw D cy _ ((h0, .inr (9, [.ref q1, .ref q4, .ref q7, .ref q10, .ref q13, .ref q16, .ref q19, .ref q22, .ref q25, .ref q28, .ref q31, .int 0, .int 0, .long 0, .long 1])) :: (((((((((((u2) ++ u5) ++ u8) ++ u11) ++ u14) ++ u17) ++ u20) ++ u23) ++ u26) ++ u29) ++ [(q31, .inl (cy.1, 6, .inl (fun _ => 0)))])) s H _ := hw
  exact c_ret hC hr hk hw ⟨q1, u2, q4, u5, q7, u8, q10, u11, q13, u14, q16, u17, q19, u20, q22, u23, q25, u26, q28, u29, q31, rfl, hu3, hu6, hu9, hu12, hu15, hu18, hu21, hu24, hu27, hu30⟩ dX9_init_192
end CG
