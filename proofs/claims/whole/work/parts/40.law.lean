/-! The law: two worlds side by side. -/
def lwG (G1 G2 : GG) (s : State) : Prop := G2.1 = G1.1 ∧ G2.2.1 = G1.2.1 ∧ (∀ S, va_D G1.2.2.2 (Wg LX G1 S)) ∧ (∀ S, va_D G2.2.2.2 (Wg LY G2 S)) ∧ (∀ q, G1.2.2.2 q → s.heap.size ≤ q) ∧ (∀ q, G2.2.2.2 q → s.heap.size ≤ q) ∧ (∀ k, k < 28 → ¬ G1.2.2.2 (ad G2 k)) ∧ (∀ k, k < 54 → ¬ G2.2.2.2 (ad G1 k))
def lwW (G1 G2 : GG) (S Y : St) (s : State) (H : Heap) (locs : List Loc) : Prop := va_P G1.1 vwCl (Wg LX G1 S) H ∧ va_P G1.1 vwCl (Wg LY G2 Y) H ∧ va_K G1.1 vwCl (tyG G1) s ∧ va_S (fun q => s.heap.size ≤ q) s.heap H locs ∧ nw s
theorem Wg_in {L : Lay} {G : GG} {S : St} {k : Nat} {x : Nat × va_E} (h : (Wg L G S)[k]? = some x) : k < L.1 ∧ x.1 = ad G k := by
  have hk : k < L.1 := by
    have := (List.getElem?_eq_some_iff.mp h).1
    unfold Wg at this
    rw [List.length_map, List.length_range] at this
    exact this
  rw [Wg_get hk] at h
  cases h
  exact ⟨hk, rfl⟩
section LB
variable {p : Program} {l : Launch} {e : Env} {R : Room} {s : State} {m : MethodId} {args : Array Value} {below : List Frame} {meth : Method} {c : Code} {H : Heap} {locs : List Loc} {cells slots : Nat} {Q : State → Prop}
variable {cc : ByteArray} {pc nL : Nat} {ls : Array Slot} {rest st0 : List Value} {G1 G2 : GG} {S S' Y Y' : St} {own : String} {a9 : Array Value}
variable {y : MethodName} {bytes : ByteArray} {maxL n index : Nat} {ret : Option FieldType} {rm : Room} {As : List Value}
theorem l_w0X (hg : lwG G1 G2 s) (hw : lwW G1 G2 S Y s H locs) {U : State} (hU : U.heap = H) (hW : s.WarmedH U.vm) : wg0 LX G1 S U := ⟨by rw [hU]; exact hw.1, va_K.moved hW.alike hw.2.2.1, hg.2.2.1 S, hw.2.2.2.2.warm hW⟩
theorem l_w0Y (hg : lwG G1 G2 s) (hw : lwW G1 G2 S Y s H locs) {U : State} (hU : U.heap = H) (hW : s.WarmedH U.vm) : wg0 LY G2 Y U := by
  obtain ⟨h1, h2, h3, h4, -⟩ := hg
  have hK : va_K G1.1 vwCl (tyG G1) U := va_K.moved hW.alike hw.2.2.1
  refine ⟨by rw [hU, h1]; exact hw.2.1, ?_, h4 Y, hw.2.2.2.2.warm hW⟩
  unfold tyG at hK ⊢
  rw [h1, h2]
  exact hK
theorem l_keepY (hg : lwG G1 G2 s) (hw : lwW G1 G2 S Y s H locs) {H1 : Heap} (hk : ∀ q : Nat, q < H.size → ¬ G1.2.2.2 q → H1[q]? = H[q]?) : va_P G1.1 vwCl (Wg LY G2 Y) H1 :=
  hw.2.1.kept (fun k x hx => hk x.1 ((hw.2.1 k x hx).lt) (by rw [(Wg_in hx).2]; exact hg.2.2.2.2.2.2.1 k (Wg_in hx).1))
theorem l_keepX (hg : lwG G1 G2 s) (hw : lwW G1 G2 S Y s H locs) {H1 : Heap} (hk : ∀ q : Nat, q < H.size → ¬ G2.2.2.2 q → H1[q]? = H[q]?) : va_P G1.1 vwCl (Wg LX G1 S) H1 :=
  hw.1.kept (fun k x hx => hk x.1 ((hw.1 k x hx).lt) (by rw [(Wg_in hx).2]; exact hg.2.2.2.2.2.2.2 k (Wg_in hx).1))
theorem l_gXi {r : Int32} (hg : lwG G1 G2 s) (hr : va_Run p l e R s m args below meth c H locs cells slots 0 0 (F0 m pc ls st0) rest (qcI LX G1 S' r a9) G1.2.2.2) (hw : lwW G1 G2 S Y s H locs) (kk : ∀ (H : Heap) (locs : List Loc), lwW G1 G2 S' Y s H locs → W p l e R s m args below meth c H locs cells slots Q (F0 m (pc + 3) ls (.int r :: rest))) : W p l e R s m args below meth c H locs cells slots Q (F0 m pc ls st0) := by
  refine va_calli hr hw.2.2.2.1 (fun q _ h => hg.2.2.2.2.1 q h) (fun q h => hg.2.2.2.2.1 q h) (fun r1 u t H1 locs1 ht hvm hp hB hz hk hS => ?_)
  obtain ⟨rfl, rfl⟩ := hp
  obtain ⟨hP, -, -, -⟩ := hB
  rw [ht] at hP
  exact kk H1 locs1 ⟨hP, l_keepY hg hw hk, hw.2.2.1, hS, hw.2.2.2.2⟩
theorem l_gYi {r : Int32} (hg : lwG G1 G2 s) (hr : va_Run p l e R s m args below meth c H locs cells slots 0 0 (F0 m pc ls st0) rest (qcI LY G2 Y' r a9) G2.2.2.2) (hw : lwW G1 G2 S Y s H locs) (kk : ∀ (H : Heap) (locs : List Loc), lwW G1 G2 S Y' s H locs → W p l e R s m args below meth c H locs cells slots Q (F0 m (pc + 3) ls (.int r :: rest))) : W p l e R s m args below meth c H locs cells slots Q (F0 m pc ls st0) := by
  refine va_calli hr hw.2.2.2.1 (fun q _ h => hg.2.2.2.2.2.1 q h) (fun q h => hg.2.2.2.2.2.1 q h) (fun r1 u t H1 locs1 ht hvm hp hB hz hk hS => ?_)
  obtain ⟨rfl, rfl⟩ := hp
  obtain ⟨hP, -, -, -⟩ := hB
  rw [ht, hg.1] at hP
  exact kk H1 locs1 ⟨l_keepX hg hw hk, hP, hw.2.2.1, hS, hw.2.2.2.2⟩
theorem l_gXl {r : Int64} (hg : lwG G1 G2 s) (hr : va_Run p l e R s m args below meth c H locs cells slots 0 0 (F0 m pc ls st0) rest (qcL LX G1 S' r a9) G1.2.2.2) (hw : lwW G1 G2 S Y s H locs) (kk : ∀ (H : Heap) (locs : List Loc), lwW G1 G2 S' Y s H locs → W p l e R s m args below meth c H locs cells slots Q (F0 m (pc + 3) ls (.long r :: rest))) : W p l e R s m args below meth c H locs cells slots Q (F0 m pc ls st0) := by
  refine va_calll hr hw.2.2.2.1 (fun q _ h => hg.2.2.2.2.1 q h) (fun q h => hg.2.2.2.2.1 q h) (fun r1 u t H1 locs1 ht hvm hp hB hz hk hS => ?_)
  obtain ⟨rfl, rfl⟩ := hp
  obtain ⟨hP, -, -, -⟩ := hB
  rw [ht] at hP
  exact kk H1 locs1 ⟨hP, l_keepY hg hw hk, hw.2.2.1, hS, hw.2.2.2.2⟩
theorem l_gYl {r : Int64} (hg : lwG G1 G2 s) (hr : va_Run p l e R s m args below meth c H locs cells slots 0 0 (F0 m pc ls st0) rest (qcL LY G2 Y' r a9) G2.2.2.2) (hw : lwW G1 G2 S Y s H locs) (kk : ∀ (H : Heap) (locs : List Loc), lwW G1 G2 S Y' s H locs → W p l e R s m args below meth c H locs cells slots Q (F0 m (pc + 3) ls (.long r :: rest))) : W p l e R s m args below meth c H locs cells slots Q (F0 m pc ls st0) := by
  refine va_calll hr hw.2.2.2.1 (fun q _ h => hg.2.2.2.2.2.1 q h) (fun q h => hg.2.2.2.2.2.1 q h) (fun r1 u t H1 locs1 ht hvm hp hB hz hk hS => ?_)
  obtain ⟨rfl, rfl⟩ := hp
  obtain ⟨hP, -, -, -⟩ := hB
  rw [ht, hg.1] at hP
  exact kk H1 locs1 ⟨l_keepX hg hw hk, hP, hw.2.2.1, hS, hw.2.2.2.2⟩
theorem l_rX {Qc : Array Value → State → Outcome → State → Prop} (hC : CallFix p m c cc nL s args lw_g own) (hg : lwG G1 G2 s) (hw : lwW G1 G2 S Y s H locs) (hM : Met l y (wm y bytes maxL ret) rm (pcm LX G1 S (.ref (ad G1 0) :: As)) Qc 0 0 G1.2.2.2) (cw : CallW R s args own RX9 index y bytes maxL ret (wm y bytes maxL ret) rm 0 0 n)
    (hn : As.length = n) (hsz : ls.size = nL) (hst : st0 = As.reverse ++ .ref (ad G1 0) :: rest) (hrm : (rest.map fun v => v.category).sum ≤ 8) (hdg : decode cc pc = .ok (.invokevirtual index, 3)) (hf : cells + 0 ≤ R.cells ∧ slots + 0 ≤ R.slots) : va_Run p l e R s m args below meth c H locs cells slots 0 0 (F0 m pc ls st0) rest (Qc (Value.ref (ad G1 0) :: As).toArray) G1.2.2.2 :=
  va_runV hC hM cw ⟨wg0_blind, va_recv hw.2.2.1 hw.1 (ci := 9) (q := (RX9, TX9, 15)) rfl (Wg_get (k := 0) (Nat.le_of_ble_eq_true rfl)), fun U hU hW => ⟨rfl, l_w0X hg hw hU hW⟩⟩ rfl hn hsz hst (lv_room (pc := pc) (ls := ls) (rest := st0) (m := m) hrm) hdg hf
theorem l_rY {Qc : Array Value → State → Outcome → State → Prop} (hC : CallFix p m c cc nL s args lw_g own) (hg : lwG G1 G2 s) (hw : lwW G1 G2 S Y s H locs) (hM : Met l y (wm y bytes maxL ret) rm (pcm LY G2 Y (.ref (ad G2 0) :: As)) Qc 0 0 G2.2.2.2) (cw : CallW R s args own RX10 index y bytes maxL ret (wm y bytes maxL ret) rm 0 0 n)
    (hn : As.length = n) (hsz : ls.size = nL) (hst : st0 = As.reverse ++ .ref (ad G2 0) :: rest) (hrm : (rest.map fun v => v.category).sum ≤ 8) (hdg : decode cc pc = .ok (.invokevirtual index, 3)) (hf : cells + 0 ≤ R.cells ∧ slots + 0 ≤ R.slots) : va_Run p l e R s m args below meth c H locs cells slots 0 0 (F0 m pc ls st0) rest (Qc (Value.ref (ad G2 0) :: As).toArray) G2.2.2.2 :=
  va_runV hC hM cw ⟨wg0_blind, va_recv hw.2.2.1 hw.2.1 (ci := 10) (q := (RX10, TX10, 44)) rfl (Wg_get (k := 0) (Nat.le_of_ble_eq_true rfl)), fun U hU hW => ⟨rfl, l_w0Y hg hw hU hW⟩⟩ rfl hn hsz hst (lv_room (pc := pc) (ls := ls) (rest := st0) (m := m) hrm) hdg hf
end LB
def op_row (N : Nat) (RR : St → St → Prop) : Prop := ∀ (S Y : St) (a1 a2 : Int32), RR S Y → ∃ (v : Int32) (S' : St) (Y' : St), fX0_row N S a1 a2 = some (v, S') ∧ fY0_row N Y a1 a2 = some (v, Y') ∧ RR S' Y'
def op_lay (N : Nat) (RR : St → St → Prop) : Prop := ∀ (S Y : St) (a1 a2 a3 : Int32), RR S Y → ∃ (v : Int32) (S' : St) (Y' : St), fX0_lay S a1 a2 a3 = some (v, S') ∧ fY0_lay Y a1 a2 a3 = some (v, Y') ∧ RR S' Y'
def op_at (N : Nat) (RR : St → St → Prop) : Prop := ∀ (S Y : St) (a1 a2 : Int32), RR S Y → ∃ (v : Int32) (S' : St) (Y' : St), fX0_at S a1 a2 = some (v, S') ∧ fY0_at Y a1 a2 = some (v, Y') ∧ RR S' Y'
def op_tear (N : Nat) (RR : St → St → Prop) : Prop := ∀ (S Y : St) (a1 : Int32), RR S Y → ∃ (v : Int32) (S' : St) (Y' : St), fX0_tear S a1 = some (v, S') ∧ fY0_tear Y a1 = some (v, Y') ∧ RR S' Y'
def op_copy (N : Nat) (RR : St → St → Prop) : Prop := ∀ (S Y : St) (a1 a2 a3 a4 a5 : Int32), RR S Y → ∃ (v : Int32) (S' : St) (Y' : St), fX0_copy S a1 a2 a3 a4 a5 = some (v, S') ∧ fY0_copy N Y a1 a2 a3 a4 a5 = some (v, Y') ∧ RR S' Y'
def op_mean (N : Nat) (RR : St → St → Prop) : Prop := ∀ (S Y : St) (a1 : Int32), RR S Y → ∃ (v : Int32) (S' : St) (Y' : St), fX0_mean N S a1 = some (v, S') ∧ fY0_mean N Y a1 = some (v, Y') ∧ RR S' Y'
def op_text (N : Nat) (RR : St → St → Prop) : Prop := ∀ (S Y : St) (a1 a2 : Int32), RR S Y → ∃ (v : Int32) (S' : St) (Y' : St), fX0_text N S a1 a2 = some (v, S') ∧ fY0_text N Y a1 a2 = some (v, Y') ∧ RR S' Y'
def op_put (N : Nat) (RR : St → St → Prop) : Prop := ∀ (S Y : St) (a1 a2 a3 : Int32), RR S Y → ∃ (v : Int32) (S' : St) (Y' : St), fX0_put S a1 a2 a3 = some (v, S') ∧ fY0_put Y a1 a2 a3 = some (v, Y') ∧ RR S' Y'
def op_fault (N : Nat) (RR : St → St → Prop) : Prop := ∀ (S Y : St) (a1 : Int32), RR S Y → ∃ (v : Int32) (S' : St) (Y' : St), fX0_fault N S a1 = some (v, S') ∧ fY0_fault N Y a1 = some (v, Y') ∧ RR S' Y'
def op_book (N : Nat) (RR : St → St → Prop) : Prop := ∀ (S Y : St) (a1 : Int32), RR S Y → ∃ (v : Int32) (S' : St) (Y' : St), fX0_book N S a1 = some (v, S') ∧ fY0_book N Y a1 = some (v, Y') ∧ RR S' Y'
def op_sum (N : Nat) (RR : St → St → Prop) : Prop := ∀ (S Y : St) (a1 a2 a3 : Int32), RR S Y → ∃ (v : Int32) (S' : St) (Y' : St), fX0_sum S a1 a2 a3 = some (v, S') ∧ fY0_sum Y a1 a2 a3 = some (v, Y') ∧ RR S' Y'
def op_total (N : Nat) (RR : St → St → Prop) : Prop := ∀ (S Y : St) (a1 a2 : Int32), RR S Y → ∃ (v : Int32) (S' : St) (Y' : St), fX0_total S a1 a2 = some (v, S') ∧ fY0_total Y a1 a2 = some (v, Y') ∧ RR S' Y'
def op_clear (N : Nat) (RR : St → St → Prop) : Prop := ∀ (S Y : St), RR S Y → ∃ (v : Int32) (S' : St) (Y' : St), fX0_clear S = some (v, S') ∧ fY0_clear Y = some (v, Y') ∧ RR S' Y'
def op_heap (N : Nat) (RR : St → St → Prop) : Prop := ∀ (S Y : St) (a1 : Int32), RR S Y → ∃ (v : Int32) (S' : St) (Y' : St), fX0_heap N S a1 = some (v, S') ∧ fY0_heap N Y a1 = some (v, Y') ∧ RR S' Y'
def op_read (N : Nat) (RR : St → St → Prop) : Prop := ∀ (S Y : St) (a1 a2 : Int32), RR S Y → ∃ (v : Int32) (S' : St) (Y' : St), fX0_read S a1 a2 = some (v, S') ∧ fY0_read Y a1 a2 = some (v, Y') ∧ RR S' Y'
def op_kind (N : Nat) (RR : St → St → Prop) : Prop := ∀ (S Y : St) (a1 : Int32), RR S Y → ∃ (v : Int32) (S' : St) (Y' : St), fX0_kind S a1 = some (v, S') ∧ fY0_kind Y a1 = some (v, Y') ∧ RR S' Y'
def op_mark (N : Nat) (RR : St → St → Prop) : Prop := ∀ (S Y : St) (a1 a2 : Int32), RR S Y → ∃ (v : Int32) (S' : St) (Y' : St), fX0_mark N S a1 a2 = some (v, S') ∧ fY0_mark N Y a1 a2 = some (v, Y') ∧ RR S' Y'
def op_left (N : Nat) (RR : St → St → Prop) : Prop := ∀ (S Y : St) (a1 a2 : Int32), RR S Y → ∃ (v : Int32) (S' : St) (Y' : St), fX0_left N S a1 a2 = some (v, S') ∧ fY0_left N Y a1 a2 = some (v, Y') ∧ RR S' Y'
def op_ends (N : Nat) (RR : St → St → Prop) : Prop := ∀ (S Y : St) (a1 : Int32), RR S Y → ∃ (v : Int32) (S' : St) (Y' : St), fX0_ends N S a1 = some (v, S') ∧ fY0_ends N Y a1 = some (v, Y') ∧ RR S' Y'
def op_may (N : Nat) (RR : St → St → Prop) : Prop := ∀ (S Y : St) (a1 a2 : Int32), RR S Y → ∃ (v : Int32) (S' : St) (Y' : St), fX0_may N S a1 a2 = some (v, S') ∧ fY0_may N Y a1 a2 = some (v, Y') ∧ RR S' Y'
def op_burnt (N : Nat) (RR : St → St → Prop) : Prop := ∀ (S Y : St), RR S Y → ∃ (v : Int32) (S' : St) (Y' : St), fX0_burnt N S = some (v, S') ∧ fY0_burnt N Y = some (v, Y') ∧ RR S' Y'
def op_count (N : Nat) (RR : St → St → Prop) : Prop := ∀ (S Y : St) (a1 : Int32), RR S Y → ∃ (v : Int32) (S' : St) (Y' : St), fX0_count N S a1 = some (v, S') ∧ fY0_count N Y a1 = some (v, Y') ∧ RR S' Y'
def op_fill (N : Nat) (RR : St → St → Prop) : Prop := ∀ (S Y : St) (a1 a2 a3 : Int32), RR S Y → ∃ (v : Int32) (S' : St) (Y' : St), fX0_fill N S a1 a2 a3 = some (v, S') ∧ fY0_fill N Y a1 a2 a3 = some (v, Y') ∧ RR S' Y'
def op_could (N : Nat) (RR : St → St → Prop) : Prop := ∀ (S Y : St) (a1 a2 a3 : Int32), RR S Y → ∃ (v : Int32) (S' : St) (Y' : St), fX0_could N S a1 a2 a3 = some (v, S') ∧ fY0_could N Y a1 a2 a3 = some (v, Y') ∧ RR S' Y'
def op_must (N : Nat) (RR : St → St → Prop) : Prop := ∀ (S Y : St) (a1 a2 : Int32), RR S Y → ∃ (v : Int32) (S' : St) (Y' : St), fX0_must N S a1 a2 = some (v, S') ∧ fY0_must N Y a1 a2 = some (v, Y') ∧ RR S' Y'
def op_sure (N : Nat) (RR : St → St → Prop) : Prop := ∀ (S Y : St) (a1 : Int32), RR S Y → ∃ (v : Int32) (S' : St) (Y' : St), fX0_sure N S a1 = some (v, S') ∧ fY0_sure N Y a1 = some (v, Y') ∧ RR S' Y'
def op_like (N : Nat) (RR : St → St → Prop) : Prop := ∀ (S Y : St) (a1 a2 a3 : Int32), RR S Y → ∃ (v : Int32) (S' : St) (Y' : St), fX0_like N S a1 a2 a3 = some (v, S') ∧ fY0_like N Y a1 a2 a3 = some (v, Y') ∧ RR S' Y'
def op_wrong (N : Nat) (RR : St → St → Prop) : Prop := ∀ (S Y : St) (a1 : Int32), RR S Y → ∃ (v : Int32) (S' : St) (Y' : St), fX0_wrong N S a1 = some (v, S') ∧ fY0_wrong N Y a1 = some (v, Y') ∧ RR S' Y'
def op_next (N : Nat) (RR : St → St → Prop) : Prop := ∀ (S Y : St) (a1 : Int32), RR S Y → ∃ (v : Int32) (S' : St) (Y' : St), fX0_next N S a1 = some (v, S') ∧ fY0_next N Y a1 = some (v, Y') ∧ RR S' Y'
def op_judge (N : Nat) (RR : St → St → Prop) : Prop := ∀ (S Y : St) (a1 : Int32), RR S Y → ∃ (v : Int32) (S' : St) (Y' : St), fX0_judge N S a1 = some (v, S') ∧ fY0_judge N Y a1 = some (v, Y') ∧ RR S' Y'
def op_orders (N : Nat) (RR : St → St → Prop) : Prop := ∀ (S Y : St) (a1 : Int32), RR S Y → ∃ (v : Int32) (S' : St) (Y' : St), fX0_orders N S a1 = some (v, S') ∧ fY0_orders N Y a1 = some (v, Y') ∧ RR S' Y'
def op_matches (N : Nat) (RR : St → St → Prop) : Prop := ∀ (S Y : St), RR S Y → ∃ (v : Int32) (S' : St) (Y' : St), fX0_matches N S = some (v, S') ∧ fY0_matches N Y = some (v, Y') ∧ RR S' Y'
def op_asked (N : Nat) (RR : St → St → Prop) : Prop := ∀ (S Y : St), RR S Y → ∃ (v : Int32), fX0_asked S = some v ∧ fY0_asked Y = some v ∧ RR S Y
def op_upper (N : Nat) (RR : St → St → Prop) : Prop := ∀ (S Y : St), RR S Y → ∃ (v : Int64), fX0_upper S = some v ∧ fY0_upper Y = some v ∧ RR S Y
def op_lower (N : Nat) (RR : St → St → Prop) : Prop := ∀ (S Y : St), RR S Y → ∃ (v : Int64), fX0_lower S = some v ∧ fY0_lower Y = some v ∧ RR S Y
def op_there (N : Nat) (RR : St → St → Prop) : Prop := ∀ (S Y : St) (a1 : Int32), RR S Y → ∃ (v : Int32), fX0_there N S a1 = some v ∧ fY0_there N Y a1 = some v ∧ RR S Y
def op_finding (N : Nat) (RR : St → St → Prop) : Prop := ∀ (S Y : St), RR S Y → ∃ (v : Int32), fX0_finding S = some v ∧ fY0_finding Y = some v ∧ RR S Y
def op_findings (N : Nat) (RR : St → St → Prop) : Prop := ∀ (S Y : St) (a1 : Int32), RR S Y → ∃ (v : Int32), fX0_findings S a1 = some v ∧ fY0_findings Y a1 = some v ∧ RR S Y
def op_digest (N : Nat) (RR : St → St → Prop) : Prop := ∀ (S Y : St), RR S Y → ∃ (v : Int64) (S' : St) (Y' : St), fX0_digest N S = some (v, S') ∧ fY0_digest N Y = some (v, Y') ∧ RR S' Y'
def opsOK (N : Nat) (RR : St → St → Prop) : Prop := op_row N RR ∧ op_lay N RR ∧ op_at N RR ∧ op_tear N RR ∧ op_copy N RR ∧ op_mean N RR ∧ op_text N RR ∧ op_put N RR ∧ op_fault N RR ∧ op_book N RR ∧ op_sum N RR ∧ op_total N RR ∧ op_clear N RR ∧ op_heap N RR ∧ op_read N RR ∧ op_kind N RR ∧ op_mark N RR ∧ op_left N RR ∧ op_ends N RR ∧ op_may N RR ∧ op_burnt N RR ∧ op_count N RR ∧ op_fill N RR ∧ op_could N RR ∧ op_must N RR ∧ op_sure N RR ∧ op_like N RR ∧ op_wrong N RR ∧ op_next N RR ∧ op_judge N RR ∧ op_orders N RR ∧ op_matches N RR ∧ op_asked N RR ∧ op_upper N RR ∧ op_lower N RR ∧ op_there N RR ∧ op_finding N RR ∧ op_findings N RR ∧ op_digest N RR
theorem lg_cmp_self (v : Int64) : lg_cmp v v = 0 := by
  unfold lg_cmp
  rw [if_neg (by rw [gt_iff_lt]; exact Int64.lt_irrefl), if_pos rfl]
section LL
variable {p : Program} {l : Launch} {e : Env} {s : State} {m : MethodId} {below : List Frame} {meth : Method} {c : Code} {Q : State → Prop} {G1 G2 : GG} {b L : Nat} {xs : Nat → Int32} {N : Nat} {RR : St → St → Prop}
set_option maxHeartbeats 4000000 in
set_option maxRecDepth 100000 in
theorem lc_row (hC : CallFix p m c cL_law 4 s #[Value.ref b] lw_g RL) (hX : va_X b L xs s s.heap) (hbl : b < s.heap.size) (hg : lwG G1 G2 s) (op : op_row N RR) {i : Nat} (hi : i + 6 ≤ L) (hL : L ≤ 3072) {S Y : St} (hR : RR S Y) {H : Heap} {locs : List Loc} {ls : Array Slot} (hw : lwW G1 G2 S Y s H locs) (hl : lv_has ls 4 [(0, .ref b), (1, .ref (ad G1 0)), (2, .ref (ad G2 0)), (3, .int (nI i))]) (kk : ∀ (S Y : St) (H : Heap) (locs : List Loc), RR S Y → lwW G1 G2 S Y s H locs → W p l e room_1 s m #[Value.ref b] below meth c H locs 82 22876 Q (F0 m 1274 ls [])) : W p l e room_1 s m #[Value.ref b] below meth c H locs 82 22876 Q (F0 m 204 ls []) := by
  have hx := hC.1
  have hb := hC.2.1
  have hbA : ¬ (fun q : Nat => s.heap.size ≤ q) b := Nat.not_le.mpr hbl
  have hi1 : vp_in (nI i + 1) L := by
    have e1 : nI i + 1 = nI (i + 1) := nI_add i 1
    rw [e1]
    exact vp_in_nI (by omega) (by omega)
  have hi2 : vp_in (nI i + 2) L := by
    have e1 : nI i + 2 = nI (i + 2) := nI_add i 2
    rw [e1]
    exact vp_in_nI (by omega) (by omega)
  obtain ⟨v, S', Y', e1, e2, hR'⟩ := op S Y (xs (nI i + 1).toNatClampNeg) (xs (nI i + 2).toNatClampNeg) hR
  refine lv_aload_n hx hb dL_law_204 rfl (lv_at hl 1 rfl) ?_
  refine lv_aload_n hx hb dL_law_205 rfl (lv_at hl 0 rfl) ?_
  refine lv_iload_n hx hb dL_law_206 rfl (lv_at hl 3 rfl) ?_
  refine lv_iconst (v := 1) hx hb dL_law_207 (by decide) ?_
  refine lv_iadd hx hb dL_law_208 ?_
  refine va_sld hx hb hX hbl hbA hw.2.2.2.1 hi1 dL_law_209 ?_
  refine lv_aload_n hx hb dL_law_210 rfl (lv_at hl 0 rfl) ?_
  refine lv_iload_n hx hb dL_law_211 rfl (lv_at hl 3 rfl) ?_
  refine lv_iconst (v := 2) hx hb dL_law_212 (by decide) ?_
  refine lv_iadd hx hb dL_law_213 ?_
  refine va_sld hx hb hX hbl hbA hw.2.2.2.1 hi2 dL_law_214 ?_
  refine l_gXi hg (l_rX (As := [.int (xs (nI i + 1).toNatClampNeg), .int (xs (nI i + 2).toNatClampNeg)]) (rest := []) hC hg hw (ctX0_row e1) (cwV_g hC.2.2.2.2 ml_L_13 mi_X9_row md_X9_row ⟨Nat.le_of_ble_eq_true rfl, Nat.le_of_ble_eq_true rfl⟩) rfl hl.1 rfl (Nat.le_of_ble_eq_true rfl) dL_law_215 ⟨Nat.le_of_ble_eq_true rfl, Nat.le_of_ble_eq_true rfl⟩) hw (fun H locs hw => ?_)
  refine lv_aload_n hx hb dL_law_218 rfl (lv_at hl 2 rfl) ?_
  refine lv_aload_n hx hb dL_law_219 rfl (lv_at hl 0 rfl) ?_
  refine lv_iload_n hx hb dL_law_220 rfl (lv_at hl 3 rfl) ?_
  refine lv_iconst (v := 1) hx hb dL_law_221 (by decide) ?_
  refine lv_iadd hx hb dL_law_222 ?_
  refine va_sld hx hb hX hbl hbA hw.2.2.2.1 hi1 dL_law_223 ?_
  refine lv_aload_n hx hb dL_law_224 rfl (lv_at hl 0 rfl) ?_
  refine lv_iload_n hx hb dL_law_225 rfl (lv_at hl 3 rfl) ?_
  refine lv_iconst (v := 2) hx hb dL_law_226 (by decide) ?_
  refine lv_iadd hx hb dL_law_227 ?_
  refine va_sld hx hb hX hbl hbA hw.2.2.2.1 hi2 dL_law_228 ?_
  refine l_gYi hg (l_rY (As := [.int (xs (nI i + 1).toNatClampNeg), .int (xs (nI i + 2).toNatClampNeg)]) (rest := [.int v]) hC hg hw (ctY0_row e2) (cwV_g hC.2.2.2.2 ml_L_17 mi_X10_row md_X10_row ⟨Nat.le_of_ble_eq_true rfl, Nat.le_of_ble_eq_true rfl⟩) rfl hl.1 rfl (Nat.le_of_ble_eq_true rfl) dL_law_229 ⟨Nat.le_of_ble_eq_true rfl, Nat.le_of_ble_eq_true rfl⟩) hw (fun H locs hw => ?_)
  refine lv_icmp_eq (tgt := 1274) hx hb dL_law_232 (by decide) (fun _ => ?_) (fun q => absurd rfl q)
  exact kk _ _ _ _ hR' hw
set_option maxHeartbeats 4000000 in
set_option maxRecDepth 100000 in
theorem lc_lay (hC : CallFix p m c cL_law 4 s #[Value.ref b] lw_g RL) (hX : va_X b L xs s s.heap) (hbl : b < s.heap.size) (hg : lwG G1 G2 s) (op : op_lay N RR) {i : Nat} (hi : i + 6 ≤ L) (hL : L ≤ 3072) {S Y : St} (hR : RR S Y) {H : Heap} {locs : List Loc} {ls : Array Slot} (hw : lwW G1 G2 S Y s H locs) (hl : lv_has ls 4 [(0, .ref b), (1, .ref (ad G1 0)), (2, .ref (ad G2 0)), (3, .int (nI i))]) (kk : ∀ (S Y : St) (H : Heap) (locs : List Loc), RR S Y → lwW G1 G2 S Y s H locs → W p l e room_1 s m #[Value.ref b] below meth c H locs 82 22876 Q (F0 m 1274 ls [])) : W p l e room_1 s m #[Value.ref b] below meth c H locs 82 22876 Q (F0 m 237 ls []) := by
  have hx := hC.1
  have hb := hC.2.1
  have hbA : ¬ (fun q : Nat => s.heap.size ≤ q) b := Nat.not_le.mpr hbl
  have hi1 : vp_in (nI i + 1) L := by
    have e1 : nI i + 1 = nI (i + 1) := nI_add i 1
    rw [e1]
    exact vp_in_nI (by omega) (by omega)
  have hi2 : vp_in (nI i + 2) L := by
    have e1 : nI i + 2 = nI (i + 2) := nI_add i 2
    rw [e1]
    exact vp_in_nI (by omega) (by omega)
  have hi3 : vp_in (nI i + 3) L := by
    have e1 : nI i + 3 = nI (i + 3) := nI_add i 3
    rw [e1]
    exact vp_in_nI (by omega) (by omega)
  obtain ⟨v, S', Y', e1, e2, hR'⟩ := op S Y (xs (nI i + 1).toNatClampNeg) (xs (nI i + 2).toNatClampNeg) (xs (nI i + 3).toNatClampNeg) hR
  refine lv_aload_n hx hb dL_law_237 rfl (lv_at hl 1 rfl) ?_
  refine lv_aload_n hx hb dL_law_238 rfl (lv_at hl 0 rfl) ?_
  refine lv_iload_n hx hb dL_law_239 rfl (lv_at hl 3 rfl) ?_
  refine lv_iconst (v := 1) hx hb dL_law_240 (by decide) ?_
  refine lv_iadd hx hb dL_law_241 ?_
  refine va_sld hx hb hX hbl hbA hw.2.2.2.1 hi1 dL_law_242 ?_
  refine lv_aload_n hx hb dL_law_243 rfl (lv_at hl 0 rfl) ?_
  refine lv_iload_n hx hb dL_law_244 rfl (lv_at hl 3 rfl) ?_
  refine lv_iconst (v := 2) hx hb dL_law_245 (by decide) ?_
  refine lv_iadd hx hb dL_law_246 ?_
  refine va_sld hx hb hX hbl hbA hw.2.2.2.1 hi2 dL_law_247 ?_
  refine lv_aload_n hx hb dL_law_248 rfl (lv_at hl 0 rfl) ?_
  refine lv_iload_n hx hb dL_law_249 rfl (lv_at hl 3 rfl) ?_
  refine lv_iconst (v := 3) hx hb dL_law_250 (by decide) ?_
  refine lv_iadd hx hb dL_law_251 ?_
  refine va_sld hx hb hX hbl hbA hw.2.2.2.1 hi3 dL_law_252 ?_
  refine l_gXi hg (l_rX (As := [.int (xs (nI i + 1).toNatClampNeg), .int (xs (nI i + 2).toNatClampNeg), .int (xs (nI i + 3).toNatClampNeg)]) (rest := []) hC hg hw (ctX0_lay e1) (cwV_g hC.2.2.2.2 ml_L_18 mi_X9_lay md_X9_lay ⟨Nat.le_of_ble_eq_true rfl, Nat.le_of_ble_eq_true rfl⟩) rfl hl.1 rfl (Nat.le_of_ble_eq_true rfl) dL_law_253 ⟨Nat.le_of_ble_eq_true rfl, Nat.le_of_ble_eq_true rfl⟩) hw (fun H locs hw => ?_)
  refine lv_aload_n hx hb dL_law_256 rfl (lv_at hl 2 rfl) ?_
  refine lv_aload_n hx hb dL_law_257 rfl (lv_at hl 0 rfl) ?_
  refine lv_iload_n hx hb dL_law_258 rfl (lv_at hl 3 rfl) ?_
  refine lv_iconst (v := 1) hx hb dL_law_259 (by decide) ?_
  refine lv_iadd hx hb dL_law_260 ?_
  refine va_sld hx hb hX hbl hbA hw.2.2.2.1 hi1 dL_law_261 ?_
  refine lv_aload_n hx hb dL_law_262 rfl (lv_at hl 0 rfl) ?_
  refine lv_iload_n hx hb dL_law_263 rfl (lv_at hl 3 rfl) ?_
  refine lv_iconst (v := 2) hx hb dL_law_264 (by decide) ?_
  refine lv_iadd hx hb dL_law_265 ?_
  refine va_sld hx hb hX hbl hbA hw.2.2.2.1 hi2 dL_law_266 ?_
  refine lv_aload_n hx hb dL_law_267 rfl (lv_at hl 0 rfl) ?_
  refine lv_iload_n hx hb dL_law_268 rfl (lv_at hl 3 rfl) ?_
  refine lv_iconst (v := 3) hx hb dL_law_269 (by decide) ?_
  refine lv_iadd hx hb dL_law_270 ?_
  refine va_sld hx hb hX hbl hbA hw.2.2.2.1 hi3 dL_law_271 ?_
  refine l_gYi hg (l_rY (As := [.int (xs (nI i + 1).toNatClampNeg), .int (xs (nI i + 2).toNatClampNeg), .int (xs (nI i + 3).toNatClampNeg)]) (rest := [.int v]) hC hg hw (ctY0_lay e2) (cwV_g hC.2.2.2.2 ml_L_22 mi_X10_lay md_X10_lay ⟨Nat.le_of_ble_eq_true rfl, Nat.le_of_ble_eq_true rfl⟩) rfl hl.1 rfl (Nat.le_of_ble_eq_true rfl) dL_law_272 ⟨Nat.le_of_ble_eq_true rfl, Nat.le_of_ble_eq_true rfl⟩) hw (fun H locs hw => ?_)
  refine lv_icmp_eq (tgt := 1274) hx hb dL_law_275 (by decide) (fun _ => ?_) (fun q => absurd rfl q)
  exact kk _ _ _ _ hR' hw
set_option maxHeartbeats 4000000 in
set_option maxRecDepth 100000 in
theorem lc_at (hC : CallFix p m c cL_law 4 s #[Value.ref b] lw_g RL) (hX : va_X b L xs s s.heap) (hbl : b < s.heap.size) (hg : lwG G1 G2 s) (op : op_at N RR) {i : Nat} (hi : i + 6 ≤ L) (hL : L ≤ 3072) {S Y : St} (hR : RR S Y) {H : Heap} {locs : List Loc} {ls : Array Slot} (hw : lwW G1 G2 S Y s H locs) (hl : lv_has ls 4 [(0, .ref b), (1, .ref (ad G1 0)), (2, .ref (ad G2 0)), (3, .int (nI i))]) (kk : ∀ (S Y : St) (H : Heap) (locs : List Loc), RR S Y → lwW G1 G2 S Y s H locs → W p l e room_1 s m #[Value.ref b] below meth c H locs 82 22876 Q (F0 m 1274 ls [])) : W p l e room_1 s m #[Value.ref b] below meth c H locs 82 22876 Q (F0 m 280 ls []) := by
  have hx := hC.1
  have hb := hC.2.1
  have hbA : ¬ (fun q : Nat => s.heap.size ≤ q) b := Nat.not_le.mpr hbl
  have hi1 : vp_in (nI i + 1) L := by
    have e1 : nI i + 1 = nI (i + 1) := nI_add i 1
    rw [e1]
    exact vp_in_nI (by omega) (by omega)
  have hi2 : vp_in (nI i + 2) L := by
    have e1 : nI i + 2 = nI (i + 2) := nI_add i 2
    rw [e1]
    exact vp_in_nI (by omega) (by omega)
  obtain ⟨v, S', Y', e1, e2, hR'⟩ := op S Y (xs (nI i + 1).toNatClampNeg) (xs (nI i + 2).toNatClampNeg) hR
  refine lv_aload_n hx hb dL_law_280 rfl (lv_at hl 1 rfl) ?_
  refine lv_aload_n hx hb dL_law_281 rfl (lv_at hl 0 rfl) ?_
  refine lv_iload_n hx hb dL_law_282 rfl (lv_at hl 3 rfl) ?_
  refine lv_iconst (v := 1) hx hb dL_law_283 (by decide) ?_
  refine lv_iadd hx hb dL_law_284 ?_
  refine va_sld hx hb hX hbl hbA hw.2.2.2.1 hi1 dL_law_285 ?_
  refine lv_aload_n hx hb dL_law_286 rfl (lv_at hl 0 rfl) ?_
  refine lv_iload_n hx hb dL_law_287 rfl (lv_at hl 3 rfl) ?_
  refine lv_iconst (v := 2) hx hb dL_law_288 (by decide) ?_
  refine lv_iadd hx hb dL_law_289 ?_
  refine va_sld hx hb hX hbl hbA hw.2.2.2.1 hi2 dL_law_290 ?_
  refine l_gXi hg (l_rX (As := [.int (xs (nI i + 1).toNatClampNeg), .int (xs (nI i + 2).toNatClampNeg)]) (rest := []) hC hg hw (ctX0_at e1) (cwV_g hC.2.2.2.2 ml_L_23 mi_X9_at md_X9_at ⟨Nat.le_of_ble_eq_true rfl, Nat.le_of_ble_eq_true rfl⟩) rfl hl.1 rfl (Nat.le_of_ble_eq_true rfl) dL_law_291 ⟨Nat.le_of_ble_eq_true rfl, Nat.le_of_ble_eq_true rfl⟩) hw (fun H locs hw => ?_)
  refine lv_aload_n hx hb dL_law_294 rfl (lv_at hl 2 rfl) ?_
  refine lv_aload_n hx hb dL_law_295 rfl (lv_at hl 0 rfl) ?_
  refine lv_iload_n hx hb dL_law_296 rfl (lv_at hl 3 rfl) ?_
  refine lv_iconst (v := 1) hx hb dL_law_297 (by decide) ?_
  refine lv_iadd hx hb dL_law_298 ?_
  refine va_sld hx hb hX hbl hbA hw.2.2.2.1 hi1 dL_law_299 ?_
  refine lv_aload_n hx hb dL_law_300 rfl (lv_at hl 0 rfl) ?_
  refine lv_iload_n hx hb dL_law_301 rfl (lv_at hl 3 rfl) ?_
  refine lv_iconst (v := 2) hx hb dL_law_302 (by decide) ?_
  refine lv_iadd hx hb dL_law_303 ?_
  refine va_sld hx hb hX hbl hbA hw.2.2.2.1 hi2 dL_law_304 ?_
  refine l_gYi hg (l_rY (As := [.int (xs (nI i + 1).toNatClampNeg), .int (xs (nI i + 2).toNatClampNeg)]) (rest := [.int v]) hC hg hw (ctY0_at e2) (cwV_g hC.2.2.2.2 ml_L_26 mi_X10_at md_X10_at ⟨Nat.le_of_ble_eq_true rfl, Nat.le_of_ble_eq_true rfl⟩) rfl hl.1 rfl (Nat.le_of_ble_eq_true rfl) dL_law_305 ⟨Nat.le_of_ble_eq_true rfl, Nat.le_of_ble_eq_true rfl⟩) hw (fun H locs hw => ?_)
  refine lv_icmp_eq (tgt := 1274) hx hb dL_law_308 (by decide) (fun _ => ?_) (fun q => absurd rfl q)
  exact kk _ _ _ _ hR' hw
set_option maxHeartbeats 4000000 in
set_option maxRecDepth 100000 in
theorem lc_tear (hC : CallFix p m c cL_law 4 s #[Value.ref b] lw_g RL) (hX : va_X b L xs s s.heap) (hbl : b < s.heap.size) (hg : lwG G1 G2 s) (op : op_tear N RR) {i : Nat} (hi : i + 6 ≤ L) (hL : L ≤ 3072) {S Y : St} (hR : RR S Y) {H : Heap} {locs : List Loc} {ls : Array Slot} (hw : lwW G1 G2 S Y s H locs) (hl : lv_has ls 4 [(0, .ref b), (1, .ref (ad G1 0)), (2, .ref (ad G2 0)), (3, .int (nI i))]) (kk : ∀ (S Y : St) (H : Heap) (locs : List Loc), RR S Y → lwW G1 G2 S Y s H locs → W p l e room_1 s m #[Value.ref b] below meth c H locs 82 22876 Q (F0 m 1274 ls [])) : W p l e room_1 s m #[Value.ref b] below meth c H locs 82 22876 Q (F0 m 313 ls []) := by
  have hx := hC.1
  have hb := hC.2.1
  have hbA : ¬ (fun q : Nat => s.heap.size ≤ q) b := Nat.not_le.mpr hbl
  have hi1 : vp_in (nI i + 1) L := by
    have e1 : nI i + 1 = nI (i + 1) := nI_add i 1
    rw [e1]
    exact vp_in_nI (by omega) (by omega)
  obtain ⟨v, S', Y', e1, e2, hR'⟩ := op S Y (xs (nI i + 1).toNatClampNeg) hR
  refine lv_aload_n hx hb dL_law_313 rfl (lv_at hl 1 rfl) ?_
  refine lv_aload_n hx hb dL_law_314 rfl (lv_at hl 0 rfl) ?_
  refine lv_iload_n hx hb dL_law_315 rfl (lv_at hl 3 rfl) ?_
  refine lv_iconst (v := 1) hx hb dL_law_316 (by decide) ?_
  refine lv_iadd hx hb dL_law_317 ?_
  refine va_sld hx hb hX hbl hbA hw.2.2.2.1 hi1 dL_law_318 ?_
  refine l_gXi hg (l_rX (As := [.int (xs (nI i + 1).toNatClampNeg)]) (rest := []) hC hg hw (ctX0_tear e1) (cwV_g hC.2.2.2.2 ml_L_27 mi_X9_tear md_X9_tear ⟨Nat.le_of_ble_eq_true rfl, Nat.le_of_ble_eq_true rfl⟩) rfl hl.1 rfl (Nat.le_of_ble_eq_true rfl) dL_law_319 ⟨Nat.le_of_ble_eq_true rfl, Nat.le_of_ble_eq_true rfl⟩) hw (fun H locs hw => ?_)
  refine lv_aload_n hx hb dL_law_322 rfl (lv_at hl 2 rfl) ?_
  refine lv_aload_n hx hb dL_law_323 rfl (lv_at hl 0 rfl) ?_
  refine lv_iload_n hx hb dL_law_324 rfl (lv_at hl 3 rfl) ?_
  refine lv_iconst (v := 1) hx hb dL_law_325 (by decide) ?_
  refine lv_iadd hx hb dL_law_326 ?_
  refine va_sld hx hb hX hbl hbA hw.2.2.2.1 hi1 dL_law_327 ?_
  refine l_gYi hg (l_rY (As := [.int (xs (nI i + 1).toNatClampNeg)]) (rest := [.int v]) hC hg hw (ctY0_tear e2) (cwV_g hC.2.2.2.2 ml_L_31 mi_X10_tear md_X10_tear ⟨Nat.le_of_ble_eq_true rfl, Nat.le_of_ble_eq_true rfl⟩) rfl hl.1 rfl (Nat.le_of_ble_eq_true rfl) dL_law_328 ⟨Nat.le_of_ble_eq_true rfl, Nat.le_of_ble_eq_true rfl⟩) hw (fun H locs hw => ?_)
  refine lv_icmp_eq (tgt := 1274) hx hb dL_law_331 (by decide) (fun _ => ?_) (fun q => absurd rfl q)
  exact kk _ _ _ _ hR' hw
set_option maxHeartbeats 4000000 in
set_option maxRecDepth 100000 in
theorem lc_copy (hC : CallFix p m c cL_law 4 s #[Value.ref b] lw_g RL) (hX : va_X b L xs s s.heap) (hbl : b < s.heap.size) (hg : lwG G1 G2 s) (op : op_copy N RR) {i : Nat} (hi : i + 6 ≤ L) (hL : L ≤ 3072) {S Y : St} (hR : RR S Y) {H : Heap} {locs : List Loc} {ls : Array Slot} (hw : lwW G1 G2 S Y s H locs) (hl : lv_has ls 4 [(0, .ref b), (1, .ref (ad G1 0)), (2, .ref (ad G2 0)), (3, .int (nI i))]) (kk : ∀ (S Y : St) (H : Heap) (locs : List Loc), RR S Y → lwW G1 G2 S Y s H locs → W p l e room_1 s m #[Value.ref b] below meth c H locs 82 22876 Q (F0 m 1274 ls [])) : W p l e room_1 s m #[Value.ref b] below meth c H locs 82 22876 Q (F0 m 336 ls []) := by
  have hx := hC.1
  have hb := hC.2.1
  have hbA : ¬ (fun q : Nat => s.heap.size ≤ q) b := Nat.not_le.mpr hbl
  have hi1 : vp_in (nI i + 1) L := by
    have e1 : nI i + 1 = nI (i + 1) := nI_add i 1
    rw [e1]
    exact vp_in_nI (by omega) (by omega)
  have hi2 : vp_in (nI i + 2) L := by
    have e1 : nI i + 2 = nI (i + 2) := nI_add i 2
    rw [e1]
    exact vp_in_nI (by omega) (by omega)
  have hi3 : vp_in (nI i + 3) L := by
    have e1 : nI i + 3 = nI (i + 3) := nI_add i 3
    rw [e1]
    exact vp_in_nI (by omega) (by omega)
  have hi4 : vp_in (nI i + 4) L := by
    have e1 : nI i + 4 = nI (i + 4) := nI_add i 4
    rw [e1]
    exact vp_in_nI (by omega) (by omega)
  have hi5 : vp_in (nI i + 5) L := by
    have e1 : nI i + 5 = nI (i + 5) := nI_add i 5
    rw [e1]
    exact vp_in_nI (by omega) (by omega)
  obtain ⟨v, S', Y', e1, e2, hR'⟩ := op S Y (xs (nI i + 1).toNatClampNeg) (xs (nI i + 2).toNatClampNeg) (xs (nI i + 3).toNatClampNeg) (xs (nI i + 4).toNatClampNeg) (xs (nI i + 5).toNatClampNeg) hR
  refine lv_aload_n hx hb dL_law_336 rfl (lv_at hl 1 rfl) ?_
  refine lv_aload_n hx hb dL_law_337 rfl (lv_at hl 0 rfl) ?_
  refine lv_iload_n hx hb dL_law_338 rfl (lv_at hl 3 rfl) ?_
  refine lv_iconst (v := 1) hx hb dL_law_339 (by decide) ?_
  refine lv_iadd hx hb dL_law_340 ?_
  refine va_sld hx hb hX hbl hbA hw.2.2.2.1 hi1 dL_law_341 ?_
  refine lv_aload_n hx hb dL_law_342 rfl (lv_at hl 0 rfl) ?_
  refine lv_iload_n hx hb dL_law_343 rfl (lv_at hl 3 rfl) ?_
  refine lv_iconst (v := 2) hx hb dL_law_344 (by decide) ?_
  refine lv_iadd hx hb dL_law_345 ?_
  refine va_sld hx hb hX hbl hbA hw.2.2.2.1 hi2 dL_law_346 ?_
  refine lv_aload_n hx hb dL_law_347 rfl (lv_at hl 0 rfl) ?_
  refine lv_iload_n hx hb dL_law_348 rfl (lv_at hl 3 rfl) ?_
  refine lv_iconst (v := 3) hx hb dL_law_349 (by decide) ?_
  refine lv_iadd hx hb dL_law_350 ?_
  refine va_sld hx hb hX hbl hbA hw.2.2.2.1 hi3 dL_law_351 ?_
  refine lv_aload_n hx hb dL_law_352 rfl (lv_at hl 0 rfl) ?_
  refine lv_iload_n hx hb dL_law_353 rfl (lv_at hl 3 rfl) ?_
  refine lv_iconst (v := 4) hx hb dL_law_354 (by decide) ?_
  refine lv_iadd hx hb dL_law_355 ?_
  refine va_sld hx hb hX hbl hbA hw.2.2.2.1 hi4 dL_law_356 ?_
  refine lv_aload_n hx hb dL_law_357 rfl (lv_at hl 0 rfl) ?_
  refine lv_iload_n hx hb dL_law_358 rfl (lv_at hl 3 rfl) ?_
  refine lv_iconst (v := 5) hx hb dL_law_359 (by decide) ?_
  refine lv_iadd hx hb dL_law_360 ?_
  refine va_sld hx hb hX hbl hbA hw.2.2.2.1 hi5 dL_law_361 ?_
  refine l_gXi hg (l_rX (As := [.int (xs (nI i + 1).toNatClampNeg), .int (xs (nI i + 2).toNatClampNeg), .int (xs (nI i + 3).toNatClampNeg), .int (xs (nI i + 4).toNatClampNeg), .int (xs (nI i + 5).toNatClampNeg)]) (rest := []) hC hg hw (ctX0_copy e1) (cwV_g hC.2.2.2.2 ml_L_32 mi_X9_copy md_X9_copy ⟨Nat.le_of_ble_eq_true rfl, Nat.le_of_ble_eq_true rfl⟩) rfl hl.1 rfl (Nat.le_of_ble_eq_true rfl) dL_law_362 ⟨Nat.le_of_ble_eq_true rfl, Nat.le_of_ble_eq_true rfl⟩) hw (fun H locs hw => ?_)
  refine lv_aload_n hx hb dL_law_365 rfl (lv_at hl 2 rfl) ?_
  refine lv_aload_n hx hb dL_law_366 rfl (lv_at hl 0 rfl) ?_
  refine lv_iload_n hx hb dL_law_367 rfl (lv_at hl 3 rfl) ?_
  refine lv_iconst (v := 1) hx hb dL_law_368 (by decide) ?_
  refine lv_iadd hx hb dL_law_369 ?_
  refine va_sld hx hb hX hbl hbA hw.2.2.2.1 hi1 dL_law_370 ?_
  refine lv_aload_n hx hb dL_law_371 rfl (lv_at hl 0 rfl) ?_
  refine lv_iload_n hx hb dL_law_372 rfl (lv_at hl 3 rfl) ?_
  refine lv_iconst (v := 2) hx hb dL_law_373 (by decide) ?_
  refine lv_iadd hx hb dL_law_374 ?_
  refine va_sld hx hb hX hbl hbA hw.2.2.2.1 hi2 dL_law_375 ?_
  refine lv_aload_n hx hb dL_law_376 rfl (lv_at hl 0 rfl) ?_
  refine lv_iload_n hx hb dL_law_377 rfl (lv_at hl 3 rfl) ?_
  refine lv_iconst (v := 3) hx hb dL_law_378 (by decide) ?_
  refine lv_iadd hx hb dL_law_379 ?_
  refine va_sld hx hb hX hbl hbA hw.2.2.2.1 hi3 dL_law_380 ?_
  refine lv_aload_n hx hb dL_law_381 rfl (lv_at hl 0 rfl) ?_
  refine lv_iload_n hx hb dL_law_382 rfl (lv_at hl 3 rfl) ?_
  refine lv_iconst (v := 4) hx hb dL_law_383 (by decide) ?_
  refine lv_iadd hx hb dL_law_384 ?_
  refine va_sld hx hb hX hbl hbA hw.2.2.2.1 hi4 dL_law_385 ?_
  refine lv_aload_n hx hb dL_law_386 rfl (lv_at hl 0 rfl) ?_
  refine lv_iload_n hx hb dL_law_387 rfl (lv_at hl 3 rfl) ?_
  refine lv_iconst (v := 5) hx hb dL_law_388 (by decide) ?_
  refine lv_iadd hx hb dL_law_389 ?_
  refine va_sld hx hb hX hbl hbA hw.2.2.2.1 hi5 dL_law_390 ?_
  refine l_gYi hg (l_rY (As := [.int (xs (nI i + 1).toNatClampNeg), .int (xs (nI i + 2).toNatClampNeg), .int (xs (nI i + 3).toNatClampNeg), .int (xs (nI i + 4).toNatClampNeg), .int (xs (nI i + 5).toNatClampNeg)]) (rest := [.int v]) hC hg hw (ctY0_copy e2) (cwV_g hC.2.2.2.2 ml_L_36 mi_X10_copy md_X10_copy ⟨Nat.le_of_ble_eq_true rfl, Nat.le_of_ble_eq_true rfl⟩) rfl hl.1 rfl (Nat.le_of_ble_eq_true rfl) dL_law_391 ⟨Nat.le_of_ble_eq_true rfl, Nat.le_of_ble_eq_true rfl⟩) hw (fun H locs hw => ?_)
  refine lv_icmp_eq (tgt := 1274) hx hb dL_law_394 (by decide) (fun _ => ?_) (fun q => absurd rfl q)
  exact kk _ _ _ _ hR' hw
set_option maxHeartbeats 4000000 in
set_option maxRecDepth 100000 in
theorem lc_mean (hC : CallFix p m c cL_law 4 s #[Value.ref b] lw_g RL) (hX : va_X b L xs s s.heap) (hbl : b < s.heap.size) (hg : lwG G1 G2 s) (op : op_mean N RR) {i : Nat} (hi : i + 6 ≤ L) (hL : L ≤ 3072) {S Y : St} (hR : RR S Y) {H : Heap} {locs : List Loc} {ls : Array Slot} (hw : lwW G1 G2 S Y s H locs) (hl : lv_has ls 4 [(0, .ref b), (1, .ref (ad G1 0)), (2, .ref (ad G2 0)), (3, .int (nI i))]) (kk : ∀ (S Y : St) (H : Heap) (locs : List Loc), RR S Y → lwW G1 G2 S Y s H locs → W p l e room_1 s m #[Value.ref b] below meth c H locs 82 22876 Q (F0 m 1274 ls [])) : W p l e room_1 s m #[Value.ref b] below meth c H locs 82 22876 Q (F0 m 399 ls []) := by
  have hx := hC.1
  have hb := hC.2.1
  have hbA : ¬ (fun q : Nat => s.heap.size ≤ q) b := Nat.not_le.mpr hbl
  have hi1 : vp_in (nI i + 1) L := by
    have e1 : nI i + 1 = nI (i + 1) := nI_add i 1
    rw [e1]
    exact vp_in_nI (by omega) (by omega)
  obtain ⟨v, S', Y', e1, e2, hR'⟩ := op S Y (xs (nI i + 1).toNatClampNeg) hR
  refine lv_aload_n hx hb dL_law_399 rfl (lv_at hl 1 rfl) ?_
  refine lv_aload_n hx hb dL_law_400 rfl (lv_at hl 0 rfl) ?_
  refine lv_iload_n hx hb dL_law_401 rfl (lv_at hl 3 rfl) ?_
  refine lv_iconst (v := 1) hx hb dL_law_402 (by decide) ?_
  refine lv_iadd hx hb dL_law_403 ?_
  refine va_sld hx hb hX hbl hbA hw.2.2.2.1 hi1 dL_law_404 ?_
  refine l_gXi hg (l_rX (As := [.int (xs (nI i + 1).toNatClampNeg)]) (rest := []) hC hg hw (ctX0_mean e1) (cwV_g hC.2.2.2.2 ml_L_37 mi_X9_mean md_X9_mean ⟨Nat.le_of_ble_eq_true rfl, Nat.le_of_ble_eq_true rfl⟩) rfl hl.1 rfl (Nat.le_of_ble_eq_true rfl) dL_law_405 ⟨Nat.le_of_ble_eq_true rfl, Nat.le_of_ble_eq_true rfl⟩) hw (fun H locs hw => ?_)
  refine lv_aload_n hx hb dL_law_408 rfl (lv_at hl 2 rfl) ?_
  refine lv_aload_n hx hb dL_law_409 rfl (lv_at hl 0 rfl) ?_
  refine lv_iload_n hx hb dL_law_410 rfl (lv_at hl 3 rfl) ?_
  refine lv_iconst (v := 1) hx hb dL_law_411 (by decide) ?_
  refine lv_iadd hx hb dL_law_412 ?_
  refine va_sld hx hb hX hbl hbA hw.2.2.2.1 hi1 dL_law_413 ?_
  refine l_gYi hg (l_rY (As := [.int (xs (nI i + 1).toNatClampNeg)]) (rest := [.int v]) hC hg hw (ctY0_mean e2) (cwV_g hC.2.2.2.2 ml_L_40 mi_X10_mean md_X10_mean ⟨Nat.le_of_ble_eq_true rfl, Nat.le_of_ble_eq_true rfl⟩) rfl hl.1 rfl (Nat.le_of_ble_eq_true rfl) dL_law_414 ⟨Nat.le_of_ble_eq_true rfl, Nat.le_of_ble_eq_true rfl⟩) hw (fun H locs hw => ?_)
  refine lv_icmp_eq (tgt := 1274) hx hb dL_law_417 (by decide) (fun _ => ?_) (fun q => absurd rfl q)
  exact kk _ _ _ _ hR' hw
set_option maxHeartbeats 4000000 in
set_option maxRecDepth 100000 in
theorem lc_text (hC : CallFix p m c cL_law 4 s #[Value.ref b] lw_g RL) (hX : va_X b L xs s s.heap) (hbl : b < s.heap.size) (hg : lwG G1 G2 s) (op : op_text N RR) {i : Nat} (hi : i + 6 ≤ L) (hL : L ≤ 3072) {S Y : St} (hR : RR S Y) {H : Heap} {locs : List Loc} {ls : Array Slot} (hw : lwW G1 G2 S Y s H locs) (hl : lv_has ls 4 [(0, .ref b), (1, .ref (ad G1 0)), (2, .ref (ad G2 0)), (3, .int (nI i))]) (kk : ∀ (S Y : St) (H : Heap) (locs : List Loc), RR S Y → lwW G1 G2 S Y s H locs → W p l e room_1 s m #[Value.ref b] below meth c H locs 82 22876 Q (F0 m 1274 ls [])) : W p l e room_1 s m #[Value.ref b] below meth c H locs 82 22876 Q (F0 m 422 ls []) := by
  have hx := hC.1
  have hb := hC.2.1
  have hbA : ¬ (fun q : Nat => s.heap.size ≤ q) b := Nat.not_le.mpr hbl
  have hi1 : vp_in (nI i + 1) L := by
    have e1 : nI i + 1 = nI (i + 1) := nI_add i 1
    rw [e1]
    exact vp_in_nI (by omega) (by omega)
  have hi2 : vp_in (nI i + 2) L := by
    have e1 : nI i + 2 = nI (i + 2) := nI_add i 2
    rw [e1]
    exact vp_in_nI (by omega) (by omega)
  obtain ⟨v, S', Y', e1, e2, hR'⟩ := op S Y (xs (nI i + 1).toNatClampNeg) (xs (nI i + 2).toNatClampNeg) hR
  refine lv_aload_n hx hb dL_law_422 rfl (lv_at hl 1 rfl) ?_
  refine lv_aload_n hx hb dL_law_423 rfl (lv_at hl 0 rfl) ?_
  refine lv_iload_n hx hb dL_law_424 rfl (lv_at hl 3 rfl) ?_
  refine lv_iconst (v := 1) hx hb dL_law_425 (by decide) ?_
  refine lv_iadd hx hb dL_law_426 ?_
  refine va_sld hx hb hX hbl hbA hw.2.2.2.1 hi1 dL_law_427 ?_
  refine lv_aload_n hx hb dL_law_428 rfl (lv_at hl 0 rfl) ?_
  refine lv_iload_n hx hb dL_law_429 rfl (lv_at hl 3 rfl) ?_
  refine lv_iconst (v := 2) hx hb dL_law_430 (by decide) ?_
  refine lv_iadd hx hb dL_law_431 ?_
  refine va_sld hx hb hX hbl hbA hw.2.2.2.1 hi2 dL_law_432 ?_
  refine l_gXi hg (l_rX (As := [.int (xs (nI i + 1).toNatClampNeg), .int (xs (nI i + 2).toNatClampNeg)]) (rest := []) hC hg hw (ctX0_text e1) (cwV_g hC.2.2.2.2 ml_L_41 mi_X9_text md_X9_text ⟨Nat.le_of_ble_eq_true rfl, Nat.le_of_ble_eq_true rfl⟩) rfl hl.1 rfl (Nat.le_of_ble_eq_true rfl) dL_law_433 ⟨Nat.le_of_ble_eq_true rfl, Nat.le_of_ble_eq_true rfl⟩) hw (fun H locs hw => ?_)
  refine lv_aload_n hx hb dL_law_436 rfl (lv_at hl 2 rfl) ?_
  refine lv_aload_n hx hb dL_law_437 rfl (lv_at hl 0 rfl) ?_
  refine lv_iload_n hx hb dL_law_438 rfl (lv_at hl 3 rfl) ?_
  refine lv_iconst (v := 1) hx hb dL_law_439 (by decide) ?_
  refine lv_iadd hx hb dL_law_440 ?_
  refine va_sld hx hb hX hbl hbA hw.2.2.2.1 hi1 dL_law_441 ?_
  refine lv_aload_n hx hb dL_law_442 rfl (lv_at hl 0 rfl) ?_
  refine lv_iload_n hx hb dL_law_443 rfl (lv_at hl 3 rfl) ?_
  refine lv_iconst (v := 2) hx hb dL_law_444 (by decide) ?_
  refine lv_iadd hx hb dL_law_445 ?_
  refine va_sld hx hb hX hbl hbA hw.2.2.2.1 hi2 dL_law_446 ?_
  refine l_gYi hg (l_rY (As := [.int (xs (nI i + 1).toNatClampNeg), .int (xs (nI i + 2).toNatClampNeg)]) (rest := [.int v]) hC hg hw (ctY0_text e2) (cwV_g hC.2.2.2.2 ml_L_44 mi_X10_text md_X10_text ⟨Nat.le_of_ble_eq_true rfl, Nat.le_of_ble_eq_true rfl⟩) rfl hl.1 rfl (Nat.le_of_ble_eq_true rfl) dL_law_447 ⟨Nat.le_of_ble_eq_true rfl, Nat.le_of_ble_eq_true rfl⟩) hw (fun H locs hw => ?_)
  refine lv_icmp_eq (tgt := 1274) hx hb dL_law_450 (by decide) (fun _ => ?_) (fun q => absurd rfl q)
  exact kk _ _ _ _ hR' hw
set_option maxHeartbeats 4000000 in
set_option maxRecDepth 100000 in
theorem lc_put (hC : CallFix p m c cL_law 4 s #[Value.ref b] lw_g RL) (hX : va_X b L xs s s.heap) (hbl : b < s.heap.size) (hg : lwG G1 G2 s) (op : op_put N RR) {i : Nat} (hi : i + 6 ≤ L) (hL : L ≤ 3072) {S Y : St} (hR : RR S Y) {H : Heap} {locs : List Loc} {ls : Array Slot} (hw : lwW G1 G2 S Y s H locs) (hl : lv_has ls 4 [(0, .ref b), (1, .ref (ad G1 0)), (2, .ref (ad G2 0)), (3, .int (nI i))]) (kk : ∀ (S Y : St) (H : Heap) (locs : List Loc), RR S Y → lwW G1 G2 S Y s H locs → W p l e room_1 s m #[Value.ref b] below meth c H locs 82 22876 Q (F0 m 1274 ls [])) : W p l e room_1 s m #[Value.ref b] below meth c H locs 82 22876 Q (F0 m 455 ls []) := by
  have hx := hC.1
  have hb := hC.2.1
  have hbA : ¬ (fun q : Nat => s.heap.size ≤ q) b := Nat.not_le.mpr hbl
  have hi1 : vp_in (nI i + 1) L := by
    have e1 : nI i + 1 = nI (i + 1) := nI_add i 1
    rw [e1]
    exact vp_in_nI (by omega) (by omega)
  have hi2 : vp_in (nI i + 2) L := by
    have e1 : nI i + 2 = nI (i + 2) := nI_add i 2
    rw [e1]
    exact vp_in_nI (by omega) (by omega)
  have hi3 : vp_in (nI i + 3) L := by
    have e1 : nI i + 3 = nI (i + 3) := nI_add i 3
    rw [e1]
    exact vp_in_nI (by omega) (by omega)
  obtain ⟨v, S', Y', e1, e2, hR'⟩ := op S Y (xs (nI i + 1).toNatClampNeg) (xs (nI i + 2).toNatClampNeg) (xs (nI i + 3).toNatClampNeg) hR
  refine lv_aload_n hx hb dL_law_455 rfl (lv_at hl 1 rfl) ?_
  refine lv_aload_n hx hb dL_law_456 rfl (lv_at hl 0 rfl) ?_
  refine lv_iload_n hx hb dL_law_457 rfl (lv_at hl 3 rfl) ?_
  refine lv_iconst (v := 1) hx hb dL_law_458 (by decide) ?_
  refine lv_iadd hx hb dL_law_459 ?_
  refine va_sld hx hb hX hbl hbA hw.2.2.2.1 hi1 dL_law_460 ?_
  refine lv_aload_n hx hb dL_law_461 rfl (lv_at hl 0 rfl) ?_
  refine lv_iload_n hx hb dL_law_462 rfl (lv_at hl 3 rfl) ?_
  refine lv_iconst (v := 2) hx hb dL_law_463 (by decide) ?_
  refine lv_iadd hx hb dL_law_464 ?_
  refine va_sld hx hb hX hbl hbA hw.2.2.2.1 hi2 dL_law_465 ?_
  refine lv_aload_n hx hb dL_law_466 rfl (lv_at hl 0 rfl) ?_
  refine lv_iload_n hx hb dL_law_467 rfl (lv_at hl 3 rfl) ?_
  refine lv_iconst (v := 3) hx hb dL_law_468 (by decide) ?_
  refine lv_iadd hx hb dL_law_469 ?_
  refine va_sld hx hb hX hbl hbA hw.2.2.2.1 hi3 dL_law_470 ?_
  refine l_gXi hg (l_rX (As := [.int (xs (nI i + 1).toNatClampNeg), .int (xs (nI i + 2).toNatClampNeg), .int (xs (nI i + 3).toNatClampNeg)]) (rest := []) hC hg hw (ctX0_put e1) (cwV_g hC.2.2.2.2 ml_L_45 mi_X9_put md_X9_put ⟨Nat.le_of_ble_eq_true rfl, Nat.le_of_ble_eq_true rfl⟩) rfl hl.1 rfl (Nat.le_of_ble_eq_true rfl) dL_law_471 ⟨Nat.le_of_ble_eq_true rfl, Nat.le_of_ble_eq_true rfl⟩) hw (fun H locs hw => ?_)
  refine lv_aload_n hx hb dL_law_474 rfl (lv_at hl 2 rfl) ?_
  refine lv_aload_n hx hb dL_law_475 rfl (lv_at hl 0 rfl) ?_
  refine lv_iload_n hx hb dL_law_476 rfl (lv_at hl 3 rfl) ?_
  refine lv_iconst (v := 1) hx hb dL_law_477 (by decide) ?_
  refine lv_iadd hx hb dL_law_478 ?_
  refine va_sld hx hb hX hbl hbA hw.2.2.2.1 hi1 dL_law_479 ?_
  refine lv_aload_n hx hb dL_law_480 rfl (lv_at hl 0 rfl) ?_
  refine lv_iload_n hx hb dL_law_481 rfl (lv_at hl 3 rfl) ?_
  refine lv_iconst (v := 2) hx hb dL_law_482 (by decide) ?_
  refine lv_iadd hx hb dL_law_483 ?_
  refine va_sld hx hb hX hbl hbA hw.2.2.2.1 hi2 dL_law_484 ?_
  refine lv_aload_n hx hb dL_law_485 rfl (lv_at hl 0 rfl) ?_
  refine lv_iload_n hx hb dL_law_486 rfl (lv_at hl 3 rfl) ?_
  refine lv_iconst (v := 3) hx hb dL_law_487 (by decide) ?_
  refine lv_iadd hx hb dL_law_488 ?_
  refine va_sld hx hb hX hbl hbA hw.2.2.2.1 hi3 dL_law_489 ?_
  refine l_gYi hg (l_rY (As := [.int (xs (nI i + 1).toNatClampNeg), .int (xs (nI i + 2).toNatClampNeg), .int (xs (nI i + 3).toNatClampNeg)]) (rest := [.int v]) hC hg hw (ctY0_put e2) (cwV_g hC.2.2.2.2 ml_L_48 mi_X10_put md_X10_put ⟨Nat.le_of_ble_eq_true rfl, Nat.le_of_ble_eq_true rfl⟩) rfl hl.1 rfl (Nat.le_of_ble_eq_true rfl) dL_law_490 ⟨Nat.le_of_ble_eq_true rfl, Nat.le_of_ble_eq_true rfl⟩) hw (fun H locs hw => ?_)
  refine lv_icmp_eq (tgt := 1274) hx hb dL_law_493 (by decide) (fun _ => ?_) (fun q => absurd rfl q)
  exact kk _ _ _ _ hR' hw
set_option maxHeartbeats 4000000 in
set_option maxRecDepth 100000 in
theorem lc_fault (hC : CallFix p m c cL_law 4 s #[Value.ref b] lw_g RL) (hX : va_X b L xs s s.heap) (hbl : b < s.heap.size) (hg : lwG G1 G2 s) (op : op_fault N RR) {i : Nat} (hi : i + 6 ≤ L) (hL : L ≤ 3072) {S Y : St} (hR : RR S Y) {H : Heap} {locs : List Loc} {ls : Array Slot} (hw : lwW G1 G2 S Y s H locs) (hl : lv_has ls 4 [(0, .ref b), (1, .ref (ad G1 0)), (2, .ref (ad G2 0)), (3, .int (nI i))]) (kk : ∀ (S Y : St) (H : Heap) (locs : List Loc), RR S Y → lwW G1 G2 S Y s H locs → W p l e room_1 s m #[Value.ref b] below meth c H locs 82 22876 Q (F0 m 1274 ls [])) : W p l e room_1 s m #[Value.ref b] below meth c H locs 82 22876 Q (F0 m 498 ls []) := by
  have hx := hC.1
  have hb := hC.2.1
  have hbA : ¬ (fun q : Nat => s.heap.size ≤ q) b := Nat.not_le.mpr hbl
  have hi1 : vp_in (nI i + 1) L := by
    have e1 : nI i + 1 = nI (i + 1) := nI_add i 1
    rw [e1]
    exact vp_in_nI (by omega) (by omega)
  obtain ⟨v, S', Y', e1, e2, hR'⟩ := op S Y (xs (nI i + 1).toNatClampNeg) hR
  refine lv_aload_n hx hb dL_law_498 rfl (lv_at hl 1 rfl) ?_
  refine lv_aload_n hx hb dL_law_499 rfl (lv_at hl 0 rfl) ?_
  refine lv_iload_n hx hb dL_law_500 rfl (lv_at hl 3 rfl) ?_
  refine lv_iconst (v := 1) hx hb dL_law_501 (by decide) ?_
  refine lv_iadd hx hb dL_law_502 ?_
  refine va_sld hx hb hX hbl hbA hw.2.2.2.1 hi1 dL_law_503 ?_
  refine l_gXi hg (l_rX (As := [.int (xs (nI i + 1).toNatClampNeg)]) (rest := []) hC hg hw (ctX0_fault e1) (cwV_g hC.2.2.2.2 ml_L_49 mi_X9_fault md_X9_fault ⟨Nat.le_of_ble_eq_true rfl, Nat.le_of_ble_eq_true rfl⟩) rfl hl.1 rfl (Nat.le_of_ble_eq_true rfl) dL_law_504 ⟨Nat.le_of_ble_eq_true rfl, Nat.le_of_ble_eq_true rfl⟩) hw (fun H locs hw => ?_)
  refine lv_aload_n hx hb dL_law_507 rfl (lv_at hl 2 rfl) ?_
  refine lv_aload_n hx hb dL_law_508 rfl (lv_at hl 0 rfl) ?_
  refine lv_iload_n hx hb dL_law_509 rfl (lv_at hl 3 rfl) ?_
  refine lv_iconst (v := 1) hx hb dL_law_510 (by decide) ?_
  refine lv_iadd hx hb dL_law_511 ?_
  refine va_sld hx hb hX hbl hbA hw.2.2.2.1 hi1 dL_law_512 ?_
  refine l_gYi hg (l_rY (As := [.int (xs (nI i + 1).toNatClampNeg)]) (rest := [.int v]) hC hg hw (ctY0_fault e2) (cwV_g hC.2.2.2.2 ml_L_52 mi_X10_fault md_X10_fault ⟨Nat.le_of_ble_eq_true rfl, Nat.le_of_ble_eq_true rfl⟩) rfl hl.1 rfl (Nat.le_of_ble_eq_true rfl) dL_law_513 ⟨Nat.le_of_ble_eq_true rfl, Nat.le_of_ble_eq_true rfl⟩) hw (fun H locs hw => ?_)
  refine lv_icmp_eq (tgt := 1274) hx hb dL_law_516 (by decide) (fun _ => ?_) (fun q => absurd rfl q)
  exact kk _ _ _ _ hR' hw
set_option maxHeartbeats 4000000 in
set_option maxRecDepth 100000 in
theorem lc_book (hC : CallFix p m c cL_law 4 s #[Value.ref b] lw_g RL) (hX : va_X b L xs s s.heap) (hbl : b < s.heap.size) (hg : lwG G1 G2 s) (op : op_book N RR) {i : Nat} (hi : i + 6 ≤ L) (hL : L ≤ 3072) {S Y : St} (hR : RR S Y) {H : Heap} {locs : List Loc} {ls : Array Slot} (hw : lwW G1 G2 S Y s H locs) (hl : lv_has ls 4 [(0, .ref b), (1, .ref (ad G1 0)), (2, .ref (ad G2 0)), (3, .int (nI i))]) (kk : ∀ (S Y : St) (H : Heap) (locs : List Loc), RR S Y → lwW G1 G2 S Y s H locs → W p l e room_1 s m #[Value.ref b] below meth c H locs 82 22876 Q (F0 m 1274 ls [])) : W p l e room_1 s m #[Value.ref b] below meth c H locs 82 22876 Q (F0 m 521 ls []) := by
  have hx := hC.1
  have hb := hC.2.1
  have hbA : ¬ (fun q : Nat => s.heap.size ≤ q) b := Nat.not_le.mpr hbl
  have hi1 : vp_in (nI i + 1) L := by
    have e1 : nI i + 1 = nI (i + 1) := nI_add i 1
    rw [e1]
    exact vp_in_nI (by omega) (by omega)
  obtain ⟨v, S', Y', e1, e2, hR'⟩ := op S Y (xs (nI i + 1).toNatClampNeg) hR
  refine lv_aload_n hx hb dL_law_521 rfl (lv_at hl 1 rfl) ?_
  refine lv_aload_n hx hb dL_law_522 rfl (lv_at hl 0 rfl) ?_
  refine lv_iload_n hx hb dL_law_523 rfl (lv_at hl 3 rfl) ?_
  refine lv_iconst (v := 1) hx hb dL_law_524 (by decide) ?_
  refine lv_iadd hx hb dL_law_525 ?_
  refine va_sld hx hb hX hbl hbA hw.2.2.2.1 hi1 dL_law_526 ?_
  refine l_gXi hg (l_rX (As := [.int (xs (nI i + 1).toNatClampNeg)]) (rest := []) hC hg hw (ctX0_book e1) (cwV_g hC.2.2.2.2 ml_L_53 mi_X9_book md_X9_book ⟨Nat.le_of_ble_eq_true rfl, Nat.le_of_ble_eq_true rfl⟩) rfl hl.1 rfl (Nat.le_of_ble_eq_true rfl) dL_law_527 ⟨Nat.le_of_ble_eq_true rfl, Nat.le_of_ble_eq_true rfl⟩) hw (fun H locs hw => ?_)
  refine lv_aload_n hx hb dL_law_530 rfl (lv_at hl 2 rfl) ?_
  refine lv_aload_n hx hb dL_law_531 rfl (lv_at hl 0 rfl) ?_
  refine lv_iload_n hx hb dL_law_532 rfl (lv_at hl 3 rfl) ?_
  refine lv_iconst (v := 1) hx hb dL_law_533 (by decide) ?_
  refine lv_iadd hx hb dL_law_534 ?_
  refine va_sld hx hb hX hbl hbA hw.2.2.2.1 hi1 dL_law_535 ?_
  refine l_gYi hg (l_rY (As := [.int (xs (nI i + 1).toNatClampNeg)]) (rest := [.int v]) hC hg hw (ctY0_book e2) (cwV_g hC.2.2.2.2 ml_L_56 mi_X10_book md_X10_book ⟨Nat.le_of_ble_eq_true rfl, Nat.le_of_ble_eq_true rfl⟩) rfl hl.1 rfl (Nat.le_of_ble_eq_true rfl) dL_law_536 ⟨Nat.le_of_ble_eq_true rfl, Nat.le_of_ble_eq_true rfl⟩) hw (fun H locs hw => ?_)
  refine lv_icmp_eq (tgt := 1274) hx hb dL_law_539 (by decide) (fun _ => ?_) (fun q => absurd rfl q)
  exact kk _ _ _ _ hR' hw
set_option maxHeartbeats 4000000 in
set_option maxRecDepth 100000 in
theorem lc_sum (hC : CallFix p m c cL_law 4 s #[Value.ref b] lw_g RL) (hX : va_X b L xs s s.heap) (hbl : b < s.heap.size) (hg : lwG G1 G2 s) (op : op_sum N RR) {i : Nat} (hi : i + 6 ≤ L) (hL : L ≤ 3072) {S Y : St} (hR : RR S Y) {H : Heap} {locs : List Loc} {ls : Array Slot} (hw : lwW G1 G2 S Y s H locs) (hl : lv_has ls 4 [(0, .ref b), (1, .ref (ad G1 0)), (2, .ref (ad G2 0)), (3, .int (nI i))]) (kk : ∀ (S Y : St) (H : Heap) (locs : List Loc), RR S Y → lwW G1 G2 S Y s H locs → W p l e room_1 s m #[Value.ref b] below meth c H locs 82 22876 Q (F0 m 1274 ls [])) : W p l e room_1 s m #[Value.ref b] below meth c H locs 82 22876 Q (F0 m 544 ls []) := by
  have hx := hC.1
  have hb := hC.2.1
  have hbA : ¬ (fun q : Nat => s.heap.size ≤ q) b := Nat.not_le.mpr hbl
  have hi1 : vp_in (nI i + 1) L := by
    have e1 : nI i + 1 = nI (i + 1) := nI_add i 1
    rw [e1]
    exact vp_in_nI (by omega) (by omega)
  have hi2 : vp_in (nI i + 2) L := by
    have e1 : nI i + 2 = nI (i + 2) := nI_add i 2
    rw [e1]
    exact vp_in_nI (by omega) (by omega)
  have hi3 : vp_in (nI i + 3) L := by
    have e1 : nI i + 3 = nI (i + 3) := nI_add i 3
    rw [e1]
    exact vp_in_nI (by omega) (by omega)
  obtain ⟨v, S', Y', e1, e2, hR'⟩ := op S Y (xs (nI i + 1).toNatClampNeg) (xs (nI i + 2).toNatClampNeg) (xs (nI i + 3).toNatClampNeg) hR
  refine lv_aload_n hx hb dL_law_544 rfl (lv_at hl 1 rfl) ?_
  refine lv_aload_n hx hb dL_law_545 rfl (lv_at hl 0 rfl) ?_
  refine lv_iload_n hx hb dL_law_546 rfl (lv_at hl 3 rfl) ?_
  refine lv_iconst (v := 1) hx hb dL_law_547 (by decide) ?_
  refine lv_iadd hx hb dL_law_548 ?_
  refine va_sld hx hb hX hbl hbA hw.2.2.2.1 hi1 dL_law_549 ?_
  refine lv_aload_n hx hb dL_law_550 rfl (lv_at hl 0 rfl) ?_
  refine lv_iload_n hx hb dL_law_551 rfl (lv_at hl 3 rfl) ?_
  refine lv_iconst (v := 2) hx hb dL_law_552 (by decide) ?_
  refine lv_iadd hx hb dL_law_553 ?_
  refine va_sld hx hb hX hbl hbA hw.2.2.2.1 hi2 dL_law_554 ?_
  refine lv_aload_n hx hb dL_law_555 rfl (lv_at hl 0 rfl) ?_
  refine lv_iload_n hx hb dL_law_556 rfl (lv_at hl 3 rfl) ?_
  refine lv_iconst (v := 3) hx hb dL_law_557 (by decide) ?_
  refine lv_iadd hx hb dL_law_558 ?_
  refine va_sld hx hb hX hbl hbA hw.2.2.2.1 hi3 dL_law_559 ?_
  refine l_gXi hg (l_rX (As := [.int (xs (nI i + 1).toNatClampNeg), .int (xs (nI i + 2).toNatClampNeg), .int (xs (nI i + 3).toNatClampNeg)]) (rest := []) hC hg hw (ctX0_sum e1) (cwV_g hC.2.2.2.2 ml_L_57 mi_X9_sum md_X9_sum ⟨Nat.le_of_ble_eq_true rfl, Nat.le_of_ble_eq_true rfl⟩) rfl hl.1 rfl (Nat.le_of_ble_eq_true rfl) dL_law_560 ⟨Nat.le_of_ble_eq_true rfl, Nat.le_of_ble_eq_true rfl⟩) hw (fun H locs hw => ?_)
  refine lv_aload_n hx hb dL_law_563 rfl (lv_at hl 2 rfl) ?_
  refine lv_aload_n hx hb dL_law_564 rfl (lv_at hl 0 rfl) ?_
  refine lv_iload_n hx hb dL_law_565 rfl (lv_at hl 3 rfl) ?_
  refine lv_iconst (v := 1) hx hb dL_law_566 (by decide) ?_
  refine lv_iadd hx hb dL_law_567 ?_
  refine va_sld hx hb hX hbl hbA hw.2.2.2.1 hi1 dL_law_568 ?_
  refine lv_aload_n hx hb dL_law_569 rfl (lv_at hl 0 rfl) ?_
  refine lv_iload_n hx hb dL_law_570 rfl (lv_at hl 3 rfl) ?_
  refine lv_iconst (v := 2) hx hb dL_law_571 (by decide) ?_
  refine lv_iadd hx hb dL_law_572 ?_
  refine va_sld hx hb hX hbl hbA hw.2.2.2.1 hi2 dL_law_573 ?_
  refine lv_aload_n hx hb dL_law_574 rfl (lv_at hl 0 rfl) ?_
  refine lv_iload_n hx hb dL_law_575 rfl (lv_at hl 3 rfl) ?_
  refine lv_iconst (v := 3) hx hb dL_law_576 (by decide) ?_
  refine lv_iadd hx hb dL_law_577 ?_
  refine va_sld hx hb hX hbl hbA hw.2.2.2.1 hi3 dL_law_578 ?_
  refine l_gYi hg (l_rY (As := [.int (xs (nI i + 1).toNatClampNeg), .int (xs (nI i + 2).toNatClampNeg), .int (xs (nI i + 3).toNatClampNeg)]) (rest := [.int v]) hC hg hw (ctY0_sum e2) (cwV_g hC.2.2.2.2 ml_L_60 mi_X10_sum md_X10_sum ⟨Nat.le_of_ble_eq_true rfl, Nat.le_of_ble_eq_true rfl⟩) rfl hl.1 rfl (Nat.le_of_ble_eq_true rfl) dL_law_579 ⟨Nat.le_of_ble_eq_true rfl, Nat.le_of_ble_eq_true rfl⟩) hw (fun H locs hw => ?_)
  refine lv_icmp_eq (tgt := 1274) hx hb dL_law_582 (by decide) (fun _ => ?_) (fun q => absurd rfl q)
  exact kk _ _ _ _ hR' hw
set_option maxHeartbeats 4000000 in
set_option maxRecDepth 100000 in
theorem lc_total (hC : CallFix p m c cL_law 4 s #[Value.ref b] lw_g RL) (hX : va_X b L xs s s.heap) (hbl : b < s.heap.size) (hg : lwG G1 G2 s) (op : op_total N RR) {i : Nat} (hi : i + 6 ≤ L) (hL : L ≤ 3072) {S Y : St} (hR : RR S Y) {H : Heap} {locs : List Loc} {ls : Array Slot} (hw : lwW G1 G2 S Y s H locs) (hl : lv_has ls 4 [(0, .ref b), (1, .ref (ad G1 0)), (2, .ref (ad G2 0)), (3, .int (nI i))]) (kk : ∀ (S Y : St) (H : Heap) (locs : List Loc), RR S Y → lwW G1 G2 S Y s H locs → W p l e room_1 s m #[Value.ref b] below meth c H locs 82 22876 Q (F0 m 1274 ls [])) : W p l e room_1 s m #[Value.ref b] below meth c H locs 82 22876 Q (F0 m 587 ls []) := by
  have hx := hC.1
  have hb := hC.2.1
  have hbA : ¬ (fun q : Nat => s.heap.size ≤ q) b := Nat.not_le.mpr hbl
  have hi1 : vp_in (nI i + 1) L := by
    have e1 : nI i + 1 = nI (i + 1) := nI_add i 1
    rw [e1]
    exact vp_in_nI (by omega) (by omega)
  have hi2 : vp_in (nI i + 2) L := by
    have e1 : nI i + 2 = nI (i + 2) := nI_add i 2
    rw [e1]
    exact vp_in_nI (by omega) (by omega)
  obtain ⟨v, S', Y', e1, e2, hR'⟩ := op S Y (xs (nI i + 1).toNatClampNeg) (xs (nI i + 2).toNatClampNeg) hR
  refine lv_aload_n hx hb dL_law_587 rfl (lv_at hl 1 rfl) ?_
  refine lv_aload_n hx hb dL_law_588 rfl (lv_at hl 0 rfl) ?_
  refine lv_iload_n hx hb dL_law_589 rfl (lv_at hl 3 rfl) ?_
  refine lv_iconst (v := 1) hx hb dL_law_590 (by decide) ?_
  refine lv_iadd hx hb dL_law_591 ?_
  refine va_sld hx hb hX hbl hbA hw.2.2.2.1 hi1 dL_law_592 ?_
  refine lv_aload_n hx hb dL_law_593 rfl (lv_at hl 0 rfl) ?_
  refine lv_iload_n hx hb dL_law_594 rfl (lv_at hl 3 rfl) ?_
  refine lv_iconst (v := 2) hx hb dL_law_595 (by decide) ?_
  refine lv_iadd hx hb dL_law_596 ?_
  refine va_sld hx hb hX hbl hbA hw.2.2.2.1 hi2 dL_law_597 ?_
  refine l_gXi hg (l_rX (As := [.int (xs (nI i + 1).toNatClampNeg), .int (xs (nI i + 2).toNatClampNeg)]) (rest := []) hC hg hw (ctX0_total e1) (cwV_g hC.2.2.2.2 ml_L_61 mi_X9_total md_X9_total ⟨Nat.le_of_ble_eq_true rfl, Nat.le_of_ble_eq_true rfl⟩) rfl hl.1 rfl (Nat.le_of_ble_eq_true rfl) dL_law_598 ⟨Nat.le_of_ble_eq_true rfl, Nat.le_of_ble_eq_true rfl⟩) hw (fun H locs hw => ?_)
  refine lv_aload_n hx hb dL_law_601 rfl (lv_at hl 2 rfl) ?_
  refine lv_aload_n hx hb dL_law_602 rfl (lv_at hl 0 rfl) ?_
  refine lv_iload_n hx hb dL_law_603 rfl (lv_at hl 3 rfl) ?_
  refine lv_iconst (v := 1) hx hb dL_law_604 (by decide) ?_
  refine lv_iadd hx hb dL_law_605 ?_
  refine va_sld hx hb hX hbl hbA hw.2.2.2.1 hi1 dL_law_606 ?_
  refine lv_aload_n hx hb dL_law_607 rfl (lv_at hl 0 rfl) ?_
  refine lv_iload_n hx hb dL_law_608 rfl (lv_at hl 3 rfl) ?_
  refine lv_iconst (v := 2) hx hb dL_law_609 (by decide) ?_
  refine lv_iadd hx hb dL_law_610 ?_
  refine va_sld hx hb hX hbl hbA hw.2.2.2.1 hi2 dL_law_611 ?_
  refine l_gYi hg (l_rY (As := [.int (xs (nI i + 1).toNatClampNeg), .int (xs (nI i + 2).toNatClampNeg)]) (rest := [.int v]) hC hg hw (ctY0_total e2) (cwV_g hC.2.2.2.2 ml_L_64 mi_X10_total md_X10_total ⟨Nat.le_of_ble_eq_true rfl, Nat.le_of_ble_eq_true rfl⟩) rfl hl.1 rfl (Nat.le_of_ble_eq_true rfl) dL_law_612 ⟨Nat.le_of_ble_eq_true rfl, Nat.le_of_ble_eq_true rfl⟩) hw (fun H locs hw => ?_)
  refine lv_icmp_eq (tgt := 1274) hx hb dL_law_615 (by decide) (fun _ => ?_) (fun q => absurd rfl q)
  exact kk _ _ _ _ hR' hw
set_option maxHeartbeats 4000000 in
set_option maxRecDepth 100000 in
theorem lc_clear (hC : CallFix p m c cL_law 4 s #[Value.ref b] lw_g RL) (hX : va_X b L xs s s.heap) (hbl : b < s.heap.size) (hg : lwG G1 G2 s) (op : op_clear N RR) {i : Nat} (hi : i + 6 ≤ L) (hL : L ≤ 3072) {S Y : St} (hR : RR S Y) {H : Heap} {locs : List Loc} {ls : Array Slot} (hw : lwW G1 G2 S Y s H locs) (hl : lv_has ls 4 [(0, .ref b), (1, .ref (ad G1 0)), (2, .ref (ad G2 0)), (3, .int (nI i))]) (kk : ∀ (S Y : St) (H : Heap) (locs : List Loc), RR S Y → lwW G1 G2 S Y s H locs → W p l e room_1 s m #[Value.ref b] below meth c H locs 82 22876 Q (F0 m 1274 ls [])) : W p l e room_1 s m #[Value.ref b] below meth c H locs 82 22876 Q (F0 m 620 ls []) := by
  have hx := hC.1
  have hb := hC.2.1
  have hbA : ¬ (fun q : Nat => s.heap.size ≤ q) b := Nat.not_le.mpr hbl
  obtain ⟨v, S', Y', e1, e2, hR'⟩ := op S Y  hR
  refine lv_aload_n hx hb dL_law_620 rfl (lv_at hl 1 rfl) ?_
  refine l_gXi hg (l_rX (As := []) (rest := []) hC hg hw (ctX0_clear e1) (cwV_g hC.2.2.2.2 ml_L_65 mi_X9_clear md_X9_clear ⟨Nat.le_of_ble_eq_true rfl, Nat.le_of_ble_eq_true rfl⟩) rfl hl.1 rfl (Nat.le_of_ble_eq_true rfl) dL_law_621 ⟨Nat.le_of_ble_eq_true rfl, Nat.le_of_ble_eq_true rfl⟩) hw (fun H locs hw => ?_)
  refine lv_aload_n hx hb dL_law_624 rfl (lv_at hl 2 rfl) ?_
  refine l_gYi hg (l_rY (As := []) (rest := [.int v]) hC hg hw (ctY0_clear e2) (cwV_g hC.2.2.2.2 ml_L_69 mi_X10_clear md_X10_clear ⟨Nat.le_of_ble_eq_true rfl, Nat.le_of_ble_eq_true rfl⟩) rfl hl.1 rfl (Nat.le_of_ble_eq_true rfl) dL_law_625 ⟨Nat.le_of_ble_eq_true rfl, Nat.le_of_ble_eq_true rfl⟩) hw (fun H locs hw => ?_)
  refine lv_icmp_eq (tgt := 1274) hx hb dL_law_628 (by decide) (fun _ => ?_) (fun q => absurd rfl q)
  exact kk _ _ _ _ hR' hw
set_option maxHeartbeats 4000000 in
set_option maxRecDepth 100000 in
theorem lc_heap (hC : CallFix p m c cL_law 4 s #[Value.ref b] lw_g RL) (hX : va_X b L xs s s.heap) (hbl : b < s.heap.size) (hg : lwG G1 G2 s) (op : op_heap N RR) {i : Nat} (hi : i + 6 ≤ L) (hL : L ≤ 3072) {S Y : St} (hR : RR S Y) {H : Heap} {locs : List Loc} {ls : Array Slot} (hw : lwW G1 G2 S Y s H locs) (hl : lv_has ls 4 [(0, .ref b), (1, .ref (ad G1 0)), (2, .ref (ad G2 0)), (3, .int (nI i))]) (kk : ∀ (S Y : St) (H : Heap) (locs : List Loc), RR S Y → lwW G1 G2 S Y s H locs → W p l e room_1 s m #[Value.ref b] below meth c H locs 82 22876 Q (F0 m 1274 ls [])) : W p l e room_1 s m #[Value.ref b] below meth c H locs 82 22876 Q (F0 m 633 ls []) := by
  have hx := hC.1
  have hb := hC.2.1
  have hbA : ¬ (fun q : Nat => s.heap.size ≤ q) b := Nat.not_le.mpr hbl
  have hi1 : vp_in (nI i + 1) L := by
    have e1 : nI i + 1 = nI (i + 1) := nI_add i 1
    rw [e1]
    exact vp_in_nI (by omega) (by omega)
  obtain ⟨v, S', Y', e1, e2, hR'⟩ := op S Y (xs (nI i + 1).toNatClampNeg) hR
  refine lv_aload_n hx hb dL_law_633 rfl (lv_at hl 1 rfl) ?_
  refine lv_aload_n hx hb dL_law_634 rfl (lv_at hl 0 rfl) ?_
  refine lv_iload_n hx hb dL_law_635 rfl (lv_at hl 3 rfl) ?_
  refine lv_iconst (v := 1) hx hb dL_law_636 (by decide) ?_
  refine lv_iadd hx hb dL_law_637 ?_
  refine va_sld hx hb hX hbl hbA hw.2.2.2.1 hi1 dL_law_638 ?_
  refine l_gXi hg (l_rX (As := [.int (xs (nI i + 1).toNatClampNeg)]) (rest := []) hC hg hw (ctX0_heap e1) (cwV_g hC.2.2.2.2 ml_L_70 mi_X9_heap md_X9_heap ⟨Nat.le_of_ble_eq_true rfl, Nat.le_of_ble_eq_true rfl⟩) rfl hl.1 rfl (Nat.le_of_ble_eq_true rfl) dL_law_639 ⟨Nat.le_of_ble_eq_true rfl, Nat.le_of_ble_eq_true rfl⟩) hw (fun H locs hw => ?_)
  refine lv_aload_n hx hb dL_law_642 rfl (lv_at hl 2 rfl) ?_
  refine lv_aload_n hx hb dL_law_643 rfl (lv_at hl 0 rfl) ?_
  refine lv_iload_n hx hb dL_law_644 rfl (lv_at hl 3 rfl) ?_
  refine lv_iconst (v := 1) hx hb dL_law_645 (by decide) ?_
  refine lv_iadd hx hb dL_law_646 ?_
  refine va_sld hx hb hX hbl hbA hw.2.2.2.1 hi1 dL_law_647 ?_
  refine l_gYi hg (l_rY (As := [.int (xs (nI i + 1).toNatClampNeg)]) (rest := [.int v]) hC hg hw (ctY0_heap e2) (cwV_g hC.2.2.2.2 ml_L_73 mi_X10_heap md_X10_heap ⟨Nat.le_of_ble_eq_true rfl, Nat.le_of_ble_eq_true rfl⟩) rfl hl.1 rfl (Nat.le_of_ble_eq_true rfl) dL_law_648 ⟨Nat.le_of_ble_eq_true rfl, Nat.le_of_ble_eq_true rfl⟩) hw (fun H locs hw => ?_)
  refine lv_icmp_eq (tgt := 1274) hx hb dL_law_651 (by decide) (fun _ => ?_) (fun q => absurd rfl q)
  exact kk _ _ _ _ hR' hw
set_option maxHeartbeats 4000000 in
set_option maxRecDepth 100000 in
theorem lc_read (hC : CallFix p m c cL_law 4 s #[Value.ref b] lw_g RL) (hX : va_X b L xs s s.heap) (hbl : b < s.heap.size) (hg : lwG G1 G2 s) (op : op_read N RR) {i : Nat} (hi : i + 6 ≤ L) (hL : L ≤ 3072) {S Y : St} (hR : RR S Y) {H : Heap} {locs : List Loc} {ls : Array Slot} (hw : lwW G1 G2 S Y s H locs) (hl : lv_has ls 4 [(0, .ref b), (1, .ref (ad G1 0)), (2, .ref (ad G2 0)), (3, .int (nI i))]) (kk : ∀ (S Y : St) (H : Heap) (locs : List Loc), RR S Y → lwW G1 G2 S Y s H locs → W p l e room_1 s m #[Value.ref b] below meth c H locs 82 22876 Q (F0 m 1274 ls [])) : W p l e room_1 s m #[Value.ref b] below meth c H locs 82 22876 Q (F0 m 656 ls []) := by
  have hx := hC.1
  have hb := hC.2.1
  have hbA : ¬ (fun q : Nat => s.heap.size ≤ q) b := Nat.not_le.mpr hbl
  have hi1 : vp_in (nI i + 1) L := by
    have e1 : nI i + 1 = nI (i + 1) := nI_add i 1
    rw [e1]
    exact vp_in_nI (by omega) (by omega)
  have hi2 : vp_in (nI i + 2) L := by
    have e1 : nI i + 2 = nI (i + 2) := nI_add i 2
    rw [e1]
    exact vp_in_nI (by omega) (by omega)
  obtain ⟨v, S', Y', e1, e2, hR'⟩ := op S Y (xs (nI i + 1).toNatClampNeg) (xs (nI i + 2).toNatClampNeg) hR
  refine lv_aload_n hx hb dL_law_656 rfl (lv_at hl 1 rfl) ?_
  refine lv_aload_n hx hb dL_law_657 rfl (lv_at hl 0 rfl) ?_
  refine lv_iload_n hx hb dL_law_658 rfl (lv_at hl 3 rfl) ?_
  refine lv_iconst (v := 1) hx hb dL_law_659 (by decide) ?_
  refine lv_iadd hx hb dL_law_660 ?_
  refine va_sld hx hb hX hbl hbA hw.2.2.2.1 hi1 dL_law_661 ?_
  refine lv_aload_n hx hb dL_law_662 rfl (lv_at hl 0 rfl) ?_
  refine lv_iload_n hx hb dL_law_663 rfl (lv_at hl 3 rfl) ?_
  refine lv_iconst (v := 2) hx hb dL_law_664 (by decide) ?_
  refine lv_iadd hx hb dL_law_665 ?_
  refine va_sld hx hb hX hbl hbA hw.2.2.2.1 hi2 dL_law_666 ?_
  refine l_gXi hg (l_rX (As := [.int (xs (nI i + 1).toNatClampNeg), .int (xs (nI i + 2).toNatClampNeg)]) (rest := []) hC hg hw (ctX0_read e1) (cwV_g hC.2.2.2.2 ml_L_74 mi_X9_read md_X9_read ⟨Nat.le_of_ble_eq_true rfl, Nat.le_of_ble_eq_true rfl⟩) rfl hl.1 rfl (Nat.le_of_ble_eq_true rfl) dL_law_667 ⟨Nat.le_of_ble_eq_true rfl, Nat.le_of_ble_eq_true rfl⟩) hw (fun H locs hw => ?_)
  refine lv_aload_n hx hb dL_law_670 rfl (lv_at hl 2 rfl) ?_
  refine lv_aload_n hx hb dL_law_671 rfl (lv_at hl 0 rfl) ?_
  refine lv_iload_n hx hb dL_law_672 rfl (lv_at hl 3 rfl) ?_
  refine lv_iconst (v := 1) hx hb dL_law_673 (by decide) ?_
  refine lv_iadd hx hb dL_law_674 ?_
  refine va_sld hx hb hX hbl hbA hw.2.2.2.1 hi1 dL_law_675 ?_
  refine lv_aload_n hx hb dL_law_676 rfl (lv_at hl 0 rfl) ?_
  refine lv_iload_n hx hb dL_law_677 rfl (lv_at hl 3 rfl) ?_
  refine lv_iconst (v := 2) hx hb dL_law_678 (by decide) ?_
  refine lv_iadd hx hb dL_law_679 ?_
  refine va_sld hx hb hX hbl hbA hw.2.2.2.1 hi2 dL_law_680 ?_
  refine l_gYi hg (l_rY (As := [.int (xs (nI i + 1).toNatClampNeg), .int (xs (nI i + 2).toNatClampNeg)]) (rest := [.int v]) hC hg hw (ctY0_read e2) (cwV_g hC.2.2.2.2 ml_L_77 mi_X10_read md_X10_read ⟨Nat.le_of_ble_eq_true rfl, Nat.le_of_ble_eq_true rfl⟩) rfl hl.1 rfl (Nat.le_of_ble_eq_true rfl) dL_law_681 ⟨Nat.le_of_ble_eq_true rfl, Nat.le_of_ble_eq_true rfl⟩) hw (fun H locs hw => ?_)
  refine lv_icmp_eq (tgt := 1274) hx hb dL_law_684 (by decide) (fun _ => ?_) (fun q => absurd rfl q)
  exact kk _ _ _ _ hR' hw
set_option maxHeartbeats 4000000 in
set_option maxRecDepth 100000 in
theorem lc_kind (hC : CallFix p m c cL_law 4 s #[Value.ref b] lw_g RL) (hX : va_X b L xs s s.heap) (hbl : b < s.heap.size) (hg : lwG G1 G2 s) (op : op_kind N RR) {i : Nat} (hi : i + 6 ≤ L) (hL : L ≤ 3072) {S Y : St} (hR : RR S Y) {H : Heap} {locs : List Loc} {ls : Array Slot} (hw : lwW G1 G2 S Y s H locs) (hl : lv_has ls 4 [(0, .ref b), (1, .ref (ad G1 0)), (2, .ref (ad G2 0)), (3, .int (nI i))]) (kk : ∀ (S Y : St) (H : Heap) (locs : List Loc), RR S Y → lwW G1 G2 S Y s H locs → W p l e room_1 s m #[Value.ref b] below meth c H locs 82 22876 Q (F0 m 1274 ls [])) : W p l e room_1 s m #[Value.ref b] below meth c H locs 82 22876 Q (F0 m 689 ls []) := by
  have hx := hC.1
  have hb := hC.2.1
  have hbA : ¬ (fun q : Nat => s.heap.size ≤ q) b := Nat.not_le.mpr hbl
  have hi1 : vp_in (nI i + 1) L := by
    have e1 : nI i + 1 = nI (i + 1) := nI_add i 1
    rw [e1]
    exact vp_in_nI (by omega) (by omega)
  obtain ⟨v, S', Y', e1, e2, hR'⟩ := op S Y (xs (nI i + 1).toNatClampNeg) hR
  refine lv_aload_n hx hb dL_law_689 rfl (lv_at hl 1 rfl) ?_
  refine lv_aload_n hx hb dL_law_690 rfl (lv_at hl 0 rfl) ?_
  refine lv_iload_n hx hb dL_law_691 rfl (lv_at hl 3 rfl) ?_
  refine lv_iconst (v := 1) hx hb dL_law_692 (by decide) ?_
  refine lv_iadd hx hb dL_law_693 ?_
  refine va_sld hx hb hX hbl hbA hw.2.2.2.1 hi1 dL_law_694 ?_
  refine l_gXi hg (l_rX (As := [.int (xs (nI i + 1).toNatClampNeg)]) (rest := []) hC hg hw (ctX0_kind e1) (cwV_g hC.2.2.2.2 ml_L_78 mi_X9_kind md_X9_kind ⟨Nat.le_of_ble_eq_true rfl, Nat.le_of_ble_eq_true rfl⟩) rfl hl.1 rfl (Nat.le_of_ble_eq_true rfl) dL_law_695 ⟨Nat.le_of_ble_eq_true rfl, Nat.le_of_ble_eq_true rfl⟩) hw (fun H locs hw => ?_)
  refine lv_aload_n hx hb dL_law_698 rfl (lv_at hl 2 rfl) ?_
  refine lv_aload_n hx hb dL_law_699 rfl (lv_at hl 0 rfl) ?_
  refine lv_iload_n hx hb dL_law_700 rfl (lv_at hl 3 rfl) ?_
  refine lv_iconst (v := 1) hx hb dL_law_701 (by decide) ?_
  refine lv_iadd hx hb dL_law_702 ?_
  refine va_sld hx hb hX hbl hbA hw.2.2.2.1 hi1 dL_law_703 ?_
  refine l_gYi hg (l_rY (As := [.int (xs (nI i + 1).toNatClampNeg)]) (rest := [.int v]) hC hg hw (ctY0_kind e2) (cwV_g hC.2.2.2.2 ml_L_81 mi_X10_kind md_X10_kind ⟨Nat.le_of_ble_eq_true rfl, Nat.le_of_ble_eq_true rfl⟩) rfl hl.1 rfl (Nat.le_of_ble_eq_true rfl) dL_law_704 ⟨Nat.le_of_ble_eq_true rfl, Nat.le_of_ble_eq_true rfl⟩) hw (fun H locs hw => ?_)
  refine lv_icmp_eq (tgt := 1274) hx hb dL_law_707 (by decide) (fun _ => ?_) (fun q => absurd rfl q)
  exact kk _ _ _ _ hR' hw
set_option maxHeartbeats 4000000 in
set_option maxRecDepth 100000 in
theorem lc_mark (hC : CallFix p m c cL_law 4 s #[Value.ref b] lw_g RL) (hX : va_X b L xs s s.heap) (hbl : b < s.heap.size) (hg : lwG G1 G2 s) (op : op_mark N RR) {i : Nat} (hi : i + 6 ≤ L) (hL : L ≤ 3072) {S Y : St} (hR : RR S Y) {H : Heap} {locs : List Loc} {ls : Array Slot} (hw : lwW G1 G2 S Y s H locs) (hl : lv_has ls 4 [(0, .ref b), (1, .ref (ad G1 0)), (2, .ref (ad G2 0)), (3, .int (nI i))]) (kk : ∀ (S Y : St) (H : Heap) (locs : List Loc), RR S Y → lwW G1 G2 S Y s H locs → W p l e room_1 s m #[Value.ref b] below meth c H locs 82 22876 Q (F0 m 1274 ls [])) : W p l e room_1 s m #[Value.ref b] below meth c H locs 82 22876 Q (F0 m 712 ls []) := by
  have hx := hC.1
  have hb := hC.2.1
  have hbA : ¬ (fun q : Nat => s.heap.size ≤ q) b := Nat.not_le.mpr hbl
  have hi1 : vp_in (nI i + 1) L := by
    have e1 : nI i + 1 = nI (i + 1) := nI_add i 1
    rw [e1]
    exact vp_in_nI (by omega) (by omega)
  have hi2 : vp_in (nI i + 2) L := by
    have e1 : nI i + 2 = nI (i + 2) := nI_add i 2
    rw [e1]
    exact vp_in_nI (by omega) (by omega)
  obtain ⟨v, S', Y', e1, e2, hR'⟩ := op S Y (xs (nI i + 1).toNatClampNeg) (xs (nI i + 2).toNatClampNeg) hR
  refine lv_aload_n hx hb dL_law_712 rfl (lv_at hl 1 rfl) ?_
  refine lv_aload_n hx hb dL_law_713 rfl (lv_at hl 0 rfl) ?_
  refine lv_iload_n hx hb dL_law_714 rfl (lv_at hl 3 rfl) ?_
  refine lv_iconst (v := 1) hx hb dL_law_715 (by decide) ?_
  refine lv_iadd hx hb dL_law_716 ?_
  refine va_sld hx hb hX hbl hbA hw.2.2.2.1 hi1 dL_law_717 ?_
  refine lv_aload_n hx hb dL_law_718 rfl (lv_at hl 0 rfl) ?_
  refine lv_iload_n hx hb dL_law_719 rfl (lv_at hl 3 rfl) ?_
  refine lv_iconst (v := 2) hx hb dL_law_720 (by decide) ?_
  refine lv_iadd hx hb dL_law_721 ?_
  refine va_sld hx hb hX hbl hbA hw.2.2.2.1 hi2 dL_law_722 ?_
  refine l_gXi hg (l_rX (As := [.int (xs (nI i + 1).toNatClampNeg), .int (xs (nI i + 2).toNatClampNeg)]) (rest := []) hC hg hw (ctX0_mark e1) (cwV_g hC.2.2.2.2 ml_L_82 mi_X9_mark md_X9_mark ⟨Nat.le_of_ble_eq_true rfl, Nat.le_of_ble_eq_true rfl⟩) rfl hl.1 rfl (Nat.le_of_ble_eq_true rfl) dL_law_723 ⟨Nat.le_of_ble_eq_true rfl, Nat.le_of_ble_eq_true rfl⟩) hw (fun H locs hw => ?_)
  refine lv_aload_n hx hb dL_law_726 rfl (lv_at hl 2 rfl) ?_
  refine lv_aload_n hx hb dL_law_727 rfl (lv_at hl 0 rfl) ?_
  refine lv_iload_n hx hb dL_law_728 rfl (lv_at hl 3 rfl) ?_
  refine lv_iconst (v := 1) hx hb dL_law_729 (by decide) ?_
  refine lv_iadd hx hb dL_law_730 ?_
  refine va_sld hx hb hX hbl hbA hw.2.2.2.1 hi1 dL_law_731 ?_
  refine lv_aload_n hx hb dL_law_732 rfl (lv_at hl 0 rfl) ?_
  refine lv_iload_n hx hb dL_law_733 rfl (lv_at hl 3 rfl) ?_
  refine lv_iconst (v := 2) hx hb dL_law_734 (by decide) ?_
  refine lv_iadd hx hb dL_law_735 ?_
  refine va_sld hx hb hX hbl hbA hw.2.2.2.1 hi2 dL_law_736 ?_
  refine l_gYi hg (l_rY (As := [.int (xs (nI i + 1).toNatClampNeg), .int (xs (nI i + 2).toNatClampNeg)]) (rest := [.int v]) hC hg hw (ctY0_mark e2) (cwV_g hC.2.2.2.2 ml_L_85 mi_X10_mark md_X10_mark ⟨Nat.le_of_ble_eq_true rfl, Nat.le_of_ble_eq_true rfl⟩) rfl hl.1 rfl (Nat.le_of_ble_eq_true rfl) dL_law_737 ⟨Nat.le_of_ble_eq_true rfl, Nat.le_of_ble_eq_true rfl⟩) hw (fun H locs hw => ?_)
  refine lv_icmp_eq (tgt := 1274) hx hb dL_law_740 (by decide) (fun _ => ?_) (fun q => absurd rfl q)
  exact kk _ _ _ _ hR' hw
set_option maxHeartbeats 4000000 in
set_option maxRecDepth 100000 in
theorem lc_left (hC : CallFix p m c cL_law 4 s #[Value.ref b] lw_g RL) (hX : va_X b L xs s s.heap) (hbl : b < s.heap.size) (hg : lwG G1 G2 s) (op : op_left N RR) {i : Nat} (hi : i + 6 ≤ L) (hL : L ≤ 3072) {S Y : St} (hR : RR S Y) {H : Heap} {locs : List Loc} {ls : Array Slot} (hw : lwW G1 G2 S Y s H locs) (hl : lv_has ls 4 [(0, .ref b), (1, .ref (ad G1 0)), (2, .ref (ad G2 0)), (3, .int (nI i))]) (kk : ∀ (S Y : St) (H : Heap) (locs : List Loc), RR S Y → lwW G1 G2 S Y s H locs → W p l e room_1 s m #[Value.ref b] below meth c H locs 82 22876 Q (F0 m 1274 ls [])) : W p l e room_1 s m #[Value.ref b] below meth c H locs 82 22876 Q (F0 m 745 ls []) := by
  have hx := hC.1
  have hb := hC.2.1
  have hbA : ¬ (fun q : Nat => s.heap.size ≤ q) b := Nat.not_le.mpr hbl
  have hi1 : vp_in (nI i + 1) L := by
    have e1 : nI i + 1 = nI (i + 1) := nI_add i 1
    rw [e1]
    exact vp_in_nI (by omega) (by omega)
  have hi2 : vp_in (nI i + 2) L := by
    have e1 : nI i + 2 = nI (i + 2) := nI_add i 2
    rw [e1]
    exact vp_in_nI (by omega) (by omega)
  obtain ⟨v, S', Y', e1, e2, hR'⟩ := op S Y (xs (nI i + 1).toNatClampNeg) (xs (nI i + 2).toNatClampNeg) hR
  refine lv_aload_n hx hb dL_law_745 rfl (lv_at hl 1 rfl) ?_
  refine lv_aload_n hx hb dL_law_746 rfl (lv_at hl 0 rfl) ?_
  refine lv_iload_n hx hb dL_law_747 rfl (lv_at hl 3 rfl) ?_
  refine lv_iconst (v := 1) hx hb dL_law_748 (by decide) ?_
  refine lv_iadd hx hb dL_law_749 ?_
  refine va_sld hx hb hX hbl hbA hw.2.2.2.1 hi1 dL_law_750 ?_
  refine lv_aload_n hx hb dL_law_751 rfl (lv_at hl 0 rfl) ?_
  refine lv_iload_n hx hb dL_law_752 rfl (lv_at hl 3 rfl) ?_
  refine lv_iconst (v := 2) hx hb dL_law_753 (by decide) ?_
  refine lv_iadd hx hb dL_law_754 ?_
  refine va_sld hx hb hX hbl hbA hw.2.2.2.1 hi2 dL_law_755 ?_
  refine l_gXi hg (l_rX (As := [.int (xs (nI i + 1).toNatClampNeg), .int (xs (nI i + 2).toNatClampNeg)]) (rest := []) hC hg hw (ctX0_left e1) (cwV_g hC.2.2.2.2 ml_L_86 mi_X9_left md_X9_left ⟨Nat.le_of_ble_eq_true rfl, Nat.le_of_ble_eq_true rfl⟩) rfl hl.1 rfl (Nat.le_of_ble_eq_true rfl) dL_law_756 ⟨Nat.le_of_ble_eq_true rfl, Nat.le_of_ble_eq_true rfl⟩) hw (fun H locs hw => ?_)
  refine lv_aload_n hx hb dL_law_759 rfl (lv_at hl 2 rfl) ?_
  refine lv_aload_n hx hb dL_law_760 rfl (lv_at hl 0 rfl) ?_
  refine lv_iload_n hx hb dL_law_761 rfl (lv_at hl 3 rfl) ?_
  refine lv_iconst (v := 1) hx hb dL_law_762 (by decide) ?_
  refine lv_iadd hx hb dL_law_763 ?_
  refine va_sld hx hb hX hbl hbA hw.2.2.2.1 hi1 dL_law_764 ?_
  refine lv_aload_n hx hb dL_law_765 rfl (lv_at hl 0 rfl) ?_
  refine lv_iload_n hx hb dL_law_766 rfl (lv_at hl 3 rfl) ?_
  refine lv_iconst (v := 2) hx hb dL_law_767 (by decide) ?_
  refine lv_iadd hx hb dL_law_768 ?_
  refine va_sld hx hb hX hbl hbA hw.2.2.2.1 hi2 dL_law_769 ?_
  refine l_gYi hg (l_rY (As := [.int (xs (nI i + 1).toNatClampNeg), .int (xs (nI i + 2).toNatClampNeg)]) (rest := [.int v]) hC hg hw (ctY0_left e2) (cwV_g hC.2.2.2.2 ml_L_89 mi_X10_left md_X10_left ⟨Nat.le_of_ble_eq_true rfl, Nat.le_of_ble_eq_true rfl⟩) rfl hl.1 rfl (Nat.le_of_ble_eq_true rfl) dL_law_770 ⟨Nat.le_of_ble_eq_true rfl, Nat.le_of_ble_eq_true rfl⟩) hw (fun H locs hw => ?_)
  refine lv_icmp_eq (tgt := 1274) hx hb dL_law_773 (by decide) (fun _ => ?_) (fun q => absurd rfl q)
  exact kk _ _ _ _ hR' hw
set_option maxHeartbeats 4000000 in
set_option maxRecDepth 100000 in
theorem lc_ends (hC : CallFix p m c cL_law 4 s #[Value.ref b] lw_g RL) (hX : va_X b L xs s s.heap) (hbl : b < s.heap.size) (hg : lwG G1 G2 s) (op : op_ends N RR) {i : Nat} (hi : i + 6 ≤ L) (hL : L ≤ 3072) {S Y : St} (hR : RR S Y) {H : Heap} {locs : List Loc} {ls : Array Slot} (hw : lwW G1 G2 S Y s H locs) (hl : lv_has ls 4 [(0, .ref b), (1, .ref (ad G1 0)), (2, .ref (ad G2 0)), (3, .int (nI i))]) (kk : ∀ (S Y : St) (H : Heap) (locs : List Loc), RR S Y → lwW G1 G2 S Y s H locs → W p l e room_1 s m #[Value.ref b] below meth c H locs 82 22876 Q (F0 m 1274 ls [])) : W p l e room_1 s m #[Value.ref b] below meth c H locs 82 22876 Q (F0 m 778 ls []) := by
  have hx := hC.1
  have hb := hC.2.1
  have hbA : ¬ (fun q : Nat => s.heap.size ≤ q) b := Nat.not_le.mpr hbl
  have hi1 : vp_in (nI i + 1) L := by
    have e1 : nI i + 1 = nI (i + 1) := nI_add i 1
    rw [e1]
    exact vp_in_nI (by omega) (by omega)
  obtain ⟨v, S', Y', e1, e2, hR'⟩ := op S Y (xs (nI i + 1).toNatClampNeg) hR
  refine lv_aload_n hx hb dL_law_778 rfl (lv_at hl 1 rfl) ?_
  refine lv_aload_n hx hb dL_law_779 rfl (lv_at hl 0 rfl) ?_
  refine lv_iload_n hx hb dL_law_780 rfl (lv_at hl 3 rfl) ?_
  refine lv_iconst (v := 1) hx hb dL_law_781 (by decide) ?_
  refine lv_iadd hx hb dL_law_782 ?_
  refine va_sld hx hb hX hbl hbA hw.2.2.2.1 hi1 dL_law_783 ?_
  refine l_gXi hg (l_rX (As := [.int (xs (nI i + 1).toNatClampNeg)]) (rest := []) hC hg hw (ctX0_ends e1) (cwV_g hC.2.2.2.2 ml_L_90 mi_X9_ends md_X9_ends ⟨Nat.le_of_ble_eq_true rfl, Nat.le_of_ble_eq_true rfl⟩) rfl hl.1 rfl (Nat.le_of_ble_eq_true rfl) dL_law_784 ⟨Nat.le_of_ble_eq_true rfl, Nat.le_of_ble_eq_true rfl⟩) hw (fun H locs hw => ?_)
  refine lv_aload_n hx hb dL_law_787 rfl (lv_at hl 2 rfl) ?_
  refine lv_aload_n hx hb dL_law_788 rfl (lv_at hl 0 rfl) ?_
  refine lv_iload_n hx hb dL_law_789 rfl (lv_at hl 3 rfl) ?_
  refine lv_iconst (v := 1) hx hb dL_law_790 (by decide) ?_
  refine lv_iadd hx hb dL_law_791 ?_
  refine va_sld hx hb hX hbl hbA hw.2.2.2.1 hi1 dL_law_792 ?_
  refine l_gYi hg (l_rY (As := [.int (xs (nI i + 1).toNatClampNeg)]) (rest := [.int v]) hC hg hw (ctY0_ends e2) (cwV_g hC.2.2.2.2 ml_L_93 mi_X10_ends md_X10_ends ⟨Nat.le_of_ble_eq_true rfl, Nat.le_of_ble_eq_true rfl⟩) rfl hl.1 rfl (Nat.le_of_ble_eq_true rfl) dL_law_793 ⟨Nat.le_of_ble_eq_true rfl, Nat.le_of_ble_eq_true rfl⟩) hw (fun H locs hw => ?_)
  refine lv_icmp_eq (tgt := 1274) hx hb dL_law_796 (by decide) (fun _ => ?_) (fun q => absurd rfl q)
  exact kk _ _ _ _ hR' hw
set_option maxHeartbeats 4000000 in
set_option maxRecDepth 100000 in
theorem lc_may (hC : CallFix p m c cL_law 4 s #[Value.ref b] lw_g RL) (hX : va_X b L xs s s.heap) (hbl : b < s.heap.size) (hg : lwG G1 G2 s) (op : op_may N RR) {i : Nat} (hi : i + 6 ≤ L) (hL : L ≤ 3072) {S Y : St} (hR : RR S Y) {H : Heap} {locs : List Loc} {ls : Array Slot} (hw : lwW G1 G2 S Y s H locs) (hl : lv_has ls 4 [(0, .ref b), (1, .ref (ad G1 0)), (2, .ref (ad G2 0)), (3, .int (nI i))]) (kk : ∀ (S Y : St) (H : Heap) (locs : List Loc), RR S Y → lwW G1 G2 S Y s H locs → W p l e room_1 s m #[Value.ref b] below meth c H locs 82 22876 Q (F0 m 1274 ls [])) : W p l e room_1 s m #[Value.ref b] below meth c H locs 82 22876 Q (F0 m 801 ls []) := by
  have hx := hC.1
  have hb := hC.2.1
  have hbA : ¬ (fun q : Nat => s.heap.size ≤ q) b := Nat.not_le.mpr hbl
  have hi1 : vp_in (nI i + 1) L := by
    have e1 : nI i + 1 = nI (i + 1) := nI_add i 1
    rw [e1]
    exact vp_in_nI (by omega) (by omega)
  have hi2 : vp_in (nI i + 2) L := by
    have e1 : nI i + 2 = nI (i + 2) := nI_add i 2
    rw [e1]
    exact vp_in_nI (by omega) (by omega)
  obtain ⟨v, S', Y', e1, e2, hR'⟩ := op S Y (xs (nI i + 1).toNatClampNeg) (xs (nI i + 2).toNatClampNeg) hR
  refine lv_aload_n hx hb dL_law_801 rfl (lv_at hl 1 rfl) ?_
  refine lv_aload_n hx hb dL_law_802 rfl (lv_at hl 0 rfl) ?_
  refine lv_iload_n hx hb dL_law_803 rfl (lv_at hl 3 rfl) ?_
  refine lv_iconst (v := 1) hx hb dL_law_804 (by decide) ?_
  refine lv_iadd hx hb dL_law_805 ?_
  refine va_sld hx hb hX hbl hbA hw.2.2.2.1 hi1 dL_law_806 ?_
  refine lv_aload_n hx hb dL_law_807 rfl (lv_at hl 0 rfl) ?_
  refine lv_iload_n hx hb dL_law_808 rfl (lv_at hl 3 rfl) ?_
  refine lv_iconst (v := 2) hx hb dL_law_809 (by decide) ?_
  refine lv_iadd hx hb dL_law_810 ?_
  refine va_sld hx hb hX hbl hbA hw.2.2.2.1 hi2 dL_law_811 ?_
  refine l_gXi hg (l_rX (As := [.int (xs (nI i + 1).toNatClampNeg), .int (xs (nI i + 2).toNatClampNeg)]) (rest := []) hC hg hw (ctX0_may e1) (cwV_g hC.2.2.2.2 ml_L_94 mi_X9_may md_X9_may ⟨Nat.le_of_ble_eq_true rfl, Nat.le_of_ble_eq_true rfl⟩) rfl hl.1 rfl (Nat.le_of_ble_eq_true rfl) dL_law_812 ⟨Nat.le_of_ble_eq_true rfl, Nat.le_of_ble_eq_true rfl⟩) hw (fun H locs hw => ?_)
  refine lv_aload_n hx hb dL_law_815 rfl (lv_at hl 2 rfl) ?_
  refine lv_aload_n hx hb dL_law_816 rfl (lv_at hl 0 rfl) ?_
  refine lv_iload_n hx hb dL_law_817 rfl (lv_at hl 3 rfl) ?_
  refine lv_iconst (v := 1) hx hb dL_law_818 (by decide) ?_
  refine lv_iadd hx hb dL_law_819 ?_
  refine va_sld hx hb hX hbl hbA hw.2.2.2.1 hi1 dL_law_820 ?_
  refine lv_aload_n hx hb dL_law_821 rfl (lv_at hl 0 rfl) ?_
  refine lv_iload_n hx hb dL_law_822 rfl (lv_at hl 3 rfl) ?_
  refine lv_iconst (v := 2) hx hb dL_law_823 (by decide) ?_
  refine lv_iadd hx hb dL_law_824 ?_
  refine va_sld hx hb hX hbl hbA hw.2.2.2.1 hi2 dL_law_825 ?_
  refine l_gYi hg (l_rY (As := [.int (xs (nI i + 1).toNatClampNeg), .int (xs (nI i + 2).toNatClampNeg)]) (rest := [.int v]) hC hg hw (ctY0_may e2) (cwV_g hC.2.2.2.2 ml_L_97 mi_X10_may md_X10_may ⟨Nat.le_of_ble_eq_true rfl, Nat.le_of_ble_eq_true rfl⟩) rfl hl.1 rfl (Nat.le_of_ble_eq_true rfl) dL_law_826 ⟨Nat.le_of_ble_eq_true rfl, Nat.le_of_ble_eq_true rfl⟩) hw (fun H locs hw => ?_)
  refine lv_icmp_eq (tgt := 1274) hx hb dL_law_829 (by decide) (fun _ => ?_) (fun q => absurd rfl q)
  exact kk _ _ _ _ hR' hw
set_option maxHeartbeats 4000000 in
set_option maxRecDepth 100000 in
theorem lc_burnt (hC : CallFix p m c cL_law 4 s #[Value.ref b] lw_g RL) (hX : va_X b L xs s s.heap) (hbl : b < s.heap.size) (hg : lwG G1 G2 s) (op : op_burnt N RR) {i : Nat} (hi : i + 6 ≤ L) (hL : L ≤ 3072) {S Y : St} (hR : RR S Y) {H : Heap} {locs : List Loc} {ls : Array Slot} (hw : lwW G1 G2 S Y s H locs) (hl : lv_has ls 4 [(0, .ref b), (1, .ref (ad G1 0)), (2, .ref (ad G2 0)), (3, .int (nI i))]) (kk : ∀ (S Y : St) (H : Heap) (locs : List Loc), RR S Y → lwW G1 G2 S Y s H locs → W p l e room_1 s m #[Value.ref b] below meth c H locs 82 22876 Q (F0 m 1274 ls [])) : W p l e room_1 s m #[Value.ref b] below meth c H locs 82 22876 Q (F0 m 834 ls []) := by
  have hx := hC.1
  have hb := hC.2.1
  have hbA : ¬ (fun q : Nat => s.heap.size ≤ q) b := Nat.not_le.mpr hbl
  obtain ⟨v, S', Y', e1, e2, hR'⟩ := op S Y  hR
  refine lv_aload_n hx hb dL_law_834 rfl (lv_at hl 1 rfl) ?_
  refine l_gXi hg (l_rX (As := []) (rest := []) hC hg hw (ctX0_burnt e1) (cwV_g hC.2.2.2.2 ml_L_98 mi_X9_burnt md_X9_burnt ⟨Nat.le_of_ble_eq_true rfl, Nat.le_of_ble_eq_true rfl⟩) rfl hl.1 rfl (Nat.le_of_ble_eq_true rfl) dL_law_835 ⟨Nat.le_of_ble_eq_true rfl, Nat.le_of_ble_eq_true rfl⟩) hw (fun H locs hw => ?_)
  refine lv_aload_n hx hb dL_law_838 rfl (lv_at hl 2 rfl) ?_
  refine l_gYi hg (l_rY (As := []) (rest := [.int v]) hC hg hw (ctY0_burnt e2) (cwV_g hC.2.2.2.2 ml_L_101 mi_X10_burnt md_X10_burnt ⟨Nat.le_of_ble_eq_true rfl, Nat.le_of_ble_eq_true rfl⟩) rfl hl.1 rfl (Nat.le_of_ble_eq_true rfl) dL_law_839 ⟨Nat.le_of_ble_eq_true rfl, Nat.le_of_ble_eq_true rfl⟩) hw (fun H locs hw => ?_)
  refine lv_icmp_eq (tgt := 1274) hx hb dL_law_842 (by decide) (fun _ => ?_) (fun q => absurd rfl q)
  exact kk _ _ _ _ hR' hw
set_option maxHeartbeats 4000000 in
set_option maxRecDepth 100000 in
theorem lc_count (hC : CallFix p m c cL_law 4 s #[Value.ref b] lw_g RL) (hX : va_X b L xs s s.heap) (hbl : b < s.heap.size) (hg : lwG G1 G2 s) (op : op_count N RR) {i : Nat} (hi : i + 6 ≤ L) (hL : L ≤ 3072) {S Y : St} (hR : RR S Y) {H : Heap} {locs : List Loc} {ls : Array Slot} (hw : lwW G1 G2 S Y s H locs) (hl : lv_has ls 4 [(0, .ref b), (1, .ref (ad G1 0)), (2, .ref (ad G2 0)), (3, .int (nI i))]) (kk : ∀ (S Y : St) (H : Heap) (locs : List Loc), RR S Y → lwW G1 G2 S Y s H locs → W p l e room_1 s m #[Value.ref b] below meth c H locs 82 22876 Q (F0 m 1274 ls [])) : W p l e room_1 s m #[Value.ref b] below meth c H locs 82 22876 Q (F0 m 847 ls []) := by
  have hx := hC.1
  have hb := hC.2.1
  have hbA : ¬ (fun q : Nat => s.heap.size ≤ q) b := Nat.not_le.mpr hbl
  have hi1 : vp_in (nI i + 1) L := by
    have e1 : nI i + 1 = nI (i + 1) := nI_add i 1
    rw [e1]
    exact vp_in_nI (by omega) (by omega)
  obtain ⟨v, S', Y', e1, e2, hR'⟩ := op S Y (xs (nI i + 1).toNatClampNeg) hR
  refine lv_aload_n hx hb dL_law_847 rfl (lv_at hl 1 rfl) ?_
  refine lv_aload_n hx hb dL_law_848 rfl (lv_at hl 0 rfl) ?_
  refine lv_iload_n hx hb dL_law_849 rfl (lv_at hl 3 rfl) ?_
  refine lv_iconst (v := 1) hx hb dL_law_850 (by decide) ?_
  refine lv_iadd hx hb dL_law_851 ?_
  refine va_sld hx hb hX hbl hbA hw.2.2.2.1 hi1 dL_law_852 ?_
  refine l_gXi hg (l_rX (As := [.int (xs (nI i + 1).toNatClampNeg)]) (rest := []) hC hg hw (ctX0_count e1) (cwV_g hC.2.2.2.2 ml_L_102 mi_X9_count md_X9_count ⟨Nat.le_of_ble_eq_true rfl, Nat.le_of_ble_eq_true rfl⟩) rfl hl.1 rfl (Nat.le_of_ble_eq_true rfl) dL_law_853 ⟨Nat.le_of_ble_eq_true rfl, Nat.le_of_ble_eq_true rfl⟩) hw (fun H locs hw => ?_)
  refine lv_aload_n hx hb dL_law_856 rfl (lv_at hl 2 rfl) ?_
  refine lv_aload_n hx hb dL_law_857 rfl (lv_at hl 0 rfl) ?_
  refine lv_iload_n hx hb dL_law_858 rfl (lv_at hl 3 rfl) ?_
  refine lv_iconst (v := 1) hx hb dL_law_859 (by decide) ?_
  refine lv_iadd hx hb dL_law_860 ?_
  refine va_sld hx hb hX hbl hbA hw.2.2.2.1 hi1 dL_law_861 ?_
  refine l_gYi hg (l_rY (As := [.int (xs (nI i + 1).toNatClampNeg)]) (rest := [.int v]) hC hg hw (ctY0_count e2) (cwV_g hC.2.2.2.2 ml_L_105 mi_X10_count md_X10_count ⟨Nat.le_of_ble_eq_true rfl, Nat.le_of_ble_eq_true rfl⟩) rfl hl.1 rfl (Nat.le_of_ble_eq_true rfl) dL_law_862 ⟨Nat.le_of_ble_eq_true rfl, Nat.le_of_ble_eq_true rfl⟩) hw (fun H locs hw => ?_)
  refine lv_icmp_eq (tgt := 1274) hx hb dL_law_865 (by decide) (fun _ => ?_) (fun q => absurd rfl q)
  exact kk _ _ _ _ hR' hw
set_option maxHeartbeats 4000000 in
set_option maxRecDepth 100000 in
theorem lc_fill (hC : CallFix p m c cL_law 4 s #[Value.ref b] lw_g RL) (hX : va_X b L xs s s.heap) (hbl : b < s.heap.size) (hg : lwG G1 G2 s) (op : op_fill N RR) {i : Nat} (hi : i + 6 ≤ L) (hL : L ≤ 3072) {S Y : St} (hR : RR S Y) {H : Heap} {locs : List Loc} {ls : Array Slot} (hw : lwW G1 G2 S Y s H locs) (hl : lv_has ls 4 [(0, .ref b), (1, .ref (ad G1 0)), (2, .ref (ad G2 0)), (3, .int (nI i))]) (kk : ∀ (S Y : St) (H : Heap) (locs : List Loc), RR S Y → lwW G1 G2 S Y s H locs → W p l e room_1 s m #[Value.ref b] below meth c H locs 82 22876 Q (F0 m 1274 ls [])) : W p l e room_1 s m #[Value.ref b] below meth c H locs 82 22876 Q (F0 m 870 ls []) := by
  have hx := hC.1
  have hb := hC.2.1
  have hbA : ¬ (fun q : Nat => s.heap.size ≤ q) b := Nat.not_le.mpr hbl
  have hi1 : vp_in (nI i + 1) L := by
    have e1 : nI i + 1 = nI (i + 1) := nI_add i 1
    rw [e1]
    exact vp_in_nI (by omega) (by omega)
  have hi2 : vp_in (nI i + 2) L := by
    have e1 : nI i + 2 = nI (i + 2) := nI_add i 2
    rw [e1]
    exact vp_in_nI (by omega) (by omega)
  have hi3 : vp_in (nI i + 3) L := by
    have e1 : nI i + 3 = nI (i + 3) := nI_add i 3
    rw [e1]
    exact vp_in_nI (by omega) (by omega)
  obtain ⟨v, S', Y', e1, e2, hR'⟩ := op S Y (xs (nI i + 1).toNatClampNeg) (xs (nI i + 2).toNatClampNeg) (xs (nI i + 3).toNatClampNeg) hR
  refine lv_aload_n hx hb dL_law_870 rfl (lv_at hl 1 rfl) ?_
  refine lv_aload_n hx hb dL_law_871 rfl (lv_at hl 0 rfl) ?_
  refine lv_iload_n hx hb dL_law_872 rfl (lv_at hl 3 rfl) ?_
  refine lv_iconst (v := 1) hx hb dL_law_873 (by decide) ?_
  refine lv_iadd hx hb dL_law_874 ?_
  refine va_sld hx hb hX hbl hbA hw.2.2.2.1 hi1 dL_law_875 ?_
  refine lv_aload_n hx hb dL_law_876 rfl (lv_at hl 0 rfl) ?_
  refine lv_iload_n hx hb dL_law_877 rfl (lv_at hl 3 rfl) ?_
  refine lv_iconst (v := 2) hx hb dL_law_878 (by decide) ?_
  refine lv_iadd hx hb dL_law_879 ?_
  refine va_sld hx hb hX hbl hbA hw.2.2.2.1 hi2 dL_law_880 ?_
  refine lv_aload_n hx hb dL_law_881 rfl (lv_at hl 0 rfl) ?_
  refine lv_iload_n hx hb dL_law_882 rfl (lv_at hl 3 rfl) ?_
  refine lv_iconst (v := 3) hx hb dL_law_883 (by decide) ?_
  refine lv_iadd hx hb dL_law_884 ?_
  refine va_sld hx hb hX hbl hbA hw.2.2.2.1 hi3 dL_law_885 ?_
  refine l_gXi hg (l_rX (As := [.int (xs (nI i + 1).toNatClampNeg), .int (xs (nI i + 2).toNatClampNeg), .int (xs (nI i + 3).toNatClampNeg)]) (rest := []) hC hg hw (ctX0_fill e1) (cwV_g hC.2.2.2.2 ml_L_106 mi_X9_fill md_X9_fill ⟨Nat.le_of_ble_eq_true rfl, Nat.le_of_ble_eq_true rfl⟩) rfl hl.1 rfl (Nat.le_of_ble_eq_true rfl) dL_law_886 ⟨Nat.le_of_ble_eq_true rfl, Nat.le_of_ble_eq_true rfl⟩) hw (fun H locs hw => ?_)
  refine lv_aload_n hx hb dL_law_889 rfl (lv_at hl 2 rfl) ?_
  refine lv_aload_n hx hb dL_law_890 rfl (lv_at hl 0 rfl) ?_
  refine lv_iload_n hx hb dL_law_891 rfl (lv_at hl 3 rfl) ?_
  refine lv_iconst (v := 1) hx hb dL_law_892 (by decide) ?_
  refine lv_iadd hx hb dL_law_893 ?_
  refine va_sld hx hb hX hbl hbA hw.2.2.2.1 hi1 dL_law_894 ?_
  refine lv_aload_n hx hb dL_law_895 rfl (lv_at hl 0 rfl) ?_
  refine lv_iload_n hx hb dL_law_896 rfl (lv_at hl 3 rfl) ?_
  refine lv_iconst (v := 2) hx hb dL_law_897 (by decide) ?_
  refine lv_iadd hx hb dL_law_898 ?_
  refine va_sld hx hb hX hbl hbA hw.2.2.2.1 hi2 dL_law_899 ?_
  refine lv_aload_n hx hb dL_law_900 rfl (lv_at hl 0 rfl) ?_
  refine lv_iload_n hx hb dL_law_901 rfl (lv_at hl 3 rfl) ?_
  refine lv_iconst (v := 3) hx hb dL_law_902 (by decide) ?_
  refine lv_iadd hx hb dL_law_903 ?_
  refine va_sld hx hb hX hbl hbA hw.2.2.2.1 hi3 dL_law_904 ?_
  refine l_gYi hg (l_rY (As := [.int (xs (nI i + 1).toNatClampNeg), .int (xs (nI i + 2).toNatClampNeg), .int (xs (nI i + 3).toNatClampNeg)]) (rest := [.int v]) hC hg hw (ctY0_fill e2) (cwV_g hC.2.2.2.2 ml_L_109 mi_X10_fill md_X10_fill ⟨Nat.le_of_ble_eq_true rfl, Nat.le_of_ble_eq_true rfl⟩) rfl hl.1 rfl (Nat.le_of_ble_eq_true rfl) dL_law_905 ⟨Nat.le_of_ble_eq_true rfl, Nat.le_of_ble_eq_true rfl⟩) hw (fun H locs hw => ?_)
  refine lv_icmp_eq (tgt := 1274) hx hb dL_law_908 (by decide) (fun _ => ?_) (fun q => absurd rfl q)
  exact kk _ _ _ _ hR' hw
set_option maxHeartbeats 4000000 in
set_option maxRecDepth 100000 in
theorem lc_could (hC : CallFix p m c cL_law 4 s #[Value.ref b] lw_g RL) (hX : va_X b L xs s s.heap) (hbl : b < s.heap.size) (hg : lwG G1 G2 s) (op : op_could N RR) {i : Nat} (hi : i + 6 ≤ L) (hL : L ≤ 3072) {S Y : St} (hR : RR S Y) {H : Heap} {locs : List Loc} {ls : Array Slot} (hw : lwW G1 G2 S Y s H locs) (hl : lv_has ls 4 [(0, .ref b), (1, .ref (ad G1 0)), (2, .ref (ad G2 0)), (3, .int (nI i))]) (kk : ∀ (S Y : St) (H : Heap) (locs : List Loc), RR S Y → lwW G1 G2 S Y s H locs → W p l e room_1 s m #[Value.ref b] below meth c H locs 82 22876 Q (F0 m 1274 ls [])) : W p l e room_1 s m #[Value.ref b] below meth c H locs 82 22876 Q (F0 m 913 ls []) := by
  have hx := hC.1
  have hb := hC.2.1
  have hbA : ¬ (fun q : Nat => s.heap.size ≤ q) b := Nat.not_le.mpr hbl
  have hi1 : vp_in (nI i + 1) L := by
    have e1 : nI i + 1 = nI (i + 1) := nI_add i 1
    rw [e1]
    exact vp_in_nI (by omega) (by omega)
  have hi2 : vp_in (nI i + 2) L := by
    have e1 : nI i + 2 = nI (i + 2) := nI_add i 2
    rw [e1]
    exact vp_in_nI (by omega) (by omega)
  have hi3 : vp_in (nI i + 3) L := by
    have e1 : nI i + 3 = nI (i + 3) := nI_add i 3
    rw [e1]
    exact vp_in_nI (by omega) (by omega)
  obtain ⟨v, S', Y', e1, e2, hR'⟩ := op S Y (xs (nI i + 1).toNatClampNeg) (xs (nI i + 2).toNatClampNeg) (xs (nI i + 3).toNatClampNeg) hR
  refine lv_aload_n hx hb dL_law_913 rfl (lv_at hl 1 rfl) ?_
  refine lv_aload_n hx hb dL_law_914 rfl (lv_at hl 0 rfl) ?_
  refine lv_iload_n hx hb dL_law_915 rfl (lv_at hl 3 rfl) ?_
  refine lv_iconst (v := 1) hx hb dL_law_916 (by decide) ?_
  refine lv_iadd hx hb dL_law_917 ?_
  refine va_sld hx hb hX hbl hbA hw.2.2.2.1 hi1 dL_law_918 ?_
  refine lv_aload_n hx hb dL_law_919 rfl (lv_at hl 0 rfl) ?_
  refine lv_iload_n hx hb dL_law_920 rfl (lv_at hl 3 rfl) ?_
  refine lv_iconst (v := 2) hx hb dL_law_921 (by decide) ?_
  refine lv_iadd hx hb dL_law_922 ?_
  refine va_sld hx hb hX hbl hbA hw.2.2.2.1 hi2 dL_law_923 ?_
  refine lv_aload_n hx hb dL_law_924 rfl (lv_at hl 0 rfl) ?_
  refine lv_iload_n hx hb dL_law_925 rfl (lv_at hl 3 rfl) ?_
  refine lv_iconst (v := 3) hx hb dL_law_926 (by decide) ?_
  refine lv_iadd hx hb dL_law_927 ?_
  refine va_sld hx hb hX hbl hbA hw.2.2.2.1 hi3 dL_law_928 ?_
  refine l_gXi hg (l_rX (As := [.int (xs (nI i + 1).toNatClampNeg), .int (xs (nI i + 2).toNatClampNeg), .int (xs (nI i + 3).toNatClampNeg)]) (rest := []) hC hg hw (ctX0_could e1) (cwV_g hC.2.2.2.2 ml_L_110 mi_X9_could md_X9_could ⟨Nat.le_of_ble_eq_true rfl, Nat.le_of_ble_eq_true rfl⟩) rfl hl.1 rfl (Nat.le_of_ble_eq_true rfl) dL_law_929 ⟨Nat.le_of_ble_eq_true rfl, Nat.le_of_ble_eq_true rfl⟩) hw (fun H locs hw => ?_)
  refine lv_aload_n hx hb dL_law_932 rfl (lv_at hl 2 rfl) ?_
  refine lv_aload_n hx hb dL_law_933 rfl (lv_at hl 0 rfl) ?_
  refine lv_iload_n hx hb dL_law_934 rfl (lv_at hl 3 rfl) ?_
  refine lv_iconst (v := 1) hx hb dL_law_935 (by decide) ?_
  refine lv_iadd hx hb dL_law_936 ?_
  refine va_sld hx hb hX hbl hbA hw.2.2.2.1 hi1 dL_law_937 ?_
  refine lv_aload_n hx hb dL_law_938 rfl (lv_at hl 0 rfl) ?_
  refine lv_iload_n hx hb dL_law_939 rfl (lv_at hl 3 rfl) ?_
  refine lv_iconst (v := 2) hx hb dL_law_940 (by decide) ?_
  refine lv_iadd hx hb dL_law_941 ?_
  refine va_sld hx hb hX hbl hbA hw.2.2.2.1 hi2 dL_law_942 ?_
  refine lv_aload_n hx hb dL_law_943 rfl (lv_at hl 0 rfl) ?_
  refine lv_iload_n hx hb dL_law_944 rfl (lv_at hl 3 rfl) ?_
  refine lv_iconst (v := 3) hx hb dL_law_945 (by decide) ?_
  refine lv_iadd hx hb dL_law_946 ?_
  refine va_sld hx hb hX hbl hbA hw.2.2.2.1 hi3 dL_law_947 ?_
  refine l_gYi hg (l_rY (As := [.int (xs (nI i + 1).toNatClampNeg), .int (xs (nI i + 2).toNatClampNeg), .int (xs (nI i + 3).toNatClampNeg)]) (rest := [.int v]) hC hg hw (ctY0_could e2) (cwV_g hC.2.2.2.2 ml_L_113 mi_X10_could md_X10_could ⟨Nat.le_of_ble_eq_true rfl, Nat.le_of_ble_eq_true rfl⟩) rfl hl.1 rfl (Nat.le_of_ble_eq_true rfl) dL_law_948 ⟨Nat.le_of_ble_eq_true rfl, Nat.le_of_ble_eq_true rfl⟩) hw (fun H locs hw => ?_)
  refine lv_icmp_eq (tgt := 1274) hx hb dL_law_951 (by decide) (fun _ => ?_) (fun q => absurd rfl q)
  exact kk _ _ _ _ hR' hw
set_option maxHeartbeats 4000000 in
set_option maxRecDepth 100000 in
theorem lc_must (hC : CallFix p m c cL_law 4 s #[Value.ref b] lw_g RL) (hX : va_X b L xs s s.heap) (hbl : b < s.heap.size) (hg : lwG G1 G2 s) (op : op_must N RR) {i : Nat} (hi : i + 6 ≤ L) (hL : L ≤ 3072) {S Y : St} (hR : RR S Y) {H : Heap} {locs : List Loc} {ls : Array Slot} (hw : lwW G1 G2 S Y s H locs) (hl : lv_has ls 4 [(0, .ref b), (1, .ref (ad G1 0)), (2, .ref (ad G2 0)), (3, .int (nI i))]) (kk : ∀ (S Y : St) (H : Heap) (locs : List Loc), RR S Y → lwW G1 G2 S Y s H locs → W p l e room_1 s m #[Value.ref b] below meth c H locs 82 22876 Q (F0 m 1274 ls [])) : W p l e room_1 s m #[Value.ref b] below meth c H locs 82 22876 Q (F0 m 956 ls []) := by
  have hx := hC.1
  have hb := hC.2.1
  have hbA : ¬ (fun q : Nat => s.heap.size ≤ q) b := Nat.not_le.mpr hbl
  have hi1 : vp_in (nI i + 1) L := by
    have e1 : nI i + 1 = nI (i + 1) := nI_add i 1
    rw [e1]
    exact vp_in_nI (by omega) (by omega)
  have hi2 : vp_in (nI i + 2) L := by
    have e1 : nI i + 2 = nI (i + 2) := nI_add i 2
    rw [e1]
    exact vp_in_nI (by omega) (by omega)
  obtain ⟨v, S', Y', e1, e2, hR'⟩ := op S Y (xs (nI i + 1).toNatClampNeg) (xs (nI i + 2).toNatClampNeg) hR
  refine lv_aload_n hx hb dL_law_956 rfl (lv_at hl 1 rfl) ?_
  refine lv_aload_n hx hb dL_law_957 rfl (lv_at hl 0 rfl) ?_
  refine lv_iload_n hx hb dL_law_958 rfl (lv_at hl 3 rfl) ?_
  refine lv_iconst (v := 1) hx hb dL_law_959 (by decide) ?_
  refine lv_iadd hx hb dL_law_960 ?_
  refine va_sld hx hb hX hbl hbA hw.2.2.2.1 hi1 dL_law_961 ?_
  refine lv_aload_n hx hb dL_law_962 rfl (lv_at hl 0 rfl) ?_
  refine lv_iload_n hx hb dL_law_963 rfl (lv_at hl 3 rfl) ?_
  refine lv_iconst (v := 2) hx hb dL_law_964 (by decide) ?_
  refine lv_iadd hx hb dL_law_965 ?_
  refine va_sld hx hb hX hbl hbA hw.2.2.2.1 hi2 dL_law_966 ?_
  refine l_gXi hg (l_rX (As := [.int (xs (nI i + 1).toNatClampNeg), .int (xs (nI i + 2).toNatClampNeg)]) (rest := []) hC hg hw (ctX0_must e1) (cwV_g hC.2.2.2.2 ml_L_114 mi_X9_must md_X9_must ⟨Nat.le_of_ble_eq_true rfl, Nat.le_of_ble_eq_true rfl⟩) rfl hl.1 rfl (Nat.le_of_ble_eq_true rfl) dL_law_967 ⟨Nat.le_of_ble_eq_true rfl, Nat.le_of_ble_eq_true rfl⟩) hw (fun H locs hw => ?_)
  refine lv_aload_n hx hb dL_law_970 rfl (lv_at hl 2 rfl) ?_
  refine lv_aload_n hx hb dL_law_971 rfl (lv_at hl 0 rfl) ?_
  refine lv_iload_n hx hb dL_law_972 rfl (lv_at hl 3 rfl) ?_
  refine lv_iconst (v := 1) hx hb dL_law_973 (by decide) ?_
  refine lv_iadd hx hb dL_law_974 ?_
  refine va_sld hx hb hX hbl hbA hw.2.2.2.1 hi1 dL_law_975 ?_
  refine lv_aload_n hx hb dL_law_976 rfl (lv_at hl 0 rfl) ?_
  refine lv_iload_n hx hb dL_law_977 rfl (lv_at hl 3 rfl) ?_
  refine lv_iconst (v := 2) hx hb dL_law_978 (by decide) ?_
  refine lv_iadd hx hb dL_law_979 ?_
  refine va_sld hx hb hX hbl hbA hw.2.2.2.1 hi2 dL_law_980 ?_
  refine l_gYi hg (l_rY (As := [.int (xs (nI i + 1).toNatClampNeg), .int (xs (nI i + 2).toNatClampNeg)]) (rest := [.int v]) hC hg hw (ctY0_must e2) (cwV_g hC.2.2.2.2 ml_L_117 mi_X10_must md_X10_must ⟨Nat.le_of_ble_eq_true rfl, Nat.le_of_ble_eq_true rfl⟩) rfl hl.1 rfl (Nat.le_of_ble_eq_true rfl) dL_law_981 ⟨Nat.le_of_ble_eq_true rfl, Nat.le_of_ble_eq_true rfl⟩) hw (fun H locs hw => ?_)
  refine lv_icmp_eq (tgt := 1274) hx hb dL_law_984 (by decide) (fun _ => ?_) (fun q => absurd rfl q)
  exact kk _ _ _ _ hR' hw
set_option maxHeartbeats 4000000 in
set_option maxRecDepth 100000 in
theorem lc_sure (hC : CallFix p m c cL_law 4 s #[Value.ref b] lw_g RL) (hX : va_X b L xs s s.heap) (hbl : b < s.heap.size) (hg : lwG G1 G2 s) (op : op_sure N RR) {i : Nat} (hi : i + 6 ≤ L) (hL : L ≤ 3072) {S Y : St} (hR : RR S Y) {H : Heap} {locs : List Loc} {ls : Array Slot} (hw : lwW G1 G2 S Y s H locs) (hl : lv_has ls 4 [(0, .ref b), (1, .ref (ad G1 0)), (2, .ref (ad G2 0)), (3, .int (nI i))]) (kk : ∀ (S Y : St) (H : Heap) (locs : List Loc), RR S Y → lwW G1 G2 S Y s H locs → W p l e room_1 s m #[Value.ref b] below meth c H locs 82 22876 Q (F0 m 1274 ls [])) : W p l e room_1 s m #[Value.ref b] below meth c H locs 82 22876 Q (F0 m 989 ls []) := by
  have hx := hC.1
  have hb := hC.2.1
  have hbA : ¬ (fun q : Nat => s.heap.size ≤ q) b := Nat.not_le.mpr hbl
  have hi1 : vp_in (nI i + 1) L := by
    have e1 : nI i + 1 = nI (i + 1) := nI_add i 1
    rw [e1]
    exact vp_in_nI (by omega) (by omega)
  obtain ⟨v, S', Y', e1, e2, hR'⟩ := op S Y (xs (nI i + 1).toNatClampNeg) hR
  refine lv_aload_n hx hb dL_law_989 rfl (lv_at hl 1 rfl) ?_
  refine lv_aload_n hx hb dL_law_990 rfl (lv_at hl 0 rfl) ?_
  refine lv_iload_n hx hb dL_law_991 rfl (lv_at hl 3 rfl) ?_
  refine lv_iconst (v := 1) hx hb dL_law_992 (by decide) ?_
  refine lv_iadd hx hb dL_law_993 ?_
  refine va_sld hx hb hX hbl hbA hw.2.2.2.1 hi1 dL_law_994 ?_
  refine l_gXi hg (l_rX (As := [.int (xs (nI i + 1).toNatClampNeg)]) (rest := []) hC hg hw (ctX0_sure e1) (cwV_g hC.2.2.2.2 ml_L_118 mi_X9_sure md_X9_sure ⟨Nat.le_of_ble_eq_true rfl, Nat.le_of_ble_eq_true rfl⟩) rfl hl.1 rfl (Nat.le_of_ble_eq_true rfl) dL_law_995 ⟨Nat.le_of_ble_eq_true rfl, Nat.le_of_ble_eq_true rfl⟩) hw (fun H locs hw => ?_)
  refine lv_aload_n hx hb dL_law_998 rfl (lv_at hl 2 rfl) ?_
  refine lv_aload_n hx hb dL_law_999 rfl (lv_at hl 0 rfl) ?_
  refine lv_iload_n hx hb dL_law_1000 rfl (lv_at hl 3 rfl) ?_
  refine lv_iconst (v := 1) hx hb dL_law_1001 (by decide) ?_
  refine lv_iadd hx hb dL_law_1002 ?_
  refine va_sld hx hb hX hbl hbA hw.2.2.2.1 hi1 dL_law_1003 ?_
  refine l_gYi hg (l_rY (As := [.int (xs (nI i + 1).toNatClampNeg)]) (rest := [.int v]) hC hg hw (ctY0_sure e2) (cwV_g hC.2.2.2.2 ml_L_121 mi_X10_sure md_X10_sure ⟨Nat.le_of_ble_eq_true rfl, Nat.le_of_ble_eq_true rfl⟩) rfl hl.1 rfl (Nat.le_of_ble_eq_true rfl) dL_law_1004 ⟨Nat.le_of_ble_eq_true rfl, Nat.le_of_ble_eq_true rfl⟩) hw (fun H locs hw => ?_)
  refine lv_icmp_eq (tgt := 1274) hx hb dL_law_1007 (by decide) (fun _ => ?_) (fun q => absurd rfl q)
  exact kk _ _ _ _ hR' hw
set_option maxHeartbeats 4000000 in
set_option maxRecDepth 100000 in
theorem lc_like (hC : CallFix p m c cL_law 4 s #[Value.ref b] lw_g RL) (hX : va_X b L xs s s.heap) (hbl : b < s.heap.size) (hg : lwG G1 G2 s) (op : op_like N RR) {i : Nat} (hi : i + 6 ≤ L) (hL : L ≤ 3072) {S Y : St} (hR : RR S Y) {H : Heap} {locs : List Loc} {ls : Array Slot} (hw : lwW G1 G2 S Y s H locs) (hl : lv_has ls 4 [(0, .ref b), (1, .ref (ad G1 0)), (2, .ref (ad G2 0)), (3, .int (nI i))]) (kk : ∀ (S Y : St) (H : Heap) (locs : List Loc), RR S Y → lwW G1 G2 S Y s H locs → W p l e room_1 s m #[Value.ref b] below meth c H locs 82 22876 Q (F0 m 1274 ls [])) : W p l e room_1 s m #[Value.ref b] below meth c H locs 82 22876 Q (F0 m 1012 ls []) := by
  have hx := hC.1
  have hb := hC.2.1
  have hbA : ¬ (fun q : Nat => s.heap.size ≤ q) b := Nat.not_le.mpr hbl
  have hi1 : vp_in (nI i + 1) L := by
    have e1 : nI i + 1 = nI (i + 1) := nI_add i 1
    rw [e1]
    exact vp_in_nI (by omega) (by omega)
  have hi2 : vp_in (nI i + 2) L := by
    have e1 : nI i + 2 = nI (i + 2) := nI_add i 2
    rw [e1]
    exact vp_in_nI (by omega) (by omega)
  have hi3 : vp_in (nI i + 3) L := by
    have e1 : nI i + 3 = nI (i + 3) := nI_add i 3
    rw [e1]
    exact vp_in_nI (by omega) (by omega)
  obtain ⟨v, S', Y', e1, e2, hR'⟩ := op S Y (xs (nI i + 1).toNatClampNeg) (xs (nI i + 2).toNatClampNeg) (xs (nI i + 3).toNatClampNeg) hR
  refine lv_aload_n hx hb dL_law_1012 rfl (lv_at hl 1 rfl) ?_
  refine lv_aload_n hx hb dL_law_1013 rfl (lv_at hl 0 rfl) ?_
  refine lv_iload_n hx hb dL_law_1014 rfl (lv_at hl 3 rfl) ?_
  refine lv_iconst (v := 1) hx hb dL_law_1015 (by decide) ?_
  refine lv_iadd hx hb dL_law_1016 ?_
  refine va_sld hx hb hX hbl hbA hw.2.2.2.1 hi1 dL_law_1017 ?_
  refine lv_aload_n hx hb dL_law_1018 rfl (lv_at hl 0 rfl) ?_
  refine lv_iload_n hx hb dL_law_1019 rfl (lv_at hl 3 rfl) ?_
  refine lv_iconst (v := 2) hx hb dL_law_1020 (by decide) ?_
  refine lv_iadd hx hb dL_law_1021 ?_
  refine va_sld hx hb hX hbl hbA hw.2.2.2.1 hi2 dL_law_1022 ?_
  refine lv_aload_n hx hb dL_law_1023 rfl (lv_at hl 0 rfl) ?_
  refine lv_iload_n hx hb dL_law_1024 rfl (lv_at hl 3 rfl) ?_
  refine lv_iconst (v := 3) hx hb dL_law_1025 (by decide) ?_
  refine lv_iadd hx hb dL_law_1026 ?_
  refine va_sld hx hb hX hbl hbA hw.2.2.2.1 hi3 dL_law_1027 ?_
  refine l_gXi hg (l_rX (As := [.int (xs (nI i + 1).toNatClampNeg), .int (xs (nI i + 2).toNatClampNeg), .int (xs (nI i + 3).toNatClampNeg)]) (rest := []) hC hg hw (ctX0_like e1) (cwV_g hC.2.2.2.2 ml_L_122 mi_X9_like md_X9_like ⟨Nat.le_of_ble_eq_true rfl, Nat.le_of_ble_eq_true rfl⟩) rfl hl.1 rfl (Nat.le_of_ble_eq_true rfl) dL_law_1028 ⟨Nat.le_of_ble_eq_true rfl, Nat.le_of_ble_eq_true rfl⟩) hw (fun H locs hw => ?_)
  refine lv_aload_n hx hb dL_law_1031 rfl (lv_at hl 2 rfl) ?_
  refine lv_aload_n hx hb dL_law_1032 rfl (lv_at hl 0 rfl) ?_
  refine lv_iload_n hx hb dL_law_1033 rfl (lv_at hl 3 rfl) ?_
  refine lv_iconst (v := 1) hx hb dL_law_1034 (by decide) ?_
  refine lv_iadd hx hb dL_law_1035 ?_
  refine va_sld hx hb hX hbl hbA hw.2.2.2.1 hi1 dL_law_1036 ?_
  refine lv_aload_n hx hb dL_law_1037 rfl (lv_at hl 0 rfl) ?_
  refine lv_iload_n hx hb dL_law_1038 rfl (lv_at hl 3 rfl) ?_
  refine lv_iconst (v := 2) hx hb dL_law_1039 (by decide) ?_
  refine lv_iadd hx hb dL_law_1040 ?_
  refine va_sld hx hb hX hbl hbA hw.2.2.2.1 hi2 dL_law_1041 ?_
  refine lv_aload_n hx hb dL_law_1042 rfl (lv_at hl 0 rfl) ?_
  refine lv_iload_n hx hb dL_law_1043 rfl (lv_at hl 3 rfl) ?_
  refine lv_iconst (v := 3) hx hb dL_law_1044 (by decide) ?_
  refine lv_iadd hx hb dL_law_1045 ?_
  refine va_sld hx hb hX hbl hbA hw.2.2.2.1 hi3 dL_law_1046 ?_
  refine l_gYi hg (l_rY (As := [.int (xs (nI i + 1).toNatClampNeg), .int (xs (nI i + 2).toNatClampNeg), .int (xs (nI i + 3).toNatClampNeg)]) (rest := [.int v]) hC hg hw (ctY0_like e2) (cwV_g hC.2.2.2.2 ml_L_125 mi_X10_like md_X10_like ⟨Nat.le_of_ble_eq_true rfl, Nat.le_of_ble_eq_true rfl⟩) rfl hl.1 rfl (Nat.le_of_ble_eq_true rfl) dL_law_1047 ⟨Nat.le_of_ble_eq_true rfl, Nat.le_of_ble_eq_true rfl⟩) hw (fun H locs hw => ?_)
  refine lv_icmp_eq (tgt := 1274) hx hb dL_law_1050 (by decide) (fun _ => ?_) (fun q => absurd rfl q)
  exact kk _ _ _ _ hR' hw
set_option maxHeartbeats 4000000 in
set_option maxRecDepth 100000 in
theorem lc_wrong (hC : CallFix p m c cL_law 4 s #[Value.ref b] lw_g RL) (hX : va_X b L xs s s.heap) (hbl : b < s.heap.size) (hg : lwG G1 G2 s) (op : op_wrong N RR) {i : Nat} (hi : i + 6 ≤ L) (hL : L ≤ 3072) {S Y : St} (hR : RR S Y) {H : Heap} {locs : List Loc} {ls : Array Slot} (hw : lwW G1 G2 S Y s H locs) (hl : lv_has ls 4 [(0, .ref b), (1, .ref (ad G1 0)), (2, .ref (ad G2 0)), (3, .int (nI i))]) (kk : ∀ (S Y : St) (H : Heap) (locs : List Loc), RR S Y → lwW G1 G2 S Y s H locs → W p l e room_1 s m #[Value.ref b] below meth c H locs 82 22876 Q (F0 m 1274 ls [])) : W p l e room_1 s m #[Value.ref b] below meth c H locs 82 22876 Q (F0 m 1055 ls []) := by
  have hx := hC.1
  have hb := hC.2.1
  have hbA : ¬ (fun q : Nat => s.heap.size ≤ q) b := Nat.not_le.mpr hbl
  have hi1 : vp_in (nI i + 1) L := by
    have e1 : nI i + 1 = nI (i + 1) := nI_add i 1
    rw [e1]
    exact vp_in_nI (by omega) (by omega)
  obtain ⟨v, S', Y', e1, e2, hR'⟩ := op S Y (xs (nI i + 1).toNatClampNeg) hR
  refine lv_aload_n hx hb dL_law_1055 rfl (lv_at hl 1 rfl) ?_
  refine lv_aload_n hx hb dL_law_1056 rfl (lv_at hl 0 rfl) ?_
  refine lv_iload_n hx hb dL_law_1057 rfl (lv_at hl 3 rfl) ?_
  refine lv_iconst (v := 1) hx hb dL_law_1058 (by decide) ?_
  refine lv_iadd hx hb dL_law_1059 ?_
  refine va_sld hx hb hX hbl hbA hw.2.2.2.1 hi1 dL_law_1060 ?_
  refine l_gXi hg (l_rX (As := [.int (xs (nI i + 1).toNatClampNeg)]) (rest := []) hC hg hw (ctX0_wrong e1) (cwV_g hC.2.2.2.2 ml_L_126 mi_X9_wrong md_X9_wrong ⟨Nat.le_of_ble_eq_true rfl, Nat.le_of_ble_eq_true rfl⟩) rfl hl.1 rfl (Nat.le_of_ble_eq_true rfl) dL_law_1061 ⟨Nat.le_of_ble_eq_true rfl, Nat.le_of_ble_eq_true rfl⟩) hw (fun H locs hw => ?_)
  refine lv_aload_n hx hb dL_law_1064 rfl (lv_at hl 2 rfl) ?_
  refine lv_aload_n hx hb dL_law_1065 rfl (lv_at hl 0 rfl) ?_
  refine lv_iload_n hx hb dL_law_1066 rfl (lv_at hl 3 rfl) ?_
  refine lv_iconst (v := 1) hx hb dL_law_1067 (by decide) ?_
  refine lv_iadd hx hb dL_law_1068 ?_
  refine va_sld hx hb hX hbl hbA hw.2.2.2.1 hi1 dL_law_1069 ?_
  refine l_gYi hg (l_rY (As := [.int (xs (nI i + 1).toNatClampNeg)]) (rest := [.int v]) hC hg hw (ctY0_wrong e2) (cwV_g hC.2.2.2.2 ml_L_129 mi_X10_wrong md_X10_wrong ⟨Nat.le_of_ble_eq_true rfl, Nat.le_of_ble_eq_true rfl⟩) rfl hl.1 rfl (Nat.le_of_ble_eq_true rfl) dL_law_1070 ⟨Nat.le_of_ble_eq_true rfl, Nat.le_of_ble_eq_true rfl⟩) hw (fun H locs hw => ?_)
  refine lv_icmp_eq (tgt := 1274) hx hb dL_law_1073 (by decide) (fun _ => ?_) (fun q => absurd rfl q)
  exact kk _ _ _ _ hR' hw
set_option maxHeartbeats 4000000 in
set_option maxRecDepth 100000 in
theorem lc_next (hC : CallFix p m c cL_law 4 s #[Value.ref b] lw_g RL) (hX : va_X b L xs s s.heap) (hbl : b < s.heap.size) (hg : lwG G1 G2 s) (op : op_next N RR) {i : Nat} (hi : i + 6 ≤ L) (hL : L ≤ 3072) {S Y : St} (hR : RR S Y) {H : Heap} {locs : List Loc} {ls : Array Slot} (hw : lwW G1 G2 S Y s H locs) (hl : lv_has ls 4 [(0, .ref b), (1, .ref (ad G1 0)), (2, .ref (ad G2 0)), (3, .int (nI i))]) (kk : ∀ (S Y : St) (H : Heap) (locs : List Loc), RR S Y → lwW G1 G2 S Y s H locs → W p l e room_1 s m #[Value.ref b] below meth c H locs 82 22876 Q (F0 m 1274 ls [])) : W p l e room_1 s m #[Value.ref b] below meth c H locs 82 22876 Q (F0 m 1078 ls []) := by
  have hx := hC.1
  have hb := hC.2.1
  have hbA : ¬ (fun q : Nat => s.heap.size ≤ q) b := Nat.not_le.mpr hbl
  have hi1 : vp_in (nI i + 1) L := by
    have e1 : nI i + 1 = nI (i + 1) := nI_add i 1
    rw [e1]
    exact vp_in_nI (by omega) (by omega)
  obtain ⟨v, S', Y', e1, e2, hR'⟩ := op S Y (xs (nI i + 1).toNatClampNeg) hR
  refine lv_aload_n hx hb dL_law_1078 rfl (lv_at hl 1 rfl) ?_
  refine lv_aload_n hx hb dL_law_1079 rfl (lv_at hl 0 rfl) ?_
  refine lv_iload_n hx hb dL_law_1080 rfl (lv_at hl 3 rfl) ?_
  refine lv_iconst (v := 1) hx hb dL_law_1081 (by decide) ?_
  refine lv_iadd hx hb dL_law_1082 ?_
  refine va_sld hx hb hX hbl hbA hw.2.2.2.1 hi1 dL_law_1083 ?_
  refine l_gXi hg (l_rX (As := [.int (xs (nI i + 1).toNatClampNeg)]) (rest := []) hC hg hw (ctX0_next e1) (cwV_g hC.2.2.2.2 ml_L_130 mi_X9_next md_X9_next ⟨Nat.le_of_ble_eq_true rfl, Nat.le_of_ble_eq_true rfl⟩) rfl hl.1 rfl (Nat.le_of_ble_eq_true rfl) dL_law_1084 ⟨Nat.le_of_ble_eq_true rfl, Nat.le_of_ble_eq_true rfl⟩) hw (fun H locs hw => ?_)
  refine lv_aload_n hx hb dL_law_1087 rfl (lv_at hl 2 rfl) ?_
  refine lv_aload_n hx hb dL_law_1088 rfl (lv_at hl 0 rfl) ?_
  refine lv_iload_n hx hb dL_law_1089 rfl (lv_at hl 3 rfl) ?_
  refine lv_iconst (v := 1) hx hb dL_law_1090 (by decide) ?_
  refine lv_iadd hx hb dL_law_1091 ?_
  refine va_sld hx hb hX hbl hbA hw.2.2.2.1 hi1 dL_law_1092 ?_
  refine l_gYi hg (l_rY (As := [.int (xs (nI i + 1).toNatClampNeg)]) (rest := [.int v]) hC hg hw (ctY0_next e2) (cwV_g hC.2.2.2.2 ml_L_133 mi_X10_next md_X10_next ⟨Nat.le_of_ble_eq_true rfl, Nat.le_of_ble_eq_true rfl⟩) rfl hl.1 rfl (Nat.le_of_ble_eq_true rfl) dL_law_1093 ⟨Nat.le_of_ble_eq_true rfl, Nat.le_of_ble_eq_true rfl⟩) hw (fun H locs hw => ?_)
  refine lv_icmp_eq (tgt := 1274) hx hb dL_law_1096 (by decide) (fun _ => ?_) (fun q => absurd rfl q)
  exact kk _ _ _ _ hR' hw
set_option maxHeartbeats 4000000 in
set_option maxRecDepth 100000 in
theorem lc_judge (hC : CallFix p m c cL_law 4 s #[Value.ref b] lw_g RL) (hX : va_X b L xs s s.heap) (hbl : b < s.heap.size) (hg : lwG G1 G2 s) (op : op_judge N RR) {i : Nat} (hi : i + 6 ≤ L) (hL : L ≤ 3072) {S Y : St} (hR : RR S Y) {H : Heap} {locs : List Loc} {ls : Array Slot} (hw : lwW G1 G2 S Y s H locs) (hl : lv_has ls 4 [(0, .ref b), (1, .ref (ad G1 0)), (2, .ref (ad G2 0)), (3, .int (nI i))]) (kk : ∀ (S Y : St) (H : Heap) (locs : List Loc), RR S Y → lwW G1 G2 S Y s H locs → W p l e room_1 s m #[Value.ref b] below meth c H locs 82 22876 Q (F0 m 1274 ls [])) : W p l e room_1 s m #[Value.ref b] below meth c H locs 82 22876 Q (F0 m 1101 ls []) := by
  have hx := hC.1
  have hb := hC.2.1
  have hbA : ¬ (fun q : Nat => s.heap.size ≤ q) b := Nat.not_le.mpr hbl
  have hi1 : vp_in (nI i + 1) L := by
    have e1 : nI i + 1 = nI (i + 1) := nI_add i 1
    rw [e1]
    exact vp_in_nI (by omega) (by omega)
  obtain ⟨v, S', Y', e1, e2, hR'⟩ := op S Y (xs (nI i + 1).toNatClampNeg) hR
  refine lv_aload_n hx hb dL_law_1101 rfl (lv_at hl 1 rfl) ?_
  refine lv_aload_n hx hb dL_law_1102 rfl (lv_at hl 0 rfl) ?_
  refine lv_iload_n hx hb dL_law_1103 rfl (lv_at hl 3 rfl) ?_
  refine lv_iconst (v := 1) hx hb dL_law_1104 (by decide) ?_
  refine lv_iadd hx hb dL_law_1105 ?_
  refine va_sld hx hb hX hbl hbA hw.2.2.2.1 hi1 dL_law_1106 ?_
  refine l_gXi hg (l_rX (As := [.int (xs (nI i + 1).toNatClampNeg)]) (rest := []) hC hg hw (ctX0_judge e1) (cwV_g hC.2.2.2.2 ml_L_134 mi_X9_judge md_X9_judge ⟨Nat.le_of_ble_eq_true rfl, Nat.le_of_ble_eq_true rfl⟩) rfl hl.1 rfl (Nat.le_of_ble_eq_true rfl) dL_law_1107 ⟨Nat.le_of_ble_eq_true rfl, Nat.le_of_ble_eq_true rfl⟩) hw (fun H locs hw => ?_)
  refine lv_aload_n hx hb dL_law_1110 rfl (lv_at hl 2 rfl) ?_
  refine lv_aload_n hx hb dL_law_1111 rfl (lv_at hl 0 rfl) ?_
  refine lv_iload_n hx hb dL_law_1112 rfl (lv_at hl 3 rfl) ?_
  refine lv_iconst (v := 1) hx hb dL_law_1113 (by decide) ?_
  refine lv_iadd hx hb dL_law_1114 ?_
  refine va_sld hx hb hX hbl hbA hw.2.2.2.1 hi1 dL_law_1115 ?_
  refine l_gYi hg (l_rY (As := [.int (xs (nI i + 1).toNatClampNeg)]) (rest := [.int v]) hC hg hw (ctY0_judge e2) (cwV_g hC.2.2.2.2 ml_L_137 mi_X10_judge md_X10_judge ⟨Nat.le_of_ble_eq_true rfl, Nat.le_of_ble_eq_true rfl⟩) rfl hl.1 rfl (Nat.le_of_ble_eq_true rfl) dL_law_1116 ⟨Nat.le_of_ble_eq_true rfl, Nat.le_of_ble_eq_true rfl⟩) hw (fun H locs hw => ?_)
  refine lv_icmp_eq (tgt := 1274) hx hb dL_law_1119 (by decide) (fun _ => ?_) (fun q => absurd rfl q)
  exact kk _ _ _ _ hR' hw
set_option maxHeartbeats 4000000 in
set_option maxRecDepth 100000 in
theorem lc_orders (hC : CallFix p m c cL_law 4 s #[Value.ref b] lw_g RL) (hX : va_X b L xs s s.heap) (hbl : b < s.heap.size) (hg : lwG G1 G2 s) (op : op_orders N RR) {i : Nat} (hi : i + 6 ≤ L) (hL : L ≤ 3072) {S Y : St} (hR : RR S Y) {H : Heap} {locs : List Loc} {ls : Array Slot} (hw : lwW G1 G2 S Y s H locs) (hl : lv_has ls 4 [(0, .ref b), (1, .ref (ad G1 0)), (2, .ref (ad G2 0)), (3, .int (nI i))]) (kk : ∀ (S Y : St) (H : Heap) (locs : List Loc), RR S Y → lwW G1 G2 S Y s H locs → W p l e room_1 s m #[Value.ref b] below meth c H locs 82 22876 Q (F0 m 1274 ls [])) : W p l e room_1 s m #[Value.ref b] below meth c H locs 82 22876 Q (F0 m 1124 ls []) := by
  have hx := hC.1
  have hb := hC.2.1
  have hbA : ¬ (fun q : Nat => s.heap.size ≤ q) b := Nat.not_le.mpr hbl
  have hi1 : vp_in (nI i + 1) L := by
    have e1 : nI i + 1 = nI (i + 1) := nI_add i 1
    rw [e1]
    exact vp_in_nI (by omega) (by omega)
  obtain ⟨v, S', Y', e1, e2, hR'⟩ := op S Y (xs (nI i + 1).toNatClampNeg) hR
  refine lv_aload_n hx hb dL_law_1124 rfl (lv_at hl 1 rfl) ?_
  refine lv_aload_n hx hb dL_law_1125 rfl (lv_at hl 0 rfl) ?_
  refine lv_iload_n hx hb dL_law_1126 rfl (lv_at hl 3 rfl) ?_
  refine lv_iconst (v := 1) hx hb dL_law_1127 (by decide) ?_
  refine lv_iadd hx hb dL_law_1128 ?_
  refine va_sld hx hb hX hbl hbA hw.2.2.2.1 hi1 dL_law_1129 ?_
  refine l_gXi hg (l_rX (As := [.int (xs (nI i + 1).toNatClampNeg)]) (rest := []) hC hg hw (ctX0_orders e1) (cwV_g hC.2.2.2.2 ml_L_138 mi_X9_orders md_X9_orders ⟨Nat.le_of_ble_eq_true rfl, Nat.le_of_ble_eq_true rfl⟩) rfl hl.1 rfl (Nat.le_of_ble_eq_true rfl) dL_law_1130 ⟨Nat.le_of_ble_eq_true rfl, Nat.le_of_ble_eq_true rfl⟩) hw (fun H locs hw => ?_)
  refine lv_aload_n hx hb dL_law_1133 rfl (lv_at hl 2 rfl) ?_
  refine lv_aload_n hx hb dL_law_1134 rfl (lv_at hl 0 rfl) ?_
  refine lv_iload_n hx hb dL_law_1135 rfl (lv_at hl 3 rfl) ?_
  refine lv_iconst (v := 1) hx hb dL_law_1136 (by decide) ?_
  refine lv_iadd hx hb dL_law_1137 ?_
  refine va_sld hx hb hX hbl hbA hw.2.2.2.1 hi1 dL_law_1138 ?_
  refine l_gYi hg (l_rY (As := [.int (xs (nI i + 1).toNatClampNeg)]) (rest := [.int v]) hC hg hw (ctY0_orders e2) (cwV_g hC.2.2.2.2 ml_L_141 mi_X10_orders md_X10_orders ⟨Nat.le_of_ble_eq_true rfl, Nat.le_of_ble_eq_true rfl⟩) rfl hl.1 rfl (Nat.le_of_ble_eq_true rfl) dL_law_1139 ⟨Nat.le_of_ble_eq_true rfl, Nat.le_of_ble_eq_true rfl⟩) hw (fun H locs hw => ?_)
  refine lv_icmp_eq (tgt := 1274) hx hb dL_law_1142 (by decide) (fun _ => ?_) (fun q => absurd rfl q)
  exact kk _ _ _ _ hR' hw
set_option maxHeartbeats 4000000 in
set_option maxRecDepth 100000 in
theorem lc_matches (hC : CallFix p m c cL_law 4 s #[Value.ref b] lw_g RL) (hX : va_X b L xs s s.heap) (hbl : b < s.heap.size) (hg : lwG G1 G2 s) (op : op_matches N RR) {i : Nat} (hi : i + 6 ≤ L) (hL : L ≤ 3072) {S Y : St} (hR : RR S Y) {H : Heap} {locs : List Loc} {ls : Array Slot} (hw : lwW G1 G2 S Y s H locs) (hl : lv_has ls 4 [(0, .ref b), (1, .ref (ad G1 0)), (2, .ref (ad G2 0)), (3, .int (nI i))]) (kk : ∀ (S Y : St) (H : Heap) (locs : List Loc), RR S Y → lwW G1 G2 S Y s H locs → W p l e room_1 s m #[Value.ref b] below meth c H locs 82 22876 Q (F0 m 1274 ls [])) : W p l e room_1 s m #[Value.ref b] below meth c H locs 82 22876 Q (F0 m 1147 ls []) := by
  have hx := hC.1
  have hb := hC.2.1
  have hbA : ¬ (fun q : Nat => s.heap.size ≤ q) b := Nat.not_le.mpr hbl
  obtain ⟨v, S', Y', e1, e2, hR'⟩ := op S Y  hR
  refine lv_aload_n hx hb dL_law_1147 rfl (lv_at hl 1 rfl) ?_
  refine l_gXi hg (l_rX (As := []) (rest := []) hC hg hw (ctX0_matches e1) (cwV_g hC.2.2.2.2 ml_L_142 mi_X9_matches md_X9_matches ⟨Nat.le_of_ble_eq_true rfl, Nat.le_of_ble_eq_true rfl⟩) rfl hl.1 rfl (Nat.le_of_ble_eq_true rfl) dL_law_1148 ⟨Nat.le_of_ble_eq_true rfl, Nat.le_of_ble_eq_true rfl⟩) hw (fun H locs hw => ?_)
  refine lv_aload_n hx hb dL_law_1151 rfl (lv_at hl 2 rfl) ?_
  refine l_gYi hg (l_rY (As := []) (rest := [.int v]) hC hg hw (ctY0_matches e2) (cwV_g hC.2.2.2.2 ml_L_145 mi_X10_matches md_X10_matches ⟨Nat.le_of_ble_eq_true rfl, Nat.le_of_ble_eq_true rfl⟩) rfl hl.1 rfl (Nat.le_of_ble_eq_true rfl) dL_law_1152 ⟨Nat.le_of_ble_eq_true rfl, Nat.le_of_ble_eq_true rfl⟩) hw (fun H locs hw => ?_)
  refine lv_icmp_eq (tgt := 1274) hx hb dL_law_1155 (by decide) (fun _ => ?_) (fun q => absurd rfl q)
  exact kk _ _ _ _ hR' hw
set_option maxHeartbeats 4000000 in
set_option maxRecDepth 100000 in
theorem lc_asked (hC : CallFix p m c cL_law 4 s #[Value.ref b] lw_g RL) (hX : va_X b L xs s s.heap) (hbl : b < s.heap.size) (hg : lwG G1 G2 s) (op : op_asked N RR) {i : Nat} (hi : i + 6 ≤ L) (hL : L ≤ 3072) {S Y : St} (hR : RR S Y) {H : Heap} {locs : List Loc} {ls : Array Slot} (hw : lwW G1 G2 S Y s H locs) (hl : lv_has ls 4 [(0, .ref b), (1, .ref (ad G1 0)), (2, .ref (ad G2 0)), (3, .int (nI i))]) (kk : ∀ (S Y : St) (H : Heap) (locs : List Loc), RR S Y → lwW G1 G2 S Y s H locs → W p l e room_1 s m #[Value.ref b] below meth c H locs 82 22876 Q (F0 m 1274 ls [])) : W p l e room_1 s m #[Value.ref b] below meth c H locs 82 22876 Q (F0 m 1160 ls []) := by
  have hx := hC.1
  have hb := hC.2.1
  have hbA : ¬ (fun q : Nat => s.heap.size ≤ q) b := Nat.not_le.mpr hbl
  obtain ⟨v, e1, e2, hR'⟩ := op S Y  hR
  refine lv_aload_n hx hb dL_law_1160 rfl (lv_at hl 1 rfl) ?_
  refine l_gXi hg (l_rX (As := []) (rest := []) hC hg hw (ctX0_asked e1) (cwV_g hC.2.2.2.2 ml_L_146 mi_X9_asked md_X9_asked ⟨Nat.le_of_ble_eq_true rfl, Nat.le_of_ble_eq_true rfl⟩) rfl hl.1 rfl (Nat.le_of_ble_eq_true rfl) dL_law_1161 ⟨Nat.le_of_ble_eq_true rfl, Nat.le_of_ble_eq_true rfl⟩) hw (fun H locs hw => ?_)
  refine lv_aload_n hx hb dL_law_1164 rfl (lv_at hl 2 rfl) ?_
  refine l_gYi hg (l_rY (As := []) (rest := [.int v]) hC hg hw (ctY0_asked e2) (cwV_g hC.2.2.2.2 ml_L_149 mi_X10_asked md_X10_asked ⟨Nat.le_of_ble_eq_true rfl, Nat.le_of_ble_eq_true rfl⟩) rfl hl.1 rfl (Nat.le_of_ble_eq_true rfl) dL_law_1165 ⟨Nat.le_of_ble_eq_true rfl, Nat.le_of_ble_eq_true rfl⟩) hw (fun H locs hw => ?_)
  refine lv_icmp_eq (tgt := 1274) hx hb dL_law_1168 (by decide) (fun _ => ?_) (fun q => absurd rfl q)
  exact kk _ _ _ _ hR' hw
set_option maxHeartbeats 4000000 in
set_option maxRecDepth 100000 in
theorem lc_upper (hC : CallFix p m c cL_law 4 s #[Value.ref b] lw_g RL) (hX : va_X b L xs s s.heap) (hbl : b < s.heap.size) (hg : lwG G1 G2 s) (op : op_upper N RR) {i : Nat} (hi : i + 6 ≤ L) (hL : L ≤ 3072) {S Y : St} (hR : RR S Y) {H : Heap} {locs : List Loc} {ls : Array Slot} (hw : lwW G1 G2 S Y s H locs) (hl : lv_has ls 4 [(0, .ref b), (1, .ref (ad G1 0)), (2, .ref (ad G2 0)), (3, .int (nI i))]) (kk : ∀ (S Y : St) (H : Heap) (locs : List Loc), RR S Y → lwW G1 G2 S Y s H locs → W p l e room_1 s m #[Value.ref b] below meth c H locs 82 22876 Q (F0 m 1274 ls [])) : W p l e room_1 s m #[Value.ref b] below meth c H locs 82 22876 Q (F0 m 1173 ls []) := by
  have hx := hC.1
  have hb := hC.2.1
  have hbA : ¬ (fun q : Nat => s.heap.size ≤ q) b := Nat.not_le.mpr hbl
  obtain ⟨v, e1, e2, hR'⟩ := op S Y  hR
  refine lv_aload_n hx hb dL_law_1173 rfl (lv_at hl 1 rfl) ?_
  refine l_gXl hg (l_rX (As := []) (rest := []) hC hg hw (ctX0_upper e1) (cwV_g hC.2.2.2.2 ml_L_150 mi_X9_upper md_X9_upper ⟨Nat.le_of_ble_eq_true rfl, Nat.le_of_ble_eq_true rfl⟩) rfl hl.1 rfl (Nat.le_of_ble_eq_true rfl) dL_law_1174 ⟨Nat.le_of_ble_eq_true rfl, Nat.le_of_ble_eq_true rfl⟩) hw (fun H locs hw => ?_)
  refine lv_aload_n hx hb dL_law_1177 rfl (lv_at hl 2 rfl) ?_
  refine l_gYl hg (l_rY (As := []) (rest := [.long v]) hC hg hw (ctY0_upper e2) (cwV_g hC.2.2.2.2 ml_L_154 mi_X10_upper md_X10_upper ⟨Nat.le_of_ble_eq_true rfl, Nat.le_of_ble_eq_true rfl⟩) rfl hl.1 rfl (Nat.le_of_ble_eq_true rfl) dL_law_1178 ⟨Nat.le_of_ble_eq_true rfl, Nat.le_of_ble_eq_true rfl⟩) hw (fun H locs hw => ?_)
  refine W.lcmp hx hb dL_law_1181 ?_
  refine lv_if_eq (tgt := 1274) hx hb dL_law_1182 (by decide) (fun _ => ?_) (fun q => absurd (lg_cmp_self v) q)
  exact kk _ _ _ _ hR' hw
set_option maxHeartbeats 4000000 in
set_option maxRecDepth 100000 in
theorem lc_lower (hC : CallFix p m c cL_law 4 s #[Value.ref b] lw_g RL) (hX : va_X b L xs s s.heap) (hbl : b < s.heap.size) (hg : lwG G1 G2 s) (op : op_lower N RR) {i : Nat} (hi : i + 6 ≤ L) (hL : L ≤ 3072) {S Y : St} (hR : RR S Y) {H : Heap} {locs : List Loc} {ls : Array Slot} (hw : lwW G1 G2 S Y s H locs) (hl : lv_has ls 4 [(0, .ref b), (1, .ref (ad G1 0)), (2, .ref (ad G2 0)), (3, .int (nI i))]) (kk : ∀ (S Y : St) (H : Heap) (locs : List Loc), RR S Y → lwW G1 G2 S Y s H locs → W p l e room_1 s m #[Value.ref b] below meth c H locs 82 22876 Q (F0 m 1274 ls [])) : W p l e room_1 s m #[Value.ref b] below meth c H locs 82 22876 Q (F0 m 1187 ls []) := by
  have hx := hC.1
  have hb := hC.2.1
  have hbA : ¬ (fun q : Nat => s.heap.size ≤ q) b := Nat.not_le.mpr hbl
  obtain ⟨v, e1, e2, hR'⟩ := op S Y  hR
  refine lv_aload_n hx hb dL_law_1187 rfl (lv_at hl 1 rfl) ?_
  refine l_gXl hg (l_rX (As := []) (rest := []) hC hg hw (ctX0_lower e1) (cwV_g hC.2.2.2.2 ml_L_155 mi_X9_lower md_X9_lower ⟨Nat.le_of_ble_eq_true rfl, Nat.le_of_ble_eq_true rfl⟩) rfl hl.1 rfl (Nat.le_of_ble_eq_true rfl) dL_law_1188 ⟨Nat.le_of_ble_eq_true rfl, Nat.le_of_ble_eq_true rfl⟩) hw (fun H locs hw => ?_)
  refine lv_aload_n hx hb dL_law_1191 rfl (lv_at hl 2 rfl) ?_
  refine l_gYl hg (l_rY (As := []) (rest := [.long v]) hC hg hw (ctY0_lower e2) (cwV_g hC.2.2.2.2 ml_L_158 mi_X10_lower md_X10_lower ⟨Nat.le_of_ble_eq_true rfl, Nat.le_of_ble_eq_true rfl⟩) rfl hl.1 rfl (Nat.le_of_ble_eq_true rfl) dL_law_1192 ⟨Nat.le_of_ble_eq_true rfl, Nat.le_of_ble_eq_true rfl⟩) hw (fun H locs hw => ?_)
  refine W.lcmp hx hb dL_law_1195 ?_
  refine lv_if_eq (tgt := 1274) hx hb dL_law_1196 (by decide) (fun _ => ?_) (fun q => absurd (lg_cmp_self v) q)
  exact kk _ _ _ _ hR' hw
set_option maxHeartbeats 4000000 in
set_option maxRecDepth 100000 in
theorem lc_there (hC : CallFix p m c cL_law 4 s #[Value.ref b] lw_g RL) (hX : va_X b L xs s s.heap) (hbl : b < s.heap.size) (hg : lwG G1 G2 s) (op : op_there N RR) {i : Nat} (hi : i + 6 ≤ L) (hL : L ≤ 3072) {S Y : St} (hR : RR S Y) {H : Heap} {locs : List Loc} {ls : Array Slot} (hw : lwW G1 G2 S Y s H locs) (hl : lv_has ls 4 [(0, .ref b), (1, .ref (ad G1 0)), (2, .ref (ad G2 0)), (3, .int (nI i))]) (kk : ∀ (S Y : St) (H : Heap) (locs : List Loc), RR S Y → lwW G1 G2 S Y s H locs → W p l e room_1 s m #[Value.ref b] below meth c H locs 82 22876 Q (F0 m 1274 ls [])) : W p l e room_1 s m #[Value.ref b] below meth c H locs 82 22876 Q (F0 m 1201 ls []) := by
  have hx := hC.1
  have hb := hC.2.1
  have hbA : ¬ (fun q : Nat => s.heap.size ≤ q) b := Nat.not_le.mpr hbl
  have hi1 : vp_in (nI i + 1) L := by
    have e1 : nI i + 1 = nI (i + 1) := nI_add i 1
    rw [e1]
    exact vp_in_nI (by omega) (by omega)
  obtain ⟨v, e1, e2, hR'⟩ := op S Y (xs (nI i + 1).toNatClampNeg) hR
  refine lv_aload_n hx hb dL_law_1201 rfl (lv_at hl 1 rfl) ?_
  refine lv_aload_n hx hb dL_law_1202 rfl (lv_at hl 0 rfl) ?_
  refine lv_iload_n hx hb dL_law_1203 rfl (lv_at hl 3 rfl) ?_
  refine lv_iconst (v := 1) hx hb dL_law_1204 (by decide) ?_
  refine lv_iadd hx hb dL_law_1205 ?_
  refine va_sld hx hb hX hbl hbA hw.2.2.2.1 hi1 dL_law_1206 ?_
  refine l_gXi hg (l_rX (As := [.int (xs (nI i + 1).toNatClampNeg)]) (rest := []) hC hg hw (ctX0_there e1) (cwV_g hC.2.2.2.2 ml_L_159 mi_X9_there md_X9_there ⟨Nat.le_of_ble_eq_true rfl, Nat.le_of_ble_eq_true rfl⟩) rfl hl.1 rfl (Nat.le_of_ble_eq_true rfl) dL_law_1207 ⟨Nat.le_of_ble_eq_true rfl, Nat.le_of_ble_eq_true rfl⟩) hw (fun H locs hw => ?_)
  refine lv_aload_n hx hb dL_law_1210 rfl (lv_at hl 2 rfl) ?_
  refine lv_aload_n hx hb dL_law_1211 rfl (lv_at hl 0 rfl) ?_
  refine lv_iload_n hx hb dL_law_1212 rfl (lv_at hl 3 rfl) ?_
  refine lv_iconst (v := 1) hx hb dL_law_1213 (by decide) ?_
  refine lv_iadd hx hb dL_law_1214 ?_
  refine va_sld hx hb hX hbl hbA hw.2.2.2.1 hi1 dL_law_1215 ?_
  refine l_gYi hg (l_rY (As := [.int (xs (nI i + 1).toNatClampNeg)]) (rest := [.int v]) hC hg hw (ctY0_there e2) (cwV_g hC.2.2.2.2 ml_L_162 mi_X10_there md_X10_there ⟨Nat.le_of_ble_eq_true rfl, Nat.le_of_ble_eq_true rfl⟩) rfl hl.1 rfl (Nat.le_of_ble_eq_true rfl) dL_law_1216 ⟨Nat.le_of_ble_eq_true rfl, Nat.le_of_ble_eq_true rfl⟩) hw (fun H locs hw => ?_)
  refine lv_icmp_eq (tgt := 1274) hx hb dL_law_1219 (by decide) (fun _ => ?_) (fun q => absurd rfl q)
  exact kk _ _ _ _ hR' hw
set_option maxHeartbeats 4000000 in
set_option maxRecDepth 100000 in
theorem lc_finding (hC : CallFix p m c cL_law 4 s #[Value.ref b] lw_g RL) (hX : va_X b L xs s s.heap) (hbl : b < s.heap.size) (hg : lwG G1 G2 s) (op : op_finding N RR) {i : Nat} (hi : i + 6 ≤ L) (hL : L ≤ 3072) {S Y : St} (hR : RR S Y) {H : Heap} {locs : List Loc} {ls : Array Slot} (hw : lwW G1 G2 S Y s H locs) (hl : lv_has ls 4 [(0, .ref b), (1, .ref (ad G1 0)), (2, .ref (ad G2 0)), (3, .int (nI i))]) (kk : ∀ (S Y : St) (H : Heap) (locs : List Loc), RR S Y → lwW G1 G2 S Y s H locs → W p l e room_1 s m #[Value.ref b] below meth c H locs 82 22876 Q (F0 m 1274 ls [])) : W p l e room_1 s m #[Value.ref b] below meth c H locs 82 22876 Q (F0 m 1224 ls []) := by
  have hx := hC.1
  have hb := hC.2.1
  have hbA : ¬ (fun q : Nat => s.heap.size ≤ q) b := Nat.not_le.mpr hbl
  obtain ⟨v, e1, e2, hR'⟩ := op S Y  hR
  refine lv_aload_n hx hb dL_law_1224 rfl (lv_at hl 1 rfl) ?_
  refine l_gXi hg (l_rX (As := []) (rest := []) hC hg hw (ctX0_finding e1) (cwV_g hC.2.2.2.2 ml_L_163 mi_X9_finding md_X9_finding ⟨Nat.le_of_ble_eq_true rfl, Nat.le_of_ble_eq_true rfl⟩) rfl hl.1 rfl (Nat.le_of_ble_eq_true rfl) dL_law_1225 ⟨Nat.le_of_ble_eq_true rfl, Nat.le_of_ble_eq_true rfl⟩) hw (fun H locs hw => ?_)
  refine lv_aload_n hx hb dL_law_1228 rfl (lv_at hl 2 rfl) ?_
  refine l_gYi hg (l_rY (As := []) (rest := [.int v]) hC hg hw (ctY0_finding e2) (cwV_g hC.2.2.2.2 ml_L_166 mi_X10_finding md_X10_finding ⟨Nat.le_of_ble_eq_true rfl, Nat.le_of_ble_eq_true rfl⟩) rfl hl.1 rfl (Nat.le_of_ble_eq_true rfl) dL_law_1229 ⟨Nat.le_of_ble_eq_true rfl, Nat.le_of_ble_eq_true rfl⟩) hw (fun H locs hw => ?_)
  refine lv_icmp_eq (tgt := 1274) hx hb dL_law_1232 (by decide) (fun _ => ?_) (fun q => absurd rfl q)
  exact kk _ _ _ _ hR' hw
set_option maxHeartbeats 4000000 in
set_option maxRecDepth 100000 in
theorem lc_findings (hC : CallFix p m c cL_law 4 s #[Value.ref b] lw_g RL) (hX : va_X b L xs s s.heap) (hbl : b < s.heap.size) (hg : lwG G1 G2 s) (op : op_findings N RR) {i : Nat} (hi : i + 6 ≤ L) (hL : L ≤ 3072) {S Y : St} (hR : RR S Y) {H : Heap} {locs : List Loc} {ls : Array Slot} (hw : lwW G1 G2 S Y s H locs) (hl : lv_has ls 4 [(0, .ref b), (1, .ref (ad G1 0)), (2, .ref (ad G2 0)), (3, .int (nI i))]) (kk : ∀ (S Y : St) (H : Heap) (locs : List Loc), RR S Y → lwW G1 G2 S Y s H locs → W p l e room_1 s m #[Value.ref b] below meth c H locs 82 22876 Q (F0 m 1274 ls [])) : W p l e room_1 s m #[Value.ref b] below meth c H locs 82 22876 Q (F0 m 1237 ls []) := by
  have hx := hC.1
  have hb := hC.2.1
  have hbA : ¬ (fun q : Nat => s.heap.size ≤ q) b := Nat.not_le.mpr hbl
  have hi1 : vp_in (nI i + 1) L := by
    have e1 : nI i + 1 = nI (i + 1) := nI_add i 1
    rw [e1]
    exact vp_in_nI (by omega) (by omega)
  obtain ⟨v, e1, e2, hR'⟩ := op S Y (xs (nI i + 1).toNatClampNeg) hR
  refine lv_aload_n hx hb dL_law_1237 rfl (lv_at hl 1 rfl) ?_
  refine lv_aload_n hx hb dL_law_1238 rfl (lv_at hl 0 rfl) ?_
  refine lv_iload_n hx hb dL_law_1239 rfl (lv_at hl 3 rfl) ?_
  refine lv_iconst (v := 1) hx hb dL_law_1240 (by decide) ?_
  refine lv_iadd hx hb dL_law_1241 ?_
  refine va_sld hx hb hX hbl hbA hw.2.2.2.1 hi1 dL_law_1242 ?_
  refine l_gXi hg (l_rX (As := [.int (xs (nI i + 1).toNatClampNeg)]) (rest := []) hC hg hw (ctX0_findings e1) (cwV_g hC.2.2.2.2 ml_L_167 mi_X9_findings md_X9_findings ⟨Nat.le_of_ble_eq_true rfl, Nat.le_of_ble_eq_true rfl⟩) rfl hl.1 rfl (Nat.le_of_ble_eq_true rfl) dL_law_1243 ⟨Nat.le_of_ble_eq_true rfl, Nat.le_of_ble_eq_true rfl⟩) hw (fun H locs hw => ?_)
  refine lv_aload_n hx hb dL_law_1246 rfl (lv_at hl 2 rfl) ?_
  refine lv_aload_n hx hb dL_law_1247 rfl (lv_at hl 0 rfl) ?_
  refine lv_iload_n hx hb dL_law_1248 rfl (lv_at hl 3 rfl) ?_
  refine lv_iconst (v := 1) hx hb dL_law_1249 (by decide) ?_
  refine lv_iadd hx hb dL_law_1250 ?_
  refine va_sld hx hb hX hbl hbA hw.2.2.2.1 hi1 dL_law_1251 ?_
  refine l_gYi hg (l_rY (As := [.int (xs (nI i + 1).toNatClampNeg)]) (rest := [.int v]) hC hg hw (ctY0_findings e2) (cwV_g hC.2.2.2.2 ml_L_170 mi_X10_findings md_X10_findings ⟨Nat.le_of_ble_eq_true rfl, Nat.le_of_ble_eq_true rfl⟩) rfl hl.1 rfl (Nat.le_of_ble_eq_true rfl) dL_law_1252 ⟨Nat.le_of_ble_eq_true rfl, Nat.le_of_ble_eq_true rfl⟩) hw (fun H locs hw => ?_)
  refine lv_icmp_eq (tgt := 1274) hx hb dL_law_1255 (by decide) (fun _ => ?_) (fun q => absurd rfl q)
  exact kk _ _ _ _ hR' hw
set_option maxHeartbeats 4000000 in
set_option maxRecDepth 100000 in
theorem lc_digest (hC : CallFix p m c cL_law 4 s #[Value.ref b] lw_g RL) (hX : va_X b L xs s s.heap) (hbl : b < s.heap.size) (hg : lwG G1 G2 s) (op : op_digest N RR) {i : Nat} (hi : i + 6 ≤ L) (hL : L ≤ 3072) {S Y : St} (hR : RR S Y) {H : Heap} {locs : List Loc} {ls : Array Slot} (hw : lwW G1 G2 S Y s H locs) (hl : lv_has ls 4 [(0, .ref b), (1, .ref (ad G1 0)), (2, .ref (ad G2 0)), (3, .int (nI i))]) (kk : ∀ (S Y : St) (H : Heap) (locs : List Loc), RR S Y → lwW G1 G2 S Y s H locs → W p l e room_1 s m #[Value.ref b] below meth c H locs 82 22876 Q (F0 m 1274 ls [])) : W p l e room_1 s m #[Value.ref b] below meth c H locs 82 22876 Q (F0 m 1260 ls []) := by
  have hx := hC.1
  have hb := hC.2.1
  have hbA : ¬ (fun q : Nat => s.heap.size ≤ q) b := Nat.not_le.mpr hbl
  obtain ⟨v, S', Y', e1, e2, hR'⟩ := op S Y  hR
  refine lv_aload_n hx hb dL_law_1260 rfl (lv_at hl 1 rfl) ?_
  refine l_gXl hg (l_rX (As := []) (rest := []) hC hg hw (ctX0_digest e1) (cwV_g hC.2.2.2.2 ml_L_171 mi_X9_digest md_X9_digest ⟨Nat.le_of_ble_eq_true rfl, Nat.le_of_ble_eq_true rfl⟩) rfl hl.1 rfl (Nat.le_of_ble_eq_true rfl) dL_law_1261 ⟨Nat.le_of_ble_eq_true rfl, Nat.le_of_ble_eq_true rfl⟩) hw (fun H locs hw => ?_)
  refine lv_aload_n hx hb dL_law_1264 rfl (lv_at hl 2 rfl) ?_
  refine l_gYl hg (l_rY (As := []) (rest := [.long v]) hC hg hw (ctY0_digest e2) (cwV_g hC.2.2.2.2 ml_L_174 mi_X10_digest md_X10_digest ⟨Nat.le_of_ble_eq_true rfl, Nat.le_of_ble_eq_true rfl⟩) rfl hl.1 rfl (Nat.le_of_ble_eq_true rfl) dL_law_1265 ⟨Nat.le_of_ble_eq_true rfl, Nat.le_of_ble_eq_true rfl⟩) hw (fun H locs hw => ?_)
  refine W.lcmp hx hb dL_law_1268 ?_
  refine lv_if_eq (tgt := 1274) hx hb dL_law_1269 (by decide) (fun _ => ?_) (fun q => absurd (lg_cmp_self v) q)
  exact kk _ _ _ _ hR' hw
set_option maxHeartbeats 4000000 in
set_option maxRecDepth 100000 in
theorem law_loop (hC : CallFix p m c cL_law 4 s #[Value.ref b] lw_g RL) (hX : va_X b L xs s s.heap) (hbl : b < s.heap.size) (hg : lwG G1 G2 s) (ops : opsOK N RR) (hL : L ≤ 3072) (kx : ∀ (H : Heap) (locs : List Loc) (ls : Array Slot), va_S (fun q => s.heap.size ≤ q) s.heap H locs → W p l e room_1 s m #[Value.ref b] below meth c H locs 82 22876 Q (F0 m 1280 ls [])) : ∀ (n i : Nat), L < i + n → i ≤ L + 6 → ∀ (S Y : St), RR S Y → ∀ (H : Heap) (locs : List Loc) (ls : Array Slot), lwW G1 G2 S Y s H locs → lv_has ls 4 [(0, .ref b), (1, .ref (ad G1 0)), (2, .ref (ad G2 0)), (3, .int (nI i))] → W p l e room_1 s m #[Value.ref b] below meth c H locs 82 22876 Q (F0 m 18 ls [])
  | 0, i, hn, hi6, S, Y, hR, H, locs, ls, hw, hl => by
    have hx := hC.1
    have hb := hC.2.1
    have hbA : ¬ (fun q : Nat => s.heap.size ≤ q) b := Nat.not_le.mpr hbl
    have es : (Int32.ofNat L - 6).toInt = (L : Int) - 6 := pk_sub_toInt (a := L) (b := 6) (by omega) (by omega)
    have ei : (nI i).toInt = (i : Int) := nI_toInt (by omega)
    refine lv_iload_n hx hb dL_law_18 rfl (lv_at hl 3 rfl) ?_
    refine lv_aload_n hx hb dL_law_19 rfl (lv_at hl 0 rfl) ?_
    refine va_slen hx hb hX hbl hbA hw.2.2.2.1 dL_law_20 ?_
    refine lv_bipush (v := 6) hx hb dL_law_21 (by decide) ?_
    refine lv_isub hx hb dL_law_23 ?_
    refine lv_icmp_gt (tgt := 1280) hx hb dL_law_24 (by decide) (fun q => kx _ _ _ hw.2.2.2.1) (fun q => ?_)
    rw [Int32.lt_iff_toInt_lt, es, ei] at q
    omega
  | n + 1, i, hn, hi6, S, Y, hR, H, locs, ls, hw, hl => by
    have hx := hC.1
    have hb := hC.2.1
    have hbA : ¬ (fun q : Nat => s.heap.size ≤ q) b := Nat.not_le.mpr hbl
    have es : (Int32.ofNat L - 6).toInt = (L : Int) - 6 := pk_sub_toInt (a := L) (b := 6) (by omega) (by omega)
    have ei : (nI i).toInt = (i : Int) := nI_toInt (by omega)
    refine lv_iload_n hx hb dL_law_18 rfl (lv_at hl 3 rfl) ?_
    refine lv_aload_n hx hb dL_law_19 rfl (lv_at hl 0 rfl) ?_
    refine va_slen hx hb hX hbl hbA hw.2.2.2.1 dL_law_20 ?_
    refine lv_bipush (v := 6) hx hb dL_law_21 (by decide) ?_
    refine lv_isub hx hb dL_law_23 ?_
    refine lv_icmp_gt (tgt := 1280) hx hb dL_law_24 (by decide) (fun q => kx _ _ _ hw.2.2.2.1) (fun q => ?_)
    rw [Int32.lt_iff_toInt_lt, es, ei] at q
    have hi : i + 6 ≤ L := by omega
    have h0 : vp_in (nI i) L := vp_in_nI (by omega) (by omega)
    refine lv_aload_n hx hb dL_law_27 rfl (lv_at hl 0 rfl) ?_
    refine lv_iload_n hx hb dL_law_28 rfl (lv_at hl 3 rfl) ?_
    refine va_sld hx hb hX hbl hbA hw.2.2.2.1 h0 dL_law_29 ?_
    refine lv_bipush (v := 63) hx hb dL_law_30 (by decide) ?_
    refine lv_iand hx hb dL_law_32 ?_
    have kk : ∀ (S Y : St) (H : Heap) (locs : List Loc), RR S Y → lwW G1 G2 S Y s H locs → W p l e room_1 s m #[Value.ref b] below meth c H locs 82 22876 Q (F0 m 1274 ls []) := by
      intro S Y H locs hR hw
      refine lv_iinc (v := nI (i + 6)) (lv' := [(3, .int (nI (i + 6))), (0, .ref b), (1, .ref (ad G1 0)), (2, .ref (ad G2 0))]) (k := 3) hx hb dL_law_1274 hl rfl (nI_add i 6) (by decide) rfl (fun ls hl => ?_)
      refine lv_goto (tgt := 18) hx hb dL_law_1277 (by decide) ?_
      exact law_loop hC hX hbl hg ops hL kx n (i + 6) (by omega) (by omega) S Y hR H locs ls hw (lv_sub hl [1, 2, 3, 0] rfl)
    generalize xs (nI i).toNatClampNeg &&& 63 = x
    by_cases q0 : x = 0
    · rw [q0]
      refine lv_tableIn (off := 171) (tgt := 204) hx hb dL_law_33 (by decide) (by decide) rfl (by decide) ?_
      exact lc_row hC hX hbl hg ops.1 hi hL hR hw hl kk
    by_cases q1 : x = 1
    · rw [q1]
      refine lv_tableIn (off := 204) (tgt := 237) hx hb dL_law_33 (by decide) (by decide) rfl (by decide) ?_
      exact lc_lay hC hX hbl hg ops.2.1 hi hL hR hw hl kk
    by_cases q2 : x = 2
    · rw [q2]
      refine lv_tableIn (off := 247) (tgt := 280) hx hb dL_law_33 (by decide) (by decide) rfl (by decide) ?_
      exact lc_at hC hX hbl hg ops.2.2.1 hi hL hR hw hl kk
    by_cases q3 : x = 3
    · rw [q3]
      refine lv_tableIn (off := 280) (tgt := 313) hx hb dL_law_33 (by decide) (by decide) rfl (by decide) ?_
      exact lc_tear hC hX hbl hg ops.2.2.2.1 hi hL hR hw hl kk
    by_cases q4 : x = 4
    · rw [q4]
      refine lv_tableIn (off := 303) (tgt := 336) hx hb dL_law_33 (by decide) (by decide) rfl (by decide) ?_
      exact lc_copy hC hX hbl hg ops.2.2.2.2.1 hi hL hR hw hl kk
    by_cases q5 : x = 5
    · rw [q5]
      refine lv_tableIn (off := 366) (tgt := 399) hx hb dL_law_33 (by decide) (by decide) rfl (by decide) ?_
      exact lc_mean hC hX hbl hg ops.2.2.2.2.2.1 hi hL hR hw hl kk
    by_cases q6 : x = 6
    · rw [q6]
      refine lv_tableIn (off := 389) (tgt := 422) hx hb dL_law_33 (by decide) (by decide) rfl (by decide) ?_
      exact lc_text hC hX hbl hg ops.2.2.2.2.2.2.1 hi hL hR hw hl kk
    by_cases q7 : x = 7
    · rw [q7]
      refine lv_tableIn (off := 422) (tgt := 455) hx hb dL_law_33 (by decide) (by decide) rfl (by decide) ?_
      exact lc_put hC hX hbl hg ops.2.2.2.2.2.2.2.1 hi hL hR hw hl kk
    by_cases q8 : x = 8
    · rw [q8]
      refine lv_tableIn (off := 465) (tgt := 498) hx hb dL_law_33 (by decide) (by decide) rfl (by decide) ?_
      exact lc_fault hC hX hbl hg ops.2.2.2.2.2.2.2.2.1 hi hL hR hw hl kk
    by_cases q9 : x = 9
    · rw [q9]
      refine lv_tableIn (off := 488) (tgt := 521) hx hb dL_law_33 (by decide) (by decide) rfl (by decide) ?_
      exact lc_book hC hX hbl hg ops.2.2.2.2.2.2.2.2.2.1 hi hL hR hw hl kk
    by_cases q10 : x = 10
    · rw [q10]
      refine lv_tableIn (off := 511) (tgt := 544) hx hb dL_law_33 (by decide) (by decide) rfl (by decide) ?_
      exact lc_sum hC hX hbl hg ops.2.2.2.2.2.2.2.2.2.2.1 hi hL hR hw hl kk
    by_cases q11 : x = 11
    · rw [q11]
      refine lv_tableIn (off := 554) (tgt := 587) hx hb dL_law_33 (by decide) (by decide) rfl (by decide) ?_
      exact lc_total hC hX hbl hg ops.2.2.2.2.2.2.2.2.2.2.2.1 hi hL hR hw hl kk
    by_cases q12 : x = 12
    · rw [q12]
      refine lv_tableIn (off := 587) (tgt := 620) hx hb dL_law_33 (by decide) (by decide) rfl (by decide) ?_
      exact lc_clear hC hX hbl hg ops.2.2.2.2.2.2.2.2.2.2.2.2.1 hi hL hR hw hl kk
    by_cases q13 : x = 13
    · rw [q13]
      refine lv_tableIn (off := 600) (tgt := 633) hx hb dL_law_33 (by decide) (by decide) rfl (by decide) ?_
      exact lc_heap hC hX hbl hg ops.2.2.2.2.2.2.2.2.2.2.2.2.2.1 hi hL hR hw hl kk
    by_cases q14 : x = 14
    · rw [q14]
      refine lv_tableIn (off := 623) (tgt := 656) hx hb dL_law_33 (by decide) (by decide) rfl (by decide) ?_
      exact lc_read hC hX hbl hg ops.2.2.2.2.2.2.2.2.2.2.2.2.2.2.1 hi hL hR hw hl kk
    by_cases q15 : x = 15
    · rw [q15]
      refine lv_tableIn (off := 656) (tgt := 689) hx hb dL_law_33 (by decide) (by decide) rfl (by decide) ?_
      exact lc_kind hC hX hbl hg ops.2.2.2.2.2.2.2.2.2.2.2.2.2.2.2.1 hi hL hR hw hl kk
    by_cases q16 : x = 16
    · rw [q16]
      refine lv_tableIn (off := 679) (tgt := 712) hx hb dL_law_33 (by decide) (by decide) rfl (by decide) ?_
      exact lc_mark hC hX hbl hg ops.2.2.2.2.2.2.2.2.2.2.2.2.2.2.2.2.1 hi hL hR hw hl kk
    by_cases q17 : x = 17
    · rw [q17]
      refine lv_tableIn (off := 712) (tgt := 745) hx hb dL_law_33 (by decide) (by decide) rfl (by decide) ?_
      exact lc_left hC hX hbl hg ops.2.2.2.2.2.2.2.2.2.2.2.2.2.2.2.2.2.1 hi hL hR hw hl kk
    by_cases q18 : x = 18
    · rw [q18]
      refine lv_tableIn (off := 745) (tgt := 778) hx hb dL_law_33 (by decide) (by decide) rfl (by decide) ?_
      exact lc_ends hC hX hbl hg ops.2.2.2.2.2.2.2.2.2.2.2.2.2.2.2.2.2.2.1 hi hL hR hw hl kk
    by_cases q19 : x = 19
    · rw [q19]
      refine lv_tableIn (off := 768) (tgt := 801) hx hb dL_law_33 (by decide) (by decide) rfl (by decide) ?_
      exact lc_may hC hX hbl hg ops.2.2.2.2.2.2.2.2.2.2.2.2.2.2.2.2.2.2.2.1 hi hL hR hw hl kk
    by_cases q20 : x = 20
    · rw [q20]
      refine lv_tableIn (off := 801) (tgt := 834) hx hb dL_law_33 (by decide) (by decide) rfl (by decide) ?_
      exact lc_burnt hC hX hbl hg ops.2.2.2.2.2.2.2.2.2.2.2.2.2.2.2.2.2.2.2.2.1 hi hL hR hw hl kk
    by_cases q21 : x = 21
    · rw [q21]
      refine lv_tableIn (off := 814) (tgt := 847) hx hb dL_law_33 (by decide) (by decide) rfl (by decide) ?_
      exact lc_count hC hX hbl hg ops.2.2.2.2.2.2.2.2.2.2.2.2.2.2.2.2.2.2.2.2.2.1 hi hL hR hw hl kk
    by_cases q22 : x = 22
    · rw [q22]
      refine lv_tableIn (off := 837) (tgt := 870) hx hb dL_law_33 (by decide) (by decide) rfl (by decide) ?_
      exact lc_fill hC hX hbl hg ops.2.2.2.2.2.2.2.2.2.2.2.2.2.2.2.2.2.2.2.2.2.2.1 hi hL hR hw hl kk
    by_cases q23 : x = 23
    · rw [q23]
      refine lv_tableIn (off := 880) (tgt := 913) hx hb dL_law_33 (by decide) (by decide) rfl (by decide) ?_
      exact lc_could hC hX hbl hg ops.2.2.2.2.2.2.2.2.2.2.2.2.2.2.2.2.2.2.2.2.2.2.2.1 hi hL hR hw hl kk
    by_cases q24 : x = 24
    · rw [q24]
      refine lv_tableIn (off := 923) (tgt := 956) hx hb dL_law_33 (by decide) (by decide) rfl (by decide) ?_
      exact lc_must hC hX hbl hg ops.2.2.2.2.2.2.2.2.2.2.2.2.2.2.2.2.2.2.2.2.2.2.2.2.1 hi hL hR hw hl kk
    by_cases q25 : x = 25
    · rw [q25]
      refine lv_tableIn (off := 956) (tgt := 989) hx hb dL_law_33 (by decide) (by decide) rfl (by decide) ?_
      exact lc_sure hC hX hbl hg ops.2.2.2.2.2.2.2.2.2.2.2.2.2.2.2.2.2.2.2.2.2.2.2.2.2.1 hi hL hR hw hl kk
    by_cases q26 : x = 26
    · rw [q26]
      refine lv_tableIn (off := 979) (tgt := 1012) hx hb dL_law_33 (by decide) (by decide) rfl (by decide) ?_
      exact lc_like hC hX hbl hg ops.2.2.2.2.2.2.2.2.2.2.2.2.2.2.2.2.2.2.2.2.2.2.2.2.2.2.1 hi hL hR hw hl kk
    by_cases q27 : x = 27
    · rw [q27]
      refine lv_tableIn (off := 1022) (tgt := 1055) hx hb dL_law_33 (by decide) (by decide) rfl (by decide) ?_
      exact lc_wrong hC hX hbl hg ops.2.2.2.2.2.2.2.2.2.2.2.2.2.2.2.2.2.2.2.2.2.2.2.2.2.2.2.1 hi hL hR hw hl kk
    by_cases q28 : x = 28
    · rw [q28]
      refine lv_tableIn (off := 1045) (tgt := 1078) hx hb dL_law_33 (by decide) (by decide) rfl (by decide) ?_
      exact lc_next hC hX hbl hg ops.2.2.2.2.2.2.2.2.2.2.2.2.2.2.2.2.2.2.2.2.2.2.2.2.2.2.2.2.1 hi hL hR hw hl kk
    by_cases q29 : x = 29
    · rw [q29]
      refine lv_tableIn (off := 1068) (tgt := 1101) hx hb dL_law_33 (by decide) (by decide) rfl (by decide) ?_
      exact lc_judge hC hX hbl hg ops.2.2.2.2.2.2.2.2.2.2.2.2.2.2.2.2.2.2.2.2.2.2.2.2.2.2.2.2.2.1 hi hL hR hw hl kk
    by_cases q30 : x = 30
    · rw [q30]
      refine lv_tableIn (off := 1091) (tgt := 1124) hx hb dL_law_33 (by decide) (by decide) rfl (by decide) ?_
      exact lc_orders hC hX hbl hg ops.2.2.2.2.2.2.2.2.2.2.2.2.2.2.2.2.2.2.2.2.2.2.2.2.2.2.2.2.2.2.1 hi hL hR hw hl kk
    by_cases q31 : x = 31
    · rw [q31]
      refine lv_tableIn (off := 1114) (tgt := 1147) hx hb dL_law_33 (by decide) (by decide) rfl (by decide) ?_
      exact lc_matches hC hX hbl hg ops.2.2.2.2.2.2.2.2.2.2.2.2.2.2.2.2.2.2.2.2.2.2.2.2.2.2.2.2.2.2.2.1 hi hL hR hw hl kk
    by_cases q32 : x = 32
    · rw [q32]
      refine lv_tableIn (off := 1127) (tgt := 1160) hx hb dL_law_33 (by decide) (by decide) rfl (by decide) ?_
      exact lc_asked hC hX hbl hg ops.2.2.2.2.2.2.2.2.2.2.2.2.2.2.2.2.2.2.2.2.2.2.2.2.2.2.2.2.2.2.2.2.1 hi hL hR hw hl kk
    by_cases q33 : x = 33
    · rw [q33]
      refine lv_tableIn (off := 1140) (tgt := 1173) hx hb dL_law_33 (by decide) (by decide) rfl (by decide) ?_
      exact lc_upper hC hX hbl hg ops.2.2.2.2.2.2.2.2.2.2.2.2.2.2.2.2.2.2.2.2.2.2.2.2.2.2.2.2.2.2.2.2.2.1 hi hL hR hw hl kk
    by_cases q34 : x = 34
    · rw [q34]
      refine lv_tableIn (off := 1154) (tgt := 1187) hx hb dL_law_33 (by decide) (by decide) rfl (by decide) ?_
      exact lc_lower hC hX hbl hg ops.2.2.2.2.2.2.2.2.2.2.2.2.2.2.2.2.2.2.2.2.2.2.2.2.2.2.2.2.2.2.2.2.2.2.1 hi hL hR hw hl kk
    by_cases q35 : x = 35
    · rw [q35]
      refine lv_tableIn (off := 1168) (tgt := 1201) hx hb dL_law_33 (by decide) (by decide) rfl (by decide) ?_
      exact lc_there hC hX hbl hg ops.2.2.2.2.2.2.2.2.2.2.2.2.2.2.2.2.2.2.2.2.2.2.2.2.2.2.2.2.2.2.2.2.2.2.2.1 hi hL hR hw hl kk
    by_cases q36 : x = 36
    · rw [q36]
      refine lv_tableIn (off := 1191) (tgt := 1224) hx hb dL_law_33 (by decide) (by decide) rfl (by decide) ?_
      exact lc_finding hC hX hbl hg ops.2.2.2.2.2.2.2.2.2.2.2.2.2.2.2.2.2.2.2.2.2.2.2.2.2.2.2.2.2.2.2.2.2.2.2.2.1 hi hL hR hw hl kk
    by_cases q37 : x = 37
    · rw [q37]
      refine lv_tableIn (off := 1204) (tgt := 1237) hx hb dL_law_33 (by decide) (by decide) rfl (by decide) ?_
      exact lc_findings hC hX hbl hg ops.2.2.2.2.2.2.2.2.2.2.2.2.2.2.2.2.2.2.2.2.2.2.2.2.2.2.2.2.2.2.2.2.2.2.2.2.2.1 hi hL hR hw hl kk
    by_cases q38 : x = 38
    · rw [q38]
      refine lv_tableIn (off := 1227) (tgt := 1260) hx hb dL_law_33 (by decide) (by decide) rfl (by decide) ?_
      exact lc_digest hC hX hbl hg ops.2.2.2.2.2.2.2.2.2.2.2.2.2.2.2.2.2.2.2.2.2.2.2.2.2.2.2.2.2.2.2.2.2.2.2.2.2.2 hi hL hR hw hl kk
    have r0 := lv_neT (a := 0) q0 (by decide)
    have r1 := lv_neT (a := 1) q1 (by decide)
    have r2 := lv_neT (a := 2) q2 (by decide)
    have r3 := lv_neT (a := 3) q3 (by decide)
    have r4 := lv_neT (a := 4) q4 (by decide)
    have r5 := lv_neT (a := 5) q5 (by decide)
    have r6 := lv_neT (a := 6) q6 (by decide)
    have r7 := lv_neT (a := 7) q7 (by decide)
    have r8 := lv_neT (a := 8) q8 (by decide)
    have r9 := lv_neT (a := 9) q9 (by decide)
    have r10 := lv_neT (a := 10) q10 (by decide)
    have r11 := lv_neT (a := 11) q11 (by decide)
    have r12 := lv_neT (a := 12) q12 (by decide)
    have r13 := lv_neT (a := 13) q13 (by decide)
    have r14 := lv_neT (a := 14) q14 (by decide)
    have r15 := lv_neT (a := 15) q15 (by decide)
    have r16 := lv_neT (a := 16) q16 (by decide)
    have r17 := lv_neT (a := 17) q17 (by decide)
    have r18 := lv_neT (a := 18) q18 (by decide)
    have r19 := lv_neT (a := 19) q19 (by decide)
    have r20 := lv_neT (a := 20) q20 (by decide)
    have r21 := lv_neT (a := 21) q21 (by decide)
    have r22 := lv_neT (a := 22) q22 (by decide)
    have r23 := lv_neT (a := 23) q23 (by decide)
    have r24 := lv_neT (a := 24) q24 (by decide)
    have r25 := lv_neT (a := 25) q25 (by decide)
    have r26 := lv_neT (a := 26) q26 (by decide)
    have r27 := lv_neT (a := 27) q27 (by decide)
    have r28 := lv_neT (a := 28) q28 (by decide)
    have r29 := lv_neT (a := 29) q29 (by decide)
    have r30 := lv_neT (a := 30) q30 (by decide)
    have r31 := lv_neT (a := 31) q31 (by decide)
    have r32 := lv_neT (a := 32) q32 (by decide)
    have r33 := lv_neT (a := 33) q33 (by decide)
    have r34 := lv_neT (a := 34) q34 (by decide)
    have r35 := lv_neT (a := 35) q35 (by decide)
    have r36 := lv_neT (a := 36) q36 (by decide)
    have r37 := lv_neT (a := 37) q37 (by decide)
    have r38 := lv_neT (a := 38) q38 (by decide)
    refine lv_tableOut (tgt := 1274) hx hb dL_law_33 (by omega) (by decide) ?_
    exact kk S Y H locs hR hw
end LL
