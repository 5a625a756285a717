/-! The thin layer: a world is a layout (how many cells, what each is) over a state of numbers; rows of the kit said for such worlds. -/
/-- the words of the tables that a callee may be given -/
def lw_g : List Cond := lw_tbl.filter goodWord
abbrev St : Type := (Nat → Nat → Int32) × (Nat → Nat → Int64)
abbrev GG : Type := va_G × (ClassId × ClassId × ClassId) × (Nat → Nat) × (Nat → Prop)
abbrev Lay : Type := Nat × (GG → Nat → (Nat → Int32) → (Nat → Int64) → va_E)
def ad (G : GG) (k : Nat) : Nat := G.2.2.1 k
def p1 (S : St) (k i : Nat) (v : Int32) : St := (fun a => if a = k then upd (S.1 k) i v else S.1 a, S.2)
def p2 (S : St) (k i : Nat) (v : Int64) : St := (S.1, fun a => if a = k then vp_updL (S.2 k) i v else S.2 a)
/-- a stretch of an array copied, as arraycopy does it -/
def pcp (S : St) (k1 k2 sp dp n : Nat) : St := (fun a => if a = k2 then va_cpy (S.1 k1) (S.1 k2) sp dp n else S.1 a, S.2)
def inb (i : Int32) (n : Nat) : Bool := !(decide (i < 0)) && decide (i.toNatClampNeg < n)
def isb (v : Int32) : Bool := decide (v = 0) || decide (v = 1)
def gd {α : Type} (b : Bool) (k : Option α) : Option α := if b = true then k else none
/-- behind a loop that may have returned -/
def sm {R T : Type} (x : R ⊕ T) (k : T → Option R) : Option R := match x with
  | .inl r => some r
  | .inr t => k t
theorem gd_some {α : Type} {b : Bool} {k : Option α} {x : α} (h : gd b k = some x) : b = true ∧ k = some x := by
  unfold gd at h
  by_cases hb : b = true
  · rw [if_pos hb] at h; exact ⟨hb, h⟩
  · rw [if_neg hb] at h; cases h
theorem bd {α β : Type} {x : Option α} {f : α → Option β} {y : β} (h : Option.bind x f = some y) : ∃ a, x = some a ∧ f a = some y := by
  cases x with
  | none => cases h
  | some a => exact ⟨a, rfl, h⟩
theorem it_p {c : Prop} {d : Decidable c} {α : Type} {a b x : α} (hc : c) (h : @ite α c d a b = x) : a = x := by
  rw [if_pos hc] at h; exact h
theorem it_n {c : Prop} {d : Decidable c} {α : Type} {a b x : α} (hc : ¬ c) (h : @ite α c d a b = x) : b = x := by
  rw [if_neg hc] at h; exact h
theorem inb_in {i : Int32} {n : Nat} (h : inb i n = true) : vp_in i n := by
  unfold inb at h
  simp only [Bool.and_eq_true, Bool.not_eq_true', decide_eq_false_iff_not, decide_eq_true_eq] at h
  intro q
  rcases q with q | q
  · exact h.1 q
  · omega
theorem inb_lt {i : Int32} {n : Nat} (h : inb i n = true) : i.toNatClampNeg < n := by
  unfold inb at h
  simp only [Bool.and_eq_true, decide_eq_true_eq] at h
  exact h.2
theorem inb_nn {i : Int32} {n : Nat} (h : inb i n = true) : ¬ i < 0 := fun q => inb_in h (Or.inl q)
theorem isb_or {v : Int32} (h : isb v = true) : v = 0 ∨ v = 1 := by
  unfold isb at h
  simp only [Bool.or_eq_true, decide_eq_true_eq] at h
  exact h
theorem isb_narrow {v : Int32} (h : isb v = true) : narrow .boolean (.int v) = .int v := by
  rcases isb_or h with rfl | rfl <;> rfl
theorem isb_fits {v : Int32} (h : isb v = true) : fits .boolean (.int v) = true := by
  rcases isb_or h with rfl | rfl <;> rfl
theorem isb_nar {v : Int32} (h : isb v = true) : vp_nar .boolean v = v := by
  rcases isb_or h with rfl | rfl <;> rfl
def tyG (G : GG) : List (ClassId × FieldType) := [(G.2.1.1, .int), (G.2.1.2.1, .boolean), (G.2.1.2.2, .array .int)]
def Wg (L : Lay) (G : GG) (S : St) : va_W := (List.range L.1).map (fun i => (ad G i, L.2 G i (S.1 i) (S.2 i)))
/-- the two calls of a nest mate's private method that the methods make -/
def nw (U : State) : Prop := va_Nw (.methodLinkNest RX5 81 yX9_isCell "BurntLedger") U ∧ va_Nw (.methodLinkNest RX0 65 yX9_isNumber "BurntLedger") U
theorem nw.warm {s U : State} (hW : s.WarmedH U.vm) (h : nw s) : nw U := ⟨va_Nw.warmM hW h.1, va_Nw.warmM hW h.2⟩
theorem nw.same {u U : State} (e : u.vm = U.vm) (h : nw u) : nw U := ⟨va_Nw.same rfl e h.1, va_Nw.same rfl e h.2⟩
def wg0 (L : Lay) (G : GG) (S : St) (U : State) : Prop := va_P G.1 vwCl (Wg L G S) U.heap ∧ va_K G.1 vwCl (tyG G) U ∧ va_D G.2.2.2 (Wg L G S) ∧ nw U
def wg (L : Lay) (G : GG) (S : St) (s : State) (H : Heap) (locs : List Loc) : Prop := va_P G.1 vwCl (Wg L G S) H ∧ va_K G.1 vwCl (tyG G) s ∧ va_D G.2.2.2 (Wg L G S) ∧ va_S G.2.2.2 s.heap H locs ∧ nw s
theorem Wg_get {L : Lay} {G : GG} {S : St} {k : Nat} (hk : k < L.1) : (Wg L G S)[k]? = some (ad G k, L.2 G k (S.1 k) (S.2 k)) := by
  unfold Wg
  rw [List.getElem?_map, List.getElem?_range hk]
  rfl
theorem Wg_set {L : Lay} {G : GG} {S S' : St} {k : Nat} {e : va_E} (h1 : ∀ j, j ≠ k → S'.1 j = S.1 j ∧ S'.2 j = S.2 j) (h2 : L.2 G k (S'.1 k) (S'.2 k) = e) : (Wg L G S).set k (ad G k, e) = Wg L G S' := by
  apply List.ext_getElem?
  intro j
  by_cases hl : j < L.1
  · by_cases hj : j = k
    · subst hj
      rw [List.getElem?_set_self (by unfold Wg; rw [List.length_map, List.length_range]; exact hl), Wg_get hl, h2]
    · rw [List.getElem?_set_ne (fun q => hj q.symm), Wg_get hl, Wg_get hl, (h1 j hj).1, (h1 j hj).2]
  · rw [List.getElem?_eq_none, List.getElem?_eq_none]
    · unfold Wg; rw [List.length_map, List.length_range]; omega
    · unfold Wg; rw [List.length_set, List.length_map, List.length_range]; omega
theorem p1_other {S : St} {k i : Nat} {v : Int32} : ∀ j, j ≠ k → (p1 S k i v).1 j = S.1 j ∧ (p1 S k i v).2 j = S.2 j := fun j hj => ⟨if_neg hj, rfl⟩
theorem p1_self {S : St} {k i : Nat} {v : Int32} : (p1 S k i v).1 k = upd (S.1 k) i v := if_pos rfl
theorem p2_other {S : St} {k i : Nat} {v : Int64} : ∀ j, j ≠ k → (p2 S k i v).1 j = S.1 j ∧ (p2 S k i v).2 j = S.2 j := fun j hj => ⟨rfl, if_neg hj⟩
theorem p2_self {S : St} {k i : Nat} {v : Int64} : (p2 S k i v).2 k = vp_updL (S.2 k) i v := if_pos rfl
/-- the cell k is an int array of n places; a boolean array of n places -/
def isA (L : Lay) (k n : Nat) : Prop := k < L.1 ∧ ∀ (G : GG) (f : Nat → Int32) (h : Nat → Int64), L.2 G k f h = .inl (G.2.1.1, n, .inl f)
def isZ (L : Lay) (k n : Nat) : Prop := k < L.1 ∧ ∀ (G : GG) (f : Nat → Int32) (h : Nat → Int64), L.2 G k f h = .inl (G.2.1.2.1, n, .inl f)
/-- the cell k is an array of n references, to the cells b, b + 1 .. -/
def isO (L : Lay) (k n b : Nat) : Prop := k < L.1 ∧ ∀ (G : GG) (f : Nat → Int32) (h : Nat → Int64), L.2 G k f h = .inl (G.2.1.2.2, n, .inr (.inr (.inr (.inr (fun j => some (ad G (b + j)))))))
theorem wg0_blind {L : Lay} {G : GG} {S : St} {av : List Value} : FrameBlind (va_Pc av (fun U => wg0 L G S U)) := fun a U g mk q => by
  obtain ⟨q0, qP, qK, qD, qN⟩ := q
  exact ⟨q0, qP, va_K.moved (u := U) (U := U.calling g mk a) (Vm.Alike.refl U.vm) qK, qD, qN.same rfl⟩
abbrev rmx (f l : Nat) : Room := { frames := f, cells := 0, slots := 0, locals := l }
section XB
variable {p : Program} {l : Launch} {e : Env} {R : Room} {s : State} {m : MethodId} {args : Array Value} {below : List Frame} {meth : Method} {c : Code} {H : Heap} {locs : List Loc} {cells slots : Nat} {Q : State → Prop}
variable {cc : ByteArray} {pc nL : Nat} {ls : Array Slot} {rest : List Value} {L : Lay} {G : GG} {S S' : St} {own : String}
theorem x_getv (hC : CallFix p m c cc nL s args lw_g own) (hw : wg L G S s H locs) {k ci j N index : Nat} {C : String} {T : u_T} {fs : List Value} {v : Value} (hk : k < L.1) (he : L.2 G k (S.1 k) (S.2 k) = .inr (ci, fs)) (hc : vwCl[ci]? = some (C, T, N)) (hin : ∀ w ∈ u_ws C T N, w ∈ lw_g) (hj : j < N) (hlink : Cond.fieldLink own index (T j).1 (T j).2.1 (T j).2.2.1 ∈ lw_g) (hv : fs[j]? = some v) (hdg : decode cc pc = .ok (.getfield index, 3))
    (kk : W p l e R s m args below meth c H locs cells slots Q (F0 m (pc + 3) ls (v :: rest))) : W p l e R s m args below meth c H locs cells slots Q (F0 m pc ls (.ref (ad G k) :: rest)) :=
  va_get hC.1 hC.2.1 hC.2.2.2.2 hin hC.2.2.2.1 hw.2.1 hw.1 k (by rw [Wg_get hk, he]) hc j hj (hC.2.2.2.2 _ hlink) (fun _ h => h) hv hdg kk
theorem x_putv (hC : CallFix p m c cc nL s args lw_g own) (hw : wg L G S s H locs) {k ci j N index : Nat} {C : String} {T : u_T} {fs : List Value} {v : Value} {ty : FieldType} (hk : k < L.1) (he : L.2 G k (S.1 k) (S.2 k) = .inr (ci, fs)) (hc : vwCl[ci]? = some (C, T, N)) (hin : ∀ w ∈ u_ws C T N, w ∈ lw_g) (ty0 : Nat → FieldType) (hty : ∀ k, k < N → parseFieldDescriptor (T k).2.2.1 = some (ty0 k)) (hnm : ∀ a, a < N → ∀ b, b < N → a ≠ b → (T a).2.1 ≠ (T b).2.1) (hj : j < N) (hlink : Cond.fieldLink own index (T j).1 (T j).2.1 (T j).2.2.1 ∈ lw_g) (hfin : (T j).2.2.2 = false) (hd : parseFieldDescriptor (T j).2.2.1 = some ty) (hn : narrow ty v = v) (hfit : fits ty v = true) (hl : j < fs.length)
    (h1 : ∀ q, q ≠ k → S'.1 q = S.1 q ∧ S'.2 q = S.2 q) (he2 : L.2 G k (S'.1 k) (S'.2 k) = .inr (ci, fs.set j v)) (hdg : decode cc pc = .ok (.putfield index, 3))
    (kk : ∀ (H : Heap) (locs : List Loc), wg L G S' s H locs → W p l e R s m args below meth c H locs cells slots Q (F0 m (pc + 3) ls rest)) : W p l e R s m args below meth c H locs cells slots Q (F0 m pc ls (v :: .ref (ad G k) :: rest)) := by
  refine va_put hC.1 hC.2.1 hC.2.2.2.2 hin ty0 hty hnm hC.2.2.2.1 hw.2.1 hw.1 hw.2.2.1 hw.2.2.2.1 k (by rw [Wg_get hk, he]) hc j hj (hC.2.2.2.2 _ hlink) (fun _ h => h) hfin hd hn hfit hl hdg (fun H1 locs1 hP hD hS => ?_)
  rw [Wg_set h1 he2] at hP hD
  exact kk H1 locs1 ⟨hP, hw.2.1, hD, hS, hw.2.2.2.2⟩
theorem x_iald (hC : CallFix p m c cc nL s args lw_g own) (hw : wg L G S s H locs) {k n : Nat} {i : Int32} (ha : isA L k n) (hi : inb i n = true) (hdg : decode cc pc = .ok (.iaload, 1))
    (kk : W p l e R s m args below meth c H locs cells slots Q (F0 m (pc + 1) ls (.int (S.1 k i.toNatClampNeg) :: rest))) : W p l e R s m args below meth c H locs cells slots Q (F0 m pc ls (.int i :: .ref (ad G k) :: rest)) :=
  va_iald hC.1 hC.2.1 hw.2.1 hw.1 k 0 (by rw [Wg_get ha.1, ha.2]) rfl (inb_in hi) hdg kk
theorem x_zald (hC : CallFix p m c cc nL s args lw_g own) (hw : wg L G S s H locs) {k n : Nat} {i : Int32} (ha : isZ L k n) (hi : inb i n = true) (hdg : decode cc pc = .ok (.baload, 1))
    (kk : W p l e R s m args below meth c H locs cells slots Q (F0 m (pc + 1) ls (.int (S.1 k i.toNatClampNeg) :: rest))) : W p l e R s m args below meth c H locs cells slots Q (F0 m pc ls (.int i :: .ref (ad G k) :: rest)) :=
  va_zald hC.1 hC.2.1 hw.2.1 hw.1 k 1 (by rw [Wg_get ha.1, ha.2]) rfl (inb_in hi) hdg kk
theorem x_iast (hC : CallFix p m c cc nL s args lw_g own) (hw : wg L G S s H locs) {k n : Nat} {i x : Int32} (ha : isA L k n) (hi : inb i n = true) (hdg : decode cc pc = .ok (.iastore, 1))
    (kk : ∀ (H : Heap) (locs : List Loc), wg L G (p1 S k i.toNatClampNeg x) s H locs → W p l e R s m args below meth c H locs cells slots Q (F0 m (pc + 1) ls rest)) : W p l e R s m args below meth c H locs cells slots Q (F0 m pc ls (.int x :: .int i :: .ref (ad G k) :: rest)) := by
  refine va_iast hC.1 hC.2.1 hw.2.1 hw.1 hw.2.2.1 hw.2.2.2.1 k 0 (by rw [Wg_get ha.1, ha.2]) rfl (inb_in hi) hdg (fun H1 locs1 hP hD hS => ?_)
  rw [Wg_set (S' := p1 S k i.toNatClampNeg x) p1_other (by rw [p1_self, ha.2])] at hP hD
  exact kk H1 locs1 ⟨hP, hw.2.1, hD, hS, hw.2.2.2.2⟩
theorem x_zast (hC : CallFix p m c cc nL s args lw_g own) (hw : wg L G S s H locs) {k n : Nat} {i x : Int32} (ha : isZ L k n) (hi : inb i n = true) (hx : isb x = true) (hdg : decode cc pc = .ok (.bastore, 1))
    (kk : ∀ (H : Heap) (locs : List Loc), wg L G (p1 S k i.toNatClampNeg x) s H locs → W p l e R s m args below meth c H locs cells slots Q (F0 m (pc + 1) ls rest)) : W p l e R s m args below meth c H locs cells slots Q (F0 m pc ls (.int x :: .int i :: .ref (ad G k) :: rest)) := by
  refine va_zast hC.1 hC.2.1 hw.2.1 hw.1 hw.2.2.1 hw.2.2.2.1 k 1 (by rw [Wg_get ha.1, ha.2]) rfl (inb_in hi) hdg (fun H1 locs1 hP hD hS => ?_)
  rw [isb_nar hx, Wg_set (S' := p1 S k i.toNatClampNeg x) p1_other (by rw [p1_self, ha.2])] at hP hD
  exact kk H1 locs1 ⟨hP, hw.2.1, hD, hS, hw.2.2.2.2⟩
theorem x_alen (hC : CallFix p m c cc nL s args lw_g own) (hw : wg L G S s H locs) {k n : Nat} {v : Int32} (ha : isA L k n) (hv : Int32.ofNat n = v) (hdg : decode cc pc = .ok (.arraylength, 1))
    (kk : W p l e R s m args below meth c H locs cells slots Q (F0 m (pc + 1) ls (.int v :: rest))) : W p l e R s m args below meth c H locs cells slots Q (F0 m pc ls (.ref (ad G k) :: rest)) :=
  va_alen hC.1 hC.2.1 hw.2.1 hw.1 k 0 (by rw [Wg_get ha.1, ha.2]) rfl hv hdg kk
theorem x_aald (hC : CallFix p m c cc nL s args lw_g own) (hw : wg L G S s H locs) {k n b : Nat} {i : Int32} (ha : isO L k n b) (hi : inb i n = true) (hdg : decode cc pc = .ok (.aaload, 1))
    (kk : W p l e R s m args below meth c H locs cells slots Q (F0 m (pc + 1) ls (.ref (ad G (b + i.toNatClampNeg)) :: rest))) : W p l e R s m args below meth c H locs cells slots Q (F0 m pc ls (.int i :: .ref (ad G k) :: rest)) := by
  have hlt := inb_lt hi
  have hin := inb_in hi
  have hcell := hw.1 k _ (by rw [Wg_get ha.1, ha.2])
  exact W.aald (v := .ref (ad G (b + i.toNatClampNeg))) (ty := .array .int) hC.1 hC.2.1 hcell ((hw.2.1.2 2 _ rfl).1 n (fun j => va_rf (some (ad G (b + j))))) rfl (fun q => by cases q) (by show ¬ (i < 0 ∨ (arrV _ _ _).slots.size ≤ _); rw [arrV_size]; exact hin) (by show (arrV _ _ _).slots[_]? = _; rw [arrV_read _ _ hlt]; rfl) rfl rfl hdg kk
theorem x_recv (hw : wg L G S s H locs) {k ci : Nat} {q : vw_C} {fs : List Value} (hk : k < L.1) (he : L.2 G k (S.1 k) (S.2 k) = .inr (ci, fs)) (hc : vwCl[ci]? = some q) : ∃ cell : Cell, H[ad G k]? = some cell ∧ cell.vm.isStatics = false ∧ s.vm.findClass q.1 = some cell.cls :=
  va_recv hw.2.1 hw.1 hc (by rw [Wg_get hk, he])
theorem x_reti (hC : CallFix p m c cc nL s args lw_g own) (hr : meth.sig.returnType = some .int) (hlk : meth.locks = false) (hw : wg L G S s H locs) {v : Int32} (hdg : decode cc pc = .ok (.ireturn, 1)) : W p l e R s m args below meth c H locs cells slots (MQ below (va_Qi (fun r u => r = v ∧ u = S) (fun u t => wg0 L G u t) G.2.2.2) args s cells slots G.2.2.2) (F0 m pc ls [.int v]) :=
  W.iret hC.1 hC.2.1 hr (fun t ht hW => ⟨⟨v, S, rfl, ⟨rfl, rfl⟩, by rw [ht]; exact hw.1, va_K.moved hW.alike hw.2.1, hw.2.2.1, hw.2.2.2.2.warm hW⟩, hw.2.2.2.1.F ht⟩) hw.2.2.2.1.2.2 hdg hlk
theorem x_retz (hC : CallFix p m c cc nL s args lw_g own) (hr : meth.sig.returnType = some .boolean) (hlk : meth.locks = false) (hw : wg L G S s H locs) {v : Int32} (hv : isb v = true) (hdg : decode cc pc = .ok (.ireturn, 1)) : W p l e R s m args below meth c H locs cells slots (MQ below (va_Qi (fun r u => r = v ∧ u = S) (fun u t => wg0 L G u t) G.2.2.2) args s cells slots G.2.2.2) (F0 m pc ls [.int v]) :=
  W.zret hC.1 hC.2.1 hr (isb_narrow hv) (fun t ht hW => ⟨⟨v, S, rfl, ⟨rfl, rfl⟩, by rw [ht]; exact hw.1, va_K.moved hW.alike hw.2.1, hw.2.2.1, hw.2.2.2.2.warm hW⟩, hw.2.2.2.1.F ht⟩) hw.2.2.2.1.2.2 hdg hlk
theorem x_retl (hC : CallFix p m c cc nL s args lw_g own) (hr : meth.sig.returnType = some .long) (hlk : meth.locks = false) (hw : wg L G S s H locs) {v : Int64} (hdg : decode cc pc = .ok (.lreturn, 1)) : W p l e R s m args below meth c H locs cells slots (MQ below (va_Ql (fun r u => r = v ∧ u = S) (fun u t => wg0 L G u t) G.2.2.2) args s cells slots G.2.2.2) (F0 m pc ls [.long v]) :=
  W.lret hC.1 hC.2.1 hr (fun t ht hW => ⟨⟨v, S, rfl, ⟨rfl, rfl⟩, by rw [ht]; exact hw.1, va_K.moved hW.alike hw.2.1, hw.2.2.1, hw.2.2.2.2.warm hW⟩, hw.2.2.2.1.F ht⟩) hw.2.2.2.1.2.2 hdg hlk
theorem x_retv (hC : CallFix p m c cc nL s args lw_g own) (hr : meth.sig.returnType = none) (hlk : meth.locks = false) (hw : wg L G S s H locs) (hdg : decode cc pc = .ok (.return_, 1)) : W p l e R s m args below meth c H locs cells slots (MQ below (va_Qv (fun u => u = S) (fun u t => wg0 L G u t) G.2.2.2) args s cells slots G.2.2.2) (F0 m pc ls []) :=
  W.vret hC.1 hC.2.1 hr (fun t ht hW => ⟨⟨S, rfl, rfl, by rw [ht]; exact hw.1, va_K.moved hW.alike hw.2.1, hw.2.2.1, hw.2.2.2.2.warm hW⟩, hw.2.2.2.1.F ht⟩) hw.2.2.2.1.2.2 hdg hlk
theorem x_reta (hC : CallFix p m c cc nL s args lw_g own) {rt : FieldType} (hr : meth.sig.returnType = some (.array rt)) (hlk : meth.locks = false) (hw : wg L G S s H locs) {k : Nat} (hdg : decode cc pc = .ok (.areturn, 1)) : W p l e R s m args below meth c H locs cells slots (MQ below (va_Qr (fun u => u = S) (fun u a t => a = ad G k ∧ wg0 L G u t) G.2.2.2) args s cells slots G.2.2.2) (F0 m pc ls [.ref (ad G k)]) :=
  W.aret hC.1 hC.2.1 hr (Or.inr ⟨_, rfl⟩) (Or.inr ⟨_, rfl⟩) (fun t ht hW => ⟨⟨S, ad G k, rfl, rfl, rfl, by rw [ht]; exact hw.1, va_K.moved hW.alike hw.2.1, hw.2.2.1, hw.2.2.2.2.warm hW⟩, hw.2.2.2.1.F ht⟩) hw.2.2.2.1.2.2 hdg hlk
end XB
section XE
variable {l : Launch} {L : Lay} {G : GG} {S S' : St} {cc : ByteArray} {nL : Nat} {own : String}
theorem x_enter {y : MethodName} {ret : Option FieldType} {av : List Value} {rm : Room} {Qc : Array Value → State → Outcome → State → Prop} (hy : plainName y.cls = true) (ho : y.cls = own) (hav : (lg_sl av).length ≤ nL) {mc ms : Nat}
    (body : ∀ (p : Program) (e : Env) (s : State) (m : MethodId) (below : List Frame) (meth : Method) (c : Code) (ls : Array Slot), CallFix p m c cc nL s av.toArray lw_g own → meth.sig.returnType = ret → meth.locks = false → wg L G S s s.heap [] → lv_has ls nL (lv_args 0 av) → W p l e rm s m av.toArray below meth c s.heap [] 0 0 (MQ below Qc av.toArray s mc ms G.2.2.2) (F0 m 0 ls [])) :
    Met l y (Cond.code y cc nL ret :: lw_g) rm (va_Pc av (fun U => wg0 L G S U)) Qc mc ms G.2.2.2 := by
  refine Met.ofW (cc := cc) (maxL := nL) (ret := ret) hy rfl ?_
  intro p e s m args below meth c s₁ B hml hv
  obtain ⟨rfl, hP, hK, hD, hN⟩ := hv
  have hts := atoms_spec (ws := Cond.code y cc nL ret :: lw_g) B.pre
  have hown : s.vm.findClass own = some m.cls := by rw [← ho]; exact findClass_of_methodNamed B.named
  have hl := lv_entry av (n := nL) hav
  rw [lg_entry_eq]
  exact body p e s m below meth c _ ⟨B.exec, B.bytes, hml, hown, fun w h => hts w (List.mem_cons_of_mem _ h)⟩ B.returns B.notSynchronized ⟨hP, hK, hD, va_S.rf, hN⟩ hl
end XE
section XC
variable {p : Program} {l : Launch} {e : Env} {R : Room} {s : State} {m : MethodId} {args : Array Value} {below : List Frame} {meth : Method} {c : Code} {H : Heap} {locs : List Loc} {cells slots : Nat} {Q : State → Prop}
variable {cc : ByteArray} {pc nL : Nat} {ls : Array Slot} {rest st0 : List Value} {L : Lay} {G : GG} {S S' : St} {own : String}
variable {y : MethodName} {bytes : ByteArray} {maxL n index : Nat} {ret : Option FieldType} {rm : Room} {C : String} {a : Nat} {As : List Value}
abbrev wm (y : MethodName) (bytes : ByteArray) (maxL : Nat) (ret : Option FieldType) : List Cond := Cond.code y bytes maxL ret :: lw_g
abbrev pcm (L : Lay) (G : GG) (S : St) (av : List Value) : Array Value → State → Prop := va_Pc av (fun U => wg0 L G S U)
abbrev qcI (L : Lay) (G : GG) (S : St) (r : Int32) : Array Value → State → Outcome → State → Prop := va_Qi (fun r' u => r' = r ∧ u = S) (fun u t => wg0 L G u t) G.2.2.2
abbrev qcL (L : Lay) (G : GG) (S : St) (r : Int64) : Array Value → State → Outcome → State → Prop := va_Ql (fun r' u => r' = r ∧ u = S) (fun u t => wg0 L G u t) G.2.2.2
abbrev qcV (L : Lay) (G : GG) (S : St) : Array Value → State → Outcome → State → Prop := va_Qv (fun u => u = S) (fun u t => wg0 L G u t) G.2.2.2
abbrev qcR (L : Lay) (G : GG) (S : St) (k : Nat) : Array Value → State → Outcome → State → Prop := va_Qr (fun u => u = S) (fun u a t => a = ad G k ∧ wg0 L G u t) G.2.2.2
theorem x_preV (hw : wg L G S s H locs) (hrc : ∃ cell : Cell, H[a]? = some cell ∧ cell.vm.isStatics = false ∧ s.vm.findClass C = some cell.cls) : PreV s H C a (pcm L G S (.ref a :: As)) As :=
  ⟨wg0_blind, hrc, fun U hU hW => ⟨rfl, by rw [hU]; exact hw.1, va_K.moved hW.alike hw.2.1, hw.2.2.1, hw.2.2.2.2.warm hW⟩⟩
theorem x_preS (hw : wg L G S s H locs) : PreS s H (pcm L G S As) As :=
  ⟨wg0_blind, fun U hU hW => ⟨rfl, by rw [hU]; exact hw.1, va_K.moved hW.alike hw.2.1, hw.2.2.1, hw.2.2.2.2.warm hW⟩⟩
theorem x_goi {a9 : Array Value} {r : Int32} (hr : va_Run p l e R s m args below meth c H locs 0 0 0 0 (F0 m pc ls st0) rest (qcI L G S' r a9) G.2.2.2) (hw : wg L G S s H locs) (kk : ∀ (H : Heap) (locs : List Loc), wg L G S' s H locs → W p l e R s m args below meth c H locs 0 0 Q (F0 m (pc + 3) ls (.int r :: rest))) : W p l e R s m args below meth c H locs 0 0 Q (F0 m pc ls st0) := by
  refine va_calli hr hw.2.2.2.1 (fun q _ h => h) (fun q h => h) (fun r1 u t H1 locs1 ht hvm hp hB hz hk hS => ?_)
  obtain ⟨rfl, rfl⟩ := hp
  obtain ⟨hP, hK, hD, -⟩ := hB
  rw [ht] at hP
  exact kk H1 locs1 ⟨hP, va_K.moved hvm.symm hK, hD, hS, hw.2.2.2.2⟩
theorem x_gol {a9 : Array Value} {r : Int64} (hr : va_Run p l e R s m args below meth c H locs 0 0 0 0 (F0 m pc ls st0) rest (qcL L G S' r a9) G.2.2.2) (hw : wg L G S s H locs) (kk : ∀ (H : Heap) (locs : List Loc), wg L G S' s H locs → W p l e R s m args below meth c H locs 0 0 Q (F0 m (pc + 3) ls (.long r :: rest))) : W p l e R s m args below meth c H locs 0 0 Q (F0 m pc ls st0) := by
  refine va_calll hr hw.2.2.2.1 (fun q _ h => h) (fun q h => h) (fun r1 u t H1 locs1 ht hvm hp hB hz hk hS => ?_)
  obtain ⟨rfl, rfl⟩ := hp
  obtain ⟨hP, hK, hD, -⟩ := hB
  rw [ht] at hP
  exact kk H1 locs1 ⟨hP, va_K.moved hvm.symm hK, hD, hS, hw.2.2.2.2⟩
theorem x_gov {a9 : Array Value} (hr : va_Run p l e R s m args below meth c H locs 0 0 0 0 (F0 m pc ls st0) rest (qcV L G S' a9) G.2.2.2) (hw : wg L G S s H locs) (kk : ∀ (H : Heap) (locs : List Loc), wg L G S' s H locs → W p l e R s m args below meth c H locs 0 0 Q (F0 m (pc + 3) ls rest)) : W p l e R s m args below meth c H locs 0 0 Q (F0 m pc ls st0) := by
  refine va_callv hr hw.2.2.2.1 (fun q _ h => h) (fun q h => h) (fun u t H1 locs1 ht hvm hp hB hz hk hS => ?_)
  obtain rfl := hp
  obtain ⟨hP, hK, hD, -⟩ := hB
  rw [ht] at hP
  exact kk H1 locs1 ⟨hP, va_K.moved hvm.symm hK, hD, hS, hw.2.2.2.2⟩
theorem x_gor {a9 : Array Value} {k : Nat} (hr : va_Run p l e R s m args below meth c H locs 0 0 0 0 (F0 m pc ls st0) rest (qcR L G S' k a9) G.2.2.2) (hw : wg L G S s H locs) (kk : ∀ (H : Heap) (locs : List Loc), wg L G S' s H locs → W p l e R s m args below meth c H locs 0 0 Q (F0 m (pc + 3) ls (.ref (ad G k) :: rest))) : W p l e R s m args below meth c H locs 0 0 Q (F0 m pc ls st0) := by
  refine va_callr hr hw.2.2.2.1 (fun q _ h => h) (fun q h => h) (fun u ra t H1 locs1 ht hvm hp hB hz hk hS => ?_)
  obtain rfl := hp
  obtain ⟨rfl, hP, hK, hD, -⟩ := hB
  rw [ht] at hP
  exact kk H1 locs1 ⟨hP, va_K.moved hvm.symm hK, hD, hS, hw.2.2.2.2⟩
/-- a call of an instance method, of a static one, of a nest mate's -/
theorem x_rv {Qc : Array Value → State → Outcome → State → Prop} (hC : CallFix p m c cc nL s args lw_g own) (hw : wg L G S s H locs) (hM : Met l y (wm y bytes maxL ret) rm (pcm L G S (.ref a :: As)) Qc 0 0 G.2.2.2) (cw : CallW R s args own C index y bytes maxL ret (wm y bytes maxL ret) rm 0 0 n) (hrc : ∃ cell : Cell, H[a]? = some cell ∧ cell.vm.isStatics = false ∧ s.vm.findClass C = some cell.cls)
    (hn : As.length = n) (hsz : ls.size = nL) (hst : st0 = As.reverse ++ .ref a :: rest) (hrm : (rest.map fun v => v.category).sum ≤ 8) (hdg : decode cc pc = .ok (.invokevirtual index, 3)) : va_Run p l e R s m args below meth c H locs 0 0 0 0 (F0 m pc ls st0) rest (Qc (Value.ref a :: As).toArray) G.2.2.2 :=
  va_runV hC hM cw (x_preV hw hrc) rfl hn hsz hst (lv_room (pc := pc) (ls := ls) (rest := st0) (m := m) hrm) hdg ⟨Nat.zero_le _, Nat.zero_le _⟩
theorem x_rs {Qc : Array Value → State → Outcome → State → Prop} (hC : CallFix p m c cc nL s args lw_g own) (hw : wg L G S s H locs) (hM : Met l y (wm y bytes maxL ret) rm (pcm L G S As) Qc 0 0 G.2.2.2) (cw : CallB R s args own index y bytes maxL ret (wm y bytes maxL ret) rm 0 0 n ∧ (Cond.static y).before args s = true)
    (hn : As.length = n) (hsz : ls.size = nL) (hst : st0 = As.reverse ++ rest) (hrm : (rest.map fun v => v.category).sum ≤ 8) (hdg : decode cc pc = .ok (.invokestatic index, 3)) : va_Run p l e R s m args below meth c H locs 0 0 0 0 (F0 m pc ls st0) rest (Qc As.toArray) G.2.2.2 :=
  va_runS hC hM cw (x_preS hw) rfl hn hsz hst (lv_room (pc := pc) (ls := ls) (rest := st0) (m := m) hrm) hdg ⟨Nat.zero_le _, Nat.zero_le _⟩
theorem x_rn {Qc : Array Value → State → Outcome → State → Prop} {host : String} (hC : CallFix p m c cc nL s args lw_g own) (hw : wg L G S s H locs) (hM : Met l y (wm y bytes maxL ret) rm (pcm L G S As) Qc 0 0 G.2.2.2) (cw : va_CN R s args own index y host bytes maxL ret (wm y bytes maxL ret) rm 0 0 n ∧ (Cond.static y).before args s = true ∧ True)
    (hn : As.length = n) (hsz : ls.size = nL) (hst : st0 = As.reverse ++ rest) (hrm : (rest.map fun v => v.category).sum ≤ 8) (hdg : decode cc pc = .ok (.invokestatic index, 3)) : va_Run p l e R s m args below meth c H locs 0 0 0 0 (F0 m pc ls st0) rest (Qc As.toArray) G.2.2.2 :=
  va_runSN hC hM cw (x_preS hw) rfl hn hsz hst (lv_room (pc := pc) (ls := ls) (rest := st0) (m := m) hrm) hdg ⟨Nat.zero_le _, Nat.zero_le _⟩
end XC
theorem nd0 {y : Int32} (h : (!decide (y = 0)) = true) : ¬ y = 0 := by
  simpa using h
theorem sm_l {R T : Type} {r : R} {k : T → Option R} {y : Option R} (h : sm (.inl r) k = y) : some r = y := h
theorem sm_r {R T : Type} {u : T} {k : T → Option R} {y : Option R} (h : sm (.inr u) k = y) : k u = y := h
def sm2 {R T U : Type} (x : R ⊕ T) (k : T → Option (R ⊕ U)) : Option (R ⊕ U) := match x with
  | .inl r => some (.inl r)
  | .inr t => k t
theorem sm2_l {R T U : Type} {r : R} {k : T → Option (R ⊕ U)} {y : Option (R ⊕ U)} (h : sm2 (.inl r) k = y) : some (.inl r) = y := h
theorem sm2_r {R T U : Type} {u : T} {k : T → Option (R ⊕ U)} {y : Option (R ⊕ U)} (h : sm2 (.inr u) k = y) : k u = y := h
def cpb (sp dp n : Int32) (n1 n2 : Nat) : Bool := !(decide (sp < 0)) && (!(decide (dp < 0)) && (!(decide (n < 0)) && (decide (sp.toNatClampNeg + n.toNatClampNeg ≤ n1) && decide (dp.toNatClampNeg + n.toNatClampNeg ≤ n2))))
section XP
variable {p : Program} {l : Launch} {e : Env} {R : Room} {s : State} {m : MethodId} {args : Array Value} {below : List Frame} {meth : Method} {c : Code} {H : Heap} {locs : List Loc} {cells slots : Nat} {Q : State → Prop}
variable {cc : ByteArray} {pc nL : Nat} {ls : Array Slot} {rest : List Value} {L : Lay} {G : GG} {S : St} {own : String}
theorem x_copy (hC : CallFix p m c cc nL s args lw_g own) (hw : wg L G S s H locs) {k1 k2 n1 n2 index : Nat} {sp dp n : Int32} (h1 : isA L k1 n1) (h2 : isA L k2 n2) (hc : cpb sp dp n n1 n2 = true) (hl1 : Cond.methodLink own index arraycopyName ∈ lw_g) (hl2 : Cond.native arraycopyName ∈ lw_g ∧ Cond.static arraycopyName ∈ lw_g ∧ Cond.initialized "java/lang/System" ∈ lw_g) (hF : 1 ≤ R.frames) (hL : (rest.map fun v => v.category).sum + (nativeFrameWords "java/lang/System" "arraycopy" 5 + 11) ≤ R.locals) (hsz : ls.size = nL) (hdg : decode cc pc = .ok (.invokestatic index, 3))
    (kk : ∀ (H : Heap) (locs : List Loc), wg L G (pcp S k1 k2 sp.toNatClampNeg dp.toNatClampNeg n.toNatClampNeg) s H locs → W p l e R s m args below meth c H locs cells slots Q (F0 m (pc + 3) ls rest)) : W p l e R s m args below meth c H locs cells slots Q (F0 m pc ls (.int n :: .int dp :: .ref (ad G k2) :: .int sp :: .ref (ad G k1) :: rest)) := by
  unfold cpb at hc
  simp only [Bool.and_eq_true, Bool.not_eq_true', decide_eq_false_iff_not, decide_eq_true_eq] at hc
  obtain ⟨a1, a2, a3, a4, a5⟩ := hc
  refine va_copyi hC.1 hC.2.1 (hC.2.2.1.trans hsz.symm) hC.2.2.2.1 (hC.2.2.2.2 _ hl1) (hC.2.2.2.2 _ hl2.1) (hC.2.2.2.2 _ hl2.2.1) (hC.2.2.2.2 _ hl2.2.2) hw.2.1 hw.1 hw.2.2.1 hw.2.2.2.1 k1 k2 0 0 (by rw [Wg_get h1.1, h1.2]) (by rw [Wg_get h2.1, h2.2]) rfl rfl rfl a1 a2 a3 a4 a5 (fun _ _ => rfl) hF hL hdg (fun H1 locs1 hP hD hS => ?_)
  rw [Wg_set (S' := pcp S k1 k2 sp.toNatClampNeg dp.toNatClampNeg n.toNatClampNeg) (fun j hj => ⟨if_neg hj, rfl⟩) (by rw [h2.2]; exact congrArg (fun f => (Sum.inl (G.2.1.1, n2, Sum.inl f) : va_E)) (if_pos rfl))] at hP hD
  exact kk H1 locs1 ⟨hP, hw.2.1, hD, hS, hw.2.2.2.2⟩
end XP
