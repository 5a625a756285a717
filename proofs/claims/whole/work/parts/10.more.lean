/-! names for values and states on the way -/
def nx {α β : Type} (x : α) (k : α → β) : β := k x
theorem nx_some {α β : Type} {x : α} {k : α → β} {y : β} (h : nx x k = y) : ∃ a, a = x ∧ k a = y := ⟨x, rfl, h⟩
section XT
variable {p : Program} {l : Launch} {e : Env} {R : Room} {s : State} {m : MethodId} {args : Array Value} {below : List Frame} {meth : Method} {c : Code} {H : Heap} {locs : List Loc} {cells slots : Nat} {Q : State → Prop}
variable {pc : Nat} {ls : Array Slot} {rest : List Value}
theorem x_topi {x y : Int32} (e0 : y = x) (k : W p l e R s m args below meth c H locs cells slots Q (F0 m pc ls (.int y :: rest))) : W p l e R s m args below meth c H locs cells slots Q (F0 m pc ls (.int x :: rest)) := e0 ▸ k
theorem x_topl {x y : Int64} (e0 : y = x) (k : W p l e R s m args below meth c H locs cells slots Q (F0 m pc ls (.long y :: rest))) : W p l e R s m args below meth c H locs cells slots Q (F0 m pc ls (.long x :: rest)) := e0 ▸ k
end XT
theorem nd0L {y : Int64} (h : (!decide (y = 0)) = true) : ¬ y = 0 := by
  simpa using h
theorem mw_max : Cond.static Lib.Math.max.name ∈ lw_g ∧ Cond.initialized "java/lang/Math" ∈ lw_g ∧ Cond.code Lib.Math.max.name Lib.Math.max.code 2 (some .int) ∈ lw_g := ⟨ms_J9_max_7cf53.1, ms_J9_max_7cf53.2.1, ms_J9_max_7cf53.2.2⟩
theorem mw_min : Cond.static Lib.Math.min.name ∈ lw_g ∧ Cond.initialized "java/lang/Math" ∈ lw_g ∧ Cond.code Lib.Math.min.name Lib.Math.min.code 2 (some .int) ∈ lw_g := ⟨ms_J9_min_7cf53.1, ms_J9_min_7cf53.2.1, ms_J9_min_7cf53.2.2⟩
