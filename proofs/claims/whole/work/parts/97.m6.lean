/-! matches: both -/
abbrev Wv (B : Bk) (L : Nat → Nat → Bool) (x1 x2 : Int32) : Nat := EE (hn B) (oR B L x1 x2) (fun _ => 1) (m3 B) 0 0
abbrev Wt (B : Bk) (L : Nat → Nat → Bool) : Nat := EE (hn B) (oL B L) (fun _ => 1) (m3 B) 0 0
abbrev oneP (B : Bk) (u : Nat) : Prop := (∃ i, i < hn B ∧ u.testBit i = true) ∧ ∀ i j, i < hn B → j < hn B → u.testBit i = true → u.testBit j = true → hv B i = hv B j
abbrev useP (B : Bk) (L : Nat → Nat → Bool) (k u : Nat) : Prop := u < 4096 ∧ ∀ i, i < 12 → (u.testBit i = true ↔ ∃ s, s < 2 ^ hn B ∧ bc s = k ∧ RC B L s ∧ (i < hn B ∧ oL B L (bc s) i = true ∧ s.testBit i = false) ∧ 0 < beh B L (s ||| 2 ^ i))
section PM
variable {S S' Y Y' : St} {B : Bk} {L : Nat → Nat → Bool} {om : Nat → Nat} {s : Nat}
theorem Wv_V (ok : okB B) (x1 x2 : Int32) : Wv B L x1 x2 ≤ 479001600 := by
  have e2 := EE_V (o := oR B L x1 x2) ok.2.1 (W := fun _ => 1) (fun u => Vw_pos u) (m3 B) 0 0
  exact Nat.le_trans e2 (Vw_le 0)
theorem ce_b {k : Nat} (hk : k < m3 B) : ce3 B k < 12 ∧ k3 B (ce3 B k) = true ∧ fb_ct (k3 B) (ce3 B k) = k := nC_b hk
theorem Wt_e (ok : okB B) : Wv B L (-9) 0 = Wt B L := EE_o _ _ _ (fun k _ hk i hi => by
  have hk' : k < m3 B := by omega
  have cb := ce_b hk'
  show (L (ce3 B k) (hv B i) && (decide (nI (ce3 B k) ≠ -9) || decide (nI (hv B i) = 0))) = (decide (k < m3 B) && L (ce3 B k) (hv B i))
  rw [decide_eq_true (show nI (ce3 B k) ≠ -9 from nI_m9 (by omega)), Bool.true_or, Bool.and_true, decide_eq_true hk', Bool.true_and])
theorem beh_0 (B : Bk) (L : Nat → Nat → Bool) : beh B L 0 = Wt B L := by
  unfold beh
  rw [bc_0, if_pos (Nat.zero_le _), Nat.sub_zero]
theorem W_split (ok : okB B) {k v : Nat} (hk : k < m3 B) (hv1 : v < 100) : Wv B L (nI (ce3 B k)) (nI v) = EE (hn B) (oL B L) (fun u => exN (hn B) (fun i => oL B L k i && decide (hv B i = v)) (fun w => EE (hn B) (oL B L) (fun _ => 1) (m3 B - (k + 1)) (k + 1) w) u) k 0 0 := by
  have ml := m3_le B
  have h12 := ok.2.1
  have cbk := ce_b hk
  have em : m3 B = k + (1 + (m3 B - (k + 1))) := by omega
  have far : ∀ j, j < m3 B → j ≠ k → ∀ i, i < hn B → oR B L (nI (ce3 B k)) (nI v) j i = oL B L j i := fun j hj hjk i hi => by
    have cbj := ce_b hj
    show (L (ce3 B j) (hv B i) && (decide (nI (ce3 B j) ≠ nI (ce3 B k)) || decide (nI (hv B i) = nI v))) = (decide (j < m3 B) && L (ce3 B j) (hv B i))
    have ne : ¬ nI (ce3 B j) = nI (ce3 B k) := by
      rw [nI_eq (by omega) (by omega)]
      intro e
      have a := cbj.2.2
      rw [e, cbk.2.2] at a
      omega
    rw [decide_eq_true (show nI (ce3 B j) ≠ nI (ce3 B k) from ne), Bool.true_or, Bool.and_true, decide_eq_true hj, Bool.true_and]
  have near : ∀ i, i < hn B → oR B L (nI (ce3 B k)) (nI v) k i = (oL B L k i && decide (hv B i = v)) := fun i hi => by
    have hb := ok.2.2.1 i hi
    show (L (ce3 B k) (hv B i) && (decide (nI (ce3 B k) ≠ nI (ce3 B k)) || decide (nI (hv B i) = nI v))) = ((decide (k < m3 B) && L (ce3 B k) (hv B i)) && decide (hv B i = v))
    rw [decide_eq_false (show ¬ (nI (ce3 B k) ≠ nI (ce3 B k)) from fun q => q rfl), Bool.false_or, decide_eq_true hk, Bool.true_and]
    congr 1
    by_cases z : hv B i = v
    · rw [decide_eq_true z, decide_eq_true (by rw [z])]
    · rw [decide_eq_false z, decide_eq_false (by rw [nI_eq (by omega) (by omega)]; exact z)]
  show EE (hn B) (oR B L (nI (ce3 B k)) (nI v)) (fun _ => 1) (m3 B) 0 0 = _
  have e1 : EE (hn B) (oR B L (nI (ce3 B k)) (nI v)) (fun _ => 1) (m3 B) 0 0 = EE (hn B) (oR B L (nI (ce3 B k)) (nI v)) (fun u => EE (hn B) (oR B L (nI (ce3 B k)) (nI v)) (fun _ => 1) (1 + (m3 B - (k + 1))) (0 + k) u) k 0 0 := by
    rw [← EE_add, ← em]
  rw [e1, EE_o (o' := oL B L) k 0 0 (fun j _ hj i hi => far j (by omega) (by omega) i hi)]
  have e2 : (fun u => EE (hn B) (oR B L (nI (ce3 B k)) (nI v)) (fun _ => 1) (1 + (m3 B - (k + 1))) (0 + k) u) = fun u => exN (hn B) (fun i => oL B L k i && decide (hv B i = v)) (fun w => EE (hn B) (oL B L) (fun _ => 1) (m3 B - (k + 1)) (k + 1) w) u := funext fun u => by
    rw [Nat.zero_add, Nat.add_comm 1, EE, exN_o u near]
    exact exN_cong u (fun w => EE_o _ _ _ (fun j h1 h2 i hi => far j (by omega) (by omega) i hi))
  rw [e2]
theorem W_splitT {k : Nat} (hk : k < m3 B) : Wt B L = EE (hn B) (oL B L) (fun u => exN (hn B) (oL B L k) (fun w => EE (hn B) (oL B L) (fun _ => 1) (m3 B - (k + 1)) (k + 1) w) u) k 0 0 := by
  have em : m3 B = k + (1 + (m3 B - (k + 1))) := by omega
  show EE (hn B) (oL B L) (fun _ => 1) (m3 B) 0 0 = _
  have e1 : EE (hn B) (oL B L) (fun _ => 1) (m3 B) 0 0 = EE (hn B) (oL B L) (fun u => EE (hn B) (oL B L) (fun _ => 1) (1 + (m3 B - (k + 1))) (0 + k) u) k 0 0 := by
    rw [← EE_add, ← em]
  rw [e1]
  have e2 : (fun u => EE (hn B) (oL B L) (fun _ => 1) (1 + (m3 B - (k + 1))) (0 + k) u) = fun u => exN (hn B) (oL B L k) (fun w => EE (hn B) (oL B L) (fun _ => 1) (m3 B - (k + 1)) (k + 1) w) u := funext fun u => by
    rw [Nat.zero_add, Nat.add_comm 1, EE]
  rw [e2]
theorem beh_e (ok : okB B) {k i : Nat} (hk : k < m3 B) (hi : i < hn B) (hb : bc s = k) (hs : s.testBit i = false) : beh B L (s ||| 2 ^ i) = EE (hn B) (oL B L) (fun _ => 1) (m3 B - (k + 1)) (k + 1) (s ||| 2 ^ i) := by
  have h12 := ok.2.1
  unfold beh
  rw [bc_or (by omega) hs, hb, if_pos (by omega)]
/-- a hole's numbers in all fillings -/
theorem use_v (ok : okB B) {k u v : Nat} (hk : k < m3 B) (hv1 : v < 100) (hu : useP B L k u) : Wv B L (nI (ce3 B k)) (nI v) = Wt B L ↔ ∀ i, i < hn B → u.testBit i = true → hv B i = v := by
  have h12 := ok.2.1
  rw [W_split ok hk hv1, W_splitT hk]
  have le : ∀ t, exN (hn B) (fun i => oL B L k i && decide (hv B i = v)) (fun w => EE (hn B) (oL B L) (fun _ => 1) (m3 B - (k + 1)) (k + 1) w) t ≤ exN (hn B) (oL B L k) (fun w => EE (hn B) (oL B L) (fun _ => 1) (m3 B - (k + 1)) (k + 1) w) t ∧ (exN (hn B) (fun i => oL B L k i && decide (hv B i = v)) (fun w => EE (hn B) (oL B L) (fun _ => 1) (m3 B - (k + 1)) (k + 1) w) t = exN (hn B) (oL B L k) (fun w => EE (hn B) (oL B L) (fun _ => 1) (m3 B - (k + 1)) (k + 1) w) t ↔ ∀ i, i < hn B → t.testBit i = false → oL B L k i = true → hv B i ≠ v → EE (hn B) (oL B L) (fun _ => 1) (m3 B - (k + 1)) (k + 1) (t ||| 2 ^ i) = 0) := fun t => by
    have key := sumN_le (f := fun i => if (!t.testBit i && (oL B L k i && decide (hv B i = v))) = true then EE (hn B) (oL B L) (fun _ => 1) (m3 B - (k + 1)) (k + 1) (t ||| 2 ^ i) else 0) (g := fun i => if (!t.testBit i && oL B L k i) = true then EE (hn B) (oL B L) (fun _ => 1) (m3 B - (k + 1)) (k + 1) (t ||| 2 ^ i) else 0) (hn B) (fun i hi => by
      cases t.testBit i <;> cases oL B L k i <;> cases decide (hv B i = v) <;> simp)
    refine ⟨key.1, key.2.trans ⟨fun e i hi h1 h2 h3 => ?_, fun e i hi => ?_⟩⟩
    · have := e i hi
      rw [h1, h2, decide_eq_false h3] at this
      exact this.symm
    · by_cases z : hv B i = v
      · rw [decide_eq_true z, Bool.and_true]
      · rw [decide_eq_false z, Bool.and_false, Bool.and_false, if_neg (show ¬ (false = true) by decide)]
        cases hb : (!t.testBit i && oL B L k i)
        · rfl
        · rw [Bool.and_eq_true, Bool.not_eq_true'] at hb
          rw [if_pos rfl, e i hi hb.1 hb.2 z]
  rw [(EE_eq (fun t => (le t).1) k 0 0).2]
  constructor
  · intro hh i hi tb
    obtain ⟨s, s1, s2, s3, s4, s5⟩ := (hu.2 i (by omega)).mp tb
    by_cases z : hv B i = v
    · exact z
    · exfalso
      have r : rea (hn B) (oL B L) k 0 0 s := by rw [← s2]; exact s3
      have := (le s).2.mp (hh s r) i hi s4.2.2 (by rw [← s2]; exact s4.2.1) z
      rw [beh_e ok hk hi s2 s4.2.2, this] at s5
      omega
  · intro hh t ht
    have bt := rea_bc h12 k 0 0 t ht
    rw [bc_0, Nat.zero_add] at bt
    refine (le t).2.mpr (fun i hi h1 h2 h3 => ?_)
    rcases Nat.eq_zero_or_pos (EE (hn B) (oL B L) (fun _ => 1) (m3 B - (k + 1)) (k + 1) (t ||| 2 ^ i)) with q | q
    · exact q
    · exfalso
      refine h3 (hh i hi ((hu.2 i (by omega)).mpr ⟨t, rea_lt k 0 0 t (Nat.pow_pos (by omega)) ht, bt, ?_, ⟨hi, by rw [bt]; exact h2, h1⟩, by rw [beh_e ok hk hi bt h1]; exact q⟩))
      unfold RC
      rw [bt]; exact ht
theorem use_0 (ok : okB B) {k u : Nat} (hk : k < m3 B) (hu : useP B L k u) : 0 < Wt B L ↔ ∃ i, i < hn B ∧ u.testBit i = true := by
  have h12 := ok.2.1
  have e0 : Wt B L = 0 ↔ ∀ t, rea (hn B) (oL B L) k 0 0 t → ∀ i, i < hn B → t.testBit i = false → oL B L k i = true → EE (hn B) (oL B L) (fun _ => 1) (m3 B - (k + 1)) (k + 1) (t ||| 2 ^ i) = 0 := by
    rw [W_splitT hk]
    have q := (EE_eq (h := hn B) (o := oL B L) (F := fun _ => 0) (G := fun u => exN (hn B) (oL B L k) (fun w => EE (hn B) (oL B L) (fun _ => 1) (m3 B - (k + 1)) (k + 1) w) u) (fun t => Nat.zero_le _) k 0 0).2
    rw [EE_0] at q
    rw [eq_comm, q]
    refine ⟨fun hh t ht i hi h1 h2 => ?_, fun hh t ht => ?_⟩
    · have := hh t ht
      have w := sumN_one (f := fun i => if (!t.testBit i && oL B L k i) = true then EE (hn B) (oL B L) (fun _ => 1) (m3 B - (k + 1)) (k + 1) (t ||| 2 ^ i) else 0) (hn B) i hi
      rw [h1, h2] at w
      have w2 : EE (hn B) (oL B L) (fun _ => 1) (m3 B - (k + 1)) (k + 1) (t ||| 2 ^ i) ≤ exN (hn B) (oL B L k) (fun w => EE (hn B) (oL B L) (fun _ => 1) (m3 B - (k + 1)) (k + 1) w) t := w
      omega
    · show 0 = sumN _ (hn B)
      rw [sumN_cong (g := fun _ => 0) (hn B) (fun i hi => ?_), sumN_0]
      cases hb : (!t.testBit i && oL B L k i)
      · rfl
      · rw [Bool.and_eq_true, Bool.not_eq_true'] at hb
        rw [if_pos rfl]
        exact hh t ht i hi hb.1 hb.2
  constructor
  · intro hp
    apply Classical.byContradiction
    intro hn1
    have : Wt B L = 0 := e0.mpr (fun t ht i hi h1 h2 => by
      have bt := rea_bc h12 k 0 0 t ht
      rw [bc_0, Nat.zero_add] at bt
      rcases Nat.eq_zero_or_pos (EE (hn B) (oL B L) (fun _ => 1) (m3 B - (k + 1)) (k + 1) (t ||| 2 ^ i)) with q | q
      · exact q
      · refine absurd ⟨i, hi, (hu.2 i (by omega)).mpr ⟨t, rea_lt k 0 0 t (Nat.pow_pos (by omega)) ht, bt, ?_, ⟨hi, by rw [bt]; exact h2, h1⟩, by rw [beh_e ok hk hi bt h1]; exact q⟩⟩ hn1
        unfold RC
        rw [bt]; exact ht)
    omega
  · rintro ⟨i, hi, tb⟩
    rcases Nat.eq_zero_or_pos (Wt B L) with q | q
    · obtain ⟨s, s1, s2, s3, s4, s5⟩ := (hu.2 i (by omega)).mp tb
      have r : rea (hn B) (oL B L) k 0 0 s := by rw [← s2]; exact s3
      have := e0.mp q s r i hi s4.2.2 (by rw [← s2]; exact s4.2.1)
      rw [beh_e ok hk hi s2 s4.2.2, this] at s5
      omega
    · exact q
theorem one_iff (ok : okB B) {k u : Nat} (hk : k < m3 B) (hu : useP B L k u) : oneP B u ↔ 0 < Wt B L ∧ ∃ j, j < hn B ∧ Wv B L (nI (ce3 B k)) (nI (hv B j)) = Wt B L := by
  constructor
  · rintro ⟨⟨i, hi, tb⟩, h2⟩
    exact ⟨(use_0 ok hk hu).mpr ⟨i, hi, tb⟩, i, hi, (use_v ok hk (ok.2.2.1 i hi) hu).mpr (fun j hj tj => h2 j i hj hi tj tb)⟩
  · rintro ⟨h1, j, hj, h2⟩
    have h3 := (use_v ok hk (ok.2.2.1 j hj) hu).mp h2
    exact ⟨(use_0 ok hk hu).mp h1, fun i i' hi hi' t1 t2 => by rw [h3 i hi t1, h3 i' hi' t2]⟩
end PM
