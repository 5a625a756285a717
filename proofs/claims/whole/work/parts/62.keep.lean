/-! the class' narrowing: keep -/
section O8
variable {S S' Y Y' : St} {B : Bk}
theorem keep_lo {N : Nat} (hN : 201 < N) {c : Nat} (hc : c < 12) (fst : ∀ v, v < 100 → S.1 34 (100 * c + v) = bI (alw B c v)) {l h f : Int} (x3 : Int32) (l0 : 0 ≤ l) (l1 : l ≤ 100) (h0 : -1 ≤ h) (h1 : h ≤ 99) (f0 : -2147483648 ≤ f) (f1 : f < 2147483648) : ∃ z : Int, fX33_keep_L16 N S (nI c) (iI f) x3 (iI h) N (iI l) = some (iI z) ∧ l ≤ z ∧ z ≤ 100 ∧ (∀ v, l ≤ v → v ≤ h → f ≤ v → alz B c v = true → z ≤ v) ∧ (z ≤ h → f ≤ z ∧ alz B c z = true) := by
  obtain ⟨t, e1, z, e2, h2⟩ := loop_me (fun q (z : Int) => fX33_keep_L16 N S (nI c) (iI f) x3 (iI h) q (iI z))
    (fun z => l ≤ z ∧ z ≤ 100 ∧ (z ≤ h + 1 ∨ z = l) ∧ ∀ v, l ≤ v → v < z → v ≤ h → f ≤ v → alz B c v = true → False)
    (fun z => (101 - z).toNat)
    (fun t => ∃ z : Int, t = iI z ∧ l ≤ z ∧ z ≤ 100 ∧ (∀ v, l ≤ v → v ≤ h → f ≤ v → alz B c v = true → z ≤ v) ∧ (z ≤ h → f ≤ z ∧ alz B c z = true))
    (fun q z hI => by
      obtain ⟨g1, g2, g3, g4⟩ := hI
      show (∃ t, fX33_keep_L16 N S (nI c) (iI f) x3 (iI h) (q + 1) (iI z) = some t ∧ _) ∨ _
      have fin : ∀ v, l ≤ v → v ≤ h → f ≤ v → alz B c v = true → z ≤ v := fun v a b d e => by
        by_cases w : v < z
        · exact absurd (g4 v a w b d e) id
        · omega
      by_cases a : h < z
      · left
        refine ⟨iI z, by rw [fX33_keep_L16, if_pos ((iI_lt (by omega) (by omega) (by omega) (by omega)).mpr a)], z, rfl, g1, g2, fin, fun w => by omega⟩
      · have a' : ¬ iI h < iI z := by rw [iI_lt (by omega) (by omega) (by omega) (by omega)]; exact a
        have nxt : (∀ v, v = z → f ≤ v → alz B c v = true → False) → ∃ s' : Int, (l ≤ s' ∧ s' ≤ 100 ∧ (s' ≤ h + 1 ∨ s' = l) ∧ ∀ v, l ≤ v → v < s' → v ≤ h → f ≤ v → alz B c v = true → False) ∧ (101 - s').toNat < (101 - z).toNat ∧ iI s' = iI z + 1 := fun k => ⟨z + 1, ⟨by omega, by omega, by omega, fun v a1 a2 a3 a4 a5 => by
          by_cases w : v < z
          · exact g4 v a1 w a3 a4 a5
          · exact k v (by omega) a4 a5⟩, by omega, (iI_add z 1).symm⟩
        have e0 : iI z = nI z.toNat := iI_n (by omega)
        by_cases b : z < f
        · right
          obtain ⟨s', q1, q2, q3⟩ := nxt (fun v e a _ => by omega)
          refine ⟨s', q1, q2, ?_⟩
          show fX33_keep_L16 N S (nI c) (iI f) x3 (iI h) (q + 1) (iI z) = fX33_keep_L16 N S (nI c) (iI f) x3 (iI h) q (iI s')
          rw [fX33_keep_L16, if_neg a', if_pos ((iI_lt (by omega) (by omega) (by omega) (by omega)).mpr b), q3]
        · have b' : ¬ iI z < iI f := by rw [iI_lt (by omega) (by omega) (by omega) (by omega)]; exact b
          have e3 : fX33_keep_L16 N S (nI c) (iI f) x3 (iI h) (q + 1) (iI z) = if bI (alw B c z.toNat) = 0 then fX33_keep_L16 N S (nI c) (iI f) x3 (iI h) q (iI z + 1) else some (iI z) := by
            rw [fX33_keep_L16, if_neg a', if_neg b', e0, ixX, inb_nI (show 100 * c + z.toNat < 1200 by omega) (by decide), gd_true, cl (show 100 * c + z.toNat < 2 ^ 31 by omega), fst _ (by omega)]
          rw [e3, if_bI0]
          cases d : alw B c z.toNat
          · right
            obtain ⟨s', q1, q2, q3⟩ := nxt (fun v e _ a => by rw [e] at a; simp [alz, d] at a)
            refine ⟨s', q1, q2, ?_⟩
            rw [if_neg (by decide), q3]
          · left
            exact ⟨iI z, by rw [if_pos rfl], z, rfl, g1, g2, fin, fun _ => ⟨by omega, d⟩⟩)
    N l (by omega) ⟨by omega, l1, by omega, fun v a b => by omega⟩
  subst e2
  exact ⟨z, e1, h2⟩
theorem keep_hi {N : Nat} (hN : 201 < N) {c : Nat} (hc : c < 12) (fst : ∀ v, v < 100 → S.1 34 (100 * c + v) = bI (alw B c v)) {l h f : Int} (l0 : 0 ≤ l) (l1 : l ≤ 100) (h0 : -1 ≤ h) (h1 : h ≤ 99) (f0 : -2147483648 ≤ f) (f1 : f < 2147483648) : ∃ z : Int, fX33_keep_L50 N S (nI c) (iI f) (iI l) N (iI h) = some (iI z) ∧ z ≤ h ∧ -1 ≤ z ∧ (∀ v, l ≤ v → v ≤ h → v ≤ f → alz B c v = true → v ≤ z) ∧ (l ≤ z → z ≤ f ∧ alz B c z = true) := by
  obtain ⟨t, e1, z, e2, h2⟩ := loop_me (fun q (z : Int) => fX33_keep_L50 N S (nI c) (iI f) (iI l) q (iI z))
    (fun z => z ≤ h ∧ -1 ≤ z ∧ ∀ v, l ≤ v → z < v → v ≤ h → v ≤ f → alz B c v = true → False)
    (fun z => (z + 1).toNat)
    (fun t => ∃ z : Int, t = iI z ∧ z ≤ h ∧ -1 ≤ z ∧ (∀ v, l ≤ v → v ≤ h → v ≤ f → alz B c v = true → v ≤ z) ∧ (l ≤ z → z ≤ f ∧ alz B c z = true))
    (fun q z hI => by
      obtain ⟨g1, g2, g4⟩ := hI
      show (∃ t, fX33_keep_L50 N S (nI c) (iI f) (iI l) (q + 1) (iI z) = some t ∧ _) ∨ _
      have fin : ∀ v, l ≤ v → v ≤ h → v ≤ f → alz B c v = true → v ≤ z := fun v a b d e => by
        by_cases w : z < v
        · exact absurd (g4 v a w b d e) id
        · omega
      by_cases a : z < l
      · left
        refine ⟨iI z, by rw [fX33_keep_L50, if_pos ((iI_lt (by omega) (by omega) (by omega) (by omega)).mpr a)], z, rfl, g1, g2, fin, fun w => by omega⟩
      · have a' : ¬ iI z < iI l := by rw [iI_lt (by omega) (by omega) (by omega) (by omega)]; exact a
        have nxt : (∀ v, v = z → v ≤ f → alz B c v = true → False) → ∃ s' : Int, (s' ≤ h ∧ -1 ≤ s' ∧ ∀ v, l ≤ v → s' < v → v ≤ h → v ≤ f → alz B c v = true → False) ∧ (s' + 1).toNat < (z + 1).toNat ∧ iI s' = iI z + (-1) := fun k => ⟨z + -1, ⟨by omega, by omega, fun v a1 a2 a3 a4 a5 => by
          by_cases w : z < v
          · exact g4 v a1 w a3 a4 a5
          · exact k v (by omega) a4 a5⟩, by omega, (iI_add z (-1)).symm⟩
        have e0 : iI z = nI z.toNat := iI_n (by omega)
        by_cases b : f < z
        · right
          obtain ⟨s', q1, q2, q3⟩ := nxt (fun v e a _ => by omega)
          refine ⟨s', q1, q2, ?_⟩
          show fX33_keep_L50 N S (nI c) (iI f) (iI l) (q + 1) (iI z) = fX33_keep_L50 N S (nI c) (iI f) (iI l) q (iI s')
          rw [fX33_keep_L50, if_neg a', if_pos ((iI_lt (by omega) (by omega) (by omega) (by omega)).mpr b), q3]
        · have b' : ¬ iI f < iI z := by rw [iI_lt (by omega) (by omega) (by omega) (by omega)]; exact b
          have e3 : fX33_keep_L50 N S (nI c) (iI f) (iI l) (q + 1) (iI z) = if bI (alw B c z.toNat) = 0 then fX33_keep_L50 N S (nI c) (iI f) (iI l) q (iI z + (-1)) else some (iI z) := by
            rw [fX33_keep_L50, if_neg a', if_neg b', e0, ixX, inb_nI (show 100 * c + z.toNat < 1200 by omega) (by decide), gd_true, cl (show 100 * c + z.toNat < 2 ^ 31 by omega), fst _ (by omega)]
          rw [e3, if_bI0]
          cases d : alw B c z.toNat
          · right
            obtain ⟨s', q1, q2, q3⟩ := nxt (fun v e _ a => by rw [e] at a; simp [alz, d] at a)
            refine ⟨s', q1, q2, ?_⟩
            rw [if_neg (by decide), q3]
          · left
            exact ⟨iI z, by rw [if_pos rfl], z, rfl, g1, g2, fin, fun _ => ⟨by omega, d⟩⟩)
    N h (by omega) ⟨by omega, h0, fun v a b => by omega⟩
  subst e2
  exact ⟨z, e1, h2⟩
/-- keep, as it is -/
theorem X_keep0 {N : Nat} (hN : 201 < N) {c : Nat} (hc : c < 12) (fst : ∀ v, v < 100 → S.1 34 (100 * c + v) = bI (alw B c v)) {l h f t : Int} (el : S.1 35 c = iI l) (eh : S.1 36 c = iI h) (l0 : 0 ≤ l) (l1 : l ≤ 100) (h0 : -1 ≤ h) (h1 : h ≤ 99) (f0 : -2147483648 ≤ f) (f1 : f < 2147483648) (t0 : -2147483648 ≤ t) (t1 : t < 2147483648) :
    ∃ S' l' h', fX33_keep N S (nI c) (iI f) (iI t) = some S' ∧ S'.1 35 c = iI l' ∧ S'.1 36 c = iI h' ∧ (S'.1 33 5 = if l' = l ∧ h' = h then S.1 33 5 else 1) ∧ (S'.1 33 6 = if l' ≤ h' then S.1 33 6 else 1) ∧ (∀ k q, ¬ (k = 33 ∧ (q = 5 ∨ q = 6)) → ¬ ((k = 35 ∨ k = 36) ∧ q = c) → S'.1 k q = S.1 k q) ∧ l ≤ l' ∧ l' ≤ 100 ∧ -1 ≤ h' ∧ h' ≤ h ∧ (∀ v, l ≤ v → v ≤ h → f ≤ v → v ≤ t → alz B c v = true → l' ≤ v ∧ v ≤ h') ∧ (l' ≤ h' → f ≤ l' ∧ h' ≤ t ∧ alz B c l' = true ∧ alz B c h' = true) := by
  obtain ⟨l', e1, a1, a2, a3, a4⟩ := keep_lo hN hc fst (f := f) (iI t) l0 l1 h0 h1 f0 f1
  obtain ⟨h', e2, b1, b2, b3, b4⟩ := keep_hi hN hc fst (l := l') (f := t) (by omega) a2 h0 h1 t0 t1
  have ib := inb_nI hc (show 12 < 2 ^ 31 by decide)
  have ec : Int32.toNatClampNeg (nI c) = c := cl (by omega)
  have q1 : ∀ v, l ≤ v → v ≤ h → f ≤ v → v ≤ t → alz B c v = true → l' ≤ v ∧ v ≤ h' := fun v c1 c2 c3 c4 c5 => by
    have d1 := a3 v c1 c2 c3 c5
    exact ⟨d1, b3 v d1 c2 c4 c5⟩
  have q2 : l' ≤ h' → f ≤ l' ∧ h' ≤ t ∧ alz B c l' = true ∧ alz B c h' = true := fun q => ⟨(a4 (by omega)).1, (b4 q).1, (a4 (by omega)).2, (b4 q).2⟩
  have eqL : (iI l' = iI l) ↔ l' = l := iI_eq (by omega) (by omega) (by omega) (by omega)
  have eqH : (iI h' = iI h) ↔ h' = h := iI_eq (by omega) (by omega) (by omega) (by omega)
  have leq : (iI l' ≤ iI h') ↔ l' ≤ h' := iI_le (by omega) (by omega) (by omega) (by omega)
  have ev : fX33_keep N S (nI c) (iI f) (iI t) = some (if l' ≤ h' then (if l' = l ∧ h' = h then S else p1 (p1 (p1 S 33 5 1) 35 c (iI l')) 36 c (iI h')) else p1 (if l' = l ∧ h' = h then S else p1 (p1 (p1 S 33 5 1) 35 c (iI l')) 36 c (iI h')) 33 6 1) := by
    unfold fX33_keep
    simp only [ib, gd_true, ec, nx_eq, el, eh, e1, bs, e2, ob_if, eqL, eqH, leq]
    by_cases x : l' = l
    · by_cases y : h' = h
      · simp only [x, y, if_true, and_self]
        by_cases w : l ≤ h
        · rw [if_pos w, if_pos w]
        · rw [if_neg w, if_neg w]
      · simp only [x, y, if_true, if_false, and_false]
        by_cases w : l ≤ h'
        · rw [if_pos w, if_pos w]
        · rw [if_neg w, if_neg w]
    · simp only [x, if_false, false_and]
      by_cases w : l' ≤ h'
      · rw [if_pos w, if_pos w]
      · rw [if_neg w, if_neg w]
  obtain ⟨T, hT, T35, T36, T5, To⟩ : ∃ T : St, (if l' = l ∧ h' = h then S else p1 (p1 (p1 S 33 5 1) 35 c (iI l')) 36 c (iI h')) = T ∧ T.1 35 c = iI l' ∧ T.1 36 c = iI h' ∧ (T.1 33 5 = if l' = l ∧ h' = h then S.1 33 5 else 1) ∧ (∀ k q, ¬ (k = 33 ∧ q = 5) → ¬ ((k = 35 ∨ k = 36) ∧ q = c) → T.1 k q = S.1 k q) := by
    by_cases x : l' = l ∧ h' = h
    · rw [if_pos x, if_pos x]
      exact ⟨S, rfl, by rw [el, x.1], by rw [eh, x.2], rfl, fun _ _ _ _ => rfl⟩
    · rw [if_neg x, if_neg x]
      refine ⟨_, rfl, ?_, p1_eq, ?_, fun k q n1 n2 => ?_⟩
      · rw [p1_ne (by decide), p1_eq]
      · rw [p1_ne (by decide), p1_ne (by decide), p1_eq]
      · rw [p1_at, if_neg (by omega), p1_at, if_neg (by omega), p1_at, if_neg (by omega)]
  rw [hT] at ev
  by_cases w : l' ≤ h'
  · rw [if_pos w] at ev
    exact ⟨T, l', h', ev, T35, T36, T5, by rw [if_pos w]; exact To 33 6 (by omega) (by omega), fun k q n1 n2 => To k q (by omega) n2, a1, a2, b2, b1, q1, q2⟩
  · rw [if_neg w] at ev
    refine ⟨_, l', h', ev, ?_, ?_, ?_, ?_, fun k q n1 n2 => ?_, a1, a2, b2, b1, q1, q2⟩
    · rw [p1_ne (by decide)]; exact T35
    · rw [p1_ne (by decide)]; exact T36
    · rw [p1_ni (by decide)]; exact T5
    · rw [p1_eq, if_neg w]
    · rw [p1_at, if_neg (by omega)]; exact To k q (by omega) n2
end O8
