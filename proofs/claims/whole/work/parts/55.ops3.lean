/-! total, kind, read, copy, heap -/
section O3
variable {S S' Y Y' : St} {B : Bk}
theorem op3_total {N : Nat} : op_total N RR := by
  intro S Y a1 a2 h
  obtain ⟨B, ok, bx, bY⟩ := h.2.2.2
  have hs1 := bx.2.2.2.2.2.1
  have hs2 := bY.2.2.2.1
  have hsn := ok.2.2.2.1
  have hY : fYs_in Y a1 0 (Y.1 0 18 - 1) = some (if inb a1 (sn B) = true then 1 else 0) := by
    rw [Yin, hs2, in_m1 (by omega)]
  by_cases h1 : inb a1 (sn B) = true
  rotate_left
  · refine ⟨-1, S, Y, ?_, ?_, h⟩
    · unfold fX0_total
      by_cases h0 : a1 < 0
      · rw [if_pos h0]
      · rw [if_neg h0, fX29_howMany, bs, hs1, if_pos ((le_in (by omega) h0).mpr h1)]
    · rw [fY0_total, hY, bs, if_neg h1, if_pos rfl]
  obtain ⟨k, hk, rfl⟩ := inb_ex h1 (by omega)
  have X0 : ∀ r, (Option.bind (fXs_isTotal S a2) fun t5 => if t5 = 0 then some ((-1), S) else Option.bind (fX29_totalOf S (nI k)) fun t8 => Option.bind (fX29_setTotal S (nI k) a2) fun t10 => some (t8, t10)) = r → fX0_total S (nI k) a2 = r := by
    intro r hr
    rw [fX0_total, if_neg (inb_nn h1), fX29_howMany, bs, hs1, if_neg (by rw [nI_leI (by omega) (by omega)]; omega)]
    exact hr
  by_cases h5 : -999 ≤ a2 ∧ a2 ≤ 9999
  rotate_left
  · refine ⟨-1, S, Y, X0 _ (by rw [Xtot, bs, if_neg h5, if_pos rfl]), ?_, h⟩
    rw [fY0_total, hY, bs, if_pos h1, if_neg ne10, Ytot, bs, if_neg h5, if_pos rfl]
  obtain ⟨z, rfl, hz1, hz2⟩ := tot_ex h5
  have ib : inb (nI k) 8 = true := inb_nI (by omega) (by decide)
  have ec : Int32.toNatClampNeg (nI k) = k := cl (by omega)
  have e1 : fX0_total S (nI k) (iI z) = some (S.1 32 k, p1 S 32 k (iI z)) := X0 _ (by
    rw [Xtot, bs, if_pos h5, if_neg ne10]
    simp only [fX29_totalOf, fX29_setTotal, ib, gd_true, ec, bs, nx_eq])
  have e2 : fY0_total Y (nI k) (iI z) = some (Y.1 15 k, p1 Y 15 k (iI z)) := by
    rw [fY0_total, hY, bs, if_pos h1, if_neg ne10, Ytot, bs, if_pos h5, if_neg ne10]
    simp only [ib, gd_true, ec, nx_eq]
  have e3 : Y.1 15 k = S.1 32 k := by rw [(bx.2.2.2.2.2.2 k hk).2.2, (bY.2.2.2.2 k hk).2.2]
  rw [e3] at e2
  refine ⟨_, _, _, e1, e2, RR_newB h (agr_of (frX0_total e1) (by decide) (by decide) (by decide)) (agr_of (frY0_total e2) (by decide) (by decide) (by decide)) ⟨(B.1, B.2.1, (sn B, fun s => if s = k then (sp B s, sl B s, z) else B.2.2.2 s)), ⟨ok.1, ok.2.1, ok.2.2.1, hsn, fun s hs => ?_⟩, ?_, ?_⟩⟩
  · have q := ok.2.2.2.2 s hs
    by_cases e : s = k
    · simp only [sp, sl, tt, if_pos e]
      exact ⟨q.1, q.2.1, q.2.2.1, hz1, hz2⟩
    · simp only [sp, sl, tt, if_neg e]
      exact q
  · obtain ⟨b1, b2, b3, b4, b5, b6, b7⟩ := bx
    refine ⟨fun c hc => ?_, ?_, ?_, fun i hi => ?_, fun v hv => ?_, ?_, fun s hs => ?_⟩
    · repeat rw [p1_ne (by decide)]
      exact b1 c hc
    · rw [p1_ne (by decide)]
      exact b2
    · rw [p1_ne (by decide)]
      exact b3
    · rw [p1_ne (by decide)]
      exact b4 i hi
    · rw [p1_ne (by decide)]
      exact b5 v hv
    · rw [p1_ne (by decide)]
      exact b6
    · have q := b7 s hs
      by_cases e : s = k
      · simp only [sp, sl, tt, if_pos e]
        rw [p1_ne (by decide), p1_ne (by decide), e, p1_eq, ← e]
        exact ⟨q.1, q.2.1, rfl⟩
      · simp only [sp, sl, tt, if_neg e]
        rw [p1_ne (by decide), p1_ne (by decide), p1_ni e]
        exact q
  · obtain ⟨b1, b2, b3, b4, b5⟩ := bY
    refine ⟨fun c hc => ?_, ?_, fun i hi => ?_, ?_, fun s hs => ?_⟩
    · repeat rw [p1_ne (by decide)]
      exact b1 c hc
    · rw [p1_ne (by decide)]
      exact b2
    · rw [p1_ne (by decide)]
      exact b3 i hi
    · rw [p1_ne (by decide)]
      exact b4
    · have q := b5 s hs
      by_cases e : s = k
      · simp only [sp, sl, tt, if_pos e]
        rw [p1_ne (by decide), p1_ne (by decide), e, p1_eq, ← e]
        exact ⟨q.1, q.2.1, rfl⟩
      · simp only [sp, sl, tt, if_neg e]
        rw [p1_ne (by decide), p1_ne (by decide), p1_ni e]
        exact q
theorem cX_k {x y z : Int32} {k a b : Nat} (h : cX x y z k a b) : (k = 6 ∧ x = -1) ∨ (k < 6 ∧ x = nI k) := by
  rcases h with h | h
  · exact Or.inl h
  · exact Or.inr ⟨h.1, h.2.1⟩
theorem cY_k {x y z : Int32} {k a b : Nat} (h : cY x y z k a b) : (k = 6 ∧ x = -9) ∨ (k < 6 ∧ x = nI k) := by
  rcases h with h | h
  · exact Or.inl h
  · exact Or.inr ⟨h.1, h.2.1⟩
theorem X25_isThere (bx : BX S B) {c : Nat} (hc : c < 12) : fX25_isThere S (nI c) = some (if kd B c = 6 then 0 else 1) := by
  unfold fX25_isThere
  rw [inb_nI hc (by decide), gd_true, cl (by omega)]
  rcases cX_k (bx.1 c hc) with ⟨h1, h2⟩ | ⟨h1, h2⟩
  · rw [h2, if_pos rfl, if_pos h1]; rfl
  · rw [h2, if_neg (nI_m1 (by omega)), if_neg (by omega)]; rfl
theorem Y_isThere (bY : BY Y B) {c : Nat} (hc : c < 12) : fY0_isThere Y (nI c) = some (if kd B c = 6 then 0 else 1) := by
  unfold fY0_isThere
  rw [inb_nI hc (by decide), gd_true, cl (by omega)]
  rcases cY_k (bY.1 c hc) with ⟨h1, h2⟩ | ⟨h1, h2⟩
  · rw [h2, if_pos (by decide), if_pos h1]; rfl
  · rw [h2, if_neg (nI_pos (by omega)), if_neg (by omega)]; rfl
theorem refCell (h : RR S Y) (ok : okB B) (bx : BX S B) (bY : BY Y B) (x : Int32) : (∃ v S' Y', fX0_refuseCell S x = some (v, S') ∧ fY0_askedCell Y x = some (v, Y') ∧ v < 0 ∧ RR S' Y') ∨ ∃ c, c < 12 ∧ x = nI c ∧ kd B c < 6 ∧ fX0_refuseCell S x = some (0, S) ∧ fY0_askedCell Y x = some (0, Y) := by
  simp only [fX0_refuseCell, fY0_askedCell, XisCell, YisCell, bs]
  by_cases hb : inb x 12 = true
  · obtain ⟨c, hc, rfl⟩ := inb_ex hb (by decide)
    simp only [if_pos hb, if_neg ne10, X25_isThere bx hc, hb, gd_true, bs, cl (show c < 2 ^ 31 by omega)]
    rcases cY_k (bY.1 c hc) with ⟨h1, h2⟩ | ⟨h1, h2⟩
    · left
      obtain ⟨S', Y', e1, e2, hR'⟩ := found_R h (f := 1) (by decide) (x := 1) rfl
      refine ⟨-3, S', Y', ?_, ?_, by decide, hR'⟩
      · rw [if_pos h1, if_pos rfl, e1]; rfl
      · rw [h2, if_neg (by decide), e2]; rfl
    · right
      refine ⟨c, hc, rfl, h1, ?_, ?_⟩
      · rw [if_neg (show ¬ kd B c = 6 by omega), if_neg ne10]; rfl
      · rw [h2, if_pos (nI_pos' (by omega))]; rfl
  · left
    refine ⟨-1, S, Y, ?_, ?_, by decide, h⟩
    · rw [if_neg hb, if_pos rfl]
    · rw [if_neg hb, if_pos rfl]; rfl
theorem X_kind (bx : BX S B) {c : Nat} (hc : c < 12) (hk : kd B c < 6) : fX25_kindOf S (nI c) = some (nI (kd B c)) := by
  unfold fX25_kindOf
  rw [inb_nI hc (by decide), gd_true, cl (by omega)]
  rcases cX_k (bx.1 c hc) with ⟨h1, h2⟩ | ⟨h1, h2⟩
  · omega
  · rw [h2]
theorem Y_kind (bY : BY Y B) {c : Nat} (hc : c < 12) (hk : kd B c < 6) : Y.1 10 c = nI (kd B c) := by
  rcases cY_k (bY.1 c hc) with ⟨h1, h2⟩ | ⟨h1, h2⟩
  · omega
  · exact h2
theorem op3_kind {N : Nat} : op_kind N RR := by
  intro S Y a1 h
  obtain ⟨B, ok, bx, bY⟩ := h.2.2.2
  simp only [fX0_kind, fY0_kind]
  rcases refCell h ok bx bY a1 with ⟨v, S', Y', e1, e2, hv, hR'⟩ | ⟨c, hc, rfl, hk, e1, e2⟩
  · rw [e1, e2, bs, bs, if_neg (neg0 hv), if_neg (negle hv)]
    exact ⟨v, S', Y', rfl, rfl, hR'⟩
  · rw [e1, e2, bs, bs, if_pos rfl, if_pos (show (0 : Int32) ≤ 0 by decide), X_kind bx hc hk, bs, inb_nI hc (by decide), gd_true, cl (by omega), Y_kind bY hc hk]
    exact ⟨_, S, Y, rfl, rfl, h⟩
theorem sh1 : ∀ c, c < 12 → (1 : Int32) <<< (nI c &&& 31) = nI (2 ^ c) := by decide +kernel
theorem pw12 : ∀ c, c < 12 → 2 ^ c < 4096 := by decide
/-- Cells.write of a kind that is there -/
theorem X25_write_e (S : St) {c k m : Nat} (hc : c < 12) (hk : k < 6) (x y : Int32) (hm : S.1 25 4 = nI m) : fX25_write S (nI c) (nI k) x y = some (p1 (p1 (p1 (p1 S 26 c (nI k)) 27 c x) 28 c y) 25 4 (nI (m ||| 2 ^ c))) := by
  have ib : inb (nI c) 12 = true := inb_nI hc (by decide)
  have e1 : (p1 (p1 (p1 S 26 c (nI k)) 27 c x) 28 c y).1 25 4 = nI m := by
    rw [p1_ne (by decide), p1_ne (by decide), p1_ne (by decide), hm]
  simp only [fX25_write, ib, gd_true, nx_eq, cl (show c < 2 ^ 31 by omega), if_neg (nI_m1 (show k < 2 ^ 31 by omega)), bs, e1, sh1 c hc, fa_or]
/-- a cell's new kind in the book -/
abbrev Bset (B : Bk) (c k a b : Nat) : Bk := (fun d => if d = c then (k, a, b) else B.1 d, B.2)
theorem op3_read {N : Nat} : op_read N RR := by
  intro S Y a1 a2 h
  obtain ⟨B, ok, bx, bY⟩ := h.2.2.2
  by_cases h1 : inb a2 100 = true
  rotate_left
  · refine ⟨-1, S, Y, ?_, ?_, h⟩
    · rw [fX0_read, XisNumber, bs, if_neg h1, if_pos rfl]
    · rw [fY0_read, YisNumber, bs, if_neg h1, if_pos rfl]
  obtain ⟨w, hw, rfl⟩ := inb_ex h1 (by decide)
  rcases refCell h ok bx bY a1 with ⟨v, S', Y', e1, e2, hv, hR'⟩ | ⟨c, hc, rfl, hk, e1, e2⟩
  · refine ⟨v, S', Y', ?_, ?_, hR'⟩
    · rw [fX0_read, XisNumber, bs, if_pos h1, if_neg ne10, e1, bs, if_neg (neg0 hv)]
    · rw [fY0_read, YisNumber, bs, if_pos h1, if_neg ne10, e2, bs, if_neg (negle hv)]
  obtain ⟨m, hm, hm1, hm2⟩ := bx.2.1
  have ib : inb (nI c) 12 = true := inb_nI hc (by decide)
  have f1 : fX0_read S (nI c) (nI w) = some (nI (kd B c), p1 (p1 (p1 (p1 S 26 c (nI 0)) 27 c (nI w)) 28 c (nI w)) 25 4 (nI (m ||| 2 ^ c))) := by
    have ew := X25_write_e S hc (k := 0) (by decide) (nI w) (nI w) hm1
    rw [fX0_read, XisNumber, bs, if_pos h1, if_neg ne10, e1, bs, if_pos rfl, X_kind bx hc hk, bs]
    have ew' : fX25_write S (nI c) 0 (nI w) (nI w) = _ := ew
    rw [ew', bs]
  have f2 : fY0_read Y (nI c) (nI w) = some (nI (kd B c), p1 (p1 (p1 Y 10 c 0) 11 c (nI w)) 12 c (nI w)) := by
    rw [fY0_read, YisNumber, bs, if_pos h1, if_neg ne10, e2, bs, if_pos (show (0 : Int32) ≤ 0 by decide)]
    simp only [ib, gd_true, nx_eq, cl (show c < 2 ^ 31 by omega), Y_kind bY hc hk]
  refine ⟨_, _, _, f1, f2, RR_newB h (agr_of (frX25_write (X25_write_e S hc (k := 0) (by decide) (nI w) (nI w) hm1)) (by decide) (by decide) (by decide)) (agr_of (fr_trans (fr_trans (fr_pa (A := [10, 11, 12]) (F := []) (L := []) (by decide)) (fr_pa (by decide))) (fr_pa (by decide))) (by decide) (by decide) (by decide)) ⟨Bset B c 0 w w, ⟨fun d hd => ?_, ok.2⟩, ?_, ?_⟩⟩
  · by_cases e : d = c
    · simp only [kd, ka, kb, if_pos e]
      exact Or.inr (Or.inl ⟨Or.inl rfl, Nat.le_refl _, hw⟩)
    · simp only [kd, ka, kb, if_neg e]
      exact ok.1 d hd
  · obtain ⟨b1, b2, b3, b4, b5, b6, b7⟩ := bx
    refine ⟨fun d hd => ?_, ⟨m ||| 2 ^ c, ?_, p1_eq, fun d hd => ?_⟩, ?_, fun i hi => ?_, fun v hv => ?_, ?_, fun s hs => ?_⟩
    · by_cases e : d = c
      · subst e
        simp only [kd, ka, kb, if_true]
        rw [p1_ne (by decide), p1_ne (by decide), p1_ne (by decide), p1_eq, p1_ne (by decide), p1_ne (by decide), p1_eq, p1_ne (by decide), p1_eq]
        exact Or.inr ⟨by decide, rfl, fun _ => rfl, fun _ _ => rfl⟩
      · simp only [kd, ka, kb, if_neg e]
        simp only [p1_at]
        simp [e]
        exact b1 d hd
    · exact Nat.or_lt_two_pow (n := 12) hm (pw12 c hc)
    · rw [fb_bit_set, hm2 d hd]
      by_cases e : d = c
      · subst e
        simp [kd]
      · simp [kd, e]
    · repeat rw [p1_ne (by decide)]
      exact b3
    · repeat rw [p1_ne (by decide)]
      exact b4 i hi
    · repeat rw [p1_ne (by decide)]
      exact b5 v hv
    · repeat rw [p1_ne (by decide)]
      exact b6
    · repeat rw [p1_ne (by decide)]
      exact b7 s hs
  · obtain ⟨b1, b2, b3, b4, b5⟩ := bY
    refine ⟨fun d hd => ?_, ?_, fun i hi => ?_, ?_, fun s hs => ?_⟩
    · by_cases e : d = c
      · subst e
        simp only [kd, ka, kb, if_true]
        rw [p1_ne (by decide), p1_ne (by decide), p1_eq, p1_ne (by decide), p1_eq, p1_eq]
        exact Or.inr ⟨by decide, rfl, fun _ => Or.inl rfl, fun _ _ => rfl⟩
      · simp only [kd, ka, kb, if_neg e, p1_at]
        simp [e]
        exact b1 d hd
    · repeat rw [p1_ne (by decide)]
      exact b2
    · repeat rw [p1_ne (by decide)]
      exact b3 i hi
    · repeat rw [p1_ne (by decide)]
      exact b4
    · repeat rw [p1_ne (by decide)]
      exact b5 s hs
end O3
