/-! wrong -/
theorem shl_2 : ∀ n, n < 9 → (1 : Int32) <<< (nI n &&& 31) = nI (2 ^ n) := by decide
def Wr (B : Bk) (S Y : St) : Prop := RR S Y ∧ BX S B ∧ BY Y B ∧ FNX S B
section OW
variable {S S' Y Y' : St} {B : Bk} {out lim : Nat} {lo hi lo' hi' : Nat → Int} {L L' : Nat → Nat → Bool} {τ : Nat → Nat} {w : Option Nat} {W : Option (Nat → Nat)} {a : Acc}
theorem Y_bitsN {N m : Nat} (hN : 61 < N) (hm : m < 2 ^ 31) : fYs_bits N Y (nI m) = some (nI (fb_ct (fun i => m.testBit i) 12)) := by
  have e := count_0 (fun q x y => fYs_bits_L4 N Y (nI m) q x y) 12 (fun i => m.testBit i) (fun n x => by
    show fYs_bits_L4 N Y (nI m) (n + 1) x (nI 12) = _
    rw [fYs_bits_L4, if_pos (by decide)]) (fun n x i hi => by
    show fYs_bits_L4 N Y (nI m) (n + 1) x (nI i) = fYs_bits_L4 N Y (nI m) n _ (nI (i + 1))
    rw [fYs_bits_L4, if_neg (show ¬ (12 : Int32) ≤ nI i from nI_ge hi (by decide)), nx_eq, shbI hm (by omega), nI_1]
    cases m.testBit i <;> rfl) (show 12 < N by omega) 0
  have e2 : fYs_bits_L4 N Y (nI m) N 0 0 = some (nI (0 + fb_ct (fun i => m.testBit i) 12)) := e
  rw [fYs_bits, e2, bs, Nat.zero_add]
theorem wrong_one {N : Nat} (hN : 41000 < N) (ok : okB B) (l2 : lim ≤ 20000) (h : Wr B S Y) {m : Nat} (hm : m < 256) : ∃ S1 S2 Y1 Y2 r, fX33_narrow N S (nI m) = some S1 ∧ fX37_goTo N S1 0 (nI lim) (nI m) = some S2 ∧ fY0_begin N Y (nI lim) (nI m) = some Y1 ∧ fY0_nextFilling N Y1 = some (bI r, Y2) ∧ Wr B S2 Y2 ∧ ((r = true ∧ S2.1 37 14 = 0 ∧ S2.1 37 15 = 1) ∨ (r = false ∧ S2.1 37 15 = 0 ∧ ∃ e, S2.1 37 14 = bI e ∧ Y2.1 0 36 = bI e)) := by
  obtain ⟨hR, bx, bY, fx⟩ := h
  obtain ⟨S1, Y0, L, lo, hi', f1, f2, n⟩ := narrow_R (N := N) (out := m) (by omega) ok (by omega) bx fx bY
  have n' := n
  obtain ⟨n1, n2, n3, n4, n5, n6, n7, n8, n9⟩ := n
  obtain ⟨U, eU, xf⟩ := X_goTo (N := N) (S := S1) (B := B) (out := m) (lim := lim) (w := some 0) (W := none) (L := L) (lo := lo) (hi := hi') (by omega) ok (by omega) (fun i' q => by injection q with q; omega) (by omega) n1 n3 n4 (fun c hc tc v hv => (lfE_n n' hc tc hv).symm) n9 (fun q => absurd q (by simp)) (fun q => absurd q (by simp))
  have eU2 : fX37_goTo N S1 0 (nI lim) (nI m) = some U := eU
  obtain ⟨T, eT, yc, ys⟩ := Y_begin (N := N) (out := m) (lim := lim) (by omega) ok (by omega) f2 n2 n5
  obtain ⟨r, Z, eZ, z1, z0⟩ := Y_next (N := N) (by omega) (by omega) ok (by omega) (by omega) n9 yc ys
  have R1 : RR U Z := RR_ag (RR_ag (RR_ag hR (agr_of (frX33_narrow f1) (by decide) (by decide) (by decide)) agr_refl) (agr_of (frX37_goTo eU2) (by decide) (by decide) (by decide)) (agr_of (frY0_begin eT) (by decide) (by decide) (by decide))) agr_refl (agr_of (frY0_nextFilling eZ) (by decide) (by decide) (by decide))
  have fU : FNX U B := fun c hc tc v hv => by rw [fr_k (frX37_goTo eU2) (by decide) (by decide)]; exact n3 c hc tc v hv
  cases r
  · obtain ⟨b1, b2, b3, e, st', b4, b5, b6⟩ := z0 rfl
    have ef : fin B L m lim (some 0) = (st', [], e, false) := b6 (some 0) []
    rw [ef] at xf
    exact ⟨S1, U, T, Z, false, f1, eU2, eT, eZ, ⟨R1, xf.1, b1, fU⟩, Or.inr ⟨rfl, xf.2.2.2.2.1, e, xf.2.2.2.1, b4⟩⟩
  · obtain ⟨τ, st', R', k1, k2, k3, k4, k5, k6⟩ := z1 rfl
    have ef : fin B L m lim (some 0) = (st', [τ], false, true) := by
      have := k6 (some 0) []
      rw [decide_eq_true (show some 0 = some ([] : List (Nat → Nat)).length from rfl)] at this
      exact this.trans (run_end (a := (st', [τ], false, true)) rfl _)
    rw [ef] at xf
    exact ⟨S1, U, T, Z, true, f1, eU2, eT, eZ, ⟨R1, xf.1, k1.1, fU⟩, Or.inl ⟨rfl, xf.2.2.2.1, xf.2.2.2.2.1⟩⟩
theorem wrong_in {N : Nat} (hN : 41000 < N) (ok : okB B) (l2 : lim ≤ 20000) {k : Nat} (hk : k ≤ 12) : ∀ d m S Y n, m + d = 2 ^ sn B → Wr B S Y → d < n → (∃ v S' Y', fX0_wrong_L42 N (nI lim) (nI (2 ^ sn B)) (nI k) n S (nI m) = some (.inl (v, S')) ∧ fY0_wrong_L21 N (nI lim) (nI k) n Y (nI m) = some (.inl (v, Y')) ∧ RR S' Y') ∨ ∃ S' Y', fX0_wrong_L42 N (nI lim) (nI (2 ^ sn B)) (nI k) n S (nI m) = some (.inr S') ∧ fY0_wrong_L21 N (nI lim) (nI k) n Y (nI m) = some (.inr Y') ∧ Wr B S' Y'
  | d, m, S, Y, 0, _, _, hn => by omega
  | d, m, S, Y, n + 1, hm, h, hn => by
    have h8 := ok.2.2.2.1
    have p8 : (2 : Nat) ^ sn B ≤ 2 ^ 8 := Nat.pow_le_pow_right (by omega) h8
    have y18 := h.2.2.1.2.2.2.1
    rw [fX0_wrong_L42, fY0_wrong_L21, y18, shl_2 (sn B) (by omega)]
    cases d with
    | zero =>
      right
      rw [if_pos (nI_le (by omega) (by omega)), if_pos (nI_le (by omega) (by omega))]
      exact ⟨S, Y, rfl, rfl, h⟩
    | succ d =>
      have cb := fb_ct_le (fun i => m.testBit i) 12
      rw [if_neg (nI_ge (by omega) (by omega)), if_neg (nI_ge (by omega) (by omega)), bc_e, bs, bc_all m (by omega), Y_bitsN (by omega) (by omega), bs, nI_1]
      by_cases q : fb_ct (fun i => m.testBit i) 12 = k
      · rw [if_pos (by rw [q]), if_pos (by rw [q])]
        obtain ⟨S1, S2, Y1, Y2, r, e1, e2, e3, e4, hw, hr⟩ := wrong_one hN ok l2 h (m := m) (by omega)
        rw [e1, bs, e2, bs, e3, bs, e4, bs, fX37_isSpent, fX37_hasReached]
        dsimp only
        rw [if_bI0]
        rcases hr with ⟨rfl, r1, r2⟩ | ⟨rfl, r1, e, r2, r3⟩
        · left
          rw [r1, isb0, gd_true, bs, if_pos rfl, r2, isb1, gd_true, bs, if_neg ne10, if_pos rfl]
          exact ⟨_, _, _, rfl, rfl, hw.1⟩
        · rw [if_neg (by decide), r2, bI_isb, gd_true, bs, r1, isb0, gd_true, bs, r3, if_bI0, if_bI0]
          cases e
          · rw [if_neg (by decide), if_pos rfl, if_neg (by decide)]
            exact wrong_in hN ok l2 hk d (m + 1) S2 Y2 n (by omega) hw (by omega)
          · left
            rw [if_pos rfl, if_pos rfl]
            exact ⟨_, _, _, rfl, rfl, hw.1⟩
      · have q2 : ¬ nI (fb_ct (fun i => m.testBit i) 12) = nI k := by rw [nI_eq (by omega) (by omega)]; exact q
        rw [if_neg q2, if_neg q2]
        exact wrong_in hN ok l2 hk d (m + 1) S Y n (by omega) h (by omega)
theorem wrong_out {N : Nat} (hN : 41000 < N) (ok : okB B) (l2 : lim ≤ 20000) : ∀ d k S Y n, k + d = sn B + 1 → Wr B S Y → d < n → (∃ v S' Y', fX0_wrong_L28 N (nI lim) (nI (2 ^ sn B)) n S (nI k) = some (.inl (v, S')) ∧ fY0_wrong_L11 N (nI lim) n Y (nI k) = some (.inl (v, Y')) ∧ RR S' Y') ∨ ∃ S' Y', fX0_wrong_L28 N (nI lim) (nI (2 ^ sn B)) n S (nI k) = some (.inr S') ∧ fY0_wrong_L11 N (nI lim) n Y (nI k) = some (.inr Y') ∧ RR S' Y'
  | d, k, S, Y, 0, _, _, hn => by omega
  | d, k, S, Y, n + 1, hm, h, hn => by
    have h8 := ok.2.2.2.1
    have p8 : (2 : Nat) ^ sn B ≤ 2 ^ 8 := Nat.pow_le_pow_right (by omega) h8
    have y18 := h.2.2.1.2.2.2.1
    have x29 := h.2.1.2.2.2.2.2.1
    rw [fX0_wrong_L28, fY0_wrong_L11, y18, fX29_howMany, bs, x29]
    cases d with
    | zero =>
      right
      rw [if_pos (nI_lt (by omega) (by omega)), if_pos (nI_lt (by omega) (by omega))]
      exact ⟨S, Y, rfl, rfl, h.1⟩
    | succ d =>
      rw [if_neg (nI_nlt (by omega) (by omega)), if_neg (nI_nlt (by omega) (by omega)), nI_1]
      have e := wrong_in hN ok l2 (k := k) (by omega) (2 ^ sn B) 0 S Y N (by omega) h (by omega)
      have z0 : nI 0 = 0 := rfl
      rw [z0] at e
      rcases e with ⟨v, S', Y', e1, e2, hr⟩ | ⟨S', Y', e1, e2, hr⟩
      · left
        rw [e1, e2, bs, bs]
        exact ⟨v, S', Y', rfl, rfl, hr⟩
      · rw [e1, e2, bs, bs]
        show (∃ v S'' Y'', fX0_wrong_L28 N (nI lim) (nI (2 ^ sn B)) n S' (nI (k + 1)) = _ ∧ fY0_wrong_L11 N (nI lim) n Y' (nI (k + 1)) = _ ∧ _) ∨ ∃ S'' Y'', fX0_wrong_L28 N (nI lim) (nI (2 ^ sn B)) n S' (nI (k + 1)) = _ ∧ fY0_wrong_L11 N (nI lim) n Y' (nI (k + 1)) = _ ∧ _
        exact wrong_out hN ok l2 d (k + 1) S' Y' n (by omega) hr (by omega)
theorem op14_wrong {N : Nat} (hN : 41000 < N) : op_wrong N RR := by
  intro S Y a1 h
  obtain ⟨B, ok, bx, bY⟩ := h.2.2.2
  have h8 := ok.2.2.2.1
  unfold fX0_wrong fY0_wrong
  rcases turns S Y a1 with ⟨q1, q2⟩ | ⟨lim, rfl, l1, l2, q1, q2⟩
  · rw [q1, q2]
    exact ⟨-1, S, Y, rfl, rfl, h⟩
  obtain ⟨S1, lo, hi, f1, b1, f2, x1, w1⟩ := X_look (N := N) (by omega) ok bx
  have hw : Wr B S1 Y := ⟨RR_ag h (agX_look f1) agr_refl, b1, bY, f2⟩
  rw [q1, q2, bs, bs, if_neg ne10, if_neg ne10, f1, bs, fX29_howMany, bs, nx_eq, b1.2.2.2.2.2.1, shl_2 (sn B) (by omega)]
  have e := wrong_out hN ok l2 (sn B + 1) 0 S1 Y N (by omega) hw (by omega)
  have z0 : nI 0 = 0 := rfl
  rw [z0] at e
  rcases e with ⟨v, S', Y', e1, e2, hr⟩ | ⟨S', Y', e1, e2, hr⟩
  · rw [e1, e2, bs, bs]
    exact ⟨v, S', Y', rfl, rfl, hr⟩
  · rw [e1, e2, bs, bs]
    exact ⟨-9, S', Y', rfl, rfl, hr⟩
end OW
