abbrev mA_X0_count : List Nat := [34, 35, 36, 38, 39, 41, 42, 43]
abbrev mF_X0_count : List (Nat × Nat) := [(0, 12), (33, 5), (33, 6), (37, 9), (37, 10), (37, 11), (37, 12), (37, 13), (37, 14), (37, 15)]
abbrev mL_X0_count : List (Nat × Nat) := []
set_option maxRecDepth 100000 in
set_option maxHeartbeats 1000000 in
theorem frX0_count {N : Nat} {S : St} {x1 : Int32} {v : Int32} {S' : St} (h : fX0_count N S x1 = some (v, S')) : fr mA_X0_count mF_X0_count mL_X0_count S S' := by
  unfold fX0_count at h
  have hf : fr mA_X0_count mF_X0_count mL_X0_count S S := fr_refl
  obtain ⟨t1, e2, h⟩ := bd h
  have hf := fr_trans hf (fr_mono (by decide) (by decide) (by decide) (frX0_goThroughAll e2))
  rcases it_or h with ⟨_, h⟩ | ⟨_, h⟩
  · obtain ⟨t3, e4, h⟩ := bd h
    obtain ⟨s5, e6, h⟩ := nx_some h
    have hf := fr_trans hf (fr_eq e6 (fr_pf (by decide)))
    obtain ⟨t7, e8, h⟩ := bd h
    cases h
    exact hf
  · cases h
    exact hf
abbrev mA_X37_writeFilling : List Nat := [3, 4, 5, 6, 7, 8, 9]
abbrev mF_X37_writeFilling : List (Nat × Nat) := []
abbrev mL_X37_writeFilling : List (Nat × Nat) := []
set_option maxRecDepth 100000 in
set_option maxHeartbeats 1000000 in
theorem frX37_writeFilling_L10 {N : Nat} {k1 : Nat} {x3 : Int32} {t : St} : ∀ (n : Nat) (S : St) (x4 : Int32), fX37_writeFilling_L10 N k1 x3 n S x4 = some t → fr mA_X37_writeFilling mF_X37_writeFilling mL_X37_writeFilling S t := by
  intro n
  induction n with
  | zero =>
    intro _ _ h
    cases h
  | succ n ih =>
    intro S x4 h
    rw [fX37_writeFilling_L10] at h
    have hf : fr mA_X37_writeFilling mF_X37_writeFilling mL_X37_writeFilling S S := fr_refl
    rcases it_or h with ⟨_, h⟩ | ⟨_, h⟩
    · cases h
      exact hf
    · obtain ⟨t3, e4, h⟩ := bd h
      obtain ⟨t6, e7, h⟩ := bd h
      obtain ⟨t8, e9, h⟩ := bd h
      have hf := fr_trans hf (fr_mono (by decide) (by decide) (by decide) (frX1_set e9))
      exact fr_trans hf (ih _ _ h)
set_option maxRecDepth 100000 in
set_option maxHeartbeats 1000000 in
theorem frX37_writeFilling {N : Nat} {S : St} {k1 : Nat} {x3 : Int32} {S' : St} (h : fX37_writeFilling N S k1 x3 = some (S')) : fr mA_X37_writeFilling mF_X37_writeFilling mL_X37_writeFilling S S' := by
  unfold fX37_writeFilling at h
  have hf : fr mA_X37_writeFilling mF_X37_writeFilling mL_X37_writeFilling S S := fr_refl
  obtain ⟨t1, e2, h⟩ := bd h
  have hf := fr_trans hf (fr_mono (by decide) (by decide) (by decide) (frX1_make e2))
  obtain ⟨t10, e11, h⟩ := bd h
  have hf := fr_trans hf (frX37_writeFilling_L10 _ _ _ e11)
  cases h
  exact hf
abbrev mA_X37_writeReached : List Nat := [3, 4, 5, 6, 7, 8, 9]
abbrev mF_X37_writeReached : List (Nat × Nat) := []
abbrev mL_X37_writeReached : List (Nat × Nat) := []
set_option maxRecDepth 100000 in
set_option maxHeartbeats 1000000 in
theorem frX37_writeReached {N : Nat} {S : St} {x2 : Int32} {S' : St} (h : fX37_writeReached N S x2 = some (S')) : fr mA_X37_writeReached mF_X37_writeReached mL_X37_writeReached S S' := by
  unfold fX37_writeReached at h
  have hf : fr mA_X37_writeReached mF_X37_writeReached mL_X37_writeReached S S := fr_refl
  obtain ⟨t1, e2, h⟩ := bd h
  have hf := fr_trans hf (fr_mono (by decide) (by decide) (by decide) (frX37_writeFilling e2))
  cases h
  exact hf
abbrev mA_X0_fill : List Nat := [3, 4, 5, 6, 7, 8, 9, 34, 35, 36, 38, 39, 41, 42, 43]
abbrev mF_X0_fill : List (Nat × Nat) := [(33, 5), (33, 6), (37, 9), (37, 10), (37, 11), (37, 12), (37, 13), (37, 14), (37, 15)]
abbrev mL_X0_fill : List (Nat × Nat) := []
set_option maxRecDepth 100000 in
set_option maxHeartbeats 1000000 in
theorem frX0_fill {N : Nat} {S : St} {x1 : Int32} {x2 : Int32} {x3 : Int32} {v : Int32} {S' : St} (h : fX0_fill N S x1 x2 x3 = some (v, S')) : fr mA_X0_fill mF_X0_fill mL_X0_fill S S' := by
  unfold fX0_fill at h
  have hf : fr mA_X0_fill mF_X0_fill mL_X0_fill S S := fr_refl
  rcases it_or h with ⟨_, h⟩ | ⟨_, h⟩
  · cases h
    exact hf
  · obtain ⟨t1, e2, h⟩ := bd h
    rcases it_or h with ⟨_, h⟩ | ⟨_, h⟩
    · cases h
      exact hf
    · obtain ⟨t3, e4, h⟩ := bd h
      rcases it_or h with ⟨_, h⟩ | ⟨_, h⟩
      · cases h
        exact hf
      · obtain ⟨t5, e6, h⟩ := bd h
        have hf := fr_trans hf (fr_mono (by decide) (by decide) (by decide) (frX0_narrowAll e6))
        obtain ⟨t7, e8, h⟩ := bd h
        have hf := fr_trans hf (fr_mono (by decide) (by decide) (by decide) (frX37_goTo e8))
        obtain ⟨t9, e10, h⟩ := bd h
        rcases it_or h with ⟨_, h⟩ | ⟨_, h⟩
        · obtain ⟨t11, e12, h⟩ := bd h
          rcases it_or h with ⟨_, h⟩ | ⟨_, h⟩
          · cases h
            exact hf
          · obtain ⟨t13, e14, h⟩ := bd h
            have hf := fr_trans hf (fr_mono (by decide) (by decide) (by decide) (frX37_writeReached e14))
            cases h
            exact hf
        · cases h
          exact hf
abbrev mA_X0_tellFraction : List Nat := []
abbrev mF_X0_tellFraction : List (Nat × Nat) := []
abbrev mL_X0_tellFraction : List (Nat × Nat) := [(0, 13), (0, 14)]
set_option maxRecDepth 100000 in
set_option maxHeartbeats 1000000 in
theorem frX0_tellFraction {N : Nat} {S : St} {x1 : Int32} {x2 : Int32} {S' : St} (h : fX0_tellFraction N S x1 x2 = some (S')) : fr mA_X0_tellFraction mF_X0_tellFraction mL_X0_tellFraction S S' := by
  unfold fX0_tellFraction at h
  have hf : fr mA_X0_tellFraction mF_X0_tellFraction mL_X0_tellFraction S S := fr_refl
  rcases it_or h with ⟨_, h⟩ | ⟨_, h⟩
  · obtain ⟨s1, e2, h⟩ := nx_some h
    have hf := fr_trans hf (fr_eq e2 (fr_p2 (by decide)))
    obtain ⟨s3, e4, h⟩ := nx_some h
    have hf := fr_trans hf (fr_eq e4 (fr_p2 (by decide)))
    cases h
    exact hf
  · rcases it_or h with ⟨_, h⟩ | ⟨_, h⟩
    · obtain ⟨t5, e6, h⟩ := bd h
      obtain ⟨_, h⟩ := gd_some h
      obtain ⟨s7, e8, h⟩ := nx_some h
      have hf := fr_trans hf (fr_eq e8 (fr_p2 (by decide)))
      obtain ⟨_, h⟩ := gd_some h
      obtain ⟨s9, e10, h⟩ := nx_some h
      have hf := fr_trans hf (fr_eq e10 (fr_p2 (by decide)))
      cases h
      exact hf
    · obtain ⟨s11, e12, h⟩ := nx_some h
      have hf := fr_trans hf (fr_eq e12 (fr_p2 (by decide)))
      obtain ⟨s13, e14, h⟩ := nx_some h
      have hf := fr_trans hf (fr_eq e14 (fr_p2 (by decide)))
      cases h
      exact hf
abbrev mA_X0_could : List Nat := [34, 35, 36, 38, 39, 41, 42, 43, 53]
abbrev mF_X0_could : List (Nat × Nat) := [(0, 11), (33, 5), (33, 6), (37, 9), (37, 10), (37, 11), (37, 12), (37, 13), (37, 14), (37, 15)]
abbrev mL_X0_could : List (Nat × Nat) := [(0, 13), (0, 14)]
set_option maxRecDepth 100000 in
set_option maxHeartbeats 1000000 in
theorem frX0_could {N : Nat} {S : St} {x1 : Int32} {x2 : Int32} {x3 : Int32} {v : Int32} {S' : St} (h : fX0_could N S x1 x2 x3 = some (v, S')) : fr mA_X0_could mF_X0_could mL_X0_could S S' := by
  unfold fX0_could at h
  have hf : fr mA_X0_could mF_X0_could mL_X0_could S S := fr_refl
  obtain ⟨t1, e2, h⟩ := bd h
  rcases it_or h with ⟨_, h⟩ | ⟨_, h⟩
  · cases h
    exact hf
  · obtain ⟨t3, e4, h⟩ := bd h
    rcases it_or h with ⟨_, h⟩ | ⟨_, h⟩
    · cases h
      exact hf
    · obtain ⟨t5, e6, h⟩ := bd h
      have hf := fr_trans hf (fr_mono (by decide) (by decide) (by decide) (frX0_refuseCell e6))
      rcases it_or h with ⟨_, h⟩ | ⟨_, h⟩
      · obtain ⟨t7, e8, h⟩ := bd h
        have hf := fr_trans hf (fr_mono (by decide) (by decide) (by decide) (frX0_goThroughAll e8))
        rcases it_or h with ⟨_, h⟩ | ⟨_, h⟩
        · obtain ⟨t9, e10, h⟩ := bd h
          obtain ⟨t11, e12, h⟩ := bd h
          obtain ⟨t13, e14, h⟩ := bd h
          have hf := fr_trans hf (fr_mono (by decide) (by decide) (by decide) (frX0_tellFraction e14))
          cases h
          exact hf
        · cases h
          exact hf
      · cases h
        exact hf
abbrev mA_X0_must : List Nat := [34, 35, 36, 38, 39, 41, 42, 43, 53]
abbrev mF_X0_must : List (Nat × Nat) := [(0, 11), (0, 12), (33, 5), (33, 6), (37, 9), (37, 10), (37, 11), (37, 12), (37, 13), (37, 14), (37, 15)]
abbrev mL_X0_must : List (Nat × Nat) := []
set_option maxRecDepth 100000 in
set_option maxHeartbeats 1000000 in
theorem frX0_must {N : Nat} {S : St} {x1 : Int32} {x2 : Int32} {v : Int32} {S' : St} (h : fX0_must N S x1 x2 = some (v, S')) : fr mA_X0_must mF_X0_must mL_X0_must S S' := by
  unfold fX0_must at h
  have hf : fr mA_X0_must mF_X0_must mL_X0_must S S := fr_refl
  obtain ⟨t1, e2, h⟩ := bd h
  rcases it_or h with ⟨_, h⟩ | ⟨_, h⟩
  · cases h
    exact hf
  · obtain ⟨t3, e4, h⟩ := bd h
    have hf := fr_trans hf (fr_mono (by decide) (by decide) (by decide) (frX0_refuseCell e4))
    rcases it_or h with ⟨_, h⟩ | ⟨_, h⟩
    · obtain ⟨t5, e6, h⟩ := bd h
      have hf := fr_trans hf (fr_mono (by decide) (by decide) (by decide) (frX0_goThroughAll e6))
      rcases it_or h with ⟨_, h⟩ | ⟨_, h⟩
      · obtain ⟨t7, e8, h⟩ := bd h
        rcases it_or h with ⟨_, h⟩ | ⟨_, h⟩
        · cases h
          exact hf
        · obtain ⟨t9, e10, h⟩ := bd h
          obtain ⟨s11, e12, h⟩ := nx_some h
          have hf := fr_trans hf (fr_eq e12 (fr_pf (by decide)))
          obtain ⟨t13, e14, h⟩ := bd h
          cases h
          exact hf
      · cases h
        exact hf
    · cases h
      exact hf
abbrev mA_X0_sure : List Nat := [34, 35, 36, 38, 39, 41, 42, 43]
abbrev mF_X0_sure : List (Nat × Nat) := [(33, 5), (33, 6), (37, 9), (37, 10), (37, 11), (37, 12), (37, 13), (37, 14), (37, 15)]
abbrev mL_X0_sure : List (Nat × Nat) := []
set_option maxRecDepth 100000 in
set_option maxHeartbeats 1000000 in
theorem frX0_sure {N : Nat} {S : St} {x1 : Int32} {v : Int32} {S' : St} (h : fX0_sure N S x1 = some (v, S')) : fr mA_X0_sure mF_X0_sure mL_X0_sure S S' := by
  unfold fX0_sure at h
  have hf : fr mA_X0_sure mF_X0_sure mL_X0_sure S S := fr_refl
  obtain ⟨t1, e2, h⟩ := bd h
  have hf := fr_trans hf (fr_mono (by decide) (by decide) (by decide) (frX0_goThroughAll e2))
  rcases it_or h with ⟨_, h⟩ | ⟨_, h⟩
  · obtain ⟨t3, e4, h⟩ := bd h
    rcases it_or h with ⟨_, h⟩ | ⟨_, h⟩
    · cases h
      exact hf
    · obtain ⟨t5, e6, h⟩ := bd h
      cases h
      exact hf
  · cases h
    exact hf
abbrev mA_X37_weighBy : List Nat := [40]
abbrev mF_X37_weighBy : List (Nat × Nat) := []
abbrev mL_X37_weighBy : List (Nat × Nat) := []
set_option maxRecDepth 100000 in
set_option maxHeartbeats 1000000 in
theorem frX37_weighBy_L2 {N : Nat} {x2 : Int32} {t : St} : ∀ (n : Nat) (S : St) (x3 : Int32), fX37_weighBy_L2 N x2 n S x3 = some t → fr mA_X37_weighBy mF_X37_weighBy mL_X37_weighBy S t := by
  intro n
  induction n with
  | zero =>
    intro _ _ h
    cases h
  | succ n ih =>
    intro S x3 h
    rw [fX37_weighBy_L2] at h
    have hf : fr mA_X37_weighBy mF_X37_weighBy mL_X37_weighBy S S := fr_refl
    rcases it_or h with ⟨_, h⟩ | ⟨_, h⟩
    · cases h
      exact hf
    · obtain ⟨t1, e2, h⟩ := bd h
      obtain ⟨g3, h⟩ := gd_some h
      obtain ⟨s4, e5, h⟩ := nx_some h
      have hf := fr_trans hf (fr_eq e5 (fr_pa (by decide)))
      exact fr_trans hf (ih _ _ h)
set_option maxRecDepth 100000 in
set_option maxHeartbeats 1000000 in
theorem frX37_weighBy {N : Nat} {S : St} {x2 : Int32} {S' : St} (h : fX37_weighBy N S x2 = some (S')) : fr mA_X37_weighBy mF_X37_weighBy mL_X37_weighBy S S' := by
  unfold fX37_weighBy at h
  have hf : fr mA_X37_weighBy mF_X37_weighBy mL_X37_weighBy S S := fr_refl
  obtain ⟨t6, e7, h⟩ := bd h
  have hf := fr_trans hf (frX37_weighBy_L2 _ _ _ e7)
  cases h
  exact hf
abbrev mA_X37_writeLikeliest : List Nat := [3, 4, 5, 6, 7, 8, 9]
abbrev mF_X37_writeLikeliest : List (Nat × Nat) := []
abbrev mL_X37_writeLikeliest : List (Nat × Nat) := []
set_option maxRecDepth 100000 in
set_option maxHeartbeats 1000000 in
theorem frX37_writeLikeliest {N : Nat} {S : St} {x2 : Int32} {S' : St} (h : fX37_writeLikeliest N S x2 = some (S')) : fr mA_X37_writeLikeliest mF_X37_writeLikeliest mL_X37_writeLikeliest S S' := by
  unfold fX37_writeLikeliest at h
  have hf : fr mA_X37_writeLikeliest mF_X37_writeLikeliest mL_X37_writeLikeliest S S := fr_refl
  obtain ⟨t1, e2, h⟩ := bd h
  have hf := fr_trans hf (fr_mono (by decide) (by decide) (by decide) (frX37_writeFilling e2))
  cases h
  exact hf
abbrev mA_X0_like : List Nat := [3, 4, 5, 6, 7, 8, 9, 34, 35, 36, 38, 39, 40, 41, 42, 43, 53]
abbrev mF_X0_like : List (Nat × Nat) := [(0, 11), (33, 5), (33, 6), (37, 9), (37, 10), (37, 11), (37, 12), (37, 13), (37, 14), (37, 15)]
abbrev mL_X0_like : List (Nat × Nat) := []
set_option maxRecDepth 100000 in
set_option maxHeartbeats 1000000 in
theorem frX0_like {N : Nat} {S : St} {x1 : Int32} {x2 : Int32} {x3 : Int32} {v : Int32} {S' : St} (h : fX0_like N S x1 x2 x3 = some (v, S')) : fr mA_X0_like mF_X0_like mL_X0_like S S' := by
  unfold fX0_like at h
  have hf : fr mA_X0_like mF_X0_like mL_X0_like S S := fr_refl
  obtain ⟨t1, e2, h⟩ := bd h
  rcases it_or h with ⟨_, h⟩ | ⟨_, h⟩
  · cases h
    exact hf
  · obtain ⟨t3, e4, h⟩ := bd h
    rcases it_or h with ⟨_, h⟩ | ⟨_, h⟩
    · cases h
      exact hf
    · obtain ⟨t5, e6, h⟩ := bd h
      have hf := fr_trans hf (fr_mono (by decide) (by decide) (by decide) (frX0_refuseRow e6))
      rcases it_or h with ⟨_, h⟩ | ⟨_, h⟩
      · obtain ⟨t7, e8, h⟩ := bd h
        rcases it_or h with ⟨_, h⟩ | ⟨_, h⟩
        · obtain ⟨t9, e10, h⟩ := bd h
          rcases it_or h with ⟨_, h⟩ | ⟨_, h⟩
          · obtain ⟨t21, e22, h⟩ := bd h
            have hf := fr_trans hf (fr_mono (by decide) (by decide) (by decide) (frX0_found e22))
            cases h
            exact hf
          · obtain ⟨t11, e12, h⟩ := bd h
            have hf := fr_trans hf (fr_mono (by decide) (by decide) (by decide) (frX37_weighBy e12))
            obtain ⟨t13, e14, h⟩ := bd h
            have hf := fr_trans hf (fr_mono (by decide) (by decide) (by decide) (frX0_goThroughAll e14))
            rcases it_or h with ⟨_, h⟩ | ⟨_, h⟩
            · obtain ⟨t15, e16, h⟩ := bd h
              rcases it_or h with ⟨_, h⟩ | ⟨_, h⟩
              · cases h
                exact hf
              · obtain ⟨t17, e18, h⟩ := bd h
                have hf := fr_trans hf (fr_mono (by decide) (by decide) (by decide) (frX37_writeLikeliest e18))
                obtain ⟨t19, e20, h⟩ := bd h
                cases h
                exact hf
            · cases h
              exact hf
        · obtain ⟨t23, e24, h⟩ := bd h
          have hf := fr_trans hf (fr_mono (by decide) (by decide) (by decide) (frX0_found e24))
          cases h
          exact hf
      · cases h
        exact hf
abbrev mA_X0_wrong : List Nat := [34, 35, 36, 38, 39, 41, 42, 43]
abbrev mF_X0_wrong : List (Nat × Nat) := [(33, 5), (33, 6), (37, 9), (37, 10), (37, 11), (37, 12), (37, 13), (37, 14), (37, 15)]
abbrev mL_X0_wrong : List (Nat × Nat) := []
set_option maxRecDepth 100000 in
set_option maxHeartbeats 1000000 in
theorem frX0_wrong_L42 {N : Nat} {x1 : Int32} {x2 : Int32} {x3 : Int32} {t : (Int32 × St) ⊕ (St)} : ∀ (n : Nat) (S : St) (x4 : Int32), fX0_wrong_L42 N x1 x2 x3 n S x4 = some t → (∀ r, t = .inl r → fr mA_X0_wrong mF_X0_wrong mL_X0_wrong S r.2) ∧ (∀ u, t = .inr u → fr mA_X0_wrong mF_X0_wrong mL_X0_wrong S u) := by
  intro n
  induction n with
  | zero =>
    intro _ _ h
    cases h
  | succ n ih =>
    intro S x4 h
    rw [fX0_wrong_L42] at h
    have hf : fr mA_X0_wrong mF_X0_wrong mL_X0_wrong S S := fr_refl
    rcases it_or h with ⟨_, h⟩ | ⟨_, h⟩
    · cases h
      exact ⟨fun r e => (by cases e), fun u e => (by cases e; exact hf)⟩
    · obtain ⟨t10, e11, h⟩ := bd h
      rcases it_or h with ⟨_, h⟩ | ⟨_, h⟩
      · obtain ⟨t12, e13, h⟩ := bd h
        have hf := fr_trans hf (fr_mono (by decide) (by decide) (by decide) (frX33_narrow e13))
        obtain ⟨t14, e15, h⟩ := bd h
        have hf := fr_trans hf (fr_mono (by decide) (by decide) (by decide) (frX37_goTo e15))
        obtain ⟨t16, e17, h⟩ := bd h
        rcases it_or h with ⟨_, h⟩ | ⟨_, h⟩
        · obtain ⟨t18, e19, h⟩ := bd h
          rcases it_or h with ⟨_, h⟩ | ⟨_, h⟩
          · have hi := ih _ _ h
            exact ⟨fun r e => fr_trans hf (hi.1 r e), fun u e => fr_trans hf (hi.2 u e)⟩
          · cases h
            exact ⟨fun r e => (by cases e; exact hf), fun u e => (by cases e)⟩
        · cases h
          exact ⟨fun r e => (by cases e; exact hf), fun u e => (by cases e)⟩
      · have hi := ih _ _ h
        exact ⟨fun r e => fr_trans hf (hi.1 r e), fun u e => fr_trans hf (hi.2 u e)⟩
set_option maxRecDepth 100000 in
set_option maxHeartbeats 1000000 in
theorem frX0_wrong_L28 {N : Nat} {x1 : Int32} {x2 : Int32} {t : (Int32 × St) ⊕ (St)} : ∀ (n : Nat) (S : St) (x3 : Int32), fX0_wrong_L28 N x1 x2 n S x3 = some t → (∀ r, t = .inl r → fr mA_X0_wrong mF_X0_wrong mL_X0_wrong S r.2) ∧ (∀ u, t = .inr u → fr mA_X0_wrong mF_X0_wrong mL_X0_wrong S u) := by
  intro n
  induction n with
  | zero =>
    intro _ _ h
    cases h
  | succ n ih =>
    intro S x3 h
    rw [fX0_wrong_L28] at h
    have hf : fr mA_X0_wrong mF_X0_wrong mL_X0_wrong S S := fr_refl
    obtain ⟨t8, e9, h⟩ := bd h
    rcases it_or h with ⟨_, h⟩ | ⟨_, h⟩
    · cases h
      exact ⟨fun r e => (by cases e), fun u e => (by cases e; exact hf)⟩
    · obtain ⟨t20, e21, h⟩ := bd h
      have hi := frX0_wrong_L42 _ _ _ e21
      cases t20 with
      | inl r =>
        have h := sm2_l h
        cases h
        exact ⟨fun r e => (by cases e; exact fr_trans hf (hi.1 _ rfl)), fun u e => (by cases e)⟩
      | inr u22 =>
        have h := sm2_r h
        have hf := fr_trans hf (hi.2 _ rfl)
        have hi := ih _ _ h
        exact ⟨fun r e => fr_trans hf (hi.1 r e), fun u e => fr_trans hf (hi.2 u e)⟩
set_option maxRecDepth 100000 in
set_option maxHeartbeats 1000000 in
theorem frX0_wrong {N : Nat} {S : St} {x1 : Int32} {v : Int32} {S' : St} (h : fX0_wrong N S x1 = some (v, S')) : fr mA_X0_wrong mF_X0_wrong mL_X0_wrong S S' := by
  unfold fX0_wrong at h
  have hf : fr mA_X0_wrong mF_X0_wrong mL_X0_wrong S S := fr_refl
  obtain ⟨t1, e2, h⟩ := bd h
  rcases it_or h with ⟨_, h⟩ | ⟨_, h⟩
  · cases h
    exact hf
  · obtain ⟨t3, e4, h⟩ := bd h
    have hf := fr_trans hf (fr_mono (by decide) (by decide) (by decide) (frX33_lookAtFirst e4))
    obtain ⟨t5, e6, h⟩ := bd h
    obtain ⟨_, _, h⟩ := nx_some h
    obtain ⟨t23, e24, h⟩ := bd h
    have hi := frX0_wrong_L28 _ _ _ e24
    cases t23 with
    | inl r =>
      have h := sm_l h
      cases h
      exact fr_trans hf (hi.1 _ rfl)
    | inr u25 =>
      have h := sm_r h
      have hf := fr_trans hf (hi.2 _ rfl)
      cases h
      exact hf
abbrev mA_X0_next : List Nat := [34, 35, 36, 38, 39, 41, 42, 43]
abbrev mF_X0_next : List (Nat × Nat) := [(0, 12), (33, 5), (33, 6), (37, 9), (37, 10), (37, 11), (37, 12), (37, 13), (37, 14), (37, 15)]
abbrev mL_X0_next : List (Nat × Nat) := []
set_option maxRecDepth 100000 in
set_option maxHeartbeats 1000000 in
theorem frX0_next {N : Nat} {S : St} {x1 : Int32} {v : Int32} {S' : St} (h : fX0_next N S x1 = some (v, S')) : fr mA_X0_next mF_X0_next mL_X0_next S S' := by
  unfold fX0_next at h
  have hf : fr mA_X0_next mF_X0_next mL_X0_next S S := fr_refl
  obtain ⟨t1, e2, h⟩ := bd h
  have hf := fr_trans hf (fr_mono (by decide) (by decide) (by decide) (frX0_goThroughAll e2))
  rcases it_or h with ⟨_, h⟩ | ⟨_, h⟩
  · obtain ⟨t3, e4, h⟩ := bd h
    rcases it_or h with ⟨_, h⟩ | ⟨_, h⟩
    · cases h
      exact hf
    · obtain ⟨t5, e6, h⟩ := bd h
      obtain ⟨t9, e10, h⟩ := bd h
      have hf : fr mA_X0_next mF_X0_next mL_X0_next S t9 := by
        clear h
        have h := e10
        rcases it_or h with ⟨_, h⟩ | ⟨_, h⟩
        · cases h
          exact hf
        · obtain ⟨s7, e8, h⟩ := nx_some h
          have hf := fr_trans hf (fr_eq e8 (fr_pf (by decide)))
          cases h
          exact hf
      cases h
      exact hf
  · cases h
    exact hf
abbrev mA_X0_judge : List Nat := [53]
abbrev mF_X0_judge : List (Nat × Nat) := [(0, 11)]
abbrev mL_X0_judge : List (Nat × Nat) := []
set_option maxRecDepth 100000 in
set_option maxHeartbeats 1000000 in
theorem frX0_judge_L43 {N : Nat} {S : St} {k3 : Nat} {t : (Int32 × St) ⊕ (Unit)} : ∀ (n : Nat) (x4 : Int32), fX0_judge_L43 N S k3 n x4 = some t → (∀ r, t = .inl r → fr mA_X0_judge mF_X0_judge mL_X0_judge S r.2) ∧ (∀ u, t = .inr u → fr mA_X0_judge mF_X0_judge mL_X0_judge S S) := by
  intro n
  induction n with
  | zero =>
    intro _ h
    cases h
  | succ n ih =>
    intro x4 h
    rw [fX0_judge_L43] at h
    have hf : fr mA_X0_judge mF_X0_judge mL_X0_judge S S := fr_refl
    rcases it_or h with ⟨_, h⟩ | ⟨_, h⟩
    · cases h
      exact ⟨fun r e => (by cases e), fun u e => (by cases e; exact hf)⟩
    · obtain ⟨t7, e8, h⟩ := bd h
      rcases it_or h with ⟨_, h⟩ | ⟨_, h⟩
      · cases h
        exact ⟨fun r e => (by cases e; exact hf), fun u e => (by cases e)⟩
      · exact ih _ h
set_option maxRecDepth 100000 in
set_option maxHeartbeats 1000000 in
theorem frX0_judge_L78 {N : Nat} {S : St} {k3 : Nat} {t : (Int32 × St) ⊕ (Unit)} : ∀ (n : Nat) (x4 : Int32), fX0_judge_L78 N S k3 n x4 = some t → (∀ r, t = .inl r → fr mA_X0_judge mF_X0_judge mL_X0_judge S r.2) ∧ (∀ u, t = .inr u → fr mA_X0_judge mF_X0_judge mL_X0_judge S S) := by
  intro n
  induction n with
  | zero =>
    intro _ h
    cases h
  | succ n ih =>
    intro x4 h
    rw [fX0_judge_L78] at h
    have hf : fr mA_X0_judge mF_X0_judge mL_X0_judge S S := fr_refl
    obtain ⟨t12, e13, h⟩ := bd h
    rcases it_or h with ⟨_, h⟩ | ⟨_, h⟩
    · cases h
      exact ⟨fun r e => (by cases e), fun u e => (by cases e; exact hf)⟩
    · obtain ⟨t14, e15, h⟩ := bd h
      rcases it_or h with ⟨_, h⟩ | ⟨_, h⟩
      · cases h
        exact ⟨fun r e => (by cases e; exact hf), fun u e => (by cases e)⟩
      · exact ih _ h
set_option maxRecDepth 100000 in
set_option maxHeartbeats 1000000 in
theorem frX0_judge {N : Nat} {S : St} {x1 : Int32} {v : Int32} {S' : St} (h : fX0_judge N S x1 = some (v, S')) : fr mA_X0_judge mF_X0_judge mL_X0_judge S S' := by
  unfold fX0_judge at h
  have hf : fr mA_X0_judge mF_X0_judge mL_X0_judge S S := fr_refl
  obtain ⟨t1, e2, h⟩ := bd h
  have hf := fr_trans hf (fr_mono (by decide) (by decide) (by decide) (frX0_refuseRow e2))
  rcases it_or h with ⟨_, h⟩ | ⟨_, h⟩
  · obtain ⟨t3, e4, h⟩ := bd h
    rcases it_or h with ⟨_, h⟩ | ⟨_, h⟩
    · obtain ⟨t5, e6, h⟩ := bd h
      obtain ⟨t9, e10, h⟩ := bd h
      have hi := frX0_judge_L43 _ _ e10
      cases t9 with
      | inl r =>
        have h := sm_l h
        cases h
        exact fr_trans hf (hi.1 _ rfl)
      | inr u11 =>
        have h := sm_r h
        have hf := fr_trans hf (hi.2 _ rfl)
        obtain ⟨t16, e17, h⟩ := bd h
        have hi := frX0_judge_L78 _ _ e17
        cases t16 with
        | inl r =>
          have h := sm_l h
          cases h
          exact fr_trans hf (hi.1 _ rfl)
        | inr u18 =>
          have h := sm_r h
          have hf := fr_trans hf (hi.2 _ rfl)
          cases h
          exact hf
    · obtain ⟨t19, e20, h⟩ := bd h
      have hf := fr_trans hf (fr_mono (by decide) (by decide) (by decide) (frX0_found e20))
      cases h
      exact hf
  · cases h
    exact hf
abbrev mA_X44_place : List Nat := []
abbrev mF_X44_place : List (Nat × Nat) := [(44, 3), (44, 4)]
abbrev mL_X44_place : List (Nat × Nat) := []
set_option maxRecDepth 100000 in
set_option maxHeartbeats 1000000 in
theorem frX44_place_L35 {rec : St → Int32 → Int32 → Int32 → Int32 → Option St} {N : Nat} {x1 : Int32} {x2 : Int32} {x3 : Int32} {x4 : Int32} (hrec : ∀ (S1 S2 : St) (y1 y2 y3 y4 : Int32), rec S1 y1 y2 y3 y4 = some S2 → fr mA_X44_place mF_X44_place mL_X44_place S1 S2) {t : St} : ∀ (n : Nat) (S : St) (x5 : Int32), fX44_place_L35 rec N x1 x2 x3 x4 n S x5 = some t → fr mA_X44_place mF_X44_place mL_X44_place S t := by
  intro n
  induction n with
  | zero =>
    intro _ _ h
    cases h
  | succ n ih =>
    intro S x5 h
    rw [fX44_place_L35] at h
    have hf : fr mA_X44_place mF_X44_place mL_X44_place S S := fr_refl
    rcases it_or h with ⟨_, h⟩ | ⟨_, h⟩
    · cases h
      exact hf
    · obtain ⟨t7, e8, h⟩ := bd h
      have hf : fr mA_X44_place mF_X44_place mL_X44_place S t7 := by
        clear h
        have h := e8
        rcases it_or h with ⟨_, h⟩ | ⟨_, h⟩
        · obtain ⟨g1, h⟩ := gd_some h
          obtain ⟨t2, e3, h⟩ := bd h
          rcases it_or h with ⟨_, h⟩ | ⟨_, h⟩
          · cases h
            exact hf
          · obtain ⟨g4, h⟩ := gd_some h
            obtain ⟨t5, e6, h⟩ := bd h
            have hf := fr_trans hf (hrec _ _ _ _ _ _ e6)
            cases h
            exact hf
        · cases h
          exact hf
      exact fr_trans hf (ih _ _ h)
set_option maxRecDepth 100000 in
set_option maxHeartbeats 1000000 in
theorem frX44_place_B {rec : St → Int32 → Int32 → Int32 → Int32 → Option St} {N : Nat} {S : St} {x1 : Int32} {x2 : Int32} {x3 : Int32} {x4 : Int32} (hrec : ∀ (S1 S2 : St) (y1 y2 y3 y4 : Int32), rec S1 y1 y2 y3 y4 = some S2 → fr mA_X44_place mF_X44_place mL_X44_place S1 S2) {S' : St} (h : fX44_place_B rec N S x1 x2 x3 x4 = some (S')) : fr mA_X44_place mF_X44_place mL_X44_place S S' := by
  unfold fX44_place_B at h
  have hf : fr mA_X44_place mF_X44_place mL_X44_place S S := fr_refl
  rcases it_or h with ⟨_, h⟩ | ⟨_, h⟩
  · obtain ⟨t9, e10, h⟩ := bd h
    have hf := fr_trans hf (frX44_place_L35 hrec _ _ _ e10)
    cases h
    exact hf
  · obtain ⟨t13, e14, h⟩ := bd h
    have hf : fr mA_X44_place mF_X44_place mL_X44_place S t13 := by
      clear h
      have h := e14
      rcases it_or h with ⟨_, h⟩ | ⟨_, h⟩
      · obtain ⟨s11, e12, h⟩ := nx_some h
        have hf := fr_trans hf (fr_eq e12 (fr_pf (by decide)))
        cases h
        exact hf
      · cases h
        exact hf
    obtain ⟨s15, e16, h⟩ := nx_some h
    have hf := fr_trans hf (fr_eq e16 (fr_pf (by decide)))
    cases h
    exact hf
theorem frX44_place_d {N : Nat} : ∀ (d : Nat) (S S' : St) (x1 x2 x3 x4 : Int32), fX44_place N d S x1 x2 x3 x4 = some S' → fr mA_X44_place mF_X44_place mL_X44_place S S'
  | 0, _, _, _, _, _, _, h => by cases h
  | d + 1, S, S', x1, x2, x3, x4, h => by
    rw [fX44_place] at h
    exact frX44_place_B (frX44_place_d d) h
theorem frX44_place {N : Nat} {S S' : St} {x1 x2 x3 x4 : Int32} (h : fX44_place N 7 S x1 x2 x3 x4 = some S') : fr mA_X44_place mF_X44_place mL_X44_place S S' := frX44_place_d _ _ _ _ _ _ _  h
abbrev mA_X44_arrange : List Nat := [45, 46]
abbrev mF_X44_arrange : List (Nat × Nat) := [(44, 2), (44, 3), (44, 4)]
abbrev mL_X44_arrange : List (Nat × Nat) := []
set_option maxRecDepth 100000 in
set_option maxHeartbeats 1000000 in
theorem frX44_arrange_L18 {N : Nat} {x2 : Int32} {t : St} : ∀ (n : Nat) (S : St) (x3 : Int32), fX44_arrange_L18 N x2 n S x3 = some t → fr mA_X44_arrange mF_X44_arrange mL_X44_arrange S t := by
  intro n
  induction n with
  | zero =>
    intro _ _ h
    cases h
  | succ n ih =>
    intro S x3 h
    rw [fX44_arrange_L18] at h
    have hf : fr mA_X44_arrange mF_X44_arrange mL_X44_arrange S S := fr_refl
    rcases it_or h with ⟨_, h⟩ | ⟨_, h⟩
    · cases h
      exact hf
    · obtain ⟨t6, e7, h⟩ := bd h
      obtain ⟨g8, h⟩ := gd_some h
      obtain ⟨s9, e10, h⟩ := nx_some h
      have hf := fr_trans hf (fr_eq e10 (fr_pa (by decide)))
      obtain ⟨t11, e12, h⟩ := bd h
      obtain ⟨g13, h⟩ := gd_some h
      obtain ⟨s14, e15, h⟩ := nx_some h
      have hf := fr_trans hf (fr_eq e15 (fr_pa (by decide)))
      exact fr_trans hf (ih _ _ h)
set_option maxRecDepth 100000 in
set_option maxHeartbeats 1000000 in
theorem frX44_arrange {N : Nat} {S : St} {x2 : Int32} {S' : St} (h : fX44_arrange N S x2 = some (S')) : fr mA_X44_arrange mF_X44_arrange mL_X44_arrange S S' := by
  unfold fX44_arrange at h
  have hf : fr mA_X44_arrange mF_X44_arrange mL_X44_arrange S S := fr_refl
  obtain ⟨t1, e2, h⟩ := bd h
  obtain ⟨_, _, h⟩ := nx_some h
  obtain ⟨s4, e5, h⟩ := nx_some h
  have hf := fr_trans hf (fr_eq e5 (fr_pf (by decide)))
  obtain ⟨t16, e17, h⟩ := bd h
  have hf := fr_trans hf (frX44_arrange_L18 _ _ _ e17)
  obtain ⟨s18, e19, h⟩ := nx_some h
  have hf := fr_trans hf (fr_eq e19 (fr_pf (by decide)))
  obtain ⟨s20, e21, h⟩ := nx_some h
  have hf := fr_trans hf (fr_eq e21 (fr_pf (by decide)))
  obtain ⟨t22, e23, h⟩ := bd h
  have hf := fr_trans hf (fr_mono (by decide) (by decide) (by decide) (frX44_place e23))
  cases h
  exact hf
abbrev mA_X0_orders : List Nat := [45, 46, 53]
abbrev mF_X0_orders : List (Nat × Nat) := [(0, 11), (0, 12), (44, 2), (44, 3), (44, 4)]
abbrev mL_X0_orders : List (Nat × Nat) := []
set_option maxRecDepth 100000 in
set_option maxHeartbeats 1000000 in
theorem frX0_orders_L47 {N : Nat} {S : St} {x1 : Int32} {x3 : Int32} {t : (Int32 × St) ⊕ (Unit)} : ∀ (n : Nat) (x4 : Int32), fX0_orders_L47 N S x1 x3 n x4 = some t → (∀ r, t = .inl r → fr mA_X0_orders mF_X0_orders mL_X0_orders S r.2) ∧ (∀ u, t = .inr u → fr mA_X0_orders mF_X0_orders mL_X0_orders S S) := by
  intro n
  induction n with
  | zero =>
    intro _ h
    cases h
  | succ n ih =>
    intro x4 h
    rw [fX0_orders_L47] at h
    have hf : fr mA_X0_orders mF_X0_orders mL_X0_orders S S := fr_refl
    rcases it_or h with ⟨_, h⟩ | ⟨_, h⟩
    · cases h
      exact ⟨fun r e => (by cases e), fun u e => (by cases e; exact hf)⟩
    · obtain ⟨t9, e10, h⟩ := bd h
      rcases it_or h with ⟨_, h⟩ | ⟨_, h⟩
      · exact ih _ h
      · rcases it_or h with ⟨_, h⟩ | ⟨_, h⟩
        · obtain ⟨t11, e12, h⟩ := bd h
          have hf := fr_trans hf (fr_mono (by decide) (by decide) (by decide) (frX0_found e12))
          cases h
          exact ⟨fun r e => (by cases e; exact hf), fun u e => (by cases e)⟩
        · rcases it_or h with ⟨_, h⟩ | ⟨_, h⟩
          · exact ih _ h
          · obtain ⟨t13, e14, h⟩ := bd h
            have hf := fr_trans hf (fr_mono (by decide) (by decide) (by decide) (frX0_found e14))
            cases h
            exact ⟨fun r e => (by cases e; exact hf), fun u e => (by cases e)⟩
set_option maxRecDepth 100000 in
set_option maxHeartbeats 1000000 in
theorem frX0_orders {N : Nat} {S : St} {x1 : Int32} {v : Int32} {S' : St} (h : fX0_orders N S x1 = some (v, S')) : fr mA_X0_orders mF_X0_orders mL_X0_orders S S' := by
  unfold fX0_orders at h
  have hf : fr mA_X0_orders mF_X0_orders mL_X0_orders S S := fr_refl
  obtain ⟨t1, e2, h⟩ := bd h
  have hf := fr_trans hf (fr_mono (by decide) (by decide) (by decide) (frX0_refuseRow e2))
  rcases it_or h with ⟨_, h⟩ | ⟨_, h⟩
  · obtain ⟨t3, e4, h⟩ := bd h
    rcases it_or h with ⟨_, h⟩ | ⟨_, h⟩
    · obtain ⟨t5, e6, h⟩ := bd h
      have hf := fr_trans hf (fr_mono (by decide) (by decide) (by decide) (frX0_found e6))
      cases h
      exact hf
    · rcases it_or h with ⟨_, h⟩ | ⟨_, h⟩
      · obtain ⟨t7, e8, h⟩ := bd h
        have hf := fr_trans hf (fr_mono (by decide) (by decide) (by decide) (frX0_found e8))
        cases h
        exact hf
      · rcases it_or h with ⟨_, h⟩ | ⟨_, h⟩
        · obtain ⟨t15, e16, h⟩ := bd h
          have hi := frX0_orders_L47 _ _ e16
          cases t15 with
          | inl r =>
            have h := sm_l h
            cases h
            exact fr_trans hf (hi.1 _ rfl)
          | inr u17 =>
            have h := sm_r h
            have hf := fr_trans hf (hi.2 _ rfl)
            obtain ⟨t18, e19, h⟩ := bd h
            have hf := fr_trans hf (fr_mono (by decide) (by decide) (by decide) (frX44_arrange e19))
            obtain ⟨t20, e21, h⟩ := bd h
            obtain ⟨s22, e23, h⟩ := nx_some h
            have hf := fr_trans hf (fr_eq e23 (fr_pf (by decide)))
            obtain ⟨t24, e25, h⟩ := bd h
            cases h
            exact hf
        · obtain ⟨t26, e27, h⟩ := bd h
          have hf := fr_trans hf (fr_mono (by decide) (by decide) (by decide) (frX0_found e27))
          cases h
          exact hf
  · cases h
    exact hf
abbrev mA_X47_findOpenPlaces : List Nat := [48, 49]
abbrev mF_X47_findOpenPlaces : List (Nat × Nat) := [(47, 8)]
abbrev mL_X47_findOpenPlaces : List (Nat × Nat) := []
set_option maxRecDepth 100000 in
set_option maxHeartbeats 1000000 in
theorem frX47_findOpenPlaces_L50 {N : Nat} {x1 : Int32} {t : St} : ∀ (n : Nat) (S : St) (x2 : Int32), fX47_findOpenPlaces_L50 N x1 n S x2 = some t → fr mA_X47_findOpenPlaces mF_X47_findOpenPlaces mL_X47_findOpenPlaces S t := by
  intro n
  induction n with
  | zero =>
    intro _ _ h
    cases h
  | succ n ih =>
    intro S x2 h
    rw [fX47_findOpenPlaces_L50] at h
    have hf : fr mA_X47_findOpenPlaces mF_X47_findOpenPlaces mL_X47_findOpenPlaces S S := fr_refl
    obtain ⟨t11, e12, h⟩ := bd h
    rcases it_or h with ⟨_, h⟩ | ⟨_, h⟩
    · cases h
      exact hf
    · obtain ⟨t13, e14, h⟩ := bd h
      obtain ⟨t15, e16, h⟩ := bd h
      obtain ⟨t21, e22, h⟩ := bd h
      have hf : fr mA_X47_findOpenPlaces mF_X47_findOpenPlaces mL_X47_findOpenPlaces S t21 := by
        clear h
        have h := e22
        rcases it_or h with ⟨_, h⟩ | ⟨_, h⟩
        · cases h
          exact hf
        · obtain ⟨g17, h⟩ := gd_some h
          obtain ⟨g18, h⟩ := gd_some h
          obtain ⟨s19, e20, h⟩ := nx_some h
          have hf := fr_trans hf (fr_eq e20 (fr_pa (by decide)))
          cases h
          exact hf
      exact fr_trans hf (ih _ _ h)
set_option maxRecDepth 100000 in
set_option maxHeartbeats 1000000 in
theorem frX47_findOpenPlaces_L7 {N : Nat}  {t : St} : ∀ (n : Nat) (S : St) (x1 : Int32), fX47_findOpenPlaces_L7 N  n S x1 = some t → fr mA_X47_findOpenPlaces mF_X47_findOpenPlaces mL_X47_findOpenPlaces S t := by
  intro n
  induction n with
  | zero =>
    intro _ _ h
    cases h
  | succ n ih =>
    intro S x1 h
    rw [fX47_findOpenPlaces_L7] at h
    have hf : fr mA_X47_findOpenPlaces mF_X47_findOpenPlaces mL_X47_findOpenPlaces S S := fr_refl
    rcases it_or h with ⟨_, h⟩ | ⟨_, h⟩
    · cases h
      exact hf
    · obtain ⟨t3, e4, h⟩ := bd h
      obtain ⟨t27, e28, h⟩ := bd h
      have hf : fr mA_X47_findOpenPlaces mF_X47_findOpenPlaces mL_X47_findOpenPlaces S t27 := by
        clear h
        have h := e28
        rcases it_or h with ⟨_, h⟩ | ⟨_, h⟩
        · obtain ⟨g5, h⟩ := gd_some h
          obtain ⟨s6, e7, h⟩ := nx_some h
          have hf := fr_trans hf (fr_eq e7 (fr_pa (by decide)))
          obtain ⟨g8, h⟩ := gd_some h
          obtain ⟨s9, e10, h⟩ := nx_some h
          have hf := fr_trans hf (fr_eq e10 (fr_pa (by decide)))
          obtain ⟨t23, e24, h⟩ := bd h
          have hf := fr_trans hf (frX47_findOpenPlaces_L50 _ _ _ e24)
          obtain ⟨s25, e26, h⟩ := nx_some h
          have hf := fr_trans hf (fr_eq e26 (fr_pf (by decide)))
          cases h
          exact hf
        · cases h
          exact hf
      exact fr_trans hf (ih _ _ h)
set_option maxRecDepth 100000 in
set_option maxHeartbeats 1000000 in
theorem frX47_findOpenPlaces {N : Nat} {S : St}  {S' : St} (h : fX47_findOpenPlaces N S = some (S')) : fr mA_X47_findOpenPlaces mF_X47_findOpenPlaces mL_X47_findOpenPlaces S S' := by
  unfold fX47_findOpenPlaces at h
  have hf : fr mA_X47_findOpenPlaces mF_X47_findOpenPlaces mL_X47_findOpenPlaces S S := fr_refl
  obtain ⟨s1, e2, h⟩ := nx_some h
  have hf := fr_trans hf (fr_eq e2 (fr_pf (by decide)))
  obtain ⟨t29, e30, h⟩ := bd h
  have hf := fr_trans hf (frX47_findOpenPlaces_L7 _ _ _ e30)
  cases h
  exact hf
abbrev mA_X47_findReached : List Nat := [51]
abbrev mF_X47_findReached : List (Nat × Nat) := []
abbrev mL_X47_findReached : List (Nat × Nat) := []
set_option maxRecDepth 100000 in
set_option maxHeartbeats 1000000 in
theorem frX47_findReached_L2 {N : Nat}  {t : St} : ∀ (n : Nat) (S : St) (x1 : Int32), fX47_findReached_L2 N  n S x1 = some t → fr mA_X47_findReached mF_X47_findReached mL_X47_findReached S t := by
  intro n
  induction n with
  | zero =>
    intro _ _ h
    cases h
  | succ n ih =>
    intro S x1 h
    rw [fX47_findReached_L2] at h
    have hf : fr mA_X47_findReached mF_X47_findReached mL_X47_findReached S S := fr_refl
    obtain ⟨t1, e2, h⟩ := bd h
    rcases it_or h with ⟨_, h⟩ | ⟨_, h⟩
    · cases h
      exact hf
    · obtain ⟨t3, e4, h⟩ := bd h
      obtain ⟨g5, h⟩ := gd_some h
      obtain ⟨_, h⟩ := gd_some h
      obtain ⟨s6, e7, h⟩ := nx_some h
      have hf := fr_trans hf (fr_eq e7 (fr_pa (by decide)))
      exact fr_trans hf (ih _ _ h)
set_option maxRecDepth 100000 in
set_option maxHeartbeats 1000000 in
theorem frX47_findReached_L62 {N : Nat} {x1 : Int32} {x2 : Int32} {t : St} : ∀ (n : Nat) (S : St) (x3 : Int32), fX47_findReached_L62 N x1 x2 n S x3 = some t → fr mA_X47_findReached mF_X47_findReached mL_X47_findReached S t := by
  intro n
  induction n with
  | zero =>
    intro _ _ h
    cases h
  | succ n ih =>
    intro S x3 h
    rw [fX47_findReached_L62] at h
    have hf : fr mA_X47_findReached mF_X47_findReached mL_X47_findReached S S := fr_refl
    rcases it_or h with ⟨_, h⟩ | ⟨_, h⟩
    · cases h
      exact hf
    · rcases it_or h with ⟨_, h⟩ | ⟨_, h⟩
      · cases h
        exact hf
      · obtain ⟨t20, e21, h⟩ := bd h
        have hf : fr mA_X47_findReached mF_X47_findReached mL_X47_findReached S t20 := by
          clear h
          have h := e21
          rcases it_or h with ⟨_, h⟩ | ⟨_, h⟩
          · cases h
            exact hf
          · obtain ⟨g17, h⟩ := gd_some h
            obtain ⟨s18, e19, h⟩ := nx_some h
            have hf := fr_trans hf (fr_eq e19 (fr_pa (by decide)))
            cases h
            exact hf
        exact fr_trans hf (ih _ _ h)
set_option maxRecDepth 100000 in
set_option maxHeartbeats 1000000 in
theorem frX47_findReached_L33 {N : Nat}  {t : St} : ∀ (n : Nat) (S : St) (x1 : Int32), fX47_findReached_L33 N  n S x1 = some t → fr mA_X47_findReached mF_X47_findReached mL_X47_findReached S t := by
  intro n
  induction n with
  | zero =>
    intro _ _ h
    cases h
  | succ n ih =>
    intro S x1 h
    rw [fX47_findReached_L33] at h
    have hf : fr mA_X47_findReached mF_X47_findReached mL_X47_findReached S S := fr_refl
    obtain ⟨t10, e11, h⟩ := bd h
    rcases it_or h with ⟨_, h⟩ | ⟨_, h⟩
    · cases h
      exact hf
    · obtain ⟨g12, h⟩ := gd_some h
      obtain ⟨t15, e16, h⟩ := bd h
      obtain ⟨t22, e23, h⟩ := bd h
      have hf := fr_trans hf (frX47_findReached_L62 _ _ _ e23)
      exact fr_trans hf (ih _ _ h)
set_option maxRecDepth 100000 in
set_option maxHeartbeats 1000000 in
theorem frX47_findReached {N : Nat} {S : St}  {S' : St} (h : fX47_findReached N S = some (S')) : fr mA_X47_findReached mF_X47_findReached mL_X47_findReached S S' := by
  unfold fX47_findReached at h
  have hf : fr mA_X47_findReached mF_X47_findReached mL_X47_findReached S S := fr_refl
  obtain ⟨t8, e9, h⟩ := bd h
  have hf := fr_trans hf (frX47_findReached_L2 _ _ _ e9)
  obtain ⟨t24, e25, h⟩ := bd h
  have hf := fr_trans hf (frX47_findReached_L33 _ _ _ e25)
  cases h
  exact hf
abbrev mA_X47_countBehind : List Nat := [52]
abbrev mF_X47_countBehind : List (Nat × Nat) := []
abbrev mL_X47_countBehind : List (Nat × Nat) := []
set_option maxRecDepth 100000 in
set_option maxHeartbeats 1000000 in
theorem frX47_countBehind_L41 {N : Nat} {x1 : Int32} {x2 : Int32} {t : St} : ∀ (n : Nat) (S : St) (x3 : Int32), fX47_countBehind_L41 N x1 x2 n S x3 = some t → fr mA_X47_countBehind mF_X47_countBehind mL_X47_countBehind S t := by
  intro n
  induction n with
  | zero =>
    intro _ _ h
    cases h
  | succ n ih =>
    intro S x3 h
    rw [fX47_countBehind_L41] at h
    have hf : fr mA_X47_countBehind mF_X47_countBehind mL_X47_countBehind S S := fr_refl
    rcases it_or h with ⟨_, h⟩ | ⟨_, h⟩
    · cases h
      exact hf
    · rcases it_or h with ⟨_, h⟩ | ⟨_, h⟩
      · cases h
        exact hf
      · obtain ⟨t17, e18, h⟩ := bd h
        have hf : fr mA_X47_countBehind mF_X47_countBehind mL_X47_countBehind S t17 := by
          clear h
          have h := e18
          rcases it_or h with ⟨_, h⟩ | ⟨_, h⟩
          · cases h
            exact hf
          · obtain ⟨g12, h⟩ := gd_some h
            obtain ⟨g13, h⟩ := gd_some h
            obtain ⟨g14, h⟩ := gd_some h
            obtain ⟨s15, e16, h⟩ := nx_some h
            have hf := fr_trans hf (fr_eq e16 (fr_pa (by decide)))
            cases h
            exact hf
        exact fr_trans hf (ih _ _ h)
set_option maxRecDepth 100000 in
set_option maxHeartbeats 1000000 in
theorem frX47_countBehind_L7 {N : Nat}  {t : St} : ∀ (n : Nat) (S : St) (x1 : Int32), fX47_countBehind_L7 N  n S x1 = some t → fr mA_X47_countBehind mF_X47_countBehind mL_X47_countBehind S t := by
  intro n
  induction n with
  | zero =>
    intro _ _ h
    cases h
  | succ n ih =>
    intro S x1 h
    rw [fX47_countBehind_L7] at h
    have hf : fr mA_X47_countBehind mF_X47_countBehind mL_X47_countBehind S S := fr_refl
    rcases it_or h with ⟨_, h⟩ | ⟨_, h⟩
    · cases h
      exact hf
    · obtain ⟨t3, e4, h⟩ := bd h
      obtain ⟨t5, e6, h⟩ := bd h
      obtain ⟨g7, h⟩ := gd_some h
      obtain ⟨s8, e9, h⟩ := nx_some h
      have hf := fr_trans hf (fr_eq e9 (fr_pa (by decide)))
      obtain ⟨t10, e11, h⟩ := bd h
      obtain ⟨t19, e20, h⟩ := bd h
      have hf := fr_trans hf (frX47_countBehind_L41 _ _ _ e20)
      exact fr_trans hf (ih _ _ h)
set_option maxRecDepth 100000 in
set_option maxHeartbeats 1000000 in
theorem frX47_countBehind {N : Nat} {S : St}  {S' : St} (h : fX47_countBehind N S = some (S')) : fr mA_X47_countBehind mF_X47_countBehind mL_X47_countBehind S S' := by
  unfold fX47_countBehind at h
  have hf : fr mA_X47_countBehind mF_X47_countBehind mL_X47_countBehind S S := fr_refl
  obtain ⟨t1, e2, h⟩ := bd h
  obtain ⟨t21, e22, h⟩ := bd h
  have hf := fr_trans hf (frX47_countBehind_L7 _ _ _ e22)
  cases h
  exact hf
abbrev mA_X47_match : List Nat := [48, 49, 50, 51, 52]
abbrev mF_X47_match : List (Nat × Nat) := [(47, 8)]
abbrev mL_X47_match : List (Nat × Nat) := []
set_option maxRecDepth 100000 in
set_option maxHeartbeats 1000000 in
theorem frX47_match_L14 {N : Nat}  {t : St} : ∀ (n : Nat) (S : St) (x1 : Int32), fX47_match_L14 N  n S x1 = some t → fr mA_X47_match mF_X47_match mL_X47_match S t := by
  intro n
  induction n with
  | zero =>
    intro _ _ h
    cases h
  | succ n ih =>
    intro S x1 h
    rw [fX47_match_L14] at h
    have hf : fr mA_X47_match mF_X47_match mL_X47_match S S := fr_refl
    rcases it_or h with ⟨_, h⟩ | ⟨_, h⟩
    · cases h
      exact hf
    · obtain ⟨t7, e8, h⟩ := bd h
      obtain ⟨g9, h⟩ := gd_some h
      obtain ⟨s10, e11, h⟩ := nx_some h
      have hf := fr_trans hf (fr_eq e11 (fr_pa (by decide)))
      exact fr_trans hf (ih _ _ h)
set_option maxRecDepth 100000 in
set_option maxHeartbeats 1000000 in
theorem frX47_match {N : Nat} {S : St}  {S' : St} (h : fX47_match N S = some (S')) : fr mA_X47_match mF_X47_match mL_X47_match S S' := by
  unfold fX47_match at h
  have hf : fr mA_X47_match mF_X47_match mL_X47_match S S := fr_refl
  obtain ⟨t1, e2, h⟩ := bd h
  have hf := fr_trans hf (fr_mono (by decide) (by decide) (by decide) (frX47_findOpenPlaces e2))
  obtain ⟨t3, e4, h⟩ := bd h
  have hf := fr_trans hf (fr_mono (by decide) (by decide) (by decide) (frX47_findReached e4))
  obtain ⟨t5, e6, h⟩ := bd h
  have hf := fr_trans hf (fr_mono (by decide) (by decide) (by decide) (frX47_countBehind e6))
  obtain ⟨t12, e13, h⟩ := bd h
  have hf := fr_trans hf (frX47_match_L14 _ _ _ e13)
  cases h
  exact hf
abbrev mA_X0_matches : List Nat := [34, 35, 36, 48, 49, 50, 51, 52]
abbrev mF_X0_matches : List (Nat × Nat) := [(0, 12), (33, 5), (33, 6), (47, 8)]
abbrev mL_X0_matches : List (Nat × Nat) := []
set_option maxRecDepth 100000 in
set_option maxHeartbeats 1000000 in
theorem frX0_matches {N : Nat} {S : St}  {v : Int32} {S' : St} (h : fX0_matches N S = some (v, S')) : fr mA_X0_matches mF_X0_matches mL_X0_matches S S' := by
  unfold fX0_matches at h
  have hf : fr mA_X0_matches mF_X0_matches mL_X0_matches S S := fr_refl
  obtain ⟨t1, e2, h⟩ := bd h
  have hf := fr_trans hf (fr_mono (by decide) (by decide) (by decide) (frX0_narrowAll e2))
  obtain ⟨t3, e4, h⟩ := bd h
  have hf := fr_trans hf (fr_mono (by decide) (by decide) (by decide) (frX47_match e4))
  obtain ⟨t5, e6, h⟩ := bd h
  obtain ⟨s7, e8, h⟩ := nx_some h
  have hf := fr_trans hf (fr_eq e8 (fr_pf (by decide)))
  obtain ⟨t9, e10, h⟩ := bd h
  cases h
  exact hf
abbrev mA_X0_digest : List Nat := [34, 35, 36]
abbrev mF_X0_digest : List (Nat × Nat) := [(33, 5), (33, 6)]
abbrev mL_X0_digest : List (Nat × Nat) := []
set_option maxRecDepth 100000 in
set_option maxHeartbeats 1000000 in
theorem frX0_digest {N : Nat} {S : St}  {v : Int64} {S' : St} (h : fX0_digest N S = some (v, S')) : fr mA_X0_digest mF_X0_digest mL_X0_digest S S' := by
  unfold fX0_digest at h
  have hf : fr mA_X0_digest mF_X0_digest mL_X0_digest S S := fr_refl
  obtain ⟨t1, e2, h⟩ := bd h
  obtain ⟨t3, e4, h⟩ := bd h
  have hf := fr_trans hf (fr_mono (by decide) (by decide) (by decide) (frX33_lookAtFirst e4))
  obtain ⟨t5, e6, h⟩ := bd h
  obtain ⟨t7, e8, h⟩ := bd h
  obtain ⟨t9, e10, h⟩ := bd h
  obtain ⟨t11, e12, h⟩ := bd h
  obtain ⟨t13, e14, h⟩ := bd h
  cases h
  exact hf
abbrev mA_Y0_meets : List Nat := [1]
abbrev mF_Y0_meets : List (Nat × Nat) := [(0, 0)]
abbrev mL_Y0_meets : List (Nat × Nat) := []
set_option maxRecDepth 100000 in
set_option maxHeartbeats 1000000 in
theorem frY0_meets {S : St} {x1 : Int32} {v : Int32} {S' : St} (h : fY0_meets S x1 = some (v, S')) : fr mA_Y0_meets mF_Y0_meets mL_Y0_meets S S' := by
  unfold fY0_meets at h
  have hf : fr mA_Y0_meets mF_Y0_meets mL_Y0_meets S S := fr_refl
  obtain ⟨s1, e2, h⟩ := nx_some h
  have hf := fr_trans hf (fr_eq e2 (fr_pf (by decide)))
  obtain ⟨g3, h⟩ := gd_some h
  obtain ⟨g4, h⟩ := gd_some h
  obtain ⟨s5, e6, h⟩ := nx_some h
  have hf := fr_trans hf (fr_eq e6 (fr_pa (by decide)))
  cases h
  exact hf
abbrev mA_Y0_ask : List Nat := []
abbrev mF_Y0_ask : List (Nat × Nat) := [(0, 2)]
abbrev mL_Y0_ask : List (Nat × Nat) := []
set_option maxRecDepth 100000 in
set_option maxHeartbeats 1000000 in
theorem frY0_ask {S : St} {x1 : Int32} {x2 : Int32} {v : Int32} {S' : St} (h : fY0_ask S x1 x2 = some (v, S')) : fr mA_Y0_ask mF_Y0_ask mL_Y0_ask S S' := by
  unfold fY0_ask at h
  have hf : fr mA_Y0_ask mF_Y0_ask mL_Y0_ask S S := fr_refl
  obtain ⟨s1, e2, h⟩ := nx_some h
  have hf := fr_trans hf (fr_eq e2 (fr_pf (by decide)))
  cases h
  exact hf
abbrev mA_Y0_askedRow : List Nat := [1]
abbrev mF_Y0_askedRow : List (Nat × Nat) := [(0, 0)]
abbrev mL_Y0_askedRow : List (Nat × Nat) := []
set_option maxRecDepth 100000 in
set_option maxHeartbeats 1000000 in
theorem frY0_askedRow {S : St} {x1 : Int32} {v : Int32} {S' : St} (h : fY0_askedRow S x1 = some (v, S')) : fr mA_Y0_askedRow mF_Y0_askedRow mL_Y0_askedRow S S' := by
  unfold fY0_askedRow at h
  have hf : fr mA_Y0_askedRow mF_Y0_askedRow mL_Y0_askedRow S S := fr_refl
  obtain ⟨t1, e2, h⟩ := bd h
  obtain ⟨t6, e7, h⟩ := bd h
  have hf : fr mA_Y0_askedRow mF_Y0_askedRow mL_Y0_askedRow S t6.1 := by
    clear h
    have h := e7
    rcases it_or h with ⟨_, h⟩ | ⟨_, h⟩
    · cases h
      exact hf
    · obtain ⟨g3, h⟩ := gd_some h
      rcases it_or h with ⟨_, h⟩ | ⟨_, h⟩
      · cases h
        exact hf
      · obtain ⟨t4, e5, h⟩ := bd h
        have hf := fr_trans hf (fr_mono (by decide) (by decide) (by decide) (frY0_meets e5))
        cases h
        exact hf
  cases h
  exact hf
abbrev mA_Y0_askedText : List Nat := [1]
abbrev mF_Y0_askedText : List (Nat × Nat) := [(0, 0)]
abbrev mL_Y0_askedText : List (Nat × Nat) := []
set_option maxRecDepth 100000 in
set_option maxHeartbeats 1000000 in
theorem frY0_askedText {S : St} {x1 : Int32} {v : Int32} {S' : St} (h : fY0_askedText S x1 = some (v, S')) : fr mA_Y0_askedText mF_Y0_askedText mL_Y0_askedText S S' := by
  unfold fY0_askedText at h
  have hf : fr mA_Y0_askedText mF_Y0_askedText mL_Y0_askedText S S := fr_refl
  obtain ⟨t1, e2, h⟩ := bd h
  obtain ⟨t6, e7, h⟩ := bd h
  have hf : fr mA_Y0_askedText mF_Y0_askedText mL_Y0_askedText S t6.1 := by
    clear h
    have h := e7
    rcases it_or h with ⟨_, h⟩ | ⟨_, h⟩
    · cases h
      exact hf
    · obtain ⟨g3, h⟩ := gd_some h
      rcases it_or h with ⟨_, h⟩ | ⟨_, h⟩
      · cases h
        exact hf
      · obtain ⟨t4, e5, h⟩ := bd h
        have hf := fr_trans hf (fr_mono (by decide) (by decide) (by decide) (frY0_meets e5))
        cases h
        exact hf
  cases h
  exact hf
abbrev mA_Y0_row : List Nat := [1, 2, 3]
abbrev mF_Y0_row : List (Nat × Nat) := [(0, 0)]
abbrev mL_Y0_row : List (Nat × Nat) := []
set_option maxRecDepth 100000 in
set_option maxHeartbeats 1000000 in
theorem frY0_row_L34 {N : Nat} {x1 : Int32} {x2 : Int32} {t : St} : ∀ (n : Nat) (S : St) (x3 : Int32), fY0_row_L34 N x1 x2 n S x3 = some t → fr mA_Y0_row mF_Y0_row mL_Y0_row S t := by
  intro n
  induction n with
  | zero =>
    intro _ _ h
    cases h
  | succ n ih =>
    intro S x3 h
    rw [fY0_row_L34] at h
    have hf : fr mA_Y0_row mF_Y0_row mL_Y0_row S S := fr_refl
    rcases it_or h with ⟨_, h⟩ | ⟨_, h⟩
    · cases h
      exact hf
    · obtain ⟨g6, h⟩ := gd_some h
      obtain ⟨s7, e8, h⟩ := nx_some h
      have hf := fr_trans hf (fr_eq e8 (fr_pa (by decide)))
      exact fr_trans hf (ih _ _ h)
set_option maxRecDepth 100000 in
set_option maxHeartbeats 1000000 in
theorem frY0_row {N : Nat} {S : St} {x1 : Int32} {x2 : Int32} {v : Int32} {S' : St} (h : fY0_row N S x1 x2 = some (v, S')) : fr mA_Y0_row mF_Y0_row mL_Y0_row S S' := by
  unfold fY0_row at h
  have hf : fr mA_Y0_row mF_Y0_row mL_Y0_row S S := fr_refl
  obtain ⟨t1, e2, h⟩ := bd h
  rcases it_or h with ⟨_, h⟩ | ⟨_, h⟩
  · cases h
    exact hf
  · rcases it_or h with ⟨_, h⟩ | ⟨_, h⟩
    · rcases it_or h with ⟨_, h⟩ | ⟨_, h⟩
      · obtain ⟨g3, h⟩ := gd_some h
        obtain ⟨s4, e5, h⟩ := nx_some h
        have hf := fr_trans hf (fr_eq e5 (fr_pa (by decide)))
        obtain ⟨t9, e10, h⟩ := bd h
        have hf := fr_trans hf (frY0_row_L34 _ _ _ e10)
        cases h
        exact hf
      · obtain ⟨t11, e12, h⟩ := bd h
        have hf := fr_trans hf (fr_mono (by decide) (by decide) (by decide) (frY0_meets e12))
        cases h
        exact hf
    · cases h
      exact hf
abbrev mA_Y0_at : List Nat := [1]
abbrev mF_Y0_at : List (Nat × Nat) := [(0, 0), (0, 2)]
abbrev mL_Y0_at : List (Nat × Nat) := []
set_option maxRecDepth 100000 in
set_option maxHeartbeats 1000000 in
theorem frY0_at {S : St} {x1 : Int32} {x2 : Int32} {v : Int32} {S' : St} (h : fY0_at S x1 x2 = some (v, S')) : fr mA_Y0_at mF_Y0_at mL_Y0_at S S' := by
  unfold fY0_at at h
  have hf : fr mA_Y0_at mF_Y0_at mL_Y0_at S S := fr_refl
  obtain ⟨t1, e2, h⟩ := bd h
  have hf := fr_trans hf (fr_mono (by decide) (by decide) (by decide) (frY0_askedRow e2))
  rcases it_or h with ⟨_, h⟩ | ⟨_, h⟩
  · obtain ⟨g3, h⟩ := gd_some h
    obtain ⟨t4, e5, h⟩ := bd h
    obtain ⟨t12, e13, h⟩ := bd h
    have hf : fr mA_Y0_at mF_Y0_at mL_Y0_at S t12.1 := by
      clear h
      have h := e13
      rcases it_or h with ⟨_, h⟩ | ⟨_, h⟩
      · obtain ⟨t6, e7, h⟩ := bd h
        have hf := fr_trans hf (fr_mono (by decide) (by decide) (by decide) (frY0_meets e7))
        cases h
        exact hf
      · obtain ⟨t8, e9, h⟩ := bd h
        obtain ⟨t10, e11, h⟩ := bd h
        have hf := fr_trans hf (fr_mono (by decide) (by decide) (by decide) (frY0_ask e11))
        cases h
        exact hf
    cases h
    exact hf
  · cases h
    exact hf
abbrev mA_Y0_lay : List Nat := [1, 3]
abbrev mF_Y0_lay : List (Nat × Nat) := [(0, 0), (0, 2)]
abbrev mL_Y0_lay : List (Nat × Nat) := []
set_option maxRecDepth 100000 in
set_option maxHeartbeats 1000000 in
theorem frY0_lay {S : St} {x1 : Int32} {x2 : Int32} {x3 : Int32} {v : Int32} {S' : St} (h : fY0_lay S x1 x2 x3 = some (v, S')) : fr mA_Y0_lay mF_Y0_lay mL_Y0_lay S S' := by
  unfold fY0_lay at h
  have hf : fr mA_Y0_lay mF_Y0_lay mL_Y0_lay S S := fr_refl
  obtain ⟨t1, e2, h⟩ := bd h
  have hf := fr_trans hf (fr_mono (by decide) (by decide) (by decide) (frY0_at e2))
  rcases it_or h with ⟨_, h⟩ | ⟨_, h⟩
  · obtain ⟨g3, h⟩ := gd_some h
    obtain ⟨s4, e5, h⟩ := nx_some h
    have hf := fr_trans hf (fr_eq e5 (fr_pa (by decide)))
    cases h
    exact hf
  · cases h
    exact hf
abbrev mA_Y0_tear : List Nat := [1, 2]
abbrev mF_Y0_tear : List (Nat × Nat) := [(0, 0)]
abbrev mL_Y0_tear : List (Nat × Nat) := []
set_option maxRecDepth 100000 in
set_option maxHeartbeats 1000000 in
theorem frY0_tear {S : St} {x1 : Int32} {v : Int32} {S' : St} (h : fY0_tear S x1 = some (v, S')) : fr mA_Y0_tear mF_Y0_tear mL_Y0_tear S S' := by
  unfold fY0_tear at h
  have hf : fr mA_Y0_tear mF_Y0_tear mL_Y0_tear S S := fr_refl
  obtain ⟨t1, e2, h⟩ := bd h
  have hf := fr_trans hf (fr_mono (by decide) (by decide) (by decide) (frY0_askedRow e2))
  rcases it_or h with ⟨_, h⟩ | ⟨_, h⟩
  · obtain ⟨g3, h⟩ := gd_some h
    obtain ⟨s4, e5, h⟩ := nx_some h
    have hf := fr_trans hf (fr_eq e5 (fr_pa (by decide)))
    cases h
    exact hf
  · cases h
    exact hf
abbrev mA_Y0_copy : List Nat := [1, 3, 4]
abbrev mF_Y0_copy : List (Nat × Nat) := [(0, 0)]
abbrev mL_Y0_copy : List (Nat × Nat) := []
set_option maxRecDepth 100000 in
set_option maxHeartbeats 1000000 in
theorem frY0_copy_L104 {N : Nat} {x1 : Int32} {x2 : Int32} {x3 : Int32} {x4 : Int32} {x5 : Int32} {t : St} : ∀ (n : Nat) (S : St) (x6 : Int32), fY0_copy_L104 N x1 x2 x3 x4 x5 n S x6 = some t → fr mA_Y0_copy mF_Y0_copy mL_Y0_copy S t := by
  intro n
  induction n with
  | zero =>
    intro _ _ h
    cases h
  | succ n ih =>
    intro S x6 h
    rw [fY0_copy_L104] at h
    have hf : fr mA_Y0_copy mF_Y0_copy mL_Y0_copy S S := fr_refl
    rcases it_or h with ⟨_, h⟩ | ⟨_, h⟩
    · cases h
      exact hf
    · obtain ⟨t17, e18, h⟩ := bd h
      obtain ⟨g19, h⟩ := gd_some h
      obtain ⟨s20, e21, h⟩ := nx_some h
      have hf := fr_trans hf (fr_eq e21 (fr_pa (by decide)))
      exact fr_trans hf (ih _ _ h)
set_option maxRecDepth 100000 in
set_option maxHeartbeats 1000000 in
theorem frY0_copy_L136 {N : Nat} {x3 : Int32} {x4 : Int32} {x5 : Int32} {t : St} : ∀ (n : Nat) (S : St) (x6 : Int32), fY0_copy_L136 N x3 x4 x5 n S x6 = some t → fr mA_Y0_copy mF_Y0_copy mL_Y0_copy S t := by
  intro n
  induction n with
  | zero =>
    intro _ _ h
    cases h
  | succ n ih =>
    intro S x6 h
    rw [fY0_copy_L136] at h
    have hf : fr mA_Y0_copy mF_Y0_copy mL_Y0_copy S S := fr_refl
    rcases it_or h with ⟨_, h⟩ | ⟨_, h⟩
    · cases h
      exact hf
    · obtain ⟨g24, h⟩ := gd_some h
      obtain ⟨g25, h⟩ := gd_some h
      obtain ⟨s26, e27, h⟩ := nx_some h
      have hf := fr_trans hf (fr_eq e27 (fr_pa (by decide)))
      exact fr_trans hf (ih _ _ h)
set_option maxRecDepth 100000 in
set_option maxHeartbeats 1000000 in
theorem frY0_copy {N : Nat} {S : St} {x1 : Int32} {x2 : Int32} {x3 : Int32} {x4 : Int32} {x5 : Int32} {v : Int32} {S' : St} (h : fY0_copy N S x1 x2 x3 x4 x5 = some (v, S')) : fr mA_Y0_copy mF_Y0_copy mL_Y0_copy S S' := by
  unfold fY0_copy at h
  have hf : fr mA_Y0_copy mF_Y0_copy mL_Y0_copy S S := fr_refl
  obtain ⟨t1, e2, h⟩ := bd h
  rcases it_or h with ⟨_, h⟩ | ⟨_, h⟩
  · cases h
    exact hf
  · obtain ⟨t3, e4, h⟩ := bd h
    rcases it_or h with ⟨_, h⟩ | ⟨_, h⟩
    · cases h
      exact hf
    · rcases it_or h with ⟨_, h⟩ | ⟨_, h⟩
      · obtain ⟨g5, h⟩ := gd_some h
        rcases it_or h with ⟨_, h⟩ | ⟨_, h⟩
        · obtain ⟨t6, e7, h⟩ := bd h
          have hf := fr_trans hf (fr_mono (by decide) (by decide) (by decide) (frY0_meets e7))
          cases h
          exact hf
        · obtain ⟨g8, h⟩ := gd_some h
          rcases it_or h with ⟨_, h⟩ | ⟨_, h⟩
          · rcases it_or h with ⟨_, h⟩ | ⟨_, h⟩
            · obtain ⟨t9, e10, h⟩ := bd h
              have hf := fr_trans hf (fr_mono (by decide) (by decide) (by decide) (frY0_meets e10))
              cases h
              exact hf
            · rcases it_or h with ⟨_, h⟩ | ⟨_, h⟩
              · obtain ⟨t11, e12, h⟩ := bd h
                have hf := fr_trans hf (fr_mono (by decide) (by decide) (by decide) (frY0_meets e12))
                cases h
                exact hf
              · obtain ⟨g13, h⟩ := gd_some h
                rcases it_or h with ⟨_, h⟩ | ⟨_, h⟩
                · obtain ⟨t14, e15, h⟩ := bd h
                  have hf := fr_trans hf (fr_mono (by decide) (by decide) (by decide) (frY0_meets e15))
                  cases h
                  exact hf
                · obtain ⟨g16, h⟩ := gd_some h
                  rcases it_or h with ⟨_, h⟩ | ⟨_, h⟩
                  · obtain ⟨t22, e23, h⟩ := bd h
                    have hf := fr_trans hf (frY0_copy_L104 _ _ _ e23)
                    obtain ⟨t28, e29, h⟩ := bd h
                    have hf := fr_trans hf (frY0_copy_L136 _ _ _ e29)
                    cases h
                    exact hf
                  · obtain ⟨t30, e31, h⟩ := bd h
                    have hf := fr_trans hf (fr_mono (by decide) (by decide) (by decide) (frY0_meets e31))
                    cases h
                    exact hf
          · obtain ⟨t32, e33, h⟩ := bd h
            have hf := fr_trans hf (fr_mono (by decide) (by decide) (by decide) (frY0_meets e33))
            cases h
            exact hf
      · obtain ⟨t34, e35, h⟩ := bd h
        have hf := fr_trans hf (fr_mono (by decide) (by decide) (by decide) (frY0_meets e35))
        cases h
        exact hf
abbrev mA_Y0_mean : List Nat := [1]
abbrev mF_Y0_mean : List (Nat × Nat) := [(0, 0), (0, 2)]
abbrev mL_Y0_mean : List (Nat × Nat) := []
set_option maxRecDepth 100000 in
set_option maxHeartbeats 1000000 in
theorem frY0_mean {N : Nat} {S : St} {x1 : Int32} {v : Int32} {S' : St} (h : fY0_mean N S x1 = some (v, S')) : fr mA_Y0_mean mF_Y0_mean mL_Y0_mean S S' := by
  unfold fY0_mean at h
  have hf : fr mA_Y0_mean mF_Y0_mean mL_Y0_mean S S := fr_refl
  obtain ⟨t1, e2, h⟩ := bd h
  have hf := fr_trans hf (fr_mono (by decide) (by decide) (by decide) (frY0_askedRow e2))
  rcases it_or h with ⟨_, h⟩ | ⟨_, h⟩
  · obtain ⟨t3, e4, h⟩ := bd h
    obtain ⟨g5, h⟩ := gd_some h
    obtain ⟨t11, e12, h⟩ := bd h
    have hf : fr mA_Y0_mean mF_Y0_mean mL_Y0_mean S t11.1 := by
      clear h
      have h := e12
      rcases it_or h with ⟨_, h⟩ | ⟨_, h⟩
      · obtain ⟨t9, e10, h⟩ := bd h
        have hf := fr_trans hf (fr_mono (by decide) (by decide) (by decide) (frY0_meets e10))
        cases h
        exact hf
      · obtain ⟨g6, h⟩ := gd_some h
        obtain ⟨_, h⟩ := gd_some h
        obtain ⟨t7, e8, h⟩ := bd h
        have hf := fr_trans hf (fr_mono (by decide) (by decide) (by decide) (frY0_ask e8))
        cases h
        exact hf
    cases h
    exact hf
  · cases h
    exact hf
abbrev mA_Y0_text : List Nat := [1, 5, 6]
abbrev mF_Y0_text : List (Nat × Nat) := [(0, 0)]
abbrev mL_Y0_text : List (Nat × Nat) := []
set_option maxRecDepth 100000 in
set_option maxHeartbeats 1000000 in
theorem frY0_text_L34 {N : Nat} {x1 : Int32} {x2 : Int32} {t : St} : ∀ (n : Nat) (S : St) (x3 : Int32), fY0_text_L34 N x1 x2 n S x3 = some t → fr mA_Y0_text mF_Y0_text mL_Y0_text S t := by
  intro n
  induction n with
  | zero =>
    intro _ _ h
    cases h
  | succ n ih =>
    intro S x3 h
    rw [fY0_text_L34] at h
    have hf : fr mA_Y0_text mF_Y0_text mL_Y0_text S S := fr_refl
    rcases it_or h with ⟨_, h⟩ | ⟨_, h⟩
    · cases h
      exact hf
    · obtain ⟨g6, h⟩ := gd_some h
      obtain ⟨s7, e8, h⟩ := nx_some h
      have hf := fr_trans hf (fr_eq e8 (fr_pa (by decide)))
      exact fr_trans hf (ih _ _ h)
set_option maxRecDepth 100000 in
set_option maxHeartbeats 1000000 in
theorem frY0_text {N : Nat} {S : St} {x1 : Int32} {x2 : Int32} {v : Int32} {S' : St} (h : fY0_text N S x1 x2 = some (v, S')) : fr mA_Y0_text mF_Y0_text mL_Y0_text S S' := by
  unfold fY0_text at h
  have hf : fr mA_Y0_text mF_Y0_text mL_Y0_text S S := fr_refl
  obtain ⟨t1, e2, h⟩ := bd h
  rcases it_or h with ⟨_, h⟩ | ⟨_, h⟩
  · cases h
    exact hf
  · rcases it_or h with ⟨_, h⟩ | ⟨_, h⟩
    · rcases it_or h with ⟨_, h⟩ | ⟨_, h⟩
      · obtain ⟨g3, h⟩ := gd_some h
        obtain ⟨s4, e5, h⟩ := nx_some h
        have hf := fr_trans hf (fr_eq e5 (fr_pa (by decide)))
        obtain ⟨t9, e10, h⟩ := bd h
        have hf := fr_trans hf (frY0_text_L34 _ _ _ e10)
        cases h
        exact hf
      · obtain ⟨t11, e12, h⟩ := bd h
        have hf := fr_trans hf (fr_mono (by decide) (by decide) (by decide) (frY0_meets e12))
        cases h
        exact hf
    · cases h
      exact hf
abbrev mA_Y0_put : List Nat := [1, 6]
abbrev mF_Y0_put : List (Nat × Nat) := [(0, 0)]
abbrev mL_Y0_put : List (Nat × Nat) := []
set_option maxRecDepth 100000 in
set_option maxHeartbeats 1000000 in
theorem frY0_put {S : St} {x1 : Int32} {x2 : Int32} {x3 : Int32} {v : Int32} {S' : St} (h : fY0_put S x1 x2 x3 = some (v, S')) : fr mA_Y0_put mF_Y0_put mL_Y0_put S S' := by
  unfold fY0_put at h
  have hf : fr mA_Y0_put mF_Y0_put mL_Y0_put S S := fr_refl
  obtain ⟨t1, e2, h⟩ := bd h
  have hf := fr_trans hf (fr_mono (by decide) (by decide) (by decide) (frY0_askedText e2))
  rcases it_or h with ⟨_, h⟩ | ⟨_, h⟩
  · obtain ⟨g3, h⟩ := gd_some h
    obtain ⟨t4, e5, h⟩ := bd h
    rcases it_or h with ⟨_, h⟩ | ⟨_, h⟩
    · obtain ⟨t11, e12, h⟩ := bd h
      have hf := fr_trans hf (fr_mono (by decide) (by decide) (by decide) (frY0_meets e12))
      cases h
      exact hf
    · obtain ⟨g6, h⟩ := gd_some h
      obtain ⟨_, _, h⟩ := nx_some h
      obtain ⟨g8, h⟩ := gd_some h
      obtain ⟨s9, e10, h⟩ := nx_some h
      have hf := fr_trans hf (fr_eq e10 (fr_pa (by decide)))
      cases h
      exact hf
  · cases h
    exact hf
abbrev mA_Y0_readsByte : List Nat := []
abbrev mF_Y0_readsByte : List (Nat × Nat) := [(0, 13)]
abbrev mL_Y0_readsByte : List (Nat × Nat) := []
set_option maxRecDepth 100000 in
set_option maxHeartbeats 1000000 in
theorem frY0_readsByte {S : St} {x1 : Int32} {x2 : Int32} {v : Int32} {S' : St} (h : fY0_readsByte S x1 x2 = some (v, S')) : fr mA_Y0_readsByte mF_Y0_readsByte mL_Y0_readsByte S S' := by
  unfold fY0_readsByte at h
  have hf : fr mA_Y0_readsByte mF_Y0_readsByte mL_Y0_readsByte S S := fr_refl
  obtain ⟨t1, e2, h⟩ := bd h
  obtain ⟨t3, e4, h⟩ := bd h
  obtain ⟨t5, e6, h⟩ := bd h
  obtain ⟨s7, e8, h⟩ := nx_some h
  have hf := fr_trans hf (fr_eq e8 (fr_pf (by decide)))
  obtain ⟨_, h⟩ := gd_some h
  cases h
  exact hf
abbrev mA_Y0_readsNumber : List Nat := []
abbrev mF_Y0_readsNumber : List (Nat × Nat) := [(0, 13), (0, 14)]
abbrev mL_Y0_readsNumber : List (Nat × Nat) := []
set_option maxRecDepth 100000 in
set_option maxHeartbeats 1000000 in
theorem frY0_readsNumber_L10 {N : Nat} {x1 : Int32} {x2 : Int32} {t : St} : ∀ (n : Nat) (S : St), fY0_readsNumber_L10 N x1 x2 n S = some t → fr mA_Y0_readsNumber mF_Y0_readsNumber mL_Y0_readsNumber S t := by
  intro n
  induction n with
  | zero =>
    intro _ h
    cases h
  | succ n ih =>
    intro S h
    rw [fY0_readsNumber_L10] at h
    have hf : fr mA_Y0_readsNumber mF_Y0_readsNumber mL_Y0_readsNumber S S := fr_refl
    rcases it_or h with ⟨_, h⟩ | ⟨_, h⟩
    · cases h
      exact hf
    · obtain ⟨t3, e4, h⟩ := bd h
      obtain ⟨t5, e6, h⟩ := bd h
      rcases it_or h with ⟨_, h⟩ | ⟨_, h⟩
      · cases h
        exact hf
      · obtain ⟨t7, e8, h⟩ := bd h
        obtain ⟨s9, e10, h⟩ := nx_some h
        have hf := fr_trans hf (fr_eq e10 (fr_pf (by decide)))
        obtain ⟨s11, e12, h⟩ := nx_some h
        have hf := fr_trans hf (fr_eq e12 (fr_pf (by decide)))
        exact fr_trans hf (ih _ h)
set_option maxRecDepth 100000 in
set_option maxHeartbeats 1000000 in
theorem frY0_readsNumber {N : Nat} {S : St} {x1 : Int32} {v : Int32} {S' : St} (h : fY0_readsNumber N S x1 = some (v, S')) : fr mA_Y0_readsNumber mF_Y0_readsNumber mL_Y0_readsNumber S S' := by
  unfold fY0_readsNumber at h
  have hf : fr mA_Y0_readsNumber mF_Y0_readsNumber mL_Y0_readsNumber S S := fr_refl
  obtain ⟨s1, e2, h⟩ := nx_some h
  have hf := fr_trans hf (fr_eq e2 (fr_pf (by decide)))
  obtain ⟨t13, e14, h⟩ := bd h
  have hf := fr_trans hf (frY0_readsNumber_L10 _ _ e14)
  obtain ⟨t15, e16, h⟩ := bd h
  obtain ⟨_, h⟩ := gd_some h
  cases h
  exact hf
abbrev mA_Y0_readsSpan : List Nat := [8, 9]
abbrev mF_Y0_readsSpan : List (Nat × Nat) := [(0, 13), (0, 14)]
abbrev mL_Y0_readsSpan : List (Nat × Nat) := []
set_option maxRecDepth 100000 in
set_option maxHeartbeats 1000000 in
theorem frY0_readsSpan {N : Nat} {S : St} {x1 : Int32} {x2 : Int32} {v : Int32} {S' : St} (h : fY0_readsSpan N S x1 x2 = some (v, S')) : fr mA_Y0_readsSpan mF_Y0_readsSpan mL_Y0_readsSpan S S' := by
  unfold fY0_readsSpan at h
  have hf : fr mA_Y0_readsSpan mF_Y0_readsSpan mL_Y0_readsSpan S S := fr_refl
  obtain ⟨t1, e2, h⟩ := bd h
  have hf := fr_trans hf (fr_mono (by decide) (by decide) (by decide) (frY0_readsNumber e2))
  rcases it_or h with ⟨_, h⟩ | ⟨_, h⟩
  · cases h
    exact hf
  · obtain ⟨g3, h⟩ := gd_some h
    obtain ⟨s4, e5, h⟩ := nx_some h
    have hf := fr_trans hf (fr_eq e5 (fr_pa (by decide)))
    obtain ⟨t6, e7, h⟩ := bd h
    have hf := fr_trans hf (fr_mono (by decide) (by decide) (by decide) (frY0_readsByte e7))
    rcases it_or h with ⟨_, h⟩ | ⟨_, h⟩
    · cases h
      exact hf
    · obtain ⟨t8, e9, h⟩ := bd h
      have hf := fr_trans hf (fr_mono (by decide) (by decide) (by decide) (frY0_readsNumber e9))
      rcases it_or h with ⟨_, h⟩ | ⟨_, h⟩
      · cases h
        exact hf
      · obtain ⟨g10, h⟩ := gd_some h
        obtain ⟨s11, e12, h⟩ := nx_some h
        have hf := fr_trans hf (fr_eq e12 (fr_pa (by decide)))
        obtain ⟨g13, h⟩ := gd_some h
        obtain ⟨g14, h⟩ := gd_some h
        obtain ⟨t15, e16, h⟩ := bd h
        obtain ⟨_, h⟩ := gd_some h
        cases h
        exact hf
abbrev mA_Y0_readsLetter : List Nat := []
abbrev mF_Y0_readsLetter : List (Nat × Nat) := [(0, 13), (0, 14)]
abbrev mL_Y0_readsLetter : List (Nat × Nat) := []
set_option maxRecDepth 100000 in
set_option maxHeartbeats 1000000 in
theorem frY0_readsLetter {S : St} {x1 : Int32} {x2 : Int32} {v : Int32} {S' : St} (h : fY0_readsLetter S x1 x2 = some (v, S')) : fr mA_Y0_readsLetter mF_Y0_readsLetter mL_Y0_readsLetter S S' := by
  unfold fY0_readsLetter at h
  have hf : fr mA_Y0_readsLetter mF_Y0_readsLetter mL_Y0_readsLetter S S := fr_refl
  obtain ⟨t1, e2, h⟩ := bd h
  obtain ⟨t3, e4, h⟩ := bd h
  rcases it_or h with ⟨_, h⟩ | ⟨_, h⟩
  · cases h
    exact hf
  · obtain ⟨t5, e6, h⟩ := bd h
    obtain ⟨s7, e8, h⟩ := nx_some h
    have hf := fr_trans hf (fr_eq e8 (fr_pf (by decide)))
    obtain ⟨s9, e10, h⟩ := nx_some h
    have hf := fr_trans hf (fr_eq e10 (fr_pf (by decide)))
    obtain ⟨t11, e12, h⟩ := bd h
    obtain ⟨_, h⟩ := gd_some h
    cases h
    exact hf
abbrev mA_Y0_readsItem : List Nat := [8, 9]
abbrev mF_Y0_readsItem : List (Nat × Nat) := [(0, 13), (0, 14)]
abbrev mL_Y0_readsItem : List (Nat × Nat) := []
set_option maxRecDepth 100000 in
set_option maxHeartbeats 1000000 in
theorem frY0_readsItem {N : Nat} {S : St} {x1 : Int32} {x2 : Int32} {v : Int32} {S' : St} (h : fY0_readsItem N S x1 x2 = some (v, S')) : fr mA_Y0_readsItem mF_Y0_readsItem mL_Y0_readsItem S S' := by
  unfold fY0_readsItem at h
  have hf : fr mA_Y0_readsItem mF_Y0_readsItem mL_Y0_readsItem S S := fr_refl
  obtain ⟨t1, e2, h⟩ := bd h
  have hf := fr_trans hf (fr_mono (by decide) (by decide) (by decide) (frY0_readsByte e2))
  rcases it_or h with ⟨_, h⟩ | ⟨_, h⟩
  · obtain ⟨t3, e4, h⟩ := bd h
    have hf := fr_trans hf (fr_mono (by decide) (by decide) (by decide) (frY0_readsByte e4))
    rcases it_or h with ⟨_, h⟩ | ⟨_, h⟩
    · obtain ⟨t5, e6, h⟩ := bd h
      have hf := fr_trans hf (fr_mono (by decide) (by decide) (by decide) (frY0_readsByte e6))
      rcases it_or h with ⟨_, h⟩ | ⟨_, h⟩
      · obtain ⟨t7, e8, h⟩ := bd h
        have hf := fr_trans hf (fr_mono (by decide) (by decide) (by decide) (frY0_readsByte e8))
        rcases it_or h with ⟨_, h⟩ | ⟨_, h⟩
        · obtain ⟨t9, e10, h⟩ := bd h
          have hf := fr_trans hf (fr_mono (by decide) (by decide) (by decide) (frY0_readsByte e10))
          rcases it_or h with ⟨_, h⟩ | ⟨_, h⟩
          · obtain ⟨t11, e12, h⟩ := bd h
            have hf := fr_trans hf (fr_mono (by decide) (by decide) (by decide) (frY0_readsByte e12))
            rcases it_or h with ⟨_, h⟩ | ⟨_, h⟩
            · cases h
              exact hf
            · obtain ⟨t13, e14, h⟩ := bd h
              have hf := fr_trans hf (fr_mono (by decide) (by decide) (by decide) (frY0_readsLetter e14))
              rcases it_or h with ⟨_, h⟩ | ⟨_, h⟩
              · cases h
                exact hf
              · obtain ⟨g15, h⟩ := gd_some h
                obtain ⟨s16, e17, h⟩ := nx_some h
                have hf := fr_trans hf (fr_eq e17 (fr_pa (by decide)))
                obtain ⟨t18, e19, h⟩ := bd h
                have hf := fr_trans hf (fr_mono (by decide) (by decide) (by decide) (frY0_readsLetter e19))
                rcases it_or h with ⟨_, h⟩ | ⟨_, h⟩
                · cases h
                  exact hf
                · obtain ⟨g20, h⟩ := gd_some h
                  obtain ⟨s21, e22, h⟩ := nx_some h
                  have hf := fr_trans hf (fr_eq e22 (fr_pa (by decide)))
                  cases h
                  exact hf
          · obtain ⟨t23, e24, h⟩ := bd h
            have hf := fr_trans hf (fr_mono (by decide) (by decide) (by decide) (frY0_readsLetter e24))
            rcases it_or h with ⟨_, h⟩ | ⟨_, h⟩
            · cases h
              exact hf
            · obtain ⟨g25, h⟩ := gd_some h
              obtain ⟨s26, e27, h⟩ := nx_some h
              have hf := fr_trans hf (fr_eq e27 (fr_pa (by decide)))
              cases h
              exact hf
        · obtain ⟨t28, e29, h⟩ := bd h
          rcases it_or h with ⟨_, h⟩ | ⟨_, h⟩
          · cases h
            exact hf
          · obtain ⟨g30, h⟩ := gd_some h
            obtain ⟨s31, e32, h⟩ := nx_some h
            have hf := fr_trans hf (fr_eq e32 (fr_pa (by decide)))
            obtain ⟨t33, e34, h⟩ := bd h
            obtain ⟨g35, h⟩ := gd_some h
            obtain ⟨s36, e37, h⟩ := nx_some h
            have hf := fr_trans hf (fr_eq e37 (fr_pa (by decide)))
            obtain ⟨s38, e39, h⟩ := nx_some h
            have hf := fr_trans hf (fr_eq e39 (fr_pf (by decide)))
            obtain ⟨t40, e41, h⟩ := bd h
            obtain ⟨t53, e54, h⟩ := bd h
            have hf : fr mA_Y0_readsItem mF_Y0_readsItem mL_Y0_readsItem S t53 := by
              clear h
              have h := e54
              rcases it_or h with ⟨_, h⟩ | ⟨_, h⟩
              · cases h
                exact hf
              · obtain ⟨g42, h⟩ := gd_some h
                obtain ⟨g43, h⟩ := gd_some h
                obtain ⟨s44, e45, h⟩ := nx_some h
                have hf := fr_trans hf (fr_eq e45 (fr_pa (by decide)))
                obtain ⟨t46, e47, h⟩ := bd h
                obtain ⟨g48, h⟩ := gd_some h
                obtain ⟨s49, e50, h⟩ := nx_some h
                have hf := fr_trans hf (fr_eq e50 (fr_pa (by decide)))
                obtain ⟨s51, e52, h⟩ := nx_some h
                have hf := fr_trans hf (fr_eq e52 (fr_pf (by decide)))
                cases h
                exact hf
            cases h
            exact hf
      · cases h
        exact hf
    · obtain ⟨t55, e56, h⟩ := bd h
      have hf := fr_trans hf (fr_mono (by decide) (by decide) (by decide) (frY0_readsSpan e56))
      obtain ⟨t57, e58, h⟩ := bd h
      cases h
      exact hf
  · obtain ⟨t59, e60, h⟩ := bd h
    have hf := fr_trans hf (fr_mono (by decide) (by decide) (by decide) (frY0_readsSpan e60))
    obtain ⟨t63, e64, h⟩ := bd h
    have hf : fr mA_Y0_readsItem mF_Y0_readsItem mL_Y0_readsItem S t63.1 := by
      clear h
      have h := e64
      rcases it_or h with ⟨_, h⟩ | ⟨_, h⟩
      · cases h
        exact hf
      · obtain ⟨t61, e62, h⟩ := bd h
        have hf := fr_trans hf (fr_mono (by decide) (by decide) (by decide) (frY0_readsByte e62))
        rcases it_or h with ⟨_, h⟩ | ⟨_, h⟩
        · cases h
          exact hf
        · cases h
          exact hf
    cases h
    exact hf
abbrev mA_Y0_reads : List Nat := [7, 8, 9]
abbrev mF_Y0_reads : List (Nat × Nat) := [(0, 13), (0, 14)]
abbrev mL_Y0_reads : List (Nat × Nat) := []
set_option maxRecDepth 100000 in
set_option maxHeartbeats 1000000 in
theorem frY0_reads_L2 {N : Nat} {x1 : Int32} {t : St} : ∀ (n : Nat) (S : St) (x2 : Int32), fY0_reads_L2 N x1 n S x2 = some t → fr mA_Y0_reads mF_Y0_reads mL_Y0_reads S t := by
  intro n
  induction n with
  | zero =>
    intro _ _ h
    cases h
  | succ n ih =>
    intro S x2 h
    rw [fY0_reads_L2] at h
    have hf : fr mA_Y0_reads mF_Y0_reads mL_Y0_reads S S := fr_refl
    rcases it_or h with ⟨_, h⟩ | ⟨_, h⟩
    · cases h
      exact hf
    · obtain ⟨g1, h⟩ := gd_some h
      obtain ⟨s2, e3, h⟩ := nx_some h
      have hf := fr_trans hf (fr_eq e3 (fr_pa (by decide)))
      exact fr_trans hf (ih _ _ h)
set_option maxRecDepth 100000 in
set_option maxHeartbeats 1000000 in
theorem frY0_reads_L27 {N : Nat} {x1 : Int32} {t : (Int32 × St) ⊕ (St)} : ∀ (n : Nat) (S : St), fY0_reads_L27 N x1 n S = some t → (∀ r, t = .inl r → fr mA_Y0_reads mF_Y0_reads mL_Y0_reads S r.2) ∧ (∀ u, t = .inr u → fr mA_Y0_reads mF_Y0_reads mL_Y0_reads S u) := by
  intro n
  induction n with
  | zero =>
    intro _ h
    cases h
  | succ n ih =>
    intro S h
    rw [fY0_reads_L27] at h
    have hf : fr mA_Y0_reads mF_Y0_reads mL_Y0_reads S S := fr_refl
    obtain ⟨g8, h⟩ := gd_some h
    rcases it_or h with ⟨_, h⟩ | ⟨_, h⟩
    · cases h
      exact ⟨fun r e => (by cases e), fun u e => (by cases e; exact hf)⟩
    · obtain ⟨t9, e10, h⟩ := bd h
      rcases it_or h with ⟨_, h⟩ | ⟨_, h⟩
      · obtain ⟨s24, e25, h⟩ := nx_some h
        have hf := fr_trans hf (fr_eq e25 (fr_pf (by decide)))
        have hi := ih _ h
        exact ⟨fun r e => fr_trans hf (hi.1 r e), fun u e => fr_trans hf (hi.2 u e)⟩
      · obtain ⟨t11, e12, h⟩ := bd h
        obtain ⟨t13, e14, h⟩ := bd h
        rcases it_or h with ⟨_, h⟩ | ⟨_, h⟩
        · cases h
          exact ⟨fun r e => (by cases e; exact hf), fun u e => (by cases e)⟩
        · obtain ⟨t15, e16, h⟩ := bd h
          obtain ⟨s17, e18, h⟩ := nx_some h
          have hf := fr_trans hf (fr_eq e18 (fr_pf (by decide)))
          obtain ⟨t19, e20, h⟩ := bd h
          have hf := fr_trans hf (fr_mono (by decide) (by decide) (by decide) (frY0_readsItem e20))
          rcases it_or h with ⟨_, h⟩ | ⟨_, h⟩
          · obtain ⟨g21, h⟩ := gd_some h
            obtain ⟨s22, e23, h⟩ := nx_some h
            have hf := fr_trans hf (fr_eq e23 (fr_pa (by decide)))
            have hi := ih _ h
            exact ⟨fun r e => fr_trans hf (hi.1 r e), fun u e => fr_trans hf (hi.2 u e)⟩
          · cases h
            exact ⟨fun r e => (by cases e; exact hf), fun u e => (by cases e)⟩
set_option maxRecDepth 100000 in
set_option maxHeartbeats 1000000 in
theorem frY0_reads {N : Nat} {S : St} {x1 : Int32} {v : Int32} {S' : St} (h : fY0_reads N S x1 = some (v, S')) : fr mA_Y0_reads mF_Y0_reads mL_Y0_reads S S' := by
  unfold fY0_reads at h
  have hf : fr mA_Y0_reads mF_Y0_reads mL_Y0_reads S S := fr_refl
  obtain ⟨t4, e5, h⟩ := bd h
  have hf := fr_trans hf (frY0_reads_L2 _ _ _ e5)
  obtain ⟨s6, e7, h⟩ := nx_some h
  have hf := fr_trans hf (fr_eq e7 (fr_pf (by decide)))
  obtain ⟨t26, e27, h⟩ := bd h
  have hi := frY0_reads_L27 _ _ e27
  cases t26 with
  | inl r =>
    have h := sm_l h
    cases h
    exact fr_trans hf (hi.1 _ rfl)
  | inr u28 =>
    have h := sm_r h
    have hf := fr_trans hf (hi.2 _ rfl)
    cases h
    exact hf
abbrev mA_Y0_fault : List Nat := [1, 7, 8, 9]
abbrev mF_Y0_fault : List (Nat × Nat) := [(0, 0), (0, 13), (0, 14)]
abbrev mL_Y0_fault : List (Nat × Nat) := []
set_option maxRecDepth 100000 in
set_option maxHeartbeats 1000000 in
theorem frY0_fault {N : Nat} {S : St} {x1 : Int32} {v : Int32} {S' : St} (h : fY0_fault N S x1 = some (v, S')) : fr mA_Y0_fault mF_Y0_fault mL_Y0_fault S S' := by
  unfold fY0_fault at h
  have hf : fr mA_Y0_fault mF_Y0_fault mL_Y0_fault S S := fr_refl
  obtain ⟨t1, e2, h⟩ := bd h
  have hf := fr_trans hf (fr_mono (by decide) (by decide) (by decide) (frY0_askedText e2))
  obtain ⟨t5, e6, h⟩ := bd h
  have hf : fr mA_Y0_fault mF_Y0_fault mL_Y0_fault S t5.1 := by
    clear h
    have h := e6
    rcases it_or h with ⟨_, h⟩ | ⟨_, h⟩
    · obtain ⟨t3, e4, h⟩ := bd h
      have hf := fr_trans hf (fr_mono (by decide) (by decide) (by decide) (frY0_reads e4))
      cases h
      exact hf
    · cases h
      exact hf
  cases h
  exact hf
abbrev mA_Y0_book : List Nat := [1, 7, 8, 9, 10, 11, 12]
abbrev mF_Y0_book : List (Nat × Nat) := [(0, 0), (0, 13), (0, 14)]
abbrev mL_Y0_book : List (Nat × Nat) := []
set_option maxRecDepth 100000 in
set_option maxHeartbeats 1000000 in
theorem frY0_book_L27 {N : Nat}  {t : St} : ∀ (n : Nat) (S : St) (x3 : Int32), fY0_book_L27 N  n S x3 = some t → fr mA_Y0_book mF_Y0_book mL_Y0_book S t := by
  intro n
  induction n with
  | zero =>
    intro _ _ h
    cases h
  | succ n ih =>
    intro S x3 h
    rw [fY0_book_L27] at h
    have hf : fr mA_Y0_book mF_Y0_book mL_Y0_book S S := fr_refl
    rcases it_or h with ⟨_, h⟩ | ⟨_, h⟩
    · cases h
      exact hf
    · obtain ⟨g5, h⟩ := gd_some h
      obtain ⟨g6, h⟩ := gd_some h
      obtain ⟨s7, e8, h⟩ := nx_some h
      have hf := fr_trans hf (fr_eq e8 (fr_pa (by decide)))
      obtain ⟨g9, h⟩ := gd_some h
      obtain ⟨g10, h⟩ := gd_some h
      obtain ⟨s11, e12, h⟩ := nx_some h
      have hf := fr_trans hf (fr_eq e12 (fr_pa (by decide)))
      obtain ⟨g13, h⟩ := gd_some h
      obtain ⟨g14, h⟩ := gd_some h
      obtain ⟨s15, e16, h⟩ := nx_some h
      have hf := fr_trans hf (fr_eq e16 (fr_pa (by decide)))
      exact fr_trans hf (ih _ _ h)
set_option maxRecDepth 100000 in
set_option maxHeartbeats 1000000 in
theorem frY0_book {N : Nat} {S : St} {x1 : Int32} {v : Int32} {S' : St} (h : fY0_book N S x1 = some (v, S')) : fr mA_Y0_book mF_Y0_book mL_Y0_book S S' := by
  unfold fY0_book at h
  have hf : fr mA_Y0_book mF_Y0_book mL_Y0_book S S := fr_refl
  obtain ⟨t1, e2, h⟩ := bd h
  have hf := fr_trans hf (fr_mono (by decide) (by decide) (by decide) (frY0_askedText e2))
  rcases it_or h with ⟨_, h⟩ | ⟨_, h⟩
  · obtain ⟨t3, e4, h⟩ := bd h
    have hf := fr_trans hf (fr_mono (by decide) (by decide) (by decide) (frY0_reads e4))
    rcases it_or h with ⟨_, h⟩ | ⟨_, h⟩
    · obtain ⟨t17, e18, h⟩ := bd h
      have hf := fr_trans hf (frY0_book_L27 _ _ _ e18)
      obtain ⟨t19, e20, h⟩ := bd h
      cases h
      exact hf
    · cases h
      exact hf
  · cases h
    exact hf
abbrev mA_Y0_sum : List Nat := [13, 14, 15]
abbrev mF_Y0_sum : List (Nat × Nat) := [(0, 18)]
abbrev mL_Y0_sum : List (Nat × Nat) := []
set_option maxRecDepth 100000 in
set_option maxHeartbeats 1000000 in
theorem frY0_sum {S : St} {x1 : Int32} {x2 : Int32} {x3 : Int32} {v : Int32} {S' : St} (h : fY0_sum S x1 x2 x3 = some (v, S')) : fr mA_Y0_sum mF_Y0_sum mL_Y0_sum S S' := by
  unfold fY0_sum at h
  have hf : fr mA_Y0_sum mF_Y0_sum mL_Y0_sum S S := fr_refl
  obtain ⟨t1, e2, h⟩ := bd h
  rcases it_or h with ⟨_, h⟩ | ⟨_, h⟩
  · cases h
    exact hf
  · obtain ⟨t3, e4, h⟩ := bd h
    rcases it_or h with ⟨_, h⟩ | ⟨_, h⟩
    · cases h
      exact hf
    · rcases it_or h with ⟨_, h⟩ | ⟨_, h⟩
      · cases h
        exact hf
      · rcases it_or h with ⟨_, h⟩ | ⟨_, h⟩
        · obtain ⟨t5, e6, h⟩ := bd h
          rcases it_or h with ⟨_, h⟩ | ⟨_, h⟩
          · cases h
            exact hf
          · rcases it_or h with ⟨_, h⟩ | ⟨_, h⟩
            · cases h
              exact hf
            · obtain ⟨g7, h⟩ := gd_some h
              obtain ⟨s8, e9, h⟩ := nx_some h
              have hf := fr_trans hf (fr_eq e9 (fr_pa (by decide)))
              obtain ⟨g10, h⟩ := gd_some h
              obtain ⟨s11, e12, h⟩ := nx_some h
              have hf := fr_trans hf (fr_eq e12 (fr_pa (by decide)))
              obtain ⟨g13, h⟩ := gd_some h
              obtain ⟨s14, e15, h⟩ := nx_some h
              have hf := fr_trans hf (fr_eq e15 (fr_pa (by decide)))
              obtain ⟨s16, e17, h⟩ := nx_some h
              have hf := fr_trans hf (fr_eq e17 (fr_pf (by decide)))
              cases h
              exact hf
        · cases h
          exact hf
abbrev mA_Y0_total : List Nat := [15]
abbrev mF_Y0_total : List (Nat × Nat) := []
abbrev mL_Y0_total : List (Nat × Nat) := []
set_option maxRecDepth 100000 in
set_option maxHeartbeats 1000000 in
theorem frY0_total {S : St} {x1 : Int32} {x2 : Int32} {v : Int32} {S' : St} (h : fY0_total S x1 x2 = some (v, S')) : fr mA_Y0_total mF_Y0_total mL_Y0_total S S' := by
  unfold fY0_total at h
  have hf : fr mA_Y0_total mF_Y0_total mL_Y0_total S S := fr_refl
  obtain ⟨t1, e2, h⟩ := bd h
  rcases it_or h with ⟨_, h⟩ | ⟨_, h⟩
  · cases h
    exact hf
  · obtain ⟨t3, e4, h⟩ := bd h
    rcases it_or h with ⟨_, h⟩ | ⟨_, h⟩
    · cases h
      exact hf
    · obtain ⟨g5, h⟩ := gd_some h
      obtain ⟨_, _, h⟩ := nx_some h
      obtain ⟨g7, h⟩ := gd_some h
      obtain ⟨s8, e9, h⟩ := nx_some h
      have hf := fr_trans hf (fr_eq e9 (fr_pa (by decide)))
      cases h
      exact hf
abbrev mA_Y0_clear : List Nat := []
abbrev mF_Y0_clear : List (Nat × Nat) := [(0, 18)]
abbrev mL_Y0_clear : List (Nat × Nat) := []
set_option maxRecDepth 100000 in
set_option maxHeartbeats 1000000 in
theorem frY0_clear {S : St}  {v : Int32} {S' : St} (h : fY0_clear S = some (v, S')) : fr mA_Y0_clear mF_Y0_clear mL_Y0_clear S S' := by
  unfold fY0_clear at h
  have hf : fr mA_Y0_clear mF_Y0_clear mL_Y0_clear S S := fr_refl
  obtain ⟨s1, e2, h⟩ := nx_some h
  have hf := fr_trans hf (fr_eq e2 (fr_pf (by decide)))
  cases h
  exact hf
abbrev mA_Y0_heap : List Nat := [1, 16]
abbrev mF_Y0_heap : List (Nat × Nat) := [(0, 0), (0, 22)]
abbrev mL_Y0_heap : List (Nat × Nat) := []
set_option maxRecDepth 100000 in
set_option maxHeartbeats 1000000 in
theorem frY0_heap_L97 {N : Nat} {x1 : Int32} {t : St} : ∀ (n : Nat) (S : St) (x4 : Int32), fY0_heap_L97 N x1 n S x4 = some t → fr mA_Y0_heap mF_Y0_heap mL_Y0_heap S t := by
  intro n
  induction n with
  | zero =>
    intro _ _ h
    cases h
  | succ n ih =>
    intro S x4 h
    rw [fY0_heap_L97] at h
    have hf : fr mA_Y0_heap mF_Y0_heap mL_Y0_heap S S := fr_refl
    rcases it_or h with ⟨_, h⟩ | ⟨_, h⟩
    · cases h
      exact hf
    · obtain ⟨t9, e10, h⟩ := bd h
      obtain ⟨g11, h⟩ := gd_some h
      obtain ⟨s12, e13, h⟩ := nx_some h
      have hf := fr_trans hf (fr_eq e13 (fr_pa (by decide)))
      exact fr_trans hf (ih _ _ h)
set_option maxRecDepth 100000 in
set_option maxHeartbeats 1000000 in
theorem frY0_heap {N : Nat} {S : St} {x1 : Int32} {v : Int32} {S' : St} (h : fY0_heap N S x1 = some (v, S')) : fr mA_Y0_heap mF_Y0_heap mL_Y0_heap S S' := by
  unfold fY0_heap at h
  have hf : fr mA_Y0_heap mF_Y0_heap mL_Y0_heap S S := fr_refl
  obtain ⟨t1, e2, h⟩ := bd h
  have hf := fr_trans hf (fr_mono (by decide) (by decide) (by decide) (frY0_askedRow e2))
  rcases it_or h with ⟨_, h⟩ | ⟨_, h⟩
  · obtain ⟨g3, h⟩ := gd_some h
    rcases it_or h with ⟨_, h⟩ | ⟨_, h⟩
    · obtain ⟨t4, e5, h⟩ := bd h
      rcases it_or h with ⟨_, h⟩ | ⟨_, h⟩
      · obtain ⟨t16, e17, h⟩ := bd h
        have hf := fr_trans hf (fr_mono (by decide) (by decide) (by decide) (frY0_meets e17))
        cases h
        exact hf
      · obtain ⟨g6, h⟩ := gd_some h
        obtain ⟨s7, e8, h⟩ := nx_some h
        have hf := fr_trans hf (fr_eq e8 (fr_pf (by decide)))
        obtain ⟨t14, e15, h⟩ := bd h
        have hf := fr_trans hf (frY0_heap_L97 _ _ _ e15)
        cases h
        exact hf
    · obtain ⟨t18, e19, h⟩ := bd h
      have hf := fr_trans hf (fr_mono (by decide) (by decide) (by decide) (frY0_meets e19))
      cases h
      exact hf
  · cases h
    exact hf
abbrev mA_Y0_askedCell : List Nat := [1]
abbrev mF_Y0_askedCell : List (Nat × Nat) := [(0, 0)]
abbrev mL_Y0_askedCell : List (Nat × Nat) := []
set_option maxRecDepth 100000 in
set_option maxHeartbeats 1000000 in
theorem frY0_askedCell {S : St} {x1 : Int32} {v : Int32} {S' : St} (h : fY0_askedCell S x1 = some (v, S')) : fr mA_Y0_askedCell mF_Y0_askedCell mL_Y0_askedCell S S' := by
  unfold fY0_askedCell at h
  have hf : fr mA_Y0_askedCell mF_Y0_askedCell mL_Y0_askedCell S S := fr_refl
  obtain ⟨t1, e2, h⟩ := bd h
  obtain ⟨t6, e7, h⟩ := bd h
  have hf : fr mA_Y0_askedCell mF_Y0_askedCell mL_Y0_askedCell S t6.1 := by
    clear h
    have h := e7
    rcases it_or h with ⟨_, h⟩ | ⟨_, h⟩
    · cases h
      exact hf
    · obtain ⟨g3, h⟩ := gd_some h
      rcases it_or h with ⟨_, h⟩ | ⟨_, h⟩
      · cases h
        exact hf
      · obtain ⟨t4, e5, h⟩ := bd h
        have hf := fr_trans hf (fr_mono (by decide) (by decide) (by decide) (frY0_meets e5))
        cases h
        exact hf
  cases h
  exact hf
abbrev mA_Y0_read : List Nat := [1, 10, 11, 12]
abbrev mF_Y0_read : List (Nat × Nat) := [(0, 0)]
abbrev mL_Y0_read : List (Nat × Nat) := []
set_option maxRecDepth 100000 in
set_option maxHeartbeats 1000000 in
theorem frY0_read {S : St} {x1 : Int32} {x2 : Int32} {v : Int32} {S' : St} (h : fY0_read S x1 x2 = some (v, S')) : fr mA_Y0_read mF_Y0_read mL_Y0_read S S' := by
  unfold fY0_read at h
  have hf : fr mA_Y0_read mF_Y0_read mL_Y0_read S S := fr_refl
  obtain ⟨t1, e2, h⟩ := bd h
  rcases it_or h with ⟨_, h⟩ | ⟨_, h⟩
  · cases h
    exact hf
  · obtain ⟨t3, e4, h⟩ := bd h
    have hf := fr_trans hf (fr_mono (by decide) (by decide) (by decide) (frY0_askedCell e4))
    rcases it_or h with ⟨_, h⟩ | ⟨_, h⟩
    · obtain ⟨g5, h⟩ := gd_some h
      obtain ⟨_, _, h⟩ := nx_some h
      obtain ⟨g7, h⟩ := gd_some h
      obtain ⟨s8, e9, h⟩ := nx_some h
      have hf := fr_trans hf (fr_eq e9 (fr_pa (by decide)))
      obtain ⟨g10, h⟩ := gd_some h
      obtain ⟨s11, e12, h⟩ := nx_some h
      have hf := fr_trans hf (fr_eq e12 (fr_pa (by decide)))
      obtain ⟨g13, h⟩ := gd_some h
      obtain ⟨s14, e15, h⟩ := nx_some h
      have hf := fr_trans hf (fr_eq e15 (fr_pa (by decide)))
      cases h
      exact hf
    · cases h
      exact hf
abbrev mA_Y0_kind : List Nat := [1]
abbrev mF_Y0_kind : List (Nat × Nat) := [(0, 0)]
abbrev mL_Y0_kind : List (Nat × Nat) := []
set_option maxRecDepth 100000 in
set_option maxHeartbeats 1000000 in
theorem frY0_kind {S : St} {x1 : Int32} {v : Int32} {S' : St} (h : fY0_kind S x1 = some (v, S')) : fr mA_Y0_kind mF_Y0_kind mL_Y0_kind S S' := by
  unfold fY0_kind at h
  have hf : fr mA_Y0_kind mF_Y0_kind mL_Y0_kind S S := fr_refl
  obtain ⟨t1, e2, h⟩ := bd h
  have hf := fr_trans hf (fr_mono (by decide) (by decide) (by decide) (frY0_askedCell e2))
  obtain ⟨t4, e5, h⟩ := bd h
  cases h
  exact hf
abbrev mA_Y0_mark : List Nat := [1]
abbrev mF_Y0_mark : List (Nat × Nat) := [(0, 0)]
abbrev mL_Y0_mark : List (Nat × Nat) := []
set_option maxRecDepth 100000 in
set_option maxHeartbeats 1000000 in
theorem frY0_mark {N : Nat} {S : St} {x1 : Int32} {x2 : Int32} {v : Int32} {S' : St} (h : fY0_mark N S x1 x2 = some (v, S')) : fr mA_Y0_mark mF_Y0_mark mL_Y0_mark S S' := by
  unfold fY0_mark at h
  have hf : fr mA_Y0_mark mF_Y0_mark mL_Y0_mark S S := fr_refl
  obtain ⟨t1, e2, h⟩ := bd h
  rcases it_or h with ⟨_, h⟩ | ⟨_, h⟩
  · cases h
    exact hf
  · obtain ⟨t3, e4, h⟩ := bd h
    have hf := fr_trans hf (fr_mono (by decide) (by decide) (by decide) (frY0_askedCell e4))
    obtain ⟨t10, e11, h⟩ := bd h
    have hf : fr mA_Y0_mark mF_Y0_mark mL_Y0_mark S t10.1 := by
      clear h
      have h := e11
      rcases it_or h with ⟨_, h⟩ | ⟨_, h⟩
      · obtain ⟨g5, h⟩ := gd_some h
        rcases it_or h with ⟨_, h⟩ | ⟨_, h⟩
        · obtain ⟨t6, e7, h⟩ := bd h
          cases h
          exact hf
        · obtain ⟨t8, e9, h⟩ := bd h
          have hf := fr_trans hf (fr_mono (by decide) (by decide) (by decide) (frY0_meets e9))
          cases h
          exact hf
      · cases h
        exact hf
    cases h
    exact hf
abbrev mA_Y0_setEnds : List Nat := [18, 19]
abbrev mF_Y0_setEnds : List (Nat × Nat) := []
abbrev mL_Y0_setEnds : List (Nat × Nat) := []
set_option maxRecDepth 100000 in
set_option maxHeartbeats 1000000 in
theorem frY0_setEnds {N : Nat} {S : St} {x1 : Int32} {v : Int32} {S' : St} (h : fY0_setEnds N S x1 = some (v, S')) : fr mA_Y0_setEnds mF_Y0_setEnds mL_Y0_setEnds S S' := by
  unfold fY0_setEnds at h
  have hf : fr mA_Y0_setEnds mF_Y0_setEnds mL_Y0_setEnds S S := fr_refl
  obtain ⟨t1, e2, h⟩ := bd h
  obtain ⟨t3, e4, h⟩ := bd h
  obtain ⟨t5, e6, h⟩ := bd h
  obtain ⟨g7, h⟩ := gd_some h
  obtain ⟨s8, e9, h⟩ := nx_some h
  have hf := fr_trans hf (fr_eq e9 (fr_pa (by decide)))
  obtain ⟨t10, e11, h⟩ := bd h
  obtain ⟨t12, e13, h⟩ := bd h
  obtain ⟨g14, h⟩ := gd_some h
  obtain ⟨s15, e16, h⟩ := nx_some h
  have hf := fr_trans hf (fr_eq e16 (fr_pa (by decide)))
  obtain ⟨t17, e18, h⟩ := bd h
  obtain ⟨t19, e20, h⟩ := bd h
  obtain ⟨_, h⟩ := gd_some h
  cases h
  exact hf
abbrev mA_Y0_setFirst : List Nat := [17, 18, 19]
abbrev mF_Y0_setFirst : List (Nat × Nat) := []
abbrev mL_Y0_setFirst : List (Nat × Nat) := []
set_option maxRecDepth 100000 in
set_option maxHeartbeats 1000000 in
theorem frY0_setFirst_L10 {N : Nat} {x1 : Int32} {t : St} : ∀ (n : Nat) (S : St) (x2 : Int32), fY0_setFirst_L10 N x1 n S x2 = some t → fr mA_Y0_setFirst mF_Y0_setFirst mL_Y0_setFirst S t := by
  intro n
  induction n with
  | zero =>
    intro _ _ h
    cases h
  | succ n ih =>
    intro S x2 h
    rw [fY0_setFirst_L10] at h
    have hf : fr mA_Y0_setFirst mF_Y0_setFirst mL_Y0_setFirst S S := fr_refl
    rcases it_or h with ⟨_, h⟩ | ⟨_, h⟩
    · cases h
      exact hf
    · obtain ⟨t1, e2, h⟩ := bd h
      obtain ⟨t5, e6, h⟩ := bd h
      obtain ⟨g7, h⟩ := gd_some h
      obtain ⟨_, h⟩ := gd_some h
      obtain ⟨s8, e9, h⟩ := nx_some h
      have hf := fr_trans hf (fr_eq e9 (fr_pa (by decide)))
      exact fr_trans hf (ih _ _ h)
set_option maxRecDepth 100000 in
set_option maxHeartbeats 1000000 in
theorem frY0_setFirst_L2 {N : Nat}  {t : St} : ∀ (n : Nat) (S : St) (x1 : Int32), fY0_setFirst_L2 N  n S x1 = some t → fr mA_Y0_setFirst mF_Y0_setFirst mL_Y0_setFirst S t := by
  intro n
  induction n with
  | zero =>
    intro _ _ h
    cases h
  | succ n ih =>
    intro S x1 h
    rw [fY0_setFirst_L2] at h
    have hf : fr mA_Y0_setFirst mF_Y0_setFirst mL_Y0_setFirst S S := fr_refl
    rcases it_or h with ⟨_, h⟩ | ⟨_, h⟩
    · cases h
      exact hf
    · obtain ⟨t10, e11, h⟩ := bd h
      have hf := fr_trans hf (frY0_setFirst_L10 _ _ _ e11)
      obtain ⟨t12, e13, h⟩ := bd h
      have hf := fr_trans hf (fr_mono (by decide) (by decide) (by decide) (frY0_setEnds e13))
      exact fr_trans hf (ih _ _ h)
set_option maxRecDepth 100000 in
set_option maxHeartbeats 1000000 in
theorem frY0_setFirst {N : Nat} {S : St}  {S' : St} (h : fY0_setFirst N S = some (S')) : fr mA_Y0_setFirst mF_Y0_setFirst mL_Y0_setFirst S S' := by
  unfold fY0_setFirst at h
  have hf : fr mA_Y0_setFirst mF_Y0_setFirst mL_Y0_setFirst S S := fr_refl
  obtain ⟨t14, e15, h⟩ := bd h
  have hf := fr_trans hf (frY0_setFirst_L2 _ _ _ e15)
  cases h
  exact hf
