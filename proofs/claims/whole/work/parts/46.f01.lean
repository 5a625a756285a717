abbrev mA_X1_make : List Nat := [3, 4, 5, 6, 7, 8, 9]
abbrev mF_X1_make : List (Nat × Nat) := []
abbrev mL_X1_make : List (Nat × Nat) := []
set_option maxRecDepth 100000 in
set_option maxHeartbeats 1000000 in
theorem frX1_make_L9 {N : Nat} {x1 : Int32} {x2 : Int32} {t : St} : ∀ (n : Nat) (S : St) (x3 : Int32), fX1_make_L9 N x1 x2 n S x3 = some t → fr mA_X1_make mF_X1_make mL_X1_make S t := by
  intro n
  induction n with
  | zero =>
    intro _ _ h
    cases h
  | succ n ih =>
    intro S x3 h
    rw [fX1_make_L9] at h
    have hf : fr mA_X1_make mF_X1_make mL_X1_make S S := fr_refl
    rcases it_or h with ⟨_, h⟩ | ⟨_, h⟩
    · cases h
      exact hf
    · obtain ⟨g4, h⟩ := gd_some h
      obtain ⟨g5, h⟩ := gd_some h
      obtain ⟨s6, e7, h⟩ := nx_some h
      have hf := fr_trans hf (fr_eq e7 (fr_pa (fr_in (by decide) (mem_r (inb_lt g4)))))
      exact fr_trans hf (ih _ _ h)
set_option maxRecDepth 100000 in
set_option maxHeartbeats 1000000 in
theorem frX1_make {N : Nat} {S : St} {x1 : Int32} {x2 : Int32} {S' : St} (h : fX1_make N S x1 x2 = some (S')) : fr mA_X1_make mF_X1_make mL_X1_make S S' := by
  unfold fX1_make at h
  have hf : fr mA_X1_make mF_X1_make mL_X1_make S S := fr_refl
  obtain ⟨g1, h⟩ := gd_some h
  obtain ⟨s2, e3, h⟩ := nx_some h
  have hf := fr_trans hf (fr_eq e3 (fr_pa (by decide)))
  obtain ⟨t8, e9, h⟩ := bd h
  have hf := fr_trans hf (frX1_make_L9 _ _ _ e9)
  cases h
  exact hf
abbrev mA_X0_found : List Nat := [53]
abbrev mF_X0_found : List (Nat × Nat) := [(0, 11)]
abbrev mL_X0_found : List (Nat × Nat) := []
set_option maxRecDepth 100000 in
set_option maxHeartbeats 1000000 in
theorem frX0_found {S : St} {x1 : Int32} {v : Int32} {S' : St} (h : fX0_found S x1 = some (v, S')) : fr mA_X0_found mF_X0_found mL_X0_found S S' := by
  unfold fX0_found at h
  have hf : fr mA_X0_found mF_X0_found mL_X0_found S S := fr_refl
  obtain ⟨s1, e2, h⟩ := nx_some h
  have hf := fr_trans hf (fr_eq e2 (fr_pf (by decide)))
  obtain ⟨g3, h⟩ := gd_some h
  obtain ⟨g4, h⟩ := gd_some h
  obtain ⟨s5, e6, h⟩ := nx_some h
  have hf := fr_trans hf (fr_eq e6 (fr_pa (by decide)))
  cases h
  exact hf
abbrev mA_X0_row : List Nat := [3, 4, 5, 6, 7, 8, 9, 53]
abbrev mF_X0_row : List (Nat × Nat) := [(0, 11)]
abbrev mL_X0_row : List (Nat × Nat) := []
set_option maxRecDepth 100000 in
set_option maxHeartbeats 1000000 in
theorem frX0_row {N : Nat} {S : St} {x1 : Int32} {x2 : Int32} {v : Int32} {S' : St} (h : fX0_row N S x1 x2 = some (v, S')) : fr mA_X0_row mF_X0_row mL_X0_row S S' := by
  unfold fX0_row at h
  have hf : fr mA_X0_row mF_X0_row mL_X0_row S S := fr_refl
  obtain ⟨t1, e2, h⟩ := bd h
  rcases it_or h with ⟨_, h⟩ | ⟨_, h⟩
  · cases h
    exact hf
  · rcases it_or h with ⟨_, h⟩ | ⟨_, h⟩
    · rcases it_or h with ⟨_, h⟩ | ⟨_, h⟩
      · obtain ⟨t3, e4, h⟩ := bd h
        have hf := fr_trans hf (fr_mono (by decide) (by decide) (by decide) (frX1_make e4))
        cases h
        exact hf
      · obtain ⟨t5, e6, h⟩ := bd h
        have hf := fr_trans hf (fr_mono (by decide) (by decide) (by decide) (frX0_found e6))
        cases h
        exact hf
    · cases h
      exact hf
abbrev mA_X0_refuseRow : List Nat := [53]
abbrev mF_X0_refuseRow : List (Nat × Nat) := [(0, 11)]
abbrev mL_X0_refuseRow : List (Nat × Nat) := []
set_option maxRecDepth 100000 in
set_option maxHeartbeats 1000000 in
theorem frX0_refuseRow {S : St} {x1 : Int32} {v : Int32} {S' : St} (h : fX0_refuseRow S x1 = some (v, S')) : fr mA_X0_refuseRow mF_X0_refuseRow mL_X0_refuseRow S S' := by
  unfold fX0_refuseRow at h
  have hf : fr mA_X0_refuseRow mF_X0_refuseRow mL_X0_refuseRow S S := fr_refl
  obtain ⟨t1, e2, h⟩ := bd h
  rcases it_or h with ⟨_, h⟩ | ⟨_, h⟩
  · cases h
    exact hf
  · obtain ⟨t3, e4, h⟩ := bd h
    obtain ⟨t7, e8, h⟩ := bd h
    have hf : fr mA_X0_refuseRow mF_X0_refuseRow mL_X0_refuseRow S t7.1 := by
      clear h
      have h := e8
      rcases it_or h with ⟨_, h⟩ | ⟨_, h⟩
      · obtain ⟨t5, e6, h⟩ := bd h
        have hf := fr_trans hf (fr_mono (by decide) (by decide) (by decide) (frX0_found e6))
        cases h
        exact hf
      · cases h
        exact hf
    cases h
    exact hf
abbrev mA_X0_refusePlace : List Nat := [53]
abbrev mF_X0_refusePlace : List (Nat × Nat) := [(0, 11)]
abbrev mL_X0_refusePlace : List (Nat × Nat) := []
set_option maxRecDepth 100000 in
set_option maxHeartbeats 1000000 in
theorem frX0_refusePlace {S : St} {x1 : Int32} {x2 : Int32} {v : Int32} {S' : St} (h : fX0_refusePlace S x1 x2 = some (v, S')) : fr mA_X0_refusePlace mF_X0_refusePlace mL_X0_refusePlace S S' := by
  unfold fX0_refusePlace at h
  have hf : fr mA_X0_refusePlace mF_X0_refusePlace mL_X0_refusePlace S S := fr_refl
  obtain ⟨t1, e2, h⟩ := bd h
  have hf := fr_trans hf (fr_mono (by decide) (by decide) (by decide) (frX0_refuseRow e2))
  rcases it_or h with ⟨_, h⟩ | ⟨_, h⟩
  · obtain ⟨t9, e10, h⟩ := bd h
    have hf : fr mA_X0_refusePlace mF_X0_refusePlace mL_X0_refusePlace S t9.1 := by
      clear h
      have h := e10
      rcases it_or h with ⟨_, h⟩ | ⟨_, h⟩
      · obtain ⟨t3, e4, h⟩ := bd h
        have hf := fr_trans hf (fr_mono (by decide) (by decide) (by decide) (frX0_found e4))
        cases h
        exact hf
      · obtain ⟨t5, e6, h⟩ := bd h
        rcases it_or h with ⟨_, h⟩ | ⟨_, h⟩
        · obtain ⟨t7, e8, h⟩ := bd h
          have hf := fr_trans hf (fr_mono (by decide) (by decide) (by decide) (frX0_found e8))
          cases h
          exact hf
        · cases h
          exact hf
    cases h
    exact hf
  · cases h
    exact hf
abbrev mA_X1_set : List Nat := [3, 4, 5, 6, 7, 8]
abbrev mF_X1_set : List (Nat × Nat) := []
abbrev mL_X1_set : List (Nat × Nat) := []
set_option maxRecDepth 100000 in
set_option maxHeartbeats 1000000 in
theorem frX1_set {S : St} {x1 : Int32} {x2 : Int32} {x3 : Int32} {S' : St} (h : fX1_set S x1 x2 x3 = some (S')) : fr mA_X1_set mF_X1_set mL_X1_set S S' := by
  unfold fX1_set at h
  have hf : fr mA_X1_set mF_X1_set mL_X1_set S S := fr_refl
  obtain ⟨g1, h⟩ := gd_some h
  obtain ⟨g2, h⟩ := gd_some h
  obtain ⟨s3, e4, h⟩ := nx_some h
  have hf := fr_trans hf (fr_eq e4 (fr_pa (fr_in (by decide) (mem_r (inb_lt g1)))))
  cases h
  exact hf
abbrev mA_X0_lay : List Nat := [3, 4, 5, 6, 7, 8, 53]
abbrev mF_X0_lay : List (Nat × Nat) := [(0, 11), (0, 12)]
abbrev mL_X0_lay : List (Nat × Nat) := []
set_option maxRecDepth 100000 in
set_option maxHeartbeats 1000000 in
theorem frX0_lay {S : St} {x1 : Int32} {x2 : Int32} {x3 : Int32} {v : Int32} {S' : St} (h : fX0_lay S x1 x2 x3 = some (v, S')) : fr mA_X0_lay mF_X0_lay mL_X0_lay S S' := by
  unfold fX0_lay at h
  have hf : fr mA_X0_lay mF_X0_lay mL_X0_lay S S := fr_refl
  obtain ⟨t1, e2, h⟩ := bd h
  have hf := fr_trans hf (fr_mono (by decide) (by decide) (by decide) (frX0_refusePlace e2))
  rcases it_or h with ⟨_, h⟩ | ⟨_, h⟩
  · obtain ⟨t3, e4, h⟩ := bd h
    obtain ⟨s5, e6, h⟩ := nx_some h
    have hf := fr_trans hf (fr_eq e6 (fr_pf (by decide)))
    obtain ⟨t7, e8, h⟩ := bd h
    have hf := fr_trans hf (fr_mono (by decide) (by decide) (by decide) (frX1_set e8))
    cases h
    exact hf
  · cases h
    exact hf
abbrev mA_X0_at : List Nat := [53]
abbrev mF_X0_at : List (Nat × Nat) := [(0, 11), (0, 12)]
abbrev mL_X0_at : List (Nat × Nat) := []
set_option maxRecDepth 100000 in
set_option maxHeartbeats 1000000 in
theorem frX0_at {S : St} {x1 : Int32} {x2 : Int32} {v : Int32} {S' : St} (h : fX0_at S x1 x2 = some (v, S')) : fr mA_X0_at mF_X0_at mL_X0_at S S' := by
  unfold fX0_at at h
  have hf : fr mA_X0_at mF_X0_at mL_X0_at S S := fr_refl
  obtain ⟨t1, e2, h⟩ := bd h
  have hf := fr_trans hf (fr_mono (by decide) (by decide) (by decide) (frX0_refusePlace e2))
  rcases it_or h with ⟨_, h⟩ | ⟨_, h⟩
  · obtain ⟨t3, e4, h⟩ := bd h
    obtain ⟨s5, e6, h⟩ := nx_some h
    have hf := fr_trans hf (fr_eq e6 (fr_pf (by decide)))
    cases h
    exact hf
  · cases h
    exact hf
abbrev mA_X1_remove : List Nat := [9]
abbrev mF_X1_remove : List (Nat × Nat) := []
abbrev mL_X1_remove : List (Nat × Nat) := []
set_option maxRecDepth 100000 in
set_option maxHeartbeats 1000000 in
theorem frX1_remove {S : St} {x1 : Int32} {S' : St} (h : fX1_remove S x1 = some (S')) : fr mA_X1_remove mF_X1_remove mL_X1_remove S S' := by
  unfold fX1_remove at h
  have hf : fr mA_X1_remove mF_X1_remove mL_X1_remove S S := fr_refl
  obtain ⟨g1, h⟩ := gd_some h
  obtain ⟨s2, e3, h⟩ := nx_some h
  have hf := fr_trans hf (fr_eq e3 (fr_pa (by decide)))
  cases h
  exact hf
abbrev mA_X0_tear : List Nat := [9, 53]
abbrev mF_X0_tear : List (Nat × Nat) := [(0, 11)]
abbrev mL_X0_tear : List (Nat × Nat) := []
set_option maxRecDepth 100000 in
set_option maxHeartbeats 1000000 in
theorem frX0_tear {S : St} {x1 : Int32} {v : Int32} {S' : St} (h : fX0_tear S x1 = some (v, S')) : fr mA_X0_tear mF_X0_tear mL_X0_tear S S' := by
  unfold fX0_tear at h
  have hf : fr mA_X0_tear mF_X0_tear mL_X0_tear S S := fr_refl
  obtain ⟨t1, e2, h⟩ := bd h
  have hf := fr_trans hf (fr_mono (by decide) (by decide) (by decide) (frX0_refuseRow e2))
  rcases it_or h with ⟨_, h⟩ | ⟨_, h⟩
  · obtain ⟨t3, e4, h⟩ := bd h
    have hf := fr_trans hf (fr_mono (by decide) (by decide) (by decide) (frX1_remove e4))
    cases h
    exact hf
  · cases h
    exact hf
abbrev mA_X1_move : List Nat := [3, 4, 5, 6, 7, 8]
abbrev mF_X1_move : List (Nat × Nat) := []
abbrev mL_X1_move : List (Nat × Nat) := []
set_option maxRecDepth 100000 in
set_option maxHeartbeats 1000000 in
theorem frX1_move {S : St} {x1 : Int32} {x2 : Int32} {x3 : Int32} {x4 : Int32} {x5 : Int32} {S' : St} (h : fX1_move S x1 x2 x3 x4 x5 = some (S')) : fr mA_X1_move mF_X1_move mL_X1_move S S' := by
  unfold fX1_move at h
  have hf : fr mA_X1_move mF_X1_move mL_X1_move S S := fr_refl
  obtain ⟨g1, h⟩ := gd_some h
  obtain ⟨g2, h⟩ := gd_some h
  obtain ⟨_, h⟩ := gd_some h
  obtain ⟨s3, e4, h⟩ := nx_some h
  have hf := fr_trans hf (fr_eq e4 (fr_pc (fr_in (by decide) (mem_r (inb_lt g2)))))
  cases h
  exact hf
abbrev mA_X0_copy : List Nat := [3, 4, 5, 6, 7, 8, 53]
abbrev mF_X0_copy : List (Nat × Nat) := [(0, 11)]
abbrev mL_X0_copy : List (Nat × Nat) := []
set_option maxRecDepth 100000 in
set_option maxHeartbeats 1000000 in
theorem frX0_copy {S : St} {x1 : Int32} {x2 : Int32} {x3 : Int32} {x4 : Int32} {x5 : Int32} {v : Int32} {S' : St} (h : fX0_copy S x1 x2 x3 x4 x5 = some (v, S')) : fr mA_X0_copy mF_X0_copy mL_X0_copy S S' := by
  unfold fX0_copy at h
  have hf : fr mA_X0_copy mF_X0_copy mL_X0_copy S S := fr_refl
  obtain ⟨t1, e2, h⟩ := bd h
  rcases it_or h with ⟨_, h⟩ | ⟨_, h⟩
  · cases h
    exact hf
  · obtain ⟨t3, e4, h⟩ := bd h
    rcases it_or h with ⟨_, h⟩ | ⟨_, h⟩
    · cases h
      exact hf
    · rcases it_or h with ⟨_, h⟩ | ⟨_, h⟩
      · obtain ⟨t5, e6, h⟩ := bd h
        rcases it_or h with ⟨_, h⟩ | ⟨_, h⟩
        · obtain ⟨t7, e8, h⟩ := bd h
          have hf := fr_trans hf (fr_mono (by decide) (by decide) (by decide) (frX0_found e8))
          cases h
          exact hf
        · obtain ⟨t9, e10, h⟩ := bd h
          rcases it_or h with ⟨_, h⟩ | ⟨_, h⟩
          · obtain ⟨t21, e22, h⟩ := bd h
            have hf := fr_trans hf (fr_mono (by decide) (by decide) (by decide) (frX0_found e22))
            cases h
            exact hf
          · obtain ⟨t11, e12, h⟩ := bd h
            rcases it_or h with ⟨_, h⟩ | ⟨_, h⟩
            · obtain ⟨t13, e14, h⟩ := bd h
              have hf := fr_trans hf (fr_mono (by decide) (by decide) (by decide) (frX0_found e14))
              cases h
              exact hf
            · obtain ⟨t15, e16, h⟩ := bd h
              rcases it_or h with ⟨_, h⟩ | ⟨_, h⟩
              · obtain ⟨t19, e20, h⟩ := bd h
                have hf := fr_trans hf (fr_mono (by decide) (by decide) (by decide) (frX0_found e20))
                cases h
                exact hf
              · obtain ⟨t17, e18, h⟩ := bd h
                have hf := fr_trans hf (fr_mono (by decide) (by decide) (by decide) (frX1_move e18))
                cases h
                exact hf
      · obtain ⟨t23, e24, h⟩ := bd h
        have hf := fr_trans hf (fr_mono (by decide) (by decide) (by decide) (frX0_found e24))
        cases h
        exact hf
abbrev mA_X0_mean : List Nat := [53]
abbrev mF_X0_mean : List (Nat × Nat) := [(0, 11), (0, 12)]
abbrev mL_X0_mean : List (Nat × Nat) := []
set_option maxRecDepth 100000 in
set_option maxHeartbeats 1000000 in
theorem frX0_mean {N : Nat} {S : St} {x1 : Int32} {v : Int32} {S' : St} (h : fX0_mean N S x1 = some (v, S')) : fr mA_X0_mean mF_X0_mean mL_X0_mean S S' := by
  unfold fX0_mean at h
  have hf : fr mA_X0_mean mF_X0_mean mL_X0_mean S S := fr_refl
  obtain ⟨t1, e2, h⟩ := bd h
  have hf := fr_trans hf (fr_mono (by decide) (by decide) (by decide) (frX0_refuseRow e2))
  rcases it_or h with ⟨_, h⟩ | ⟨_, h⟩
  · obtain ⟨t3, e4, h⟩ := bd h
    rcases it_or h with ⟨_, h⟩ | ⟨_, h⟩
    · obtain ⟨t5, e6, h⟩ := bd h
      obtain ⟨_, h⟩ := gd_some h
      obtain ⟨s7, e8, h⟩ := nx_some h
      have hf := fr_trans hf (fr_eq e8 (fr_pf (by decide)))
      cases h
      exact hf
    · obtain ⟨t9, e10, h⟩ := bd h
      have hf := fr_trans hf (fr_mono (by decide) (by decide) (by decide) (frX0_found e10))
      cases h
      exact hf
  · cases h
    exact hf
abbrev mA_X10_make : List Nat := [12, 13, 14, 15, 16]
abbrev mF_X10_make : List (Nat × Nat) := []
abbrev mL_X10_make : List (Nat × Nat) := []
set_option maxRecDepth 100000 in
set_option maxHeartbeats 1000000 in
theorem frX10_make_L9 {N : Nat} {x1 : Int32} {x2 : Int32} {t : St} : ∀ (n : Nat) (S : St) (x3 : Int32), fX10_make_L9 N x1 x2 n S x3 = some t → fr mA_X10_make mF_X10_make mL_X10_make S t := by
  intro n
  induction n with
  | zero =>
    intro _ _ h
    cases h
  | succ n ih =>
    intro S x3 h
    rw [fX10_make_L9] at h
    have hf : fr mA_X10_make mF_X10_make mL_X10_make S S := fr_refl
    rcases it_or h with ⟨_, h⟩ | ⟨_, h⟩
    · cases h
      exact hf
    · obtain ⟨g4, h⟩ := gd_some h
      obtain ⟨g5, h⟩ := gd_some h
      obtain ⟨s6, e7, h⟩ := nx_some h
      have hf := fr_trans hf (fr_eq e7 (fr_pa (fr_in (by decide) (mem_t (inb_lt g4)))))
      exact fr_trans hf (ih _ _ h)
set_option maxRecDepth 100000 in
set_option maxHeartbeats 1000000 in
theorem frX10_make {N : Nat} {S : St} {x1 : Int32} {x2 : Int32} {S' : St} (h : fX10_make N S x1 x2 = some (S')) : fr mA_X10_make mF_X10_make mL_X10_make S S' := by
  unfold fX10_make at h
  have hf : fr mA_X10_make mF_X10_make mL_X10_make S S := fr_refl
  obtain ⟨g1, h⟩ := gd_some h
  obtain ⟨s2, e3, h⟩ := nx_some h
  have hf := fr_trans hf (fr_eq e3 (fr_pa (by decide)))
  obtain ⟨t8, e9, h⟩ := bd h
  have hf := fr_trans hf (frX10_make_L9 _ _ _ e9)
  cases h
  exact hf
abbrev mA_X0_text : List Nat := [12, 13, 14, 15, 16, 53]
abbrev mF_X0_text : List (Nat × Nat) := [(0, 11)]
abbrev mL_X0_text : List (Nat × Nat) := []
set_option maxRecDepth 100000 in
set_option maxHeartbeats 1000000 in
theorem frX0_text {N : Nat} {S : St} {x1 : Int32} {x2 : Int32} {v : Int32} {S' : St} (h : fX0_text N S x1 x2 = some (v, S')) : fr mA_X0_text mF_X0_text mL_X0_text S S' := by
  unfold fX0_text at h
  have hf : fr mA_X0_text mF_X0_text mL_X0_text S S := fr_refl
  obtain ⟨t1, e2, h⟩ := bd h
  rcases it_or h with ⟨_, h⟩ | ⟨_, h⟩
  · cases h
    exact hf
  · rcases it_or h with ⟨_, h⟩ | ⟨_, h⟩
    · rcases it_or h with ⟨_, h⟩ | ⟨_, h⟩
      · obtain ⟨t3, e4, h⟩ := bd h
        have hf := fr_trans hf (fr_mono (by decide) (by decide) (by decide) (frX10_make e4))
        cases h
        exact hf
      · obtain ⟨t5, e6, h⟩ := bd h
        have hf := fr_trans hf (fr_mono (by decide) (by decide) (by decide) (frX0_found e6))
        cases h
        exact hf
    · cases h
      exact hf
abbrev mA_X0_refuseText : List Nat := [53]
abbrev mF_X0_refuseText : List (Nat × Nat) := [(0, 11)]
abbrev mL_X0_refuseText : List (Nat × Nat) := []
set_option maxRecDepth 100000 in
set_option maxHeartbeats 1000000 in
theorem frX0_refuseText {S : St} {x1 : Int32} {v : Int32} {S' : St} (h : fX0_refuseText S x1 = some (v, S')) : fr mA_X0_refuseText mF_X0_refuseText mL_X0_refuseText S S' := by
  unfold fX0_refuseText at h
  have hf : fr mA_X0_refuseText mF_X0_refuseText mL_X0_refuseText S S := fr_refl
  obtain ⟨t1, e2, h⟩ := bd h
  rcases it_or h with ⟨_, h⟩ | ⟨_, h⟩
  · cases h
    exact hf
  · obtain ⟨t3, e4, h⟩ := bd h
    obtain ⟨t7, e8, h⟩ := bd h
    have hf : fr mA_X0_refuseText mF_X0_refuseText mL_X0_refuseText S t7.1 := by
      clear h
      have h := e8
      rcases it_or h with ⟨_, h⟩ | ⟨_, h⟩
      · obtain ⟨t5, e6, h⟩ := bd h
        have hf := fr_trans hf (fr_mono (by decide) (by decide) (by decide) (frX0_found e6))
        cases h
        exact hf
      · cases h
        exact hf
    cases h
    exact hf
abbrev mA_X10_set : List Nat := [12, 13, 14, 15]
abbrev mF_X10_set : List (Nat × Nat) := []
abbrev mL_X10_set : List (Nat × Nat) := []
set_option maxRecDepth 100000 in
set_option maxHeartbeats 1000000 in
theorem frX10_set {S : St} {x1 : Int32} {x2 : Int32} {x3 : Int32} {S' : St} (h : fX10_set S x1 x2 x3 = some (S')) : fr mA_X10_set mF_X10_set mL_X10_set S S' := by
  unfold fX10_set at h
  have hf : fr mA_X10_set mF_X10_set mL_X10_set S S := fr_refl
  obtain ⟨g1, h⟩ := gd_some h
  obtain ⟨g2, h⟩ := gd_some h
  obtain ⟨s3, e4, h⟩ := nx_some h
  have hf := fr_trans hf (fr_eq e4 (fr_pa (fr_in (by decide) (mem_t (inb_lt g1)))))
  cases h
  exact hf
abbrev mA_X0_put : List Nat := [12, 13, 14, 15, 53]
abbrev mF_X0_put : List (Nat × Nat) := [(0, 11)]
abbrev mL_X0_put : List (Nat × Nat) := []
set_option maxRecDepth 100000 in
set_option maxHeartbeats 1000000 in
theorem frX0_put {S : St} {x1 : Int32} {x2 : Int32} {x3 : Int32} {v : Int32} {S' : St} (h : fX0_put S x1 x2 x3 = some (v, S')) : fr mA_X0_put mF_X0_put mL_X0_put S S' := by
  unfold fX0_put at h
  have hf : fr mA_X0_put mF_X0_put mL_X0_put S S := fr_refl
  obtain ⟨t1, e2, h⟩ := bd h
  have hf := fr_trans hf (fr_mono (by decide) (by decide) (by decide) (frX0_refuseText e2))
  rcases it_or h with ⟨_, h⟩ | ⟨_, h⟩
  · rcases it_or h with ⟨_, h⟩ | ⟨_, h⟩
    · obtain ⟨t3, e4, h⟩ := bd h
      have hf := fr_trans hf (fr_mono (by decide) (by decide) (by decide) (frX0_found e4))
      cases h
      exact hf
    · obtain ⟨t5, e6, h⟩ := bd h
      rcases it_or h with ⟨_, h⟩ | ⟨_, h⟩
      · obtain ⟨t7, e8, h⟩ := bd h
        obtain ⟨t9, e10, h⟩ := bd h
        have hf := fr_trans hf (fr_mono (by decide) (by decide) (by decide) (frX10_set e10))
        cases h
        exact hf
      · obtain ⟨t11, e12, h⟩ := bd h
        have hf := fr_trans hf (fr_mono (by decide) (by decide) (by decide) (frX0_found e12))
        cases h
        exact hf
  · cases h
    exact hf
abbrev mA_X17_skipBlanks : List Nat := []
abbrev mF_X17_skipBlanks : List (Nat × Nat) := [(17, 5)]
abbrev mL_X17_skipBlanks : List (Nat × Nat) := []
set_option maxRecDepth 100000 in
set_option maxHeartbeats 1000000 in
theorem frX17_skipBlanks_L0 {N : Nat}  {t : St} : ∀ (n : Nat) (S : St), fX17_skipBlanks_L0 N  n S = some t → fr mA_X17_skipBlanks mF_X17_skipBlanks mL_X17_skipBlanks S t := by
  intro n
  induction n with
  | zero =>
    intro _ h
    cases h
  | succ n ih =>
    intro S h
    rw [fX17_skipBlanks_L0] at h
    have hf : fr mA_X17_skipBlanks mF_X17_skipBlanks mL_X17_skipBlanks S S := fr_refl
    rcases it_or h with ⟨_, h⟩ | ⟨_, h⟩
    · rcases it_or h with ⟨_, h⟩ | ⟨_, h⟩
      · cases h
        exact hf
      · obtain ⟨t1, e2, h⟩ := bd h
        rcases it_or h with ⟨_, h⟩ | ⟨_, h⟩
        · obtain ⟨s3, e4, h⟩ := nx_some h
          have hf := fr_trans hf (fr_eq e4 (fr_pf (by decide)))
          exact fr_trans hf (ih _ h)
        · cases h
          exact hf
    · cases h
      exact hf
set_option maxRecDepth 100000 in
set_option maxHeartbeats 1000000 in
theorem frX17_skipBlanks {N : Nat} {S : St}  {S' : St} (h : fX17_skipBlanks N S = some (S')) : fr mA_X17_skipBlanks mF_X17_skipBlanks mL_X17_skipBlanks S S' := by
  unfold fX17_skipBlanks at h
  have hf : fr mA_X17_skipBlanks mF_X17_skipBlanks mL_X17_skipBlanks S S := fr_refl
  obtain ⟨t5, e6, h⟩ := bd h
  have hf := fr_trans hf (frX17_skipBlanks_L0 _ _ e6)
  cases h
  exact hf
abbrev mA_X17_readLetter : List Nat := []
abbrev mF_X17_readLetter : List (Nat × Nat) := [(17, 5), (17, 6)]
abbrev mL_X17_readLetter : List (Nat × Nat) := []
set_option maxRecDepth 100000 in
set_option maxHeartbeats 1000000 in
theorem frX17_readLetter {S : St}  {v : Int32} {S' : St} (h : fX17_readLetter S = some (v, S')) : fr mA_X17_readLetter mF_X17_readLetter mL_X17_readLetter S S' := by
  unfold fX17_readLetter at h
  have hf : fr mA_X17_readLetter mF_X17_readLetter mL_X17_readLetter S S := fr_refl
  obtain ⟨t1, e2, h⟩ := bd h
  rcases it_or h with ⟨_, h⟩ | ⟨_, h⟩
  · obtain ⟨t5, e6, h⟩ := bd h
    rcases it_or h with ⟨_, h⟩ | ⟨_, h⟩
    · obtain ⟨s9, e10, h⟩ := nx_some h
      have hf := fr_trans hf (fr_eq e10 (fr_pf (by decide)))
      cases h
      exact hf
    · obtain ⟨s7, e8, h⟩ := nx_some h
      have hf := fr_trans hf (fr_eq e8 (fr_pf (by decide)))
      cases h
      exact hf
  · obtain ⟨s3, e4, h⟩ := nx_some h
    have hf := fr_trans hf (fr_eq e4 (fr_pf (by decide)))
    cases h
    exact hf
abbrev mA_X17_note : List Nat := [18, 19, 20]
abbrev mF_X17_note : List (Nat × Nat) := []
abbrev mL_X17_note : List (Nat × Nat) := []
set_option maxRecDepth 100000 in
set_option maxHeartbeats 1000000 in
theorem frX17_note {S : St} {x1 : Int32} {x2 : Int32} {x3 : Int32} {x4 : Int32} {S' : St} (h : fX17_note S x1 x2 x3 x4 = some (S')) : fr mA_X17_note mF_X17_note mL_X17_note S S' := by
  unfold fX17_note at h
  have hf : fr mA_X17_note mF_X17_note mL_X17_note S S := fr_refl
  obtain ⟨g1, h⟩ := gd_some h
  obtain ⟨s2, e3, h⟩ := nx_some h
  have hf := fr_trans hf (fr_eq e3 (fr_pa (by decide)))
  obtain ⟨g4, h⟩ := gd_some h
  obtain ⟨s5, e6, h⟩ := nx_some h
  have hf := fr_trans hf (fr_eq e6 (fr_pa (by decide)))
  obtain ⟨g7, h⟩ := gd_some h
  obtain ⟨s8, e9, h⟩ := nx_some h
  have hf := fr_trans hf (fr_eq e9 (fr_pa (by decide)))
  cases h
  exact hf
abbrev mA_X17_readOther : List Nat := []
abbrev mF_X17_readOther : List (Nat × Nat) := [(17, 5), (17, 6)]
abbrev mL_X17_readOther : List (Nat × Nat) := []
set_option maxRecDepth 100000 in
set_option maxHeartbeats 1000000 in
theorem frX17_readOther {S : St} {x1 : Int32} {v : Int32} {S' : St} (h : fX17_readOther S x1 = some (v, S')) : fr mA_X17_readOther mF_X17_readOther mL_X17_readOther S S' := by
  unfold fX17_readOther at h
  have hf : fr mA_X17_readOther mF_X17_readOther mL_X17_readOther S S := fr_refl
  obtain ⟨t1, e2, h⟩ := bd h
  have hf := fr_trans hf (fr_mono (by decide) (by decide) (by decide) (frX17_readLetter e2))
  obtain ⟨t5, e6, h⟩ := bd h
  have hf : fr mA_X17_readOther mF_X17_readOther mL_X17_readOther S t5 := by
    clear h
    have h := e6
    rcases it_or h with ⟨_, h⟩ | ⟨_, h⟩
    · obtain ⟨s3, e4, h⟩ := nx_some h
      have hf := fr_trans hf (fr_eq e4 (fr_pf (by decide)))
      cases h
      exact hf
    · cases h
      exact hf
  cases h
  exact hf
abbrev mA_X17_readFigure : List Nat := [18, 19, 20]
abbrev mF_X17_readFigure : List (Nat × Nat) := [(17, 5), (17, 6)]
abbrev mL_X17_readFigure : List (Nat × Nat) := []
set_option maxRecDepth 100000 in
set_option maxHeartbeats 1000000 in
theorem frX17_readFigure {S : St} {x1 : Int32} {S' : St} (h : fX17_readFigure S x1 = some (S')) : fr mA_X17_readFigure mF_X17_readFigure mL_X17_readFigure S S' := by
  unfold fX17_readFigure at h
  have hf : fr mA_X17_readFigure mF_X17_readFigure mL_X17_readFigure S S := fr_refl
  obtain ⟨t1, e2, h⟩ := bd h
  rcases it_or h with ⟨_, h⟩ | ⟨_, h⟩
  · obtain ⟨s17, e18, h⟩ := nx_some h
    have hf := fr_trans hf (fr_eq e18 (fr_pf (by decide)))
    cases h
    exact hf
  · obtain ⟨t3, e4, h⟩ := bd h
    obtain ⟨s5, e6, h⟩ := nx_some h
    have hf := fr_trans hf (fr_eq e6 (fr_pf (by decide)))
    obtain ⟨t7, e8, h⟩ := bd h
    obtain ⟨t13, e14, h⟩ := bd h
    have hf : fr mA_X17_readFigure mF_X17_readFigure mL_X17_readFigure S t13.1 := by
      clear h
      have h := e14
      rcases it_or h with ⟨_, h⟩ | ⟨_, h⟩
      · cases h
        exact hf
      · obtain ⟨t9, e10, h⟩ := bd h
        obtain ⟨s11, e12, h⟩ := nx_some h
        have hf := fr_trans hf (fr_eq e12 (fr_pf (by decide)))
        cases h
        exact hf
    obtain ⟨t15, e16, h⟩ := bd h
    have hf := fr_trans hf (fr_mono (by decide) (by decide) (by decide) (frX17_note e16))
    cases h
    exact hf
abbrev mA_X17_readNumber : List Nat := []
abbrev mF_X17_readNumber : List (Nat × Nat) := [(17, 5), (17, 6)]
abbrev mL_X17_readNumber : List (Nat × Nat) := []
set_option maxRecDepth 100000 in
set_option maxHeartbeats 1000000 in
theorem frX17_readNumber {S : St}  {v : Int32} {S' : St} (h : fX17_readNumber S = some (v, S')) : fr mA_X17_readNumber mF_X17_readNumber mL_X17_readNumber S S' := by
  unfold fX17_readNumber at h
  have hf : fr mA_X17_readNumber mF_X17_readNumber mL_X17_readNumber S S := fr_refl
  rcases it_or h with ⟨_, h⟩ | ⟨_, h⟩
  · obtain ⟨t3, e4, h⟩ := bd h
    rcases it_or h with ⟨_, h⟩ | ⟨_, h⟩
    · obtain ⟨s18, e19, h⟩ := nx_some h
      have hf := fr_trans hf (fr_eq e19 (fr_pf (by decide)))
      cases h
      exact hf
    · obtain ⟨t5, e6, h⟩ := bd h
      obtain ⟨s7, e8, h⟩ := nx_some h
      have hf := fr_trans hf (fr_eq e8 (fr_pf (by decide)))
      obtain ⟨t9, e10, h⟩ := bd h
      obtain ⟨t16, e17, h⟩ := bd h
      have hf : fr mA_X17_readNumber mF_X17_readNumber mL_X17_readNumber S t16.1 := by
        clear h
        have h := e17
        rcases it_or h with ⟨_, h⟩ | ⟨_, h⟩
        · cases h
          exact hf
        · obtain ⟨t11, e12, h⟩ := bd h
          obtain ⟨_, _, h⟩ := nx_some h
          obtain ⟨s14, e15, h⟩ := nx_some h
          have hf := fr_trans hf (fr_eq e15 (fr_pf (by decide)))
          cases h
          exact hf
      cases h
      exact hf
  · obtain ⟨s1, e2, h⟩ := nx_some h
    have hf := fr_trans hf (fr_eq e2 (fr_pf (by decide)))
    cases h
    exact hf
abbrev mA_X17_expect : List Nat := []
abbrev mF_X17_expect : List (Nat × Nat) := [(17, 5), (17, 6)]
abbrev mL_X17_expect : List (Nat × Nat) := []
set_option maxRecDepth 100000 in
set_option maxHeartbeats 1000000 in
theorem frX17_expect {S : St} {x1 : Int32} {S' : St} (h : fX17_expect S x1 = some (S')) : fr mA_X17_expect mF_X17_expect mL_X17_expect S S' := by
  unfold fX17_expect at h
  have hf : fr mA_X17_expect mF_X17_expect mL_X17_expect S S := fr_refl
  rcases it_or h with ⟨_, h⟩ | ⟨_, h⟩
  · obtain ⟨t3, e4, h⟩ := bd h
    rcases it_or h with ⟨_, h⟩ | ⟨_, h⟩
    · obtain ⟨s5, e6, h⟩ := nx_some h
      have hf := fr_trans hf (fr_eq e6 (fr_pf (by decide)))
      cases h
      exact hf
    · obtain ⟨s7, e8, h⟩ := nx_some h
      have hf := fr_trans hf (fr_eq e8 (fr_pf (by decide)))
      cases h
      exact hf
  · obtain ⟨s1, e2, h⟩ := nx_some h
    have hf := fr_trans hf (fr_eq e2 (fr_pf (by decide)))
    cases h
    exact hf
abbrev mA_X17_readSpan : List Nat := [18, 19, 20]
abbrev mF_X17_readSpan : List (Nat × Nat) := [(17, 5), (17, 6)]
abbrev mL_X17_readSpan : List (Nat × Nat) := []
set_option maxRecDepth 100000 in
set_option maxHeartbeats 1000000 in
theorem frX17_readSpan {S : St} {x1 : Int32} {x2 : Int32} {S' : St} (h : fX17_readSpan S x1 x2 = some (S')) : fr mA_X17_readSpan mF_X17_readSpan mL_X17_readSpan S S' := by
  unfold fX17_readSpan at h
  have hf : fr mA_X17_readSpan mF_X17_readSpan mL_X17_readSpan S S := fr_refl
  obtain ⟨t1, e2, h⟩ := bd h
  have hf := fr_trans hf (fr_mono (by decide) (by decide) (by decide) (frX17_readNumber e2))
  obtain ⟨t3, e4, h⟩ := bd h
  have hf := fr_trans hf (fr_mono (by decide) (by decide) (by decide) (frX17_expect e4))
  obtain ⟨t5, e6, h⟩ := bd h
  have hf := fr_trans hf (fr_mono (by decide) (by decide) (by decide) (frX17_readNumber e6))
  obtain ⟨t9, e10, h⟩ := bd h
  have hf : fr mA_X17_readSpan mF_X17_readSpan mL_X17_readSpan S t9 := by
    clear h
    have h := e10
    rcases it_or h with ⟨_, h⟩ | ⟨_, h⟩
    · cases h
      exact hf
    · obtain ⟨s7, e8, h⟩ := nx_some h
      have hf := fr_trans hf (fr_eq e8 (fr_pf (by decide)))
      cases h
      exact hf
  obtain ⟨t11, e12, h⟩ := bd h
  have hf := fr_trans hf (fr_mono (by decide) (by decide) (by decide) (frX17_note e12))
  cases h
  exact hf
abbrev mA_X17_readItem : List Nat := [18, 19, 20]
abbrev mF_X17_readItem : List (Nat × Nat) := [(17, 5), (17, 6)]
abbrev mL_X17_readItem : List (Nat × Nat) := []
set_option maxRecDepth 100000 in
set_option maxHeartbeats 1000000 in
theorem frX17_readItem {S : St}  {S' : St} (h : fX17_readItem S = some (S')) : fr mA_X17_readItem mF_X17_readItem mL_X17_readItem S S' := by
  unfold fX17_readItem at h
  have hf : fr mA_X17_readItem mF_X17_readItem mL_X17_readItem S S := fr_refl
  obtain ⟨t1, e2, h⟩ := bd h
  have hf := fr_trans hf (fr_mono (by decide) (by decide) (by decide) (frX17_readLetter e2))
  rcases it_or h with ⟨_, h⟩ | ⟨_, h⟩
  · obtain ⟨t3, e4, h⟩ := bd h
    obtain ⟨s5, e6, h⟩ := nx_some h
    have hf := fr_trans hf (fr_eq e6 (fr_pf (by decide)))
    obtain ⟨t31, e32, h⟩ := bd h
    have hf : fr mA_X17_readItem mF_X17_readItem mL_X17_readItem S t31 := by
      clear h
      have h := e32
      rcases it_or h with ⟨_, h⟩ | ⟨_, h⟩
      · obtain ⟨t7, e8, h⟩ := bd h
        have hf := fr_trans hf (fr_mono (by decide) (by decide) (by decide) (frX17_note e8))
        cases h
        exact hf
      rcases it_or h with ⟨_, h⟩ | ⟨_, h⟩
      · obtain ⟨t9, e10, h⟩ := bd h
        have hf := fr_trans hf (fr_mono (by decide) (by decide) (by decide) (frX17_readOther e10))
        obtain ⟨t11, e12, h⟩ := bd h
        have hf := fr_trans hf (fr_mono (by decide) (by decide) (by decide) (frX17_readOther e12))
        obtain ⟨t13, e14, h⟩ := bd h
        have hf := fr_trans hf (fr_mono (by decide) (by decide) (by decide) (frX17_note e14))
        cases h
        exact hf
      rcases it_or h with ⟨_, h⟩ | ⟨_, h⟩
      · obtain ⟨t15, e16, h⟩ := bd h
        have hf := fr_trans hf (fr_mono (by decide) (by decide) (by decide) (frX17_readFigure e16))
        cases h
        exact hf
      rcases it_or h with ⟨_, h⟩ | ⟨_, h⟩
      · obtain ⟨t17, e18, h⟩ := bd h
        have hf := fr_trans hf (fr_mono (by decide) (by decide) (by decide) (frX17_readOther e18))
        obtain ⟨t19, e20, h⟩ := bd h
        have hf := fr_trans hf (fr_mono (by decide) (by decide) (by decide) (frX17_note e20))
        cases h
        exact hf
      rcases it_or h with ⟨_, h⟩ | ⟨_, h⟩
      · obtain ⟨t21, e22, h⟩ := bd h
        have hf := fr_trans hf (fr_mono (by decide) (by decide) (by decide) (frX17_readSpan e22))
        obtain ⟨t23, e24, h⟩ := bd h
        have hf := fr_trans hf (fr_mono (by decide) (by decide) (by decide) (frX17_expect e24))
        cases h
        exact hf
      rcases it_or h with ⟨_, h⟩ | ⟨_, h⟩
      · obtain ⟨t25, e26, h⟩ := bd h
        have hf := fr_trans hf (fr_mono (by decide) (by decide) (by decide) (frX17_readSpan e26))
        cases h
        exact hf
      obtain ⟨s27, e28, h⟩ := nx_some h
      have hf := fr_trans hf (fr_eq e28 (fr_pf (by decide)))
      obtain ⟨s29, e30, h⟩ := nx_some h
      have hf := fr_trans hf (fr_eq e30 (fr_pf (by decide)))
      cases h
      exact hf
    cases h
    exact hf
  · cases h
    exact hf
abbrev mA_X17_findFault : List Nat := [18, 19, 20]
abbrev mF_X17_findFault : List (Nat × Nat) := [(17, 3), (17, 4), (17, 5), (17, 6)]
abbrev mL_X17_findFault : List (Nat × Nat) := []
set_option maxRecDepth 100000 in
set_option maxHeartbeats 1000000 in
theorem frX17_findFault_L30 {N : Nat}  {t : St} : ∀ (n : Nat) (S : St) (x3 : Int32), fX17_findFault_L30 N  n S x3 = some t → fr mA_X17_findFault mF_X17_findFault mL_X17_findFault S t := by
  intro n
  induction n with
  | zero =>
    intro _ _ h
    cases h
  | succ n ih =>
    intro S x3 h
    rw [fX17_findFault_L30] at h
    have hf : fr mA_X17_findFault mF_X17_findFault mL_X17_findFault S S := fr_refl
    rcases it_or h with ⟨_, h⟩ | ⟨_, h⟩
    · cases h
      exact hf
    · obtain ⟨g13, h⟩ := gd_some h
      obtain ⟨s14, e15, h⟩ := nx_some h
      have hf := fr_trans hf (fr_eq e15 (fr_pa (by decide)))
      exact fr_trans hf (ih _ _ h)
set_option maxRecDepth 100000 in
set_option maxHeartbeats 1000000 in
theorem frX17_findFault_L55 {N : Nat}  {t : St} : ∀ (n : Nat) (S : St) (x3 : Int32), fX17_findFault_L55 N  n S x3 = some t → fr mA_X17_findFault mF_X17_findFault mL_X17_findFault S t := by
  intro n
  induction n with
  | zero =>
    intro _ _ h
    cases h
  | succ n ih =>
    intro S x3 h
    rw [fX17_findFault_L55] at h
    have hf : fr mA_X17_findFault mF_X17_findFault mL_X17_findFault S S := fr_refl
    rcases it_or h with ⟨_, h⟩ | ⟨_, h⟩
    · cases h
      exact hf
    · rcases it_or h with ⟨_, h⟩ | ⟨_, h⟩
      · rcases it_or h with ⟨_, h⟩ | ⟨_, h⟩
        · cases h
          exact hf
        · obtain ⟨t20, e21, h⟩ := bd h
          have hf := fr_trans hf (fr_mono (by decide) (by decide) (by decide) (frX17_readItem e21))
          obtain ⟨t22, e23, h⟩ := bd h
          have hf := fr_trans hf (fr_mono (by decide) (by decide) (by decide) (frX17_skipBlanks e23))
          exact fr_trans hf (ih _ _ h)
      · cases h
        exact hf
set_option maxRecDepth 100000 in
set_option maxHeartbeats 1000000 in
theorem frX17_findFault {N : Nat} {S : St} {x2 : Int32} {v : Int32} {S' : St} (h : fX17_findFault N S x2 = some (v, S')) : fr mA_X17_findFault mF_X17_findFault mL_X17_findFault S S' := by
  unfold fX17_findFault at h
  have hf : fr mA_X17_findFault mF_X17_findFault mL_X17_findFault S S := fr_refl
  obtain ⟨t1, e2, h⟩ := bd h
  obtain ⟨s3, e4, h⟩ := nx_some h
  have hf := fr_trans hf (fr_eq e4 (fr_pf (by decide)))
  obtain ⟨t5, e6, h⟩ := bd h
  obtain ⟨s7, e8, h⟩ := nx_some h
  have hf := fr_trans hf (fr_eq e8 (fr_pf (by decide)))
  obtain ⟨s9, e10, h⟩ := nx_some h
  have hf := fr_trans hf (fr_eq e10 (fr_pf (by decide)))
  obtain ⟨s11, e12, h⟩ := nx_some h
  have hf := fr_trans hf (fr_eq e12 (fr_pf (by decide)))
  obtain ⟨t16, e17, h⟩ := bd h
  have hf := fr_trans hf (frX17_findFault_L30 _ _ _ e17)
  obtain ⟨t18, e19, h⟩ := bd h
  have hf := fr_trans hf (fr_mono (by decide) (by decide) (by decide) (frX17_skipBlanks e19))
  obtain ⟨t24, e25, h⟩ := bd h
  have hf := fr_trans hf (frX17_findFault_L55 _ _ _ e25)
  obtain ⟨t26, e27, h⟩ := bd h
  cases h
  exact hf
abbrev mA_X0_fault : List Nat := [18, 19, 20, 53]
abbrev mF_X0_fault : List (Nat × Nat) := [(0, 11), (17, 3), (17, 4), (17, 5), (17, 6)]
abbrev mL_X0_fault : List (Nat × Nat) := []
set_option maxRecDepth 100000 in
set_option maxHeartbeats 1000000 in
theorem frX0_fault {N : Nat} {S : St} {x1 : Int32} {v : Int32} {S' : St} (h : fX0_fault N S x1 = some (v, S')) : fr mA_X0_fault mF_X0_fault mL_X0_fault S S' := by
  unfold fX0_fault at h
  have hf : fr mA_X0_fault mF_X0_fault mL_X0_fault S S := fr_refl
  obtain ⟨t1, e2, h⟩ := bd h
  have hf := fr_trans hf (fr_mono (by decide) (by decide) (by decide) (frX0_refuseText e2))
  rcases it_or h with ⟨_, h⟩ | ⟨_, h⟩
  · obtain ⟨t3, e4, h⟩ := bd h
    have hf := fr_trans hf (fr_mono (by decide) (by decide) (by decide) (frX17_findFault e4))
    cases h
    exact hf
  · cases h
    exact hf
abbrev mA_X25_write : List Nat := [26, 27, 28]
abbrev mF_X25_write : List (Nat × Nat) := [(25, 4)]
abbrev mL_X25_write : List (Nat × Nat) := []
set_option maxRecDepth 100000 in
set_option maxHeartbeats 1000000 in
theorem frX25_write {S : St} {x1 : Int32} {x2 : Int32} {x3 : Int32} {x4 : Int32} {S' : St} (h : fX25_write S x1 x2 x3 x4 = some (S')) : fr mA_X25_write mF_X25_write mL_X25_write S S' := by
  unfold fX25_write at h
  have hf : fr mA_X25_write mF_X25_write mL_X25_write S S := fr_refl
  obtain ⟨g1, h⟩ := gd_some h
  obtain ⟨s2, e3, h⟩ := nx_some h
  have hf := fr_trans hf (fr_eq e3 (fr_pa (by decide)))
  obtain ⟨g4, h⟩ := gd_some h
  obtain ⟨s5, e6, h⟩ := nx_some h
  have hf := fr_trans hf (fr_eq e6 (fr_pa (by decide)))
  obtain ⟨g7, h⟩ := gd_some h
  obtain ⟨s8, e9, h⟩ := nx_some h
  have hf := fr_trans hf (fr_eq e9 (fr_pa (by decide)))
  obtain ⟨t10, e11, h⟩ := bd h
  obtain ⟨s12, e13, h⟩ := nx_some h
  have hf := fr_trans hf (fr_eq e13 (fr_pf (by decide)))
  cases h
  exact hf
abbrev mA_X17_writeTo : List Nat := [26, 27, 28]
abbrev mF_X17_writeTo : List (Nat × Nat) := [(25, 4)]
abbrev mL_X17_writeTo : List (Nat × Nat) := []
set_option maxRecDepth 100000 in
set_option maxHeartbeats 1000000 in
theorem frX17_writeTo_L2 {N : Nat}  {t : St} : ∀ (n : Nat) (S : St) (x2 : Int32), fX17_writeTo_L2 N  n S x2 = some t → fr mA_X17_writeTo mF_X17_writeTo mL_X17_writeTo S t := by
  intro n
  induction n with
  | zero =>
    intro _ _ h
    cases h
  | succ n ih =>
    intro S x2 h
    rw [fX17_writeTo_L2] at h
    have hf : fr mA_X17_writeTo mF_X17_writeTo mL_X17_writeTo S S := fr_refl
    rcases it_or h with ⟨_, h⟩ | ⟨_, h⟩
    · cases h
      exact hf
    · obtain ⟨g1, h⟩ := gd_some h
      obtain ⟨g2, h⟩ := gd_some h
      obtain ⟨g3, h⟩ := gd_some h
      obtain ⟨t4, e5, h⟩ := bd h
      have hf := fr_trans hf (fr_mono (by decide) (by decide) (by decide) (frX25_write e5))
      exact fr_trans hf (ih _ _ h)
set_option maxRecDepth 100000 in
set_option maxHeartbeats 1000000 in
theorem frX17_writeTo {N : Nat} {S : St}  {S' : St} (h : fX17_writeTo N S = some (S')) : fr mA_X17_writeTo mF_X17_writeTo mL_X17_writeTo S S' := by
  unfold fX17_writeTo at h
  have hf : fr mA_X17_writeTo mF_X17_writeTo mL_X17_writeTo S S := fr_refl
  obtain ⟨t6, e7, h⟩ := bd h
  have hf := fr_trans hf (frX17_writeTo_L2 _ _ _ e7)
  cases h
  exact hf
abbrev mA_X0_book : List Nat := [18, 19, 20, 26, 27, 28, 53]
abbrev mF_X0_book : List (Nat × Nat) := [(0, 11), (17, 3), (17, 4), (17, 5), (17, 6), (25, 4)]
abbrev mL_X0_book : List (Nat × Nat) := []
set_option maxRecDepth 100000 in
set_option maxHeartbeats 1000000 in
theorem frX0_book {N : Nat} {S : St} {x1 : Int32} {v : Int32} {S' : St} (h : fX0_book N S x1 = some (v, S')) : fr mA_X0_book mF_X0_book mL_X0_book S S' := by
  unfold fX0_book at h
  have hf : fr mA_X0_book mF_X0_book mL_X0_book S S := fr_refl
  obtain ⟨t1, e2, h⟩ := bd h
  have hf := fr_trans hf (fr_mono (by decide) (by decide) (by decide) (frX0_refuseText e2))
  rcases it_or h with ⟨_, h⟩ | ⟨_, h⟩
  · obtain ⟨t3, e4, h⟩ := bd h
    have hf := fr_trans hf (fr_mono (by decide) (by decide) (by decide) (frX17_findFault e4))
    rcases it_or h with ⟨_, h⟩ | ⟨_, h⟩
    · obtain ⟨t5, e6, h⟩ := bd h
      have hf := fr_trans hf (fr_mono (by decide) (by decide) (by decide) (frX17_writeTo e6))
      obtain ⟨t7, e8, h⟩ := bd h
      cases h
      exact hf
    · cases h
      exact hf
  · cases h
    exact hf
abbrev mA_X29_append : List Nat := [30, 31, 32]
abbrev mF_X29_append : List (Nat × Nat) := [(29, 4)]
abbrev mL_X29_append : List (Nat × Nat) := []
set_option maxRecDepth 100000 in
set_option maxHeartbeats 1000000 in
theorem frX29_append {S : St} {x1 : Int32} {x2 : Int32} {x3 : Int32} {S' : St} (h : fX29_append S x1 x2 x3 = some (S')) : fr mA_X29_append mF_X29_append mL_X29_append S S' := by
  unfold fX29_append at h
  have hf : fr mA_X29_append mF_X29_append mL_X29_append S S := fr_refl
  obtain ⟨g1, h⟩ := gd_some h
  obtain ⟨s2, e3, h⟩ := nx_some h
  have hf := fr_trans hf (fr_eq e3 (fr_pa (by decide)))
  obtain ⟨g4, h⟩ := gd_some h
  obtain ⟨s5, e6, h⟩ := nx_some h
  have hf := fr_trans hf (fr_eq e6 (fr_pa (by decide)))
  obtain ⟨g7, h⟩ := gd_some h
  obtain ⟨s8, e9, h⟩ := nx_some h
  have hf := fr_trans hf (fr_eq e9 (fr_pa (by decide)))
  obtain ⟨s10, e11, h⟩ := nx_some h
  have hf := fr_trans hf (fr_eq e11 (fr_pf (by decide)))
  cases h
  exact hf
abbrev mA_X0_sum : List Nat := [30, 31, 32]
abbrev mF_X0_sum : List (Nat × Nat) := [(29, 4)]
abbrev mL_X0_sum : List (Nat × Nat) := []
set_option maxRecDepth 100000 in
set_option maxHeartbeats 1000000 in
theorem frX0_sum {S : St} {x1 : Int32} {x2 : Int32} {x3 : Int32} {v : Int32} {S' : St} (h : fX0_sum S x1 x2 x3 = some (v, S')) : fr mA_X0_sum mF_X0_sum mL_X0_sum S S' := by
  unfold fX0_sum at h
  have hf : fr mA_X0_sum mF_X0_sum mL_X0_sum S S := fr_refl
  obtain ⟨t1, e2, h⟩ := bd h
  rcases it_or h with ⟨_, h⟩ | ⟨_, h⟩
  · cases h
    exact hf
  · obtain ⟨t3, e4, h⟩ := bd h
    rcases it_or h with ⟨_, h⟩ | ⟨_, h⟩
    · cases h
      exact hf
    · rcases it_or h with ⟨_, h⟩ | ⟨_, h⟩
      · cases h
        exact hf
      · rcases it_or h with ⟨_, h⟩ | ⟨_, h⟩
        · obtain ⟨t5, e6, h⟩ := bd h
          rcases it_or h with ⟨_, h⟩ | ⟨_, h⟩
          · cases h
            exact hf
          · obtain ⟨t7, e8, h⟩ := bd h
            rcases it_or h with ⟨_, h⟩ | ⟨_, h⟩
            · obtain ⟨t9, e10, h⟩ := bd h
              have hf := fr_trans hf (fr_mono (by decide) (by decide) (by decide) (frX29_append e10))
              obtain ⟨t11, e12, h⟩ := bd h
              cases h
              exact hf
            · cases h
              exact hf
        · cases h
          exact hf
abbrev mA_X29_setTotal : List Nat := [32]
abbrev mF_X29_setTotal : List (Nat × Nat) := []
abbrev mL_X29_setTotal : List (Nat × Nat) := []
set_option maxRecDepth 100000 in
set_option maxHeartbeats 1000000 in
theorem frX29_setTotal {S : St} {x1 : Int32} {x2 : Int32} {S' : St} (h : fX29_setTotal S x1 x2 = some (S')) : fr mA_X29_setTotal mF_X29_setTotal mL_X29_setTotal S S' := by
  unfold fX29_setTotal at h
  have hf : fr mA_X29_setTotal mF_X29_setTotal mL_X29_setTotal S S := fr_refl
  obtain ⟨g1, h⟩ := gd_some h
  obtain ⟨s2, e3, h⟩ := nx_some h
  have hf := fr_trans hf (fr_eq e3 (fr_pa (by decide)))
  cases h
  exact hf
abbrev mA_X0_total : List Nat := [32]
abbrev mF_X0_total : List (Nat × Nat) := []
abbrev mL_X0_total : List (Nat × Nat) := []
set_option maxRecDepth 100000 in
set_option maxHeartbeats 1000000 in
theorem frX0_total {S : St} {x1 : Int32} {x2 : Int32} {v : Int32} {S' : St} (h : fX0_total S x1 x2 = some (v, S')) : fr mA_X0_total mF_X0_total mL_X0_total S S' := by
  unfold fX0_total at h
  have hf : fr mA_X0_total mF_X0_total mL_X0_total S S := fr_refl
  rcases it_or h with ⟨_, h⟩ | ⟨_, h⟩
  · cases h
    exact hf
  · obtain ⟨t1, e2, h⟩ := bd h
    rcases it_or h with ⟨_, h⟩ | ⟨_, h⟩
    · cases h
      exact hf
    · obtain ⟨t3, e4, h⟩ := bd h
      rcases it_or h with ⟨_, h⟩ | ⟨_, h⟩
      · cases h
        exact hf
      · obtain ⟨t5, e6, h⟩ := bd h
        obtain ⟨t7, e8, h⟩ := bd h
        have hf := fr_trans hf (fr_mono (by decide) (by decide) (by decide) (frX29_setTotal e8))
        cases h
        exact hf
abbrev mA_X29_removeAll : List Nat := []
abbrev mF_X29_removeAll : List (Nat × Nat) := [(29, 4)]
abbrev mL_X29_removeAll : List (Nat × Nat) := []
set_option maxRecDepth 100000 in
set_option maxHeartbeats 1000000 in
theorem frX29_removeAll {S : St}  {S' : St} (h : fX29_removeAll S = some (S')) : fr mA_X29_removeAll mF_X29_removeAll mL_X29_removeAll S S' := by
  unfold fX29_removeAll at h
  have hf : fr mA_X29_removeAll mF_X29_removeAll mL_X29_removeAll S S := fr_refl
  obtain ⟨s1, e2, h⟩ := nx_some h
  have hf := fr_trans hf (fr_eq e2 (fr_pf (by decide)))
  cases h
  exact hf
abbrev mA_X0_clear : List Nat := []
abbrev mF_X0_clear : List (Nat × Nat) := [(29, 4)]
abbrev mL_X0_clear : List (Nat × Nat) := []
set_option maxRecDepth 100000 in
set_option maxHeartbeats 1000000 in
theorem frX0_clear {S : St}  {v : Int32} {S' : St} (h : fX0_clear S = some (v, S')) : fr mA_X0_clear mF_X0_clear mL_X0_clear S S' := by
  unfold fX0_clear at h
  have hf : fr mA_X0_clear mF_X0_clear mL_X0_clear S S := fr_refl
  obtain ⟨t1, e2, h⟩ := bd h
  obtain ⟨t3, e4, h⟩ := bd h
  have hf := fr_trans hf (fr_mono (by decide) (by decide) (by decide) (frX29_removeAll e4))
  cases h
  exact hf
abbrev mA_X22_take : List Nat := [23, 24]
abbrev mF_X22_take : List (Nat × Nat) := [(22, 2)]
abbrev mL_X22_take : List (Nat × Nat) := []
set_option maxRecDepth 100000 in
set_option maxHeartbeats 1000000 in
theorem frX22_take_L2 {N : Nat} {x2 : Int32} {t : St} : ∀ (n : Nat) (S : St) (x3 : Int32), fX22_take_L2 N x2 n S x3 = some t → fr mA_X22_take mF_X22_take mL_X22_take S t := by
  intro n
  induction n with
  | zero =>
    intro _ _ h
    cases h
  | succ n ih =>
    intro S x3 h
    rw [fX22_take_L2] at h
    have hf : fr mA_X22_take mF_X22_take mL_X22_take S S := fr_refl
    rcases it_or h with ⟨_, h⟩ | ⟨_, h⟩
    · cases h
      exact hf
    · obtain ⟨g1, h⟩ := gd_some h
      obtain ⟨s2, e3, h⟩ := nx_some h
      have hf := fr_trans hf (fr_eq e3 (fr_pa (by decide)))
      exact fr_trans hf (ih _ _ h)
set_option maxRecDepth 100000 in
set_option maxHeartbeats 1000000 in
theorem frX22_take_L37 {N : Nat} {x2 : Int32} {t : St} : ∀ (n : Nat) (S : St) (x3 : Int32), fX22_take_L37 N x2 n S x3 = some t → fr mA_X22_take mF_X22_take mL_X22_take S t := by
  intro n
  induction n with
  | zero =>
    intro _ _ h
    cases h
  | succ n ih =>
    intro S x3 h
    rw [fX22_take_L37] at h
    have hf : fr mA_X22_take mF_X22_take mL_X22_take S S := fr_refl
    rcases it_or h with ⟨_, h⟩ | ⟨_, h⟩
    · cases h
      exact hf
    · obtain ⟨t11, e12, h⟩ := bd h
      obtain ⟨g13, h⟩ := gd_some h
      obtain ⟨s14, e15, h⟩ := nx_some h
      have hf := fr_trans hf (fr_eq e15 (fr_pa (by decide)))
      obtain ⟨g16, h⟩ := gd_some h
      obtain ⟨g17, h⟩ := gd_some h
      obtain ⟨g18, h⟩ := gd_some h
      obtain ⟨s19, e20, h⟩ := nx_some h
      have hf := fr_trans hf (fr_eq e20 (fr_pa (by decide)))
      exact fr_trans hf (ih _ _ h)
set_option maxRecDepth 100000 in
set_option maxHeartbeats 1000000 in
theorem frX22_take {N : Nat} {S : St} {x2 : Int32} {S' : St} (h : fX22_take N S x2 = some (S')) : fr mA_X22_take mF_X22_take mL_X22_take S S' := by
  unfold fX22_take at h
  have hf : fr mA_X22_take mF_X22_take mL_X22_take S S := fr_refl
  obtain ⟨t4, e5, h⟩ := bd h
  have hf := fr_trans hf (frX22_take_L2 _ _ _ e5)
  obtain ⟨t6, e7, h⟩ := bd h
  obtain ⟨_, _, h⟩ := nx_some h
  obtain ⟨s9, e10, h⟩ := nx_some h
  have hf := fr_trans hf (fr_eq e10 (fr_pf (by decide)))
  obtain ⟨t21, e22, h⟩ := bd h
  have hf := fr_trans hf (frX22_take_L37 _ _ _ e22)
  cases h
  exact hf
abbrev mA_X0_heap : List Nat := [23, 24, 53]
abbrev mF_X0_heap : List (Nat × Nat) := [(0, 11), (22, 2)]
abbrev mL_X0_heap : List (Nat × Nat) := []
set_option maxRecDepth 100000 in
set_option maxHeartbeats 1000000 in
theorem frX0_heap {N : Nat} {S : St} {x1 : Int32} {v : Int32} {S' : St} (h : fX0_heap N S x1 = some (v, S')) : fr mA_X0_heap mF_X0_heap mL_X0_heap S S' := by
  unfold fX0_heap at h
  have hf : fr mA_X0_heap mF_X0_heap mL_X0_heap S S := fr_refl
  obtain ⟨t1, e2, h⟩ := bd h
  have hf := fr_trans hf (fr_mono (by decide) (by decide) (by decide) (frX0_refuseRow e2))
  rcases it_or h with ⟨_, h⟩ | ⟨_, h⟩
  · obtain ⟨t3, e4, h⟩ := bd h
    rcases it_or h with ⟨_, h⟩ | ⟨_, h⟩
    · obtain ⟨t5, e6, h⟩ := bd h
      rcases it_or h with ⟨_, h⟩ | ⟨_, h⟩
      · obtain ⟨t11, e12, h⟩ := bd h
        have hf := fr_trans hf (fr_mono (by decide) (by decide) (by decide) (frX0_found e12))
        cases h
        exact hf
      · obtain ⟨t7, e8, h⟩ := bd h
        have hf := fr_trans hf (fr_mono (by decide) (by decide) (by decide) (frX22_take e8))
        obtain ⟨t9, e10, h⟩ := bd h
        cases h
        exact hf
    · obtain ⟨t13, e14, h⟩ := bd h
      have hf := fr_trans hf (fr_mono (by decide) (by decide) (by decide) (frX0_found e14))
      cases h
      exact hf
  · cases h
    exact hf
abbrev mA_X0_refuseCell : List Nat := [53]
abbrev mF_X0_refuseCell : List (Nat × Nat) := [(0, 11)]
abbrev mL_X0_refuseCell : List (Nat × Nat) := []
set_option maxRecDepth 100000 in
set_option maxHeartbeats 1000000 in
theorem frX0_refuseCell {S : St} {x1 : Int32} {v : Int32} {S' : St} (h : fX0_refuseCell S x1 = some (v, S')) : fr mA_X0_refuseCell mF_X0_refuseCell mL_X0_refuseCell S S' := by
  unfold fX0_refuseCell at h
  have hf : fr mA_X0_refuseCell mF_X0_refuseCell mL_X0_refuseCell S S := fr_refl
  obtain ⟨t1, e2, h⟩ := bd h
  rcases it_or h with ⟨_, h⟩ | ⟨_, h⟩
  · cases h
    exact hf
  · obtain ⟨t3, e4, h⟩ := bd h
    obtain ⟨t7, e8, h⟩ := bd h
    have hf : fr mA_X0_refuseCell mF_X0_refuseCell mL_X0_refuseCell S t7.1 := by
      clear h
      have h := e8
      rcases it_or h with ⟨_, h⟩ | ⟨_, h⟩
      · obtain ⟨t5, e6, h⟩ := bd h
        have hf := fr_trans hf (fr_mono (by decide) (by decide) (by decide) (frX0_found e6))
        cases h
        exact hf
      · cases h
        exact hf
    cases h
    exact hf
abbrev mA_X0_read : List Nat := [26, 27, 28, 53]
abbrev mF_X0_read : List (Nat × Nat) := [(0, 11), (25, 4)]
abbrev mL_X0_read : List (Nat × Nat) := []
set_option maxRecDepth 100000 in
set_option maxHeartbeats 1000000 in
theorem frX0_read {S : St} {x1 : Int32} {x2 : Int32} {v : Int32} {S' : St} (h : fX0_read S x1 x2 = some (v, S')) : fr mA_X0_read mF_X0_read mL_X0_read S S' := by
  unfold fX0_read at h
  have hf : fr mA_X0_read mF_X0_read mL_X0_read S S := fr_refl
  obtain ⟨t1, e2, h⟩ := bd h
  rcases it_or h with ⟨_, h⟩ | ⟨_, h⟩
  · cases h
    exact hf
  · obtain ⟨t3, e4, h⟩ := bd h
    have hf := fr_trans hf (fr_mono (by decide) (by decide) (by decide) (frX0_refuseCell e4))
    rcases it_or h with ⟨_, h⟩ | ⟨_, h⟩
    · obtain ⟨t5, e6, h⟩ := bd h
      obtain ⟨t7, e8, h⟩ := bd h
      have hf := fr_trans hf (fr_mono (by decide) (by decide) (by decide) (frX25_write e8))
      cases h
      exact hf
    · cases h
      exact hf
abbrev mA_X0_kind : List Nat := [53]
abbrev mF_X0_kind : List (Nat × Nat) := [(0, 11)]
abbrev mL_X0_kind : List (Nat × Nat) := []
set_option maxRecDepth 100000 in
set_option maxHeartbeats 1000000 in
theorem frX0_kind {S : St} {x1 : Int32} {v : Int32} {S' : St} (h : fX0_kind S x1 = some (v, S')) : fr mA_X0_kind mF_X0_kind mL_X0_kind S S' := by
  unfold fX0_kind at h
  have hf : fr mA_X0_kind mF_X0_kind mL_X0_kind S S := fr_refl
  obtain ⟨t1, e2, h⟩ := bd h
  have hf := fr_trans hf (fr_mono (by decide) (by decide) (by decide) (frX0_refuseCell e2))
  rcases it_or h with ⟨_, h⟩ | ⟨_, h⟩
  · obtain ⟨t3, e4, h⟩ := bd h
    cases h
    exact hf
  · cases h
    exact hf
abbrev mA_X0_mark : List Nat := [53]
abbrev mF_X0_mark : List (Nat × Nat) := [(0, 11)]
abbrev mL_X0_mark : List (Nat × Nat) := []
set_option maxRecDepth 100000 in
set_option maxHeartbeats 1000000 in
theorem frX0_mark {N : Nat} {S : St} {x1 : Int32} {x2 : Int32} {v : Int32} {S' : St} (h : fX0_mark N S x1 x2 = some (v, S')) : fr mA_X0_mark mF_X0_mark mL_X0_mark S S' := by
  unfold fX0_mark at h
  have hf : fr mA_X0_mark mF_X0_mark mL_X0_mark S S := fr_refl
  rcases it_or h with ⟨_, h⟩ | ⟨_, h⟩
  · cases h
    exact hf
  · rcases it_or h with ⟨_, h⟩ | ⟨_, h⟩
    · obtain ⟨t1, e2, h⟩ := bd h
      have hf := fr_trans hf (fr_mono (by decide) (by decide) (by decide) (frX0_refuseCell e2))
      rcases it_or h with ⟨_, h⟩ | ⟨_, h⟩
      · obtain ⟨t3, e4, h⟩ := bd h
        rcases it_or h with ⟨_, h⟩ | ⟨_, h⟩
        · obtain ⟨t5, e6, h⟩ := bd h
          cases h
          exact hf
        · obtain ⟨t7, e8, h⟩ := bd h
          have hf := fr_trans hf (fr_mono (by decide) (by decide) (by decide) (frX0_found e8))
          cases h
          exact hf
      · cases h
        exact hf
    · cases h
      exact hf
abbrev mA_X33_keep : List Nat := [35, 36]
abbrev mF_X33_keep : List (Nat × Nat) := [(33, 5), (33, 6)]
abbrev mL_X33_keep : List (Nat × Nat) := []
set_option maxRecDepth 100000 in
set_option maxHeartbeats 1000000 in
theorem frX33_keep {N : Nat} {S : St} {x1 : Int32} {x2 : Int32} {x3 : Int32} {S' : St} (h : fX33_keep N S x1 x2 x3 = some (S')) : fr mA_X33_keep mF_X33_keep mL_X33_keep S S' := by
  unfold fX33_keep at h
  have hf : fr mA_X33_keep mF_X33_keep mL_X33_keep S S := fr_refl
  obtain ⟨g1, h⟩ := gd_some h
  obtain ⟨_, _, h⟩ := nx_some h
  obtain ⟨g3, h⟩ := gd_some h
  obtain ⟨_, _, h⟩ := nx_some h
  obtain ⟨t5, e6, h⟩ := bd h
  obtain ⟨t7, e8, h⟩ := bd h
  obtain ⟨g9, h⟩ := gd_some h
  obtain ⟨t27, e28, h⟩ := bd h
  have hf : fr mA_X33_keep mF_X33_keep mL_X33_keep S t27 := by
    clear h
    have h := e28
    rcases it_or h with ⟨_, h⟩ | ⟨_, h⟩
    · obtain ⟨g18, h⟩ := gd_some h
      rcases it_or h with ⟨_, h⟩ | ⟨_, h⟩
      · cases h
        exact hf
      · obtain ⟨s19, e20, h⟩ := nx_some h
        have hf := fr_trans hf (fr_eq e20 (fr_pf (by decide)))
        obtain ⟨g21, h⟩ := gd_some h
        obtain ⟨s22, e23, h⟩ := nx_some h
        have hf := fr_trans hf (fr_eq e23 (fr_pa (by decide)))
        obtain ⟨g24, h⟩ := gd_some h
        obtain ⟨s25, e26, h⟩ := nx_some h
        have hf := fr_trans hf (fr_eq e26 (fr_pa (by decide)))
        cases h
        exact hf
    · obtain ⟨s10, e11, h⟩ := nx_some h
      have hf := fr_trans hf (fr_eq e11 (fr_pf (by decide)))
      obtain ⟨g12, h⟩ := gd_some h
      obtain ⟨s13, e14, h⟩ := nx_some h
      have hf := fr_trans hf (fr_eq e14 (fr_pa (by decide)))
      obtain ⟨g15, h⟩ := gd_some h
      obtain ⟨s16, e17, h⟩ := nx_some h
      have hf := fr_trans hf (fr_eq e17 (fr_pa (by decide)))
      cases h
      exact hf
  obtain ⟨t31, e32, h⟩ := bd h
  have hf : fr mA_X33_keep mF_X33_keep mL_X33_keep S t31 := by
    clear h
    have h := e32
    rcases it_or h with ⟨_, h⟩ | ⟨_, h⟩
    · cases h
      exact hf
    · obtain ⟨s29, e30, h⟩ := nx_some h
      have hf := fr_trans hf (fr_eq e30 (fr_pf (by decide)))
      cases h
      exact hf
  cases h
  exact hf
abbrev mA_X33_widen : List Nat := [35, 36]
abbrev mF_X33_widen : List (Nat × Nat) := [(33, 5), (33, 6)]
abbrev mL_X33_widen : List (Nat × Nat) := []
set_option maxRecDepth 100000 in
set_option maxHeartbeats 1000000 in
theorem frX33_widen_L7 {N : Nat}  {t : St} : ∀ (n : Nat) (S : St) (x1 : Int32), fX33_widen_L7 N  n S x1 = some t → fr mA_X33_widen mF_X33_widen mL_X33_widen S t := by
  intro n
  induction n with
  | zero =>
    intro _ _ h
    cases h
  | succ n ih =>
    intro S x1 h
    rw [fX33_widen_L7] at h
    have hf : fr mA_X33_widen mF_X33_widen mL_X33_widen S S := fr_refl
    rcases it_or h with ⟨_, h⟩ | ⟨_, h⟩
    · cases h
      exact hf
    · obtain ⟨t3, e4, h⟩ := bd h
      obtain ⟨t13, e14, h⟩ := bd h
      have hf : fr mA_X33_widen mF_X33_widen mL_X33_widen S t13 := by
        clear h
        have h := e14
        rcases it_or h with ⟨_, h⟩ | ⟨_, h⟩
        · cases h
          exact hf
        · obtain ⟨g5, h⟩ := gd_some h
          obtain ⟨s6, e7, h⟩ := nx_some h
          have hf := fr_trans hf (fr_eq e7 (fr_pa (by decide)))
          obtain ⟨g8, h⟩ := gd_some h
          obtain ⟨s9, e10, h⟩ := nx_some h
          have hf := fr_trans hf (fr_eq e10 (fr_pa (by decide)))
          obtain ⟨t11, e12, h⟩ := bd h
          have hf := fr_trans hf (fr_mono (by decide) (by decide) (by decide) (frX33_keep e12))
          cases h
          exact hf
      exact fr_trans hf (ih _ _ h)
set_option maxRecDepth 100000 in
set_option maxHeartbeats 1000000 in
theorem frX33_widen {N : Nat} {S : St}  {S' : St} (h : fX33_widen N S = some (S')) : fr mA_X33_widen mF_X33_widen mL_X33_widen S S' := by
  unfold fX33_widen at h
  have hf : fr mA_X33_widen mF_X33_widen mL_X33_widen S S := fr_refl
  obtain ⟨s1, e2, h⟩ := nx_some h
  have hf := fr_trans hf (fr_eq e2 (fr_pf (by decide)))
  obtain ⟨t15, e16, h⟩ := bd h
  have hf := fr_trans hf (frX33_widen_L7 _ _ _ e16)
  cases h
  exact hf
abbrev mA_X33_lookAtFirst : List Nat := [34, 35, 36]
abbrev mF_X33_lookAtFirst : List (Nat × Nat) := [(33, 5), (33, 6)]
abbrev mL_X33_lookAtFirst : List (Nat × Nat) := []
set_option maxRecDepth 100000 in
set_option maxHeartbeats 1000000 in
theorem frX33_lookAtFirst_L10 {N : Nat} {x1 : Int32} {t : St} : ∀ (n : Nat) (S : St) (x2 : Int32), fX33_lookAtFirst_L10 N x1 n S x2 = some t → fr mA_X33_lookAtFirst mF_X33_lookAtFirst mL_X33_lookAtFirst S t := by
  intro n
  induction n with
  | zero =>
    intro _ _ h
    cases h
  | succ n ih =>
    intro S x2 h
    rw [fX33_lookAtFirst_L10] at h
    have hf : fr mA_X33_lookAtFirst mF_X33_lookAtFirst mL_X33_lookAtFirst S S := fr_refl
    rcases it_or h with ⟨_, h⟩ | ⟨_, h⟩
    · cases h
      exact hf
    · obtain ⟨t1, e2, h⟩ := bd h
      rcases it_or h with ⟨_, h⟩ | ⟨_, h⟩
      · cases h
        exact hf
      · obtain ⟨t3, e4, h⟩ := bd h
        obtain ⟨g5, h⟩ := gd_some h
        obtain ⟨_, h⟩ := gd_some h
        obtain ⟨s6, e7, h⟩ := nx_some h
        have hf := fr_trans hf (fr_eq e7 (fr_pa (by decide)))
        exact fr_trans hf (ih _ _ h)
set_option maxRecDepth 100000 in
set_option maxHeartbeats 1000000 in
theorem frX33_lookAtFirst_L2 {N : Nat}  {t : St} : ∀ (n : Nat) (S : St) (x1 : Int32), fX33_lookAtFirst_L2 N  n S x1 = some t → fr mA_X33_lookAtFirst mF_X33_lookAtFirst mL_X33_lookAtFirst S t := by
  intro n
  induction n with
  | zero =>
    intro _ _ h
    cases h
  | succ n ih =>
    intro S x1 h
    rw [fX33_lookAtFirst_L2] at h
    have hf : fr mA_X33_lookAtFirst mF_X33_lookAtFirst mL_X33_lookAtFirst S S := fr_refl
    rcases it_or h with ⟨_, h⟩ | ⟨_, h⟩
    · cases h
      exact hf
    · obtain ⟨t8, e9, h⟩ := bd h
      have hf := fr_trans hf (frX33_lookAtFirst_L10 _ _ _ e9)
      exact fr_trans hf (ih _ _ h)
set_option maxRecDepth 100000 in
set_option maxHeartbeats 1000000 in
theorem frX33_lookAtFirst {N : Nat} {S : St}  {S' : St} (h : fX33_lookAtFirst N S = some (S')) : fr mA_X33_lookAtFirst mF_X33_lookAtFirst mL_X33_lookAtFirst S S' := by
  unfold fX33_lookAtFirst at h
  have hf : fr mA_X33_lookAtFirst mF_X33_lookAtFirst mL_X33_lookAtFirst S S := fr_refl
  obtain ⟨t10, e11, h⟩ := bd h
  have hf := fr_trans hf (frX33_lookAtFirst_L2 _ _ _ e11)
  obtain ⟨t12, e13, h⟩ := bd h
  have hf := fr_trans hf (fr_mono (by decide) (by decide) (by decide) (frX33_widen e13))
  cases h
  exact hf
abbrev mA_X33_narrowBySum : List Nat := [35, 36]
abbrev mF_X33_narrowBySum : List (Nat × Nat) := [(33, 5), (33, 6)]
abbrev mL_X33_narrowBySum : List (Nat × Nat) := []
set_option maxRecDepth 100000 in
set_option maxHeartbeats 1000000 in
theorem frX33_narrowBySum_L33 {N : Nat} {x1 : Int32} {x2 : Int32} {x3 : Int32} {t : St} : ∀ (n : Nat) (S : St) (x4 : Int32), fX33_narrowBySum_L33 N x1 x2 x3 n S x4 = some t → fr mA_X33_narrowBySum mF_X33_narrowBySum mL_X33_narrowBySum S t := by
  intro n
  induction n with
  | zero =>
    intro _ _ h
    cases h
  | succ n ih =>
    intro S x4 h
    rw [fX33_narrowBySum_L33] at h
    have hf : fr mA_X33_narrowBySum mF_X33_narrowBySum mL_X33_narrowBySum S S := fr_refl
    rcases it_or h with ⟨_, h⟩ | ⟨_, h⟩
    · cases h
      exact hf
    · rcases it_or h with ⟨_, h⟩ | ⟨_, h⟩
      · obtain ⟨g9, h⟩ := gd_some h
        obtain ⟨_, _, h⟩ := nx_some h
        obtain ⟨g11, h⟩ := gd_some h
        obtain ⟨_, _, h⟩ := nx_some h
        obtain ⟨t13, e14, h⟩ := bd h
        obtain ⟨t21, e22, h⟩ := bd h
        have hf : fr mA_X33_narrowBySum mF_X33_narrowBySum mL_X33_narrowBySum S t21 := by
          clear h
          have h := e22
          rcases it_or h with ⟨_, h⟩ | ⟨_, h⟩
          · obtain ⟨t15, e16, h⟩ := bd h
            rcases it_or h with ⟨_, h⟩ | ⟨_, h⟩
            · cases h
              exact hf
            · obtain ⟨t17, e18, h⟩ := bd h
              have hf := fr_trans hf (fr_mono (by decide) (by decide) (by decide) (frX33_keep e18))
              cases h
              exact hf
          · obtain ⟨t19, e20, h⟩ := bd h
            have hf := fr_trans hf (fr_mono (by decide) (by decide) (by decide) (frX33_keep e20))
            cases h
            exact hf
        exact fr_trans hf (ih _ _ h)
      · cases h
        exact hf
set_option maxRecDepth 100000 in
set_option maxHeartbeats 1000000 in
theorem frX33_narrowBySum {N : Nat} {S : St} {x1 : Int32} {S' : St} (h : fX33_narrowBySum N S x1 = some (S')) : fr mA_X33_narrowBySum mF_X33_narrowBySum mL_X33_narrowBySum S S' := by
  unfold fX33_narrowBySum at h
  have hf : fr mA_X33_narrowBySum mF_X33_narrowBySum mL_X33_narrowBySum S S := fr_refl
  obtain ⟨t1, e2, h⟩ := bd h
  obtain ⟨t3, e4, h⟩ := bd h
  obtain ⟨t5, e6, h⟩ := bd h
  obtain ⟨t7, e8, h⟩ := bd h
  obtain ⟨t23, e24, h⟩ := bd h
  have hf := fr_trans hf (frX33_narrowBySum_L33 _ _ _ e24)
  cases h
  exact hf
abbrev mA_X33_narrowByOrder : List Nat := [35, 36]
abbrev mF_X33_narrowByOrder : List (Nat × Nat) := [(33, 5), (33, 6)]
abbrev mL_X33_narrowByOrder : List (Nat × Nat) := []
set_option maxRecDepth 100000 in
set_option maxHeartbeats 1000000 in
theorem frX33_narrowByOrder {N : Nat} {S : St} {x1 : Int32} {x2 : Int32} {S' : St} (h : fX33_narrowByOrder N S x1 x2 = some (S')) : fr mA_X33_narrowByOrder mF_X33_narrowByOrder mL_X33_narrowByOrder S S' := by
  unfold fX33_narrowByOrder at h
  have hf : fr mA_X33_narrowByOrder mF_X33_narrowByOrder mL_X33_narrowByOrder S S := fr_refl
  obtain ⟨g1, h⟩ := gd_some h
  obtain ⟨t2, e3, h⟩ := bd h
  have hf := fr_trans hf (fr_mono (by decide) (by decide) (by decide) (frX33_keep e3))
  obtain ⟨g4, h⟩ := gd_some h
  obtain ⟨t5, e6, h⟩ := bd h
  have hf := fr_trans hf (fr_mono (by decide) (by decide) (by decide) (frX33_keep e6))
  cases h
  exact hf
abbrev mA_X33_narrowFactor : List Nat := [35, 36]
abbrev mF_X33_narrowFactor : List (Nat × Nat) := [(33, 5), (33, 6)]
abbrev mL_X33_narrowFactor : List (Nat × Nat) := []
set_option maxRecDepth 100000 in
set_option maxHeartbeats 1000000 in
theorem frX33_narrowFactor {N : Nat} {S : St} {x1 : Int32} {x2 : Int32} {x3 : Int32} {S' : St} (h : fX33_narrowFactor N S x1 x2 x3 = some (S')) : fr mA_X33_narrowFactor mF_X33_narrowFactor mL_X33_narrowFactor S S' := by
  unfold fX33_narrowFactor at h
  have hf : fr mA_X33_narrowFactor mF_X33_narrowFactor mL_X33_narrowFactor S S := fr_refl
  rcases it_or h with ⟨_, h⟩ | ⟨_, h⟩
  · obtain ⟨g1, h⟩ := gd_some h
    obtain ⟨g2, h⟩ := gd_some h
    obtain ⟨t3, e4, h⟩ := bd h
    obtain ⟨g5, h⟩ := gd_some h
    obtain ⟨g6, h⟩ := gd_some h
    obtain ⟨t7, e8, h⟩ := bd h
    obtain ⟨t9, e10, h⟩ := bd h
    have hf := fr_trans hf (fr_mono (by decide) (by decide) (by decide) (frX33_keep e10))
    cases h
    exact hf
  · cases h
    exact hf
abbrev mA_X33_narrowByProduct : List Nat := [35, 36]
abbrev mF_X33_narrowByProduct : List (Nat × Nat) := [(33, 5), (33, 6)]
abbrev mL_X33_narrowByProduct : List (Nat × Nat) := []
set_option maxRecDepth 100000 in
set_option maxHeartbeats 1000000 in
theorem frX33_narrowByProduct {N : Nat} {S : St} {x1 : Int32} {x2 : Int32} {x3 : Int32} {S' : St} (h : fX33_narrowByProduct N S x1 x2 x3 = some (S')) : fr mA_X33_narrowByProduct mF_X33_narrowByProduct mL_X33_narrowByProduct S S' := by
  unfold fX33_narrowByProduct at h
  have hf : fr mA_X33_narrowByProduct mF_X33_narrowByProduct mL_X33_narrowByProduct S S := fr_refl
  obtain ⟨g1, h⟩ := gd_some h
  obtain ⟨g2, h⟩ := gd_some h
  obtain ⟨g3, h⟩ := gd_some h
  obtain ⟨g4, h⟩ := gd_some h
  obtain ⟨t5, e6, h⟩ := bd h
  have hf := fr_trans hf (fr_mono (by decide) (by decide) (by decide) (frX33_keep e6))
  obtain ⟨t7, e8, h⟩ := bd h
  have hf := fr_trans hf (fr_mono (by decide) (by decide) (by decide) (frX33_narrowFactor e8))
  obtain ⟨t9, e10, h⟩ := bd h
  have hf := fr_trans hf (fr_mono (by decide) (by decide) (by decide) (frX33_narrowFactor e10))
  cases h
  exact hf
abbrev mA_X33_narrowByRules : List Nat := [35, 36]
abbrev mF_X33_narrowByRules : List (Nat × Nat) := [(33, 5), (33, 6)]
abbrev mL_X33_narrowByRules : List (Nat × Nat) := []
set_option maxRecDepth 100000 in
set_option maxHeartbeats 1000000 in
theorem frX33_narrowByRules_L2 {N : Nat}  {t : St} : ∀ (n : Nat) (S : St) (x1 : Int32), fX33_narrowByRules_L2 N  n S x1 = some t → fr mA_X33_narrowByRules mF_X33_narrowByRules mL_X33_narrowByRules S t := by
  intro n
  induction n with
  | zero =>
    intro _ _ h
    cases h
  | succ n ih =>
    intro S x1 h
    rw [fX33_narrowByRules_L2] at h
    have hf : fr mA_X33_narrowByRules mF_X33_narrowByRules mL_X33_narrowByRules S S := fr_refl
    rcases it_or h with ⟨_, h⟩ | ⟨_, h⟩
    · cases h
      exact hf
    · rcases it_or h with ⟨_, h⟩ | ⟨_, h⟩
      · obtain ⟨t1, e2, h⟩ := bd h
        obtain ⟨t15, e16, h⟩ := bd h
        have hf : fr mA_X33_narrowByRules mF_X33_narrowByRules mL_X33_narrowByRules S t15 := by
          clear h
          have h := e16
          rcases it_or h with ⟨_, h⟩ | ⟨_, h⟩
          · obtain ⟨t9, e10, h⟩ := bd h
            obtain ⟨t11, e12, h⟩ := bd h
            obtain ⟨t13, e14, h⟩ := bd h
            have hf := fr_trans hf (fr_mono (by decide) (by decide) (by decide) (frX33_narrowByProduct e14))
            cases h
            exact hf
          · obtain ⟨t3, e4, h⟩ := bd h
            rcases it_or h with ⟨_, h⟩ | ⟨_, h⟩
            · obtain ⟨t5, e6, h⟩ := bd h
              obtain ⟨t7, e8, h⟩ := bd h
              have hf := fr_trans hf (fr_mono (by decide) (by decide) (by decide) (frX33_narrowByOrder e8))
              cases h
              exact hf
            · cases h
              exact hf
        exact fr_trans hf (ih _ _ h)
      · cases h
        exact hf
set_option maxRecDepth 100000 in
set_option maxHeartbeats 1000000 in
theorem frX33_narrowByRules {N : Nat} {S : St}  {S' : St} (h : fX33_narrowByRules N S = some (S')) : fr mA_X33_narrowByRules mF_X33_narrowByRules mL_X33_narrowByRules S S' := by
  unfold fX33_narrowByRules at h
  have hf : fr mA_X33_narrowByRules mF_X33_narrowByRules mL_X33_narrowByRules S S := fr_refl
  obtain ⟨t17, e18, h⟩ := bd h
  have hf := fr_trans hf (frX33_narrowByRules_L2 _ _ _ e18)
  cases h
  exact hf
abbrev mA_X33_leaveNothing : List Nat := [35, 36]
abbrev mF_X33_leaveNothing : List (Nat × Nat) := []
abbrev mL_X33_leaveNothing : List (Nat × Nat) := []
set_option maxRecDepth 100000 in
set_option maxHeartbeats 1000000 in
theorem frX33_leaveNothing_L2 {N : Nat}  {t : St} : ∀ (n : Nat) (S : St) (x1 : Int32), fX33_leaveNothing_L2 N  n S x1 = some t → fr mA_X33_leaveNothing mF_X33_leaveNothing mL_X33_leaveNothing S t := by
  intro n
  induction n with
  | zero =>
    intro _ _ h
    cases h
  | succ n ih =>
    intro S x1 h
    rw [fX33_leaveNothing_L2] at h
    have hf : fr mA_X33_leaveNothing mF_X33_leaveNothing mL_X33_leaveNothing S S := fr_refl
    rcases it_or h with ⟨_, h⟩ | ⟨_, h⟩
    · cases h
      exact hf
    · obtain ⟨g1, h⟩ := gd_some h
      obtain ⟨s2, e3, h⟩ := nx_some h
      have hf := fr_trans hf (fr_eq e3 (fr_pa (by decide)))
      obtain ⟨g4, h⟩ := gd_some h
      obtain ⟨s5, e6, h⟩ := nx_some h
      have hf := fr_trans hf (fr_eq e6 (fr_pa (by decide)))
      exact fr_trans hf (ih _ _ h)
set_option maxRecDepth 100000 in
set_option maxHeartbeats 1000000 in
theorem frX33_leaveNothing {N : Nat} {S : St}  {S' : St} (h : fX33_leaveNothing N S = some (S')) : fr mA_X33_leaveNothing mF_X33_leaveNothing mL_X33_leaveNothing S S' := by
  unfold fX33_leaveNothing at h
  have hf : fr mA_X33_leaveNothing mF_X33_leaveNothing mL_X33_leaveNothing S S := fr_refl
  obtain ⟨t7, e8, h⟩ := bd h
  have hf := fr_trans hf (frX33_leaveNothing_L2 _ _ _ e8)
  cases h
  exact hf
abbrev mA_X33_narrow : List Nat := [35, 36]
abbrev mF_X33_narrow : List (Nat × Nat) := [(33, 5), (33, 6)]
abbrev mL_X33_narrow : List (Nat × Nat) := []
set_option maxRecDepth 100000 in
set_option maxHeartbeats 1000000 in
theorem frX33_narrow_L39 {N : Nat} {x1 : Int32} {x2 : Int32} {t : St} : ∀ (n : Nat) (S : St) (x3 : Int32), fX33_narrow_L39 N x1 x2 n S x3 = some t → fr mA_X33_narrow mF_X33_narrow mL_X33_narrow S t := by
  intro n
  induction n with
  | zero =>
    intro _ _ h
    cases h
  | succ n ih =>
    intro S x3 h
    rw [fX33_narrow_L39] at h
    have hf : fr mA_X33_narrow mF_X33_narrow mL_X33_narrow S S := fr_refl
    obtain ⟨t7, e8, h⟩ := bd h
    rcases it_or h with ⟨_, h⟩ | ⟨_, h⟩
    · cases h
      exact hf
    · obtain ⟨t11, e12, h⟩ := bd h
      have hf : fr mA_X33_narrow mF_X33_narrow mL_X33_narrow S t11 := by
        clear h
        have h := e12
        rcases it_or h with ⟨_, h⟩ | ⟨_, h⟩
        · obtain ⟨t9, e10, h⟩ := bd h
          have hf := fr_trans hf (fr_mono (by decide) (by decide) (by decide) (frX33_narrowBySum e10))
          cases h
          exact hf
        · cases h
          exact hf
      exact fr_trans hf (ih _ _ h)
set_option maxRecDepth 100000 in
set_option maxHeartbeats 1000000 in
theorem frX33_narrow_L11 {N : Nat} {x1 : Int32} {t : St} : ∀ (n : Nat) (S : St) (x2 : Int32), fX33_narrow_L11 N x1 n S x2 = some t → fr mA_X33_narrow mF_X33_narrow mL_X33_narrow S t := by
  intro n
  induction n with
  | zero =>
    intro _ _ h
    cases h
  | succ n ih =>
    intro S x2 h
    rw [fX33_narrow_L11] at h
    have hf : fr mA_X33_narrow mF_X33_narrow mL_X33_narrow S S := fr_refl
    rcases it_or h with ⟨_, h⟩ | ⟨_, h⟩
    · cases h
      exact hf
    · rcases it_or h with ⟨_, h⟩ | ⟨_, h⟩
      · cases h
        exact hf
      · rcases it_or h with ⟨_, h⟩ | ⟨_, h⟩
        · obtain ⟨s5, e6, h⟩ := nx_some h
          have hf := fr_trans hf (fr_eq e6 (fr_pf (by decide)))
          obtain ⟨t13, e14, h⟩ := bd h
          have hf := fr_trans hf (frX33_narrow_L39 _ _ _ e14)
          obtain ⟨t15, e16, h⟩ := bd h
          have hf := fr_trans hf (fr_mono (by decide) (by decide) (by decide) (frX33_narrowByRules e16))
          exact fr_trans hf (ih _ _ h)
        · cases h
          exact hf
set_option maxRecDepth 100000 in
set_option maxHeartbeats 1000000 in
theorem frX33_narrow {N : Nat} {S : St} {x1 : Int32} {S' : St} (h : fX33_narrow N S x1 = some (S')) : fr mA_X33_narrow mF_X33_narrow mL_X33_narrow S S' := by
  unfold fX33_narrow at h
  have hf : fr mA_X33_narrow mF_X33_narrow mL_X33_narrow S S := fr_refl
  obtain ⟨t1, e2, h⟩ := bd h
  have hf := fr_trans hf (fr_mono (by decide) (by decide) (by decide) (frX33_widen e2))
  obtain ⟨s3, e4, h⟩ := nx_some h
  have hf := fr_trans hf (fr_eq e4 (fr_pf (by decide)))
  obtain ⟨t17, e18, h⟩ := bd h
  have hf := fr_trans hf (frX33_narrow_L11 _ _ _ e18)
  obtain ⟨t21, e22, h⟩ := bd h
  have hf : fr mA_X33_narrow mF_X33_narrow mL_X33_narrow S t21 := by
    clear h
    have h := e22
    rcases it_or h with ⟨_, h⟩ | ⟨_, h⟩
    · cases h
      exact hf
    · obtain ⟨t19, e20, h⟩ := bd h
      have hf := fr_trans hf (fr_mono (by decide) (by decide) (by decide) (frX33_leaveNothing e20))
      cases h
      exact hf
  cases h
  exact hf
abbrev mA_X0_narrowAll : List Nat := [34, 35, 36]
abbrev mF_X0_narrowAll : List (Nat × Nat) := [(33, 5), (33, 6)]
abbrev mL_X0_narrowAll : List (Nat × Nat) := []
set_option maxRecDepth 100000 in
set_option maxHeartbeats 1000000 in
theorem frX0_narrowAll {N : Nat} {S : St}  {S' : St} (h : fX0_narrowAll N S = some (S')) : fr mA_X0_narrowAll mF_X0_narrowAll mL_X0_narrowAll S S' := by
  unfold fX0_narrowAll at h
  have hf : fr mA_X0_narrowAll mF_X0_narrowAll mL_X0_narrowAll S S := fr_refl
  obtain ⟨t1, e2, h⟩ := bd h
  have hf := fr_trans hf (fr_mono (by decide) (by decide) (by decide) (frX33_lookAtFirst e2))
  obtain ⟨t3, e4, h⟩ := bd h
  have hf := fr_trans hf (fr_mono (by decide) (by decide) (by decide) (frX33_narrow e4))
  cases h
  exact hf
abbrev mA_X0_left : List Nat := [34, 35, 36, 53]
abbrev mF_X0_left : List (Nat × Nat) := [(0, 11), (33, 5), (33, 6)]
abbrev mL_X0_left : List (Nat × Nat) := []
set_option maxRecDepth 100000 in
set_option maxHeartbeats 1000000 in
theorem frX0_left {N : Nat} {S : St} {x1 : Int32} {x2 : Int32} {v : Int32} {S' : St} (h : fX0_left N S x1 x2 = some (v, S')) : fr mA_X0_left mF_X0_left mL_X0_left S S' := by
  unfold fX0_left at h
  have hf : fr mA_X0_left mF_X0_left mL_X0_left S S := fr_refl
  rcases it_or h with ⟨_, h⟩ | ⟨_, h⟩
  · obtain ⟨t1, e2, h⟩ := bd h
    have hf := fr_trans hf (fr_mono (by decide) (by decide) (by decide) (frX0_refuseCell e2))
    rcases it_or h with ⟨_, h⟩ | ⟨_, h⟩
    · obtain ⟨t7, e8, h⟩ := bd h
      have hf : fr mA_X0_left mF_X0_left mL_X0_left S t7 := by
        clear h
        have h := e8
        rcases it_or h with ⟨_, h⟩ | ⟨_, h⟩
        · obtain ⟨t5, e6, h⟩ := bd h
          have hf := fr_trans hf (fr_mono (by decide) (by decide) (by decide) (frX33_lookAtFirst e6))
          cases h
          exact hf
        · obtain ⟨t3, e4, h⟩ := bd h
          have hf := fr_trans hf (fr_mono (by decide) (by decide) (by decide) (frX0_narrowAll e4))
          cases h
          exact hf
      obtain ⟨t9, e10, h⟩ := bd h
      cases h
      exact hf
    · cases h
      exact hf
  · rcases it_or h with ⟨_, h⟩ | ⟨_, h⟩
    · obtain ⟨t11, e12, h⟩ := bd h
      have hf := fr_trans hf (fr_mono (by decide) (by decide) (by decide) (frX0_refuseCell e12))
      rcases it_or h with ⟨_, h⟩ | ⟨_, h⟩
      · obtain ⟨t17, e18, h⟩ := bd h
        have hf : fr mA_X0_left mF_X0_left mL_X0_left S t17 := by
          clear h
          have h := e18
          rcases it_or h with ⟨_, h⟩ | ⟨_, h⟩
          · obtain ⟨t15, e16, h⟩ := bd h
            have hf := fr_trans hf (fr_mono (by decide) (by decide) (by decide) (frX33_lookAtFirst e16))
            cases h
            exact hf
          · obtain ⟨t13, e14, h⟩ := bd h
            have hf := fr_trans hf (fr_mono (by decide) (by decide) (by decide) (frX0_narrowAll e14))
            cases h
            exact hf
        obtain ⟨t19, e20, h⟩ := bd h
        cases h
        exact hf
      · cases h
        exact hf
    · cases h
      exact hf
abbrev mA_X0_ends : List Nat := [34, 35, 36, 53]
abbrev mF_X0_ends : List (Nat × Nat) := [(0, 11), (0, 12), (33, 5), (33, 6)]
abbrev mL_X0_ends : List (Nat × Nat) := []
set_option maxRecDepth 100000 in
set_option maxHeartbeats 1000000 in
theorem frX0_ends {N : Nat} {S : St} {x1 : Int32} {v : Int32} {S' : St} (h : fX0_ends N S x1 = some (v, S')) : fr mA_X0_ends mF_X0_ends mL_X0_ends S S' := by
  unfold fX0_ends at h
  have hf : fr mA_X0_ends mF_X0_ends mL_X0_ends S S := fr_refl
  obtain ⟨t1, e2, h⟩ := bd h
  have hf := fr_trans hf (fr_mono (by decide) (by decide) (by decide) (frX0_refuseCell e2))
  rcases it_or h with ⟨_, h⟩ | ⟨_, h⟩
  · obtain ⟨t3, e4, h⟩ := bd h
    have hf := fr_trans hf (fr_mono (by decide) (by decide) (by decide) (frX0_narrowAll e4))
    obtain ⟨t5, e6, h⟩ := bd h
    rcases it_or h with ⟨_, h⟩ | ⟨_, h⟩
    · cases h
      exact hf
    · obtain ⟨t7, e8, h⟩ := bd h
      obtain ⟨s9, e10, h⟩ := nx_some h
      have hf := fr_trans hf (fr_eq e10 (fr_pf (by decide)))
      obtain ⟨t11, e12, h⟩ := bd h
      cases h
      exact hf
  · cases h
    exact hf
abbrev mA_X0_may : List Nat := [34, 35, 36, 53]
abbrev mF_X0_may : List (Nat × Nat) := [(0, 11), (33, 5), (33, 6)]
abbrev mL_X0_may : List (Nat × Nat) := []
set_option maxRecDepth 100000 in
set_option maxHeartbeats 1000000 in
theorem frX0_may {N : Nat} {S : St} {x1 : Int32} {x2 : Int32} {v : Int32} {S' : St} (h : fX0_may N S x1 x2 = some (v, S')) : fr mA_X0_may mF_X0_may mL_X0_may S S' := by
  unfold fX0_may at h
  have hf : fr mA_X0_may mF_X0_may mL_X0_may S S := fr_refl
  obtain ⟨t1, e2, h⟩ := bd h
  rcases it_or h with ⟨_, h⟩ | ⟨_, h⟩
  · cases h
    exact hf
  · obtain ⟨t3, e4, h⟩ := bd h
    have hf := fr_trans hf (fr_mono (by decide) (by decide) (by decide) (frX0_refuseCell e4))
    rcases it_or h with ⟨_, h⟩ | ⟨_, h⟩
    · obtain ⟨t5, e6, h⟩ := bd h
      have hf := fr_trans hf (fr_mono (by decide) (by decide) (by decide) (frX0_narrowAll e6))
      obtain ⟨t7, e8, h⟩ := bd h
      obtain ⟨t9, e10, h⟩ := bd h
      cases h
      exact hf
    · cases h
      exact hf
abbrev mA_X0_burnt : List Nat := [34, 35, 36]
abbrev mF_X0_burnt : List (Nat × Nat) := [(33, 5), (33, 6)]
abbrev mL_X0_burnt : List (Nat × Nat) := []
set_option maxRecDepth 100000 in
set_option maxHeartbeats 1000000 in
theorem frX0_burnt_L9 {N : Nat} {S : St}  {t : (Int32 × St) ⊕ (Unit)} : ∀ (n : Nat) (x1 : Int32), fX0_burnt_L9 N S  n x1 = some t → (∀ r, t = .inl r → fr mA_X0_burnt mF_X0_burnt mL_X0_burnt S r.2) ∧ (∀ u, t = .inr u → fr mA_X0_burnt mF_X0_burnt mL_X0_burnt S S) := by
  intro n
  induction n with
  | zero =>
    intro _ h
    cases h
  | succ n ih =>
    intro x1 h
    rw [fX0_burnt_L9] at h
    have hf : fr mA_X0_burnt mF_X0_burnt mL_X0_burnt S S := fr_refl
    obtain ⟨t3, e4, h⟩ := bd h
    rcases it_or h with ⟨_, h⟩ | ⟨_, h⟩
    · cases h
      exact ⟨fun r e => (by cases e), fun u e => (by cases e; exact hf)⟩
    · obtain ⟨t5, e6, h⟩ := bd h
      rcases it_or h with ⟨_, h⟩ | ⟨_, h⟩
      · cases h
        exact ⟨fun r e => (by cases e; exact hf), fun u e => (by cases e)⟩
      · exact ih _ h
set_option maxRecDepth 100000 in
set_option maxHeartbeats 1000000 in
theorem frX0_burnt {N : Nat} {S : St}  {v : Int32} {S' : St} (h : fX0_burnt N S = some (v, S')) : fr mA_X0_burnt mF_X0_burnt mL_X0_burnt S S' := by
  unfold fX0_burnt at h
  have hf : fr mA_X0_burnt mF_X0_burnt mL_X0_burnt S S := fr_refl
  obtain ⟨t1, e2, h⟩ := bd h
  have hf := fr_trans hf (fr_mono (by decide) (by decide) (by decide) (frX33_lookAtFirst e2))
  obtain ⟨t7, e8, h⟩ := bd h
  have hi := frX0_burnt_L9 _ _ e8
  cases t7 with
  | inl r =>
    have h := sm_l h
    cases h
    exact fr_trans hf (hi.1 _ rfl)
  | inr u9 =>
    have h := sm_r h
    have hf := fr_trans hf (hi.2 _ rfl)
    cases h
    exact hf
abbrev mA_X37_forgetTally : List Nat := [41]
abbrev mF_X37_forgetTally : List (Nat × Nat) := []
abbrev mL_X37_forgetTally : List (Nat × Nat) := []
set_option maxRecDepth 100000 in
set_option maxHeartbeats 1000000 in
theorem frX37_forgetTally_L2 {N : Nat}  {t : St} : ∀ (n : Nat) (S : St) (x1 : Int32), fX37_forgetTally_L2 N  n S x1 = some t → fr mA_X37_forgetTally mF_X37_forgetTally mL_X37_forgetTally S t := by
  intro n
  induction n with
  | zero =>
    intro _ _ h
    cases h
  | succ n ih =>
    intro S x1 h
    rw [fX37_forgetTally_L2] at h
    have hf : fr mA_X37_forgetTally mF_X37_forgetTally mL_X37_forgetTally S S := fr_refl
    rcases it_or h with ⟨_, h⟩ | ⟨_, h⟩
    · cases h
      exact hf
    · obtain ⟨g1, h⟩ := gd_some h
      obtain ⟨s2, e3, h⟩ := nx_some h
      have hf := fr_trans hf (fr_eq e3 (fr_pa (by decide)))
      exact fr_trans hf (ih _ _ h)
set_option maxRecDepth 100000 in
set_option maxHeartbeats 1000000 in
theorem frX37_forgetTally {N : Nat} {S : St}  {S' : St} (h : fX37_forgetTally N S = some (S')) : fr mA_X37_forgetTally mF_X37_forgetTally mL_X37_forgetTally S S' := by
  unfold fX37_forgetTally at h
  have hf : fr mA_X37_forgetTally mF_X37_forgetTally mL_X37_forgetTally S S := fr_refl
  obtain ⟨t4, e5, h⟩ := bd h
  have hf := fr_trans hf (frX37_forgetTally_L2 _ _ _ e5)
  cases h
  exact hf
abbrev mA_X37_setChecks : List Nat := [42, 43]
abbrev mF_X37_setChecks : List (Nat × Nat) := []
abbrev mL_X37_setChecks : List (Nat × Nat) := []
set_option maxRecDepth 100000 in
set_option maxHeartbeats 1000000 in
theorem frX37_setChecks_L2 {N : Nat} {x1 : Int32} {t : St} : ∀ (n : Nat) (S : St) (x2 : Int32), fX37_setChecks_L2 N x1 n S x2 = some t → fr mA_X37_setChecks mF_X37_setChecks mL_X37_setChecks S t := by
  intro n
  induction n with
  | zero =>
    intro _ _ h
    cases h
  | succ n ih =>
    intro S x2 h
    rw [fX37_setChecks_L2] at h
    have hf : fr mA_X37_setChecks mF_X37_setChecks mL_X37_setChecks S S := fr_refl
    rcases it_or h with ⟨_, h⟩ | ⟨_, h⟩
    · cases h
      exact hf
    · obtain ⟨g1, h⟩ := gd_some h
      obtain ⟨s2, e3, h⟩ := nx_some h
      have hf := fr_trans hf (fr_eq e3 (fr_pa (by decide)))
      obtain ⟨g4, h⟩ := gd_some h
      obtain ⟨s5, e6, h⟩ := nx_some h
      have hf := fr_trans hf (fr_eq e6 (fr_pa (by decide)))
      exact fr_trans hf (ih _ _ h)
set_option maxRecDepth 100000 in
set_option maxHeartbeats 1000000 in
theorem frX37_setChecks_L30 {N : Nat} {x1 : Int32} {t : St} : ∀ (n : Nat) (S : St) (x2 : Int32), fX37_setChecks_L30 N x1 n S x2 = some t → fr mA_X37_setChecks mF_X37_setChecks mL_X37_setChecks S t := by
  intro n
  induction n with
  | zero =>
    intro _ _ h
    cases h
  | succ n ih =>
    intro S x2 h
    rw [fX37_setChecks_L30] at h
    have hf : fr mA_X37_setChecks mF_X37_setChecks mL_X37_setChecks S S := fr_refl
    rcases it_or h with ⟨_, h⟩ | ⟨_, h⟩
    · cases h
      exact hf
    · obtain ⟨t9, e10, h⟩ := bd h
      obtain ⟨t17, e18, h⟩ := bd h
      have hf : fr mA_X37_setChecks mF_X37_setChecks mL_X37_setChecks S t17 := by
        clear h
        have h := e18
        rcases it_or h with ⟨_, h⟩ | ⟨_, h⟩
        · cases h
          exact hf
        · obtain ⟨t11, e12, h⟩ := bd h
          obtain ⟨g13, h⟩ := gd_some h
          obtain ⟨g14, h⟩ := gd_some h
          obtain ⟨s15, e16, h⟩ := nx_some h
          have hf := fr_trans hf (fr_eq e16 (fr_pa (by decide)))
          cases h
          exact hf
      exact fr_trans hf (ih _ _ h)
set_option maxRecDepth 100000 in
set_option maxHeartbeats 1000000 in
theorem frX37_setChecks_L74 {N : Nat} {x1 : Int32} {t : (Int32 × St) ⊕ (St)} : ∀ (n : Nat) (S : St) (x2 : Int32), fX37_setChecks_L74 N x1 n S x2 = some t → (∀ r, t = .inl r → fr mA_X37_setChecks mF_X37_setChecks mL_X37_setChecks S r.2) ∧ (∀ u, t = .inr u → fr mA_X37_setChecks mF_X37_setChecks mL_X37_setChecks S u) := by
  intro n
  induction n with
  | zero =>
    intro _ _ h
    cases h
  | succ n ih =>
    intro S x2 h
    rw [fX37_setChecks_L74] at h
    have hf : fr mA_X37_setChecks mF_X37_setChecks mL_X37_setChecks S S := fr_refl
    obtain ⟨t21, e22, h⟩ := bd h
    rcases it_or h with ⟨_, h⟩ | ⟨_, h⟩
    · cases h
      exact ⟨fun r e => (by cases e), fun u e => (by cases e; exact hf)⟩
    · obtain ⟨t23, e24, h⟩ := bd h
      rcases it_or h with ⟨_, h⟩ | ⟨_, h⟩
      · rcases it_or h with ⟨_, h⟩ | ⟨_, h⟩
        · obtain ⟨t25, e26, h⟩ := bd h
          rcases it_or h with ⟨_, h⟩ | ⟨_, h⟩
          · have hi := ih _ _ h
            exact ⟨fun r e => fr_trans hf (hi.1 r e), fun u e => fr_trans hf (hi.2 u e)⟩
          · cases h
            exact ⟨fun r e => (by cases e; exact hf), fun u e => (by cases e)⟩
        · obtain ⟨g27, h⟩ := gd_some h
          obtain ⟨g28, h⟩ := gd_some h
          obtain ⟨s29, e30, h⟩ := nx_some h
          have hf := fr_trans hf (fr_eq e30 (fr_pa (by decide)))
          have hi := ih _ _ h
          exact ⟨fun r e => fr_trans hf (hi.1 r e), fun u e => fr_trans hf (hi.2 u e)⟩
      · have hi := ih _ _ h
        exact ⟨fun r e => fr_trans hf (hi.1 r e), fun u e => fr_trans hf (hi.2 u e)⟩
set_option maxRecDepth 100000 in
set_option maxHeartbeats 1000000 in
theorem frX37_setChecks {N : Nat} {S : St} {x1 : Int32} {v : Int32} {S' : St} (h : fX37_setChecks N S x1 = some (v, S')) : fr mA_X37_setChecks mF_X37_setChecks mL_X37_setChecks S S' := by
  unfold fX37_setChecks at h
  have hf : fr mA_X37_setChecks mF_X37_setChecks mL_X37_setChecks S S := fr_refl
  obtain ⟨t7, e8, h⟩ := bd h
  have hf := fr_trans hf (frX37_setChecks_L2 _ _ _ e8)
  obtain ⟨t19, e20, h⟩ := bd h
  have hf := fr_trans hf (frX37_setChecks_L30 _ _ _ e20)
  obtain ⟨t31, e32, h⟩ := bd h
  have hi := frX37_setChecks_L74 _ _ _ e32
  cases t31 with
  | inl r =>
    have h := sm_l h
    cases h
    exact fr_trans hf (hi.1 _ rfl)
  | inr u33 =>
    have h := sm_r h
    have hf := fr_trans hf (hi.2 _ rfl)
    cases h
    exact hf
abbrev mA_X37_tryNumber : List Nat := [38]
abbrev mF_X37_tryNumber : List (Nat × Nat) := [(37, 11), (37, 14)]
abbrev mL_X37_tryNumber : List (Nat × Nat) := []
set_option maxRecDepth 100000 in
set_option maxHeartbeats 1000000 in
theorem frX37_tryNumber {N : Nat} {S : St} {x1 : Int32} {x2 : Int32} {v : Int32} {S' : St} (h : fX37_tryNumber N S x1 x2 = some (v, S')) : fr mA_X37_tryNumber mF_X37_tryNumber mL_X37_tryNumber S S' := by
  unfold fX37_tryNumber at h
  have hf : fr mA_X37_tryNumber mF_X37_tryNumber mL_X37_tryNumber S S := fr_refl
  rcases it_or h with ⟨_, h⟩ | ⟨_, h⟩
  · obtain ⟨s1, e2, h⟩ := nx_some h
    have hf := fr_trans hf (fr_eq e2 (fr_pf (by decide)))
    obtain ⟨g3, h⟩ := gd_some h
    obtain ⟨s4, e5, h⟩ := nx_some h
    have hf := fr_trans hf (fr_eq e5 (fr_pa (by decide)))
    obtain ⟨g6, h⟩ := gd_some h
    obtain ⟨t7, e8, h⟩ := bd h
    obtain ⟨t12, e13, h⟩ := bd h
    obtain ⟨_, h⟩ := gd_some h
    cases h
    exact hf
  · obtain ⟨s14, e15, h⟩ := nx_some h
    have hf := fr_trans hf (fr_eq e15 (fr_pf (by decide)))
    cases h
    exact hf
abbrev mA_X37_tallyFilling : List Nat := [41]
abbrev mF_X37_tallyFilling : List (Nat × Nat) := []
abbrev mL_X37_tallyFilling : List (Nat × Nat) := []
set_option maxRecDepth 100000 in
set_option maxHeartbeats 1000000 in
theorem frX37_tallyFilling_L2 {N : Nat}  {t : St} : ∀ (n : Nat) (S : St) (x1 : Int32), fX37_tallyFilling_L2 N  n S x1 = some t → fr mA_X37_tallyFilling mF_X37_tallyFilling mL_X37_tallyFilling S t := by
  intro n
  induction n with
  | zero =>
    intro _ _ h
    cases h
  | succ n ih =>
    intro S x1 h
    rw [fX37_tallyFilling_L2] at h
    have hf : fr mA_X37_tallyFilling mF_X37_tallyFilling mL_X37_tallyFilling S S := fr_refl
    rcases it_or h with ⟨_, h⟩ | ⟨_, h⟩
    · cases h
      exact hf
    · obtain ⟨t1, e2, h⟩ := bd h
      obtain ⟨t8, e9, h⟩ := bd h
      have hf : fr mA_X37_tallyFilling mF_X37_tallyFilling mL_X37_tallyFilling S t8 := by
        clear h
        have h := e9
        rcases it_or h with ⟨_, h⟩ | ⟨_, h⟩
        · cases h
          exact hf
        · obtain ⟨g3, h⟩ := gd_some h
          obtain ⟨g4, h⟩ := gd_some h
          obtain ⟨g5, h⟩ := gd_some h
          obtain ⟨s6, e7, h⟩ := nx_some h
          have hf := fr_trans hf (fr_eq e7 (fr_pa (by decide)))
          cases h
          exact hf
      exact fr_trans hf (ih _ _ h)
set_option maxRecDepth 100000 in
set_option maxHeartbeats 1000000 in
theorem frX37_tallyFilling {N : Nat} {S : St}  {S' : St} (h : fX37_tallyFilling N S = some (S')) : fr mA_X37_tallyFilling mF_X37_tallyFilling mL_X37_tallyFilling S S' := by
  unfold fX37_tallyFilling at h
  have hf : fr mA_X37_tallyFilling mF_X37_tallyFilling mL_X37_tallyFilling S S := fr_refl
  obtain ⟨t10, e11, h⟩ := bd h
  have hf := fr_trans hf (frX37_tallyFilling_L2 _ _ _ e11)
  cases h
  exact hf
abbrev mA_X37_weighFilling : List Nat := [39]
abbrev mF_X37_weighFilling : List (Nat × Nat) := [(37, 13)]
abbrev mL_X37_weighFilling : List (Nat × Nat) := []
set_option maxRecDepth 100000 in
set_option maxHeartbeats 1000000 in
theorem frX37_weighFilling {N : Nat} {S : St}  {S' : St} (h : fX37_weighFilling N S = some (S')) : fr mA_X37_weighFilling mF_X37_weighFilling mL_X37_weighFilling S S' := by
  unfold fX37_weighFilling at h
  have hf : fr mA_X37_weighFilling mF_X37_weighFilling mL_X37_weighFilling S S := fr_refl
  obtain ⟨t1, e2, h⟩ := bd h
  obtain ⟨t7, e8, h⟩ := bd h
  have hf : fr mA_X37_weighFilling mF_X37_weighFilling mL_X37_weighFilling S t7 := by
    clear h
    have h := e8
    rcases it_or h with ⟨_, h⟩ | ⟨_, h⟩
    · cases h
      exact hf
    · obtain ⟨s3, e4, h⟩ := nx_some h
      have hf := fr_trans hf (fr_eq e4 (fr_pf (by decide)))
      obtain ⟨_, h⟩ := gd_some h
      obtain ⟨s5, e6, h⟩ := nx_some h
      have hf := fr_trans hf (fr_eq e6 (fr_pc (by decide)))
      cases h
      exact hf
  cases h
  exact hf
abbrev mA_X37_takeFilling : List Nat := [39, 41]
abbrev mF_X37_takeFilling : List (Nat × Nat) := [(37, 12), (37, 13), (37, 15)]
abbrev mL_X37_takeFilling : List (Nat × Nat) := []
set_option maxRecDepth 100000 in
set_option maxHeartbeats 1000000 in
theorem frX37_takeFilling {N : Nat} {S : St}  {S' : St} (h : fX37_takeFilling N S = some (S')) : fr mA_X37_takeFilling mF_X37_takeFilling mL_X37_takeFilling S S' := by
  unfold fX37_takeFilling at h
  have hf : fr mA_X37_takeFilling mF_X37_takeFilling mL_X37_takeFilling S S := fr_refl
  obtain ⟨t5, e6, h⟩ := bd h
  have hf : fr mA_X37_takeFilling mF_X37_takeFilling mL_X37_takeFilling S t5 := by
    clear h
    have h := e6
    rcases it_or h with ⟨_, h⟩ | ⟨_, h⟩
    · obtain ⟨t1, e2, h⟩ := bd h
      have hf := fr_trans hf (fr_mono (by decide) (by decide) (by decide) (frX37_tallyFilling e2))
      obtain ⟨t3, e4, h⟩ := bd h
      have hf := fr_trans hf (fr_mono (by decide) (by decide) (by decide) (frX37_weighFilling e4))
      cases h
      exact hf
    · cases h
      exact hf
  obtain ⟨t7, e8, h⟩ := bd h
  obtain ⟨_, h⟩ := gd_some h
  obtain ⟨s9, e10, h⟩ := nx_some h
  have hf := fr_trans hf (fr_eq e10 (fr_pf (by decide)))
  obtain ⟨s11, e12, h⟩ := nx_some h
  have hf := fr_trans hf (fr_eq e12 (fr_pf (by decide)))
  cases h
  exact hf
abbrev mA_X37_tell : List Nat := [38, 39, 41]
abbrev mF_X37_tell : List (Nat × Nat) := [(37, 11), (37, 12), (37, 13), (37, 14), (37, 15)]
abbrev mL_X37_tell : List (Nat × Nat) := []
set_option maxRecDepth 100000 in
set_option maxHeartbeats 1000000 in
theorem frX37_tell_L39 {rec : St → Int32 → Option St} {N : Nat} {x1 : Int32} (hrec : ∀ (S1 S2 : St) (y1 : Int32), rec S1 y1 = some S2 → fr mA_X37_tell mF_X37_tell mL_X37_tell S1 S2) {t : St} : ∀ (n : Nat) (S : St) (x2 : Int32), fX37_tell_L39 rec N x1 n S x2 = some t → fr mA_X37_tell mF_X37_tell mL_X37_tell S t := by
  intro n
  induction n with
  | zero =>
    intro _ _ h
    cases h
  | succ n ih =>
    intro S x2 h
    rw [fX37_tell_L39] at h
    have hf : fr mA_X37_tell mF_X37_tell mL_X37_tell S S := fr_refl
    obtain ⟨t5, e6, h⟩ := bd h
    rcases it_or h with ⟨_, h⟩ | ⟨_, h⟩
    · cases h
      exact hf
    · obtain ⟨t7, e8, h⟩ := bd h
      rcases it_or h with ⟨_, h⟩ | ⟨_, h⟩
      · obtain ⟨t9, e10, h⟩ := bd h
        obtain ⟨t15, e16, h⟩ := bd h
        have hf : fr mA_X37_tell mF_X37_tell mL_X37_tell S t15 := by
          clear h
          have h := e16
          rcases it_or h with ⟨_, h⟩ | ⟨_, h⟩
          · cases h
            exact hf
          · obtain ⟨t11, e12, h⟩ := bd h
            have hf := fr_trans hf (fr_mono (by decide) (by decide) (by decide) (frX37_tryNumber e12))
            rcases it_or h with ⟨_, h⟩ | ⟨_, h⟩
            · cases h
              exact hf
            · obtain ⟨t13, e14, h⟩ := bd h
              have hf := fr_trans hf (hrec _ _ _ e14)
              cases h
              exact hf
        exact fr_trans hf (ih _ _ h)
      · cases h
        exact hf
set_option maxRecDepth 100000 in
set_option maxHeartbeats 1000000 in
theorem frX37_tell_B {rec : St → Int32 → Option St} {N : Nat} {S : St} {x1 : Int32} (hrec : ∀ (S1 S2 : St) (y1 : Int32), rec S1 y1 = some S2 → fr mA_X37_tell mF_X37_tell mL_X37_tell S1 S2) {S' : St} (h : fX37_tell_B rec N S x1 = some (S')) : fr mA_X37_tell mF_X37_tell mL_X37_tell S S' := by
  unfold fX37_tell_B at h
  have hf : fr mA_X37_tell mF_X37_tell mL_X37_tell S S := fr_refl
  rcases it_or h with ⟨_, h⟩ | ⟨_, h⟩
  · obtain ⟨t1, e2, h⟩ := bd h
    rcases it_or h with ⟨_, h⟩ | ⟨_, h⟩
    · obtain ⟨t19, e20, h⟩ := bd h
      have hf := fr_trans hf (hrec _ _ _ e20)
      cases h
      exact hf
    · obtain ⟨t3, e4, h⟩ := bd h
      obtain ⟨t17, e18, h⟩ := bd h
      have hf := fr_trans hf (frX37_tell_L39 hrec _ _ _ e18)
      cases h
      exact hf
  · obtain ⟨t21, e22, h⟩ := bd h
    have hf := fr_trans hf (fr_mono (by decide) (by decide) (by decide) (frX37_takeFilling e22))
    cases h
    exact hf
theorem frX37_tell_d {N : Nat} : ∀ (d : Nat) (S S' : St) (x1 : Int32), fX37_tell N d S x1 = some S' → fr mA_X37_tell mF_X37_tell mL_X37_tell S S'
  | 0, _, _, _, h => by cases h
  | d + 1, S, S', x1, h => by
    rw [fX37_tell] at h
    exact frX37_tell_B (frX37_tell_d d) h
theorem frX37_tell {N : Nat} {S S' : St} {x1 : Int32} (h : fX37_tell N 13 S x1 = some S') : fr mA_X37_tell mF_X37_tell mL_X37_tell S S' := frX37_tell_d _ _ _ _  h
abbrev mA_X37_goTo : List Nat := [38, 39, 41, 42, 43]
abbrev mF_X37_goTo : List (Nat × Nat) := [(37, 9), (37, 10), (37, 11), (37, 12), (37, 13), (37, 14), (37, 15)]
abbrev mL_X37_goTo : List (Nat × Nat) := []
set_option maxRecDepth 100000 in
set_option maxHeartbeats 1000000 in
theorem frX37_goTo {N : Nat} {S : St} {x1 : Int32} {x2 : Int32} {x3 : Int32} {S' : St} (h : fX37_goTo N S x1 x2 x3 = some (S')) : fr mA_X37_goTo mF_X37_goTo mL_X37_goTo S S' := by
  unfold fX37_goTo at h
  have hf : fr mA_X37_goTo mF_X37_goTo mL_X37_goTo S S := fr_refl
  obtain ⟨s1, e2, h⟩ := nx_some h
  have hf := fr_trans hf (fr_eq e2 (fr_pf (by decide)))
  obtain ⟨s3, e4, h⟩ := nx_some h
  have hf := fr_trans hf (fr_eq e4 (fr_pf (by decide)))
  obtain ⟨s5, e6, h⟩ := nx_some h
  have hf := fr_trans hf (fr_eq e6 (fr_pf (by decide)))
  obtain ⟨s7, e8, h⟩ := nx_some h
  have hf := fr_trans hf (fr_eq e8 (fr_pf (by decide)))
  obtain ⟨s9, e10, h⟩ := nx_some h
  have hf := fr_trans hf (fr_eq e10 (fr_pf (by decide)))
  obtain ⟨s11, e12, h⟩ := nx_some h
  have hf := fr_trans hf (fr_eq e12 (fr_pf (by decide)))
  obtain ⟨s13, e14, h⟩ := nx_some h
  have hf := fr_trans hf (fr_eq e14 (fr_pf (by decide)))
  obtain ⟨t15, e16, h⟩ := bd h
  have hf := fr_trans hf (fr_mono (by decide) (by decide) (by decide) (frX37_setChecks e16))
  obtain ⟨t19, e20, h⟩ := bd h
  have hf : fr mA_X37_goTo mF_X37_goTo mL_X37_goTo S t19 := by
    clear h
    have h := e20
    rcases it_or h with ⟨_, h⟩ | ⟨_, h⟩
    · cases h
      exact hf
    · obtain ⟨t17, e18, h⟩ := bd h
      have hf := fr_trans hf (fr_mono (by decide) (by decide) (by decide) (frX37_tell e18))
      cases h
      exact hf
  cases h
  exact hf
abbrev mA_X0_goThroughAll : List Nat := [34, 35, 36, 38, 39, 41, 42, 43]
abbrev mF_X0_goThroughAll : List (Nat × Nat) := [(33, 5), (33, 6), (37, 9), (37, 10), (37, 11), (37, 12), (37, 13), (37, 14), (37, 15)]
abbrev mL_X0_goThroughAll : List (Nat × Nat) := []
set_option maxRecDepth 100000 in
set_option maxHeartbeats 1000000 in
theorem frX0_goThroughAll {N : Nat} {S : St} {x1 : Int32} {v : Int32} {S' : St} (h : fX0_goThroughAll N S x1 = some (v, S')) : fr mA_X0_goThroughAll mF_X0_goThroughAll mL_X0_goThroughAll S S' := by
  unfold fX0_goThroughAll at h
  have hf : fr mA_X0_goThroughAll mF_X0_goThroughAll mL_X0_goThroughAll S S := fr_refl
  obtain ⟨t1, e2, h⟩ := bd h
  rcases it_or h with ⟨_, h⟩ | ⟨_, h⟩
  · cases h
    exact hf
  · obtain ⟨t3, e4, h⟩ := bd h
    have hf := fr_trans hf (fr_mono (by decide) (by decide) (by decide) (frX0_narrowAll e4))
    obtain ⟨t5, e6, h⟩ := bd h
    have hf := fr_trans hf (fr_mono (by decide) (by decide) (by decide) (frX37_forgetTally e6))
    obtain ⟨t7, e8, h⟩ := bd h
    have hf := fr_trans hf (fr_mono (by decide) (by decide) (by decide) (frX37_goTo e8))
    obtain ⟨t9, e10, h⟩ := bd h
    obtain ⟨t11, e12, h⟩ := bd h
    cases h
    exact hf
