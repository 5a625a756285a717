abbrev mA_Y0_narrow : List Nat := [17, 18, 19]
abbrev mF_Y0_narrow : List (Nat × Nat) := []
abbrev mL_Y0_narrow : List (Nat × Nat) := []
set_option maxRecDepth 100000 in
set_option maxHeartbeats 1000000 in
theorem frY0_narrow_L8 {N : Nat} {x1 : Int32} {t : St × Int32} : ∀ (n : Nat) (S : St) (x2 : Int32) (x3 : Int32), fY0_narrow_L8 N x1 n S x2 x3 = some t → fr mA_Y0_narrow mF_Y0_narrow mL_Y0_narrow S t.1 := by
  intro n
  induction n with
  | zero =>
    intro _ _ _ h
    cases h
  | succ n ih =>
    intro S x2 x3 h
    rw [fY0_narrow_L8] at h
    have hf : fr mA_Y0_narrow mF_Y0_narrow mL_Y0_narrow S S := fr_refl
    rcases it_or h with ⟨_, h⟩ | ⟨_, h⟩
    · cases h
      exact hf
    · obtain ⟨t5, e6, h⟩ := bd h
      have hf : fr mA_Y0_narrow mF_Y0_narrow mL_Y0_narrow S t5.1 := by
        clear h
        have h := e6
        rcases it_or h with ⟨_, h⟩ | ⟨_, h⟩
        · cases h
          exact hf
        · obtain ⟨t3, e4, h⟩ := bd h
          have hf := fr_trans hf (fr_mono (by decide) (by decide) (by decide) (frY0_setEnds e4))
          rcases it_or h with ⟨_, h⟩ | ⟨_, h⟩
          · cases h
            exact hf
          · cases h
            exact hf
      exact fr_trans hf (ih _ _ _ h)
set_option maxRecDepth 100000 in
set_option maxHeartbeats 1000000 in
theorem frY0_narrow_L63 {N : Nat} {x1 : Int32} {x4 : Int32} {t : St × Int32 × Int32} : ∀ (n : Nat) (S : St) (x2 : Int32) (x3 : Int32) (x5 : Int32), fY0_narrow_L63 N x1 x4 n S x2 x3 x5 = some t → fr mA_Y0_narrow mF_Y0_narrow mL_Y0_narrow S t.1 := by
  intro n
  induction n with
  | zero =>
    intro _ _ _ _ h
    cases h
  | succ n ih =>
    intro S x2 x3 x5 h
    rw [fY0_narrow_L63] at h
    have hf : fr mA_Y0_narrow mF_Y0_narrow mL_Y0_narrow S S := fr_refl
    rcases it_or h with ⟨_, h⟩ | ⟨_, h⟩
    · cases h
      exact hf
    · obtain ⟨t9, e10, h⟩ := bd h
      rcases it_or h with ⟨_, h⟩ | ⟨_, h⟩
      · cases h
        exact hf
      · rcases it_or h with ⟨_, h⟩ | ⟨_, h⟩
        · cases h
          exact hf
        · obtain ⟨g11, h⟩ := gd_some h
          obtain ⟨t19, e20, h⟩ := bd h
          have hf : fr mA_Y0_narrow mF_Y0_narrow mL_Y0_narrow S t19.1 := by
            clear h
            have h := e20
            rcases it_or h with ⟨_, h⟩ | ⟨_, h⟩
            · cases h
              exact hf
            · obtain ⟨t12, e13, h⟩ := bd h
              rcases it_or h with ⟨_, h⟩ | ⟨_, h⟩
              · obtain ⟨g14, h⟩ := gd_some h
                obtain ⟨s15, e16, h⟩ := nx_some h
                have hf := fr_trans hf (fr_eq e16 (fr_pa (by decide)))
                obtain ⟨t17, e18, h⟩ := bd h
                have hf := fr_trans hf (fr_mono (by decide) (by decide) (by decide) (frY0_setEnds e18))
                cases h
                exact hf
              · cases h
                exact hf
          exact fr_trans hf (ih _ _ _ _ h)
set_option maxRecDepth 100000 in
set_option maxHeartbeats 1000000 in
theorem frY0_narrow_L49 {N : Nat} {x1 : Int32} {t : St × Int32 × Int32} : ∀ (n : Nat) (S : St) (x2 : Int32) (x3 : Int32) (x4 : Int32), fY0_narrow_L49 N x1 n S x2 x3 x4 = some t → fr mA_Y0_narrow mF_Y0_narrow mL_Y0_narrow S t.1 := by
  intro n
  induction n with
  | zero =>
    intro _ _ _ _ h
    cases h
  | succ n ih =>
    intro S x2 x3 x4 h
    rw [fY0_narrow_L49] at h
    have hf : fr mA_Y0_narrow mF_Y0_narrow mL_Y0_narrow S S := fr_refl
    rcases it_or h with ⟨_, h⟩ | ⟨_, h⟩
    · cases h
      exact hf
    · rcases it_or h with ⟨_, h⟩ | ⟨_, h⟩
      · cases h
        exact hf
      · obtain ⟨t21, e22, h⟩ := bd h
        have hf := fr_trans hf (frY0_narrow_L63 _ _ _ _ _ e22)
        exact fr_trans hf (ih _ _ _ _ h)
set_option maxRecDepth 100000 in
set_option maxHeartbeats 1000000 in
theorem frY0_narrow_L40 {N : Nat} {x1 : Int32} {t : St × Int32} : ∀ (n : Nat) (S : St) (x2 : Int32) (x3 : Int32), fY0_narrow_L40 N x1 n S x2 x3 = some t → fr mA_Y0_narrow mF_Y0_narrow mL_Y0_narrow S t.1 := by
  intro n
  induction n with
  | zero =>
    intro _ _ _ h
    cases h
  | succ n ih =>
    intro S x2 x3 h
    rw [fY0_narrow_L40] at h
    have hf : fr mA_Y0_narrow mF_Y0_narrow mL_Y0_narrow S S := fr_refl
    rcases it_or h with ⟨_, h⟩ | ⟨_, h⟩
    · cases h
      exact hf
    · obtain ⟨t23, e24, h⟩ := bd h
      have hf := fr_trans hf (frY0_narrow_L49 _ _ _ _ _ e24)
      exact fr_trans hf (ih _ _ _ h)
set_option maxRecDepth 100000 in
set_option maxHeartbeats 1000000 in
theorem frY0_narrow_L152 {N : Nat} {x2 : Int32} {t : St} : ∀ (n : Nat) (S : St) (x4 : Int32), fY0_narrow_L152 N x2 n S x4 = some t → fr mA_Y0_narrow mF_Y0_narrow mL_Y0_narrow S t := by
  intro n
  induction n with
  | zero =>
    intro _ _ h
    cases h
  | succ n ih =>
    intro S x4 h
    rw [fY0_narrow_L152] at h
    have hf : fr mA_Y0_narrow mF_Y0_narrow mL_Y0_narrow S S := fr_refl
    rcases it_or h with ⟨_, h⟩ | ⟨_, h⟩
    · cases h
      exact hf
    · rcases it_or h with ⟨_, h⟩ | ⟨_, h⟩
      · obtain ⟨g27, h⟩ := gd_some h
        obtain ⟨s28, e29, h⟩ := nx_some h
        have hf := fr_trans hf (fr_eq e29 (fr_pa (by decide)))
        exact fr_trans hf (ih _ _ h)
      · cases h
        exact hf
set_option maxRecDepth 100000 in
set_option maxHeartbeats 1000000 in
theorem frY0_narrow_L181 {N : Nat}  {t : St} : ∀ (n : Nat) (S : St) (x2 : Int32) (x4 : Int32), fY0_narrow_L181 N  n S x2 x4 = some t → fr mA_Y0_narrow mF_Y0_narrow mL_Y0_narrow S t := by
  intro n
  induction n with
  | zero =>
    intro _ _ _ h
    cases h
  | succ n ih =>
    intro S x2 x4 h
    rw [fY0_narrow_L181] at h
    have hf : fr mA_Y0_narrow mF_Y0_narrow mL_Y0_narrow S S := fr_refl
    rcases it_or h with ⟨_, h⟩ | ⟨_, h⟩
    · cases h
      exact hf
    · rcases it_or h with ⟨_, h⟩ | ⟨_, h⟩
      · obtain ⟨t32, e33, h⟩ := bd h
        have hf := fr_trans hf (fr_mono (by decide) (by decide) (by decide) (frY0_setEnds e33))
        obtain ⟨t34, e35, h⟩ := bd h
        exact fr_trans hf (ih _ _ _ h)
      · cases h
        exact hf
set_option maxRecDepth 100000 in
set_option maxHeartbeats 1000000 in
theorem frY0_narrow {N : Nat} {S : St} {x1 : Int32} {S' : St} (h : fY0_narrow N S x1 = some (S')) : fr mA_Y0_narrow mF_Y0_narrow mL_Y0_narrow S S' := by
  unfold fY0_narrow at h
  have hf : fr mA_Y0_narrow mF_Y0_narrow mL_Y0_narrow S S := fr_refl
  obtain ⟨t1, e2, h⟩ := bd h
  have hf := fr_trans hf (fr_mono (by decide) (by decide) (by decide) (frY0_setFirst e2))
  obtain ⟨t7, e8, h⟩ := bd h
  have hf := fr_trans hf (frY0_narrow_L8 _ _ _ _ e8)
  obtain ⟨t25, e26, h⟩ := bd h
  have hf := fr_trans hf (frY0_narrow_L40 _ _ _ _ e26)
  obtain ⟨t30, e31, h⟩ := bd h
  have hf := fr_trans hf (frY0_narrow_L152 _ _ _ e31)
  obtain ⟨t36, e37, h⟩ := bd h
  have hf := fr_trans hf (frY0_narrow_L181 _ _ _ _ e37)
  cases h
  exact hf
abbrev mA_Y0_left : List Nat := [1, 17, 18, 19]
abbrev mF_Y0_left : List (Nat × Nat) := [(0, 0)]
abbrev mL_Y0_left : List (Nat × Nat) := []
set_option maxRecDepth 100000 in
set_option maxHeartbeats 1000000 in
theorem frY0_left {N : Nat} {S : St} {x1 : Int32} {x2 : Int32} {v : Int32} {S' : St} (h : fY0_left N S x1 x2 = some (v, S')) : fr mA_Y0_left mF_Y0_left mL_Y0_left S S' := by
  unfold fY0_left at h
  have hf : fr mA_Y0_left mF_Y0_left mL_Y0_left S S := fr_refl
  obtain ⟨t1, e2, h⟩ := bd h
  rcases it_or h with ⟨_, h⟩ | ⟨_, h⟩
  · cases h
    exact hf
  · obtain ⟨t3, e4, h⟩ := bd h
    have hf := fr_trans hf (fr_mono (by decide) (by decide) (by decide) (frY0_askedCell e4))
    rcases it_or h with ⟨_, h⟩ | ⟨_, h⟩
    · rcases it_or h with ⟨_, h⟩ | ⟨_, h⟩
      · obtain ⟨t9, e10, h⟩ := bd h
        cases h
        exact hf
      · obtain ⟨t5, e6, h⟩ := bd h
        have hf := fr_trans hf (fr_mono (by decide) (by decide) (by decide) (frY0_narrow e6))
        obtain ⟨t7, e8, h⟩ := bd h
        cases h
        exact hf
    · cases h
      exact hf
abbrev mA_Y0_ends : List Nat := [1, 17, 18, 19]
abbrev mF_Y0_ends : List (Nat × Nat) := [(0, 0), (0, 2)]
abbrev mL_Y0_ends : List (Nat × Nat) := []
set_option maxRecDepth 100000 in
set_option maxHeartbeats 1000000 in
theorem frY0_ends {N : Nat} {S : St} {x1 : Int32} {v : Int32} {S' : St} (h : fY0_ends N S x1 = some (v, S')) : fr mA_Y0_ends mF_Y0_ends mL_Y0_ends S S' := by
  unfold fY0_ends at h
  have hf : fr mA_Y0_ends mF_Y0_ends mL_Y0_ends S S := fr_refl
  obtain ⟨t1, e2, h⟩ := bd h
  have hf := fr_trans hf (fr_mono (by decide) (by decide) (by decide) (frY0_askedCell e2))
  rcases it_or h with ⟨_, h⟩ | ⟨_, h⟩
  · obtain ⟨t3, e4, h⟩ := bd h
    have hf := fr_trans hf (fr_mono (by decide) (by decide) (by decide) (frY0_narrow e4))
    obtain ⟨t5, e6, h⟩ := bd h
    obtain ⟨t11, e12, h⟩ := bd h
    have hf : fr mA_Y0_ends mF_Y0_ends mL_Y0_ends S t11.1 := by
      clear h
      have h := e12
      rcases it_or h with ⟨_, h⟩ | ⟨_, h⟩
      · cases h
        exact hf
      · obtain ⟨g7, h⟩ := gd_some h
        obtain ⟨g8, h⟩ := gd_some h
        obtain ⟨t9, e10, h⟩ := bd h
        have hf := fr_trans hf (fr_mono (by decide) (by decide) (by decide) (frY0_ask e10))
        cases h
        exact hf
    cases h
    exact hf
  · cases h
    exact hf
abbrev mA_Y0_may : List Nat := [1, 17, 18, 19]
abbrev mF_Y0_may : List (Nat × Nat) := [(0, 0)]
abbrev mL_Y0_may : List (Nat × Nat) := []
set_option maxRecDepth 100000 in
set_option maxHeartbeats 1000000 in
theorem frY0_may {N : Nat} {S : St} {x1 : Int32} {x2 : Int32} {v : Int32} {S' : St} (h : fY0_may N S x1 x2 = some (v, S')) : fr mA_Y0_may mF_Y0_may mL_Y0_may S S' := by
  unfold fY0_may at h
  have hf : fr mA_Y0_may mF_Y0_may mL_Y0_may S S := fr_refl
  obtain ⟨t1, e2, h⟩ := bd h
  rcases it_or h with ⟨_, h⟩ | ⟨_, h⟩
  · cases h
    exact hf
  · obtain ⟨t3, e4, h⟩ := bd h
    have hf := fr_trans hf (fr_mono (by decide) (by decide) (by decide) (frY0_askedCell e4))
    rcases it_or h with ⟨_, h⟩ | ⟨_, h⟩
    · obtain ⟨t5, e6, h⟩ := bd h
      have hf := fr_trans hf (fr_mono (by decide) (by decide) (by decide) (frY0_narrow e6))
      obtain ⟨g7, h⟩ := gd_some h
      obtain ⟨t8, e9, h⟩ := bd h
      cases h
      exact hf
    · cases h
      exact hf
abbrev mA_Y0_burnt : List Nat := [17, 18, 19]
abbrev mF_Y0_burnt : List (Nat × Nat) := []
abbrev mL_Y0_burnt : List (Nat × Nat) := []
set_option maxRecDepth 100000 in
set_option maxHeartbeats 1000000 in
theorem frY0_burnt_L6 {N : Nat} {S : St}  {t : (Int32 × St) ⊕ (Unit)} : ∀ (n : Nat) (x1 : Int32), fY0_burnt_L6 N S  n x1 = some t → (∀ r, t = .inl r → fr mA_Y0_burnt mF_Y0_burnt mL_Y0_burnt S r.2) ∧ (∀ u, t = .inr u → fr mA_Y0_burnt mF_Y0_burnt mL_Y0_burnt S S) := by
  intro n
  induction n with
  | zero =>
    intro _ h
    cases h
  | succ n ih =>
    intro x1 h
    rw [fY0_burnt_L6] at h
    have hf : fr mA_Y0_burnt mF_Y0_burnt mL_Y0_burnt S S := fr_refl
    rcases it_or h with ⟨_, h⟩ | ⟨_, h⟩
    · cases h
      exact ⟨fun r e => (by cases e), fun u e => (by cases e; exact hf)⟩
    · obtain ⟨g3, h⟩ := gd_some h
      obtain ⟨t4, e5, h⟩ := bd h
      obtain ⟨t6, e7, h⟩ := bd h
      obtain ⟨t8, e9, h⟩ := bd h
      obtain ⟨t10, e11, h⟩ := bd h
      rcases it_or h with ⟨_, h⟩ | ⟨_, h⟩
      · cases h
        exact ⟨fun r e => (by cases e; exact hf), fun u e => (by cases e)⟩
      · exact ih _ h
set_option maxRecDepth 100000 in
set_option maxHeartbeats 1000000 in
theorem frY0_burnt {N : Nat} {S : St}  {v : Int32} {S' : St} (h : fY0_burnt N S = some (v, S')) : fr mA_Y0_burnt mF_Y0_burnt mL_Y0_burnt S S' := by
  unfold fY0_burnt at h
  have hf : fr mA_Y0_burnt mF_Y0_burnt mL_Y0_burnt S S := fr_refl
  obtain ⟨t1, e2, h⟩ := bd h
  have hf := fr_trans hf (fr_mono (by decide) (by decide) (by decide) (frY0_setFirst e2))
  obtain ⟨t12, e13, h⟩ := bd h
  have hi := frY0_burnt_L6 _ _ e13
  cases t12 with
  | inl r =>
    have h := sm_l h
    cases h
    exact fr_trans hf (hi.1 _ rfl)
  | inr u14 =>
    have h := sm_r h
    have hf := fr_trans hf (hi.2 _ rfl)
    cases h
    exact hf
abbrev mA_Y0_begin : List Nat := [17, 18, 19, 20, 21, 22]
abbrev mF_Y0_begin : List (Nat × Nat) := [(0, 27), (0, 31), (0, 32), (0, 33), (0, 34), (0, 35), (0, 36)]
abbrev mL_Y0_begin : List (Nat × Nat) := []
set_option maxRecDepth 100000 in
set_option maxHeartbeats 1000000 in
theorem frY0_begin_L12 {N : Nat} {x1 : Int32} {x2 : Int32} {t : St} : ∀ (n : Nat) (S : St) (x3 : Int32), fY0_begin_L12 N x1 x2 n S x3 = some t → fr mA_Y0_begin mF_Y0_begin mL_Y0_begin S t := by
  intro n
  induction n with
  | zero =>
    intro _ _ h
    cases h
  | succ n ih =>
    intro S x3 h
    rw [fY0_begin_L12] at h
    have hf : fr mA_Y0_begin mF_Y0_begin mL_Y0_begin S S := fr_refl
    rcases it_or h with ⟨_, h⟩ | ⟨_, h⟩
    · cases h
      exact hf
    · obtain ⟨g5, h⟩ := gd_some h
      obtain ⟨s6, e7, h⟩ := nx_some h
      have hf := fr_trans hf (fr_eq e7 (fr_pa (by decide)))
      obtain ⟨t8, e9, h⟩ := bd h
      obtain ⟨t15, e16, h⟩ := bd h
      have hf : fr mA_Y0_begin mF_Y0_begin mL_Y0_begin S t15 := by
        clear h
        have h := e16
        rcases it_or h with ⟨_, h⟩ | ⟨_, h⟩
        · cases h
          exact hf
        · obtain ⟨g10, h⟩ := gd_some h
          obtain ⟨s11, e12, h⟩ := nx_some h
          have hf := fr_trans hf (fr_eq e12 (fr_pa (by decide)))
          obtain ⟨s13, e14, h⟩ := nx_some h
          have hf := fr_trans hf (fr_eq e14 (fr_pf (by decide)))
          cases h
          exact hf
      exact fr_trans hf (ih _ _ h)
set_option maxRecDepth 100000 in
set_option maxHeartbeats 1000000 in
theorem frY0_begin_L98 {N : Nat} {x2 : Int32} {t : St} : ∀ (n : Nat) (S : St) (x3 : Int32), fY0_begin_L98 N x2 n S x3 = some t → fr mA_Y0_begin mF_Y0_begin mL_Y0_begin S t := by
  intro n
  induction n with
  | zero =>
    intro _ _ h
    cases h
  | succ n ih =>
    intro S x3 h
    rw [fY0_begin_L98] at h
    have hf : fr mA_Y0_begin mF_Y0_begin mL_Y0_begin S S := fr_refl
    rcases it_or h with ⟨_, h⟩ | ⟨_, h⟩
    · cases h
      exact hf
    · obtain ⟨t39, e40, h⟩ := bd h
      obtain ⟨_, h⟩ := gd_some h
      obtain ⟨s41, e42, h⟩ := nx_some h
      have hf := fr_trans hf (fr_eq e42 (fr_pf (by decide)))
      exact fr_trans hf (ih _ _ h)
set_option maxRecDepth 100000 in
set_option maxHeartbeats 1000000 in
theorem frY0_begin {N : Nat} {S : St} {x1 : Int32} {x2 : Int32} {S' : St} (h : fY0_begin N S x1 x2 = some (S')) : fr mA_Y0_begin mF_Y0_begin mL_Y0_begin S S' := by
  unfold fY0_begin at h
  have hf : fr mA_Y0_begin mF_Y0_begin mL_Y0_begin S S := fr_refl
  obtain ⟨t1, e2, h⟩ := bd h
  have hf := fr_trans hf (fr_mono (by decide) (by decide) (by decide) (frY0_narrow e2))
  obtain ⟨s3, e4, h⟩ := nx_some h
  have hf := fr_trans hf (fr_eq e4 (fr_pf (by decide)))
  obtain ⟨t17, e18, h⟩ := bd h
  have hf := fr_trans hf (frY0_begin_L12 _ _ _ e18)
  obtain ⟨s19, e20, h⟩ := nx_some h
  have hf := fr_trans hf (fr_eq e20 (fr_pf (by decide)))
  obtain ⟨g21, h⟩ := gd_some h
  obtain ⟨s22, e23, h⟩ := nx_some h
  have hf := fr_trans hf (fr_eq e23 (fr_pa (by decide)))
  obtain ⟨s24, e25, h⟩ := nx_some h
  have hf := fr_trans hf (fr_eq e25 (fr_pf (by decide)))
  obtain ⟨s26, e27, h⟩ := nx_some h
  have hf := fr_trans hf (fr_eq e27 (fr_pf (by decide)))
  obtain ⟨s28, e29, h⟩ := nx_some h
  have hf := fr_trans hf (fr_eq e29 (fr_pf (by decide)))
  obtain ⟨s30, e31, h⟩ := nx_some h
  have hf := fr_trans hf (fr_eq e31 (fr_pf (by decide)))
  obtain ⟨s32, e33, h⟩ := nx_some h
  have hf := fr_trans hf (fr_eq e33 (fr_pf (by decide)))
  obtain ⟨t43, e44, h⟩ := bd h
  have hf := fr_trans hf (frY0_begin_L98 _ _ _ e44)
  cases h
  exact hf
abbrev mA_Y0_nextFilling : List Nat := [21, 22]
abbrev mF_Y0_nextFilling : List (Nat × Nat) := [(0, 31), (0, 32), (0, 35), (0, 36)]
abbrev mL_Y0_nextFilling : List (Nat × Nat) := []
set_option maxRecDepth 100000 in
set_option maxHeartbeats 1000000 in
theorem frY0_nextFilling_L21 {N : Nat}  {t : (Int32 × St) ⊕ (St)} : ∀ (n : Nat) (S : St), fY0_nextFilling_L21 N  n S = some t → (∀ r, t = .inl r → fr mA_Y0_nextFilling mF_Y0_nextFilling mL_Y0_nextFilling S r.2) ∧ (∀ u, t = .inr u → fr mA_Y0_nextFilling mF_Y0_nextFilling mL_Y0_nextFilling S u) := by
  intro n
  induction n with
  | zero =>
    intro _ h
    cases h
  | succ n ih =>
    intro S h
    rw [fY0_nextFilling_L21] at h
    have hf : fr mA_Y0_nextFilling mF_Y0_nextFilling mL_Y0_nextFilling S S := fr_refl
    rcases it_or h with ⟨_, h⟩ | ⟨_, h⟩
    · rcases it_or h with ⟨_, h⟩ | ⟨_, h⟩
      · cases h
        exact ⟨fun r e => (by cases e), fun u e => (by cases e; exact hf)⟩
      · obtain ⟨g1, h⟩ := gd_some h
        obtain ⟨_, _, h⟩ := nx_some h
        obtain ⟨g3, h⟩ := gd_some h
        obtain ⟨_, _, h⟩ := nx_some h
        obtain ⟨t5, e6, h⟩ := bd h
        rcases it_or h with ⟨_, h⟩ | ⟨_, h⟩
        · obtain ⟨s24, e25, h⟩ := nx_some h
          have hf := fr_trans hf (fr_eq e25 (fr_pf (by decide)))
          have hi := ih _ h
          exact ⟨fun r e => fr_trans hf (hi.1 r e), fun u e => fr_trans hf (hi.2 u e)⟩
        · obtain ⟨g7, h⟩ := gd_some h
          obtain ⟨s8, e9, h⟩ := nx_some h
          have hf := fr_trans hf (fr_eq e9 (fr_pa (by decide)))
          obtain ⟨s10, e11, h⟩ := nx_some h
          have hf := fr_trans hf (fr_eq e11 (fr_pf (by decide)))
          rcases it_or h with ⟨_, h⟩ | ⟨_, h⟩
          · obtain ⟨g12, h⟩ := gd_some h
            obtain ⟨s13, e14, h⟩ := nx_some h
            have hf := fr_trans hf (fr_eq e14 (fr_pa (by decide)))
            obtain ⟨t15, e16, h⟩ := bd h
            rcases it_or h with ⟨_, h⟩ | ⟨_, h⟩
            · have hi := ih _ h
              exact ⟨fun r e => fr_trans hf (hi.1 r e), fun u e => fr_trans hf (hi.2 u e)⟩
            · rcases it_or h with ⟨_, h⟩ | ⟨_, h⟩
              · cases h
                exact ⟨fun r e => (by cases e; exact hf), fun u e => (by cases e)⟩
              · obtain ⟨s17, e18, h⟩ := nx_some h
                have hf := fr_trans hf (fr_eq e18 (fr_pf (by decide)))
                obtain ⟨g19, h⟩ := gd_some h
                obtain ⟨s20, e21, h⟩ := nx_some h
                have hf := fr_trans hf (fr_eq e21 (fr_pa (by decide)))
                have hi := ih _ h
                exact ⟨fun r e => fr_trans hf (hi.1 r e), fun u e => fr_trans hf (hi.2 u e)⟩
          · obtain ⟨s22, e23, h⟩ := nx_some h
            have hf := fr_trans hf (fr_eq e23 (fr_pf (by decide)))
            cases h
            exact ⟨fun r e => (by cases e), fun u e => (by cases e; exact hf)⟩
    · cases h
      exact ⟨fun r e => (by cases e), fun u e => (by cases e; exact hf)⟩
set_option maxRecDepth 100000 in
set_option maxHeartbeats 1000000 in
theorem frY0_nextFilling {N : Nat} {S : St}  {v : Int32} {S' : St} (h : fY0_nextFilling N S = some (v, S')) : fr mA_Y0_nextFilling mF_Y0_nextFilling mL_Y0_nextFilling S S' := by
  unfold fY0_nextFilling at h
  have hf : fr mA_Y0_nextFilling mF_Y0_nextFilling mL_Y0_nextFilling S S := fr_refl
  rcases it_or h with ⟨_, h⟩ | ⟨_, h⟩
  · rcases it_or h with ⟨_, h⟩ | ⟨_, h⟩
    · obtain ⟨s36, e37, h⟩ := nx_some h
      have hf := fr_trans hf (fr_eq e37 (fr_pf (by decide)))
      cases h
      exact hf
    · obtain ⟨t31, e32, h⟩ := bd h
      have hi := frY0_nextFilling_L21 _ _ e32
      cases t31 with
      | inl r =>
        have h := sm_l h
        cases h
        exact fr_trans hf (hi.1 _ rfl)
      | inr u33 =>
        have h := sm_r h
        have hf := fr_trans hf (hi.2 _ rfl)
        obtain ⟨s34, e35, h⟩ := nx_some h
        have hf := fr_trans hf (fr_eq e35 (fr_pf (by decide)))
        cases h
        exact hf
  · obtain ⟨t26, e27, h⟩ := bd h
    have hi := frY0_nextFilling_L21 _ _ e27
    cases t26 with
    | inl r =>
      have h := sm_l h
      cases h
      exact fr_trans hf (hi.1 _ rfl)
    | inr u28 =>
      have h := sm_r h
      have hf := fr_trans hf (hi.2 _ rfl)
      obtain ⟨s29, e30, h⟩ := nx_some h
      have hf := fr_trans hf (fr_eq e30 (fr_pf (by decide)))
      cases h
      exact hf
abbrev mA_Y0_goThrough : List Nat := [17, 18, 19, 20, 21, 22, 23]
abbrev mF_Y0_goThrough : List (Nat × Nat) := [(0, 27), (0, 31), (0, 32), (0, 33), (0, 34), (0, 35), (0, 36), (0, 37)]
abbrev mL_Y0_goThrough : List (Nat × Nat) := []
set_option maxRecDepth 100000 in
set_option maxHeartbeats 1000000 in
theorem frY0_goThrough_L13 {N : Nat}  {t : St} : ∀ (n : Nat) (S : St) (x2 : Int32), fY0_goThrough_L13 N  n S x2 = some t → fr mA_Y0_goThrough mF_Y0_goThrough mL_Y0_goThrough S t := by
  intro n
  induction n with
  | zero =>
    intro _ _ h
    cases h
  | succ n ih =>
    intro S x2 h
    rw [fY0_goThrough_L13] at h
    have hf : fr mA_Y0_goThrough mF_Y0_goThrough mL_Y0_goThrough S S := fr_refl
    rcases it_or h with ⟨_, h⟩ | ⟨_, h⟩
    · cases h
      exact hf
    · obtain ⟨g5, h⟩ := gd_some h
      obtain ⟨s6, e7, h⟩ := nx_some h
      have hf := fr_trans hf (fr_eq e7 (fr_pa (by decide)))
      exact fr_trans hf (ih _ _ h)
set_option maxRecDepth 100000 in
set_option maxHeartbeats 1000000 in
theorem frY0_goThrough_L52 {N : Nat}  {t : St} : ∀ (n : Nat) (S : St) (x2 : Int32), fY0_goThrough_L52 N  n S x2 = some t → fr mA_Y0_goThrough mF_Y0_goThrough mL_Y0_goThrough S t := by
  intro n
  induction n with
  | zero =>
    intro _ _ h
    cases h
  | succ n ih =>
    intro S x2 h
    rw [fY0_goThrough_L52] at h
    have hf : fr mA_Y0_goThrough mF_Y0_goThrough mL_Y0_goThrough S S := fr_refl
    rcases it_or h with ⟨_, h⟩ | ⟨_, h⟩
    · cases h
      exact hf
    · obtain ⟨g14, h⟩ := gd_some h
      obtain ⟨g15, h⟩ := gd_some h
      obtain ⟨g16, h⟩ := gd_some h
      obtain ⟨g17, h⟩ := gd_some h
      obtain ⟨g18, h⟩ := gd_some h
      obtain ⟨s19, e20, h⟩ := nx_some h
      have hf := fr_trans hf (fr_eq e20 (fr_pa (by decide)))
      exact fr_trans hf (ih _ _ h)
set_option maxRecDepth 100000 in
set_option maxHeartbeats 1000000 in
theorem frY0_goThrough_L33 {N : Nat}  {t : St} : ∀ (n : Nat) (S : St), fY0_goThrough_L33 N  n S = some t → fr mA_Y0_goThrough mF_Y0_goThrough mL_Y0_goThrough S t := by
  intro n
  induction n with
  | zero =>
    intro _ h
    cases h
  | succ n ih =>
    intro S h
    rw [fY0_goThrough_L33] at h
    have hf : fr mA_Y0_goThrough mF_Y0_goThrough mL_Y0_goThrough S S := fr_refl
    obtain ⟨t10, e11, h⟩ := bd h
    have hf := fr_trans hf (fr_mono (by decide) (by decide) (by decide) (frY0_nextFilling e11))
    rcases it_or h with ⟨_, h⟩ | ⟨_, h⟩
    · cases h
      exact hf
    · obtain ⟨s12, e13, h⟩ := nx_some h
      have hf := fr_trans hf (fr_eq e13 (fr_pf (by decide)))
      obtain ⟨t21, e22, h⟩ := bd h
      have hf := fr_trans hf (frY0_goThrough_L52 _ _ _ e22)
      exact fr_trans hf (ih _ h)
set_option maxRecDepth 100000 in
set_option maxHeartbeats 1000000 in
theorem frY0_goThrough {N : Nat} {S : St} {x1 : Int32} {v : Int32} {S' : St} (h : fY0_goThrough N S x1 = some (v, S')) : fr mA_Y0_goThrough mF_Y0_goThrough mL_Y0_goThrough S S' := by
  unfold fY0_goThrough at h
  have hf : fr mA_Y0_goThrough mF_Y0_goThrough mL_Y0_goThrough S S := fr_refl
  obtain ⟨t1, e2, h⟩ := bd h
  have hf := fr_trans hf (fr_mono (by decide) (by decide) (by decide) (frY0_begin e2))
  obtain ⟨s3, e4, h⟩ := nx_some h
  have hf := fr_trans hf (fr_eq e4 (fr_pf (by decide)))
  obtain ⟨t8, e9, h⟩ := bd h
  have hf := fr_trans hf (frY0_goThrough_L13 _ _ _ e9)
  obtain ⟨t23, e24, h⟩ := bd h
  have hf := fr_trans hf (frY0_goThrough_L33 _ _ e24)
  obtain ⟨t25, e26, h⟩ := bd h
  obtain ⟨_, h⟩ := gd_some h
  cases h
  exact hf
abbrev mA_Y0_count : List Nat := [17, 18, 19, 20, 21, 22, 23]
abbrev mF_Y0_count : List (Nat × Nat) := [(0, 2), (0, 27), (0, 31), (0, 32), (0, 33), (0, 34), (0, 35), (0, 36), (0, 37)]
abbrev mL_Y0_count : List (Nat × Nat) := []
set_option maxRecDepth 100000 in
set_option maxHeartbeats 1000000 in
theorem frY0_count {N : Nat} {S : St} {x1 : Int32} {v : Int32} {S' : St} (h : fY0_count N S x1 = some (v, S')) : fr mA_Y0_count mF_Y0_count mL_Y0_count S S' := by
  unfold fY0_count at h
  have hf : fr mA_Y0_count mF_Y0_count mL_Y0_count S S := fr_refl
  obtain ⟨t1, e2, h⟩ := bd h
  rcases it_or h with ⟨_, h⟩ | ⟨_, h⟩
  · cases h
    exact hf
  · obtain ⟨t3, e4, h⟩ := bd h
    have hf := fr_trans hf (fr_mono (by decide) (by decide) (by decide) (frY0_goThrough e4))
    obtain ⟨t7, e8, h⟩ := bd h
    have hf : fr mA_Y0_count mF_Y0_count mL_Y0_count S t7.1 := by
      clear h
      have h := e8
      rcases it_or h with ⟨_, h⟩ | ⟨_, h⟩
      · cases h
        exact hf
      · obtain ⟨t5, e6, h⟩ := bd h
        have hf := fr_trans hf (fr_mono (by decide) (by decide) (by decide) (frY0_ask e6))
        cases h
        exact hf
    cases h
    exact hf
abbrev mA_Y0_comeTo : List Nat := [1, 2, 3]
abbrev mF_Y0_comeTo : List (Nat × Nat) := [(0, 0)]
abbrev mL_Y0_comeTo : List (Nat × Nat) := []
set_option maxRecDepth 100000 in
set_option maxHeartbeats 1000000 in
theorem frY0_comeTo_L10 {N : Nat} {x1 : Int32} {t : St} : ∀ (n : Nat) (S : St) (x2 : Int32), fY0_comeTo_L10 N x1 n S x2 = some t → fr mA_Y0_comeTo mF_Y0_comeTo mL_Y0_comeTo S t := by
  intro n
  induction n with
  | zero =>
    intro _ _ h
    cases h
  | succ n ih =>
    intro S x2 h
    rw [fY0_comeTo_L10] at h
    have hf : fr mA_Y0_comeTo mF_Y0_comeTo mL_Y0_comeTo S S := fr_refl
    rcases it_or h with ⟨_, h⟩ | ⟨_, h⟩
    · cases h
      exact hf
    · obtain ⟨t3, e4, h⟩ := bd h
      obtain ⟨t6, e7, h⟩ := bd h
      obtain ⟨g8, h⟩ := gd_some h
      obtain ⟨s9, e10, h⟩ := nx_some h
      have hf := fr_trans hf (fr_eq e10 (fr_pa (by decide)))
      exact fr_trans hf (ih _ _ h)
set_option maxRecDepth 100000 in
set_option maxHeartbeats 1000000 in
theorem frY0_comeTo {N : Nat} {S : St} {x1 : Int32} {S' : St} (h : fY0_comeTo N S x1 = some (S')) : fr mA_Y0_comeTo mF_Y0_comeTo mL_Y0_comeTo S S' := by
  unfold fY0_comeTo at h
  have hf : fr mA_Y0_comeTo mF_Y0_comeTo mL_Y0_comeTo S S := fr_refl
  obtain ⟨t1, e2, h⟩ := bd h
  have hf := fr_trans hf (fr_mono (by decide) (by decide) (by decide) (frY0_row e2))
  obtain ⟨t11, e12, h⟩ := bd h
  have hf := fr_trans hf (frY0_comeTo_L10 _ _ _ e12)
  cases h
  exact hf
abbrev mA_Y0_fill : List Nat := [1, 2, 3, 17, 18, 19, 20, 21, 22]
abbrev mF_Y0_fill : List (Nat × Nat) := [(0, 0), (0, 27), (0, 31), (0, 32), (0, 33), (0, 34), (0, 35), (0, 36)]
abbrev mL_Y0_fill : List (Nat × Nat) := []
set_option maxRecDepth 100000 in
set_option maxHeartbeats 1000000 in
theorem frY0_fill_L29 {N : Nat} {x1 : Int32} {x2 : Int32} {t : St × Int32} : ∀ (n : Nat) (S : St) (x4 : Int32), fY0_fill_L29 N x1 x2 n S x4 = some t → fr mA_Y0_fill mF_Y0_fill mL_Y0_fill S t.1 := by
  intro n
  induction n with
  | zero =>
    intro _ _ h
    cases h
  | succ n ih =>
    intro S x4 h
    rw [fY0_fill_L29] at h
    have hf : fr mA_Y0_fill mF_Y0_fill mL_Y0_fill S S := fr_refl
    rcases it_or h with ⟨_, h⟩ | ⟨_, h⟩
    · cases h
      exact hf
    · obtain ⟨t7, e8, h⟩ := bd h
      have hf := fr_trans hf (fr_mono (by decide) (by decide) (by decide) (frY0_nextFilling e8))
      rcases it_or h with ⟨_, h⟩ | ⟨_, h⟩
      · cases h
        exact hf
      · exact fr_trans hf (ih _ _ h)
set_option maxRecDepth 100000 in
set_option maxHeartbeats 1000000 in
theorem frY0_fill {N : Nat} {S : St} {x1 : Int32} {x2 : Int32} {x3 : Int32} {v : Int32} {S' : St} (h : fY0_fill N S x1 x2 x3 = some (v, S')) : fr mA_Y0_fill mF_Y0_fill mL_Y0_fill S S' := by
  unfold fY0_fill at h
  have hf : fr mA_Y0_fill mF_Y0_fill mL_Y0_fill S S := fr_refl
  rcases it_or h with ⟨_, h⟩ | ⟨_, h⟩
  · cases h
    exact hf
  · obtain ⟨t1, e2, h⟩ := bd h
    rcases it_or h with ⟨_, h⟩ | ⟨_, h⟩
    · cases h
      exact hf
    · obtain ⟨t3, e4, h⟩ := bd h
      rcases it_or h with ⟨_, h⟩ | ⟨_, h⟩
      · cases h
        exact hf
      · obtain ⟨t5, e6, h⟩ := bd h
        have hf := fr_trans hf (fr_mono (by decide) (by decide) (by decide) (frY0_begin e6))
        obtain ⟨t9, e10, h⟩ := bd h
        have hf := fr_trans hf (frY0_fill_L29 _ _ _ e10)
        rcases it_or h with ⟨_, h⟩ | ⟨_, h⟩
        · rcases it_or h with ⟨_, h⟩ | ⟨_, h⟩
          · obtain ⟨t11, e12, h⟩ := bd h
            have hf := fr_trans hf (fr_mono (by decide) (by decide) (by decide) (frY0_comeTo e12))
            cases h
            exact hf
          · cases h
            exact hf
        · cases h
          exact hf
abbrev mA_Y0_could : List Nat := [1, 17, 18, 19, 20, 21, 22, 23]
abbrev mF_Y0_could : List (Nat × Nat) := [(0, 0), (0, 27), (0, 31), (0, 32), (0, 33), (0, 34), (0, 35), (0, 36), (0, 37)]
abbrev mL_Y0_could : List (Nat × Nat) := [(0, 3), (0, 4)]
set_option maxRecDepth 100000 in
set_option maxHeartbeats 1000000 in
theorem frY0_could {N : Nat} {S : St} {x1 : Int32} {x2 : Int32} {x3 : Int32} {v : Int32} {S' : St} (h : fY0_could N S x1 x2 x3 = some (v, S')) : fr mA_Y0_could mF_Y0_could mL_Y0_could S S' := by
  unfold fY0_could at h
  have hf : fr mA_Y0_could mF_Y0_could mL_Y0_could S S := fr_refl
  obtain ⟨t1, e2, h⟩ := bd h
  rcases it_or h with ⟨_, h⟩ | ⟨_, h⟩
  · cases h
    exact hf
  · obtain ⟨t3, e4, h⟩ := bd h
    rcases it_or h with ⟨_, h⟩ | ⟨_, h⟩
    · cases h
      exact hf
    · obtain ⟨t5, e6, h⟩ := bd h
      have hf := fr_trans hf (fr_mono (by decide) (by decide) (by decide) (frY0_askedCell e6))
      rcases it_or h with ⟨_, h⟩ | ⟨_, h⟩
      · obtain ⟨t7, e8, h⟩ := bd h
        have hf := fr_trans hf (fr_mono (by decide) (by decide) (by decide) (frY0_goThrough e8))
        rcases it_or h with ⟨_, h⟩ | ⟨_, h⟩
        · cases h
          exact hf
        · obtain ⟨g9, h⟩ := gd_some h
          obtain ⟨_, _, h⟩ := nx_some h
          obtain ⟨t11, e12, h⟩ := bd h
          obtain ⟨t13, e14, h⟩ := bd h
          obtain ⟨s15, e16, h⟩ := nx_some h
          have hf := fr_trans hf (fr_eq e16 (fr_p2 (by decide)))
          obtain ⟨t17, e18, h⟩ := bd h
          obtain ⟨s19, e20, h⟩ := nx_some h
          have hf := fr_trans hf (fr_eq e20 (fr_p2 (by decide)))
          cases h
          exact hf
      · cases h
        exact hf
abbrev mA_Y0_must : List Nat := [1, 17, 18, 19, 20, 21, 22, 23]
abbrev mF_Y0_must : List (Nat × Nat) := [(0, 0), (0, 2), (0, 27), (0, 31), (0, 32), (0, 33), (0, 34), (0, 35), (0, 36), (0, 37)]
abbrev mL_Y0_must : List (Nat × Nat) := []
set_option maxRecDepth 100000 in
set_option maxHeartbeats 1000000 in
theorem frY0_must {N : Nat} {S : St} {x1 : Int32} {x2 : Int32} {v : Int32} {S' : St} (h : fY0_must N S x1 x2 = some (v, S')) : fr mA_Y0_must mF_Y0_must mL_Y0_must S S' := by
  unfold fY0_must at h
  have hf : fr mA_Y0_must mF_Y0_must mL_Y0_must S S := fr_refl
  obtain ⟨t1, e2, h⟩ := bd h
  rcases it_or h with ⟨_, h⟩ | ⟨_, h⟩
  · cases h
    exact hf
  · obtain ⟨t3, e4, h⟩ := bd h
    have hf := fr_trans hf (fr_mono (by decide) (by decide) (by decide) (frY0_askedCell e4))
    rcases it_or h with ⟨_, h⟩ | ⟨_, h⟩
    · obtain ⟨t5, e6, h⟩ := bd h
      have hf := fr_trans hf (fr_mono (by decide) (by decide) (by decide) (frY0_goThrough e6))
      rcases it_or h with ⟨_, h⟩ | ⟨_, h⟩
      · cases h
        exact hf
      · obtain ⟨t7, e8, h⟩ := bd h
        obtain ⟨t11, e12, h⟩ := bd h
        have hf : fr mA_Y0_must mF_Y0_must mL_Y0_must S t11.1 := by
          clear h
          have h := e12
          rcases it_or h with ⟨_, h⟩ | ⟨_, h⟩
          · cases h
            exact hf
          · obtain ⟨t9, e10, h⟩ := bd h
            have hf := fr_trans hf (fr_mono (by decide) (by decide) (by decide) (frY0_ask e10))
            cases h
            exact hf
        cases h
        exact hf
    · cases h
      exact hf
abbrev mA_Y0_sure : List Nat := [17, 18, 19, 20, 21, 22, 23]
abbrev mF_Y0_sure : List (Nat × Nat) := [(0, 27), (0, 31), (0, 32), (0, 33), (0, 34), (0, 35), (0, 36), (0, 37)]
abbrev mL_Y0_sure : List (Nat × Nat) := []
set_option maxRecDepth 100000 in
set_option maxHeartbeats 1000000 in
theorem frY0_sure {N : Nat} {S : St} {x1 : Int32} {v : Int32} {S' : St} (h : fY0_sure N S x1 = some (v, S')) : fr mA_Y0_sure mF_Y0_sure mL_Y0_sure S S' := by
  unfold fY0_sure at h
  have hf : fr mA_Y0_sure mF_Y0_sure mL_Y0_sure S S := fr_refl
  obtain ⟨t1, e2, h⟩ := bd h
  rcases it_or h with ⟨_, h⟩ | ⟨_, h⟩
  · cases h
    exact hf
  · obtain ⟨t3, e4, h⟩ := bd h
    have hf := fr_trans hf (fr_mono (by decide) (by decide) (by decide) (frY0_goThrough e4))
    rcases it_or h with ⟨_, h⟩ | ⟨_, h⟩
    · cases h
      exact hf
    · obtain ⟨t5, e6, h⟩ := bd h
      cases h
      exact hf
abbrev mA_Y0_next : List Nat := [17, 18, 19, 20, 21, 22, 23]
abbrev mF_Y0_next : List (Nat × Nat) := [(0, 2), (0, 27), (0, 31), (0, 32), (0, 33), (0, 34), (0, 35), (0, 36), (0, 37)]
abbrev mL_Y0_next : List (Nat × Nat) := []
set_option maxRecDepth 100000 in
set_option maxHeartbeats 1000000 in
theorem frY0_next {N : Nat} {S : St} {x1 : Int32} {v : Int32} {S' : St} (h : fY0_next N S x1 = some (v, S')) : fr mA_Y0_next mF_Y0_next mL_Y0_next S S' := by
  unfold fY0_next at h
  have hf : fr mA_Y0_next mF_Y0_next mL_Y0_next S S := fr_refl
  obtain ⟨t1, e2, h⟩ := bd h
  rcases it_or h with ⟨_, h⟩ | ⟨_, h⟩
  · cases h
    exact hf
  · obtain ⟨t3, e4, h⟩ := bd h
    have hf := fr_trans hf (fr_mono (by decide) (by decide) (by decide) (frY0_goThrough e4))
    rcases it_or h with ⟨_, h⟩ | ⟨_, h⟩
    · cases h
      exact hf
    · obtain ⟨t5, e6, h⟩ := bd h
      obtain ⟨t9, e10, h⟩ := bd h
      have hf : fr mA_Y0_next mF_Y0_next mL_Y0_next S t9.1 := by
        clear h
        have h := e10
        rcases it_or h with ⟨_, h⟩ | ⟨_, h⟩
        · obtain ⟨t7, e8, h⟩ := bd h
          have hf := fr_trans hf (fr_mono (by decide) (by decide) (by decide) (frY0_ask e8))
          cases h
          exact hf
        · cases h
          exact hf
      cases h
      exact hf
abbrev mA_Y0_like : List Nat := [1, 2, 3, 17, 18, 19, 20, 21, 22, 24, 25]
abbrev mF_Y0_like : List (Nat × Nat) := [(0, 0), (0, 27), (0, 31), (0, 32), (0, 33), (0, 34), (0, 35), (0, 36)]
abbrev mL_Y0_like : List (Nat × Nat) := []
set_option maxRecDepth 100000 in
set_option maxHeartbeats 1000000 in
theorem frY0_like_L58 {N : Nat} {x1 : Int32} {x2 : Int32} {x3 : Int32} {t : (Int32 × St) ⊕ (St)} : ∀ (n : Nat) (S : St) (x5 : Int32), fY0_like_L58 N x1 x2 x3 n S x5 = some t → (∀ r, t = .inl r → fr mA_Y0_like mF_Y0_like mL_Y0_like S r.2) ∧ (∀ u, t = .inr u → fr mA_Y0_like mF_Y0_like mL_Y0_like S u) := by
  intro n
  induction n with
  | zero =>
    intro _ _ h
    cases h
  | succ n ih =>
    intro S x5 h
    rw [fY0_like_L58] at h
    have hf : fr mA_Y0_like mF_Y0_like mL_Y0_like S S := fr_refl
    rcases it_or h with ⟨_, h⟩ | ⟨_, h⟩
    · cases h
      exact ⟨fun r e => (by cases e), fun u e => (by cases e; exact hf)⟩
    · obtain ⟨t10, e11, h⟩ := bd h
      obtain ⟨g12, h⟩ := gd_some h
      obtain ⟨s13, e14, h⟩ := nx_some h
      have hf := fr_trans hf (fr_eq e14 (fr_pa (by decide)))
      obtain ⟨g15, h⟩ := gd_some h
      obtain ⟨t16, e17, h⟩ := bd h
      rcases it_or h with ⟨_, h⟩ | ⟨_, h⟩
      · obtain ⟨t18, e19, h⟩ := bd h
        have hf := fr_trans hf (fr_mono (by decide) (by decide) (by decide) (frY0_meets e19))
        cases h
        exact ⟨fun r e => (by cases e; exact hf), fun u e => (by cases e)⟩
      · have hi := ih _ _ h
        exact ⟨fun r e => fr_trans hf (hi.1 r e), fun u e => fr_trans hf (hi.2 u e)⟩
set_option maxRecDepth 100000 in
set_option maxHeartbeats 1000000 in
theorem frY0_like_L181 {N : Nat} {x2 : Int32} {x5 : Int32} {t : St} : ∀ (n : Nat) (S : St) (x7 : Int32), fY0_like_L181 N x2 x5 n S x7 = some t → fr mA_Y0_like mF_Y0_like mL_Y0_like S t := by
  intro n
  induction n with
  | zero =>
    intro _ _ h
    cases h
  | succ n ih =>
    intro S x7 h
    rw [fY0_like_L181] at h
    have hf : fr mA_Y0_like mF_Y0_like mL_Y0_like S S := fr_refl
    rcases it_or h with ⟨_, h⟩ | ⟨_, h⟩
    · cases h
      exact hf
    · obtain ⟨g29, h⟩ := gd_some h
      obtain ⟨g30, h⟩ := gd_some h
      obtain ⟨s31, e32, h⟩ := nx_some h
      have hf := fr_trans hf (fr_eq e32 (fr_pa (by decide)))
      exact fr_trans hf (ih _ _ h)
set_option maxRecDepth 100000 in
set_option maxHeartbeats 1000000 in
theorem frY0_like_L114 {N : Nat} {x2 : Int32} {t : St × Int32} : ∀ (n : Nat) (S : St) (x5 : Int32), fY0_like_L114 N x2 n S x5 = some t → fr mA_Y0_like mF_Y0_like mL_Y0_like S t.1 := by
  intro n
  induction n with
  | zero =>
    intro _ _ h
    cases h
  | succ n ih =>
    intro S x5 h
    rw [fY0_like_L114] at h
    have hf : fr mA_Y0_like mF_Y0_like mL_Y0_like S S := fr_refl
    obtain ⟨t25, e26, h⟩ := bd h
    have hf := fr_trans hf (fr_mono (by decide) (by decide) (by decide) (frY0_nextFilling e26))
    rcases it_or h with ⟨_, h⟩ | ⟨_, h⟩
    · cases h
      exact hf
    · obtain ⟨t27, e28, h⟩ := bd h
      obtain ⟨t35, e36, h⟩ := bd h
      have hf : fr mA_Y0_like mF_Y0_like mL_Y0_like S t35.1 := by
        clear h
        have h := e36
        rcases it_or h with ⟨_, h⟩ | ⟨_, h⟩
        · cases h
          exact hf
        · obtain ⟨t33, e34, h⟩ := bd h
          have hf := fr_trans hf (frY0_like_L181 _ _ _ e34)
          cases h
          exact hf
      exact fr_trans hf (ih _ _ h)
set_option maxRecDepth 100000 in
set_option maxHeartbeats 1000000 in
theorem frY0_like_L232 {N : Nat} {x2 : Int32} {x5 : Int32} {t : St} : ∀ (n : Nat) (S : St) (x6 : Int32), fY0_like_L232 N x2 x5 n S x6 = some t → fr mA_Y0_like mF_Y0_like mL_Y0_like S t := by
  intro n
  induction n with
  | zero =>
    intro _ _ h
    cases h
  | succ n ih =>
    intro S x6 h
    rw [fY0_like_L232] at h
    have hf : fr mA_Y0_like mF_Y0_like mL_Y0_like S S := fr_refl
    rcases it_or h with ⟨_, h⟩ | ⟨_, h⟩
    · cases h
      exact hf
    · obtain ⟨g39, h⟩ := gd_some h
      obtain ⟨g40, h⟩ := gd_some h
      obtain ⟨s41, e42, h⟩ := nx_some h
      have hf := fr_trans hf (fr_eq e42 (fr_pa (by decide)))
      exact fr_trans hf (ih _ _ h)
set_option maxRecDepth 100000 in
set_option maxHeartbeats 1000000 in
theorem frY0_like {N : Nat} {S : St} {x1 : Int32} {x2 : Int32} {x3 : Int32} {v : Int32} {S' : St} (h : fY0_like N S x1 x2 x3 = some (v, S')) : fr mA_Y0_like mF_Y0_like mL_Y0_like S S' := by
  unfold fY0_like at h
  have hf : fr mA_Y0_like mF_Y0_like mL_Y0_like S S := fr_refl
  obtain ⟨t1, e2, h⟩ := bd h
  rcases it_or h with ⟨_, h⟩ | ⟨_, h⟩
  · cases h
    exact hf
  · obtain ⟨t3, e4, h⟩ := bd h
    rcases it_or h with ⟨_, h⟩ | ⟨_, h⟩
    · cases h
      exact hf
    · obtain ⟨t5, e6, h⟩ := bd h
      rcases it_or h with ⟨_, h⟩ | ⟨_, h⟩
      · cases h
        exact hf
      · obtain ⟨t7, e8, h⟩ := bd h
        have hf := fr_trans hf (fr_mono (by decide) (by decide) (by decide) (frY0_askedRow e8))
        rcases it_or h with ⟨_, h⟩ | ⟨_, h⟩
        · obtain ⟨g9, h⟩ := gd_some h
          rcases it_or h with ⟨_, h⟩ | ⟨_, h⟩
          · obtain ⟨t20, e21, h⟩ := bd h
            have hi := frY0_like_L58 _ _ _ e21
            cases t20 with
            | inl r =>
              have h := sm_l h
              cases h
              exact fr_trans hf (hi.1 _ rfl)
            | inr u22 =>
              have h := sm_r h
              have hf := fr_trans hf (hi.2 _ rfl)
              obtain ⟨t23, e24, h⟩ := bd h
              have hf := fr_trans hf (fr_mono (by decide) (by decide) (by decide) (frY0_begin e24))
              obtain ⟨t37, e38, h⟩ := bd h
              have hf := fr_trans hf (frY0_like_L114 _ _ _ e38)
              rcases it_or h with ⟨_, h⟩ | ⟨_, h⟩
              · rcases it_or h with ⟨_, h⟩ | ⟨_, h⟩
                · obtain ⟨t43, e44, h⟩ := bd h
                  have hf := fr_trans hf (frY0_like_L232 _ _ _ e44)
                  obtain ⟨t45, e46, h⟩ := bd h
                  have hf := fr_trans hf (fr_mono (by decide) (by decide) (by decide) (frY0_comeTo e46))
                  cases h
                  exact hf
                · cases h
                  exact hf
              · cases h
                exact hf
          · obtain ⟨t47, e48, h⟩ := bd h
            have hf := fr_trans hf (fr_mono (by decide) (by decide) (by decide) (frY0_meets e48))
            cases h
            exact hf
        · cases h
          exact hf
abbrev mA_Y0_wrong : List Nat := [17, 18, 19, 20, 21, 22]
abbrev mF_Y0_wrong : List (Nat × Nat) := [(0, 27), (0, 31), (0, 32), (0, 33), (0, 34), (0, 35), (0, 36)]
abbrev mL_Y0_wrong : List (Nat × Nat) := []
set_option maxRecDepth 100000 in
set_option maxHeartbeats 1000000 in
theorem frY0_wrong_L21 {N : Nat} {x1 : Int32} {x2 : Int32} {t : (Int32 × St) ⊕ (St)} : ∀ (n : Nat) (S : St) (x3 : Int32), fY0_wrong_L21 N x1 x2 n S x3 = some t → (∀ r, t = .inl r → fr mA_Y0_wrong mF_Y0_wrong mL_Y0_wrong S r.2) ∧ (∀ u, t = .inr u → fr mA_Y0_wrong mF_Y0_wrong mL_Y0_wrong S u) := by
  intro n
  induction n with
  | zero =>
    intro _ _ h
    cases h
  | succ n ih =>
    intro S x3 h
    rw [fY0_wrong_L21] at h
    have hf : fr mA_Y0_wrong mF_Y0_wrong mL_Y0_wrong S S := fr_refl
    rcases it_or h with ⟨_, h⟩ | ⟨_, h⟩
    · cases h
      exact ⟨fun r e => (by cases e), fun u e => (by cases e; exact hf)⟩
    · obtain ⟨t3, e4, h⟩ := bd h
      rcases it_or h with ⟨_, h⟩ | ⟨_, h⟩
      · obtain ⟨t5, e6, h⟩ := bd h
        have hf := fr_trans hf (fr_mono (by decide) (by decide) (by decide) (frY0_begin e6))
        obtain ⟨t7, e8, h⟩ := bd h
        have hf := fr_trans hf (fr_mono (by decide) (by decide) (by decide) (frY0_nextFilling e8))
        rcases it_or h with ⟨_, h⟩ | ⟨_, h⟩
        · rcases it_or h with ⟨_, h⟩ | ⟨_, h⟩
          · have hi := ih _ _ h
            exact ⟨fun r e => fr_trans hf (hi.1 r e), fun u e => fr_trans hf (hi.2 u e)⟩
          · cases h
            exact ⟨fun r e => (by cases e; exact hf), fun u e => (by cases e)⟩
        · cases h
          exact ⟨fun r e => (by cases e; exact hf), fun u e => (by cases e)⟩
      · have hi := ih _ _ h
        exact ⟨fun r e => fr_trans hf (hi.1 r e), fun u e => fr_trans hf (hi.2 u e)⟩
set_option maxRecDepth 100000 in
set_option maxHeartbeats 1000000 in
theorem frY0_wrong_L11 {N : Nat} {x1 : Int32} {t : (Int32 × St) ⊕ (St)} : ∀ (n : Nat) (S : St) (x2 : Int32), fY0_wrong_L11 N x1 n S x2 = some t → (∀ r, t = .inl r → fr mA_Y0_wrong mF_Y0_wrong mL_Y0_wrong S r.2) ∧ (∀ u, t = .inr u → fr mA_Y0_wrong mF_Y0_wrong mL_Y0_wrong S u) := by
  intro n
  induction n with
  | zero =>
    intro _ _ h
    cases h
  | succ n ih =>
    intro S x2 h
    rw [fY0_wrong_L11] at h
    have hf : fr mA_Y0_wrong mF_Y0_wrong mL_Y0_wrong S S := fr_refl
    rcases it_or h with ⟨_, h⟩ | ⟨_, h⟩
    · cases h
      exact ⟨fun r e => (by cases e), fun u e => (by cases e; exact hf)⟩
    · obtain ⟨t9, e10, h⟩ := bd h
      have hi := frY0_wrong_L21 _ _ _ e10
      cases t9 with
      | inl r =>
        have h := sm2_l h
        cases h
        exact ⟨fun r e => (by cases e; exact fr_trans hf (hi.1 _ rfl)), fun u e => (by cases e)⟩
      | inr u11 =>
        have h := sm2_r h
        have hf := fr_trans hf (hi.2 _ rfl)
        have hi := ih _ _ h
        exact ⟨fun r e => fr_trans hf (hi.1 r e), fun u e => fr_trans hf (hi.2 u e)⟩
set_option maxRecDepth 100000 in
set_option maxHeartbeats 1000000 in
theorem frY0_wrong {N : Nat} {S : St} {x1 : Int32} {v : Int32} {S' : St} (h : fY0_wrong N S x1 = some (v, S')) : fr mA_Y0_wrong mF_Y0_wrong mL_Y0_wrong S S' := by
  unfold fY0_wrong at h
  have hf : fr mA_Y0_wrong mF_Y0_wrong mL_Y0_wrong S S := fr_refl
  obtain ⟨t1, e2, h⟩ := bd h
  rcases it_or h with ⟨_, h⟩ | ⟨_, h⟩
  · cases h
    exact hf
  · obtain ⟨t12, e13, h⟩ := bd h
    have hi := frY0_wrong_L11 _ _ _ e13
    cases t12 with
    | inl r =>
      have h := sm_l h
      cases h
      exact fr_trans hf (hi.1 _ rfl)
    | inr u14 =>
      have h := sm_r h
      have hf := fr_trans hf (hi.2 _ rfl)
      cases h
      exact hf
abbrev mA_Y0_judge : List Nat := [1, 22]
abbrev mF_Y0_judge : List (Nat × Nat) := [(0, 0)]
abbrev mL_Y0_judge : List (Nat × Nat) := []
set_option maxRecDepth 100000 in
set_option maxHeartbeats 1000000 in
theorem frY0_judge_L31 {N : Nat} {S : St} {x1 : Int32} {t : (Int32 × St) ⊕ (Unit)} : ∀ (n : Nat) (x3 : Int32), fY0_judge_L31 N S x1 n x3 = some t → (∀ r, t = .inl r → fr mA_Y0_judge mF_Y0_judge mL_Y0_judge S r.2) ∧ (∀ u, t = .inr u → fr mA_Y0_judge mF_Y0_judge mL_Y0_judge S S) := by
  intro n
  induction n with
  | zero =>
    intro _ h
    cases h
  | succ n ih =>
    intro x3 h
    rw [fY0_judge_L31] at h
    have hf : fr mA_Y0_judge mF_Y0_judge mL_Y0_judge S S := fr_refl
    rcases it_or h with ⟨_, h⟩ | ⟨_, h⟩
    · cases h
      exact ⟨fun r e => (by cases e), fun u e => (by cases e; exact hf)⟩
    · obtain ⟨t4, e5, h⟩ := bd h
      rcases it_or h with ⟨_, h⟩ | ⟨_, h⟩
      · cases h
        exact ⟨fun r e => (by cases e; exact hf), fun u e => (by cases e)⟩
      · exact ih _ h
set_option maxRecDepth 100000 in
set_option maxHeartbeats 1000000 in
theorem frY0_judge_L59 {N : Nat} {x1 : Int32} {t : St} : ∀ (n : Nat) (S : St) (x3 : Int32), fY0_judge_L59 N x1 n S x3 = some t → fr mA_Y0_judge mF_Y0_judge mL_Y0_judge S t := by
  intro n
  induction n with
  | zero =>
    intro _ _ h
    cases h
  | succ n ih =>
    intro S x3 h
    rw [fY0_judge_L59] at h
    have hf : fr mA_Y0_judge mF_Y0_judge mL_Y0_judge S S := fr_refl
    rcases it_or h with ⟨_, h⟩ | ⟨_, h⟩
    · cases h
      exact hf
    · obtain ⟨t9, e10, h⟩ := bd h
      obtain ⟨g11, h⟩ := gd_some h
      obtain ⟨s12, e13, h⟩ := nx_some h
      have hf := fr_trans hf (fr_eq e13 (fr_pa (by decide)))
      exact fr_trans hf (ih _ _ h)
set_option maxRecDepth 100000 in
set_option maxHeartbeats 1000000 in
theorem frY0_judge_L85 {N : Nat} {S : St}  {t : (Int32 × St) ⊕ (Unit)} : ∀ (n : Nat) (x3 : Int32), fY0_judge_L85 N S  n x3 = some t → (∀ r, t = .inl r → fr mA_Y0_judge mF_Y0_judge mL_Y0_judge S r.2) ∧ (∀ u, t = .inr u → fr mA_Y0_judge mF_Y0_judge mL_Y0_judge S S) := by
  intro n
  induction n with
  | zero =>
    intro _ h
    cases h
  | succ n ih =>
    intro x3 h
    rw [fY0_judge_L85] at h
    have hf : fr mA_Y0_judge mF_Y0_judge mL_Y0_judge S S := fr_refl
    rcases it_or h with ⟨_, h⟩ | ⟨_, h⟩
    · cases h
      exact ⟨fun r e => (by cases e), fun u e => (by cases e; exact hf)⟩
    · obtain ⟨t16, e17, h⟩ := bd h
      obtain ⟨g18, h⟩ := gd_some h
      rcases it_or h with ⟨_, h⟩ | ⟨_, h⟩
      · exact ih _ h
      · cases h
        exact ⟨fun r e => (by cases e; exact hf), fun u e => (by cases e)⟩
set_option maxRecDepth 100000 in
set_option maxHeartbeats 1000000 in
theorem frY0_judge {N : Nat} {S : St} {x1 : Int32} {v : Int32} {S' : St} (h : fY0_judge N S x1 = some (v, S')) : fr mA_Y0_judge mF_Y0_judge mL_Y0_judge S S' := by
  unfold fY0_judge at h
  have hf : fr mA_Y0_judge mF_Y0_judge mL_Y0_judge S S := fr_refl
  obtain ⟨t1, e2, h⟩ := bd h
  have hf := fr_trans hf (fr_mono (by decide) (by decide) (by decide) (frY0_askedRow e2))
  rcases it_or h with ⟨_, h⟩ | ⟨_, h⟩
  · obtain ⟨g3, h⟩ := gd_some h
    rcases it_or h with ⟨_, h⟩ | ⟨_, h⟩
    · obtain ⟨t6, e7, h⟩ := bd h
      have hi := frY0_judge_L31 _ _ e7
      cases t6 with
      | inl r =>
        have h := sm_l h
        cases h
        exact fr_trans hf (hi.1 _ rfl)
      | inr u8 =>
        have h := sm_r h
        have hf := fr_trans hf (hi.2 _ rfl)
        obtain ⟨t14, e15, h⟩ := bd h
        have hf := fr_trans hf (frY0_judge_L59 _ _ _ e15)
        obtain ⟨t19, e20, h⟩ := bd h
        have hi := frY0_judge_L85 _ _ e20
        cases t19 with
        | inl r =>
          have h := sm_l h
          cases h
          exact fr_trans hf (hi.1 _ rfl)
        | inr u21 =>
          have h := sm_r h
          have hf := fr_trans hf (hi.2 _ rfl)
          cases h
          exact hf
    · obtain ⟨t22, e23, h⟩ := bd h
      have hf := fr_trans hf (fr_mono (by decide) (by decide) (by decide) (frY0_meets e23))
      cases h
      exact hf
  · cases h
    exact hf
abbrev mA_Y0_orders : List Nat := [1]
abbrev mF_Y0_orders : List (Nat × Nat) := [(0, 0), (0, 2)]
abbrev mL_Y0_orders : List (Nat × Nat) := []
set_option maxRecDepth 100000 in
set_option maxHeartbeats 1000000 in
theorem frY0_orders {N : Nat} {S : St} {x1 : Int32} {v : Int32} {S' : St} (h : fY0_orders N S x1 = some (v, S')) : fr mA_Y0_orders mF_Y0_orders mL_Y0_orders S S' := by
  unfold fY0_orders at h
  have hf : fr mA_Y0_orders mF_Y0_orders mL_Y0_orders S S := fr_refl
  obtain ⟨t1, e2, h⟩ := bd h
  have hf := fr_trans hf (fr_mono (by decide) (by decide) (by decide) (frY0_askedRow e2))
  rcases it_or h with ⟨_, h⟩ | ⟨_, h⟩
  · obtain ⟨g3, h⟩ := gd_some h
    rcases it_or h with ⟨_, h⟩ | ⟨_, h⟩
    · obtain ⟨g6, h⟩ := gd_some h
      obtain ⟨t7, e8, h⟩ := bd h
      rcases it_or h with ⟨_, h⟩ | ⟨_, h⟩
      · obtain ⟨t21, e22, h⟩ := bd h
        have hf := fr_trans hf (fr_mono (by decide) (by decide) (by decide) (frY0_meets e22))
        cases h
        exact hf
      · obtain ⟨t9, e10, h⟩ := bd h
        rcases it_or h with ⟨_, h⟩ | ⟨_, h⟩
        · obtain ⟨t19, e20, h⟩ := bd h
          have hf := fr_trans hf (fr_mono (by decide) (by decide) (by decide) (frY0_meets e20))
          cases h
          exact hf
        · obtain ⟨g11, h⟩ := gd_some h
          obtain ⟨_, _, h⟩ := nx_some h
          obtain ⟨t13, e14, h⟩ := bd h
          obtain ⟨t15, e16, h⟩ := bd h
          obtain ⟨t17, e18, h⟩ := bd h
          have hf := fr_trans hf (fr_mono (by decide) (by decide) (by decide) (frY0_ask e18))
          cases h
          exact hf
    · obtain ⟨t4, e5, h⟩ := bd h
      have hf := fr_trans hf (fr_mono (by decide) (by decide) (by decide) (frY0_meets e5))
      cases h
      exact hf
  · cases h
    exact hf
abbrev mA_Y0_waysWith : List Nat := [26, 27]
abbrev mF_Y0_waysWith : List (Nat × Nat) := []
abbrev mL_Y0_waysWith : List (Nat × Nat) := []
set_option maxRecDepth 100000 in
set_option maxHeartbeats 1000000 in
theorem frY0_waysWith_L2 {N : Nat} {x1 : Int32} {x2 : Int32} {t : St} : ∀ (n : Nat) (S : St) (x3 : Int32), fY0_waysWith_L2 N x1 x2 n S x3 = some t → fr mA_Y0_waysWith mF_Y0_waysWith mL_Y0_waysWith S t := by
  intro n
  induction n with
  | zero =>
    intro _ _ h
    cases h
  | succ n ih =>
    intro S x3 h
    rw [fY0_waysWith_L2] at h
    have hf : fr mA_Y0_waysWith mF_Y0_waysWith mL_Y0_waysWith S S := fr_refl
    rcases it_or h with ⟨_, h⟩ | ⟨_, h⟩
    · cases h
      exact hf
    · obtain ⟨t1, e2, h⟩ := bd h
      obtain ⟨g3, h⟩ := gd_some h
      obtain ⟨s4, e5, h⟩ := nx_some h
      have hf := fr_trans hf (fr_eq e5 (fr_pa (by decide)))
      exact fr_trans hf (ih _ _ h)
set_option maxRecDepth 100000 in
set_option maxHeartbeats 1000000 in
theorem frY0_waysWith_L54 {N : Nat} {x1 : Int32} {x2 : Int32} {x3 : Int32} {t : St} : ∀ (n : Nat) (S : St) (x4 : Int32), fY0_waysWith_L54 N x1 x2 x3 n S x4 = some t → fr mA_Y0_waysWith mF_Y0_waysWith mL_Y0_waysWith S t := by
  intro n
  induction n with
  | zero =>
    intro _ _ h
    cases h
  | succ n ih =>
    intro S x4 h
    rw [fY0_waysWith_L54] at h
    have hf : fr mA_Y0_waysWith mF_Y0_waysWith mL_Y0_waysWith S S := fr_refl
    rcases it_or h with ⟨_, h⟩ | ⟨_, h⟩
    · cases h
      exact hf
    · obtain ⟨g9, h⟩ := gd_some h
      obtain ⟨s10, e11, h⟩ := nx_some h
      have hf := fr_trans hf (fr_eq e11 (fr_pa (by decide)))
      exact fr_trans hf (ih _ _ h)
set_option maxRecDepth 100000 in
set_option maxHeartbeats 1000000 in
theorem frY0_waysWith_L90 {N : Nat} {x1 : Int32} {x2 : Int32} {x3 : Int32} {x4 : Int32} {t : St} : ∀ (n : Nat) (S : St) (x5 : Int32), fY0_waysWith_L90 N x1 x2 x3 x4 n S x5 = some t → fr mA_Y0_waysWith mF_Y0_waysWith mL_Y0_waysWith S t := by
  intro n
  induction n with
  | zero =>
    intro _ _ h
    cases h
  | succ n ih =>
    intro S x5 h
    rw [fY0_waysWith_L90] at h
    have hf : fr mA_Y0_waysWith mF_Y0_waysWith mL_Y0_waysWith S S := fr_refl
    rcases it_or h with ⟨_, h⟩ | ⟨_, h⟩
    · cases h
      exact hf
    · obtain ⟨g14, h⟩ := gd_some h
      rcases it_or h with ⟨_, h⟩ | ⟨_, h⟩
      · cases h
        exact hf
      · obtain ⟨t15, e16, h⟩ := bd h
        obtain ⟨t20, e21, h⟩ := bd h
        obtain ⟨g22, h⟩ := gd_some h
        obtain ⟨t24, e25, h⟩ := bd h
        obtain ⟨g26, h⟩ := gd_some h
        obtain ⟨s27, e28, h⟩ := nx_some h
        have hf := fr_trans hf (fr_eq e28 (fr_pa (by decide)))
        exact fr_trans hf (ih _ _ h)
set_option maxRecDepth 100000 in
set_option maxHeartbeats 1000000 in
theorem frY0_waysWith_L79 {N : Nat} {x1 : Int32} {x2 : Int32} {x3 : Int32} {t : St} : ∀ (n : Nat) (S : St) (x4 : Int32), fY0_waysWith_L79 N x1 x2 x3 n S x4 = some t → fr mA_Y0_waysWith mF_Y0_waysWith mL_Y0_waysWith S t := by
  intro n
  induction n with
  | zero =>
    intro _ _ h
    cases h
  | succ n ih =>
    intro S x4 h
    rw [fY0_waysWith_L79] at h
    have hf : fr mA_Y0_waysWith mF_Y0_waysWith mL_Y0_waysWith S S := fr_refl
    rcases it_or h with ⟨_, h⟩ | ⟨_, h⟩
    · cases h
      exact hf
    · obtain ⟨t29, e30, h⟩ := bd h
      have hf := fr_trans hf (frY0_waysWith_L90 _ _ _ e30)
      exact fr_trans hf (ih _ _ h)
set_option maxRecDepth 100000 in
set_option maxHeartbeats 1000000 in
theorem frY0_waysWith_L208 {N : Nat} {x1 : Int32} {x2 : Int32} {x3 : Int32} {t : St} : ∀ (n : Nat) (S : St) (x4 : Int32), fY0_waysWith_L208 N x1 x2 x3 n S x4 = some t → fr mA_Y0_waysWith mF_Y0_waysWith mL_Y0_waysWith S t := by
  intro n
  induction n with
  | zero =>
    intro _ _ h
    cases h
  | succ n ih =>
    intro S x4 h
    rw [fY0_waysWith_L208] at h
    have hf : fr mA_Y0_waysWith mF_Y0_waysWith mL_Y0_waysWith S S := fr_refl
    rcases it_or h with ⟨_, h⟩ | ⟨_, h⟩
    · cases h
      exact hf
    · obtain ⟨g33, h⟩ := gd_some h
      obtain ⟨g34, h⟩ := gd_some h
      obtain ⟨s35, e36, h⟩ := nx_some h
      have hf := fr_trans hf (fr_eq e36 (fr_pa (by decide)))
      exact fr_trans hf (ih _ _ h)
set_option maxRecDepth 100000 in
set_option maxHeartbeats 1000000 in
theorem frY0_waysWith_L32 {N : Nat} {x1 : Int32} {x2 : Int32} {t : St} : ∀ (n : Nat) (S : St) (x3 : Int32), fY0_waysWith_L32 N x1 x2 n S x3 = some t → fr mA_Y0_waysWith mF_Y0_waysWith mL_Y0_waysWith S t := by
  intro n
  induction n with
  | zero =>
    intro _ _ h
    cases h
  | succ n ih =>
    intro S x3 h
    rw [fY0_waysWith_L32] at h
    have hf : fr mA_Y0_waysWith mF_Y0_waysWith mL_Y0_waysWith S S := fr_refl
    rcases it_or h with ⟨_, h⟩ | ⟨_, h⟩
    · cases h
      exact hf
    · obtain ⟨g8, h⟩ := gd_some h
      obtain ⟨t39, e40, h⟩ := bd h
      have hf : fr mA_Y0_waysWith mF_Y0_waysWith mL_Y0_waysWith S t39 := by
        clear h
        have h := e40
        rcases it_or h with ⟨_, h⟩ | ⟨_, h⟩
        · obtain ⟨t12, e13, h⟩ := bd h
          have hf := fr_trans hf (frY0_waysWith_L54 _ _ _ e13)
          obtain ⟨t31, e32, h⟩ := bd h
          have hf := fr_trans hf (frY0_waysWith_L79 _ _ _ e32)
          obtain ⟨t37, e38, h⟩ := bd h
          have hf := fr_trans hf (frY0_waysWith_L208 _ _ _ e38)
          cases h
          exact hf
        · cases h
          exact hf
      exact fr_trans hf (ih _ _ h)
set_option maxRecDepth 100000 in
set_option maxHeartbeats 1000000 in
theorem frY0_waysWith {N : Nat} {S : St} {x1 : Int32} {x2 : Int32} {v : Int32} {S' : St} (h : fY0_waysWith N S x1 x2 = some (v, S')) : fr mA_Y0_waysWith mF_Y0_waysWith mL_Y0_waysWith S S' := by
  unfold fY0_waysWith at h
  have hf : fr mA_Y0_waysWith mF_Y0_waysWith mL_Y0_waysWith S S := fr_refl
  obtain ⟨t6, e7, h⟩ := bd h
  have hf := fr_trans hf (frY0_waysWith_L2 _ _ _ e7)
  obtain ⟨t41, e42, h⟩ := bd h
  have hf := fr_trans hf (frY0_waysWith_L32 _ _ _ e42)
  obtain ⟨t43, e44, h⟩ := bd h
  cases h
  exact hf
abbrev mA_Y0_matches : List Nat := [17, 18, 19, 26, 27]
abbrev mF_Y0_matches : List (Nat × Nat) := [(0, 2)]
abbrev mL_Y0_matches : List (Nat × Nat) := []
set_option maxRecDepth 100000 in
set_option maxHeartbeats 1000000 in
theorem frY0_matches_L30 {N : Nat} {x1 : Int32} {x3 : Int32} {t : St × Int32} : ∀ (n : Nat) (S : St) (x2 : Int32) (x4 : Int32), fY0_matches_L30 N x1 x3 n S x2 x4 = some t → fr mA_Y0_matches mF_Y0_matches mL_Y0_matches S t.1 := by
  intro n
  induction n with
  | zero =>
    intro _ _ _ h
    cases h
  | succ n ih =>
    intro S x2 x4 h
    rw [fY0_matches_L30] at h
    have hf : fr mA_Y0_matches mF_Y0_matches mL_Y0_matches S S := fr_refl
    rcases it_or h with ⟨_, h⟩ | ⟨_, h⟩
    · cases h
      exact hf
    · obtain ⟨g5, h⟩ := gd_some h
      rcases it_or h with ⟨_, h⟩ | ⟨_, h⟩
      · obtain ⟨g6, h⟩ := gd_some h
        obtain ⟨t7, e8, h⟩ := bd h
        have hf := fr_trans hf (fr_mono (by decide) (by decide) (by decide) (frY0_waysWith e8))
        obtain ⟨t9, e10, h⟩ := bd h
        exact fr_trans hf (ih _ _ _ h)
      · cases h
        exact hf
set_option maxRecDepth 100000 in
set_option maxHeartbeats 1000000 in
theorem frY0_matches_L17 {N : Nat} {x1 : Int32} {t : St × Int32} : ∀ (n : Nat) (S : St) (x2 : Int32) (x3 : Int32), fY0_matches_L17 N x1 n S x2 x3 = some t → fr mA_Y0_matches mF_Y0_matches mL_Y0_matches S t.1 := by
  intro n
  induction n with
  | zero =>
    intro _ _ _ h
    cases h
  | succ n ih =>
    intro S x2 x3 h
    rw [fY0_matches_L17] at h
    have hf : fr mA_Y0_matches mF_Y0_matches mL_Y0_matches S S := fr_refl
    rcases it_or h with ⟨_, h⟩ | ⟨_, h⟩
    · cases h
      exact hf
    · rcases it_or h with ⟨_, h⟩ | ⟨_, h⟩
      · cases h
        exact hf
      · obtain ⟨t11, e12, h⟩ := bd h
        have hf := fr_trans hf (frY0_matches_L30 _ _ _ _ e12)
        exact fr_trans hf (ih _ _ _ h)
set_option maxRecDepth 100000 in
set_option maxHeartbeats 1000000 in
theorem frY0_matches {N : Nat} {S : St}  {v : Int32} {S' : St} (h : fY0_matches N S = some (v, S')) : fr mA_Y0_matches mF_Y0_matches mL_Y0_matches S S' := by
  unfold fY0_matches at h
  have hf : fr mA_Y0_matches mF_Y0_matches mL_Y0_matches S S := fr_refl
  obtain ⟨t1, e2, h⟩ := bd h
  have hf := fr_trans hf (fr_mono (by decide) (by decide) (by decide) (frY0_narrow e2))
  obtain ⟨t3, e4, h⟩ := bd h
  have hf := fr_trans hf (fr_mono (by decide) (by decide) (by decide) (frY0_waysWith e4))
  obtain ⟨t13, e14, h⟩ := bd h
  have hf := fr_trans hf (frY0_matches_L17 _ _ _ _ e14)
  obtain ⟨t15, e16, h⟩ := bd h
  have hf := fr_trans hf (fr_mono (by decide) (by decide) (by decide) (frY0_ask e16))
  cases h
  exact hf
abbrev mA_Y0_mix : List Nat := []
abbrev mF_Y0_mix : List (Nat × Nat) := []
abbrev mL_Y0_mix : List (Nat × Nat) := [(0, 43)]
set_option maxRecDepth 100000 in
set_option maxHeartbeats 1000000 in
theorem frY0_mix {S : St} {x1 : Int32} {S' : St} (h : fY0_mix S x1 = some (S')) : fr mA_Y0_mix mF_Y0_mix mL_Y0_mix S S' := by
  unfold fY0_mix at h
  have hf : fr mA_Y0_mix mF_Y0_mix mL_Y0_mix S S := fr_refl
  obtain ⟨s1, e2, h⟩ := nx_some h
  have hf := fr_trans hf (fr_eq e2 (fr_p2 (by decide)))
  cases h
  exact hf
abbrev mA_Y0_digest : List Nat := []
abbrev mF_Y0_digest : List (Nat × Nat) := []
abbrev mL_Y0_digest : List (Nat × Nat) := [(0, 43)]
set_option maxRecDepth 100000 in
set_option maxHeartbeats 1000000 in
theorem frY0_digest_L9 {N : Nat}  {t : St} : ∀ (n : Nat) (S : St) (x1 : Int32), fY0_digest_L9 N  n S x1 = some t → fr mA_Y0_digest mF_Y0_digest mL_Y0_digest S t := by
  intro n
  induction n with
  | zero =>
    intro _ _ h
    cases h
  | succ n ih =>
    intro S x1 h
    rw [fY0_digest_L9] at h
    have hf : fr mA_Y0_digest mF_Y0_digest mL_Y0_digest S S := fr_refl
    rcases it_or h with ⟨_, h⟩ | ⟨_, h⟩
    · cases h
      exact hf
    · obtain ⟨t3, e4, h⟩ := bd h
      obtain ⟨t5, e6, h⟩ := bd h
      have hf := fr_trans hf (fr_mono (by decide) (by decide) (by decide) (frY0_mix e6))
      exact fr_trans hf (ih _ _ h)
set_option maxRecDepth 100000 in
set_option maxHeartbeats 1000000 in
theorem frY0_digest_L31 {N : Nat}  {t : St} : ∀ (n : Nat) (S : St) (x1 : Int32), fY0_digest_L31 N  n S x1 = some t → fr mA_Y0_digest mF_Y0_digest mL_Y0_digest S t := by
  intro n
  induction n with
  | zero =>
    intro _ _ h
    cases h
  | succ n ih =>
    intro S x1 h
    rw [fY0_digest_L31] at h
    have hf : fr mA_Y0_digest mF_Y0_digest mL_Y0_digest S S := fr_refl
    rcases it_or h with ⟨_, h⟩ | ⟨_, h⟩
    · cases h
      exact hf
    · obtain ⟨t9, e10, h⟩ := bd h
      obtain ⟨t24, e25, h⟩ := bd h
      have hf : fr mA_Y0_digest mF_Y0_digest mL_Y0_digest S t24 := by
        clear h
        have h := e25
        rcases it_or h with ⟨_, h⟩ | ⟨_, h⟩
        · obtain ⟨t22, e23, h⟩ := bd h
          have hf := fr_trans hf (fr_mono (by decide) (by decide) (by decide) (frY0_mix e23))
          cases h
          exact hf
        · obtain ⟨g11, h⟩ := gd_some h
          obtain ⟨t12, e13, h⟩ := bd h
          have hf := fr_trans hf (fr_mono (by decide) (by decide) (by decide) (frY0_mix e13))
          obtain ⟨t14, e15, h⟩ := bd h
          obtain ⟨t16, e17, h⟩ := bd h
          have hf := fr_trans hf (fr_mono (by decide) (by decide) (by decide) (frY0_mix e17))
          obtain ⟨t18, e19, h⟩ := bd h
          obtain ⟨t20, e21, h⟩ := bd h
          have hf := fr_trans hf (fr_mono (by decide) (by decide) (by decide) (frY0_mix e21))
          cases h
          exact hf
      exact fr_trans hf (ih _ _ h)
set_option maxRecDepth 100000 in
set_option maxHeartbeats 1000000 in
theorem frY0_digest_L89 {N : Nat}  {t : St} : ∀ (n : Nat) (S : St) (x1 : Int32), fY0_digest_L89 N  n S x1 = some t → fr mA_Y0_digest mF_Y0_digest mL_Y0_digest S t := by
  intro n
  induction n with
  | zero =>
    intro _ _ h
    cases h
  | succ n ih =>
    intro S x1 h
    rw [fY0_digest_L89] at h
    have hf : fr mA_Y0_digest mF_Y0_digest mL_Y0_digest S S := fr_refl
    rcases it_or h with ⟨_, h⟩ | ⟨_, h⟩
    · cases h
      exact hf
    · obtain ⟨g28, h⟩ := gd_some h
      obtain ⟨t29, e30, h⟩ := bd h
      have hf := fr_trans hf (fr_mono (by decide) (by decide) (by decide) (frY0_mix e30))
      obtain ⟨g31, h⟩ := gd_some h
      obtain ⟨t32, e33, h⟩ := bd h
      have hf := fr_trans hf (fr_mono (by decide) (by decide) (by decide) (frY0_mix e33))
      obtain ⟨g34, h⟩ := gd_some h
      obtain ⟨t35, e36, h⟩ := bd h
      have hf := fr_trans hf (fr_mono (by decide) (by decide) (by decide) (frY0_mix e36))
      exact fr_trans hf (ih _ _ h)
set_option maxRecDepth 100000 in
set_option maxHeartbeats 1000000 in
theorem frY0_digest_L135 {N : Nat}  {t : St} : ∀ (n : Nat) (S : St) (x1 : Int32), fY0_digest_L135 N  n S x1 = some t → fr mA_Y0_digest mF_Y0_digest mL_Y0_digest S t := by
  intro n
  induction n with
  | zero =>
    intro _ _ h
    cases h
  | succ n ih =>
    intro S x1 h
    rw [fY0_digest_L135] at h
    have hf : fr mA_Y0_digest mF_Y0_digest mL_Y0_digest S S := fr_refl
    rcases it_or h with ⟨_, h⟩ | ⟨_, h⟩
    · cases h
      exact hf
    · obtain ⟨g39, h⟩ := gd_some h
      obtain ⟨t40, e41, h⟩ := bd h
      have hf := fr_trans hf (fr_mono (by decide) (by decide) (by decide) (frY0_mix e41))
      exact fr_trans hf (ih _ _ h)
set_option maxRecDepth 100000 in
set_option maxHeartbeats 1000000 in
theorem frY0_digest_L192 {N : Nat} {x1 : Int32} {t : St} : ∀ (n : Nat) (S : St) (x2 : Int32), fY0_digest_L192 N x1 n S x2 = some t → fr mA_Y0_digest mF_Y0_digest mL_Y0_digest S t := by
  intro n
  induction n with
  | zero =>
    intro _ _ h
    cases h
  | succ n ih =>
    intro S x2 h
    rw [fY0_digest_L192] at h
    have hf : fr mA_Y0_digest mF_Y0_digest mL_Y0_digest S S := fr_refl
    obtain ⟨g50, h⟩ := gd_some h
    rcases it_or h with ⟨_, h⟩ | ⟨_, h⟩
    · cases h
      exact hf
    · obtain ⟨t51, e52, h⟩ := bd h
      obtain ⟨t53, e54, h⟩ := bd h
      have hf := fr_trans hf (fr_mono (by decide) (by decide) (by decide) (frY0_mix e54))
      exact fr_trans hf (ih _ _ h)
set_option maxRecDepth 100000 in
set_option maxHeartbeats 1000000 in
theorem frY0_digest_L161 {N : Nat}  {t : St} : ∀ (n : Nat) (S : St) (x1 : Int32), fY0_digest_L161 N  n S x1 = some t → fr mA_Y0_digest mF_Y0_digest mL_Y0_digest S t := by
  intro n
  induction n with
  | zero =>
    intro _ _ h
    cases h
  | succ n ih =>
    intro S x1 h
    rw [fY0_digest_L161] at h
    have hf : fr mA_Y0_digest mF_Y0_digest mL_Y0_digest S S := fr_refl
    rcases it_or h with ⟨_, h⟩ | ⟨_, h⟩
    · cases h
      exact hf
    · obtain ⟨g44, h⟩ := gd_some h
      obtain ⟨t46, e47, h⟩ := bd h
      obtain ⟨t48, e49, h⟩ := bd h
      have hf := fr_trans hf (fr_mono (by decide) (by decide) (by decide) (frY0_mix e49))
      obtain ⟨t55, e56, h⟩ := bd h
      have hf := fr_trans hf (frY0_digest_L192 _ _ _ e56)
      exact fr_trans hf (ih _ _ h)
set_option maxRecDepth 100000 in
set_option maxHeartbeats 1000000 in
theorem frY0_digest_L256 {N : Nat} {x1 : Int32} {t : St} : ∀ (n : Nat) (S : St) (x2 : Int32), fY0_digest_L256 N x1 n S x2 = some t → fr mA_Y0_digest mF_Y0_digest mL_Y0_digest S t := by
  intro n
  induction n with
  | zero =>
    intro _ _ h
    cases h
  | succ n ih =>
    intro S x2 h
    rw [fY0_digest_L256] at h
    have hf : fr mA_Y0_digest mF_Y0_digest mL_Y0_digest S S := fr_refl
    obtain ⟨g65, h⟩ := gd_some h
    rcases it_or h with ⟨_, h⟩ | ⟨_, h⟩
    · cases h
      exact hf
    · obtain ⟨g66, h⟩ := gd_some h
      obtain ⟨t67, e68, h⟩ := bd h
      have hf := fr_trans hf (fr_mono (by decide) (by decide) (by decide) (frY0_mix e68))
      exact fr_trans hf (ih _ _ h)
set_option maxRecDepth 100000 in
set_option maxHeartbeats 1000000 in
theorem frY0_digest_L226 {N : Nat}  {t : St} : ∀ (n : Nat) (S : St) (x1 : Int32), fY0_digest_L226 N  n S x1 = some t → fr mA_Y0_digest mF_Y0_digest mL_Y0_digest S t := by
  intro n
  induction n with
  | zero =>
    intro _ _ h
    cases h
  | succ n ih =>
    intro S x1 h
    rw [fY0_digest_L226] at h
    have hf : fr mA_Y0_digest mF_Y0_digest mL_Y0_digest S S := fr_refl
    rcases it_or h with ⟨_, h⟩ | ⟨_, h⟩
    · cases h
      exact hf
    · obtain ⟨g59, h⟩ := gd_some h
      obtain ⟨t61, e62, h⟩ := bd h
      obtain ⟨t63, e64, h⟩ := bd h
      have hf := fr_trans hf (fr_mono (by decide) (by decide) (by decide) (frY0_mix e64))
      obtain ⟨t69, e70, h⟩ := bd h
      have hf := fr_trans hf (frY0_digest_L256 _ _ _ e70)
      exact fr_trans hf (ih _ _ h)
set_option maxRecDepth 100000 in
set_option maxHeartbeats 1000000 in
theorem frY0_digest {N : Nat} {S : St}  {v : Int64} {S' : St} (h : fY0_digest N S = some (v, S')) : fr mA_Y0_digest mF_Y0_digest mL_Y0_digest S S' := by
  unfold fY0_digest at h
  have hf : fr mA_Y0_digest mF_Y0_digest mL_Y0_digest S S := fr_refl
  obtain ⟨s1, e2, h⟩ := nx_some h
  have hf := fr_trans hf (fr_eq e2 (fr_p2 (by decide)))
  obtain ⟨t7, e8, h⟩ := bd h
  have hf := fr_trans hf (frY0_digest_L9 _ _ _ e8)
  obtain ⟨t26, e27, h⟩ := bd h
  have hf := fr_trans hf (frY0_digest_L31 _ _ _ e27)
  obtain ⟨t37, e38, h⟩ := bd h
  have hf := fr_trans hf (frY0_digest_L89 _ _ _ e38)
  obtain ⟨t42, e43, h⟩ := bd h
  have hf := fr_trans hf (frY0_digest_L135 _ _ _ e43)
  obtain ⟨t57, e58, h⟩ := bd h
  have hf := fr_trans hf (frY0_digest_L161 _ _ _ e58)
  obtain ⟨t71, e72, h⟩ := bd h
  have hf := fr_trans hf (frY0_digest_L226 _ _ _ e72)
  cases h
  exact hf
