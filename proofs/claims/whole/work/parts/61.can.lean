/-! narrowing: what can stand, boxes that are closed -/
theorem shA : ∀ c, c < 32 → ((nI c &&& 31).toBitVec.smod 32).toNat = c := by decide +kernel
theorem shB {p : Nat} (hp : p < 2 ^ 31) {c : Nat} (hc : c < 32) : (nI p >>> (nI c &&& 31)) = nI (p / 2 ^ c) := pk_shrN hp _ c (shA c hc)
theorem shb {p : Nat} (hp : p < 2 ^ 31) {c : Nat} (hc : c < 32) : (nI p >>> (nI c &&& 31)) &&& 1 = bI (p.testBit c) := by
  rw [shB hp hc, pk_andN (m := 1) (Nat.lt_of_le_of_lt (Nat.div_le_self _ _) (by omega)) 1 (by decide), Nat.testBit_eq_decide_div_mod_eq]
  rcases Nat.mod_two_eq_zero_or_one (p / 2 ^ c) with h | h
  · rw [show (p / 2 ^ c) % 2 ^ 1 = 0 from h]; rfl
  · rw [show (p / 2 ^ c) % 2 ^ 1 = 1 from h]; rfl
theorem Yhas (S : St) {p : Nat} (hp : p < 2 ^ 31) {c : Nat} (hc : c < 32) : fYs_has S (nI p) (nI c) = some (bI (p.testBit c)) := by
  unfold fYs_has
  rw [shb hp hc]
  cases p.testBit c <;> rfl
theorem ixX (c k : Nat) : nI c * 100 + nI k = nI (100 * c + k) := by
  rw [show (100 : Int32) = nI 100 from rfl, pk_mul, nI_add, Nat.mul_comm]
theorem ixY (c k : Nat) : (100 : Int32) * nI c + nI k = nI (100 * c + k) := by
  rw [show (100 : Int32) = nI 100 from rfl, pk_mul, nI_add]
theorem iI_n {z : Int} (h : 0 ≤ z) : iI z = nI z.toNat := by
  rw [iI_nat, Int.toNat_of_nonneg h]
theorem iI_0 : iI 0 = 0 := rfl
abbrev pb (B : Bk) (s c : Nat) : Bool := (sp B s).testBit c
abbrev lb (B : Bk) (s c : Nat) : Bool := (sl B s).testBit c
/-- a cell's part in the least that a sum can make (a: least, b: greatest); the other way round in the greatest -/
def tl (B : Bk) (s : Nat) (a b : Nat → Int) (c : Nat) : Int := if thr B c = true then (if pb B s c = true then a c else if lb B s c = true then -(b c) else 0) else 0
def mkA (B : Bk) (s : Nat) (a b : Nat → Int) : Int := fb_si (tl B s a b) 12
def mkW (B : Bk) (s w : Nat) (a b : Nat → Int) : Int := fb_si (fun d => if d = w then 0 else tl B s a b d) 12
def cs (B : Bk) (s : Nat) (lo hi : Nat → Int) (c : Nat) (v : Int) : Prop := mkW B s c lo hi ≤ tt B s - (if pb B s c = true then v else -v) ∧ tt B s - (if pb B s c = true then v else -v) ≤ mkW B s c hi lo
def canP (B : Bk) (out : Nat) (lo hi : Nat → Int) (c : Nat) (v : Int) : Prop :=
  (∀ s, s < sn B → out.testBit s = false → (pb B s c || lb B s c) = true → cs B s lo hi c v) ∧
  (kd B c = 2 → lo (ka B c) * lo (kb B c) ≤ v ∧ v ≤ hi (ka B c) * hi (kb B c)) ∧
  (kd B c = 4 → lo (ka B c) < v) ∧
  (∀ t, t < 12 → kd B t = 2 → ka B t = c → v * lo (kb B t) ≤ hi t ∧ lo t ≤ v * hi (kb B t)) ∧
  (∀ t, t < 12 → kd B t = 2 → kb B t = c → v * lo (ka B t) ≤ hi t ∧ lo t ≤ v * hi (ka B t)) ∧
  (∀ t, t < 12 → kd B t = 4 → ka B t = c → v < hi t)
abbrev alz (B : Bk) (c : Nat) (z : Int) : Bool := alw B c z.toNat
def clo (B : Bk) (out : Nat) (gl gh : Nat → Int) : Prop := ∀ c, c < 12 → thr B c = true → 0 ≤ gl c ∧ gl c ≤ gh c ∧ gh c ≤ 99 ∧ alz B c (gl c) = true ∧ alz B c (gh c) = true ∧ canP B out gl gh c (gl c) ∧ canP B out gl gh c (gh c)
def nmd (B : Bk) : Prop := ∀ t, t < 12 → (kd B t = 2 → thr B (ka B t) = true ∧ thr B (kb B t) = true) ∧ (kd B t = 4 → thr B (ka B t) = true)
theorem al_nm {B : Bk} {c v : Nat} (h : alw B c v = true) : (kd B c = 2 → thr B (ka B c) = true ∧ thr B (kb B c) = true) ∧ (kd B c = 4 → thr B (ka B c) = true) := by
  refine ⟨fun k => ?_, fun k => ?_⟩
  · simp only [alw, k] at h
    simpa using h
  · simp only [alw, k] at h
    simpa using h
theorem thr_k {B : Bk} {c k : Nat} (h : kd B c = k) (hk : k < 6) : thr B c = true := by rw [thr_t]; omega
theorem clo_nm {B : Bk} {out : Nat} {gl gh : Nat → Int} (h : clo B out gl gh) : nmd B := fun t ht => by
  refine ⟨fun k => ?_, fun k => ?_⟩
  · exact (al_nm (h t ht (thr_k k (by decide))).2.2.2.1).1 k
  · exact (al_nm (h t ht (thr_k k (by decide))).2.2.2.1).2 k
/-- one box in another -/
def ins (B : Bk) (gl gh lo hi : Nat → Int) : Prop := ∀ c, c < 12 → thr B c = true → lo c ≤ gl c ∧ gh c ≤ hi c
theorem si_mono {f g : Nat → Int} : ∀ {n : Nat}, (∀ k, k < n → f k ≤ g k) → fb_si f n ≤ fb_si g n
  | 0, _ => Int.le_refl _
  | n + 1, h => by
    have := si_mono (f := f) (g := g) (n := n) (fun k hk => h k (by omega))
    have := h n (by omega)
    show fb_si f n + f n ≤ fb_si g n + g n
    omega
theorem tl_mono {B : Bk} {s : Nat} {a b a' b' : Nat → Int} {c : Nat} (h : thr B c = true → a c ≤ a' c ∧ b' c ≤ b c) : tl B s a b c ≤ tl B s a' b' c := by
  unfold tl
  by_cases t : thr B c = true
  · have := h t
    rw [if_pos t, if_pos t]
    by_cases p : pb B s c = true
    · rw [if_pos p, if_pos p]; omega
    · rw [if_neg p, if_neg p]
      by_cases l : lb B s c = true
      · rw [if_pos l, if_pos l]; omega
      · rw [if_neg l, if_neg l]; omega
  · rw [if_neg t, if_neg t]; omega
theorem mkW_mono {B : Bk} {s w : Nat} {a b a' b' : Nat → Int} (h : ∀ c, c < 12 → thr B c = true → a c ≤ a' c ∧ b' c ≤ b c) : mkW B s w a b ≤ mkW B s w a' b' := si_mono (fun k hk => by
  show (if k = w then 0 else tl B s a b k) ≤ if k = w then 0 else tl B s a' b' k
  by_cases e : k = w
  · rw [if_pos e, if_pos e]; omega
  · rw [if_neg e, if_neg e]; exact tl_mono (h k hk))
theorem mul_mono {a b c d : Int} (h1 : a ≤ b) (h2 : c ≤ d) (h3 : 0 ≤ c) (h4 : 0 ≤ b) : a * c ≤ b * d :=
  Int.le_trans (Int.mul_le_mul_of_nonneg_right h1 h3) (Int.mul_le_mul_of_nonneg_left h2 h4)
/-- a wider box lets more stand -/
theorem canP_mono {B : Bk} {out : Nat} {lo hi gl gh : Nat → Int} (nm : nmd B) (i : ins B gl gh lo hi) (h0 : ∀ c, c < 12 → thr B c = true → 0 ≤ lo c ∧ gl c ≤ gh c) (ok : okB B) {c : Nat} (hc : c < 12) {v : Int} (hv : 0 ≤ v) (h : canP B out gl gh c v) : canP B out lo hi c v := by
  obtain ⟨h1, h2, h3, h4, h5, h6⟩ := h
  refine ⟨fun s hs ho hb => ?_, fun k => ?_, fun k => ?_, fun t ht k e => ?_, fun t ht k e => ?_, fun t ht k e => ?_⟩
  · have q := h1 s hs ho hb
    exact ⟨Int.le_trans (mkW_mono (fun d hd t => ⟨(i d hd t).1, (i d hd t).2⟩)) q.1, Int.le_trans q.2 (mkW_mono (fun d hd t => ⟨(i d hd t).2, (i d hd t).1⟩))⟩
  · have q := h2 k
    have o := ok_2 ok hc k
    have n := (nm c hc).1 k
    have i1 := i _ o.1 n.1
    have i2 := i _ o.2.1 n.2
    have z1 := h0 _ o.1 n.1
    have z2 := h0 _ o.2.1 n.2
    refine ⟨Int.le_trans (mul_mono i1.1 i2.1 z2.1 (by omega)) q.1, Int.le_trans q.2 (mul_mono i1.2 i2.2 (by omega) (by omega))⟩
  · have q := h3 k
    have o := ok_4 ok hc k
    have i1 := i _ o.1 ((nm c hc).2 k)
    omega
  · have q := h4 t ht k e
    have o := ok_2 ok ht k
    have n := (nm t ht).1 k
    have i1 := i _ o.2.1 n.2
    have i2 := i t ht (thr_k k (by decide))
    have m1 := Int.mul_le_mul_of_nonneg_left i1.1 hv
    have m2 := Int.mul_le_mul_of_nonneg_left i1.2 hv
    omega
  · have q := h5 t ht k e
    have o := ok_2 ok ht k
    have n := (nm t ht).1 k
    have i1 := i _ o.1 n.1
    have i2 := i t ht (thr_k k (by decide))
    have m1 := Int.mul_le_mul_of_nonneg_left i1.1 hv
    have m2 := Int.mul_le_mul_of_nonneg_left i1.2 hv
    omega
  · have q := h6 t ht k e
    have i2 := i t ht (thr_k k (by decide))
    omega
/-- what stands between two that can stand, can -/
theorem canP_mid {B : Bk} {out : Nat} {lo hi : Nat → Int} (nm : nmd B) (h0 : ∀ c, c < 12 → thr B c = true → 0 ≤ lo c ∧ 0 ≤ hi c) (ok : okB B) {c : Nat} (hc : c < 12) {u v w : Int} (h1 : u ≤ v) (h2 : v ≤ w) (hu : canP B out lo hi c u) (hw : canP B out lo hi c w) : canP B out lo hi c v := by
  refine ⟨fun s hs ho hb => ?_, fun k => ?_, fun k => ?_, fun t ht k e => ?_, fun t ht k e => ?_, fun t ht k e => ?_⟩
  · have q1 := hu.1 s hs ho hb
    have q2 := hw.1 s hs ho hb
    unfold cs at *
    by_cases p : pb B s c = true
    · rw [if_pos p] at *; omega
    · rw [if_neg p] at *; omega
  · have q1 := hu.2.1 k
    have q2 := hw.2.1 k
    omega
  · have q1 := hu.2.2.1 k
    omega
  · have q1 := hu.2.2.2.1 t ht k e
    have q2 := hw.2.2.2.1 t ht k e
    have o := ok_2 ok ht k
    have n := (nm t ht).1 k
    have z := h0 _ o.2.1 n.2
    have m1 := Int.mul_le_mul_of_nonneg_right h2 z.1
    have m2 := Int.mul_le_mul_of_nonneg_right h1 z.2
    omega
  · have q1 := hu.2.2.2.2.1 t ht k e
    have q2 := hw.2.2.2.2.1 t ht k e
    have o := ok_2 ok ht k
    have n := (nm t ht).1 k
    have z := h0 _ o.1 n.1
    have m1 := Int.mul_le_mul_of_nonneg_right h2 z.1
    have m2 := Int.mul_le_mul_of_nonneg_right h1 z.2
    omega
  · have q1 := hw.2.2.2.2.2 t ht k e
    omega
