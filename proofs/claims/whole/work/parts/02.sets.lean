/-! ===== sets below 256 by their bits ===== -/
theorem ck_hi {a i : Nat} (ha : a < 256) (hi : 8 ≤ i) : a.testBit i = false :=
  Nat.testBit_lt_two_pow (Nat.lt_of_lt_of_le ha (Nat.pow_le_pow_right (n := 2) (by decide) hi : 2 ^ 8 ≤ 2 ^ i))
theorem ck_lt {a : Nat} (h : ∀ i, 8 ≤ i → a.testBit i = false) : a < 256 := Nat.lt_pow_two_of_testBit (n := 8) a (fun i hi => h i hi)
theorem ck_b8 {a i : Nat} (ha : a < 256) (h : a.testBit i = true) : i < 8 := by
  rcases Nat.lt_or_ge i 8 with q | q
  · exact q
  · rw [ck_hi ha q] at h
    exact absurd h (by decide)
theorem ck_255 (i : Nat) : Nat.testBit 255 i = decide (i < 8) := Nat.testBit_two_pow_sub_one 8 i
theorem ck_ext {a b : Nat} (ha : a < 256) (hb : b < 256) (h : ∀ i, i < 8 → a.testBit i = b.testBit i) : a = b :=
  Nat.eq_of_testBit_eq fun i => by
    rcases Nat.lt_or_ge i 8 with hi | hi
    · exact h i hi
    · rw [ck_hi ha hi, ck_hi hb hi]
theorem ck_bool {a b : Bool} (h : a = true ↔ b = true) : a = b := by
  cases a <;> cases b <;> simp_all
theorem ck_nt {x : Bool} (h : ¬ x = true) : x = false := by
  cases x
  · rfl
  · exact absurd rfl h
theorem ck_and0 {a b : Nat} : a &&& b = 0 ↔ ∀ i, a.testBit i = true → b.testBit i = false := by
  constructor
  · intro h i hi
    have e : (a &&& b).testBit i = false := by rw [h]; exact Nat.zero_testBit i
    rw [Nat.testBit_and, hi, Bool.true_and] at e
    exact e
  · intro h
    apply Nat.eq_of_testBit_eq
    intro i
    rw [Nat.testBit_and, Nat.zero_testBit]
    cases e : a.testBit i
    · rfl
    · rw [h i e]; rfl
/-- what is left out of s -/
def ck_co (s : Nat) : Nat := 255 &&& (255 ^^^ s)
theorem ck_co_bit (s i : Nat) : (ck_co s).testBit i = (decide (i < 8) && !s.testBit i) := by
  unfold ck_co
  rw [Nat.testBit_and, Nat.testBit_xor, ck_255]
  by_cases h : i < 8
  · simp [h]
  · simp [h]
theorem ck_co_lt (s : Nat) : ck_co s < 256 := Nat.lt_of_le_of_lt Nat.and_le_left (by decide)
theorem ck_x_bit {s i : Nat} (hi : i < 8) : (255 ^^^ s).testBit i = !s.testBit i := by
  rw [Nat.testBit_xor, ck_255]
  simp [hi]
/-- s without u -/
def ck_rm (s u : Nat) : Nat := s &&& (255 ^^^ 2 ^ u)
theorem ck_rm_bit {s : Nat} (hs : s < 256) (u i : Nat) : (ck_rm s u).testBit i = (s.testBit i && !decide (i = u)) := by
  unfold ck_rm
  rw [Nat.testBit_and]
  rcases Nat.lt_or_ge i 8 with hi | hi
  · rw [ck_x_bit hi, Nat.testBit_two_pow]
    by_cases e : u = i
    · simp [e]
    · simp [e, Ne.symm e]
  · rw [ck_hi hs hi]; rfl
theorem ck_rm_lt {s : Nat} (hs : s < 256) (u : Nat) : ck_rm s u < 256 := Nat.lt_of_le_of_lt Nat.and_le_left hs
theorem ck_rm_le (s u : Nat) : ck_rm s u ≤ s := Nat.and_le_left
theorem ck_rm_s {s u : Nat} (hs : s < 256) (h : s.testBit u = true) : ck_rm s u < s := by
  refine Nat.lt_of_le_of_ne (ck_rm_le s u) fun e => ?_
  have q := ck_rm_bit hs u u
  rw [e, h] at q
  simp at q
/-! ===== the number of a set ===== -/
def ck_n (s : Nat) : Nat → Nat
  | 0 => 0
  | v + 1 => ck_n s v + (s.testBit v).toNat
theorem ck_n_le (s : Nat) : ∀ n, ck_n s n ≤ n
  | 0 => Nat.le_refl 0
  | n + 1 => by
    have h1 := ck_n_le s n
    have h2 := Bool.toNat_le (s.testBit n)
    show ck_n s n + (s.testBit n).toNat ≤ n + 1
    omega
/-! ===== the neighbours of a set ===== -/
def ck_ar (g : Nat → Nat) (s : Nat) : Nat → Nat
  | 0 => 0
  | v + 1 => if s.testBit v = true then ck_ar g s v ||| g v else ck_ar g s v
theorem ck_ar_bit (g : Nat → Nat) (s w : Nat) : ∀ n, (ck_ar g s n).testBit w = true ↔ ∃ v, v < n ∧ s.testBit v = true ∧ (g v).testBit w = true
  | 0 => by
    constructor
    · intro h
      rw [ck_ar, Nat.zero_testBit] at h
      exact absurd h (by decide)
    · rintro ⟨v, hv, _⟩
      omega
  | n + 1 => by
    have ih := ck_ar_bit g s w n
    show (if s.testBit n = true then ck_ar g s n ||| g n else ck_ar g s n).testBit w = true ↔ _
    by_cases h : s.testBit n = true
    · rw [if_pos h, Nat.testBit_or, Bool.or_eq_true, ih]
      constructor
      · rintro (⟨v, hv, a, b⟩ | b)
        · exact ⟨v, by omega, a, b⟩
        · exact ⟨n, by omega, h, b⟩
      · rintro ⟨v, hv, a, b⟩
        rcases Nat.lt_or_ge v n with q | q
        · exact Or.inl ⟨v, q, a, b⟩
        · cases (by omega : v = n)
          exact Or.inr b
    · rw [if_neg h, ih]
      constructor
      · rintro ⟨v, hv, a, b⟩
        exact ⟨v, by omega, a, b⟩
      · rintro ⟨v, hv, a, b⟩
        rcases Nat.lt_or_ge v n with q | q
        · exact ⟨v, q, a, b⟩
        · cases (by omega : v = n)
          exact absurd a h
theorem ck_ar_lt {g : Nat → Nat} (hg : ∀ v, v < 8 → g v < 256) (s : Nat) : ∀ n, n ≤ 8 → ck_ar g s n < 256
  | 0, _ => by
    show 0 < 256
    decide
  | n + 1, h => by
    have ih := ck_ar_lt hg s n (by omega)
    show (if s.testBit n = true then ck_ar g s n ||| g n else ck_ar g s n) < 256
    split
    · exact Nat.or_lt_two_pow (n := 8) ih (hg n (by omega))
    · exact ih
/-! ===== the graph: g v are the neighbours of v ===== -/
def ck_G (g : Nat → Nat) : Prop := (∀ v, v < 8 → g v < 256) ∧ (∀ v w, v < 8 → w < 8 → (g v).testBit w = true → (g w).testBit v = true) ∧ ∀ v, v < 8 → (g v).testBit v = false
theorem ck_G8 {g : Nat → Nat} (hg : ck_G g) {v w : Nat} (hv : v < 8) (h : (g v).testBit w = true) : w < 8 := ck_b8 (hg.1 v hv) h
/-- a cover -/
def ck_C (g : Nat → Nat) (s : Nat) : Prop := ∀ v w, v < 8 → s.testBit v = false → (g v).testBit w = true → s.testBit w = true
def ck_cv (g : Nat → Nat) (s : Nat) : Bool := decide (ck_ar g (ck_co s) 8 &&& ck_co s = 0)
theorem ck_cv_iff {g : Nat → Nat} (hg : ck_G g) (s : Nat) : ck_cv g s = true ↔ ck_C g s := by
  unfold ck_cv
  rw [decide_eq_true_iff, ck_and0]
  constructor
  · intro h v w hv hs hw
    have hw8 := ck_G8 hg hv hw
    have q := h w ((ck_ar_bit g _ w 8).mpr ⟨v, hv, by rw [ck_co_bit, hs]; simp [hv], hw⟩)
    rw [ck_co_bit] at q
    simpa [hw8] using q
  · intro h w hw
    obtain ⟨v, hv, a, b⟩ := (ck_ar_bit g _ w 8).mp hw
    rw [ck_co_bit] at a ⊢
    have a' : s.testBit v = false := by simpa [hv] using a
    rw [h v w hv a' b]
    simp
/-- the reference's walk of covers -/
def ck_yc (g : Nat → Nat) (s : Nat) : Nat → Bool
  | 0 => true
  | v + 1 => ck_yc g s v && (s.testBit v || decide (g v &&& (255 ^^^ s) = 0))
theorem ck_yc_iff (g : Nat → Nat) (s : Nat) : ∀ n, ck_yc g s n = true ↔ ∀ v, v < n → s.testBit v = true ∨ g v &&& (255 ^^^ s) = 0
  | 0 => ⟨fun _ v hv => absurd hv (Nat.not_lt_zero v), fun _ => rfl⟩
  | n + 1 => by
    have ih := ck_yc_iff g s n
    show (ck_yc g s n && (s.testBit n || decide (g n &&& (255 ^^^ s) = 0))) = true ↔ _
    rw [Bool.and_eq_true, ih, Bool.or_eq_true, decide_eq_true_iff]
    constructor
    · rintro ⟨a, b⟩ v hv
      rcases Nat.lt_or_ge v n with q | q
      · exact a v q
      · cases (by omega : v = n)
        exact b
    · intro h
      exact ⟨fun v hv => h v (by omega), h n (by omega)⟩
theorem ck_yc_cv {g : Nat → Nat} (hg : ck_G g) (s : Nat) : ck_yc g s 8 = ck_cv g s := by
  apply ck_bool
  rw [ck_yc_iff, ck_cv_iff hg]
  constructor
  · intro h v w hv hs hw
    rcases h v hv with a | a
    · rw [hs] at a
      exact absurd a (by decide)
    · have q := ck_and0.mp a w hw
      rw [ck_x_bit (ck_G8 hg hv hw)] at q
      simpa using q
  · intro h v hv
    cases e : s.testBit v
    · refine Or.inr (ck_and0.mpr fun w hw => ?_)
      rw [ck_x_bit (ck_G8 hg hv hw), h v w hv e hw]
      rfl
    · exact Or.inl rfl
theorem ck_C255 {g : Nat → Nat} (hg : ck_G g) : ck_cv g 255 = true :=
  (ck_cv_iff hg 255).mpr fun v w hv h _ => by
    rw [ck_255, decide_eq_true hv] at h
    exact absurd h (by decide)
/-! ===== tight covers ===== -/
def ck_xt (g : Nat → Nat) (s : Nat) : Bool := decide (s &&& (255 ^^^ ck_ar g (ck_co s) 8) = 0)
def ck_yt (g : Nat → Nat) (s : Nat) : Nat → Bool
  | 0 => ck_cv g s
  | v + 1 => ck_yt g s v && (!s.testBit v || !ck_cv g (ck_rm s v))
theorem ck_yt_iff (g : Nat → Nat) (s : Nat) : ∀ n, ck_yt g s n = true ↔ ck_cv g s = true ∧ ∀ v, v < n → s.testBit v = true → ck_cv g (ck_rm s v) = false
  | 0 => ⟨fun h => ⟨h, fun v hv => absurd hv (Nat.not_lt_zero v)⟩, fun h => h.1⟩
  | n + 1 => by
    have ih := ck_yt_iff g s n
    show (ck_yt g s n && (!s.testBit n || !ck_cv g (ck_rm s n))) = true ↔ _
    rw [Bool.and_eq_true, ih]
    constructor
    · rintro ⟨⟨a, b⟩, c⟩
      refine ⟨a, fun v hv hs => ?_⟩
      rcases Nat.lt_or_ge v n with q | q
      · exact b v q hs
      · cases (by omega : v = n)
        rw [hs] at c
        simpa using c
    · rintro ⟨a, b⟩
      refine ⟨⟨a, fun v hv => b v (by omega)⟩, ?_⟩
      cases e : s.testBit n
      · rfl
      · rw [b n (by omega) e]; rfl
theorem ck_rm_C {g : Nat → Nat} (hg : ck_G g) {s v : Nat} (hs : s < 256) (hv : v < 8) (hc : ck_C g s) : ck_C g (ck_rm s v) ↔ ∀ w, (g v).testBit w = true → s.testBit w = true := by
  constructor
  · intro h w hw
    have q := h v w hv (by rw [ck_rm_bit hs]; simp) hw
    rw [ck_rm_bit hs] at q
    simp at q
    exact q.1
  · intro h a w ha hr hw
    rw [ck_rm_bit hs] at hr ⊢
    by_cases e : a = v
    · rw [e] at hw
      have n : w ≠ v := fun z => by
        rw [z, hg.2.2 v hv] at hw
        exact absurd hw (by decide)
      rw [h w hw]
      simp [n]
    · have hsa : s.testBit a = false := by simpa [e] using hr
      have n : w ≠ v := fun z => by
        rw [z] at hw
        rw [h a (hg.2.1 a v ha hv hw)] at hsa
        exact absurd hsa (by decide)
      rw [hc a w ha hsa hw]
      simp [n]
theorem ck_tight {g : Nat → Nat} (hg : ck_G g) {s : Nat} (hs : s < 256) : ck_yt g s 8 = (ck_cv g s && ck_xt g s) := by
  apply ck_bool
  rw [ck_yt_iff, Bool.and_eq_true]
  refine and_congr_right fun hcv => ?_
  have hc := (ck_cv_iff hg s).mp hcv
  unfold ck_xt
  rw [decide_eq_true_iff, ck_and0]
  constructor
  · intro h v hv
    have hv8 := ck_b8 hs hv
    rw [ck_x_bit hv8]
    have q := h v hv8 hv
    by_cases z : ∀ w, (g v).testBit w = true → s.testBit w = true
    · rw [(ck_cv_iff hg _).mpr ((ck_rm_C hg hs hv8 hc).mpr z)] at q
      exact absurd q (by decide)
    · obtain ⟨w, hw⟩ := Classical.not_forall.mp z
      obtain ⟨hw1, hw2⟩ := Classical.not_imp.mp hw
      have hw8 := ck_G8 hg hv8 hw1
      have hw3 : s.testBit w = false := by simpa using hw2
      rw [(ck_ar_bit g _ v 8).mpr ⟨w, hw8, by rw [ck_co_bit, hw3]; simp [hw8], hg.2.1 v w hv8 hw8 hw1⟩]
      rfl
  · intro h v hv8 hv
    have q := h v hv
    rw [ck_x_bit hv8] at q
    have q' : (ck_ar g (ck_co s) 8).testBit v = true := by simpa using q
    obtain ⟨u, hu, a, b⟩ := (ck_ar_bit g _ v 8).mp q'
    rw [ck_co_bit] at a
    have a' : s.testBit u = false := by simpa [hu] using a
    cases e : ck_cv g (ck_rm s v)
    · rfl
    · have z := (ck_rm_C hg hs hv8 hc).mp ((ck_cv_iff hg _).mp e) u (hg.2.1 u v hu hv8 b)
      rw [a'] at z
      exact absurd z (by decide)
