/-! ===== half covers: h v halves at v ===== -/
def ck_sm (h : Nat → Nat) : Nat → Nat
  | 0 => 0
  | v + 1 => ck_sm h v + h v
theorem ck_sm_le {h h' : Nat → Nat} : ∀ n, (∀ v, v < n → h v ≤ h' v) → ck_sm h n ≤ ck_sm h' n
  | 0, _ => Nat.le_refl 0
  | n + 1, H => by
    have a := ck_sm_le n (fun v hv => H v (by omega))
    have b := H n (by omega)
    show ck_sm h n + h n ≤ ck_sm h' n + h' n
    omega
theorem ck_sm_eq {h h' : Nat → Nat} : ∀ n, (∀ v, v < n → h v ≤ h' v) → ck_sm h' n ≤ ck_sm h n → ∀ v, v < n → h' v = h v
  | 0, _, _, v, hv => absurd hv (Nat.not_lt_zero v)
  | n + 1, H, E, v, hv => by
    have a := ck_sm_le n (fun v hv => H v (by omega))
    have b := H n (by omega)
    have E' : ck_sm h' n + h' n ≤ ck_sm h n + h n := E
    rcases Nat.lt_or_ge v n with q | q
    · exact ck_sm_eq n (fun v hv => H v (by omega)) (by omega) v q
    · have e : v = n := by omega
      rw [e]
      omega
theorem ck_sm_cg {h h' : Nat → Nat} : ∀ n, (∀ v, v < n → h v = h' v) → ck_sm h n = ck_sm h' n
  | 0, _ => rfl
  | n + 1, H => by
    show ck_sm h n + h n = ck_sm h' n + h' n
    rw [ck_sm_cg n (fun v hv => H v (by omega)), H n (by omega)]
theorem ck_sm_2 {h : Nat → Nat} : ∀ n, (∀ v, v < n → h v ≤ 2) → ck_sm h n ≤ 2 * n
  | 0, _ => Nat.le_refl 0
  | n + 1, H => by
    have a := ck_sm_2 n (fun v hv => H v (by omega))
    have b := H n (by omega)
    show ck_sm h n + h n ≤ 2 * (n + 1)
    omega
/-- a half cover -/
def ck_hc (g h : Nat → Nat) : Prop := ∀ v w, v < 8 → w < v → (g v).testBit w = true → 2 ≤ h v + h w
theorem ck_hc_cg {g h h' : Nat → Nat} (H : ∀ v, v < 8 → h v = h' v) (k : ck_hc g h) : ck_hc g h' := fun v w hv hw e => by
  have q := k v w hv hw e
  rw [H v hv, H w (by omega)] at q
  exact q
/-- the cheapest half cover with just the zeros z -/
def ck_hv (g : Nat → Nat) (z v : Nat) : Nat := if z.testBit v = true then 0 else if (ck_ar g z 8).testBit v = true then 2 else 1
theorem ck_hv_0 {g : Nat → Nat} {z v : Nat} (h : z.testBit v = true) : ck_hv g z v = 0 := if_pos h
theorem ck_hv_2 {g : Nat → Nat} {z v : Nat} (h : ¬ z.testBit v = true) (h2 : (ck_ar g z 8).testBit v = true) : ck_hv g z v = 2 := (if_neg h).trans (if_pos h2)
theorem ck_hv_1 {g : Nat → Nat} {z v : Nat} (h : ¬ z.testBit v = true) (h2 : ¬ (ck_ar g z 8).testBit v = true) : ck_hv g z v = 1 := (if_neg h).trans (if_neg h2)
theorem ck_hv_le (g : Nat → Nat) (z v : Nat) : ck_hv g z v ≤ 2 := by
  unfold ck_hv
  split
  · omega
  · split <;> omega
def ck_ok (g : Nat → Nat) (z : Nat) : Prop := ck_ar g z 8 &&& z = 0
theorem ck_ok_n {g : Nat → Nat} {z v : Nat} (k : ck_ok g z) (h : (ck_ar g z 8).testBit v = true) : ¬ z.testBit v = true := by
  rw [ck_and0.mp k v h]
  decide
theorem ck_hv_sum {g : Nat → Nat} {z : Nat} (k : ck_ok g z) : ∀ n, ck_sm (ck_hv g z) n + ck_n z n = n + ck_n (ck_ar g z 8) n
  | 0 => rfl
  | n + 1 => by
    have ih := ck_hv_sum k n
    show ck_sm (ck_hv g z) n + ck_hv g z n + (ck_n z n + (z.testBit n).toNat) = n + 1 + (ck_n (ck_ar g z 8) n + ((ck_ar g z 8).testBit n).toNat)
    have q : ck_hv g z n + (z.testBit n).toNat = 1 + ((ck_ar g z 8).testBit n).toNat := by
      by_cases a : (ck_ar g z 8).testBit n = true
      · have b := ck_ok_n k a
        rw [ck_hv_2 b a, a, ck_nt b]
        rfl
      · by_cases b : z.testBit n = true
        · rw [ck_hv_0 b, b, ck_nt a]
          rfl
        · rw [ck_hv_1 b a, ck_nt a, ck_nt b]
    omega
theorem ck_hv_hc {g : Nat → Nat} (hg : ck_G g) {z : Nat} (k : ck_ok g z) : ck_hc g (ck_hv g z) := by
  intro v w hv hwv e
  have hw : w < 8 := by omega
  by_cases a : z.testBit v = true
  · have b : (ck_ar g z 8).testBit w = true := (ck_ar_bit g z w 8).mpr ⟨v, hv, a, e⟩
    rw [ck_hv_2 (ck_ok_n k b) b]
    omega
  · by_cases b : z.testBit w = true
    · have c : (ck_ar g z 8).testBit v = true := (ck_ar_bit g z v 8).mpr ⟨w, hw, b, hg.2.1 v w hv hw e⟩
      rw [ck_hv_2 a c]
      omega
    · have p : ∀ x, ¬ z.testBit x = true → 1 ≤ ck_hv g z x := by
        intro x hx
        by_cases c : (ck_ar g z 8).testBit x = true
        · rw [ck_hv_2 hx c]; omega
        · rw [ck_hv_1 hx c]; omega
      have p1 := p v a
      have p2 := p w b
      omega
/-! ===== the set of what holds ===== -/
def ck_st (p : Nat → Bool) : Nat → Nat
  | 0 => 0
  | v + 1 => if p v = true then ck_st p v ||| 2 ^ v else ck_st p v
theorem ck_st_bit (p : Nat → Bool) (i : Nat) : ∀ n, (ck_st p n).testBit i = (decide (i < n) && p i)
  | 0 => by
    show Nat.testBit 0 i = _
    rw [Nat.zero_testBit]
    simp
  | n + 1 => by
    have ih := ck_st_bit p i n
    show (if p n = true then ck_st p n ||| 2 ^ n else ck_st p n).testBit i = _
    by_cases e : n = i
    · rw [← e] at ih ⊢
      by_cases q : p n = true
      · rw [if_pos q, Nat.testBit_or, ih, Nat.testBit_two_pow, q]
        simp
      · rw [if_neg q, ih, ck_nt q]
        simp
    · have hlt : (i < n + 1) = (i < n) := propext ⟨fun _ => by omega, fun _ => by omega⟩
      by_cases q : p n = true
      · rw [if_pos q, Nat.testBit_or, ih, Nat.testBit_two_pow, decide_eq_false e, Bool.or_false]
        simp only [hlt]
      · rw [if_neg q, ih]
        simp only [hlt]
theorem ck_st_lt (p : Nat → Bool) {n : Nat} (hn : n ≤ 8) : ck_st p n < 256 := ck_lt fun i hi => by
  rw [ck_st_bit, decide_eq_false (by omega)]
  rfl
theorem ck_st_cg {p q : Nat → Bool} : ∀ n, (∀ v, v < n → p v = q v) → ck_st p n = ck_st q n
  | 0, _ => rfl
  | n + 1, H => by
    show (if p n = true then ck_st p n ||| 2 ^ n else ck_st p n) = (if q n = true then ck_st q n ||| 2 ^ n else ck_st q n)
    rw [ck_st_cg n (fun v hv => H v (by omega)), H n (by omega)]
/-- every half cover is no cheaper than that of its zeros -/
theorem ck_hc_z {g h : Nat → Nat} (hg : ck_G g) (k : ck_hc g h) (z : Nat) (hz : ∀ v, v < 8 → (z.testBit v = true ↔ h v = 0)) (hz8 : z < 256) : ck_ok g z ∧ ∀ v, v < 8 → ck_hv g z v ≤ h v := by
  have E : ∀ v w, v < 8 → w < 8 → (g v).testBit w = true → 2 ≤ h v + h w := by
    intro v w hv hw e
    rcases Nat.lt_trichotomy w v with q | q | q
    · exact k v w hv q e
    · rw [q, hg.2.2 v hv] at e
      exact absurd e (by decide)
    · have x := k w v hw q (hg.2.1 v w hv hw e)
      omega
  have A : ∀ v, (ck_ar g z 8).testBit v = true → v < 8 ∧ 2 ≤ h v := by
    intro v hv
    obtain ⟨u, hu, a, b⟩ := (ck_ar_bit g z v 8).mp hv
    have hv8 := ck_G8 hg hu b
    have x := E u v hu hv8 b
    rw [(hz u hu).mp a] at x
    exact ⟨hv8, by omega⟩
  refine ⟨ck_and0.mpr fun v hv => ?_, fun v hv => ?_⟩
  · obtain ⟨hv8, h2⟩ := A v hv
    cases e : z.testBit v
    · rfl
    · have := (hz v hv8).mp e
      omega
  · by_cases a : z.testBit v = true
    · rw [ck_hv_0 a]
      omega
    · by_cases b : (ck_ar g z 8).testBit v = true
      · rw [ck_hv_2 a b]
        exact (A v b).2
      · rw [ck_hv_1 a b]
        have : ¬ h v = 0 := fun x => a ((hz v hv).mpr x)
        omega
/-! ===== codes ===== -/
def ck_d (c v : Nat) : Nat := c / 3 ^ v % 3
theorem ck_d_lt (c v : Nat) : ck_d c v < 3 := Nat.mod_lt _ (by decide)
def ck_cd (h : Nat → Nat) : Nat → Nat
  | 0 => 0
  | v + 1 => ck_cd h v + 3 ^ v * h v
theorem ck_cd_lt {h : Nat → Nat} (H : ∀ v, h v ≤ 2) : ∀ n, ck_cd h n < 3 ^ n
  | 0 => by
    show 0 < 1
    decide
  | n + 1 => by
    have ih := ck_cd_lt H n
    have a : 3 ^ n * h n ≤ 3 ^ n * 2 := Nat.mul_le_mul_left _ (H n)
    have b : 3 ^ (n + 1) = 3 ^ n * 3 := Nat.pow_succ _ _
    show ck_cd h n + 3 ^ n * h n < 3 ^ (n + 1)
    omega
theorem ck_cd_d {h : Nat → Nat} (H : ∀ v, h v ≤ 2) : ∀ n v, v < n → ck_d (ck_cd h n) v = h v
  | 0, v, hv => absurd hv (Nat.not_lt_zero v)
  | n + 1, v, hv => by
    show (ck_cd h n + 3 ^ n * h n) / 3 ^ v % 3 = h v
    rcases Nat.lt_or_ge v n with q | q
    · obtain ⟨d, rfl⟩ : ∃ d, n = v + 1 + d := ⟨n - (v + 1), by omega⟩
      have ih := ck_cd_d H (v + 1 + d) v q
      have e : 3 ^ (v + 1 + d) * h (v + 1 + d) = 3 ^ v * (3 * (3 ^ d * h (v + 1 + d))) := by
        rw [Nat.pow_add, Nat.pow_succ, Nat.mul_assoc, Nat.mul_assoc]
      rw [e, Nat.add_mul_div_left _ _ (Nat.pow_pos (by decide)), Nat.add_mul_mod_self_left]
      exact ih
    · have e : v = n := by omega
      rw [e, Nat.add_mul_div_left _ _ (Nat.pow_pos (by decide)), Nat.div_eq_of_lt (ck_cd_lt H n), Nat.zero_add, Nat.mod_eq_of_lt]
      have := H n
      omega
/-! ===== the least cost, by zeros and by codes ===== -/
def ck_cost (g : Nat → Nat) (z : Nat) : Nat := if ck_ar g z 8 &&& z = 0 then 8 + ck_n (ck_ar g z 8) 8 - ck_n z 8 else 17
theorem ck_cost_ok {g : Nat → Nat} {z : Nat} (k : ck_ok g z) : ck_cost g z = ck_sm (ck_hv g z) 8 := by
  have a := ck_hv_sum k 8
  have e : ck_cost g z = 8 + ck_n (ck_ar g z 8) 8 - ck_n z 8 := if_pos k
  omega
theorem ck_cost_16 {g : Nat → Nat} {z : Nat} (k : ck_ok g z) : ck_cost g z ≤ 16 := by
  rw [ck_cost_ok k]
  exact ck_sm_2 8 (fun v _ => ck_hv_le g z v)
theorem ck_cost_no {g : Nat → Nat} {z : Nat} (k : ¬ ck_ok g z) : ck_cost g z = 17 := if_neg k
theorem ck_cost_17 (g : Nat → Nat) (z : Nat) : ck_cost g z ≤ 17 := by
  by_cases k : ck_ok g z
  · have := ck_cost_16 k
    omega
  · rw [ck_cost_no k]
    exact Nat.le_refl _
/-- m is the least cost, as the component finds it -/
def ck_mX (g : Nat → Nat) (m : Nat) : Prop := (∀ z, z < 256 → m ≤ ck_cost g z) ∧ ∃ z, z < 256 ∧ ck_cost g z = m ∧ m ≤ 16
/-- as the reference finds it -/
def ck_mY (g : Nat → Nat) (m : Nat) : Prop := (∀ c, c < 6561 → ck_hc g (ck_d c) → m ≤ ck_sm (ck_d c) 8) ∧ ∃ c, c < 6561 ∧ ck_hc g (ck_d c) ∧ ck_sm (ck_d c) 8 = m
theorem ck_mY_u {g : Nat → Nat} {m m' : Nat} (h : ck_mY g m) (h' : ck_mY g m') : m = m' := by
  obtain ⟨a, c, hc, k, e⟩ := h
  obtain ⟨a', c', hc', k', e'⟩ := h'
  have x := a c' hc' k'
  have y := a' c hc k
  omega
theorem ck_z0 (g : Nat → Nat) : ck_cost g 0 = 8 := by
  have a : ∀ n, ck_ar g 0 n = 0 := by
    intro n
    induction n with
    | zero => rfl
    | succ n ih =>
      show (if Nat.testBit 0 n = true then ck_ar g 0 n ||| g n else ck_ar g 0 n) = 0
      rw [Nat.zero_testBit, if_neg (by decide), ih]
  have b : ck_n 0 8 = 0 := by decide
  unfold ck_cost
  rw [a 8, b]
  rfl
/-- zeros give a code -/
theorem ck_zc {g : Nat → Nat} (hg : ck_G g) {z : Nat} (k : ck_ok g z) : ∃ c, c < 6561 ∧ ck_hc g (ck_d c) ∧ ck_sm (ck_d c) 8 = ck_cost g z ∧ ∀ v, v < 8 → ck_d c v = ck_hv g z v := by
  have D := ck_cd_d (h := ck_hv g z) (ck_hv_le g z) 8
  refine ⟨ck_cd (ck_hv g z) 8, ck_cd_lt (ck_hv_le g z) 8, ck_hc_cg (fun v hv => (D v hv).symm) (ck_hv_hc hg k), ?_, D⟩
  rw [ck_cost_ok k]
  exact ck_sm_cg 8 D
/-- a code gives zeros, no dearer; as dear: the same halves -/
theorem ck_cz {g : Nat → Nat} (hg : ck_G g) {c : Nat} (k : ck_hc g (ck_d c)) : ∃ z, z < 256 ∧ ck_ok g z ∧ ck_cost g z ≤ ck_sm (ck_d c) 8 ∧ (ck_sm (ck_d c) 8 ≤ ck_cost g z → ∀ v, v < 8 → ck_d c v = ck_hv g z v) := by
  have hz : ∀ v, v < 8 → ((ck_st (fun v => decide (ck_d c v = 0)) 8).testBit v = true ↔ ck_d c v = 0) := by
    intro v hv
    rw [ck_st_bit, decide_eq_true hv, Bool.true_and, decide_eq_true_iff]
  have h8 := ck_st_lt (fun v => decide (ck_d c v = 0)) (Nat.le_refl 8)
  obtain ⟨a, b⟩ := ck_hc_z hg k _ hz h8
  refine ⟨_, h8, a, ?_, fun e => ?_⟩
  · rw [ck_cost_ok a]
    exact ck_sm_le 8 b
  · rw [ck_cost_ok a] at e
    exact ck_sm_eq 8 b e
theorem ck_mXY {g : Nat → Nat} (hg : ck_G g) {m : Nat} (h : ck_mX g m) : ck_mY g m := by
  obtain ⟨a, z, hz, e, h16⟩ := h
  refine ⟨fun c hc k => ?_, ?_⟩
  · obtain ⟨z', hz', _, le, _⟩ := ck_cz hg k
    have := a z' hz'
    omega
  · have ok : ck_ok g z := Classical.byContradiction fun n => by
      have := ck_cost_no n
      omega
    obtain ⟨c, hc, k, s, _⟩ := ck_zc hg ok
    exact ⟨c, hc, k, s.trans e⟩
/-- best zeros and best codes give the same halves -/
theorem ck_bXY {g : Nat → Nat} (hg : ck_G g) {m : Nat} (h16 : m ≤ 16) {z : Nat} (e : ck_cost g z = m) : ∃ c, c < 6561 ∧ ck_hc g (ck_d c) ∧ ck_sm (ck_d c) 8 = m ∧ ∀ v, v < 8 → ck_d c v = ck_hv g z v := by
  have ok : ck_ok g z := Classical.byContradiction fun n => by
    have := ck_cost_no n
    omega
  obtain ⟨c, hc, k, s, d⟩ := ck_zc hg ok
  exact ⟨c, hc, k, s.trans e, d⟩
theorem ck_bYX {g : Nat → Nat} (hg : ck_G g) {m : Nat} (h : ck_mX g m) {c : Nat} (k : ck_hc g (ck_d c)) (e : ck_sm (ck_d c) 8 = m) : ∃ z, z < 256 ∧ ck_cost g z = m ∧ ∀ v, v < 8 → ck_d c v = ck_hv g z v := by
  obtain ⟨z, hz, ok, le, q⟩ := ck_cz hg k
  have := h.1 z hz
  exact ⟨z, hz, by omega, q (by omega)⟩
