/-! ===== matchings: k edges, no two with a common end, inside S ===== -/
def ck_dl (S : Nat → Bool) (u : Nat) : Nat → Bool := fun i => S i && !decide (i = u)
theorem ck_dl_t {S : Nat → Bool} {u i : Nat} : ck_dl S u i = true ↔ S i = true ∧ i ≠ u := by
  show (S i && !decide (i = u)) = true ↔ _
  simp
def ck_mt (g : Nat → Nat) : Nat → (Nat → Bool) → Prop
  | 0, _ => True
  | k + 1, S => ∃ u w, u < 8 ∧ w < 8 ∧ S u = true ∧ S w = true ∧ (g u).testBit w = true ∧ ck_mt g k (ck_dl (ck_dl S u) w)
theorem ck_mt_mono {g : Nat → Nat} : ∀ k {S T : Nat → Bool}, (∀ i, S i = true → T i = true) → ck_mt g k S → ck_mt g k T
  | 0, _, _, _, _ => trivial
  | k + 1, S, T, h, H => by
    obtain ⟨u, w, hu, hw, a, b, e, m⟩ := H
    refine ⟨u, w, hu, hw, h u a, h w b, e, ck_mt_mono k (fun i hi => ?_) m⟩
    rw [ck_dl_t, ck_dl_t] at hi ⊢
    exact ⟨⟨h i hi.1.1, hi.1.2⟩, hi.2⟩
/-- a matching leaves v alone, or joins it to a partner -/
theorem ck_mt_v {g : Nat → Nat} (hg : ck_G g) {v : Nat} (hv : v < 8) : ∀ k {S : Nat → Bool}, ck_mt g k S → ck_mt g k (ck_dl S v) ∨ ∃ w j, w < 8 ∧ S w = true ∧ w ≠ v ∧ (g v).testBit w = true ∧ k = j + 1 ∧ ck_mt g j (ck_dl (ck_dl S v) w)
  | 0, _, _ => Or.inl trivial
  | k + 1, S, H => by
    obtain ⟨u, w, hu, hw, a, b, e, m⟩ := H
    have huw : u ≠ w := fun z => by
      rw [z, hg.2.2 w hw] at e
      exact absurd e (by decide)
    by_cases x : u = v
    · rw [x] at m e huw
      exact Or.inr ⟨w, k, hw, b, Ne.symm huw, e, rfl, m⟩
    · by_cases y : w = v
      · rw [y] at m e
        refine Or.inr ⟨u, k, hu, a, x, hg.2.1 u v hu hv e, rfl, ck_mt_mono k (fun i hi => ?_) m⟩
        rw [ck_dl_t, ck_dl_t] at hi ⊢
        exact ⟨⟨hi.1.1, hi.2⟩, hi.1.2⟩
      · rcases ck_mt_v hg hv k m with q | ⟨w', j, hw', c, d, e', kj, m'⟩
        · refine Or.inl ⟨u, w, hu, hw, ck_dl_t.mpr ⟨a, x⟩, ck_dl_t.mpr ⟨b, y⟩, e, ck_mt_mono k (fun i hi => ?_) q⟩
          rw [ck_dl_t, ck_dl_t, ck_dl_t] at hi ⊢
          exact ⟨⟨⟨hi.1.1.1, hi.2⟩, hi.1.1.2⟩, hi.1.2⟩
        · rw [ck_dl_t, ck_dl_t] at c
          refine Or.inr ⟨w', k, hw', c.1.1, d, e', rfl, ?_⟩
          rw [kj]
          refine ⟨u, w, hu, hw, ck_dl_t.mpr ⟨ck_dl_t.mpr ⟨a, x⟩, Ne.symm c.1.2⟩, ck_dl_t.mpr ⟨ck_dl_t.mpr ⟨b, y⟩, Ne.symm c.2⟩, e, ck_mt_mono j (fun i hi => ?_) m'⟩
          rw [ck_dl_t, ck_dl_t, ck_dl_t, ck_dl_t] at hi ⊢
          exact ⟨⟨⟨⟨hi.1.1.1.1, hi.1.2⟩, hi.2⟩, hi.1.1.1.2⟩, hi.1.1.2⟩
/-- b is the greatest number of such edges in s -/
def ck_iM (g : Nat → Nat) (s b : Nat) : Prop := ck_mt g b s.testBit ∧ ∀ j, ck_mt g j s.testBit → j ≤ b
theorem ck_iM_u {g : Nat → Nat} {s b c : Nat} (h : ck_iM g s b) (h' : ck_iM g s c) : b = c := Nat.le_antisymm (h'.2 b h.1) (h.2 c h'.1)
theorem ck_iM_0 (g : Nat → Nat) : ck_iM g 0 0 := by
  refine ⟨trivial, fun j h => ?_⟩
  cases j with
  | zero => exact Nat.le_refl 0
  | succ j =>
    obtain ⟨u, w, _, _, a, _⟩ := h
    rw [Nat.zero_testBit] at a
    exact absurd a (by decide)
theorem ck_rm_dl {s : Nat} (hs : s < 256) (u : Nat) : (ck_rm s u).testBit = ck_dl s.testBit u := funext fun i => ck_rm_bit hs u i
/-- what a walk over the partners below n of v has found in s: b -/
def ck_pw (g : Nat → Nat) (s v n b : Nat) : Prop := ck_mt g b s.testBit ∧ (∀ j, ck_mt g j (ck_rm s v).testBit → j ≤ b) ∧ (∀ w, w < n → (ck_rm s v).testBit w = true → (g v).testBit w = true → ∀ j, ck_mt g j (ck_rm (ck_rm s v) w).testBit → j + 1 ≤ b) ∧ b ≤ ck_rm s v
theorem ck_pw_0 {g : Nat → Nat} {s v b : Nat} (hs : s < 256) (h : ck_iM g (ck_rm s v) b) (hb : b ≤ ck_rm s v) : ck_pw g s v 0 b := by
  refine ⟨ck_mt_mono b (fun i hi => ?_) h.1, h.2, fun w hw => absurd hw (Nat.not_lt_zero w), hb⟩
  rw [ck_rm_bit hs] at hi
  rw [Bool.and_eq_true] at hi
  exact hi.1
/-- w is no partner -/
theorem ck_pw_n {g : Nat → Nat} {s v n b : Nat} (h : ck_pw g s v n b) (q : (ck_rm s v).testBit n = true → (g v).testBit n = true → False) : ck_pw g s v (n + 1) b := by
  refine ⟨h.1, h.2.1, fun w hw a e => ?_, h.2.2.2⟩
  rcases Nat.lt_or_ge w n with z | z
  · exact h.2.2.1 w z a e
  · have y : w = n := by omega
    rw [y] at a e
    exact absurd (q a e) id
/-- w is one, with c there -/
theorem ck_pw_y {g : Nat → Nat} {s v n b c b' : Nat} (hs : s < 256) (hv : v < 8) (hn : n < 8) (hsv : s.testBit v = true) (h : ck_pw g s v n b) (a : (ck_rm s v).testBit n = true) (e : (g v).testBit n = true) (hc : ck_iM g (ck_rm (ck_rm s v) n) c) (hcl : c ≤ ck_rm (ck_rm s v) n) (hb : b' = if b < c + 1 then c + 1 else b) : ck_pw g s v (n + 1) b' := by
  have hr := ck_rm_lt hs v
  have lt := ck_rm_s hr a
  have M : ck_mt g (c + 1) s.testBit := by
    have a' := a
    rw [ck_rm_bit hs, Bool.and_eq_true] at a'
    refine ⟨v, n, hv, hn, hsv, a'.1, e, ?_⟩
    rw [← ck_rm_dl hs, ← ck_rm_dl hr]
    exact hc.1
  have B1 : b ≤ b' := by
    rw [hb]
    split <;> omega
  have B2 : c + 1 ≤ b' := by
    rw [hb]
    split <;> omega
  refine ⟨?_, fun j hj => Nat.le_trans (h.2.1 j hj) B1, fun w hw a1 e1 j hj => ?_, ?_⟩
  · rw [hb]
    split
    · exact M
    · exact h.1
  · rcases Nat.lt_or_ge w n with z | z
    · exact Nat.le_trans (h.2.2.1 w z a1 e1 j hj) B1
    · have y : w = n := by omega
      rw [y] at hj
      have := hc.2 j hj
      omega
  · have := h.2.2.2
    rw [hb]
    split <;> omega
theorem ck_pw_e {g : Nat → Nat} (hg : ck_G g) {s v n b : Nat} (hs : s < 256) (hv : v < 8) (hn : ∀ w, (ck_rm s v).testBit w = true → w < n) (h : ck_pw g s v n b) : ck_iM g s b := by
  refine ⟨h.1, fun j hj => ?_⟩
  have hr := ck_rm_lt hs v
  rcases ck_mt_v hg hv j hj with q | ⟨w, j', hw, a, d, e, k, m⟩
  · rw [← ck_rm_dl hs] at q
    exact h.2.1 j q
  · rw [← ck_rm_dl hs, ← ck_rm_dl hr] at m
    have a' : (ck_rm s v).testBit w = true := by
      rw [ck_rm_bit hs, a]
      simp [d]
    rw [k]
    exact h.2.2.1 w (hn w a') a' e j' m
/-- the component's sets: v and a rest below -/
theorem ck_top {v r : Nat} (hv : v < 8) (hr : r < 2 ^ v) : 2 ^ v ||| r = 2 ^ v + r ∧ 2 ^ v + r < 256 ∧ (2 ^ v + r).testBit v = true ∧ ck_rm (2 ^ v + r) v = r := by
  have e : 2 ^ v ||| r = 2 ^ v + r := by
    have := Nat.two_pow_add_eq_or_of_lt hr 1
    rw [Nat.mul_one] at this
    exact this.symm
  have p : 2 ^ (v + 1) ≤ 2 ^ 8 := Nat.pow_le_pow_right (by decide) hv
  have lt : 2 ^ v + r < 256 := by
    have q : 2 ^ (v + 1) = 2 ^ v * 2 := Nat.pow_succ _ _
    omega
  have r8 : r < 256 := by omega
  have rv : r.testBit v = false := Nat.testBit_lt_two_pow hr
  refine ⟨e, lt, ?_, ck_ext (ck_rm_lt lt v) r8 fun i hi => ?_⟩
  · rw [← e, Nat.testBit_or, Nat.testBit_two_pow_self]
    rfl
  · rw [ck_rm_bit lt, ← e, Nat.testBit_or, Nat.testBit_two_pow]
    by_cases x : v = i
    · rw [← x, rv]
      simp
    · simp [x, Ne.symm x]
