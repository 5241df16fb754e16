section
/-! ===== pasted out of kit/rows ===== -/
theorem pk_us {f : Nat → Int32} {k : Nat} {x : Int32} : upd f k x k = x := if_pos rfl
theorem pk_un {f : Nat → Int32} {k j : Nat} {x : Int32} (h : j ≠ k) : upd f k x j = f j := if_neg h
theorem pk_sub {a b : Nat} (h : b ≤ a) : nI a - nI b = nI (a - b) := by
  obtain ⟨c, rfl⟩ : ∃ c, a = c + b := ⟨a - b, by omega⟩
  rw [← nI_add, Int32.add_sub_cancel, Nat.add_sub_cancel]
theorem pk_mul (a b : Nat) : nI a * nI b = nI (a * b) := (Int32.ofNat_mul a b).symm
theorem pk_div {a d : Nat} (ha : a < 2 ^ 31) (h0 : 0 < d) (hd : d < 2 ^ 31) : nI a / nI d = nI (a / d) := by
  apply Int32.toInt_inj.mp
  rw [lg_idiv_nonneg (by rw [nI_toInt ha]; omega) (by rw [nI_toInt hd]; omega), nI_toInt ha, nI_toInt hd, nI_toInt (Nat.lt_of_le_of_lt (Nat.div_le_self a d) ha)]
  first | rfl | exact (Int.natCast_ediv _ _).symm
theorem pk_rem {a d : Nat} (ha : a < 2 ^ 31) (h0 : 0 < d) (hd : d < 2 ^ 31) : nI a - nI a / nI d * nI d = nI (a % d) := by
  rw [pk_div ha h0 hd, pk_mul, pk_sub (Nat.div_mul_le_self a d)]
  exact congrArg nI (by have := Nat.div_add_mod' a d; omega)
theorem pk_le {x y : Int32} {A B : Prop} (a b : Nat) (f : a ≤ b → A) (g : b < a → B) (hx : x = nI a := by rfl) (hy : y = nI b := by rfl) (ha : a < 2 ^ 31 := by omega) (hb : b < 2 ^ 31 := by omega) : (x ≤ y → A) ∧ (¬ x ≤ y → B) := by
  subst hx hy
  rw [nI_leI ha hb]
  exact ⟨f, fun z => g (by omega)⟩
theorem pk_lt {x y : Int32} {A B : Prop} (a b : Nat) (f : a < b → A) (g : b ≤ a → B) (hx : x = nI a := by rfl) (hy : y = nI b := by rfl) (ha : a < 2 ^ 31 := by omega) (hb : b < 2 ^ 31 := by omega) : (x < y → A) ∧ (¬ x < y → B) := by
  subst hx hy
  rw [nI_ltI ha hb]
  exact ⟨f, fun z => g (by omega)⟩
theorem pk_eq {x y : Int32} {A B : Prop} (a b : Nat) (f : a = b → A) (g : a ≠ b → B) (hx : x = nI a := by rfl) (hy : y = nI b := by rfl) (ha : a < 2 ^ 31 := by omega) (hb : b < 2 ^ 31 := by omega) : (x = y → A) ∧ (¬ x = y → B) := by
  subst hx hy
  rw [nI_eq ha hb]
  exact ⟨f, g⟩
theorem pk_in {x : Int32} (n N : Nat) (h : n < N) (hx : x = nI n := by rfl) (hN : N < 2 ^ 31 := by omega) : vp_in x N := by
  subst hx
  exact vp_in_nI h hN
theorem pk_cl {x : Int32} (n : Nat) (hx : x = nI n := by rfl) (h : n < 2 ^ 31 := by omega) : x.toNatClampNeg = n := by
  subst hx
  exact nI_clamp h
theorem pk_tn {n : Nat} (h : n < 2 ^ 32) : (nI n).toBitVec.toNat = n := Nat.mod_eq_of_lt h
theorem pk_shl (a s : Int32) (k : Nat) (hs : (s.toBitVec.smod 32).toNat = k) : (a <<< s).toBitVec.toNat = a.toBitVec.toNat * 2 ^ k % 2 ^ 32 := by
  show (a.toBitVec <<< (s.toBitVec.smod 32).toNat).toNat = _
  rw [hs, BitVec.toNat_shiftLeft, Nat.shiftLeft_eq]
theorem pk_shlN {n : Nat} (s : Int32) (k : Nat) (hs : (s.toBitVec.smod 32).toNat = k) (h : n * 2 ^ k < 2 ^ 32) : nI n <<< s = nI (n * 2 ^ k) := by
  apply Int32.toBitVec_inj.mp
  apply BitVec.eq_of_toNat_eq
  have hn : n < 2 ^ 32 := Nat.lt_of_le_of_lt (Nat.le_mul_of_pos_right n (Nat.two_pow_pos k)) h
  rw [pk_shl _ _ k hs, pk_tn hn, pk_tn h, Nat.mod_eq_of_lt h]
theorem pk_shr (a s : Int32) (k : Nat) (hs : (s.toBitVec.smod 32).toNat = k) : (a >>> s).toInt = a.toInt >>> k := by
  show (a.toBitVec.sshiftRight (s.toBitVec.smod 32).toNat).toInt = _
  rw [hs, BitVec.toInt_sshiftRight]
  rfl
theorem pk_shrN {n : Nat} (h : n < 2 ^ 31) (s : Int32) (k : Nat) (hs : (s.toBitVec.smod 32).toNat = k) : nI n >>> s = nI (n / 2 ^ k) := by
  apply Int32.toInt_inj.mp
  have h2 : n / 2 ^ k ≤ n := Nat.div_le_self _ _
  rw [pk_shr _ _ k hs, nI_toInt h, nI_toInt (by omega), Int.shiftRight_eq_div_pow]
  rfl
theorem pk_loop {σ : Type} (W : Nat → Nat → σ → Prop) (I : Nat → σ → Prop) (e i0 : Nat) (s : σ) (hi : i0 ≤ e) (h0 : I i0 s) (hx : ∀ n s, I e s → W (n + 1) e s)
    (hs : ∀ n i s, i < e → I i s → (∀ s', I (i + 1) s' → W n (i + 1) s') → W (n + 1) i s) : ∃ n, W n i0 s :=
  ⟨e + 1, loop_i W I e hx hs (e + 1) i0 s hi (by omega) h0⟩
def bt (x : Int32) (i : Nat) : Bool := x.toBitVec.getLsbD i
theorem b_ext {x y : Int32} (h : ∀ i, i < 32 → bt x i = bt y i) : x = y := Int32.toBitVec_inj.mp (BitVec.eq_of_getLsbD_eq (fun i hi => h i hi))
theorem b_or (x y : Int32) (i : Nat) : bt (x ||| y) i = (bt x i || bt y i) := by unfold bt; rw [Int32.toBitVec_or, BitVec.getLsbD_or]
theorem b_and (x y : Int32) (i : Nat) : bt (x &&& y) i = (bt x i && bt y i) := by unfold bt; rw [Int32.toBitVec_and, BitVec.getLsbD_and]
theorem b_xor (x y : Int32) (i : Nat) : bt (x ^^^ y) i = (bt x i ^^ bt y i) := by unfold bt; rw [Int32.toBitVec_xor, BitVec.getLsbD_xor]
theorem b_big {x : Int32} {i : Nat} (h : 32 ≤ i) : bt x i = false := BitVec.getLsbD_of_ge _ _ h
theorem b_255 (i : Nat) : bt 255 i = decide (i < 8) := by
  rcases Nat.lt_or_ge i 32 with h | h
  · exact (by decide +kernel : ∀ i, i < 32 → bt 255 i = decide (i < 8)) i h
  · rw [b_big h, decide_eq_false (by omega)]
theorem b_65535 (i : Nat) : bt 65535 i = decide (i < 16) := by
  rcases Nat.lt_or_ge i 32 with h | h
  · exact (by decide +kernel : ∀ i, i < 32 → bt 65535 i = decide (i < 16)) i h
  · rw [b_big h, decide_eq_false (by omega)]
theorem b_m1 : ∀ i, i < 32 → bt (-1) i = true := by decide +kernel
theorem b_0 (i : Nat) : bt 0 i = false := BitVec.getLsbD_zero
theorem s_l : ∀ n, n < 32 → ((nI n &&& 31).toBitVec.smod 32).toNat = n := by decide +kernel
theorem s_u : ∀ n, n < 32 → (((nI n).toUInt32 &&& Int32.toUInt32 31).toBitVec % 32).toNat = n := by decide +kernel
theorem b_shl (n : Nat) (hn : n < 32) (x : Int32) {i : Nat} (hi : i < 32) : bt (x <<< (nI n &&& 31)) i = (decide (n ≤ i) && bt x (i - n)) := by
  unfold bt
  rw [Int32.toBitVec_shiftLeft]
  show (x.toBitVec <<< ((nI n &&& 31).toBitVec.smod 32).toNat).getLsbD i = _
  rw [s_l n hn, BitVec.getLsbD_shiftLeft]
  rcases Nat.lt_or_ge i n with h | h
  · simp [h, Nat.not_le.mpr h]
  · simp [hi, h, Nat.not_lt.mpr h]
theorem b_ushr (n : Nat) (hn : n < 32) (x : Int32) (i : Nat) : bt ((x.toUInt32 >>> ((nI n).toUInt32 &&& Int32.toUInt32 31)).toInt32) i = bt x (n + i) := by
  show (x.toUInt32 >>> ((nI n).toUInt32 &&& Int32.toUInt32 31)).toBitVec.getLsbD i = x.toUInt32.toBitVec.getLsbD (n + i)
  rw [UInt32.toBitVec_shiftRight]
  show (x.toUInt32.toBitVec >>> (((nI n).toUInt32 &&& Int32.toUInt32 31).toBitVec % 32).toNat).getLsbD i = _
  rw [s_u n hn, BitVec.getLsbD_ushiftRight]
theorem b_sshr (n : Nat) (hn : n < 32) (x : Int32) {i : Nat} (hi : i < 32) : bt (x >>> (nI n &&& 31)) i = if n + i < 32 then bt x (n + i) else bt x 31 := by
  unfold bt
  rw [Int32.toBitVec_shiftRight]
  show (x.toBitVec.sshiftRight ((nI n &&& 31).toBitVec.smod 32).toNat).getLsbD i = _
  rw [s_l n hn, BitVec.getLsbD_sshiftRight, BitVec.msb_eq_getLsbD_last]
  simp [hi]
theorem nx_and (a b : Nat) : nI a &&& nI b = nI (a &&& b) := by
  apply Int32.toBitVec_inj.1
  show BitVec.ofNat 32 a &&& BitVec.ofNat 32 b = BitVec.ofNat 32 (a &&& b)
  apply BitVec.eq_of_getLsbD_eq
  intro i hi
  simp [hi]
/-! ===== ints that are sets (ahead of these, pasted: pk_us .. pk_shrN, the family of bt, nx_and) ===== -/
theorem ck_bt (n : Nat) {i : Nat} (hi : i < 32) : bt (nI n) i = n.testBit i := by
  show (BitVec.ofNat 32 n).getLsbD i = _
  rw [BitVec.getLsbD_ofNat]
  simp [hi]
theorem ck_or (a b : Nat) : nI a ||| nI b = nI (a ||| b) := b_ext fun i hi => by
  rw [b_or, ck_bt a hi, ck_bt b hi, ck_bt _ hi, Nat.testBit_or]
theorem ck_an {a b : Nat} (ha : a < 256) : nI a &&& (nI b ^^^ (-1)) = nI (a &&& (255 ^^^ b)) := b_ext fun i hi => by
  rw [b_and, b_xor, b_m1 i hi, ck_bt a hi, ck_bt b hi, ck_bt _ hi, Nat.testBit_and]
  rcases Nat.lt_or_ge i 8 with q | q
  · rw [Nat.testBit_xor, show Nat.testBit 255 i = true from (Nat.testBit_two_pow_sub_one 8 i).trans (decide_eq_true q)]
    cases a.testBit i <;> cases b.testBit i <;> rfl
  · rw [show a.testBit i = false from Nat.testBit_lt_two_pow (Nat.lt_of_lt_of_le ha (Nat.pow_le_pow_right (n := 2) (by decide) q : 2 ^ 8 ≤ 2 ^ i))]
    rfl
theorem ck_sh {s v : Nat} (hs : s < 256) (hv : v < 8) : (nI s >>> (nI v &&& 31)) &&& 1 = nI ((s.testBit v).toNat) := by
  rw [pk_shrN (by omega) _ v (s_l v (by omega)), Nat.toNat_testBit]
  show nI (s / 2 ^ v) &&& nI 1 = _
  rw [nx_and, Nat.and_one_is_mod]
theorem ck_b1 {b : Bool} : nI b.toNat = 1 ↔ b = true := by
  cases b <;> decide
theorem ck_b0 {b : Bool} : nI b.toNat = 0 ↔ b = false := by
  cases b <;> decide
theorem ck_s1 {v : Nat} (hv : v < 8) : (1 : Int32) <<< (nI v &&& 31) = nI (2 ^ v) := by
  have p : 2 ^ v ≤ 2 ^ 8 := Nat.pow_le_pow_right (by decide) (by omega)
  have e := pk_shlN (n := 1) (nI v &&& 31) v (s_l v (by omega)) (by omega)
  rw [Nat.one_mul] at e
  exact e
end
section
/-! ===== sets below 256 by their bits ===== -/
theorem ck_hi {a i : Nat} (ha : a < 256) (hi : 8 ≤ i) : a.testBit i = false :=
  Nat.testBit_lt_two_pow (Nat.lt_of_lt_of_le ha (Nat.pow_le_pow_right (n := 2) (by decide) hi : 2 ^ 8 ≤ 2 ^ i))
theorem ck_lt {a : Nat} (h : ∀ i, 8 ≤ i → a.testBit i = false) : a < 256 := Nat.lt_pow_two_of_testBit (n := 8) a (fun i hi => h i hi)
theorem ck_b8 {a i : Nat} (ha : a < 256) (h : a.testBit i = true) : i < 8 := by
  rcases Nat.lt_or_ge i 8 with q | q
  · exact q
  · rw [ck_hi ha q] at h
    exact absurd h (by decide)
theorem ck_255 (i : Nat) : Nat.testBit 255 i = decide (i < 8) := Nat.testBit_two_pow_sub_one 8 i
theorem ck_ext {a b : Nat} (ha : a < 256) (hb : b < 256) (h : ∀ i, i < 8 → a.testBit i = b.testBit i) : a = b :=
  Nat.eq_of_testBit_eq fun i => by
    rcases Nat.lt_or_ge i 8 with hi | hi
    · exact h i hi
    · rw [ck_hi ha hi, ck_hi hb hi]
theorem ck_bool {a b : Bool} (h : a = true ↔ b = true) : a = b := by
  cases a <;> cases b <;> simp_all
theorem ck_nt {x : Bool} (h : ¬ x = true) : x = false := by
  cases x
  · rfl
  · exact absurd rfl h
theorem ck_and0 {a b : Nat} : a &&& b = 0 ↔ ∀ i, a.testBit i = true → b.testBit i = false := by
  constructor
  · intro h i hi
    have e : (a &&& b).testBit i = false := by rw [h]; exact Nat.zero_testBit i
    rw [Nat.testBit_and, hi, Bool.true_and] at e
    exact e
  · intro h
    apply Nat.eq_of_testBit_eq
    intro i
    rw [Nat.testBit_and, Nat.zero_testBit]
    cases e : a.testBit i
    · rfl
    · rw [h i e]; rfl
/-- what is left out of s -/
def ck_co (s : Nat) : Nat := 255 &&& (255 ^^^ s)
theorem ck_co_bit (s i : Nat) : (ck_co s).testBit i = (decide (i < 8) && !s.testBit i) := by
  unfold ck_co
  rw [Nat.testBit_and, Nat.testBit_xor, ck_255]
  by_cases h : i < 8
  · simp [h]
  · simp [h]
theorem ck_co_lt (s : Nat) : ck_co s < 256 := Nat.lt_of_le_of_lt Nat.and_le_left (by decide)
theorem ck_x_bit {s i : Nat} (hi : i < 8) : (255 ^^^ s).testBit i = !s.testBit i := by
  rw [Nat.testBit_xor, ck_255]
  simp [hi]
/-- s without u -/
def ck_rm (s u : Nat) : Nat := s &&& (255 ^^^ 2 ^ u)
theorem ck_rm_bit {s : Nat} (hs : s < 256) (u i : Nat) : (ck_rm s u).testBit i = (s.testBit i && !decide (i = u)) := by
  unfold ck_rm
  rw [Nat.testBit_and]
  rcases Nat.lt_or_ge i 8 with hi | hi
  · rw [ck_x_bit hi, Nat.testBit_two_pow]
    by_cases e : u = i
    · simp [e]
    · simp [e, Ne.symm e]
  · rw [ck_hi hs hi]; rfl
theorem ck_rm_lt {s : Nat} (hs : s < 256) (u : Nat) : ck_rm s u < 256 := Nat.lt_of_le_of_lt Nat.and_le_left hs
theorem ck_rm_le (s u : Nat) : ck_rm s u ≤ s := Nat.and_le_left
theorem ck_rm_s {s u : Nat} (hs : s < 256) (h : s.testBit u = true) : ck_rm s u < s := by
  refine Nat.lt_of_le_of_ne (ck_rm_le s u) fun e => ?_
  have q := ck_rm_bit hs u u
  rw [e, h] at q
  simp at q
/-! ===== the number of a set ===== -/
def ck_n (s : Nat) : Nat → Nat
  | 0 => 0
  | v + 1 => ck_n s v + (s.testBit v).toNat
theorem ck_n_le (s : Nat) : ∀ n, ck_n s n ≤ n
  | 0 => Nat.le_refl 0
  | n + 1 => by
    have h1 := ck_n_le s n
    have h2 := Bool.toNat_le (s.testBit n)
    show ck_n s n + (s.testBit n).toNat ≤ n + 1
    omega
/-! ===== the neighbours of a set ===== -/
def ck_ar (g : Nat → Nat) (s : Nat) : Nat → Nat
  | 0 => 0
  | v + 1 => if s.testBit v = true then ck_ar g s v ||| g v else ck_ar g s v
theorem ck_ar_bit (g : Nat → Nat) (s w : Nat) : ∀ n, (ck_ar g s n).testBit w = true ↔ ∃ v, v < n ∧ s.testBit v = true ∧ (g v).testBit w = true
  | 0 => by
    constructor
    · intro h
      rw [ck_ar, Nat.zero_testBit] at h
      exact absurd h (by decide)
    · rintro ⟨v, hv, _⟩
      omega
  | n + 1 => by
    have ih := ck_ar_bit g s w n
    show (if s.testBit n = true then ck_ar g s n ||| g n else ck_ar g s n).testBit w = true ↔ _
    by_cases h : s.testBit n = true
    · rw [if_pos h, Nat.testBit_or, Bool.or_eq_true, ih]
      constructor
      · rintro (⟨v, hv, a, b⟩ | b)
        · exact ⟨v, by omega, a, b⟩
        · exact ⟨n, by omega, h, b⟩
      · rintro ⟨v, hv, a, b⟩
        rcases Nat.lt_or_ge v n with q | q
        · exact Or.inl ⟨v, q, a, b⟩
        · cases (by omega : v = n)
          exact Or.inr b
    · rw [if_neg h, ih]
      constructor
      · rintro ⟨v, hv, a, b⟩
        exact ⟨v, by omega, a, b⟩
      · rintro ⟨v, hv, a, b⟩
        rcases Nat.lt_or_ge v n with q | q
        · exact ⟨v, q, a, b⟩
        · cases (by omega : v = n)
          exact absurd a h
theorem ck_ar_lt {g : Nat → Nat} (hg : ∀ v, v < 8 → g v < 256) (s : Nat) : ∀ n, n ≤ 8 → ck_ar g s n < 256
  | 0, _ => by
    show 0 < 256
    decide
  | n + 1, h => by
    have ih := ck_ar_lt hg s n (by omega)
    show (if s.testBit n = true then ck_ar g s n ||| g n else ck_ar g s n) < 256
    split
    · exact Nat.or_lt_two_pow (n := 8) ih (hg n (by omega))
    · exact ih
/-! ===== the graph: g v are the neighbours of v ===== -/
def ck_G (g : Nat → Nat) : Prop := (∀ v, v < 8 → g v < 256) ∧ (∀ v w, v < 8 → w < 8 → (g v).testBit w = true → (g w).testBit v = true) ∧ ∀ v, v < 8 → (g v).testBit v = false
theorem ck_G8 {g : Nat → Nat} (hg : ck_G g) {v w : Nat} (hv : v < 8) (h : (g v).testBit w = true) : w < 8 := ck_b8 (hg.1 v hv) h
/-- a cover -/
def ck_C (g : Nat → Nat) (s : Nat) : Prop := ∀ v w, v < 8 → s.testBit v = false → (g v).testBit w = true → s.testBit w = true
def ck_cv (g : Nat → Nat) (s : Nat) : Bool := decide (ck_ar g (ck_co s) 8 &&& ck_co s = 0)
theorem ck_cv_iff {g : Nat → Nat} (hg : ck_G g) (s : Nat) : ck_cv g s = true ↔ ck_C g s := by
  unfold ck_cv
  rw [decide_eq_true_iff, ck_and0]
  constructor
  · intro h v w hv hs hw
    have hw8 := ck_G8 hg hv hw
    have q := h w ((ck_ar_bit g _ w 8).mpr ⟨v, hv, by rw [ck_co_bit, hs]; simp [hv], hw⟩)
    rw [ck_co_bit] at q
    simpa [hw8] using q
  · intro h w hw
    obtain ⟨v, hv, a, b⟩ := (ck_ar_bit g _ w 8).mp hw
    rw [ck_co_bit] at a ⊢
    have a' : s.testBit v = false := by simpa [hv] using a
    rw [h v w hv a' b]
    simp
/-- the reference's walk of covers -/
def ck_yc (g : Nat → Nat) (s : Nat) : Nat → Bool
  | 0 => true
  | v + 1 => ck_yc g s v && (s.testBit v || decide (g v &&& (255 ^^^ s) = 0))
theorem ck_yc_iff (g : Nat → Nat) (s : Nat) : ∀ n, ck_yc g s n = true ↔ ∀ v, v < n → s.testBit v = true ∨ g v &&& (255 ^^^ s) = 0
  | 0 => ⟨fun _ v hv => absurd hv (Nat.not_lt_zero v), fun _ => rfl⟩
  | n + 1 => by
    have ih := ck_yc_iff g s n
    show (ck_yc g s n && (s.testBit n || decide (g n &&& (255 ^^^ s) = 0))) = true ↔ _
    rw [Bool.and_eq_true, ih, Bool.or_eq_true, decide_eq_true_iff]
    constructor
    · rintro ⟨a, b⟩ v hv
      rcases Nat.lt_or_ge v n with q | q
      · exact a v q
      · cases (by omega : v = n)
        exact b
    · intro h
      exact ⟨fun v hv => h v (by omega), h n (by omega)⟩
theorem ck_yc_cv {g : Nat → Nat} (hg : ck_G g) (s : Nat) : ck_yc g s 8 = ck_cv g s := by
  apply ck_bool
  rw [ck_yc_iff, ck_cv_iff hg]
  constructor
  · intro h v w hv hs hw
    rcases h v hv with a | a
    · rw [hs] at a
      exact absurd a (by decide)
    · have q := ck_and0.mp a w hw
      rw [ck_x_bit (ck_G8 hg hv hw)] at q
      simpa using q
  · intro h v hv
    cases e : s.testBit v
    · refine Or.inr (ck_and0.mpr fun w hw => ?_)
      rw [ck_x_bit (ck_G8 hg hv hw), h v w hv e hw]
      rfl
    · exact Or.inl rfl
theorem ck_C255 {g : Nat → Nat} (hg : ck_G g) : ck_cv g 255 = true :=
  (ck_cv_iff hg 255).mpr fun v w hv h _ => by
    rw [ck_255, decide_eq_true hv] at h
    exact absurd h (by decide)
/-! ===== tight covers ===== -/
def ck_xt (g : Nat → Nat) (s : Nat) : Bool := decide (s &&& (255 ^^^ ck_ar g (ck_co s) 8) = 0)
def ck_yt (g : Nat → Nat) (s : Nat) : Nat → Bool
  | 0 => ck_cv g s
  | v + 1 => ck_yt g s v && (!s.testBit v || !ck_cv g (ck_rm s v))
theorem ck_yt_iff (g : Nat → Nat) (s : Nat) : ∀ n, ck_yt g s n = true ↔ ck_cv g s = true ∧ ∀ v, v < n → s.testBit v = true → ck_cv g (ck_rm s v) = false
  | 0 => ⟨fun h => ⟨h, fun v hv => absurd hv (Nat.not_lt_zero v)⟩, fun h => h.1⟩
  | n + 1 => by
    have ih := ck_yt_iff g s n
    show (ck_yt g s n && (!s.testBit n || !ck_cv g (ck_rm s n))) = true ↔ _
    rw [Bool.and_eq_true, ih]
    constructor
    · rintro ⟨⟨a, b⟩, c⟩
      refine ⟨a, fun v hv hs => ?_⟩
      rcases Nat.lt_or_ge v n with q | q
      · exact b v q hs
      · cases (by omega : v = n)
        rw [hs] at c
        simpa using c
    · rintro ⟨a, b⟩
      refine ⟨⟨a, fun v hv => b v (by omega)⟩, ?_⟩
      cases e : s.testBit n
      · rfl
      · rw [b n (by omega) e]; rfl
theorem ck_rm_C {g : Nat → Nat} (hg : ck_G g) {s v : Nat} (hs : s < 256) (hv : v < 8) (hc : ck_C g s) : ck_C g (ck_rm s v) ↔ ∀ w, (g v).testBit w = true → s.testBit w = true := by
  constructor
  · intro h w hw
    have q := h v w hv (by rw [ck_rm_bit hs]; simp) hw
    rw [ck_rm_bit hs] at q
    simp at q
    exact q.1
  · intro h a w ha hr hw
    rw [ck_rm_bit hs] at hr ⊢
    by_cases e : a = v
    · rw [e] at hw
      have n : w ≠ v := fun z => by
        rw [z, hg.2.2 v hv] at hw
        exact absurd hw (by decide)
      rw [h w hw]
      simp [n]
    · have hsa : s.testBit a = false := by simpa [e] using hr
      have n : w ≠ v := fun z => by
        rw [z] at hw
        rw [h a (hg.2.1 a v ha hv hw)] at hsa
        exact absurd hsa (by decide)
      rw [hc a w ha hsa hw]
      simp [n]
theorem ck_tight {g : Nat → Nat} (hg : ck_G g) {s : Nat} (hs : s < 256) : ck_yt g s 8 = (ck_cv g s && ck_xt g s) := by
  apply ck_bool
  rw [ck_yt_iff, Bool.and_eq_true]
  refine and_congr_right fun hcv => ?_
  have hc := (ck_cv_iff hg s).mp hcv
  unfold ck_xt
  rw [decide_eq_true_iff, ck_and0]
  constructor
  · intro h v hv
    have hv8 := ck_b8 hs hv
    rw [ck_x_bit hv8]
    have q := h v hv8 hv
    by_cases z : ∀ w, (g v).testBit w = true → s.testBit w = true
    · rw [(ck_cv_iff hg _).mpr ((ck_rm_C hg hs hv8 hc).mpr z)] at q
      exact absurd q (by decide)
    · obtain ⟨w, hw⟩ := Classical.not_forall.mp z
      obtain ⟨hw1, hw2⟩ := Classical.not_imp.mp hw
      have hw8 := ck_G8 hg hv8 hw1
      have hw3 : s.testBit w = false := by simpa using hw2
      rw [(ck_ar_bit g _ v 8).mpr ⟨w, hw8, by rw [ck_co_bit, hw3]; simp [hw8], hg.2.1 v w hv8 hw8 hw1⟩]
      rfl
  · intro h v hv8 hv
    have q := h v hv
    rw [ck_x_bit hv8] at q
    have q' : (ck_ar g (ck_co s) 8).testBit v = true := by simpa using q
    obtain ⟨u, hu, a, b⟩ := (ck_ar_bit g _ v 8).mp q'
    rw [ck_co_bit] at a
    have a' : s.testBit u = false := by simpa [hu] using a
    cases e : ck_cv g (ck_rm s v)
    · rfl
    · have z := (ck_rm_C hg hs hv8 hc).mp ((ck_cv_iff hg _).mp e) u (hg.2.1 u v hu hv8 b)
      rw [a'] at z
      exact absurd z (by decide)
end
section
/-! ===== half covers: h v halves at v ===== -/
def ck_sm (h : Nat → Nat) : Nat → Nat
  | 0 => 0
  | v + 1 => ck_sm h v + h v
theorem ck_sm_le {h h' : Nat → Nat} : ∀ n, (∀ v, v < n → h v ≤ h' v) → ck_sm h n ≤ ck_sm h' n
  | 0, _ => Nat.le_refl 0
  | n + 1, H => by
    have a := ck_sm_le n (fun v hv => H v (by omega))
    have b := H n (by omega)
    show ck_sm h n + h n ≤ ck_sm h' n + h' n
    omega
theorem ck_sm_eq {h h' : Nat → Nat} : ∀ n, (∀ v, v < n → h v ≤ h' v) → ck_sm h' n ≤ ck_sm h n → ∀ v, v < n → h' v = h v
  | 0, _, _, v, hv => absurd hv (Nat.not_lt_zero v)
  | n + 1, H, E, v, hv => by
    have a := ck_sm_le n (fun v hv => H v (by omega))
    have b := H n (by omega)
    have E' : ck_sm h' n + h' n ≤ ck_sm h n + h n := E
    rcases Nat.lt_or_ge v n with q | q
    · exact ck_sm_eq n (fun v hv => H v (by omega)) (by omega) v q
    · have e : v = n := by omega
      rw [e]
      omega
theorem ck_sm_cg {h h' : Nat → Nat} : ∀ n, (∀ v, v < n → h v = h' v) → ck_sm h n = ck_sm h' n
  | 0, _ => rfl
  | n + 1, H => by
    show ck_sm h n + h n = ck_sm h' n + h' n
    rw [ck_sm_cg n (fun v hv => H v (by omega)), H n (by omega)]
theorem ck_sm_2 {h : Nat → Nat} : ∀ n, (∀ v, v < n → h v ≤ 2) → ck_sm h n ≤ 2 * n
  | 0, _ => Nat.le_refl 0
  | n + 1, H => by
    have a := ck_sm_2 n (fun v hv => H v (by omega))
    have b := H n (by omega)
    show ck_sm h n + h n ≤ 2 * (n + 1)
    omega
/-- a half cover -/
def ck_hc (g h : Nat → Nat) : Prop := ∀ v w, v < 8 → w < v → (g v).testBit w = true → 2 ≤ h v + h w
theorem ck_hc_cg {g h h' : Nat → Nat} (H : ∀ v, v < 8 → h v = h' v) (k : ck_hc g h) : ck_hc g h' := fun v w hv hw e => by
  have q := k v w hv hw e
  rw [H v hv, H w (by omega)] at q
  exact q
/-- the cheapest half cover with just the zeros z -/
def ck_hv (g : Nat → Nat) (z v : Nat) : Nat := if z.testBit v = true then 0 else if (ck_ar g z 8).testBit v = true then 2 else 1
theorem ck_hv_0 {g : Nat → Nat} {z v : Nat} (h : z.testBit v = true) : ck_hv g z v = 0 := if_pos h
theorem ck_hv_2 {g : Nat → Nat} {z v : Nat} (h : ¬ z.testBit v = true) (h2 : (ck_ar g z 8).testBit v = true) : ck_hv g z v = 2 := (if_neg h).trans (if_pos h2)
theorem ck_hv_1 {g : Nat → Nat} {z v : Nat} (h : ¬ z.testBit v = true) (h2 : ¬ (ck_ar g z 8).testBit v = true) : ck_hv g z v = 1 := (if_neg h).trans (if_neg h2)
theorem ck_hv_le (g : Nat → Nat) (z v : Nat) : ck_hv g z v ≤ 2 := by
  unfold ck_hv
  split
  · omega
  · split <;> omega
def ck_ok (g : Nat → Nat) (z : Nat) : Prop := ck_ar g z 8 &&& z = 0
theorem ck_ok_n {g : Nat → Nat} {z v : Nat} (k : ck_ok g z) (h : (ck_ar g z 8).testBit v = true) : ¬ z.testBit v = true := by
  rw [ck_and0.mp k v h]
  decide
theorem ck_hv_sum {g : Nat → Nat} {z : Nat} (k : ck_ok g z) : ∀ n, ck_sm (ck_hv g z) n + ck_n z n = n + ck_n (ck_ar g z 8) n
  | 0 => rfl
  | n + 1 => by
    have ih := ck_hv_sum k n
    show ck_sm (ck_hv g z) n + ck_hv g z n + (ck_n z n + (z.testBit n).toNat) = n + 1 + (ck_n (ck_ar g z 8) n + ((ck_ar g z 8).testBit n).toNat)
    have q : ck_hv g z n + (z.testBit n).toNat = 1 + ((ck_ar g z 8).testBit n).toNat := by
      by_cases a : (ck_ar g z 8).testBit n = true
      · have b := ck_ok_n k a
        rw [ck_hv_2 b a, a, ck_nt b]
        rfl
      · by_cases b : z.testBit n = true
        · rw [ck_hv_0 b, b, ck_nt a]
          rfl
        · rw [ck_hv_1 b a, ck_nt a, ck_nt b]
    omega
theorem ck_hv_hc {g : Nat → Nat} (hg : ck_G g) {z : Nat} (k : ck_ok g z) : ck_hc g (ck_hv g z) := by
  intro v w hv hwv e
  have hw : w < 8 := by omega
  by_cases a : z.testBit v = true
  · have b : (ck_ar g z 8).testBit w = true := (ck_ar_bit g z w 8).mpr ⟨v, hv, a, e⟩
    rw [ck_hv_2 (ck_ok_n k b) b]
    omega
  · by_cases b : z.testBit w = true
    · have c : (ck_ar g z 8).testBit v = true := (ck_ar_bit g z v 8).mpr ⟨w, hw, b, hg.2.1 v w hv hw e⟩
      rw [ck_hv_2 a c]
      omega
    · have p : ∀ x, ¬ z.testBit x = true → 1 ≤ ck_hv g z x := by
        intro x hx
        by_cases c : (ck_ar g z 8).testBit x = true
        · rw [ck_hv_2 hx c]; omega
        · rw [ck_hv_1 hx c]; omega
      have p1 := p v a
      have p2 := p w b
      omega
/-! ===== the set of what holds ===== -/
def ck_st (p : Nat → Bool) : Nat → Nat
  | 0 => 0
  | v + 1 => if p v = true then ck_st p v ||| 2 ^ v else ck_st p v
theorem ck_st_bit (p : Nat → Bool) (i : Nat) : ∀ n, (ck_st p n).testBit i = (decide (i < n) && p i)
  | 0 => by
    show Nat.testBit 0 i = _
    rw [Nat.zero_testBit]
    simp
  | n + 1 => by
    have ih := ck_st_bit p i n
    show (if p n = true then ck_st p n ||| 2 ^ n else ck_st p n).testBit i = _
    by_cases e : n = i
    · rw [← e] at ih ⊢
      by_cases q : p n = true
      · rw [if_pos q, Nat.testBit_or, ih, Nat.testBit_two_pow, q]
        simp
      · rw [if_neg q, ih, ck_nt q]
        simp
    · have hlt : (i < n + 1) = (i < n) := propext ⟨fun _ => by omega, fun _ => by omega⟩
      by_cases q : p n = true
      · rw [if_pos q, Nat.testBit_or, ih, Nat.testBit_two_pow, decide_eq_false e, Bool.or_false]
        simp only [hlt]
      · rw [if_neg q, ih]
        simp only [hlt]
theorem ck_st_lt (p : Nat → Bool) {n : Nat} (hn : n ≤ 8) : ck_st p n < 256 := ck_lt fun i hi => by
  rw [ck_st_bit, decide_eq_false (by omega)]
  rfl
theorem ck_st_cg {p q : Nat → Bool} : ∀ n, (∀ v, v < n → p v = q v) → ck_st p n = ck_st q n
  | 0, _ => rfl
  | n + 1, H => by
    show (if p n = true then ck_st p n ||| 2 ^ n else ck_st p n) = (if q n = true then ck_st q n ||| 2 ^ n else ck_st q n)
    rw [ck_st_cg n (fun v hv => H v (by omega)), H n (by omega)]
/-- every half cover is no cheaper than that of its zeros -/
theorem ck_hc_z {g h : Nat → Nat} (hg : ck_G g) (k : ck_hc g h) (z : Nat) (hz : ∀ v, v < 8 → (z.testBit v = true ↔ h v = 0)) (hz8 : z < 256) : ck_ok g z ∧ ∀ v, v < 8 → ck_hv g z v ≤ h v := by
  have E : ∀ v w, v < 8 → w < 8 → (g v).testBit w = true → 2 ≤ h v + h w := by
    intro v w hv hw e
    rcases Nat.lt_trichotomy w v with q | q | q
    · exact k v w hv q e
    · rw [q, hg.2.2 v hv] at e
      exact absurd e (by decide)
    · have x := k w v hw q (hg.2.1 v w hv hw e)
      omega
  have A : ∀ v, (ck_ar g z 8).testBit v = true → v < 8 ∧ 2 ≤ h v := by
    intro v hv
    obtain ⟨u, hu, a, b⟩ := (ck_ar_bit g z v 8).mp hv
    have hv8 := ck_G8 hg hu b
    have x := E u v hu hv8 b
    rw [(hz u hu).mp a] at x
    exact ⟨hv8, by omega⟩
  refine ⟨ck_and0.mpr fun v hv => ?_, fun v hv => ?_⟩
  · obtain ⟨hv8, h2⟩ := A v hv
    cases e : z.testBit v
    · rfl
    · have := (hz v hv8).mp e
      omega
  · by_cases a : z.testBit v = true
    · rw [ck_hv_0 a]
      omega
    · by_cases b : (ck_ar g z 8).testBit v = true
      · rw [ck_hv_2 a b]
        exact (A v b).2
      · rw [ck_hv_1 a b]
        have : ¬ h v = 0 := fun x => a ((hz v hv).mpr x)
        omega
/-! ===== codes ===== -/
def ck_d (c v : Nat) : Nat := c / 3 ^ v % 3
theorem ck_d_lt (c v : Nat) : ck_d c v < 3 := Nat.mod_lt _ (by decide)
def ck_cd (h : Nat → Nat) : Nat → Nat
  | 0 => 0
  | v + 1 => ck_cd h v + 3 ^ v * h v
theorem ck_cd_lt {h : Nat → Nat} (H : ∀ v, h v ≤ 2) : ∀ n, ck_cd h n < 3 ^ n
  | 0 => by
    show 0 < 1
    decide
  | n + 1 => by
    have ih := ck_cd_lt H n
    have a : 3 ^ n * h n ≤ 3 ^ n * 2 := Nat.mul_le_mul_left _ (H n)
    have b : 3 ^ (n + 1) = 3 ^ n * 3 := Nat.pow_succ _ _
    show ck_cd h n + 3 ^ n * h n < 3 ^ (n + 1)
    omega
theorem ck_cd_d {h : Nat → Nat} (H : ∀ v, h v ≤ 2) : ∀ n v, v < n → ck_d (ck_cd h n) v = h v
  | 0, v, hv => absurd hv (Nat.not_lt_zero v)
  | n + 1, v, hv => by
    show (ck_cd h n + 3 ^ n * h n) / 3 ^ v % 3 = h v
    rcases Nat.lt_or_ge v n with q | q
    · obtain ⟨d, rfl⟩ : ∃ d, n = v + 1 + d := ⟨n - (v + 1), by omega⟩
      have ih := ck_cd_d H (v + 1 + d) v q
      have e : 3 ^ (v + 1 + d) * h (v + 1 + d) = 3 ^ v * (3 * (3 ^ d * h (v + 1 + d))) := by
        rw [Nat.pow_add, Nat.pow_succ, Nat.mul_assoc, Nat.mul_assoc]
      rw [e, Nat.add_mul_div_left _ _ (Nat.pow_pos (by decide)), Nat.add_mul_mod_self_left]
      exact ih
    · have e : v = n := by omega
      rw [e, Nat.add_mul_div_left _ _ (Nat.pow_pos (by decide)), Nat.div_eq_of_lt (ck_cd_lt H n), Nat.zero_add, Nat.mod_eq_of_lt]
      have := H n
      omega
/-! ===== the least cost, by zeros and by codes ===== -/
def ck_cost (g : Nat → Nat) (z : Nat) : Nat := if ck_ar g z 8 &&& z = 0 then 8 + ck_n (ck_ar g z 8) 8 - ck_n z 8 else 17
theorem ck_cost_ok {g : Nat → Nat} {z : Nat} (k : ck_ok g z) : ck_cost g z = ck_sm (ck_hv g z) 8 := by
  have a := ck_hv_sum k 8
  have e : ck_cost g z = 8 + ck_n (ck_ar g z 8) 8 - ck_n z 8 := if_pos k
  omega
theorem ck_cost_16 {g : Nat → Nat} {z : Nat} (k : ck_ok g z) : ck_cost g z ≤ 16 := by
  rw [ck_cost_ok k]
  exact ck_sm_2 8 (fun v _ => ck_hv_le g z v)
theorem ck_cost_no {g : Nat → Nat} {z : Nat} (k : ¬ ck_ok g z) : ck_cost g z = 17 := if_neg k
theorem ck_cost_17 (g : Nat → Nat) (z : Nat) : ck_cost g z ≤ 17 := by
  by_cases k : ck_ok g z
  · have := ck_cost_16 k
    omega
  · rw [ck_cost_no k]
    exact Nat.le_refl _
/-- m is the least cost, as the component finds it -/
def ck_mX (g : Nat → Nat) (m : Nat) : Prop := (∀ z, z < 256 → m ≤ ck_cost g z) ∧ ∃ z, z < 256 ∧ ck_cost g z = m ∧ m ≤ 16
/-- as the reference finds it -/
def ck_mY (g : Nat → Nat) (m : Nat) : Prop := (∀ c, c < 6561 → ck_hc g (ck_d c) → m ≤ ck_sm (ck_d c) 8) ∧ ∃ c, c < 6561 ∧ ck_hc g (ck_d c) ∧ ck_sm (ck_d c) 8 = m
theorem ck_mY_u {g : Nat → Nat} {m m' : Nat} (h : ck_mY g m) (h' : ck_mY g m') : m = m' := by
  obtain ⟨a, c, hc, k, e⟩ := h
  obtain ⟨a', c', hc', k', e'⟩ := h'
  have x := a c' hc' k'
  have y := a' c hc k
  omega
theorem ck_z0 (g : Nat → Nat) : ck_cost g 0 = 8 := by
  have a : ∀ n, ck_ar g 0 n = 0 := by
    intro n
    induction n with
    | zero => rfl
    | succ n ih =>
      show (if Nat.testBit 0 n = true then ck_ar g 0 n ||| g n else ck_ar g 0 n) = 0
      rw [Nat.zero_testBit, if_neg (by decide), ih]
  have b : ck_n 0 8 = 0 := by decide
  unfold ck_cost
  rw [a 8, b]
  rfl
/-- zeros give a code -/
theorem ck_zc {g : Nat → Nat} (hg : ck_G g) {z : Nat} (k : ck_ok g z) : ∃ c, c < 6561 ∧ ck_hc g (ck_d c) ∧ ck_sm (ck_d c) 8 = ck_cost g z ∧ ∀ v, v < 8 → ck_d c v = ck_hv g z v := by
  have D := ck_cd_d (h := ck_hv g z) (ck_hv_le g z) 8
  refine ⟨ck_cd (ck_hv g z) 8, ck_cd_lt (ck_hv_le g z) 8, ck_hc_cg (fun v hv => (D v hv).symm) (ck_hv_hc hg k), ?_, D⟩
  rw [ck_cost_ok k]
  exact ck_sm_cg 8 D
/-- a code gives zeros, no dearer; as dear: the same halves -/
theorem ck_cz {g : Nat → Nat} (hg : ck_G g) {c : Nat} (k : ck_hc g (ck_d c)) : ∃ z, z < 256 ∧ ck_ok g z ∧ ck_cost g z ≤ ck_sm (ck_d c) 8 ∧ (ck_sm (ck_d c) 8 ≤ ck_cost g z → ∀ v, v < 8 → ck_d c v = ck_hv g z v) := by
  have hz : ∀ v, v < 8 → ((ck_st (fun v => decide (ck_d c v = 0)) 8).testBit v = true ↔ ck_d c v = 0) := by
    intro v hv
    rw [ck_st_bit, decide_eq_true hv, Bool.true_and, decide_eq_true_iff]
  have h8 := ck_st_lt (fun v => decide (ck_d c v = 0)) (Nat.le_refl 8)
  obtain ⟨a, b⟩ := ck_hc_z hg k _ hz h8
  refine ⟨_, h8, a, ?_, fun e => ?_⟩
  · rw [ck_cost_ok a]
    exact ck_sm_le 8 b
  · rw [ck_cost_ok a] at e
    exact ck_sm_eq 8 b e
theorem ck_mXY {g : Nat → Nat} (hg : ck_G g) {m : Nat} (h : ck_mX g m) : ck_mY g m := by
  obtain ⟨a, z, hz, e, h16⟩ := h
  refine ⟨fun c hc k => ?_, ?_⟩
  · obtain ⟨z', hz', _, le, _⟩ := ck_cz hg k
    have := a z' hz'
    omega
  · have ok : ck_ok g z := Classical.byContradiction fun n => by
      have := ck_cost_no n
      omega
    obtain ⟨c, hc, k, s, _⟩ := ck_zc hg ok
    exact ⟨c, hc, k, s.trans e⟩
/-- best zeros and best codes give the same halves -/
theorem ck_bXY {g : Nat → Nat} (hg : ck_G g) {m : Nat} (h16 : m ≤ 16) {z : Nat} (e : ck_cost g z = m) : ∃ c, c < 6561 ∧ ck_hc g (ck_d c) ∧ ck_sm (ck_d c) 8 = m ∧ ∀ v, v < 8 → ck_d c v = ck_hv g z v := by
  have ok : ck_ok g z := Classical.byContradiction fun n => by
    have := ck_cost_no n
    omega
  obtain ⟨c, hc, k, s, d⟩ := ck_zc hg ok
  exact ⟨c, hc, k, s.trans e, d⟩
theorem ck_bYX {g : Nat → Nat} (hg : ck_G g) {m : Nat} (h : ck_mX g m) {c : Nat} (k : ck_hc g (ck_d c)) (e : ck_sm (ck_d c) 8 = m) : ∃ z, z < 256 ∧ ck_cost g z = m ∧ ∀ v, v < 8 → ck_d c v = ck_hv g z v := by
  obtain ⟨z, hz, ok, le, q⟩ := ck_cz hg k
  have := h.1 z hz
  exact ⟨z, hz, by omega, q (by omega)⟩
end
section
/-! ===== matchings: k edges, no two with a common end, inside S ===== -/
def ck_dl (S : Nat → Bool) (u : Nat) : Nat → Bool := fun i => S i && !decide (i = u)
theorem ck_dl_t {S : Nat → Bool} {u i : Nat} : ck_dl S u i = true ↔ S i = true ∧ i ≠ u := by
  show (S i && !decide (i = u)) = true ↔ _
  simp
def ck_mt (g : Nat → Nat) : Nat → (Nat → Bool) → Prop
  | 0, _ => True
  | k + 1, S => ∃ u w, u < 8 ∧ w < 8 ∧ S u = true ∧ S w = true ∧ (g u).testBit w = true ∧ ck_mt g k (ck_dl (ck_dl S u) w)
theorem ck_mt_mono {g : Nat → Nat} : ∀ k {S T : Nat → Bool}, (∀ i, S i = true → T i = true) → ck_mt g k S → ck_mt g k T
  | 0, _, _, _, _ => trivial
  | k + 1, S, T, h, H => by
    obtain ⟨u, w, hu, hw, a, b, e, m⟩ := H
    refine ⟨u, w, hu, hw, h u a, h w b, e, ck_mt_mono k (fun i hi => ?_) m⟩
    rw [ck_dl_t, ck_dl_t] at hi ⊢
    exact ⟨⟨h i hi.1.1, hi.1.2⟩, hi.2⟩
/-- a matching leaves v alone, or joins it to a partner -/
theorem ck_mt_v {g : Nat → Nat} (hg : ck_G g) {v : Nat} (hv : v < 8) : ∀ k {S : Nat → Bool}, ck_mt g k S → ck_mt g k (ck_dl S v) ∨ ∃ w j, w < 8 ∧ S w = true ∧ w ≠ v ∧ (g v).testBit w = true ∧ k = j + 1 ∧ ck_mt g j (ck_dl (ck_dl S v) w)
  | 0, _, _ => Or.inl trivial
  | k + 1, S, H => by
    obtain ⟨u, w, hu, hw, a, b, e, m⟩ := H
    have huw : u ≠ w := fun z => by
      rw [z, hg.2.2 w hw] at e
      exact absurd e (by decide)
    by_cases x : u = v
    · rw [x] at m e huw
      exact Or.inr ⟨w, k, hw, b, Ne.symm huw, e, rfl, m⟩
    · by_cases y : w = v
      · rw [y] at m e
        refine Or.inr ⟨u, k, hu, a, x, hg.2.1 u v hu hv e, rfl, ck_mt_mono k (fun i hi => ?_) m⟩
        rw [ck_dl_t, ck_dl_t] at hi ⊢
        exact ⟨⟨hi.1.1, hi.2⟩, hi.1.2⟩
      · rcases ck_mt_v hg hv k m with q | ⟨w', j, hw', c, d, e', kj, m'⟩
        · refine Or.inl ⟨u, w, hu, hw, ck_dl_t.mpr ⟨a, x⟩, ck_dl_t.mpr ⟨b, y⟩, e, ck_mt_mono k (fun i hi => ?_) q⟩
          rw [ck_dl_t, ck_dl_t, ck_dl_t] at hi ⊢
          exact ⟨⟨⟨hi.1.1.1, hi.2⟩, hi.1.1.2⟩, hi.1.2⟩
        · rw [ck_dl_t, ck_dl_t] at c
          refine Or.inr ⟨w', k, hw', c.1.1, d, e', rfl, ?_⟩
          rw [kj]
          refine ⟨u, w, hu, hw, ck_dl_t.mpr ⟨ck_dl_t.mpr ⟨a, x⟩, Ne.symm c.1.2⟩, ck_dl_t.mpr ⟨ck_dl_t.mpr ⟨b, y⟩, Ne.symm c.2⟩, e, ck_mt_mono j (fun i hi => ?_) m'⟩
          rw [ck_dl_t, ck_dl_t, ck_dl_t, ck_dl_t] at hi ⊢
          exact ⟨⟨⟨⟨hi.1.1.1.1, hi.1.2⟩, hi.2⟩, hi.1.1.1.2⟩, hi.1.1.2⟩
/-- b is the greatest number of such edges in s -/
def ck_iM (g : Nat → Nat) (s b : Nat) : Prop := ck_mt g b s.testBit ∧ ∀ j, ck_mt g j s.testBit → j ≤ b
theorem ck_iM_u {g : Nat → Nat} {s b c : Nat} (h : ck_iM g s b) (h' : ck_iM g s c) : b = c := Nat.le_antisymm (h'.2 b h.1) (h.2 c h'.1)
theorem ck_iM_0 (g : Nat → Nat) : ck_iM g 0 0 := by
  refine ⟨trivial, fun j h => ?_⟩
  cases j with
  | zero => exact Nat.le_refl 0
  | succ j =>
    obtain ⟨u, w, _, _, a, _⟩ := h
    rw [Nat.zero_testBit] at a
    exact absurd a (by decide)
theorem ck_rm_dl {s : Nat} (hs : s < 256) (u : Nat) : (ck_rm s u).testBit = ck_dl s.testBit u := funext fun i => ck_rm_bit hs u i
/-- what a walk over the partners below n of v has found in s: b -/
def ck_pw (g : Nat → Nat) (s v n b : Nat) : Prop := ck_mt g b s.testBit ∧ (∀ j, ck_mt g j (ck_rm s v).testBit → j ≤ b) ∧ (∀ w, w < n → (ck_rm s v).testBit w = true → (g v).testBit w = true → ∀ j, ck_mt g j (ck_rm (ck_rm s v) w).testBit → j + 1 ≤ b) ∧ b ≤ ck_rm s v
theorem ck_pw_0 {g : Nat → Nat} {s v b : Nat} (hs : s < 256) (h : ck_iM g (ck_rm s v) b) (hb : b ≤ ck_rm s v) : ck_pw g s v 0 b := by
  refine ⟨ck_mt_mono b (fun i hi => ?_) h.1, h.2, fun w hw => absurd hw (Nat.not_lt_zero w), hb⟩
  rw [ck_rm_bit hs] at hi
  rw [Bool.and_eq_true] at hi
  exact hi.1
/-- w is no partner -/
theorem ck_pw_n {g : Nat → Nat} {s v n b : Nat} (h : ck_pw g s v n b) (q : (ck_rm s v).testBit n = true → (g v).testBit n = true → False) : ck_pw g s v (n + 1) b := by
  refine ⟨h.1, h.2.1, fun w hw a e => ?_, h.2.2.2⟩
  rcases Nat.lt_or_ge w n with z | z
  · exact h.2.2.1 w z a e
  · have y : w = n := by omega
    rw [y] at a e
    exact absurd (q a e) id
/-- w is one, with c there -/
theorem ck_pw_y {g : Nat → Nat} {s v n b c b' : Nat} (hs : s < 256) (hv : v < 8) (hn : n < 8) (hsv : s.testBit v = true) (h : ck_pw g s v n b) (a : (ck_rm s v).testBit n = true) (e : (g v).testBit n = true) (hc : ck_iM g (ck_rm (ck_rm s v) n) c) (hcl : c ≤ ck_rm (ck_rm s v) n) (hb : b' = if b < c + 1 then c + 1 else b) : ck_pw g s v (n + 1) b' := by
  have hr := ck_rm_lt hs v
  have lt := ck_rm_s hr a
  have M : ck_mt g (c + 1) s.testBit := by
    have a' := a
    rw [ck_rm_bit hs, Bool.and_eq_true] at a'
    refine ⟨v, n, hv, hn, hsv, a'.1, e, ?_⟩
    rw [← ck_rm_dl hs, ← ck_rm_dl hr]
    exact hc.1
  have B1 : b ≤ b' := by
    rw [hb]
    split <;> omega
  have B2 : c + 1 ≤ b' := by
    rw [hb]
    split <;> omega
  refine ⟨?_, fun j hj => Nat.le_trans (h.2.1 j hj) B1, fun w hw a1 e1 j hj => ?_, ?_⟩
  · rw [hb]
    split
    · exact M
    · exact h.1
  · rcases Nat.lt_or_ge w n with z | z
    · exact Nat.le_trans (h.2.2.1 w z a1 e1 j hj) B1
    · have y : w = n := by omega
      rw [y] at hj
      have := hc.2 j hj
      omega
  · have := h.2.2.2
    rw [hb]
    split <;> omega
theorem ck_pw_e {g : Nat → Nat} (hg : ck_G g) {s v n b : Nat} (hs : s < 256) (hv : v < 8) (hn : ∀ w, (ck_rm s v).testBit w = true → w < n) (h : ck_pw g s v n b) : ck_iM g s b := by
  refine ⟨h.1, fun j hj => ?_⟩
  have hr := ck_rm_lt hs v
  rcases ck_mt_v hg hv j hj with q | ⟨w, j', hw, a, d, e, k, m⟩
  · rw [← ck_rm_dl hs] at q
    exact h.2.1 j q
  · rw [← ck_rm_dl hs, ← ck_rm_dl hr] at m
    have a' : (ck_rm s v).testBit w = true := by
      rw [ck_rm_bit hs, a]
      simp [d]
    rw [k]
    exact h.2.2.1 w (hn w a') a' e j' m
/-- the component's sets: v and a rest below -/
theorem ck_top {v r : Nat} (hv : v < 8) (hr : r < 2 ^ v) : 2 ^ v ||| r = 2 ^ v + r ∧ 2 ^ v + r < 256 ∧ (2 ^ v + r).testBit v = true ∧ ck_rm (2 ^ v + r) v = r := by
  have e : 2 ^ v ||| r = 2 ^ v + r := by
    have := Nat.two_pow_add_eq_or_of_lt hr 1
    rw [Nat.mul_one] at this
    exact this.symm
  have p : 2 ^ (v + 1) ≤ 2 ^ 8 := Nat.pow_le_pow_right (by decide) hv
  have lt : 2 ^ v + r < 256 := by
    have q : 2 ^ (v + 1) = 2 ^ v * 2 := Nat.pow_succ _ _
    omega
  have r8 : r < 256 := by omega
  have rv : r.testBit v = false := Nat.testBit_lt_two_pow hr
  refine ⟨e, lt, ?_, ck_ext (ck_rm_lt lt v) r8 fun i hi => ?_⟩
  · rw [← e, Nat.testBit_or, Nat.testBit_two_pow_self]
    rfl
  · rw [ck_rm_bit lt, ← e, Nat.testBit_or, Nat.testBit_two_pow]
    by_cases x : v = i
    · rw [← x, rv]
      simp
    · simp [x, Ne.symm x]
end
section
/-! ===== the walks of the small methods, each with a general post ===== -/
/-- the array of a graph -/
def ck_A (g : Nat → Nat) : Nat → Int32 := fun i => nI (g i)
theorem ck_at {g : Nat → Nat} {v : Nat} (hv : v < 8) : ck_A g (nI v).toNatClampNeg = nI (g v) := by
  rw [nI_clamp (by omega)]
  rfl
theorem ck_in {v : Nat} (hv : v < 8) : vp_in (nI v) 8 := vp_in_nI hv (by decide)
theorem ck_8 {v : Nat} (hv : v < 8) : ¬ (8 : Int32) ≤ nI v := nI_ge (b := 8) hv (by decide)
theorem ck_88 : (8 : Int32) ≤ nI 8 := nI_le (a := 8) (b := 8) (Nat.le_refl 8) (by decide)
theorem ck_256 {v : Nat} (hv : v < 256) : ¬ (256 : Int32) ≤ nI v := nI_ge (b := 256) hv (by decide)
theorem ck_256e : (256 : Int32) ≤ nI 256 := nI_le (a := 256) (b := 256) (Nat.le_refl 256) (by decide)
theorem ck_eq0 {a : Nat} (ha : a < 2 ^ 31) : nI a = 0 ↔ a = 0 := nI_eq (b := 0) ha (by decide)
/-! size and count -/
theorem ck_Xsz_l {post : Int32 → Prop} {s : Nat} (hs : s < 256) (H : post (nI (ck_n s 8))) : ∀ d v, v + d = 8 → wX_size_4 post (nI s) (d + 1) (nI (ck_n s v)) (nI v) := by
  intro d
  induction d with
  | zero =>
    intro v hv
    cases (by omega : v = 8)
    exact br_t ck_88 H
  | succ d ih =>
    intro v hv
    have e : nI (ck_n s v) + ((nI s >>> (nI v &&& 31)) &&& 1) = nI (ck_n s (v + 1)) := by
      rw [ck_sh hs (by omega), nI_add]
      rfl
    exact br_f (ck_8 (by omega)) (nm_r e (nm_r (nI_1 v) (ih (v + 1) (by omega))))
theorem ck_Xsz {post : Int32 → Prop} {s : Nat} (hs : s < 256) (H : post (nI (ck_n s 8))) : wpX_size post (nI s) := ⟨9, ck_Xsz_l hs H 8 0 rfl⟩
theorem ck_Yct_l {post : Int32 → Prop} {a t h : Nat → Int32} {s : Nat} (hs : s < 256) (H : post (nI (ck_n s 8))) : ∀ d v, v + d = 8 → wY_count_4 post (nI s) a t h (d + 1) (nI (ck_n s v)) (nI v) := by
  intro d
  induction d with
  | zero =>
    intro v hv
    cases (by omega : v = 8)
    exact br_t ck_88 H
  | succ d ih =>
    intro v hv
    have e : nI (ck_n s v) + ((nI s >>> (nI v &&& 31)) &&& 1) = nI (ck_n s (v + 1)) := by
      rw [ck_sh hs (by omega), nI_add]
      rfl
    exact br_f (ck_8 (by omega)) (nm_r e (nm_r (nI_1 v) (ih (v + 1) (by omega))))
theorem ck_Yct {post : Int32 → Prop} {a t h : Nat → Int32} {s : Nat} (hs : s < 256) (H : post (nI (ck_n s 8))) : wpY_count post (a, t, h) (nI s) := ⟨9, ck_Yct_l hs H 8 0 rfl⟩
/-! one bit -/
theorem ck_bit {s v : Nat} (hs : s < 256) (hv : v < 8) : ((nI s >>> (nI v &&& 31)) &&& 1) = 1 ↔ s.testBit v = true := by
  rw [ck_sh hs hv]
  exact ck_b1
theorem ck_bit0 {s v : Nat} (hs : s < 256) (hv : v < 8) : ((nI s >>> (nI v &&& 31)) &&& 1) = 0 ↔ s.testBit v = false := by
  rw [ck_sh hs hv]
  exact ck_b0
theorem ck_Xhas {post : Int32 → Prop} {s v : Nat} (hs : s < 256) (hv : v < 8) (H1 : s.testBit v = true → post 1) (H0 : s.testBit v = false → post 0) : wpX_has post (nI s) (nI v) :=
  br_c (fun h => H1 ((ck_bit hs hv).mp h)) (fun h => H0 (ck_nt fun z => h ((ck_bit hs hv).mpr z)))
/-! around -/
theorem ck_ar_s1 {g : Nat → Nat} {s v : Nat} (h : s.testBit v = true) : ck_ar g s (v + 1) = ck_ar g s v ||| g v := if_pos h
theorem ck_ar_s0 {g : Nat → Nat} {s v : Nat} (h : s.testBit v = false) : ck_ar g s (v + 1) = ck_ar g s v := if_neg (by rw [h]; decide)
theorem ck_Xar_l {post : Int32 → Prop} {g : Nat → Nat} {D : Nat → Int32} {s : Nat} (hs : s < 256) (H : post (nI (ck_ar g s 8))) : ∀ d v, v + d = 8 → wX_around_4 post (nI s) (ck_A g) D (d + 1) (nI (ck_ar g s v)) (nI v) := by
  intro d
  induction d with
  | zero =>
    intro v hv
    cases (by omega : v = 8)
    exact br_t ck_88 H
  | succ d ih =>
    intro v hv
    have hv8 : v < 8 := by omega
    refine br_f (ck_8 hv8) (ck_Xhas hs hv8 (fun h => br_f (by decide) ⟨ck_in hv8, nm_r ?_ (nm_r (nI_1 v) (ih (v + 1) (by omega)))⟩) (fun h => br_t rfl (nm_r (nI_1 v) ?_)))
    · rw [ck_at hv8, ck_or, ck_ar_s1 h]
    · have q := ih (v + 1) (by omega)
      rw [ck_ar_s0 h] at q
      exact q
theorem ck_Xar {post : Int32 → Prop} {g : Nat → Nat} {D : Nat → Int32} {s : Nat} (hs : s < 256) (H : post (nI (ck_ar g s 8))) : wpX_around post (ck_A g, D) (nI s) := ⟨9, ck_Xar_l hs H 8 0 rfl⟩
/-! covers -/
theorem ck_and_lt {a b : Nat} (ha : a < 256) : a &&& b < 256 := Nat.lt_of_le_of_lt Nat.and_le_left ha
theorem ck_a0 {a b : Nat} (ha : a < 256) : (nI a &&& nI b) = 0 ↔ a &&& b = 0 := by
  rw [nx_and]
  exact ck_eq0 (Nat.lt_of_lt_of_le (ck_and_lt ha) (by decide))
theorem ck_an0 {a b : Nat} (ha : a < 256) : (nI a &&& (nI b ^^^ (-1))) = 0 ↔ a &&& (255 ^^^ b) = 0 := by
  rw [ck_an ha]
  exact ck_eq0 (Nat.lt_of_lt_of_le (ck_and_lt ha) (by decide))
theorem ck_left (s : Nat) : (255 : Int32) &&& (nI s ^^^ (-1)) = nI (ck_co s) := ck_an (a := 255) (by decide)
theorem ck_Xcv {post : Int32 → Prop} {g : Nat → Nat} (hg : ck_G g) {D : Nat → Int32} {s : Nat} (H1 : ck_cv g s = true → post 1) (H0 : ck_cv g s = false → post 0) : wpX_isCover post (ck_A g, D) (nI s) := by
  refine nm_r (ck_left s) (ck_Xar (ck_co_lt s) (br_c (fun h => H1 ?_) (fun h => H0 ?_)))
  · exact decide_eq_true ((ck_a0 (ck_ar_lt hg.1 _ 8 (Nat.le_refl 8))).mp h)
  · exact decide_eq_false fun z => h ((ck_a0 (ck_ar_lt hg.1 _ 8 (Nat.le_refl 8))).mpr z)
theorem ck_Xne {post : Int32 → Prop} {g : Nat → Nat} {D : Nat → Int32} {s : Nat} (hs : s < 256) (H1 : ck_xt g s = true → post 1) (H0 : ck_xt g s = false → post 0) : wpX_needsEachVertex post (ck_A g, D) (nI s) := by
  refine nm_r (ck_left s) (ck_Xar (ck_co_lt s) (br_c (fun h => H1 ?_) (fun h => H0 ?_)))
  · exact decide_eq_true ((ck_an0 hs).mp h)
  · exact decide_eq_false fun z => h ((ck_an0 hs).mpr z)
theorem ck_narB {b : Bool} : narrow .boolean (.int (nI b.toNat)) = .int (nI b.toNat) := by
  cases b <;> rfl
theorem ck_Ycv_l {post : Int32 → Prop} {g : Nat → Nat} (hg : ck_G g) {t h : Nat → Int32} {s : Nat} (hs : s < 256) (H : post (nI (ck_yc g s 8).toNat)) : ∀ d v, v + d = 8 → wY_covers_19 post (nI s) (ck_A g) t h (d + 1) (nI (ck_yc g s v).toNat) (nI v) := by
  intro d
  induction d with
  | zero =>
    intro v hv
    cases (by omega : v = 8)
    exact br_t ck_88 ⟨ck_narB, H⟩
  | succ d ih =>
    intro v hv
    have hv8 : v < 8 := by omega
    have q := ih (v + 1) (by omega)
    have e : ck_yc g s (v + 1) = (ck_yc g s v && (s.testBit v || decide (g v &&& (255 ^^^ s) = 0))) := rfl
    refine br_f (ck_8 hv8) ?_
    cases ey : ck_yc g s v
    · rw [ey, Bool.false_and] at e
      rw [e] at q
      exact br_t rfl (nm_r (nI_1 v) q)
    · rw [ey, Bool.true_and] at e
      refine br_f (by decide) (br_c (fun hb => ?_) (fun hb => ⟨ck_in hv8, ?_⟩))
      · rw [(ck_bit hs hv8).mp hb, Bool.true_or] at e
        rw [e] at q
        exact nm_r (nI_1 v) q
      · have hb' : s.testBit v = false := ck_nt fun z => hb ((ck_bit hs hv8).mpr z)
        rw [hb', Bool.false_or] at e
        rw [ck_at hv8]
        refine br_c (fun h0 => ?_) (fun h0 => ?_)
        · rw [decide_eq_true ((ck_an0 (hg.1 v hv8)).mp h0)] at e
          rw [e] at q
          exact nm_r (nI_1 v) q
        · rw [decide_eq_false (fun z => h0 ((ck_an0 (hg.1 v hv8)).mpr z))] at e
          rw [e] at q
          exact nm_r (nI_1 v) q
theorem ck_Ycv {post : Int32 → Prop} {g : Nat → Nat} (hg : ck_G g) {t h : Nat → Int32} {s : Nat} (hs : s < 256) (H1 : ck_cv g s = true → post 1) (H0 : ck_cv g s = false → post 0) : wpY_covers post (ck_A g, t, h) (nI s) := by
  have H : post (nI (ck_yc g s 8).toNat) := by
    rw [ck_yc_cv hg]
    cases e : ck_cv g s
    · exact H0 e
    · exact H1 e
  exact br_f (nI_pos (by omega)) (br_f (nI_nlt (b := s) (a := 255) (by omega) (by decide)) ⟨9, ck_Ycv_l hg hs H 8 0 rfl⟩)
/-! the reference's covers outside -/
theorem ck_Ycv_n {post : Int32 → Prop} {a t h : Nat → Int32} {x : Int32} (H : post 0) : ∀ d v, v + d = 8 → wY_covers_19 post x a t h (d + 1) 0 (nI v) := by
  intro d
  induction d with
  | zero =>
    intro v hv
    cases (by omega : v = 8)
    exact br_t ck_88 ⟨ck_narB (b := false), H⟩
  | succ d ih =>
    intro v hv
    exact br_f (ck_8 (by omega)) (br_t rfl (nm_r (nI_1 v) (ih (v + 1) (by omega))))
/-! costWithZeros, halvesOf -/
theorem ck_Xcz {post : Int32 → Prop} {g : Nat → Nat} (hg : ck_G g) {D : Nat → Int32} {z : Nat} (hz : z < 256) (H : post (nI (ck_cost g z))) : wpX_costWithZeros post (ck_A g, D) (nI z) := by
  have ha := ck_ar_lt hg.1 z 8 (Nat.le_refl 8)
  refine ck_Xar hz (br_c (fun h => ?_) (fun h => ?_))
  · have k := (ck_a0 ha).mp h
    refine ck_Xsz ha (ck_Xsz hz ?_)
    have e : (8 : Int32) + nI (ck_n (ck_ar g z 8) 8) - nI (ck_n z 8) = nI (ck_cost g z) := by
      have e1 : (8 : Int32) + nI (ck_n (ck_ar g z 8) 8) = nI (8 + ck_n (ck_ar g z 8) 8) := nI_add 8 _
      have := ck_n_le z 8
      rw [e1, pk_sub (by omega)]
      exact congrArg nI (if_pos k).symm
    rw [e]
    exact H
  · have k : ck_cost g z = 17 := if_neg fun k => h ((ck_a0 ha).mpr k)
    rw [k] at H
    exact H
theorem ck_Xho {post : Int32 → Prop} {g : Nat → Nat} (hg : ck_G g) {D : Nat → Int32} {z v : Nat} (hz : z < 256) (hv : v < 8) (H : post (nI (ck_hv g z v))) : wpX_halvesOf post (ck_A g, D) (nI v) (nI z) := by
  have ha := ck_ar_lt hg.1 z 8 (Nat.le_refl 8)
  unfold wpX_halvesOf
  dsimp only
  refine ck_Xhas hz hv (fun h => br_f (by decide) ?_) (fun h => br_t rfl (ck_Xar hz (ck_Xhas ha hv (fun h2 => br_f (by decide) ?_) (fun h2 => br_t rfl ?_))))
  · rw [ck_hv_0 h] at H
    exact H
  · rw [ck_hv_2 (by rw [h]; decide) h2] at H
    exact H
  · rw [ck_hv_1 (by rw [h]; decide) (by rw [h2]; decide)] at H
    exact H
end
section
/-! ===== relation, join, neighbours, edges, covers ===== -/
/-- both hold the graph g -/
def ck_R (u : SX) (v : SY) : Prop := ∃ (g : Nat → Nat) (D t h : Nat → Int32), u = (ck_A g, D) ∧ v = (ck_A g, t, h) ∧ ck_G g
theorem ck_R_i {g : Nat → Nat} {D t h : Nat → Int32} (hg : ck_G g) : ck_R (ck_A g, D) (ck_A g, t, h) := ⟨g, D, t, h, rfl, rfl, hg⟩
theorem ck_ver (x : Int32) : x < 0 ∨ (8 : Int32) ≤ x ∨ ∃ v, v < 8 ∧ x = nI v := by
  by_cases h : x < 0
  · exact Or.inl h
  · obtain ⟨j, hj, rfl⟩ := nI_of h
    rcases Nat.lt_or_ge j 8 with q | q
    · exact Or.inr (Or.inr ⟨j, q, rfl⟩)
    · exact Or.inr (Or.inl (nI_le (a := 8) q hj))
theorem ck_set (x : Int32) : x < 0 ∨ (256 : Int32) ≤ x ∨ ∃ v, v < 256 ∧ x = nI v := by
  by_cases h : x < 0
  · exact Or.inl h
  · obtain ⟨j, hj, rfl⟩ := nI_of h
    rcases Nat.lt_or_ge j 256 with q | q
    · exact Or.inr (Or.inr ⟨j, q, rfl⟩)
    · exact Or.inr (Or.inl (nI_le (a := 256) q hj))
theorem ck_7 {x : Int32} (h : (8 : Int32) ≤ x) : (7 : Int32) < x := by
  rw [Int32.le_iff_toInt_le, show (8 : Int32).toInt = 8 from by decide] at h
  rw [Int32.lt_iff_toInt_lt, show (7 : Int32).toInt = 7 from by decide]
  omega
theorem ck_2550 {x : Int32} (h : (256 : Int32) ≤ x) : (255 : Int32) < x := by
  rw [Int32.le_iff_toInt_le, show (256 : Int32).toInt = 256 from by decide] at h
  rw [Int32.lt_iff_toInt_lt, show (255 : Int32).toInt = 255 from by decide]
  omega
theorem ck_n0 {x : Int32} (h : (8 : Int32) ≤ x) : ¬ x < 0 := by
  rw [Int32.le_iff_toInt_le, show (8 : Int32).toInt = 8 from by decide] at h
  rw [Int32.lt_iff_toInt_lt, show (0 : Int32).toInt = 0 from by decide]
  omega
theorem ck_n0' {x : Int32} (h : (256 : Int32) ≤ x) : ¬ x < 0 := by
  rw [Int32.le_iff_toInt_le, show (256 : Int32).toInt = 256 from by decide] at h
  rw [Int32.lt_iff_toInt_lt, show (0 : Int32).toInt = 0 from by decide]
  omega
theorem ck_n7 {v : Nat} (hv : v < 8) : ¬ (7 : Int32) < nI v := nI_nlt (a := 7) (b := v) (by omega) (by decide)
theorem ck_n255 {v : Nat} (hv : v < 256) : ¬ (255 : Int32) < nI v := nI_nlt (a := 255) (b := v) (by omega) (by decide)
/-- is x a vertex: one answer of both -/
theorem ck_vx (x : Int32) : ((∀ post : Int32 → Prop, post 0 → wpX_isVertex post x) ∧ ∀ (post : Int32 → Prop) (u : SY), post 0 → wpY_vertex post u x) ∨ ∃ v, v < 8 ∧ x = nI v := by
  rcases ck_ver x with h | h | h
  · exact Or.inl ⟨fun _ p => br_t h p, fun _ _ p => br_t h p⟩
  · exact Or.inl ⟨fun _ p => br_f (ck_n0 h) (br_t h p), fun _ _ p => br_f (ck_n0 h) (br_t (ck_7 h) p)⟩
  · exact Or.inr h
theorem ck_Xv {post : Int32 → Prop} {v : Nat} (hv : v < 8) (H : post 1) : wpX_isVertex post (nI v) := br_f (nI_pos (by omega)) (br_f (ck_8 hv) H)
theorem ck_Yv {post : Int32 → Prop} {u : SY} {v : Nat} (hv : v < 8) (H : post 1) : wpY_vertex post u (nI v) := br_f (nI_pos (by omega)) (br_f (ck_n7 hv) H)
theorem ck_Xs {post : Int32 → Prop} {v : Nat} (hv : v < 256) (H : post 1) : wpX_isSet post (nI v) := br_f (nI_pos (by omega)) (br_f (ck_256 hv) H)
/-! join -/
theorem ck_one {v : Nat} (hv : v < 8) : 2 ^ v < 256 := by
  have p : 2 ^ (v + 1) ≤ 2 ^ 8 := Nat.pow_le_pow_right (by decide) hv
  have q : 2 ^ (v + 1) = 2 ^ v * 2 := Nat.pow_succ _ _
  have r : 0 < 2 ^ v := Nat.two_pow_pos v
  omega
/-- the graph with a and b joined or parted -/
def ck_J (on : Bool) (x b : Nat) : Nat := if on = true then x ||| 2 ^ b else ck_rm x b
def ck_U (g : Nat → Nat) (a x : Nat) : Nat → Nat := fun i => if i = a then x else g i
theorem ck_J_bit {on : Bool} {x b i : Nat} (hx : x < 256) : (ck_J on x b).testBit i = if i = b then on else x.testBit i := by
  unfold ck_J
  cases on
  · rw [if_neg (by decide), ck_rm_bit hx]
    by_cases e : i = b
    · simp [e]
    · simp [e]
  · rw [if_pos rfl, Nat.testBit_or, Nat.testBit_two_pow]
    by_cases e : i = b
    · simp [e]
    · simp [e, Ne.symm e]
theorem ck_J_lt {on : Bool} {x b : Nat} (hx : x < 256) (hb : b < 8) : ck_J on x b < 256 := by
  unfold ck_J
  split
  · exact Nat.or_lt_two_pow (n := 8) hx (ck_one hb)
  · exact ck_rm_lt hx b
def ck_N (on : Bool) (g : Nat → Nat) (a b : Nat) : Nat → Nat := ck_U (ck_U g a (ck_J on (g a) b)) b (ck_J on (g b) a)
theorem ck_N_bit {on : Bool} {g : Nat → Nat} (hg : ck_G g) {a b : Nat} (ha : a < 8) (hb : b < 8) (hab : a ≠ b) {v w : Nat} (hv : v < 8) : (ck_N on g a b v).testBit w = if (v = a ∧ w = b) ∨ (v = b ∧ w = a) then on else (g v).testBit w := by
  unfold ck_N ck_U
  by_cases e : v = b
  · rw [if_pos e, ck_J_bit (hg.1 b hb), e]
    by_cases f : w = a
    · rw [if_pos f, if_pos (Or.inr ⟨rfl, f⟩)]
    · rw [if_neg f, if_neg]
      rintro (⟨x, _⟩ | ⟨_, y⟩)
      · exact hab x.symm
      · exact f y
  · rw [if_neg e]
    by_cases f : v = a
    · rw [if_pos f, ck_J_bit (hg.1 a ha), f]
      by_cases k : w = b
      · rw [if_pos k, if_pos (Or.inl ⟨rfl, k⟩)]
      · rw [if_neg k, if_neg]
        rintro (⟨_, x⟩ | ⟨y, _⟩)
        · exact k x
        · exact hab y
    · rw [if_neg f, if_neg]
      rintro (⟨x, _⟩ | ⟨y, _⟩)
      · exact f x
      · exact e y
theorem ck_N_G {on : Bool} {g : Nat → Nat} (hg : ck_G g) {a b : Nat} (ha : a < 8) (hb : b < 8) (hab : a ≠ b) : ck_G (ck_N on g a b) := by
  refine ⟨fun v hv => ?_, fun v w hv hw h => ?_, fun v hv => ?_⟩
  · show (if v = b then ck_J on (g b) a else if v = a then ck_J on (g a) b else g v) < 256
    split
    · exact ck_J_lt (hg.1 b hb) ha
    · split
      · exact ck_J_lt (hg.1 a ha) hb
      · exact hg.1 v hv
  · rw [ck_N_bit hg ha hb hab hv] at h
    rw [ck_N_bit hg ha hb hab hw]
    by_cases c : (v = a ∧ w = b) ∨ (v = b ∧ w = a)
    · rw [if_pos c] at h
      rw [if_pos (by
        rcases c with ⟨x, y⟩ | ⟨x, y⟩
        · exact Or.inr ⟨y, x⟩
        · exact Or.inl ⟨y, x⟩)]
      exact h
    · rw [if_neg c] at h
      rw [if_neg (by
        rintro (⟨x, y⟩ | ⟨x, y⟩)
        · exact c (Or.inr ⟨y, x⟩)
        · exact c (Or.inl ⟨y, x⟩))]
      exact hg.2.1 v w hv hw h
  · rw [ck_N_bit hg ha hb hab hv, if_neg]
    · exact hg.2.2 v hv
    · rintro (⟨x, y⟩ | ⟨x, y⟩)
      · exact hab (x.symm.trans y)
      · exact hab (y.symm.trans x)
theorem ck_updA {g : Nat → Nat} {a x : Nat} (ha : a < 8) : upd (ck_A g) (nI a).toNatClampNeg (nI x) = ck_A (ck_U g a x) := by
  rw [nI_clamp (by omega)]
  funext i
  show (if i = a then nI x else nI (g i)) = nI (if i = a then x else g i)
  split <;> rfl
theorem ck_J1 {x b : Nat} (hb : b < 8) : nI x ||| ((1 : Int32) <<< (nI b &&& 31)) = nI (ck_J true x b) := by
  rw [ck_s1 hb, ck_or]
  rfl
theorem ck_J0 {x b : Nat} (hx : x < 256) (hb : b < 8) : nI x &&& (((1 : Int32) <<< (nI b &&& 31)) ^^^ (-1)) = nI (ck_J false x b) := by
  rw [ck_s1 hb, ck_an hx]
  rfl
theorem ck_at2 {g : Nat → Nat} {a b x : Nat} (hb : b < 8) (hab : a ≠ b) : ck_A (ck_U g a x) (nI b).toNatClampNeg = nI (g b) := by
  rw [ck_at hb]
  show nI (if b = a then x else g b) = _
  rw [if_neg (Ne.symm hab)]
theorem ck_join {g : Nat → Nat} (hg : ck_G g) {D t h : Nat → Int32} {Q : Int32 → SX → Int32 → SY → Prop} (v1 v2 v3 : Int32)
    (H0 : Q 0 (ck_A g, D) 0 (ck_A g, t, h)) (H1 : ∀ g', ck_G g' → Q 1 (ck_A g', D) 1 (ck_A g', t, h)) :
    wpX_join (fun r u' => wpY_join (fun r' v' => Q r u' r' v') (ck_A g, t, h) v1 v2 v3) (ck_A g, D) v1 v2 v3 := by
  by_cases e : v1 = v2
  · exact br_t e (br_t e H0)
  · rcases ck_vx v1 with ⟨x1, y1⟩ | ⟨a, ha, rfl⟩
    · exact br_f e (x1 _ (br_t rfl (br_f e (y1 _ _ (br_t rfl H0)))))
    · rcases ck_vx v2 with ⟨x2, y2⟩ | ⟨b, hb, rfl⟩
      · exact br_f e (ck_Xv ha (br_f (by decide) (x2 _ (br_t rfl (br_f e (ck_Yv ha (br_f (by decide) (y2 _ _ (br_t rfl H0)))))))))
      · have hab : a ≠ b := fun z => e (by rw [z])
        have ia := ck_in ha
        have ib := ck_in hb
        refine br_f e (ck_Xv ha (br_f (by decide) (ck_Xv hb (br_f (by decide) (br_c (fun z => ?_) (fun z => ?_))))))
        · have e1 : upd (ck_A g) (nI a).toNatClampNeg ((ck_A g (nI a).toNatClampNeg) &&& (((1 : Int32) <<< (nI b &&& 31)) ^^^ (-1))) = ck_A (ck_U g a (ck_J false (g a) b)) := by
            rw [ck_at ha, ck_J0 (hg.1 a ha) hb, ck_updA ha]
          have e2 : upd (ck_A (ck_U g a (ck_J false (g a) b))) (nI b).toNatClampNeg ((ck_A (ck_U g a (ck_J false (g a) b)) (nI b).toNatClampNeg) &&& (((1 : Int32) <<< (nI a &&& 31)) ^^^ (-1))) = ck_A (ck_N false g a b) := by
            rw [ck_at2 hb hab, ck_J0 (hg.1 b hb) ha, ck_updA hb]
            rfl
          have K := H1 _ (ck_N_G (on := false) hg ha hb hab)
          exact ⟨ia, ia, nm_r e1 ⟨ib, ib, nm_r e2 (br_f e (ck_Yv ha (br_f (by decide) (ck_Yv hb (br_f (by decide) (br_t z ⟨ia, ia, nm_r e1 (br_t z ⟨ib, ib, nm_r e2 K⟩)⟩))))))⟩⟩
        · have e1 : upd (ck_A g) (nI a).toNatClampNeg ((ck_A g (nI a).toNatClampNeg) ||| ((1 : Int32) <<< (nI b &&& 31))) = ck_A (ck_U g a (ck_J true (g a) b)) := by
            rw [ck_at ha, ck_J1 hb, ck_updA ha]
          have e2 : upd (ck_A (ck_U g a (ck_J true (g a) b))) (nI b).toNatClampNeg ((ck_A (ck_U g a (ck_J true (g a) b)) (nI b).toNatClampNeg) ||| ((1 : Int32) <<< (nI a &&& 31))) = ck_A (ck_N true g a b) := by
            rw [ck_at2 hb hab, ck_J1 ha, ck_updA hb]
            rfl
          have K := H1 _ (ck_N_G (on := true) hg ha hb hab)
          exact ⟨ia, ia, nm_r e1 ⟨ib, ib, nm_r e2 (br_f e (ck_Yv ha (br_f (by decide) (ck_Yv hb (br_f (by decide) (br_f z ⟨ia, ia, nm_r e1 (br_f z ⟨ib, ib, nm_r e2 K⟩)⟩))))))⟩⟩
/-! edges -/
def ck_ed (g : Nat → Nat) : Nat → Nat
  | 0 => 0
  | v + 1 => ck_ed g v + ck_n (g v) 8
theorem ck_Xed_l {post : Int32 → Prop} {g : Nat → Nat} (hg : ck_G g) {D : Nat → Int32} (H : post (nI (ck_ed g 8) / 2)) : ∀ d v, v + d = 8 → wX_edges_4 post (ck_A g) D (d + 1) (nI (ck_ed g v)) (nI v) := by
  intro d
  induction d with
  | zero =>
    intro v hv
    cases (by omega : v = 8)
    exact br_t ck_88 ⟨by decide, H⟩
  | succ d ih =>
    intro v hv
    have hv8 : v < 8 := by omega
    refine br_f (ck_8 hv8) ⟨ck_in hv8, ?_⟩
    rw [ck_at hv8]
    exact ck_Xsz (hg.1 v hv8) (nm_r (nI_add _ _) (nm_r (nI_1 v) (ih (v + 1) (by omega))))
theorem ck_Yed_l {post : Int32 → Prop} {g : Nat → Nat} (hg : ck_G g) {t h : Nat → Int32} (H : post (nI (ck_ed g 8) / 2)) : ∀ d v, v + d = 8 → wY_edges_4 post (ck_A g) t h (d + 1) (nI (ck_ed g v)) (nI v) := by
  intro d
  induction d with
  | zero =>
    intro v hv
    cases (by omega : v = 8)
    exact br_t ck_88 ⟨by decide, H⟩
  | succ d ih =>
    intro v hv
    have hv8 : v < 8 := by omega
    refine br_f (ck_8 hv8) ⟨ck_in hv8, ?_⟩
    rw [ck_at hv8]
    exact ck_Yct (hg.1 v hv8) (nm_r (nI_add _ _) (nm_r (nI_1 v) (ih (v + 1) (by omega))))
theorem ck_Xed {post : Int32 → Prop} {g : Nat → Nat} (hg : ck_G g) {D : Nat → Int32} (H : post (nI (ck_ed g 8) / 2)) : wpX_edges post (ck_A g, D) := ⟨9, ck_Xed_l hg H 8 0 rfl⟩
theorem ck_Yed {post : Int32 → Prop} {g : Nat → Nat} (hg : ck_G g) {t h : Nat → Int32} (H : post (nI (ck_ed g 8) / 2)) : wpY_edges post (ck_A g, t, h) := ⟨9, ck_Yed_l hg H 8 0 rfl⟩
/-! covers -/
theorem ck_covers {g : Nat → Nat} (hg : ck_G g) {D t h : Nat → Int32} {Q : Int32 → Int32 → Prop} (x : Int32) (H : ∀ r, Q r r) :
    wpX_covers (fun r => wpY_covers (fun r' => Q r r') (ck_A g, t, h) x) (ck_A g, D) x := by
  rcases ck_set x with h0 | h1 | ⟨s, hs, rfl⟩
  · exact br_t h0 (br_t rfl (br_t h0 ⟨9, ck_Ycv_n (H 0) 8 0 rfl⟩))
  · exact br_f (ck_n0' h1) (br_t h1 (br_t rfl (br_f (ck_n0' h1) (br_t (ck_2550 h1) ⟨9, ck_Ycv_n (H 0) 8 0 rfl⟩))))
  · unfold wpX_covers
    dsimp only
    refine ck_Xs hs (br_f (by decide) (ck_Xcv hg (fun c => br_f (by decide) (ck_Ycv hg hs (fun _ => H 1) (fun z => ?_))) (fun c => br_t rfl (ck_Ycv hg hs (fun z => ?_) (fun _ => H 0)))))
    · rw [c] at z
      exact absurd z (by decide)
    · rw [c] at z
      exact absurd z (by decide)
end
section
/-! ===== leastWith, least, leastCover, always, never ===== -/
/-- may s be the cover: all of i, none of o -/
def ck_al (i o s : Nat) : Bool := decide (s &&& i = i) && decide (s &&& o = 0)
/-- the least number of such a cover below k, 9 for none -/
def ck_lf (g : Nat → Nat) (i o : Nat) : Nat → Nat
  | 0 => 9
  | s + 1 => if (ck_al i o s && ck_cv g s) = true then (if ck_lf g i o s ≤ ck_n s 8 then ck_lf g i o s else ck_n s 8) else ck_lf g i o s
def ck_e (m : Nat) : Int32 := if m = 9 then -1 else nI m
theorem ck_e9 : ck_e 9 = -1 := rfl
theorem ck_e8 {m : Nat} (h : m ≤ 8) : ck_e m = nI m := if_neg (by omega)
theorem ck_nm1 {m : Nat} (h : m < 2 ^ 31) : ¬ nI m = -1 := fun z => by
  have a := nI_toInt h
  rw [z, show (-1 : Int32).toInt = -1 from by decide] at a
  omega
theorem ck_lf_y {g : Nat → Nat} {i o s : Nat} (h : (ck_al i o s && ck_cv g s) = true) : ck_lf g i o (s + 1) = if ck_lf g i o s ≤ ck_n s 8 then ck_lf g i o s else ck_n s 8 := if_pos h
theorem ck_lf_n {g : Nat → Nat} {i o s : Nat} (h : (ck_al i o s && ck_cv g s) = false) : ck_lf g i o (s + 1) = ck_lf g i o s := if_neg (by rw [h]; decide)
theorem ck_lf_9 (g : Nat → Nat) (i o : Nat) : ∀ k, ck_lf g i o k ≤ 9
  | 0 => Nat.le_refl 9
  | k + 1 => by
    have ih := ck_lf_9 g i o k
    have b := ck_n_le k 8
    cases e : (ck_al i o k && ck_cv g k)
    · rw [ck_lf_n e]
      exact ih
    · rw [ck_lf_y e]
      split <;> omega
theorem ck_lf_a (g : Nat → Nat) (i o : Nat) : ∀ k, ck_lf g i o k = 9 ∨ ∃ s, s < k ∧ ck_cv g s = true ∧ ck_n s 8 = ck_lf g i o k
  | 0 => Or.inl rfl
  | k + 1 => by
    have ih := ck_lf_a g i o k
    cases e : (ck_al i o k && ck_cv g k)
    · rw [ck_lf_n e]
      rcases ih with q | ⟨s, a, b⟩
      · exact Or.inl q
      · exact Or.inr ⟨s, by omega, b⟩
    · rw [ck_lf_y e]
      split
      · rcases ih with q | ⟨s, a, b⟩
        · exact Or.inl q
        · exact Or.inr ⟨s, by omega, b⟩
      · rw [Bool.and_eq_true] at e
        exact Or.inr ⟨k, by omega, e.2, rfl⟩
theorem ck_lf_le (g : Nat → Nat) (i o : Nat) : ∀ k s, s < k → ck_al i o s = true → ck_cv g s = true → ck_lf g i o k ≤ ck_n s 8
  | 0, s, h, _, _ => absurd h (Nat.not_lt_zero s)
  | k + 1, s, h, a, c => by
    cases e : (ck_al i o k && ck_cv g k)
    · rw [ck_lf_n e]
      rcases Nat.lt_or_ge s k with q | q
      · exact ck_lf_le g i o k s q a c
      · have y : s = k := by omega
        rw [← y, a, c] at e
        exact absurd e (by decide)
    · rw [ck_lf_y e]
      rcases Nat.lt_or_ge s k with q | q
      · have := ck_lf_le g i o k s q a c
        split <;> omega
      · have y : s = k := by omega
        rw [y]
        split <;> omega
theorem ck_al0 (s : Nat) : ck_al 0 0 s = true := by
  unfold ck_al
  rw [Nat.and_zero]
  decide
/-- the least of all -/
def ck_m (g : Nat → Nat) : Nat := ck_lf g 0 0 256
theorem ck_m_8 {g : Nat → Nat} (hg : ck_G g) : ck_m g ≤ 8 := Nat.le_trans (ck_lf_le g 0 0 256 255 (by decide) (ck_al0 255) (ck_C255 hg)) (ck_n_le 255 8)
theorem ck_m_a {g : Nat → Nat} (hg : ck_G g) : ∃ s, s < 256 ∧ ck_n s 8 = ck_m g ∧ ck_cv g s = true := by
  have a := ck_m_8 hg
  rcases ck_lf_a g 0 0 256 with q | ⟨s, x, y, z⟩
  · have b : ck_m g = 9 := q
    omega
  · exact ⟨s, x, z, y⟩
theorem ck_m_e {g : Nat → Nat} (hg : ck_G g) : ck_e (ck_lf g 0 0 256) = nI (ck_m g) := ck_e8 (ck_m_8 hg)
theorem ck_alX {s i : Nat} (hs : s < 256) (hi : i < 256) : (nI s &&& nI i) = nI i ↔ s &&& i = i := by
  rw [nx_and]
  exact nI_eq (Nat.lt_of_lt_of_le (ck_and_lt hs) (by decide)) (by omega)
theorem ck_alY {s i : Nat} (hs : s < 256) (hi : i < 256) : (nI i &&& (nI s ^^^ (-1))) = 0 ↔ s &&& i = i := by
  rw [ck_an0 hi, ck_and0]
  constructor
  · intro h
    refine ck_ext (ck_and_lt hs) hi fun b hb => ?_
    rw [Nat.testBit_and]
    cases e : i.testBit b
    · simp
    · have q := h b e
      rw [ck_x_bit hb] at q
      simpa using q
  · intro h b hb
    rw [ck_x_bit (ck_b8 hi hb)]
    have q : (s &&& i).testBit b = true := by rw [h]; exact hb
    rw [Nat.testBit_and, Bool.and_eq_true] at q
    rw [q.1]
    rfl
theorem ck_alO {s o : Nat} (ho : o < 256) : (nI o &&& nI s) = 0 ↔ s &&& o = 0 := by
  rw [ck_a0 ho, Nat.and_comm]
theorem ck_al_1 {i o s : Nat} (h1 : s &&& i = i) (h2 : s &&& o = 0) : ck_al i o s = true := by
  unfold ck_al
  rw [decide_eq_true h1, decide_eq_true h2]
  rfl
theorem ck_al_i {i o s : Nat} (h : ¬ s &&& i = i) : ck_al i o s = false := by
  unfold ck_al
  rw [decide_eq_false h]
  rfl
theorem ck_al_o {i o s : Nat} (h : ¬ s &&& o = 0) : ck_al i o s = false := by
  unfold ck_al
  rw [decide_eq_false h, Bool.and_false]
theorem ck_Xlw_l {post : Int32 → Prop} {g : Nat → Nat} (hg : ck_G g) {D : Nat → Int32} {i o : Nat} (hi : i < 256) (H : post (ck_e (ck_lf g i o 256))) : ∀ d s, s + d = 256 → wX_leastWith_21 post (nI i) (nI o) (ck_A g) D (d + 1) (ck_e (ck_lf g i o s)) (nI s) := by
  intro d
  induction d with
  | zero =>
    intro s hs
    cases (by omega : s = 256)
    exact br_t ck_256e H
  | succ d ih =>
    intro s hsd
    have hs : s < 256 := by omega
    have q := ih (s + 1) (by omega)
    have K : (ck_al i o s && ck_cv g s) = false → wX_leastWith_21 post (nI i) (nI o) (ck_A g) D (d + 1) (ck_e (ck_lf g i o s)) (nI (s + 1)) := fun z => by
      rw [ck_lf_n z] at q
      exact q
    refine br_f (ck_256 hs) (br_c (fun h1 => br_c (fun h2 => ?_) (fun h2 => ?_)) (fun h1 => ?_))
    · have a : ck_al i o s = true := ck_al_1 ((ck_alX hs hi).mp h1) ((ck_a0 hs).mp h2)
      refine br_f (by decide) (ck_Xcv hg (fun c => br_f (by decide) (ck_Xsz hs ?_)) (fun c => br_t rfl (nm_r (nI_1 s) (K (by rw [c, Bool.and_false])))))
      rw [ck_lf_y (by rw [a, c]; rfl)] at q
      have b9 := ck_lf_9 g i o s
      have b8 := ck_n_le s 8
      by_cases e9 : ck_lf g i o s = 9
      · rw [e9, if_neg (by omega), ck_e8 b8] at q
        rw [e9]
        exact br_t rfl (nm_r (nI_1 s) q)
      · have b8' : ck_lf g i o s ≤ 8 := by omega
        rw [ck_e8 b8']
        refine br_f (ck_nm1 (by omega)) (br_c (fun z => nm_r (nI_1 s) ?_) (fun z => nm_r (nI_1 s) ?_))
        · rw [if_pos ((nI_leI (by omega) (by omega)).mp z), ck_e8 b8'] at q
          exact q
        · rw [if_neg (fun y => z ((nI_leI (by omega) (by omega)).mpr y)), ck_e8 b8] at q
          exact q
    · exact br_t rfl (nm_r (nI_1 s) (K (by rw [ck_al_o (fun z => h2 ((ck_a0 hs).mpr z)), Bool.false_and])))
    · exact br_t rfl (nm_r (nI_1 s) (K (by rw [ck_al_i (fun z => h1 ((ck_alX hs hi).mpr z)), Bool.false_and])))
theorem ck_Ylw_l {post : Int32 → Prop} {g : Nat → Nat} (hg : ck_G g) {t h : Nat → Int32} {i o : Nat} (hi : i < 256) (ho : o < 256) (H : post (ck_e (ck_lf g i o 256))) : ∀ d s, s + d = 256 → wY_leastOf_5 post (nI i) (nI o) (ck_A g) t h (d + 1) (ck_e (ck_lf g i o s)) (nI s) := by
  intro d
  induction d with
  | zero =>
    intro s hs
    cases (by omega : s = 256)
    exact br_t ck_256e H
  | succ d ih =>
    intro s hsd
    have hs : s < 256 := by omega
    have q := ih (s + 1) (by omega)
    have K : (ck_al i o s && ck_cv g s) = false → wY_leastOf_5 post (nI i) (nI o) (ck_A g) t h (d + 1) (ck_e (ck_lf g i o s)) (nI (s + 1)) := fun z => by
      rw [ck_lf_n z] at q
      exact q
    refine br_f (ck_256 hs) (br_c (fun h1 => br_c (fun h2 => ?_) (fun h2 => ?_)) (fun h1 => ?_))
    · have a : ck_al i o s = true := ck_al_1 ((ck_alY hs hi).mp h1) ((ck_alO ho).mp h2)
      refine ck_Ycv hg hs (fun c => br_f (by decide) (ck_Yct hs ?_)) (fun c => br_t rfl (nm_r (nI_1 s) (K (by rw [c, Bool.and_false]))))
      rw [ck_lf_y (by rw [a, c]; rfl)] at q
      have b9 := ck_lf_9 g i o s
      have b8 := ck_n_le s 8
      by_cases e9 : ck_lf g i o s = 9
      · rw [e9, if_neg (by omega), ck_e8 b8] at q
        rw [e9]
        exact br_t (by decide) (nm_r (nI_1 s) q)
      · have b8' : ck_lf g i o s ≤ 8 := by omega
        rw [ck_e8 b8']
        refine br_f (nI_pos (by omega)) (br_c (fun z => nm_r (nI_1 s) ?_) (fun z => nm_r (nI_1 s) ?_))
        · rw [if_pos ((nI_leI (by omega) (by omega)).mp z), ck_e8 b8'] at q
          exact q
        · rw [if_neg (fun y => z ((nI_leI (by omega) (by omega)).mpr y)), ck_e8 b8] at q
          exact q
    · exact nm_r (nI_1 s) (K (by rw [ck_al_o (fun z => h2 ((ck_alO ho).mpr z)), Bool.false_and]))
    · exact nm_r (nI_1 s) (K (by rw [ck_al_i (fun z => h1 ((ck_alY hs hi).mpr z)), Bool.false_and]))
theorem ck_Xlw {post : Int32 → Prop} {g : Nat → Nat} (hg : ck_G g) {D : Nat → Int32} {i o : Nat} (hi : i < 256) (ho : o < 256) (H : post (ck_e (ck_lf g i o 256))) : wpX_leastWith post (ck_A g, D) (nI i) (nI o) := by
  unfold wpX_leastWith
  dsimp only
  exact ck_Xs hi (br_f (by decide) (ck_Xs ho (br_f (by decide) ⟨257, ck_Xlw_l hg hi H 256 0 rfl⟩)))
theorem ck_Ylw {post : Int32 → Prop} {g : Nat → Nat} (hg : ck_G g) {t h : Nat → Int32} {i o : Nat} (hi : i < 256) (ho : o < 256) (H : post (ck_e (ck_lf g i o 256))) : wpY_leastOf post (ck_A g, t, h) (nI i) (nI o) := ⟨257, ck_Ylw_l hg hi ho H 256 0 rfl⟩
theorem ck_Xle {post : Int32 → Prop} {g : Nat → Nat} (hg : ck_G g) {D : Nat → Int32} (H : post (nI (ck_m g))) : wpX_least post (ck_A g, D) := by
  unfold wpX_least
  dsimp only
  refine ck_Xlw (i := 0) (o := 0) hg (by decide) (by decide) ?_
  rw [ck_m_e hg]
  exact H
theorem ck_Yle {post : Int32 → Prop} {g : Nat → Nat} (hg : ck_G g) {t h : Nat → Int32} (H : post (nI (ck_m g))) : wpY_leastOf post (ck_A g, t, h) 0 0 := by
  refine ck_Ylw (i := 0) (o := 0) hg (by decide) (by decide) ?_
  rw [ck_m_e hg]
  exact H
theorem ck_leastWith {g : Nat → Nat} (hg : ck_G g) {D t h : Nat → Int32} {Q : Int32 → Int32 → Prop} (x y : Int32) (H : ∀ r, Q r r) :
    wpX_leastWith (fun r => wpY_leastWith (fun r' => Q r r') (ck_A g, t, h) x y) (ck_A g, D) x y := by
  rcases ck_set x with h0 | h1 | ⟨i, hi, rfl⟩
  · exact br_t h0 (br_t rfl (br_t h0 (H (-1))))
  · exact br_f (ck_n0' h1) (br_t h1 (br_t rfl (br_f (ck_n0' h1) (br_t (ck_2550 h1) (H (-1))))))
  · rcases ck_set y with h0 | h1 | ⟨o, ho, rfl⟩
    · unfold wpX_leastWith
      dsimp only
      exact ck_Xs hi (br_f (by decide) (br_t h0 (br_t rfl (br_f (nI_pos (by omega)) (br_f (ck_n255 hi) (br_t h0 (H (-1))))))))
    · unfold wpX_leastWith
      dsimp only
      exact ck_Xs hi (br_f (by decide) (br_f (ck_n0' h1) (br_t h1 (br_t rfl (br_f (nI_pos (by omega)) (br_f (ck_n255 hi) (br_f (ck_n0' h1) (br_f (Int32.not_le.mpr (ck_2550 h1)) (H (-1))))))))))
    · refine ck_Xlw hg hi ho ?_
      unfold wpY_leastWith
      dsimp only
      exact br_f (nI_pos (by omega)) (br_f (ck_n255 hi) (br_f (nI_pos (by omega)) (br_t (Int32.not_lt.mp (ck_n255 ho)) (ck_Ylw hg hi ho (H _)))))
/-! leastCover -/
theorem ck_lc_l {g : Nat → Nat} (hg : ck_G g) {D t h : Nat → Int32} {m : Nat} (hm : m ≤ 8) : ∀ d s, s + d = 256 → (∃ x, s ≤ x ∧ x < 256 ∧ ck_n x 8 = m ∧ ck_cv g x = true) →
    ∃ r : Int32, (∀ post : Int32 → Prop, post r → wX_leastCover_7 post (nI m) (ck_A g) D (d + 1) (nI s)) ∧ (∀ post : Int32 → Prop, post r → wY_leastCover_9 post (nI m) (ck_A g) t h (d + 1) (nI s)) := by
  intro d
  induction d with
  | zero =>
    intro s hs
    rintro ⟨x, a, b, _⟩
    omega
  | succ d ih =>
    intro s hsd
    rintro ⟨x, x1, x2, x3, x4⟩
    have hs : s < 256 := by omega
    have b8 := ck_n_le s 8
    have hn := ck_256 hs
    have N : ∀ p, (¬ (ck_n s 8 = m ∧ ck_cv g s = true)) → (p = s + 1) → ∃ x, p ≤ x ∧ x < 256 ∧ ck_n x 8 = m ∧ ck_cv g x = true := fun p z ep => by
      refine ⟨x, ?_, x2, x3, x4⟩
      have : x ≠ s := fun y => z (by rw [← y]; exact ⟨x3, x4⟩)
      omega
    by_cases e : ck_n s 8 = m
    · cases c : ck_cv g s
      · obtain ⟨r, X, Y⟩ := ih (s + 1) (by omega) (N _ (fun z => by rw [c] at z; exact absurd z.2 (by decide)) rfl)
        refine ⟨r, fun post p => br_f hn (ck_Xsz hs (br_t (by rw [e]) (ck_Xcv hg (fun c' => ?_) (fun _ => br_t rfl (nm_r (nI_1 s) (X post p)))))), fun post p => br_f hn (ck_Yct hs (br_t (by rw [e]) (ck_Ycv hg hs (fun c' => ?_) (fun _ => br_t rfl (nm_r (nI_1 s) (Y post p))))))⟩
        · rw [c] at c'
          exact absurd c' (by decide)
        · rw [c] at c'
          exact absurd c' (by decide)
      · refine ⟨nI s, fun post p => br_f hn (ck_Xsz hs (br_t (by rw [e]) (ck_Xcv hg (fun _ => br_f (by decide) p) (fun c' => ?_)))), fun post p => br_f hn (ck_Yct hs (br_t (by rw [e]) (ck_Ycv hg hs (fun _ => br_f (by decide) p) (fun c' => ?_))))⟩
        · rw [c] at c'
          exact absurd c' (by decide)
        · rw [c] at c'
          exact absurd c' (by decide)
    · obtain ⟨r, X, Y⟩ := ih (s + 1) (by omega) (N _ (fun z => e z.1) rfl)
      have ne : ¬ nI (ck_n s 8) = nI m := fun z => e ((nI_eq (by omega) (by omega)).mp z)
      exact ⟨r, fun post p => br_f hn (ck_Xsz hs (br_f ne (nm_r (nI_1 s) (X post p)))), fun post p => br_f hn (ck_Yct hs (br_f ne (nm_r (nI_1 s) (Y post p))))⟩
theorem ck_leastCover {g : Nat → Nat} (hg : ck_G g) {D t h : Nat → Int32} {Q : Int32 → Int32 → Prop} (H : ∀ r, Q r r) :
    wpX_leastCover (fun r => wpY_leastCover (fun r' => Q r r') (ck_A g, t, h)) (ck_A g, D) := by
  obtain ⟨x, a, b, c⟩ := ck_m_a hg
  obtain ⟨r, X, Y⟩ := ck_lc_l hg (D := D) (t := t) (h := h) (ck_m_8 hg) 256 0 rfl ⟨x, Nat.zero_le x, a, b, c⟩
  unfold wpX_leastCover
  dsimp only
  refine ck_Xle hg ⟨257, X _ ?_⟩
  unfold wpY_leastCover
  dsimp only
  exact ck_Yle hg ⟨257, Y _ (H r)⟩
/-! always, never -/
def ck_aw (g : Nat → Nat) (m : Nat) : Nat → Nat
  | 0 => 255
  | s + 1 => if (decide (ck_n s 8 = m) && ck_cv g s) = true then ck_aw g m s &&& s else ck_aw g m s
def ck_nv (g : Nat → Nat) (m : Nat) : Nat → Nat
  | 0 => 0
  | s + 1 => if (decide (ck_n s 8 = m) && ck_cv g s) = true then ck_nv g m s ||| s else ck_nv g m s
theorem ck_Xaw_l {post : Int32 → Prop} {g : Nat → Nat} (hg : ck_G g) {D : Nat → Int32} {m : Nat} (hm : m ≤ 8) (H : post (nI (ck_aw g m 256))) : ∀ d s, s + d = 256 → wX_always_11 post (nI m) (ck_A g) D (d + 1) (nI (ck_aw g m s)) (nI s) := by
  intro d
  induction d with
  | zero =>
    intro s hs
    cases (by omega : s = 256)
    exact br_t ck_256e H
  | succ d ih =>
    intro s hsd
    have hs : s < 256 := by omega
    have b8 := ck_n_le s 8
    have q := ih (s + 1) (by omega)
    have e : ck_aw g m (s + 1) = if (decide (ck_n s 8 = m) && ck_cv g s) = true then ck_aw g m s &&& s else ck_aw g m s := rfl
    refine br_f (ck_256 hs) (ck_Xsz hs (br_c (fun z => ck_Xcv hg (fun c => br_f (by decide) ?_) (fun c => br_t rfl ?_)) (fun z => ?_)))
    · rw [if_pos (by rw [c, decide_eq_true ((nI_eq (by omega) (by omega)).mp z)]; rfl)] at e
      rw [e] at q
      exact nm_r (nx_and _ _) (nm_r (nI_1 s) q)
    · rw [if_neg (by rw [c, Bool.and_false]; decide)] at e
      rw [e] at q
      exact nm_r (nI_1 s) q
    · rw [if_neg (by rw [decide_eq_false (fun y => z ((nI_eq (by omega) (by omega)).mpr y)), Bool.false_and]; decide)] at e
      rw [e] at q
      exact nm_r (nI_1 s) q
theorem ck_Yaw_l {post : Int32 → Prop} {g : Nat → Nat} (hg : ck_G g) {t h : Nat → Int32} {m : Nat} (hm : m ≤ 8) (H : post (nI (ck_aw g m 256))) : ∀ d s, s + d = 256 → wY_always_13 post (nI m) (ck_A g) t h (d + 1) (nI (ck_aw g m s)) (nI s) := by
  intro d
  induction d with
  | zero =>
    intro s hs
    cases (by omega : s = 256)
    exact br_t ck_256e H
  | succ d ih =>
    intro s hsd
    have hs : s < 256 := by omega
    have b8 := ck_n_le s 8
    have q := ih (s + 1) (by omega)
    have e : ck_aw g m (s + 1) = if (decide (ck_n s 8 = m) && ck_cv g s) = true then ck_aw g m s &&& s else ck_aw g m s := rfl
    refine br_f (ck_256 hs) (ck_Yct hs (br_c (fun z => ck_Ycv hg hs (fun c => br_f (by decide) ?_) (fun c => br_t rfl ?_)) (fun z => ?_)))
    · rw [if_pos (by rw [c, decide_eq_true ((nI_eq (by omega) (by omega)).mp z)]; rfl)] at e
      rw [e] at q
      exact nm_r (nx_and _ _) (nm_r (nI_1 s) q)
    · rw [if_neg (by rw [c, Bool.and_false]; decide)] at e
      rw [e] at q
      exact nm_r (nI_1 s) q
    · rw [if_neg (by rw [decide_eq_false (fun y => z ((nI_eq (by omega) (by omega)).mpr y)), Bool.false_and]; decide)] at e
      rw [e] at q
      exact nm_r (nI_1 s) q
theorem ck_Xnv_l {post : Int32 → Prop} {g : Nat → Nat} (hg : ck_G g) {D : Nat → Int32} {m : Nat} (hm : m ≤ 8) (H : post (255 &&& (nI (ck_nv g m 256) ^^^ (-1)))) : ∀ d s, s + d = 256 → wX_never_9 post (nI m) (ck_A g) D (d + 1) (nI (ck_nv g m s)) (nI s) := by
  intro d
  induction d with
  | zero =>
    intro s hs
    cases (by omega : s = 256)
    exact br_t ck_256e H
  | succ d ih =>
    intro s hsd
    have hs : s < 256 := by omega
    have b8 := ck_n_le s 8
    have q := ih (s + 1) (by omega)
    have e : ck_nv g m (s + 1) = if (decide (ck_n s 8 = m) && ck_cv g s) = true then ck_nv g m s ||| s else ck_nv g m s := rfl
    refine br_f (ck_256 hs) (ck_Xsz hs (br_c (fun z => ck_Xcv hg (fun c => br_f (by decide) ?_) (fun c => br_t rfl ?_)) (fun z => ?_)))
    · rw [if_pos (by rw [c, decide_eq_true ((nI_eq (by omega) (by omega)).mp z)]; rfl)] at e
      rw [e] at q
      exact nm_r (ck_or _ _) (nm_r (nI_1 s) q)
    · rw [if_neg (by rw [c, Bool.and_false]; decide)] at e
      rw [e] at q
      exact nm_r (nI_1 s) q
    · rw [if_neg (by rw [decide_eq_false (fun y => z ((nI_eq (by omega) (by omega)).mpr y)), Bool.false_and]; decide)] at e
      rw [e] at q
      exact nm_r (nI_1 s) q
theorem ck_Ynv_l {post : Int32 → Prop} {g : Nat → Nat} (hg : ck_G g) {t h : Nat → Int32} {m : Nat} (hm : m ≤ 8) (H : post (255 &&& (nI (ck_nv g m 256) ^^^ (-1)))) : ∀ d s, s + d = 256 → wY_never_11 post (nI m) (ck_A g) t h (d + 1) (nI (ck_nv g m s)) (nI s) := by
  intro d
  induction d with
  | zero =>
    intro s hs
    cases (by omega : s = 256)
    exact br_t ck_256e H
  | succ d ih =>
    intro s hsd
    have hs : s < 256 := by omega
    have b8 := ck_n_le s 8
    have q := ih (s + 1) (by omega)
    have e : ck_nv g m (s + 1) = if (decide (ck_n s 8 = m) && ck_cv g s) = true then ck_nv g m s ||| s else ck_nv g m s := rfl
    refine br_f (ck_256 hs) (ck_Yct hs (br_c (fun z => ck_Ycv hg hs (fun c => br_f (by decide) ?_) (fun c => br_t rfl ?_)) (fun z => ?_)))
    · rw [if_pos (by rw [c, decide_eq_true ((nI_eq (by omega) (by omega)).mp z)]; rfl)] at e
      rw [e] at q
      exact nm_r (ck_or _ _) (nm_r (nI_1 s) q)
    · rw [if_neg (by rw [c, Bool.and_false]; decide)] at e
      rw [e] at q
      exact nm_r (nI_1 s) q
    · rw [if_neg (by rw [decide_eq_false (fun y => z ((nI_eq (by omega) (by omega)).mpr y)), Bool.false_and]; decide)] at e
      rw [e] at q
      exact nm_r (nI_1 s) q
theorem ck_always {g : Nat → Nat} (hg : ck_G g) {D t h : Nat → Int32} {Q : Int32 → Int32 → Prop} (H : ∀ r, Q r r) :
    wpX_always (fun r => wpY_always (fun r' => Q r r') (ck_A g, t, h)) (ck_A g, D) := by
  unfold wpX_always
  dsimp only
  refine ck_Xle hg ⟨257, ck_Xaw_l hg (ck_m_8 hg) ?_ 256 0 rfl⟩
  unfold wpY_always
  dsimp only
  exact ck_Yle hg ⟨257, ck_Yaw_l hg (ck_m_8 hg) (H _) 256 0 rfl⟩
theorem ck_never {g : Nat → Nat} (hg : ck_G g) {D t h : Nat → Int32} {Q : Int32 → Int32 → Prop} (H : ∀ r, Q r r) :
    wpX_never (fun r => wpY_never (fun r' => Q r r') (ck_A g, t, h)) (ck_A g, D) := by
  unfold wpX_never
  dsimp only
  refine ck_Xle hg ⟨257, ck_Xnv_l hg (ck_m_8 hg) ?_ 256 0 rfl⟩
  unfold wpY_never
  dsimp only
  exact ck_Yle hg ⟨257, ck_Ynv_l hg (ck_m_8 hg) (H _) 256 0 rfl⟩
end
section
/-! ===== halves: the walks ===== -/
theorem ck_cost_lt (g : Nat → Nat) (z : Nat) : ck_cost g z < 2 ^ 31 := Nat.lt_of_le_of_lt (ck_cost_17 g z) (by decide)
theorem ck_Xhal_l {post : Int32 → Prop} {g : Nat → Nat} (hg : ck_G g) {D : Nat → Int32} (H : ∀ m, ck_mX g m → post (nI m)) : ∀ d z, z + d = 256 → ∀ m, m ≤ 17 → (∀ z', z' < z → m ≤ ck_cost g z') → (m = 17 ∨ ∃ z', z' < 256 ∧ ck_cost g z' = m ∧ m ≤ 16) → wX_halves_5 post (ck_A g) D (d + 1) (nI m) (nI z) := by
  intro d
  induction d with
  | zero =>
    intro z hz m hm a b
    cases (by omega : z = 256)
    refine br_t ck_256e (H m ⟨a, ?_⟩)
    rcases b with b | b
    · have := a 0 (by decide)
      rw [ck_z0] at this
      omega
    · exact b
  | succ d ih =>
    intro z hzd m hm a b
    have hz : z < 256 := by omega
    have c17 := ck_cost_17 g z
    refine br_f (ck_256 hz) (ck_Xcz hg hz (br_c (fun y => nm_r (nI_1 z) ?_) (fun y => nm_r (nI_1 z) ?_)))
    · have y' := (nI_leI (by omega) (by omega)).mp y
      refine ih (z + 1) (by omega) m hm (fun z' hz' => ?_) b
      rcases Nat.lt_or_ge z' z with q | q
      · exact a z' q
      · cases (by omega : z' = z)
        exact y'
    · have y' : ¬ m ≤ ck_cost g z := fun x => y ((nI_leI (by omega) (by omega)).mpr x)
      refine ih (z + 1) (by omega) (ck_cost g z) c17 (fun z' hz' => ?_) (Or.inr ⟨z, hz, rfl, by omega⟩)
      rcases Nat.lt_or_ge z' z with q | q
      · have := a z' q
        omega
      · cases (by omega : z' = z)
        exact Nat.le_refl _
theorem ck_Xhal {post : Int32 → Prop} {g : Nat → Nat} (hg : ck_G g) {D : Nat → Int32} (H : ∀ m, ck_mX g m → post (nI m)) : wpX_halves post (ck_A g, D) :=
  ⟨257, ck_Xhal_l hg H 256 0 rfl 17 (Nat.le_refl 17) (fun z' hz' => absurd hz' (Nat.not_lt_zero z')) (Or.inl rfl)⟩
/-! give -/
theorem ck_Yg57 {post : Int32 → SY → Prop} {J : Int32 → Prop} {x3 : Int32} {g h : Nat → Nat} (hg : ck_G g) {t hh : Nat → Int32} (h8 : ∀ i, i < 8 → hh i = nI (h i)) (h2 : ∀ i, h i ≤ 2) {v : Nat} (hv : v < 8)
    (K : (∀ w, w < v → (g v).testBit w = true → 2 ≤ h v + h w) → J (nI (v + 1))) (F : ∀ w, w < v → (g v).testBit w = true → ¬ 2 ≤ h v + h w → post (-1) (ck_A g, t, hh)) :
    ∀ d w, w + d = v → (∀ w', w' < w → (g v).testBit w' = true → 2 ≤ h v + h w') → wY_give_57 post J x3 (nI v) (ck_A g) t hh (d + 1) (nI w) := by
  intro d
  induction d with
  | zero =>
    intro w hw P
    cases (by omega : w = v)
    exact br_t (nI_le (Nat.le_refl w) (by omega)) (nm_r (nI_1 w) (K P))
  | succ d ih =>
    intro w hwd P
    have hw : w < v := by omega
    have hw8 : w < 8 := by omega
    have e : hh (nI v).toNatClampNeg + hh (nI w).toNatClampNeg = nI (h v + h w) := by
      rw [nI_clamp (by omega), nI_clamp (by omega), h8 v hv, h8 w hw8, nI_add]
    have b1 := h2 v
    have b2 := h2 w
    have E : (2 : Int32) ≤ hh (nI v).toNatClampNeg + hh (nI w).toNatClampNeg ↔ 2 ≤ h v + h w := by
      rw [e]
      exact nI_leI (a := 2) (by decide) (by omega)
    have S : ((g v).testBit w = true → 2 ≤ h v + h w) → ∀ w', w' < w + 1 → (g v).testBit w' = true → 2 ≤ h v + h w' := fun q => lt_s P q
    refine br_f (nI_ge hw (by omega)) ⟨ck_in hv, ?_⟩
    rw [ck_at hv]
    refine br_c (fun hb => ⟨ck_in hv, ck_in hw8, br_c (fun z => nm_r (nI_1 w) ?_) (fun z => ?_)⟩) (fun hb => nm_r (nI_1 w) ?_)
    · exact ih (w + 1) (by omega) (S fun _ => E.mp z)
    · exact F w hw ((ck_bit (hg.1 v hv) hw8).mp hb) (fun y => z (E.mpr y))
    · exact ih (w + 1) (by omega) (S fun y => absurd ((ck_bit (hg.1 v hv) hw8).mpr y) hb)
theorem ck_Yg47 {post : Int32 → SY → Prop} {x3 : Int32} {g h : Nat → Nat} (hg : ck_G g) {t hh : Nat → Int32} (h8 : ∀ i, i < 8 → hh i = nI (h i)) (h2 : ∀ i, h i ≤ 2)
    (H1 : ck_hc g h → post x3 (ck_A g, t, hh)) (H0 : ¬ ck_hc g h → post (-1) (ck_A g, t, hh)) :
    ∀ d v, v + d = 8 → (∀ v', v' < v → ∀ w, w < v' → (g v').testBit w = true → 2 ≤ h v' + h w) → wY_give_47 post x3 (ck_A g) t hh (d + 1) (nI v) := by
  intro d
  induction d with
  | zero =>
    intro v hv P
    cases (by omega : v = 8)
    exact br_t ck_88 (H1 fun v w hv hw e => P v hv w hw e)
  | succ d ih =>
    intro v hvd P
    have hv : v < 8 := by omega
    refine br_f (ck_8 hv) ⟨v + 1, ck_Yg57 hg h8 h2 hv (fun q => ih (v + 1) (by omega) (lt_s P q)) (fun w hw a b => H0 fun z => b (z v w hv hw a)) v 0 (Nat.zero_add v) (fun w' hw' => absurd hw' (Nat.not_lt_zero w'))⟩
theorem ck_d_s (c v : Nat) : c / 3 ^ v / 3 = c / 3 ^ (v + 1) := by
  rw [Nat.div_div_eq_div_mul, Nat.pow_succ]
theorem ck_Yg7 {post : Int32 → SY → Prop} {g : Nat → Nat} (hg : ck_G g) {t : Nat → Int32} {c : Nat} (hc : c < 6561)
    (H : ∀ hh : Nat → Int32, (∀ i, i < 8 → hh i = nI (ck_d c i)) → (ck_hc g (ck_d c) → post (nI (ck_sm (ck_d c) 8)) (ck_A g, t, hh)) ∧ (¬ ck_hc g (ck_d c) → post (-1) (ck_A g, t, hh))) :
    ∀ d v, v + d = 8 → ∀ hh : Nat → Int32, (∀ i, i < v → hh i = nI (ck_d c i)) → wY_give_7 post (d + 1) (nI (c / 3 ^ v)) (nI (ck_sm (ck_d c) v)) (nI v) (ck_A g) t hh := by
  intro d
  induction d with
  | zero =>
    intro v hv hh P
    cases (by omega : v = 8)
    have q := H hh P
    exact br_t ck_88 ⟨9, ck_Yg47 hg P (fun i => Nat.le_of_lt_succ (ck_d_lt c i)) q.1 q.2 8 0 rfl (fun v' hv' => absurd hv' (Nat.not_lt_zero v'))⟩
  | succ d ih =>
    intro v hvd hh P
    have hv : v < 8 := by omega
    have cl : c / 3 ^ v < 2 ^ 31 := Nat.lt_of_le_of_lt (Nat.div_le_self _ _) (by omega)
    have e1 : upd hh (nI v).toNatClampNeg (nI (c / 3 ^ v) - nI (c / 3 ^ v) / 3 * 3) = upd hh v (nI (ck_d c v)) := by
      rw [nI_clamp (by omega)]
      exact congrArg (upd hh v) (pk_rem (d := 3) cl (by decide) (by decide))
    have e2 : nI (c / 3 ^ v) / 3 = nI (c / 3 ^ (v + 1)) := by
      rw [← ck_d_s]
      exact pk_div (d := 3) cl (by decide) (by decide)
    have e3 : nI (ck_sm (ck_d c) v) + upd hh v (nI (ck_d c v)) (nI v).toNatClampNeg = nI (ck_sm (ck_d c) (v + 1)) := by
      rw [nI_clamp (by omega), pk_us, nI_add]
      rfl
    refine br_f (ck_8 hv) ⟨by decide, ck_in hv, nm_r e1 ⟨by decide, nm_r e2 ⟨ck_in hv, nm_r e3 (nm_r (nI_1 v) ?_)⟩⟩⟩
    refine ih (v + 1) (by omega) _ (fun i hi => ?_)
    by_cases x : i = v
    · rw [x]
      exact pk_us
    · exact (pk_un x).trans (P i (by omega))
theorem ck_Ygive {post : Int32 → SY → Prop} {g : Nat → Nat} (hg : ck_G g) {t h : Nat → Int32} {c : Nat} (hc : c < 6561)
    (H : ∀ hh : Nat → Int32, (∀ i, i < 8 → hh i = nI (ck_d c i)) → (ck_hc g (ck_d c) → post (nI (ck_sm (ck_d c) 8)) (ck_A g, t, hh)) ∧ (¬ ck_hc g (ck_d c) → post (-1) (ck_A g, t, hh))) : wpY_give post (ck_A g, t, h) (nI c) := by
  have q := ck_Yg7 hg hc H 8 0 rfl h (fun i hi => absurd hi (Nat.not_lt_zero i))
  rw [Nat.pow_zero, Nat.div_one] at q
  exact ⟨9, q⟩
/-! the reference's least -/
theorem ck_6561 {c : Nat} (h : c < 6561) : ¬ (6561 : Int32) ≤ nI c := nI_ge (b := 6561) h (by decide)
theorem ck_6561e : (6561 : Int32) ≤ nI 6561 := nI_le (a := 6561) (b := 6561) (Nat.le_refl _) (by decide)
theorem ck_sm_16 (c : Nat) : ck_sm (ck_d c) 8 ≤ 16 := ck_sm_2 8 (fun v _ => Nat.le_of_lt_succ (ck_d_lt c v))
theorem ck_twos : ∀ v, v < 8 → ck_d 6560 v = 2 := by decide
theorem ck_Yhal_l {post : Int32 → SY → Prop} {g : Nat → Nat} (hg : ck_G g) {t : Nat → Int32} (H : ∀ m hh, m ≤ 16 → ck_mY g m → post (nI m) (ck_A g, t, hh)) : ∀ d c, c + d = 6561 → ∀ m hh, m ≤ 16 → (∀ c', c' < c → ck_hc g (ck_d c') → m ≤ ck_sm (ck_d c') 8) → (m = 16 ∨ ∃ c', c' < 6561 ∧ ck_hc g (ck_d c') ∧ ck_sm (ck_d c') 8 = m) → wY_halves_5 post (d + 1) (nI m) (nI c) (ck_A g) t hh := by
  intro d
  induction d with
  | zero =>
    intro c hc m hh hm a b
    cases (by omega : c = 6561)
    refine br_t ck_6561e (H m hh hm ⟨a, ?_⟩)
    rcases b with b | b
    · refine ⟨6560, by decide, fun v w hv hw _ => ?_, ?_⟩
      · rw [ck_twos v hv]
        omega
      · rw [b]
        decide
    · exact b
  | succ d ih =>
    intro c hcd m hh hm a b
    have hc : c < 6561 := by omega
    have s16 := ck_sm_16 c
    refine br_f (ck_6561 hc) (ck_Ygive hg hc fun hh' _ => ⟨fun k => ?_, fun k => ?_⟩)
    · refine br_f (nI_pos (by omega)) (br_c (fun y => nm_r (nI_1 c) ?_) (fun y => nm_r (nI_1 c) ?_))
      · have y' := (nI_leI (by omega) (by omega)).mp y
        exact ih (c + 1) (by omega) m hh' hm (lt_s a fun _ => y') b
      · have y' : ¬ m ≤ ck_sm (ck_d c) 8 := fun x => y ((nI_leI (by omega) (by omega)).mpr x)
        refine ih (c + 1) (by omega) (ck_sm (ck_d c) 8) hh' s16 (lt_s (fun c' hc' k' => ?_) fun _ => Nat.le_refl _) (Or.inr ⟨c, hc, k, rfl⟩)
        have := a c' hc' k'
        omega
    · refine br_t (by decide) (nm_r (nI_1 c) ?_)
      exact ih (c + 1) (by omega) m hh' hm (lt_s a fun k' => absurd k' k) b
theorem ck_Yhal {post : Int32 → SY → Prop} {g : Nat → Nat} (hg : ck_G g) {t h : Nat → Int32} (H : ∀ m hh, m ≤ 16 → ck_mY g m → post (nI m) (ck_A g, t, hh)) : wpY_halves post (ck_A g, t, h) :=
  ⟨6562, ck_Yhal_l hg H 6561 0 rfl 16 h (Nat.le_refl 16) (fun c' hc' => absurd hc' (Nat.not_lt_zero c')) (Or.inl rfl)⟩
theorem ck_mX16 {g : Nat → Nat} {m : Nat} (h : ck_mX g m) : m ≤ 16 := by
  obtain ⟨_, z, _, _, q⟩ := h
  exact q
theorem ck_halves {g : Nat → Nat} (hg : ck_G g) {D t h : Nat → Int32} {Q : Int32 → Int32 → SY → Prop} (H : ∀ r hh, Q r r (ck_A g, t, hh)) :
    wpX_halves (fun r => wpY_halves (fun r' v' => Q r r' v') (ck_A g, t, h)) (ck_A g, D) := by
  refine ck_Xhal hg fun m hm => ck_Yhal hg fun m' hh _ hm' => ?_
  rw [ck_mY_u hm' (ck_mXY hg hm)]
  exact H _ hh
theorem ck_evenly {g : Nat → Nat} (hg : ck_G g) {D t h : Nat → Int32} {Q : Int32 → Int32 → SY → Prop} (H : ∀ r hh, Q r r (ck_A g, t, hh)) :
    wpX_evenly (fun r => wpY_evenly (fun r' v' => Q r r' v') (ck_A g, t, h)) (ck_A g, D) := by
  unfold wpX_evenly
  dsimp only
  refine ck_Xhal hg fun m hm => ?_
  have E : ∀ m', ck_mY g m' → m' = m := fun m' hm' => ck_mY_u hm' (ck_mXY hg hm)
  unfold wpY_evenly
  dsimp only
  refine br_c (fun z => ck_Yhal hg fun m' hh _ hm' => ?_) (fun z => ck_Yhal hg fun m' hh _ hm' => ?_)
  · rw [E m' hm']
    exact br_t z (H 1 hh)
  · rw [E m' hm']
    exact br_f z (H 0 hh)
end
section
/-! ===== whole, bare, canHave ===== -/
/-- c is a code of a best half cover -/
def ck_bc (g : Nat → Nat) (m c : Nat) : Prop := ck_hc g (ck_d c) ∧ ck_sm (ck_d c) 8 = m
theorem ck_Y45 {post : Int32 → SY → Prop} {J : Int32 → Int32 → (Nat → Int32) → (Nat → Int32) → (Nat → Int32) → Prop} {h : Nat → Nat} {n : Nat} (hn : n ≤ 2) {x2 x3 x4 x5 : Int32} {a t hh : Nat → Int32} (h8 : ∀ i, i < 8 → hh i = nI (h i)) (h2 : ∀ i, h i ≤ 2)
    (K0 : x2 = 0 → J (x4 ||| nI (ck_st (fun v => decide (h v = n)) 8)) (x5 + 1) a t hh) (K1 : ¬ x2 = 0 → J (x4 &&& nI (ck_st (fun v => decide (h v = n)) 8)) (x5 + 1) a t hh) :
    ∀ d v, v + d = 8 → wY_having_45 post J (nI n) x2 x3 x4 x5 a t hh (d + 1) (nI (ck_st (fun v => decide (h v = n)) v)) (nI v) := by
  intro d
  induction d with
  | zero =>
    intro v hv
    cases (by omega : v = 8)
    exact br_t ck_88 (br_c (fun z => nm_e (nm_e (K0 z))) (fun z => nm_e (nm_e (K1 z))))
  | succ d ih =>
    intro v hvd
    have hv : v < 8 := by omega
    have q := ih (v + 1) (by omega)
    have b := h2 v
    have e : ck_st (fun v => decide (h v = n)) (v + 1) = if decide (h v = n) = true then ck_st (fun v => decide (h v = n)) v ||| 2 ^ v else ck_st (fun v => decide (h v = n)) v := rfl
    refine br_f (ck_8 hv) ⟨ck_in hv, ?_⟩
    rw [nI_clamp (by omega), h8 v hv]
    refine br_c (fun z => ?_) (fun z => ?_)
    · rw [if_pos (decide_eq_true ((nI_eq (by omega) (by omega)).mp z))] at e
      rw [e] at q
      refine nm_r ?_ (nm_r (nI_1 v) q)
      rw [ck_s1 hv, ck_or]
    · rw [if_neg (fun y => z (by rw [of_decide_eq_true y]))] at e
      rw [e] at q
      exact nm_r (nI_1 v) q
theorem ck_st_in {h : Nat → Nat} {n v : Nat} (hv : v < 8) : (ck_st (fun v => decide (h v = n)) 8).testBit v = true ↔ h v = n := by
  rw [ck_st_bit, decide_eq_true hv, Bool.true_and, decide_eq_true_iff]
/-- every -/
theorem ck_Y21e {post : Int32 → SY → Prop} {g : Nat → Nat} (hg : ck_G g) {t : Nat → Int32} {n m : Nat} (hn : n ≤ 2) (hm : m ≤ 16)
    (H : ∀ a hh, a < 256 → (∀ v, v < 8 → (a.testBit v = true ↔ ∀ c, c < 6561 → ck_bc g m c → ck_d c v = n)) → post (nI a) (ck_A g, t, hh)) :
    ∀ d c, c + d = 6561 → ∀ a hh, a < 256 → (∀ v, v < 8 → (a.testBit v = true ↔ ∀ c', c' < c → ck_bc g m c' → ck_d c' v = n)) → wY_having_21 post (nI n) 1 (nI m) (d + 1) (nI a) (nI c) (ck_A g) t hh := by
  intro d
  induction d with
  | zero =>
    intro c hc a hh ha P
    cases (by omega : c = 6561)
    exact br_t ck_6561e (H a hh ha P)
  | succ d ih =>
    intro c hcd a hh ha P
    have hc : c < 6561 := by omega
    have s16 := ck_sm_16 c
    have skip : ¬ ck_bc g m c → ∀ v, v < 8 → (a.testBit v = true ↔ ∀ c', c' < c + 1 → ck_bc g m c' → ck_d c' v = n) := fun k v hv => by
      rw [P v hv]
      exact ⟨fun p => lt_s p fun z => absurd z k, fun p c' hc' => p c' (by omega)⟩
    refine br_f (ck_6561 hc) (ck_Ygive hg hc fun hh' e8 => ⟨fun k => br_c (fun z => ?_) (fun z => nm_r (nI_1 c) ?_), fun k => br_f (fun z => ck_nm1 (by omega) z.symm) (nm_r (nI_1 c) ?_)⟩)
    · have z' : ck_bc g m c := ⟨k, (nI_eq (by omega) (by omega)).mp z⟩
      refine ⟨9, ck_Y45 hn e8 (fun i => Nat.le_of_lt_succ (ck_d_lt c i)) (fun z0 => absurd z0 (by decide)) (fun _ => ?_) 8 0 rfl⟩
      rw [nx_and, nI_1]
      refine ih (c + 1) (by omega) _ hh' (ck_and_lt ha) fun v hv => ?_
      rw [Nat.testBit_and, Bool.and_eq_true, P v hv, ck_st_in hv]
      exact ⟨fun p => lt_s p.1 fun _ => p.2, fun p => ⟨fun c' hc' => p c' (by omega), p c (by omega) z'⟩⟩
    · exact ih (c + 1) (by omega) a hh' ha (skip fun y => z (by rw [y.2]))
    · exact ih (c + 1) (by omega) a hh' ha (skip fun y => k y.1)
/-- some -/
theorem ck_Y21s {post : Int32 → SY → Prop} {g : Nat → Nat} (hg : ck_G g) {t : Nat → Int32} {n m : Nat} (hn : n ≤ 2) (hm : m ≤ 16)
    (H : ∀ a hh, a < 256 → (∀ v, v < 8 → (a.testBit v = true ↔ ∃ c, c < 6561 ∧ ck_bc g m c ∧ ck_d c v = n)) → post (nI a) (ck_A g, t, hh)) :
    ∀ d c, c + d = 6561 → ∀ a hh, a < 256 → (∀ v, v < 8 → (a.testBit v = true ↔ ∃ c', c' < c ∧ ck_bc g m c' ∧ ck_d c' v = n)) → wY_having_21 post (nI n) 0 (nI m) (d + 1) (nI a) (nI c) (ck_A g) t hh := by
  intro d
  induction d with
  | zero =>
    intro c hc a hh ha P
    cases (by omega : c = 6561)
    exact br_t ck_6561e (H a hh ha P)
  | succ d ih =>
    intro c hcd a hh ha P
    have hc : c < 6561 := by omega
    have s16 := ck_sm_16 c
    have skip : ¬ ck_bc g m c → ∀ v, v < 8 → (a.testBit v = true ↔ ∃ c', c' < c + 1 ∧ ck_bc g m c' ∧ ck_d c' v = n) := fun k v hv => by
      rw [P v hv]
      constructor
      · rintro ⟨c', x, y⟩
        exact ⟨c', by omega, y⟩
      · rintro ⟨c', x, y⟩
        refine ⟨c', ?_, y⟩
        have : c' ≠ c := fun e => k (by rw [← e]; exact y.1)
        omega
    refine br_f (ck_6561 hc) (ck_Ygive hg hc fun hh' e8 => ⟨fun k => br_c (fun z => ?_) (fun z => nm_r (nI_1 c) ?_), fun k => br_f (fun z => ck_nm1 (by omega) z.symm) (nm_r (nI_1 c) ?_)⟩)
    · have z' : ck_bc g m c := ⟨k, (nI_eq (by omega) (by omega)).mp z⟩
      refine ⟨9, ck_Y45 hn e8 (fun i => Nat.le_of_lt_succ (ck_d_lt c i)) (fun _ => ?_) (fun z0 => absurd rfl z0) 8 0 rfl⟩
      rw [ck_or, nI_1]
      refine ih (c + 1) (by omega) _ hh' (Nat.or_lt_two_pow (n := 8) ha (ck_st_lt _ (Nat.le_refl 8))) fun v hv => ?_
      rw [Nat.testBit_or, Bool.or_eq_true, P v hv, ck_st_in hv]
      constructor
      · rintro (⟨c', x, y⟩ | x)
        · exact ⟨c', by omega, y⟩
        · exact ⟨c, by omega, z', x⟩
      · rintro ⟨c', x, y, w⟩
        by_cases e : c' = c
        · rw [e] at w
          exact Or.inr w
        · exact Or.inl ⟨c', by omega, y, w⟩
    · exact ih (c + 1) (by omega) a hh' ha (skip fun y => z (by rw [y.2]))
    · exact ih (c + 1) (by omega) a hh' ha (skip fun y => k y.1)
theorem ck_Yhve {post : Int32 → SY → Prop} {g : Nat → Nat} (hg : ck_G g) {t h : Nat → Int32} {n : Nat} (hn : n ≤ 2)
    (H : ∀ m a hh, ck_mY g m → a < 256 → (∀ v, v < 8 → (a.testBit v = true ↔ ∀ c, c < 6561 → ck_bc g m c → ck_d c v = n)) → post (nI a) (ck_A g, t, hh)) : wpY_having post (ck_A g, t, h) (nI n) 1 := by
  unfold wpY_having
  dsimp only
  refine ck_Yhal hg fun m hh hm16 hm => br_f (by decide) ⟨6562, ck_Y21e hg hn hm16 (fun a hh' ha P => H m a hh' hm ha P) 6561 0 rfl 255 hh (by decide) fun v hv => ?_⟩
  rw [ck_255, decide_eq_true hv]
  exact ⟨fun _ c hc => absurd hc (Nat.not_lt_zero c), fun _ => rfl⟩
theorem ck_Yhvs {post : Int32 → SY → Prop} {g : Nat → Nat} (hg : ck_G g) {t h : Nat → Int32} {n : Nat} (hn : n ≤ 2)
    (H : ∀ m a hh, ck_mY g m → a < 256 → (∀ v, v < 8 → (a.testBit v = true ↔ ∃ c, c < 6561 ∧ ck_bc g m c ∧ ck_d c v = n)) → post (nI a) (ck_A g, t, hh)) : wpY_having post (ck_A g, t, h) (nI n) 0 := by
  unfold wpY_having
  dsimp only
  refine ck_Yhal hg fun m hh hm16 hm => br_t rfl ⟨6562, ck_Y21s hg hn hm16 (fun a hh' ha P => H m a hh' hm ha P) 6561 0 rfl 0 hh (by decide) fun v hv => ?_⟩
  rw [Nat.zero_testBit]
  constructor
  · intro z
    exact absurd z (by decide)
  · rintro ⟨c, hc, _⟩
    exact absurd hc (Nat.not_lt_zero c)
/-! the component's walks -/
theorem ck_Xwh_l {post : Int32 → Prop} {g : Nat → Nat} (hg : ck_G g) {D : Nat → Int32} {m : Nat} (hm : m ≤ 16)
    (H : ∀ a, a < 256 → (∀ v, v < 8 → (a.testBit v = true ↔ ∀ z, z < 256 → ck_cost g z = m → (ck_ar g z 8).testBit v = true)) → post (nI a)) :
    ∀ d z, z + d = 256 → ∀ a, a < 256 → (∀ v, v < 8 → (a.testBit v = true ↔ ∀ z', z' < z → ck_cost g z' = m → (ck_ar g z' 8).testBit v = true)) → wX_whole_11 post (nI m) (ck_A g) D (d + 1) (nI a) (nI z) := by
  intro d
  induction d with
  | zero =>
    intro z hz a ha P
    cases (by omega : z = 256)
    exact br_t ck_256e (H a ha P)
  | succ d ih =>
    intro z hzd a ha P
    have hz : z < 256 := by omega
    have c17 := ck_cost_17 g z
    refine br_f (ck_256 hz) (ck_Xcz hg hz (br_c (fun y => ck_Xar hz (nm_r (nx_and _ _) (nm_r (nI_1 z) ?_))) (fun y => nm_r (nI_1 z) ?_)))
    · refine ih (z + 1) (by omega) _ (ck_and_lt ha) fun v hv => ?_
      rw [Nat.testBit_and, Bool.and_eq_true, P v hv]
      exact ⟨fun p => lt_s p.1 fun _ => p.2, fun p => ⟨fun z' hz' => p z' (by omega), p z (by omega) ((nI_eq (by omega) (by omega)).mp y)⟩⟩
    · refine ih (z + 1) (by omega) a ha fun v hv => ?_
      rw [P v hv]
      exact ⟨fun p => lt_s p fun e => absurd (by rw [e]) y, fun p z' hz' => p z' (by omega)⟩
theorem ck_Xba_l {post : Int32 → Prop} {g : Nat → Nat} (hg : ck_G g) {D : Nat → Int32} {m : Nat} (hm : m ≤ 16)
    (H : ∀ a, a < 256 → (∀ v, v < 8 → (a.testBit v = true ↔ ∀ z, z < 256 → ck_cost g z = m → z.testBit v = true)) → post (nI a)) :
    ∀ d z, z + d = 256 → ∀ a, a < 256 → (∀ v, v < 8 → (a.testBit v = true ↔ ∀ z', z' < z → ck_cost g z' = m → z'.testBit v = true)) → wX_bare_11 post (nI m) (ck_A g) D (d + 1) (nI a) (nI z) := by
  intro d
  induction d with
  | zero =>
    intro z hz a ha P
    cases (by omega : z = 256)
    exact br_t ck_256e (H a ha P)
  | succ d ih =>
    intro z hzd a ha P
    have hz : z < 256 := by omega
    have c17 := ck_cost_17 g z
    refine br_f (ck_256 hz) (ck_Xcz hg hz (br_c (fun y => nm_r (nx_and _ _) (nm_r (nI_1 z) ?_)) (fun y => nm_r (nI_1 z) ?_)))
    · refine ih (z + 1) (by omega) _ (ck_and_lt ha) fun v hv => ?_
      rw [Nat.testBit_and, Bool.and_eq_true, P v hv]
      exact ⟨fun p => lt_s p.1 fun _ => p.2, fun p => ⟨fun z' hz' => p z' (by omega), p z (by omega) ((nI_eq (by omega) (by omega)).mp y)⟩⟩
    · refine ih (z + 1) (by omega) a ha fun v hv => ?_
      rw [P v hv]
      exact ⟨fun p => lt_s p fun e => absurd (by rw [e]) y, fun p z' hz' => p z' (by omega)⟩
theorem ck_ok_c {g : Nat → Nat} {z m : Nat} (hm : m ≤ 16) (e : ck_cost g z = m) : ck_ok g z := Classical.byContradiction fun n => by
  have := ck_cost_no n
  omega
theorem ck_is2 {g : Nat → Nat} {z v : Nat} (k : ck_ok g z) : (ck_ar g z 8).testBit v = true ↔ ck_hv g z v = 2 := by
  constructor
  · intro h
    exact ck_hv_2 (ck_ok_n k h) h
  · intro h
    cases e : (ck_ar g z 8).testBit v
    · by_cases x : z.testBit v = true
      · rw [ck_hv_0 x] at h
        omega
      · rw [ck_hv_1 x (by rw [e]; decide)] at h
        omega
    · rfl
theorem ck_is0 {g : Nat → Nat} {z v : Nat} : z.testBit v = true ↔ ck_hv g z v = 0 := by
  constructor
  · exact ck_hv_0
  · intro h
    cases e : z.testBit v
    · have x : ¬ z.testBit v = true := by rw [e]; decide
      by_cases y : (ck_ar g z 8).testBit v = true
      · rw [ck_hv_2 x y] at h
        omega
      · rw [ck_hv_1 x y] at h
        omega
    · rfl
/-- all best zeros and all best codes -/
theorem ck_all {g : Nat → Nat} (hg : ck_G g) {m n v : Nat} (hv : v < 8) (hm : ck_mX g m) : (∀ z, z < 256 → ck_cost g z = m → ck_hv g z v = n) ↔ ∀ c, c < 6561 → ck_bc g m c → ck_d c v = n := by
  constructor
  · intro h c _ k
    obtain ⟨z, hz, e, q⟩ := ck_bYX hg hm k.1 k.2
    rw [q v hv]
    exact h z hz e
  · intro h z hz e
    obtain ⟨c, hc, k, s, q⟩ := ck_bXY hg (ck_mX16 hm) e
    rw [← q v hv]
    exact h c hc ⟨k, s⟩
theorem ck_some {g : Nat → Nat} (hg : ck_G g) {m n v : Nat} (hv : v < 8) (hm : ck_mX g m) : (∃ z, z < 256 ∧ ck_cost g z = m ∧ ck_hv g z v = n) ↔ ∃ c, c < 6561 ∧ ck_bc g m c ∧ ck_d c v = n := by
  constructor
  · rintro ⟨z, hz, e, x⟩
    obtain ⟨c, hc, k, s, q⟩ := ck_bXY hg (ck_mX16 hm) e
    exact ⟨c, hc, ⟨k, s⟩, (q v hv).trans x⟩
  · rintro ⟨c, hc, k, x⟩
    obtain ⟨z, hz, e, q⟩ := ck_bYX hg hm k.1 k.2
    exact ⟨z, hz, e, (q v hv).symm.trans x⟩
theorem ck_iff {a b : Nat} (ha : a < 256) (hb : b < 256) (h : ∀ v, v < 8 → (a.testBit v = true ↔ b.testBit v = true)) : a = b := ck_ext ha hb fun i hi => ck_bool (h i hi)
theorem ck_imp {P : Nat → Prop} {A B : Nat → Prop} (h : ∀ z, P z → (A z ↔ B z)) : (∀ z, z < 256 → P z → A z) ↔ ∀ z, z < 256 → P z → B z :=
  ⟨fun p z hz k => (h z k).mp (p z hz k), fun p z hz k => (h z k).mpr (p z hz k)⟩
theorem ck_255i {P : Nat → Nat → Prop} {v : Nat} (hv : v < 8) : Nat.testBit 255 v = true ↔ ∀ z, z < 0 → P z v := by
  rw [ck_255, decide_eq_true hv]
  exact ⟨fun _ c hc => absurd hc (Nat.not_lt_zero c), fun _ => rfl⟩
theorem ck_whole {g : Nat → Nat} (hg : ck_G g) {D t h : Nat → Int32} {Q : Int32 → Int32 → SY → Prop} (H : ∀ r hh, Q r r (ck_A g, t, hh)) :
    wpX_whole (fun r => wpY_whole (fun r' v' => Q r r' v') (ck_A g, t, h)) (ck_A g, D) := by
  unfold wpX_whole
  dsimp only
  refine ck_Xhal hg fun m hm => ⟨257, ck_Xwh_l hg (ck_mX16 hm) (fun a ha P => ?_) 256 0 rfl 255 (by decide) fun v hv => ck_255i (P := fun z v => ck_cost g z = m → (ck_ar g z 8).testBit v = true) hv⟩
  unfold wpY_whole
  dsimp only
  refine ck_Yhve (n := 2) hg (by decide) fun m' a' hh hm' ha' P' => ?_
  cases ck_mY_u hm' (ck_mXY hg hm)
  have e : a' = a := ck_iff ha' ha fun v hv => by
    rw [P v hv, P' v hv, ← ck_all hg hv hm]
    exact ck_imp fun z k => (ck_is2 (ck_ok_c (ck_mX16 hm) k)).symm
  rw [e]
  exact H _ hh
theorem ck_bare {g : Nat → Nat} (hg : ck_G g) {D t h : Nat → Int32} {Q : Int32 → Int32 → SY → Prop} (H : ∀ r hh, Q r r (ck_A g, t, hh)) :
    wpX_bare (fun r => wpY_bare (fun r' v' => Q r r' v') (ck_A g, t, h)) (ck_A g, D) := by
  unfold wpX_bare
  dsimp only
  refine ck_Xhal hg fun m hm => ⟨257, ck_Xba_l hg (ck_mX16 hm) (fun a ha P => ?_) 256 0 rfl 255 (by decide) fun v hv => ck_255i (P := fun z v => ck_cost g z = m → z.testBit v = true) hv⟩
  unfold wpY_bare
  dsimp only
  refine ck_Yhve (n := 0) hg (by decide) fun m' a' hh hm' ha' P' => ?_
  cases ck_mY_u hm' (ck_mXY hg hm)
  have e : a' = a := ck_iff ha' ha fun v hv => by
    rw [P v hv, P' v hv, ← ck_all hg hv hm]
    exact ck_imp fun z k => ck_is0.symm
  rw [e]
  exact H _ hh
/-! canHave -/
theorem ck_Xch_l {post : Int32 → Prop} {g : Nat → Nat} (hg : ck_G g) {D : Nat → Int32} {m n v : Nat} (hm : m ≤ 16) (hn : n ≤ 2) (hv : v < 8)
    (H1 : (∃ z, z < 256 ∧ ck_cost g z = m ∧ ck_hv g z v = n) → post 1) (H0 : ¬ (∃ z, z < 256 ∧ ck_cost g z = m ∧ ck_hv g z v = n) → post 0) :
    ∀ d z, z + d = 256 → (∀ z', z' < z → ¬ (ck_cost g z' = m ∧ ck_hv g z' v = n)) → wX_canHave_26 post (nI v) (nI n) (nI m) (ck_A g) D (d + 1) (nI z) := by
  intro d
  induction d with
  | zero =>
    intro z hz P
    cases (by omega : z = 256)
    refine br_t ck_256e (H0 ?_)
    rintro ⟨z, hz, k⟩
    exact P z hz k
  | succ d ih =>
    intro z hzd P
    have hz : z < 256 := by omega
    have c17 := ck_cost_17 g z
    have h2 := ck_hv_le g z v
    refine br_f (ck_256 hz) (ck_Xcz hg hz (br_c (fun y => ck_Xho hg hz hv (br_c (fun x => ?_) (fun x => nm_r (nI_1 z) ?_))) (fun y => nm_r (nI_1 z) ?_)))
    · exact H1 ⟨z, hz, (nI_eq (by omega) (by omega)).mp y, (nI_eq (by omega) (by omega)).mp x⟩
    · exact ih (z + 1) (by omega) (lt_s P fun k => x (by rw [k.2]))
    · exact ih (z + 1) (by omega) (lt_s P fun k => y (by rw [k.1]))
theorem ck_two (x : Int32) : x < 0 ∨ (¬ x < 0 ∧ (2 : Int32) < x) ∨ ∃ n, n ≤ 2 ∧ x = nI n := by
  by_cases h : x < 0
  · exact Or.inl h
  · obtain ⟨j, hj, rfl⟩ := nI_of h
    rcases Nat.lt_or_ge 2 j with q | q
    · exact Or.inr (Or.inl ⟨h, nI_lt (a := 2) q hj⟩)
    · exact Or.inr (Or.inr ⟨j, q, rfl⟩)
theorem ck_canHave {g : Nat → Nat} (hg : ck_G g) {D t h : Nat → Int32} {Q : Int32 → Int32 → SY → Prop} (x y : Int32) (H : ∀ r hh, Q r r (ck_A g, t, hh)) :
    wpX_canHave (fun r => wpY_canHave (fun r' v' => Q r r' v') (ck_A g, t, h) x y) (ck_A g, D) x y := by
  unfold wpX_canHave wpY_canHave
  dsimp only
  rcases ck_vx x with ⟨x1, y1⟩ | ⟨v, hv, rfl⟩
  · exact x1 _ (br_t rfl (y1 _ _ (br_t rfl (H 0 h))))
  · refine ck_Xv hv (br_f (by decide) ?_)
    rcases ck_two y with h0 | ⟨h0, h2⟩ | ⟨n, hn, rfl⟩
    · exact br_t h0 (ck_Yv hv (br_f (by decide) (br_t h0 (H 0 h))))
    · exact br_f h0 (br_f (Int32.not_le.mpr h2) (ck_Yv hv (br_f (by decide) (br_f h0 (br_t h2 (H 0 h))))))
    · have h0 : ¬ nI n < 0 := nI_pos (by omega)
      have h2 : nI n ≤ (2 : Int32) := nI_le (b := 2) hn (by decide)
      refine br_f h0 (br_t h2 (ck_Xhal hg fun m hm => ⟨257, ck_Xch_l hg (ck_mX16 hm) hn hv (fun k => ?_) (fun k => ?_) 256 0 rfl (fun z' hz' => absurd hz' (Nat.not_lt_zero z'))⟩))
      · refine ck_Yv hv (br_f (by decide) (br_f h0 (br_f (Int32.not_lt.mpr h2) (ck_Yhvs hg hn fun m' a' hh hm' ha' P' => ?_))))
        cases ck_mY_u hm' (ck_mXY hg hm)
        exact br_t ((ck_bit ha' hv).mpr ((P' v hv).mpr ((ck_some hg hv hm).mp k))) (H 1 hh)
      · refine ck_Yv hv (br_f (by decide) (br_f h0 (br_f (Int32.not_lt.mpr h2) (ck_Yhvs hg hn fun m' a' hh hm' ha' P' => ?_))))
        cases ck_mY_u hm' (ck_mXY hg hm)
        exact br_f (fun z => k ((ck_some hg hv hm).mpr ((P' v hv).mp ((ck_bit ha' hv).mp z)))) (H 0 hh)
end
section
/-! ===== matching: the walks ===== -/
/-- the table holds the right numbers below k -/
def ck_T (g : Nat → Nat) (a : Nat → Int32) (k : Nat) : Prop := ∀ s, s < k → ∃ b, a s = nI b ∧ ck_iM g s b ∧ b ≤ s
theorem ck_T_le {g : Nat → Nat} {a : Nat → Int32} {j k : Nat} (h : j ≤ k) (T : ck_T g a k) : ck_T g a j := fun s hs => T s (by omega)
theorem ck_T_s {g : Nat → Nat} {a : Nat → Int32} {k b : Nat} (T : ck_T g a k) (h : ck_iM g k b) (hb : b ≤ k) : ck_T g (upd a k (nI b)) (k + 1) := fun s hs => by
  by_cases e : s = k
  · rw [e]
    exact ⟨b, pk_us, h, hb⟩
  · obtain ⟨c, x, y⟩ := T s (by omega)
    exact ⟨c, (pk_un e).trans x, y⟩
theorem ck_T_0 (g : Nat → Nat) (a : Nat → Int32) : ck_T g (upd a 0 0) 1 := fun s hs => by
  cases (by omega : s = 0)
  exact ⟨0, pk_us, ck_iM_0 g, Nat.le_refl 0⟩
theorem ck_in256 {s : Nat} (hs : s < 256) : vp_in (nI s) 256 := vp_in_nI hs (by decide)
theorem ck_rmI {s v : Nat} (hs : s < 256) (hv : v < 8) : nI s &&& (((1 : Int32) <<< (nI v &&& 31)) ^^^ (-1)) = nI (ck_rm s v) := ck_J0 hs hv
/-- the component: partners below v -/
theorem ck_Xmd_l {post : Int32 → Prop} {g : Nat → Nat} (hg : ck_G g) {D : Nat → Int32} {v r : Nat} (hv : v < 8) (hr : r < 2 ^ v) (T : ck_T g D (2 ^ v)) (H : ∀ b, ck_iM g (2 ^ v + r) b → b ≤ 2 ^ v + r → post (nI b)) :
    ∀ d w, w + d = v → ∀ b, ck_pw g (2 ^ v + r) v w b → wX_mostDisjoint_20 post (nI v) (nI r) (nI (g v &&& r)) (ck_A g) D (d + 1) (nI b) (nI w) := by
  obtain ⟨_, lt, sv, rm⟩ := ck_top hv hr
  have r8 : r < 256 := by omega
  intro d
  induction d with
  | zero =>
    intro w hw b P
    cases (by omega : w = v)
    refine br_t (nI_le (Nat.le_refl w) (by omega)) (H b (ck_pw_e hg lt hv (fun x hx => ?_) P) ?_)
    · rw [rm] at hx
      rcases Nat.lt_or_ge x w with q | q
      · exact q
      · rw [Nat.testBit_lt_two_pow (Nat.lt_of_lt_of_le hr (Nat.pow_le_pow_right (by decide) q))] at hx
        exact absurd hx (by decide)
    · have := P.2.2.2
      rw [rm] at this
      omega
  | succ d ih =>
    intro w hwd b P
    have hw : w < v := by omega
    have hw8 : w < 8 := by omega
    have hp : g v &&& r < 256 := ck_and_lt (hg.1 v hv)
    have br : b ≤ r := by
      have := P.2.2.2
      rw [rm] at this
      exact this
    refine br_f (nI_ge hw (by omega)) (ck_Xhas hp hw8 (fun x => br_f (by decide) ?_) (fun x => br_t rfl (nm_r (nI_1 w) (ih (w + 1) (by omega) b (ck_pw_n P fun y z => ?_)))))
    · rw [Nat.testBit_and, Bool.and_eq_true] at x
      obtain ⟨c, ec, hc, cl⟩ := T (ck_rm r w) (Nat.lt_of_le_of_lt (ck_rm_le r w) hr)
      have lr := ck_rm_lt r8 w
      have e : D (nI r &&& (((1 : Int32) <<< (nI w &&& 31)) ^^^ (-1))).toNatClampNeg + 1 = nI (c + 1) := by
        rw [ck_rmI r8 hw8, nI_clamp (by omega), ec, nI_1]
      refine ⟨?_, nm_r e ?_⟩
      · rw [ck_rmI r8 hw8]
        exact ck_in256 lr
      · have S := fun b' hb' => ck_pw_y (b' := b') lt hv hw8 sv P (by rw [rm]; exact x.2) x.1 (by rw [rm]; exact hc) (by rw [rm]; exact cl) hb'
        refine br_c (fun y => nm_r (nI_1 w) ?_) (fun y => nm_r (nI_1 w) ?_)
        · have y' := (nI_leI (by omega) (by omega)).mp y
          exact ih (w + 1) (by omega) b (S b (by rw [if_neg (by omega)]))
        · have y' : ¬ c + 1 ≤ b := fun z => y ((nI_leI (by omega) (by omega)).mpr z)
          exact ih (w + 1) (by omega) (c + 1) (S (c + 1) (by rw [if_pos (by omega)]))
    · rw [rm] at y
      rw [Nat.testBit_and, y, z] at x
      exact absurd x (by decide)
theorem ck_Xmd {post : Int32 → Prop} {g : Nat → Nat} (hg : ck_G g) {D : Nat → Int32} {v r : Nat} (hv : v < 8) (hr : r < 2 ^ v) (T : ck_T g D (2 ^ v)) (H : ∀ b, ck_iM g (2 ^ v + r) b → b ≤ 2 ^ v + r → post (nI b)) : wpX_mostDisjoint post (ck_A g, D) (nI v) (nI r) := by
  obtain ⟨_, lt, sv, rm⟩ := ck_top hv hr
  have r8 : r < 256 := by omega
  obtain ⟨b, eb, hb, bl⟩ := T r hr
  have e1 : D (nI r).toNatClampNeg = nI b := by rw [nI_clamp (by omega), eb]
  have e2 : ck_A g (nI v).toNatClampNeg &&& nI r = nI (g v &&& r) := by rw [ck_at hv, nx_and]
  exact ⟨ck_in256 r8, nm_r e1 ⟨ck_in hv, nm_r e2 ⟨v + 1, ck_Xmd_l hg hv hr T H v 0 (Nat.zero_add v) b (ck_pw_0 lt (by rw [rm]; exact hb) (by rw [rm]; exact bl))⟩⟩⟩
theorem ck_X21 {post : Int32 → SX → Prop} {J : Int32 → (Nat → Int32) → (Nat → Int32) → Prop} {g : Nat → Nat} (hg : ck_G g) {v : Nat} (hv : v < 8) (K : ∀ D, ck_T g D (2 ^ (v + 1)) → J (nI (v + 1)) (ck_A g) D) :
    ∀ d r, r + d = 2 ^ v → ∀ D, ck_T g D (2 ^ v + r) → wX_matching_21 post J (nI v) (nI (2 ^ v)) (d + 1) (nI r) (ck_A g) D := by
  have p := ck_one hv
  intro d
  induction d with
  | zero =>
    intro r hr D T
    have er : r = 2 ^ v := by omega
    rw [er] at T ⊢
    refine br_t (nI_le (Nat.le_refl _) (by omega)) (nm_r (nI_1 v) (K D ?_))
    rw [Nat.pow_succ, Nat.mul_two]
    exact T
  | succ d ih =>
    intro r hrd D T
    have hr : r < 2 ^ v := by omega
    obtain ⟨eo, lt, sv, rm⟩ := ck_top hv hr
    have e : nI (2 ^ v) ||| nI r = nI (2 ^ v + r) := by rw [ck_or, eo]
    refine br_f (nI_ge hr (by omega)) (ck_Xmd hg hv hr (ck_T_le (by omega) T) fun b hb bl => ?_)
    rw [e]
    refine ⟨ck_in256 lt, ?_⟩
    rw [nI_clamp (by omega)]
    exact nm_e (nm_r (nI_1 r) (ih (r + 1) (by omega) _ (ck_T_s T hb bl)))
theorem ck_X9 {post : Int32 → SX → Prop} {g : Nat → Nat} (hg : ck_G g) (H : ∀ b D, ck_iM g 255 b → post (nI b) (ck_A g, D)) :
    ∀ d v, v + d = 8 → ∀ D, ck_T g D (2 ^ v) → wX_matching_9 post (d + 1) (nI v) (ck_A g) D := by
  intro d
  induction d with
  | zero =>
    intro v hv D T
    cases (by omega : v = 8)
    obtain ⟨b, eb, hb, _⟩ := T 255 (by decide)
    refine br_t ck_88 ?_
    rw [eb]
    exact H b D hb
  | succ d ih =>
    intro v hvd D T
    have hv : v < 8 := by omega
    exact br_f (ck_8 hv) (nm_r (ck_s1 hv) ⟨2 ^ v + 1, ck_X21 hg hv (fun D' T' => ih (v + 1) (by omega) D' T') (2 ^ v) 0 (Nat.zero_add _) D T⟩)
theorem ck_Xma {post : Int32 → SX → Prop} {g : Nat → Nat} (hg : ck_G g) {D : Nat → Int32} (H : ∀ b D, ck_iM g 255 b → post (nI b) (ck_A g, D)) : wpX_matching post (ck_A g, D) :=
  nm_e ⟨9, ck_X9 hg H 8 0 rfl _ (ck_T_0 g D)⟩
/-- the reference: partners of all -/
theorem ck_Y57 {post : Int32 → SY → Prop} {J : Int32 → (Nat → Int32) → (Nat → Int32) → (Nat → Int32) → Prop} {g : Nat → Nat} (hg : ck_G g) {t h : Nat → Int32} {s v : Nat} (hs : s < 256) (hv : v < 8) (sv : s.testBit v = true) (T : ck_T g t s)
    (K : ∀ t', ck_T g t' (s + 1) → J (nI (s + 1)) (ck_A g) t' h) :
    ∀ d w, w + d = 8 → ∀ b, ck_pw g s v w b → wY_matching_57 post J (nI s) (nI v) (nI (ck_rm s v)) (ck_A g) t h (d + 1) (nI b) (nI w) := by
  have hr := ck_rm_lt hs v
  have rs := ck_rm_s hs sv
  intro d
  induction d with
  | zero =>
    intro w hw b P
    cases (by omega : w = 8)
    have bl := P.2.2.2
    refine br_t ck_88 ⟨ck_in256 hs, ?_⟩
    rw [nI_clamp (by omega)]
    exact nm_e (nm_r (nI_1 s) (K _ (ck_T_s T (ck_pw_e hg hs hv (fun x hx => ck_b8 hr hx) P) (by omega))))
  | succ d ih =>
    intro w hwd b P
    have hw : w < 8 := by omega
    have bl := P.2.2.2
    have N : ((ck_rm s v).testBit w = true → (g v).testBit w = true → False) → wY_matching_93 post J (wY_matching_57 post J (nI s) (nI v) (nI (ck_rm s v)) (ck_A g) t h (d + 1)) (nI s) (nI v) (nI (ck_rm s v)) (nI b) (nI w) (ck_A g) t h := fun q =>
      br_t rfl (br_t (nI_pos' (by omega)) (nm_r (nI_1 w) (ih (w + 1) (by omega) b (ck_pw_n P q))))
    refine br_f (ck_8 hw) (br_c (fun x => ⟨ck_in hv, ?_⟩) (fun x => N fun y _ => x ((ck_bit hr hw).mpr y)))
    rw [ck_at hv]
    refine br_c (fun y => ?_) (fun y => N fun _ z => y ((ck_bit (hg.1 v hv) hw).mpr z))
    have x' := (ck_bit hr hw).mp x
    have y' := (ck_bit (hg.1 v hv) hw).mp y
    have lr := ck_rm_lt hr w
    obtain ⟨c, ec, hc, cl⟩ := T (ck_rm (ck_rm s v) w) (Nat.lt_of_le_of_lt (ck_rm_le _ w) rs)
    have e : (1 : Int32) + t (nI (ck_rm s v) &&& (((1 : Int32) <<< (nI w &&& 31)) ^^^ (-1))).toNatClampNeg = nI (c + 1) := by
      rw [ck_rmI hr hw, nI_clamp (by omega), ec, Int32.add_comm, nI_1]
    have S := fun b' hb' => ck_pw_y (b' := b') hs hv hw sv P x' y' hc cl hb'
    refine br_f (by decide) ⟨?_, ?_⟩
    · rw [ck_rmI hr hw]
      exact ck_in256 lr
    · rw [e]
      refine br_c (fun z => nm_r (nI_1 w) ?_) (fun z => nm_r (nI_1 w) ?_)
      · have z' := (nI_leI (by omega) (by omega)).mp z
        exact ih (w + 1) (by omega) b (S b (by rw [if_neg (by omega)]))
      · have z' : ¬ c + 1 ≤ b := fun k => z ((nI_leI (by omega) (by omega)).mpr k)
        exact ih (w + 1) (by omega) (c + 1) (S (c + 1) (by rw [if_pos (by omega)]))
theorem ck_Y38 {post : Int32 → SY → Prop} {J : Int32 → (Nat → Int32) → (Nat → Int32) → (Nat → Int32) → Prop} {g : Nat → Nat} (hg : ck_G g) {t h : Nat → Int32} {s v : Nat} (hs : s < 256) (hv : v < 8) (sv : s.testBit v = true) (T : ck_T g t s)
    (K : ∀ t', ck_T g t' (s + 1) → J (nI (s + 1)) (ck_A g) t' h) : wY_matching_38 post J (nI s) (nI v) (ck_A g) t h := by
  have hr := ck_rm_lt hs v
  obtain ⟨b, eb, hb, bl⟩ := T (ck_rm s v) (ck_rm_s hs sv)
  have e : t (nI (ck_rm s v)).toNatClampNeg = nI b := by rw [nI_clamp (by omega), eb]
  exact nm_r (ck_rmI hs hv) ⟨ck_in256 hr, nm_r e ⟨9, ck_Y57 hg hs hv sv T K 8 0 rfl b (ck_pw_0 hs hb bl)⟩⟩
theorem ck_Y18 {post : Int32 → SY → Prop} {J : Int32 → (Nat → Int32) → (Nat → Int32) → (Nat → Int32) → Prop} {g : Nat → Nat} (hg : ck_G g) {t h : Nat → Int32} {s : Nat} (hs : s < 256) (h1 : 1 ≤ s) (T : ck_T g t s)
    (K : ∀ t', ck_T g t' (s + 1) → J (nI (s + 1)) (ck_A g) t' h) : ∀ d v, v + d = 7 → (∀ i, i < v → s.testBit i = false) → wY_matching_18 post J (nI s) (ck_A g) t h (d + 1) (nI v) := by
  intro d
  induction d with
  | zero =>
    intro v hv P
    cases (by omega : v = 7)
    have sv : s.testBit 7 = true := by
      cases e : s.testBit 7
      · have z : s = 0 := ck_ext hs (by decide) fun i hi => by
          rw [Nat.zero_testBit]
          rcases Nat.lt_or_ge i 7 with q | q
          · exact P i q
          · cases (by omega : i = 7)
            exact e
        omega
      · rfl
    exact br_t (nI_le (a := 7) (b := 7) (Nat.le_refl 7) (by decide)) (ck_Y38 hg hs (by decide) sv T K)
  | succ d ih =>
    intro v hvd P
    have hv : v < 8 := by omega
    refine br_f (nI_ge (b := 7) (by omega) (by decide)) (br_c (fun z => nm_r (nI_1 v) (ih (v + 1) (by omega) (lt_s P ((ck_bit0 hs hv).mp z)))) (fun z => ck_Y38 hg hs hv ?_ T K))
    cases e : s.testBit v
    · exact absurd ((ck_bit0 hs hv).mpr e) z
    · rfl
theorem ck_Y9 {post : Int32 → SY → Prop} {g : Nat → Nat} (hg : ck_G g) {h : Nat → Int32} (H : ∀ b t, ck_iM g 255 b → post (nI b) (ck_A g, t, h)) :
    ∀ d s, s + d = 256 → 1 ≤ s → ∀ t, ck_T g t s → wY_matching_9 post (d + 1) (nI s) (ck_A g) t h := by
  intro d
  induction d with
  | zero =>
    intro s hs _ t T
    cases (by omega : s = 256)
    obtain ⟨b, eb, hb, _⟩ := T 255 (by decide)
    refine br_t ck_256e ?_
    rw [eb]
    exact H b t hb
  | succ d ih =>
    intro s hsd h1 t T
    have hs : s < 256 := by omega
    exact br_f (ck_256 hs) ⟨8, ck_Y18 hg hs h1 T (fun t' T' => ih (s + 1) (by omega) (by omega) t' T') 7 0 rfl (fun i hi => absurd hi (Nat.not_lt_zero i))⟩
theorem ck_Yma {post : Int32 → SY → Prop} {g : Nat → Nat} (hg : ck_G g) {t h : Nat → Int32} (H : ∀ b t, ck_iM g 255 b → post (nI b) (ck_A g, t, h)) : wpY_matching post (ck_A g, t, h) :=
  nm_e ⟨256, ck_Y9 hg H 255 1 rfl (Nat.le_refl 1) _ (ck_T_0 g t)⟩
theorem ck_matching {g : Nat → Nat} (hg : ck_G g) {D t h : Nat → Int32} {Q : Int32 → SX → Int32 → SY → Prop} (H : ∀ r D' t', Q r (ck_A g, D') r (ck_A g, t', h)) :
    wpX_matching (fun r u' => wpY_matching (fun r' v' => Q r u' r' v') (ck_A g, t, h)) (ck_A g, D) := by
  refine ck_Xma hg fun b D' hb => ck_Yma hg fun b' t' hb' => ?_
  rw [ck_iM_u hb' hb]
  exact H _ D' t'
end
section
/-! ===== tightCovers: the walks ===== -/
def ck_tc (g : Nat → Nat) : Nat → Nat
  | 0 => 0
  | s + 1 => if (ck_cv g s && ck_xt g s) = true then ck_tc g s + 1 else ck_tc g s
theorem ck_Xtc_l {post : Int32 → Prop} {g : Nat → Nat} (hg : ck_G g) {D : Nat → Int32} (H : post (nI (ck_tc g 256))) : ∀ d s, s + d = 256 → wX_tightCovers_4 post (ck_A g) D (d + 1) (nI (ck_tc g s)) (nI s) := by
  intro d
  induction d with
  | zero =>
    intro s hs
    cases (by omega : s = 256)
    exact br_t ck_256e H
  | succ d ih =>
    intro s hsd
    have hs : s < 256 := by omega
    have q := ih (s + 1) (by omega)
    have e : ck_tc g (s + 1) = if (ck_cv g s && ck_xt g s) = true then ck_tc g s + 1 else ck_tc g s := rfl
    refine br_f (ck_256 hs) (ck_Xcv hg (fun c => br_f (by decide) (ck_Xne hs (fun x => br_f (by decide) ?_) (fun x => br_t rfl ?_))) (fun c => br_t rfl ?_))
    · rw [c, x, Bool.true_and, if_pos rfl] at e
      rw [e] at q
      exact nm_r (nI_1 _) (nm_r (nI_1 s) q)
    · rw [c, x, if_neg (by decide)] at e
      rw [e] at q
      exact nm_r (nI_1 s) q
    · rw [c, Bool.false_and, if_neg (by decide)] at e
      rw [e] at q
      exact nm_r (nI_1 s) q
theorem ck_Yt20 {post : Int32 → Prop} {J : Int32 → Int32 → Prop} {g : Nat → Nat} (hg : ck_G g) {t h : Nat → Int32} {x1 : Int32} {s : Nat} (hs : s < 256) (K1 : ck_yt g s 8 = true → J (x1 + 1) (nI (s + 1))) (K0 : ck_yt g s 8 = false → J x1 (nI (s + 1))) :
    ∀ d v, v + d = 8 → wY_tightCovers_20 post J x1 (nI s) (ck_A g) t h (d + 1) (nI (ck_yt g s v).toNat) (nI v) := by
  intro d
  induction d with
  | zero =>
    intro v hv
    cases (by omega : v = 8)
    refine br_t ck_88 ?_
    cases e : ck_yt g s 8
    · exact br_t rfl (nm_r (nI_1 s) (K0 e))
    · exact br_f (by decide) (nm_e (nm_r (nI_1 s) (K1 e)))
  | succ d ih =>
    intro v hvd
    have hv : v < 8 := by omega
    have q := ih (v + 1) (by omega)
    have e : ck_yt g s (v + 1) = (ck_yt g s v && (!s.testBit v || !ck_cv g (ck_rm s v))) := rfl
    refine br_f (ck_8 hv) ?_
    cases ey : ck_yt g s v
    · rw [ey, Bool.false_and] at e
      rw [e] at q
      exact br_t rfl (nm_r (nI_1 v) q)
    · rw [ey, Bool.true_and] at e
      refine br_f (by decide) (br_c (fun z => ?_) (fun z => ?_))
      · rw [(ck_bit0 hs hv).mp z] at e
        rw [e] at q
        exact nm_r (nI_1 v) q
      · have sv : s.testBit v = true := by
          cases x : s.testBit v
          · exact absurd ((ck_bit0 hs hv).mpr x) z
          · rfl
        rw [sv] at e
        rw [ck_rmI hs hv]
        refine ck_Ycv hg (ck_rm_lt hs v) (fun c => br_f (by decide) ?_) (fun c => br_t rfl ?_)
        · rw [c] at e
          rw [e] at q
          exact nm_r (nI_1 v) q
        · rw [c] at e
          rw [e] at q
          exact nm_r (nI_1 v) q
theorem ck_Ytc_l {post : Int32 → Prop} {g : Nat → Nat} (hg : ck_G g) {t h : Nat → Int32} (H : post (nI (ck_tc g 256))) : ∀ d s, s + d = 256 → wY_tightCovers_4 post (ck_A g) t h (d + 1) (nI (ck_tc g s)) (nI s) := by
  intro d
  induction d with
  | zero =>
    intro s hs
    cases (by omega : s = 256)
    exact br_t ck_256e H
  | succ d ih =>
    intro s hsd
    have hs : s < 256 := by omega
    have q := ih (s + 1) (by omega)
    have e : ck_tc g (s + 1) = if (ck_cv g s && ck_xt g s) = true then ck_tc g s + 1 else ck_tc g s := rfl
    rw [← ck_tight hg hs] at e
    have R := ck_Yt20 (post := post) (J := wY_tightCovers_4 post (ck_A g) t h (d + 1)) (x1 := nI (ck_tc g s)) (t := t) (h := h) hg hs (fun c => by
      rw [c, if_pos rfl] at e
      rw [nI_1, ← e]
      exact q) (fun c => by
      rw [c, if_neg (by decide)] at e
      rw [← e]
      exact q) 8 0 rfl
    refine br_f (ck_256 hs) (ck_Ycv hg hs (fun c => ⟨9, ?_⟩) (fun c => ⟨9, ?_⟩))
    · rw [show ck_yt g s 0 = true from c] at R
      exact R
    · rw [show ck_yt g s 0 = false from c] at R
      exact R
theorem ck_tightCovers {g : Nat → Nat} (hg : ck_G g) {D t h : Nat → Int32} {Q : Int32 → Int32 → Prop} (H : ∀ r, Q r r) :
    wpX_tightCovers (fun r => wpY_tightCovers (fun r' => Q r r') (ck_A g, t, h)) (ck_A g, D) :=
  ⟨257, ck_Xtc_l hg ⟨257, ck_Ytc_l hg (H _) 256 0 rfl⟩ 256 0 rfl⟩
end
section
/-! ===== what is owed ===== -/
def i_Rel (k : Nat) (u : SX) (v : SY) : Prop := ck_R u v
theorem i_up {k : Nat} {u : SX} {v : SY} (h : i_Rel k u v) : i_Rel (k + 4) u v := h
theorem ck_G0 : ck_G (fun _ => 0) := ⟨fun _ _ => (by decide : 0 < 256), fun _ _ _ _ z => by rw [Nat.zero_testBit] at z; exact absurd z (by decide), fun v _ => Nat.zero_testBit v⟩
theorem ck_A0 : (fun _ => 0 : Nat → Int32) = ck_A (fun _ => 0) := rfl
theorem i_vc0 : wpX_init (fun u => wpY_init (fun v => i_Rel 0 u v)) := ⟨fun _ => 0, fun _ => 0, fun _ => 0, fun _ => 0, rfl, rfl, ck_G0⟩
theorem i_vc_join {k : Nat} {u : SX} {v : SY} (I : i_Rel k u v) (hk : k + 4 ≤ 2048) (v1 : Int32) (v2 : Int32) (v3 : Int32) : wpX_join (fun r u' => wpY_join (fun r' v' => r' = r ∧ i_Rel (k + 4) u' v') v v1 v2 (lw_bz v3)) u v1 v2 (lw_bz v3) := by
  obtain ⟨g, D, t, h, rfl, rfl, hg⟩ := I
  exact ck_join hg v1 v2 (lw_bz v3) ⟨rfl, ck_R_i hg⟩ (fun g' hg' => ⟨rfl, ck_R_i hg'⟩)
theorem i_vc_neighbours {k : Nat} {u : SX} {v : SY} (I : i_Rel k u v) (hk : k + 4 ≤ 2048) (v1 : Int32) : wpX_neighbours (fun r => wpY_neighbours (fun r' => r' = r ∧ i_Rel (k + 4) u v) v v1) u v1 := by
  obtain ⟨g, D, t, h, rfl, rfl, hg⟩ := I
  unfold wpX_neighbours wpY_neighbours
  dsimp only
  rcases ck_vx v1 with ⟨x1, y1⟩ | ⟨v, hv, rfl⟩
  · exact x1 _ (br_t rfl (y1 _ _ (br_t rfl ⟨rfl, ck_R_i hg⟩)))
  · exact ck_Xv hv (br_f (by decide) ⟨ck_in hv, ck_Yv hv (br_f (by decide) ⟨ck_in hv, rfl, ck_R_i hg⟩)⟩)
theorem i_vc_edges {k : Nat} {u : SX} {v : SY} (I : i_Rel k u v) (hk : k + 4 ≤ 2048) : wpX_edges (fun r => wpY_edges (fun r' => r' = r ∧ i_Rel (k + 4) u v) v) u := by
  obtain ⟨g, D, t, h, rfl, rfl, hg⟩ := I
  exact ck_Xed hg (ck_Yed hg ⟨rfl, ck_R_i hg⟩)
theorem i_vc_covers {k : Nat} {u : SX} {v : SY} (I : i_Rel k u v) (hk : k + 4 ≤ 2048) (v1 : Int32) : wpX_covers (fun r => wpY_covers (fun r' => r' = r ∧ i_Rel (k + 4) u v) v v1) u v1 := by
  obtain ⟨g, D, t, h, rfl, rfl, hg⟩ := I
  exact ck_covers hg v1 (fun r => ⟨rfl, ck_R_i hg⟩)
theorem i_vc_least {k : Nat} {u : SX} {v : SY} (I : i_Rel k u v) (hk : k + 4 ≤ 2048) : wpX_least (fun r => wpY_least (fun r' => r' = r ∧ i_Rel (k + 4) u v) v) u := by
  obtain ⟨g, D, t, h, rfl, rfl, hg⟩ := I
  refine ck_Xle hg ?_
  unfold wpY_least
  dsimp only
  exact ck_Yle hg ⟨rfl, ck_R_i hg⟩
theorem i_vc_leastCover {k : Nat} {u : SX} {v : SY} (I : i_Rel k u v) (hk : k + 4 ≤ 2048) : wpX_leastCover (fun r => wpY_leastCover (fun r' => r' = r ∧ i_Rel (k + 4) u v) v) u := by
  obtain ⟨g, D, t, h, rfl, rfl, hg⟩ := I
  exact ck_leastCover hg (fun r => ⟨rfl, ck_R_i hg⟩)
theorem i_vc_always {k : Nat} {u : SX} {v : SY} (I : i_Rel k u v) (hk : k + 4 ≤ 2048) : wpX_always (fun r => wpY_always (fun r' => r' = r ∧ i_Rel (k + 4) u v) v) u := by
  obtain ⟨g, D, t, h, rfl, rfl, hg⟩ := I
  exact ck_always hg (fun r => ⟨rfl, ck_R_i hg⟩)
theorem i_vc_never {k : Nat} {u : SX} {v : SY} (I : i_Rel k u v) (hk : k + 4 ≤ 2048) : wpX_never (fun r => wpY_never (fun r' => r' = r ∧ i_Rel (k + 4) u v) v) u := by
  obtain ⟨g, D, t, h, rfl, rfl, hg⟩ := I
  exact ck_never hg (fun r => ⟨rfl, ck_R_i hg⟩)
theorem i_vc_tightCovers {k : Nat} {u : SX} {v : SY} (I : i_Rel k u v) (hk : k + 4 ≤ 2048) : wpX_tightCovers (fun r => wpY_tightCovers (fun r' => r' = r ∧ i_Rel (k + 4) u v) v) u := by
  obtain ⟨g, D, t, h, rfl, rfl, hg⟩ := I
  exact ck_tightCovers hg (fun r => ⟨rfl, ck_R_i hg⟩)
theorem i_vc_leastWith {k : Nat} {u : SX} {v : SY} (I : i_Rel k u v) (hk : k + 4 ≤ 2048) (v1 : Int32) (v2 : Int32) : wpX_leastWith (fun r => wpY_leastWith (fun r' => r' = r ∧ i_Rel (k + 4) u v) v v1 v2) u v1 v2 := by
  obtain ⟨g, D, t, h, rfl, rfl, hg⟩ := I
  exact ck_leastWith hg v1 v2 (fun r => ⟨rfl, ck_R_i hg⟩)
theorem i_vc_halves {k : Nat} {u : SX} {v : SY} (I : i_Rel k u v) (hk : k + 4 ≤ 2048) : wpX_halves (fun r => wpY_halves (fun r' v' => r' = r ∧ i_Rel (k + 4) u v') v) u := by
  obtain ⟨g, D, t, h, rfl, rfl, hg⟩ := I
  exact ck_halves hg (fun r hh => ⟨rfl, ck_R_i hg⟩)
theorem i_vc_whole {k : Nat} {u : SX} {v : SY} (I : i_Rel k u v) (hk : k + 4 ≤ 2048) : wpX_whole (fun r => wpY_whole (fun r' v' => r' = r ∧ i_Rel (k + 4) u v') v) u := by
  obtain ⟨g, D, t, h, rfl, rfl, hg⟩ := I
  exact ck_whole hg (fun r hh => ⟨rfl, ck_R_i hg⟩)
theorem i_vc_bare {k : Nat} {u : SX} {v : SY} (I : i_Rel k u v) (hk : k + 4 ≤ 2048) : wpX_bare (fun r => wpY_bare (fun r' v' => r' = r ∧ i_Rel (k + 4) u v') v) u := by
  obtain ⟨g, D, t, h, rfl, rfl, hg⟩ := I
  exact ck_bare hg (fun r hh => ⟨rfl, ck_R_i hg⟩)
theorem i_vc_evenly {k : Nat} {u : SX} {v : SY} (I : i_Rel k u v) (hk : k + 4 ≤ 2048) : wpX_evenly (fun r => wpY_evenly (fun r' v' => r' = r ∧ i_Rel (k + 4) u v') v) u := by
  obtain ⟨g, D, t, h, rfl, rfl, hg⟩ := I
  exact ck_evenly hg (fun r hh => ⟨rfl, ck_R_i hg⟩)
theorem i_vc_canHave {k : Nat} {u : SX} {v : SY} (I : i_Rel k u v) (hk : k + 4 ≤ 2048) (v1 : Int32) (v2 : Int32) : wpX_canHave (fun r => wpY_canHave (fun r' v' => r' = r ∧ i_Rel (k + 4) u v') v v1 v2) u v1 v2 := by
  obtain ⟨g, D, t, h, rfl, rfl, hg⟩ := I
  exact ck_canHave hg v1 v2 (fun r hh => ⟨rfl, ck_R_i hg⟩)
theorem i_vc_matching {k : Nat} {u : SX} {v : SY} (I : i_Rel k u v) (hk : k + 4 ≤ 2048) : wpX_matching (fun r u' => wpY_matching (fun r' v' => r' = r ∧ i_Rel (k + 4) u' v') v) u := by
  obtain ⟨g, D, t, h, rfl, rfl, hg⟩ := I
  exact ck_matching hg (fun r D' t' => ⟨rfl, ck_R_i hg⟩)
end
