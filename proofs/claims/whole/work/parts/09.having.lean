/-! ===== whole, bare, canHave ===== -/
/-- c is a code of a best half cover -/
def ck_bc (g : Nat → Nat) (m c : Nat) : Prop := ck_hc g (ck_d c) ∧ ck_sm (ck_d c) 8 = m
theorem ck_Y45 {post : Int32 → SY → Prop} {J : Int32 → Int32 → (Nat → Int32) → (Nat → Int32) → (Nat → Int32) → Prop} {h : Nat → Nat} {n : Nat} (hn : n ≤ 2) {x2 x3 x4 x5 : Int32} {a t hh : Nat → Int32} (h8 : ∀ i, i < 8 → hh i = nI (h i)) (h2 : ∀ i, h i ≤ 2)
    (K0 : x2 = 0 → J (x4 ||| nI (ck_st (fun v => decide (h v = n)) 8)) (x5 + 1) a t hh) (K1 : ¬ x2 = 0 → J (x4 &&& nI (ck_st (fun v => decide (h v = n)) 8)) (x5 + 1) a t hh) :
    ∀ d v, v + d = 8 → wY_having_45 post J (nI n) x2 x3 x4 x5 a t hh (d + 1) (nI (ck_st (fun v => decide (h v = n)) v)) (nI v) := by
  intro d
  induction d with
  | zero =>
    intro v hv
    cases (by omega : v = 8)
    exact br_t ck_88 (br_c (fun z => nm_e (nm_e (K0 z))) (fun z => nm_e (nm_e (K1 z))))
  | succ d ih =>
    intro v hvd
    have hv : v < 8 := by omega
    have q := ih (v + 1) (by omega)
    have b := h2 v
    have e : ck_st (fun v => decide (h v = n)) (v + 1) = if decide (h v = n) = true then ck_st (fun v => decide (h v = n)) v ||| 2 ^ v else ck_st (fun v => decide (h v = n)) v := rfl
    refine br_f (ck_8 hv) ⟨ck_in hv, ?_⟩
    rw [nI_clamp (by omega), h8 v hv]
    refine br_c (fun z => ?_) (fun z => ?_)
    · rw [if_pos (decide_eq_true ((nI_eq (by omega) (by omega)).mp z))] at e
      rw [e] at q
      refine nm_r ?_ (nm_r (nI_1 v) q)
      rw [ck_s1 hv, ck_or]
    · rw [if_neg (fun y => z (by rw [of_decide_eq_true y]))] at e
      rw [e] at q
      exact nm_r (nI_1 v) q
theorem ck_st_in {h : Nat → Nat} {n v : Nat} (hv : v < 8) : (ck_st (fun v => decide (h v = n)) 8).testBit v = true ↔ h v = n := by
  rw [ck_st_bit, decide_eq_true hv, Bool.true_and, decide_eq_true_iff]
/-- every -/
theorem ck_Y21e {post : Int32 → SY → Prop} {g : Nat → Nat} (hg : ck_G g) {t : Nat → Int32} {n m : Nat} (hn : n ≤ 2) (hm : m ≤ 16)
    (H : ∀ a hh, a < 256 → (∀ v, v < 8 → (a.testBit v = true ↔ ∀ c, c < 6561 → ck_bc g m c → ck_d c v = n)) → post (nI a) (ck_A g, t, hh)) :
    ∀ d c, c + d = 6561 → ∀ a hh, a < 256 → (∀ v, v < 8 → (a.testBit v = true ↔ ∀ c', c' < c → ck_bc g m c' → ck_d c' v = n)) → wY_having_21 post (nI n) 1 (nI m) (d + 1) (nI a) (nI c) (ck_A g) t hh := by
  intro d
  induction d with
  | zero =>
    intro c hc a hh ha P
    cases (by omega : c = 6561)
    exact br_t ck_6561e (H a hh ha P)
  | succ d ih =>
    intro c hcd a hh ha P
    have hc : c < 6561 := by omega
    have s16 := ck_sm_16 c
    have skip : ¬ ck_bc g m c → ∀ v, v < 8 → (a.testBit v = true ↔ ∀ c', c' < c + 1 → ck_bc g m c' → ck_d c' v = n) := fun k v hv => by
      rw [P v hv]
      exact ⟨fun p => lt_s p fun z => absurd z k, fun p c' hc' => p c' (by omega)⟩
    refine br_f (ck_6561 hc) (ck_Ygive hg hc fun hh' e8 => ⟨fun k => br_c (fun z => ?_) (fun z => nm_r (nI_1 c) ?_), fun k => br_f (fun z => ck_nm1 (by omega) z.symm) (nm_r (nI_1 c) ?_)⟩)
    · have z' : ck_bc g m c := ⟨k, (nI_eq (by omega) (by omega)).mp z⟩
      refine ⟨9, ck_Y45 hn e8 (fun i => Nat.le_of_lt_succ (ck_d_lt c i)) (fun z0 => absurd z0 (by decide)) (fun _ => ?_) 8 0 rfl⟩
      rw [nx_and, nI_1]
      refine ih (c + 1) (by omega) _ hh' (ck_and_lt ha) fun v hv => ?_
      rw [Nat.testBit_and, Bool.and_eq_true, P v hv, ck_st_in hv]
      exact ⟨fun p => lt_s p.1 fun _ => p.2, fun p => ⟨fun c' hc' => p c' (by omega), p c (by omega) z'⟩⟩
    · exact ih (c + 1) (by omega) a hh' ha (skip fun y => z (by rw [y.2]))
    · exact ih (c + 1) (by omega) a hh' ha (skip fun y => k y.1)
/-- some -/
theorem ck_Y21s {post : Int32 → SY → Prop} {g : Nat → Nat} (hg : ck_G g) {t : Nat → Int32} {n m : Nat} (hn : n ≤ 2) (hm : m ≤ 16)
    (H : ∀ a hh, a < 256 → (∀ v, v < 8 → (a.testBit v = true ↔ ∃ c, c < 6561 ∧ ck_bc g m c ∧ ck_d c v = n)) → post (nI a) (ck_A g, t, hh)) :
    ∀ d c, c + d = 6561 → ∀ a hh, a < 256 → (∀ v, v < 8 → (a.testBit v = true ↔ ∃ c', c' < c ∧ ck_bc g m c' ∧ ck_d c' v = n)) → wY_having_21 post (nI n) 0 (nI m) (d + 1) (nI a) (nI c) (ck_A g) t hh := by
  intro d
  induction d with
  | zero =>
    intro c hc a hh ha P
    cases (by omega : c = 6561)
    exact br_t ck_6561e (H a hh ha P)
  | succ d ih =>
    intro c hcd a hh ha P
    have hc : c < 6561 := by omega
    have s16 := ck_sm_16 c
    have skip : ¬ ck_bc g m c → ∀ v, v < 8 → (a.testBit v = true ↔ ∃ c', c' < c + 1 ∧ ck_bc g m c' ∧ ck_d c' v = n) := fun k v hv => by
      rw [P v hv]
      constructor
      · rintro ⟨c', x, y⟩
        exact ⟨c', by omega, y⟩
      · rintro ⟨c', x, y⟩
        refine ⟨c', ?_, y⟩
        have : c' ≠ c := fun e => k (by rw [← e]; exact y.1)
        omega
    refine br_f (ck_6561 hc) (ck_Ygive hg hc fun hh' e8 => ⟨fun k => br_c (fun z => ?_) (fun z => nm_r (nI_1 c) ?_), fun k => br_f (fun z => ck_nm1 (by omega) z.symm) (nm_r (nI_1 c) ?_)⟩)
    · have z' : ck_bc g m c := ⟨k, (nI_eq (by omega) (by omega)).mp z⟩
      refine ⟨9, ck_Y45 hn e8 (fun i => Nat.le_of_lt_succ (ck_d_lt c i)) (fun _ => ?_) (fun z0 => absurd rfl z0) 8 0 rfl⟩
      rw [ck_or, nI_1]
      refine ih (c + 1) (by omega) _ hh' (Nat.or_lt_two_pow (n := 8) ha (ck_st_lt _ (Nat.le_refl 8))) fun v hv => ?_
      rw [Nat.testBit_or, Bool.or_eq_true, P v hv, ck_st_in hv]
      constructor
      · rintro (⟨c', x, y⟩ | x)
        · exact ⟨c', by omega, y⟩
        · exact ⟨c, by omega, z', x⟩
      · rintro ⟨c', x, y, w⟩
        by_cases e : c' = c
        · rw [e] at w
          exact Or.inr w
        · exact Or.inl ⟨c', by omega, y, w⟩
    · exact ih (c + 1) (by omega) a hh' ha (skip fun y => z (by rw [y.2]))
    · exact ih (c + 1) (by omega) a hh' ha (skip fun y => k y.1)
theorem ck_Yhve {post : Int32 → SY → Prop} {g : Nat → Nat} (hg : ck_G g) {t h : Nat → Int32} {n : Nat} (hn : n ≤ 2)
    (H : ∀ m a hh, ck_mY g m → a < 256 → (∀ v, v < 8 → (a.testBit v = true ↔ ∀ c, c < 6561 → ck_bc g m c → ck_d c v = n)) → post (nI a) (ck_A g, t, hh)) : wpY_having post (ck_A g, t, h) (nI n) 1 := by
  unfold wpY_having
  dsimp only
  refine ck_Yhal hg fun m hh hm16 hm => br_f (by decide) ⟨6562, ck_Y21e hg hn hm16 (fun a hh' ha P => H m a hh' hm ha P) 6561 0 rfl 255 hh (by decide) fun v hv => ?_⟩
  rw [ck_255, decide_eq_true hv]
  exact ⟨fun _ c hc => absurd hc (Nat.not_lt_zero c), fun _ => rfl⟩
theorem ck_Yhvs {post : Int32 → SY → Prop} {g : Nat → Nat} (hg : ck_G g) {t h : Nat → Int32} {n : Nat} (hn : n ≤ 2)
    (H : ∀ m a hh, ck_mY g m → a < 256 → (∀ v, v < 8 → (a.testBit v = true ↔ ∃ c, c < 6561 ∧ ck_bc g m c ∧ ck_d c v = n)) → post (nI a) (ck_A g, t, hh)) : wpY_having post (ck_A g, t, h) (nI n) 0 := by
  unfold wpY_having
  dsimp only
  refine ck_Yhal hg fun m hh hm16 hm => br_t rfl ⟨6562, ck_Y21s hg hn hm16 (fun a hh' ha P => H m a hh' hm ha P) 6561 0 rfl 0 hh (by decide) fun v hv => ?_⟩
  rw [Nat.zero_testBit]
  constructor
  · intro z
    exact absurd z (by decide)
  · rintro ⟨c, hc, _⟩
    exact absurd hc (Nat.not_lt_zero c)
/-! the component's walks -/
theorem ck_Xwh_l {post : Int32 → Prop} {g : Nat → Nat} (hg : ck_G g) {D : Nat → Int32} {m : Nat} (hm : m ≤ 16)
    (H : ∀ a, a < 256 → (∀ v, v < 8 → (a.testBit v = true ↔ ∀ z, z < 256 → ck_cost g z = m → (ck_ar g z 8).testBit v = true)) → post (nI a)) :
    ∀ d z, z + d = 256 → ∀ a, a < 256 → (∀ v, v < 8 → (a.testBit v = true ↔ ∀ z', z' < z → ck_cost g z' = m → (ck_ar g z' 8).testBit v = true)) → wX_whole_11 post (nI m) (ck_A g) D (d + 1) (nI a) (nI z) := by
  intro d
  induction d with
  | zero =>
    intro z hz a ha P
    cases (by omega : z = 256)
    exact br_t ck_256e (H a ha P)
  | succ d ih =>
    intro z hzd a ha P
    have hz : z < 256 := by omega
    have c17 := ck_cost_17 g z
    refine br_f (ck_256 hz) (ck_Xcz hg hz (br_c (fun y => ck_Xar hz (nm_r (nx_and _ _) (nm_r (nI_1 z) ?_))) (fun y => nm_r (nI_1 z) ?_)))
    · refine ih (z + 1) (by omega) _ (ck_and_lt ha) fun v hv => ?_
      rw [Nat.testBit_and, Bool.and_eq_true, P v hv]
      exact ⟨fun p => lt_s p.1 fun _ => p.2, fun p => ⟨fun z' hz' => p z' (by omega), p z (by omega) ((nI_eq (by omega) (by omega)).mp y)⟩⟩
    · refine ih (z + 1) (by omega) a ha fun v hv => ?_
      rw [P v hv]
      exact ⟨fun p => lt_s p fun e => absurd (by rw [e]) y, fun p z' hz' => p z' (by omega)⟩
theorem ck_Xba_l {post : Int32 → Prop} {g : Nat → Nat} (hg : ck_G g) {D : Nat → Int32} {m : Nat} (hm : m ≤ 16)
    (H : ∀ a, a < 256 → (∀ v, v < 8 → (a.testBit v = true ↔ ∀ z, z < 256 → ck_cost g z = m → z.testBit v = true)) → post (nI a)) :
    ∀ d z, z + d = 256 → ∀ a, a < 256 → (∀ v, v < 8 → (a.testBit v = true ↔ ∀ z', z' < z → ck_cost g z' = m → z'.testBit v = true)) → wX_bare_11 post (nI m) (ck_A g) D (d + 1) (nI a) (nI z) := by
  intro d
  induction d with
  | zero =>
    intro z hz a ha P
    cases (by omega : z = 256)
    exact br_t ck_256e (H a ha P)
  | succ d ih =>
    intro z hzd a ha P
    have hz : z < 256 := by omega
    have c17 := ck_cost_17 g z
    refine br_f (ck_256 hz) (ck_Xcz hg hz (br_c (fun y => nm_r (nx_and _ _) (nm_r (nI_1 z) ?_)) (fun y => nm_r (nI_1 z) ?_)))
    · refine ih (z + 1) (by omega) _ (ck_and_lt ha) fun v hv => ?_
      rw [Nat.testBit_and, Bool.and_eq_true, P v hv]
      exact ⟨fun p => lt_s p.1 fun _ => p.2, fun p => ⟨fun z' hz' => p z' (by omega), p z (by omega) ((nI_eq (by omega) (by omega)).mp y)⟩⟩
    · refine ih (z + 1) (by omega) a ha fun v hv => ?_
      rw [P v hv]
      exact ⟨fun p => lt_s p fun e => absurd (by rw [e]) y, fun p z' hz' => p z' (by omega)⟩
theorem ck_ok_c {g : Nat → Nat} {z m : Nat} (hm : m ≤ 16) (e : ck_cost g z = m) : ck_ok g z := Classical.byContradiction fun n => by
  have := ck_cost_no n
  omega
theorem ck_is2 {g : Nat → Nat} {z v : Nat} (k : ck_ok g z) : (ck_ar g z 8).testBit v = true ↔ ck_hv g z v = 2 := by
  constructor
  · intro h
    exact ck_hv_2 (ck_ok_n k h) h
  · intro h
    cases e : (ck_ar g z 8).testBit v
    · by_cases x : z.testBit v = true
      · rw [ck_hv_0 x] at h
        omega
      · rw [ck_hv_1 x (by rw [e]; decide)] at h
        omega
    · rfl
theorem ck_is0 {g : Nat → Nat} {z v : Nat} : z.testBit v = true ↔ ck_hv g z v = 0 := by
  constructor
  · exact ck_hv_0
  · intro h
    cases e : z.testBit v
    · have x : ¬ z.testBit v = true := by rw [e]; decide
      by_cases y : (ck_ar g z 8).testBit v = true
      · rw [ck_hv_2 x y] at h
        omega
      · rw [ck_hv_1 x y] at h
        omega
    · rfl
/-- all best zeros and all best codes -/
theorem ck_all {g : Nat → Nat} (hg : ck_G g) {m n v : Nat} (hv : v < 8) (hm : ck_mX g m) : (∀ z, z < 256 → ck_cost g z = m → ck_hv g z v = n) ↔ ∀ c, c < 6561 → ck_bc g m c → ck_d c v = n := by
  constructor
  · intro h c _ k
    obtain ⟨z, hz, e, q⟩ := ck_bYX hg hm k.1 k.2
    rw [q v hv]
    exact h z hz e
  · intro h z hz e
    obtain ⟨c, hc, k, s, q⟩ := ck_bXY hg (ck_mX16 hm) e
    rw [← q v hv]
    exact h c hc ⟨k, s⟩
theorem ck_some {g : Nat → Nat} (hg : ck_G g) {m n v : Nat} (hv : v < 8) (hm : ck_mX g m) : (∃ z, z < 256 ∧ ck_cost g z = m ∧ ck_hv g z v = n) ↔ ∃ c, c < 6561 ∧ ck_bc g m c ∧ ck_d c v = n := by
  constructor
  · rintro ⟨z, hz, e, x⟩
    obtain ⟨c, hc, k, s, q⟩ := ck_bXY hg (ck_mX16 hm) e
    exact ⟨c, hc, ⟨k, s⟩, (q v hv).trans x⟩
  · rintro ⟨c, hc, k, x⟩
    obtain ⟨z, hz, e, q⟩ := ck_bYX hg hm k.1 k.2
    exact ⟨z, hz, e, (q v hv).symm.trans x⟩
theorem ck_iff {a b : Nat} (ha : a < 256) (hb : b < 256) (h : ∀ v, v < 8 → (a.testBit v = true ↔ b.testBit v = true)) : a = b := ck_ext ha hb fun i hi => ck_bool (h i hi)
theorem ck_imp {P : Nat → Prop} {A B : Nat → Prop} (h : ∀ z, P z → (A z ↔ B z)) : (∀ z, z < 256 → P z → A z) ↔ ∀ z, z < 256 → P z → B z :=
  ⟨fun p z hz k => (h z k).mp (p z hz k), fun p z hz k => (h z k).mpr (p z hz k)⟩
theorem ck_255i {P : Nat → Nat → Prop} {v : Nat} (hv : v < 8) : Nat.testBit 255 v = true ↔ ∀ z, z < 0 → P z v := by
  rw [ck_255, decide_eq_true hv]
  exact ⟨fun _ c hc => absurd hc (Nat.not_lt_zero c), fun _ => rfl⟩
theorem ck_whole {g : Nat → Nat} (hg : ck_G g) {D t h : Nat → Int32} {Q : Int32 → Int32 → SY → Prop} (H : ∀ r hh, Q r r (ck_A g, t, hh)) :
    wpX_whole (fun r => wpY_whole (fun r' v' => Q r r' v') (ck_A g, t, h)) (ck_A g, D) := by
  unfold wpX_whole
  dsimp only
  refine ck_Xhal hg fun m hm => ⟨257, ck_Xwh_l hg (ck_mX16 hm) (fun a ha P => ?_) 256 0 rfl 255 (by decide) fun v hv => ck_255i (P := fun z v => ck_cost g z = m → (ck_ar g z 8).testBit v = true) hv⟩
  unfold wpY_whole
  dsimp only
  refine ck_Yhve (n := 2) hg (by decide) fun m' a' hh hm' ha' P' => ?_
  cases ck_mY_u hm' (ck_mXY hg hm)
  have e : a' = a := ck_iff ha' ha fun v hv => by
    rw [P v hv, P' v hv, ← ck_all hg hv hm]
    exact ck_imp fun z k => (ck_is2 (ck_ok_c (ck_mX16 hm) k)).symm
  rw [e]
  exact H _ hh
theorem ck_bare {g : Nat → Nat} (hg : ck_G g) {D t h : Nat → Int32} {Q : Int32 → Int32 → SY → Prop} (H : ∀ r hh, Q r r (ck_A g, t, hh)) :
    wpX_bare (fun r => wpY_bare (fun r' v' => Q r r' v') (ck_A g, t, h)) (ck_A g, D) := by
  unfold wpX_bare
  dsimp only
  refine ck_Xhal hg fun m hm => ⟨257, ck_Xba_l hg (ck_mX16 hm) (fun a ha P => ?_) 256 0 rfl 255 (by decide) fun v hv => ck_255i (P := fun z v => ck_cost g z = m → z.testBit v = true) hv⟩
  unfold wpY_bare
  dsimp only
  refine ck_Yhve (n := 0) hg (by decide) fun m' a' hh hm' ha' P' => ?_
  cases ck_mY_u hm' (ck_mXY hg hm)
  have e : a' = a := ck_iff ha' ha fun v hv => by
    rw [P v hv, P' v hv, ← ck_all hg hv hm]
    exact ck_imp fun z k => ck_is0.symm
  rw [e]
  exact H _ hh
/-! canHave -/
theorem ck_Xch_l {post : Int32 → Prop} {g : Nat → Nat} (hg : ck_G g) {D : Nat → Int32} {m n v : Nat} (hm : m ≤ 16) (hn : n ≤ 2) (hv : v < 8)
    (H1 : (∃ z, z < 256 ∧ ck_cost g z = m ∧ ck_hv g z v = n) → post 1) (H0 : ¬ (∃ z, z < 256 ∧ ck_cost g z = m ∧ ck_hv g z v = n) → post 0) :
    ∀ d z, z + d = 256 → (∀ z', z' < z → ¬ (ck_cost g z' = m ∧ ck_hv g z' v = n)) → wX_canHave_26 post (nI v) (nI n) (nI m) (ck_A g) D (d + 1) (nI z) := by
  intro d
  induction d with
  | zero =>
    intro z hz P
    cases (by omega : z = 256)
    refine br_t ck_256e (H0 ?_)
    rintro ⟨z, hz, k⟩
    exact P z hz k
  | succ d ih =>
    intro z hzd P
    have hz : z < 256 := by omega
    have c17 := ck_cost_17 g z
    have h2 := ck_hv_le g z v
    refine br_f (ck_256 hz) (ck_Xcz hg hz (br_c (fun y => ck_Xho hg hz hv (br_c (fun x => ?_) (fun x => nm_r (nI_1 z) ?_))) (fun y => nm_r (nI_1 z) ?_)))
    · exact H1 ⟨z, hz, (nI_eq (by omega) (by omega)).mp y, (nI_eq (by omega) (by omega)).mp x⟩
    · exact ih (z + 1) (by omega) (lt_s P fun k => x (by rw [k.2]))
    · exact ih (z + 1) (by omega) (lt_s P fun k => y (by rw [k.1]))
theorem ck_two (x : Int32) : x < 0 ∨ (¬ x < 0 ∧ (2 : Int32) < x) ∨ ∃ n, n ≤ 2 ∧ x = nI n := by
  by_cases h : x < 0
  · exact Or.inl h
  · obtain ⟨j, hj, rfl⟩ := nI_of h
    rcases Nat.lt_or_ge 2 j with q | q
    · exact Or.inr (Or.inl ⟨h, nI_lt (a := 2) q hj⟩)
    · exact Or.inr (Or.inr ⟨j, q, rfl⟩)
theorem ck_canHave {g : Nat → Nat} (hg : ck_G g) {D t h : Nat → Int32} {Q : Int32 → Int32 → SY → Prop} (x y : Int32) (H : ∀ r hh, Q r r (ck_A g, t, hh)) :
    wpX_canHave (fun r => wpY_canHave (fun r' v' => Q r r' v') (ck_A g, t, h) x y) (ck_A g, D) x y := by
  unfold wpX_canHave wpY_canHave
  dsimp only
  rcases ck_vx x with ⟨x1, y1⟩ | ⟨v, hv, rfl⟩
  · exact x1 _ (br_t rfl (y1 _ _ (br_t rfl (H 0 h))))
  · refine ck_Xv hv (br_f (by decide) ?_)
    rcases ck_two y with h0 | ⟨h0, h2⟩ | ⟨n, hn, rfl⟩
    · exact br_t h0 (ck_Yv hv (br_f (by decide) (br_t h0 (H 0 h))))
    · exact br_f h0 (br_f (Int32.not_le.mpr h2) (ck_Yv hv (br_f (by decide) (br_f h0 (br_t h2 (H 0 h))))))
    · have h0 : ¬ nI n < 0 := nI_pos (by omega)
      have h2 : nI n ≤ (2 : Int32) := nI_le (b := 2) hn (by decide)
      refine br_f h0 (br_t h2 (ck_Xhal hg fun m hm => ⟨257, ck_Xch_l hg (ck_mX16 hm) hn hv (fun k => ?_) (fun k => ?_) 256 0 rfl (fun z' hz' => absurd hz' (Nat.not_lt_zero z'))⟩))
      · refine ck_Yv hv (br_f (by decide) (br_f h0 (br_f (Int32.not_lt.mpr h2) (ck_Yhvs hg hn fun m' a' hh hm' ha' P' => ?_))))
        cases ck_mY_u hm' (ck_mXY hg hm)
        exact br_t ((ck_bit ha' hv).mpr ((P' v hv).mpr ((ck_some hg hv hm).mp k))) (H 1 hh)
      · refine ck_Yv hv (br_f (by decide) (br_f h0 (br_f (Int32.not_lt.mpr h2) (ck_Yhvs hg hn fun m' a' hh hm' ha' P' => ?_))))
        cases ck_mY_u hm' (ck_mXY hg hm)
        exact br_f (fun z => k ((ck_some hg hv hm).mpr ((P' v hv).mp ((ck_bit ha' hv).mp z)))) (H 0 hh)
