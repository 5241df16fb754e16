/-! ===== matching: the walks ===== -/
/-- the table holds the right numbers below k -/
def ck_T (g : Nat → Nat) (a : Nat → Int32) (k : Nat) : Prop := ∀ s, s < k → ∃ b, a s = nI b ∧ ck_iM g s b ∧ b ≤ s
theorem ck_T_le {g : Nat → Nat} {a : Nat → Int32} {j k : Nat} (h : j ≤ k) (T : ck_T g a k) : ck_T g a j := fun s hs => T s (by omega)
theorem ck_T_s {g : Nat → Nat} {a : Nat → Int32} {k b : Nat} (T : ck_T g a k) (h : ck_iM g k b) (hb : b ≤ k) : ck_T g (upd a k (nI b)) (k + 1) := fun s hs => by
  by_cases e : s = k
  · rw [e]
    exact ⟨b, pk_us, h, hb⟩
  · obtain ⟨c, x, y⟩ := T s (by omega)
    exact ⟨c, (pk_un e).trans x, y⟩
theorem ck_T_0 (g : Nat → Nat) (a : Nat → Int32) : ck_T g (upd a 0 0) 1 := fun s hs => by
  cases (by omega : s = 0)
  exact ⟨0, pk_us, ck_iM_0 g, Nat.le_refl 0⟩
theorem ck_in256 {s : Nat} (hs : s < 256) : vp_in (nI s) 256 := vp_in_nI hs (by decide)
theorem ck_rmI {s v : Nat} (hs : s < 256) (hv : v < 8) : nI s &&& (((1 : Int32) <<< (nI v &&& 31)) ^^^ (-1)) = nI (ck_rm s v) := ck_J0 hs hv
/-- the component: partners below v -/
theorem ck_Xmd_l {post : Int32 → Prop} {g : Nat → Nat} (hg : ck_G g) {D : Nat → Int32} {v r : Nat} (hv : v < 8) (hr : r < 2 ^ v) (T : ck_T g D (2 ^ v)) (H : ∀ b, ck_iM g (2 ^ v + r) b → b ≤ 2 ^ v + r → post (nI b)) :
    ∀ d w, w + d = v → ∀ b, ck_pw g (2 ^ v + r) v w b → wX_mostDisjoint_20 post (nI v) (nI r) (nI (g v &&& r)) (ck_A g) D (d + 1) (nI b) (nI w) := by
  obtain ⟨_, lt, sv, rm⟩ := ck_top hv hr
  have r8 : r < 256 := by omega
  intro d
  induction d with
  | zero =>
    intro w hw b P
    cases (by omega : w = v)
    refine br_t (nI_le (Nat.le_refl w) (by omega)) (H b (ck_pw_e hg lt hv (fun x hx => ?_) P) ?_)
    · rw [rm] at hx
      rcases Nat.lt_or_ge x w with q | q
      · exact q
      · rw [Nat.testBit_lt_two_pow (Nat.lt_of_lt_of_le hr (Nat.pow_le_pow_right (by decide) q))] at hx
        exact absurd hx (by decide)
    · have := P.2.2.2
      rw [rm] at this
      omega
  | succ d ih =>
    intro w hwd b P
    have hw : w < v := by omega
    have hw8 : w < 8 := by omega
    have hp : g v &&& r < 256 := ck_and_lt (hg.1 v hv)
    have br : b ≤ r := by
      have := P.2.2.2
      rw [rm] at this
      exact this
    refine br_f (nI_ge hw (by omega)) (ck_Xhas hp hw8 (fun x => br_f (by decide) ?_) (fun x => br_t rfl (nm_r (nI_1 w) (ih (w + 1) (by omega) b (ck_pw_n P fun y z => ?_)))))
    · rw [Nat.testBit_and, Bool.and_eq_true] at x
      obtain ⟨c, ec, hc, cl⟩ := T (ck_rm r w) (Nat.lt_of_le_of_lt (ck_rm_le r w) hr)
      have lr := ck_rm_lt r8 w
      have e : D (nI r &&& (((1 : Int32) <<< (nI w &&& 31)) ^^^ (-1))).toNatClampNeg + 1 = nI (c + 1) := by
        rw [ck_rmI r8 hw8, nI_clamp (by omega), ec, nI_1]
      refine ⟨?_, nm_r e ?_⟩
      · rw [ck_rmI r8 hw8]
        exact ck_in256 lr
      · have S := fun b' hb' => ck_pw_y (b' := b') lt hv hw8 sv P (by rw [rm]; exact x.2) x.1 (by rw [rm]; exact hc) (by rw [rm]; exact cl) hb'
        refine br_c (fun y => nm_r (nI_1 w) ?_) (fun y => nm_r (nI_1 w) ?_)
        · have y' := (nI_leI (by omega) (by omega)).mp y
          exact ih (w + 1) (by omega) b (S b (by rw [if_neg (by omega)]))
        · have y' : ¬ c + 1 ≤ b := fun z => y ((nI_leI (by omega) (by omega)).mpr z)
          exact ih (w + 1) (by omega) (c + 1) (S (c + 1) (by rw [if_pos (by omega)]))
    · rw [rm] at y
      rw [Nat.testBit_and, y, z] at x
      exact absurd x (by decide)
theorem ck_Xmd {post : Int32 → Prop} {g : Nat → Nat} (hg : ck_G g) {D : Nat → Int32} {v r : Nat} (hv : v < 8) (hr : r < 2 ^ v) (T : ck_T g D (2 ^ v)) (H : ∀ b, ck_iM g (2 ^ v + r) b → b ≤ 2 ^ v + r → post (nI b)) : wpX_mostDisjoint post (ck_A g, D) (nI v) (nI r) := by
  obtain ⟨_, lt, sv, rm⟩ := ck_top hv hr
  have r8 : r < 256 := by omega
  obtain ⟨b, eb, hb, bl⟩ := T r hr
  have e1 : D (nI r).toNatClampNeg = nI b := by rw [nI_clamp (by omega), eb]
  have e2 : ck_A g (nI v).toNatClampNeg &&& nI r = nI (g v &&& r) := by rw [ck_at hv, nx_and]
  exact ⟨ck_in256 r8, nm_r e1 ⟨ck_in hv, nm_r e2 ⟨v + 1, ck_Xmd_l hg hv hr T H v 0 (Nat.zero_add v) b (ck_pw_0 lt (by rw [rm]; exact hb) (by rw [rm]; exact bl))⟩⟩⟩
theorem ck_X21 {post : Int32 → SX → Prop} {J : Int32 → (Nat → Int32) → (Nat → Int32) → Prop} {g : Nat → Nat} (hg : ck_G g) {v : Nat} (hv : v < 8) (K : ∀ D, ck_T g D (2 ^ (v + 1)) → J (nI (v + 1)) (ck_A g) D) :
    ∀ d r, r + d = 2 ^ v → ∀ D, ck_T g D (2 ^ v + r) → wX_matching_21 post J (nI v) (nI (2 ^ v)) (d + 1) (nI r) (ck_A g) D := by
  have p := ck_one hv
  intro d
  induction d with
  | zero =>
    intro r hr D T
    have er : r = 2 ^ v := by omega
    rw [er] at T ⊢
    refine br_t (nI_le (Nat.le_refl _) (by omega)) (nm_r (nI_1 v) (K D ?_))
    rw [Nat.pow_succ, Nat.mul_two]
    exact T
  | succ d ih =>
    intro r hrd D T
    have hr : r < 2 ^ v := by omega
    obtain ⟨eo, lt, sv, rm⟩ := ck_top hv hr
    have e : nI (2 ^ v) ||| nI r = nI (2 ^ v + r) := by rw [ck_or, eo]
    refine br_f (nI_ge hr (by omega)) (ck_Xmd hg hv hr (ck_T_le (by omega) T) fun b hb bl => ?_)
    rw [e]
    refine ⟨ck_in256 lt, ?_⟩
    rw [nI_clamp (by omega)]
    exact nm_e (nm_r (nI_1 r) (ih (r + 1) (by omega) _ (ck_T_s T hb bl)))
theorem ck_X9 {post : Int32 → SX → Prop} {g : Nat → Nat} (hg : ck_G g) (H : ∀ b D, ck_iM g 255 b → post (nI b) (ck_A g, D)) :
    ∀ d v, v + d = 8 → ∀ D, ck_T g D (2 ^ v) → wX_matching_9 post (d + 1) (nI v) (ck_A g) D := by
  intro d
  induction d with
  | zero =>
    intro v hv D T
    cases (by omega : v = 8)
    obtain ⟨b, eb, hb, _⟩ := T 255 (by decide)
    refine br_t ck_88 ?_
    rw [eb]
    exact H b D hb
  | succ d ih =>
    intro v hvd D T
    have hv : v < 8 := by omega
    exact br_f (ck_8 hv) (nm_r (ck_s1 hv) ⟨2 ^ v + 1, ck_X21 hg hv (fun D' T' => ih (v + 1) (by omega) D' T') (2 ^ v) 0 (Nat.zero_add _) D T⟩)
theorem ck_Xma {post : Int32 → SX → Prop} {g : Nat → Nat} (hg : ck_G g) {D : Nat → Int32} (H : ∀ b D, ck_iM g 255 b → post (nI b) (ck_A g, D)) : wpX_matching post (ck_A g, D) :=
  nm_e ⟨9, ck_X9 hg H 8 0 rfl _ (ck_T_0 g D)⟩
/-- the reference: partners of all -/
theorem ck_Y57 {post : Int32 → SY → Prop} {J : Int32 → (Nat → Int32) → (Nat → Int32) → (Nat → Int32) → Prop} {g : Nat → Nat} (hg : ck_G g) {t h : Nat → Int32} {s v : Nat} (hs : s < 256) (hv : v < 8) (sv : s.testBit v = true) (T : ck_T g t s)
    (K : ∀ t', ck_T g t' (s + 1) → J (nI (s + 1)) (ck_A g) t' h) :
    ∀ d w, w + d = 8 → ∀ b, ck_pw g s v w b → wY_matching_57 post J (nI s) (nI v) (nI (ck_rm s v)) (ck_A g) t h (d + 1) (nI b) (nI w) := by
  have hr := ck_rm_lt hs v
  have rs := ck_rm_s hs sv
  intro d
  induction d with
  | zero =>
    intro w hw b P
    cases (by omega : w = 8)
    have bl := P.2.2.2
    refine br_t ck_88 ⟨ck_in256 hs, ?_⟩
    rw [nI_clamp (by omega)]
    exact nm_e (nm_r (nI_1 s) (K _ (ck_T_s T (ck_pw_e hg hs hv (fun x hx => ck_b8 hr hx) P) (by omega))))
  | succ d ih =>
    intro w hwd b P
    have hw : w < 8 := by omega
    have bl := P.2.2.2
    have N : ((ck_rm s v).testBit w = true → (g v).testBit w = true → False) → wY_matching_93 post J (wY_matching_57 post J (nI s) (nI v) (nI (ck_rm s v)) (ck_A g) t h (d + 1)) (nI s) (nI v) (nI (ck_rm s v)) (nI b) (nI w) (ck_A g) t h := fun q =>
      br_t rfl (br_t (nI_pos' (by omega)) (nm_r (nI_1 w) (ih (w + 1) (by omega) b (ck_pw_n P q))))
    refine br_f (ck_8 hw) (br_c (fun x => ⟨ck_in hv, ?_⟩) (fun x => N fun y _ => x ((ck_bit hr hw).mpr y)))
    rw [ck_at hv]
    refine br_c (fun y => ?_) (fun y => N fun _ z => y ((ck_bit (hg.1 v hv) hw).mpr z))
    have x' := (ck_bit hr hw).mp x
    have y' := (ck_bit (hg.1 v hv) hw).mp y
    have lr := ck_rm_lt hr w
    obtain ⟨c, ec, hc, cl⟩ := T (ck_rm (ck_rm s v) w) (Nat.lt_of_le_of_lt (ck_rm_le _ w) rs)
    have e : (1 : Int32) + t (nI (ck_rm s v) &&& (((1 : Int32) <<< (nI w &&& 31)) ^^^ (-1))).toNatClampNeg = nI (c + 1) := by
      rw [ck_rmI hr hw, nI_clamp (by omega), ec, Int32.add_comm, nI_1]
    have S := fun b' hb' => ck_pw_y (b' := b') hs hv hw sv P x' y' hc cl hb'
    refine br_f (by decide) ⟨?_, ?_⟩
    · rw [ck_rmI hr hw]
      exact ck_in256 lr
    · rw [e]
      refine br_c (fun z => nm_r (nI_1 w) ?_) (fun z => nm_r (nI_1 w) ?_)
      · have z' := (nI_leI (by omega) (by omega)).mp z
        exact ih (w + 1) (by omega) b (S b (by rw [if_neg (by omega)]))
      · have z' : ¬ c + 1 ≤ b := fun k => z ((nI_leI (by omega) (by omega)).mpr k)
        exact ih (w + 1) (by omega) (c + 1) (S (c + 1) (by rw [if_pos (by omega)]))
theorem ck_Y38 {post : Int32 → SY → Prop} {J : Int32 → (Nat → Int32) → (Nat → Int32) → (Nat → Int32) → Prop} {g : Nat → Nat} (hg : ck_G g) {t h : Nat → Int32} {s v : Nat} (hs : s < 256) (hv : v < 8) (sv : s.testBit v = true) (T : ck_T g t s)
    (K : ∀ t', ck_T g t' (s + 1) → J (nI (s + 1)) (ck_A g) t' h) : wY_matching_38 post J (nI s) (nI v) (ck_A g) t h := by
  have hr := ck_rm_lt hs v
  obtain ⟨b, eb, hb, bl⟩ := T (ck_rm s v) (ck_rm_s hs sv)
  have e : t (nI (ck_rm s v)).toNatClampNeg = nI b := by rw [nI_clamp (by omega), eb]
  exact nm_r (ck_rmI hs hv) ⟨ck_in256 hr, nm_r e ⟨9, ck_Y57 hg hs hv sv T K 8 0 rfl b (ck_pw_0 hs hb bl)⟩⟩
theorem ck_Y18 {post : Int32 → SY → Prop} {J : Int32 → (Nat → Int32) → (Nat → Int32) → (Nat → Int32) → Prop} {g : Nat → Nat} (hg : ck_G g) {t h : Nat → Int32} {s : Nat} (hs : s < 256) (h1 : 1 ≤ s) (T : ck_T g t s)
    (K : ∀ t', ck_T g t' (s + 1) → J (nI (s + 1)) (ck_A g) t' h) : ∀ d v, v + d = 7 → (∀ i, i < v → s.testBit i = false) → wY_matching_18 post J (nI s) (ck_A g) t h (d + 1) (nI v) := by
  intro d
  induction d with
  | zero =>
    intro v hv P
    cases (by omega : v = 7)
    have sv : s.testBit 7 = true := by
      cases e : s.testBit 7
      · have z : s = 0 := ck_ext hs (by decide) fun i hi => by
          rw [Nat.zero_testBit]
          rcases Nat.lt_or_ge i 7 with q | q
          · exact P i q
          · cases (by omega : i = 7)
            exact e
        omega
      · rfl
    exact br_t (nI_le (a := 7) (b := 7) (Nat.le_refl 7) (by decide)) (ck_Y38 hg hs (by decide) sv T K)
  | succ d ih =>
    intro v hvd P
    have hv : v < 8 := by omega
    refine br_f (nI_ge (b := 7) (by omega) (by decide)) (br_c (fun z => nm_r (nI_1 v) (ih (v + 1) (by omega) (lt_s P ((ck_bit0 hs hv).mp z)))) (fun z => ck_Y38 hg hs hv ?_ T K))
    cases e : s.testBit v
    · exact absurd ((ck_bit0 hs hv).mpr e) z
    · rfl
theorem ck_Y9 {post : Int32 → SY → Prop} {g : Nat → Nat} (hg : ck_G g) {h : Nat → Int32} (H : ∀ b t, ck_iM g 255 b → post (nI b) (ck_A g, t, h)) :
    ∀ d s, s + d = 256 → 1 ≤ s → ∀ t, ck_T g t s → wY_matching_9 post (d + 1) (nI s) (ck_A g) t h := by
  intro d
  induction d with
  | zero =>
    intro s hs _ t T
    cases (by omega : s = 256)
    obtain ⟨b, eb, hb, _⟩ := T 255 (by decide)
    refine br_t ck_256e ?_
    rw [eb]
    exact H b t hb
  | succ d ih =>
    intro s hsd h1 t T
    have hs : s < 256 := by omega
    exact br_f (ck_256 hs) ⟨8, ck_Y18 hg hs h1 T (fun t' T' => ih (s + 1) (by omega) (by omega) t' T') 7 0 rfl (fun i hi => absurd hi (Nat.not_lt_zero i))⟩
theorem ck_Yma {post : Int32 → SY → Prop} {g : Nat → Nat} (hg : ck_G g) {t h : Nat → Int32} (H : ∀ b t, ck_iM g 255 b → post (nI b) (ck_A g, t, h)) : wpY_matching post (ck_A g, t, h) :=
  nm_e ⟨256, ck_Y9 hg H 255 1 rfl (Nat.le_refl 1) _ (ck_T_0 g t)⟩
theorem ck_matching {g : Nat → Nat} (hg : ck_G g) {D t h : Nat → Int32} {Q : Int32 → SX → Int32 → SY → Prop} (H : ∀ r D' t', Q r (ck_A g, D') r (ck_A g, t', h)) :
    wpX_matching (fun r u' => wpY_matching (fun r' v' => Q r u' r' v') (ck_A g, t, h)) (ck_A g, D) := by
  refine ck_Xma hg fun b D' hb => ck_Yma hg fun b' t' hb' => ?_
  rw [ck_iM_u hb' hb]
  exact H _ D' t'
