/-! ===== halves: the walks ===== -/
theorem ck_cost_lt (g : Nat → Nat) (z : Nat) : ck_cost g z < 2 ^ 31 := Nat.lt_of_le_of_lt (ck_cost_17 g z) (by decide)
theorem ck_Xhal_l {post : Int32 → Prop} {g : Nat → Nat} (hg : ck_G g) {D : Nat → Int32} (H : ∀ m, ck_mX g m → post (nI m)) : ∀ d z, z + d = 256 → ∀ m, m ≤ 17 → (∀ z', z' < z → m ≤ ck_cost g z') → (m = 17 ∨ ∃ z', z' < 256 ∧ ck_cost g z' = m ∧ m ≤ 16) → wX_halves_5 post (ck_A g) D (d + 1) (nI m) (nI z) := by
  intro d
  induction d with
  | zero =>
    intro z hz m hm a b
    cases (by omega : z = 256)
    refine br_t ck_256e (H m ⟨a, ?_⟩)
    rcases b with b | b
    · have := a 0 (by decide)
      rw [ck_z0] at this
      omega
    · exact b
  | succ d ih =>
    intro z hzd m hm a b
    have hz : z < 256 := by omega
    have c17 := ck_cost_17 g z
    refine br_f (ck_256 hz) (ck_Xcz hg hz (br_c (fun y => nm_r (nI_1 z) ?_) (fun y => nm_r (nI_1 z) ?_)))
    · have y' := (nI_leI (by omega) (by omega)).mp y
      refine ih (z + 1) (by omega) m hm (fun z' hz' => ?_) b
      rcases Nat.lt_or_ge z' z with q | q
      · exact a z' q
      · cases (by omega : z' = z)
        exact y'
    · have y' : ¬ m ≤ ck_cost g z := fun x => y ((nI_leI (by omega) (by omega)).mpr x)
      refine ih (z + 1) (by omega) (ck_cost g z) c17 (fun z' hz' => ?_) (Or.inr ⟨z, hz, rfl, by omega⟩)
      rcases Nat.lt_or_ge z' z with q | q
      · have := a z' q
        omega
      · cases (by omega : z' = z)
        exact Nat.le_refl _
theorem ck_Xhal {post : Int32 → Prop} {g : Nat → Nat} (hg : ck_G g) {D : Nat → Int32} (H : ∀ m, ck_mX g m → post (nI m)) : wpX_halves post (ck_A g, D) :=
  ⟨257, ck_Xhal_l hg H 256 0 rfl 17 (Nat.le_refl 17) (fun z' hz' => absurd hz' (Nat.not_lt_zero z')) (Or.inl rfl)⟩
/-! give -/
theorem ck_Yg57 {post : Int32 → SY → Prop} {J : Int32 → Prop} {x3 : Int32} {g h : Nat → Nat} (hg : ck_G g) {t hh : Nat → Int32} (h8 : ∀ i, i < 8 → hh i = nI (h i)) (h2 : ∀ i, h i ≤ 2) {v : Nat} (hv : v < 8)
    (K : (∀ w, w < v → (g v).testBit w = true → 2 ≤ h v + h w) → J (nI (v + 1))) (F : ∀ w, w < v → (g v).testBit w = true → ¬ 2 ≤ h v + h w → post (-1) (ck_A g, t, hh)) :
    ∀ d w, w + d = v → (∀ w', w' < w → (g v).testBit w' = true → 2 ≤ h v + h w') → wY_give_57 post J x3 (nI v) (ck_A g) t hh (d + 1) (nI w) := by
  intro d
  induction d with
  | zero =>
    intro w hw P
    cases (by omega : w = v)
    exact br_t (nI_le (Nat.le_refl w) (by omega)) (nm_r (nI_1 w) (K P))
  | succ d ih =>
    intro w hwd P
    have hw : w < v := by omega
    have hw8 : w < 8 := by omega
    have e : hh (nI v).toNatClampNeg + hh (nI w).toNatClampNeg = nI (h v + h w) := by
      rw [nI_clamp (by omega), nI_clamp (by omega), h8 v hv, h8 w hw8, nI_add]
    have b1 := h2 v
    have b2 := h2 w
    have E : (2 : Int32) ≤ hh (nI v).toNatClampNeg + hh (nI w).toNatClampNeg ↔ 2 ≤ h v + h w := by
      rw [e]
      exact nI_leI (a := 2) (by decide) (by omega)
    have S : ((g v).testBit w = true → 2 ≤ h v + h w) → ∀ w', w' < w + 1 → (g v).testBit w' = true → 2 ≤ h v + h w' := fun q => lt_s P q
    refine br_f (nI_ge hw (by omega)) ⟨ck_in hv, ?_⟩
    rw [ck_at hv]
    refine br_c (fun hb => ⟨ck_in hv, ck_in hw8, br_c (fun z => nm_r (nI_1 w) ?_) (fun z => ?_)⟩) (fun hb => nm_r (nI_1 w) ?_)
    · exact ih (w + 1) (by omega) (S fun _ => E.mp z)
    · exact F w hw ((ck_bit (hg.1 v hv) hw8).mp hb) (fun y => z (E.mpr y))
    · exact ih (w + 1) (by omega) (S fun y => absurd ((ck_bit (hg.1 v hv) hw8).mpr y) hb)
theorem ck_Yg47 {post : Int32 → SY → Prop} {x3 : Int32} {g h : Nat → Nat} (hg : ck_G g) {t hh : Nat → Int32} (h8 : ∀ i, i < 8 → hh i = nI (h i)) (h2 : ∀ i, h i ≤ 2)
    (H1 : ck_hc g h → post x3 (ck_A g, t, hh)) (H0 : ¬ ck_hc g h → post (-1) (ck_A g, t, hh)) :
    ∀ d v, v + d = 8 → (∀ v', v' < v → ∀ w, w < v' → (g v').testBit w = true → 2 ≤ h v' + h w) → wY_give_47 post x3 (ck_A g) t hh (d + 1) (nI v) := by
  intro d
  induction d with
  | zero =>
    intro v hv P
    cases (by omega : v = 8)
    exact br_t ck_88 (H1 fun v w hv hw e => P v hv w hw e)
  | succ d ih =>
    intro v hvd P
    have hv : v < 8 := by omega
    refine br_f (ck_8 hv) ⟨v + 1, ck_Yg57 hg h8 h2 hv (fun q => ih (v + 1) (by omega) (lt_s P q)) (fun w hw a b => H0 fun z => b (z v w hv hw a)) v 0 (Nat.zero_add v) (fun w' hw' => absurd hw' (Nat.not_lt_zero w'))⟩
theorem ck_d_s (c v : Nat) : c / 3 ^ v / 3 = c / 3 ^ (v + 1) := by
  rw [Nat.div_div_eq_div_mul, Nat.pow_succ]
theorem ck_Yg7 {post : Int32 → SY → Prop} {g : Nat → Nat} (hg : ck_G g) {t : Nat → Int32} {c : Nat} (hc : c < 6561)
    (H : ∀ hh : Nat → Int32, (∀ i, i < 8 → hh i = nI (ck_d c i)) → (ck_hc g (ck_d c) → post (nI (ck_sm (ck_d c) 8)) (ck_A g, t, hh)) ∧ (¬ ck_hc g (ck_d c) → post (-1) (ck_A g, t, hh))) :
    ∀ d v, v + d = 8 → ∀ hh : Nat → Int32, (∀ i, i < v → hh i = nI (ck_d c i)) → wY_give_7 post (d + 1) (nI (c / 3 ^ v)) (nI (ck_sm (ck_d c) v)) (nI v) (ck_A g) t hh := by
  intro d
  induction d with
  | zero =>
    intro v hv hh P
    cases (by omega : v = 8)
    have q := H hh P
    exact br_t ck_88 ⟨9, ck_Yg47 hg P (fun i => Nat.le_of_lt_succ (ck_d_lt c i)) q.1 q.2 8 0 rfl (fun v' hv' => absurd hv' (Nat.not_lt_zero v'))⟩
  | succ d ih =>
    intro v hvd hh P
    have hv : v < 8 := by omega
    have cl : c / 3 ^ v < 2 ^ 31 := Nat.lt_of_le_of_lt (Nat.div_le_self _ _) (by omega)
    have e1 : upd hh (nI v).toNatClampNeg (nI (c / 3 ^ v) - nI (c / 3 ^ v) / 3 * 3) = upd hh v (nI (ck_d c v)) := by
      rw [nI_clamp (by omega)]
      exact congrArg (upd hh v) (pk_rem (d := 3) cl (by decide) (by decide))
    have e2 : nI (c / 3 ^ v) / 3 = nI (c / 3 ^ (v + 1)) := by
      rw [← ck_d_s]
      exact pk_div (d := 3) cl (by decide) (by decide)
    have e3 : nI (ck_sm (ck_d c) v) + upd hh v (nI (ck_d c v)) (nI v).toNatClampNeg = nI (ck_sm (ck_d c) (v + 1)) := by
      rw [nI_clamp (by omega), pk_us, nI_add]
      rfl
    refine br_f (ck_8 hv) ⟨by decide, ck_in hv, nm_r e1 ⟨by decide, nm_r e2 ⟨ck_in hv, nm_r e3 (nm_r (nI_1 v) ?_)⟩⟩⟩
    refine ih (v + 1) (by omega) _ (fun i hi => ?_)
    by_cases x : i = v
    · rw [x]
      exact pk_us
    · exact (pk_un x).trans (P i (by omega))
theorem ck_Ygive {post : Int32 → SY → Prop} {g : Nat → Nat} (hg : ck_G g) {t h : Nat → Int32} {c : Nat} (hc : c < 6561)
    (H : ∀ hh : Nat → Int32, (∀ i, i < 8 → hh i = nI (ck_d c i)) → (ck_hc g (ck_d c) → post (nI (ck_sm (ck_d c) 8)) (ck_A g, t, hh)) ∧ (¬ ck_hc g (ck_d c) → post (-1) (ck_A g, t, hh))) : wpY_give post (ck_A g, t, h) (nI c) := by
  have q := ck_Yg7 hg hc H 8 0 rfl h (fun i hi => absurd hi (Nat.not_lt_zero i))
  rw [Nat.pow_zero, Nat.div_one] at q
  exact ⟨9, q⟩
/-! the reference's least -/
theorem ck_6561 {c : Nat} (h : c < 6561) : ¬ (6561 : Int32) ≤ nI c := nI_ge (b := 6561) h (by decide)
theorem ck_6561e : (6561 : Int32) ≤ nI 6561 := nI_le (a := 6561) (b := 6561) (Nat.le_refl _) (by decide)
theorem ck_sm_16 (c : Nat) : ck_sm (ck_d c) 8 ≤ 16 := ck_sm_2 8 (fun v _ => Nat.le_of_lt_succ (ck_d_lt c v))
theorem ck_twos : ∀ v, v < 8 → ck_d 6560 v = 2 := by decide
theorem ck_Yhal_l {post : Int32 → SY → Prop} {g : Nat → Nat} (hg : ck_G g) {t : Nat → Int32} (H : ∀ m hh, m ≤ 16 → ck_mY g m → post (nI m) (ck_A g, t, hh)) : ∀ d c, c + d = 6561 → ∀ m hh, m ≤ 16 → (∀ c', c' < c → ck_hc g (ck_d c') → m ≤ ck_sm (ck_d c') 8) → (m = 16 ∨ ∃ c', c' < 6561 ∧ ck_hc g (ck_d c') ∧ ck_sm (ck_d c') 8 = m) → wY_halves_5 post (d + 1) (nI m) (nI c) (ck_A g) t hh := by
  intro d
  induction d with
  | zero =>
    intro c hc m hh hm a b
    cases (by omega : c = 6561)
    refine br_t ck_6561e (H m hh hm ⟨a, ?_⟩)
    rcases b with b | b
    · refine ⟨6560, by decide, fun v w hv hw _ => ?_, ?_⟩
      · rw [ck_twos v hv]
        omega
      · rw [b]
        decide
    · exact b
  | succ d ih =>
    intro c hcd m hh hm a b
    have hc : c < 6561 := by omega
    have s16 := ck_sm_16 c
    refine br_f (ck_6561 hc) (ck_Ygive hg hc fun hh' _ => ⟨fun k => ?_, fun k => ?_⟩)
    · refine br_f (nI_pos (by omega)) (br_c (fun y => nm_r (nI_1 c) ?_) (fun y => nm_r (nI_1 c) ?_))
      · have y' := (nI_leI (by omega) (by omega)).mp y
        exact ih (c + 1) (by omega) m hh' hm (lt_s a fun _ => y') b
      · have y' : ¬ m ≤ ck_sm (ck_d c) 8 := fun x => y ((nI_leI (by omega) (by omega)).mpr x)
        refine ih (c + 1) (by omega) (ck_sm (ck_d c) 8) hh' s16 (lt_s (fun c' hc' k' => ?_) fun _ => Nat.le_refl _) (Or.inr ⟨c, hc, k, rfl⟩)
        have := a c' hc' k'
        omega
    · refine br_t (by decide) (nm_r (nI_1 c) ?_)
      exact ih (c + 1) (by omega) m hh' hm (lt_s a fun k' => absurd k' k) b
theorem ck_Yhal {post : Int32 → SY → Prop} {g : Nat → Nat} (hg : ck_G g) {t h : Nat → Int32} (H : ∀ m hh, m ≤ 16 → ck_mY g m → post (nI m) (ck_A g, t, hh)) : wpY_halves post (ck_A g, t, h) :=
  ⟨6562, ck_Yhal_l hg H 6561 0 rfl 16 h (Nat.le_refl 16) (fun c' hc' => absurd hc' (Nat.not_lt_zero c')) (Or.inl rfl)⟩
theorem ck_mX16 {g : Nat → Nat} {m : Nat} (h : ck_mX g m) : m ≤ 16 := by
  obtain ⟨_, z, _, _, q⟩ := h
  exact q
theorem ck_halves {g : Nat → Nat} (hg : ck_G g) {D t h : Nat → Int32} {Q : Int32 → Int32 → SY → Prop} (H : ∀ r hh, Q r r (ck_A g, t, hh)) :
    wpX_halves (fun r => wpY_halves (fun r' v' => Q r r' v') (ck_A g, t, h)) (ck_A g, D) := by
  refine ck_Xhal hg fun m hm => ck_Yhal hg fun m' hh _ hm' => ?_
  rw [ck_mY_u hm' (ck_mXY hg hm)]
  exact H _ hh
theorem ck_evenly {g : Nat → Nat} (hg : ck_G g) {D t h : Nat → Int32} {Q : Int32 → Int32 → SY → Prop} (H : ∀ r hh, Q r r (ck_A g, t, hh)) :
    wpX_evenly (fun r => wpY_evenly (fun r' v' => Q r r' v') (ck_A g, t, h)) (ck_A g, D) := by
  unfold wpX_evenly
  dsimp only
  refine ck_Xhal hg fun m hm => ?_
  have E : ∀ m', ck_mY g m' → m' = m := fun m' hm' => ck_mY_u hm' (ck_mXY hg hm)
  unfold wpY_evenly
  dsimp only
  refine br_c (fun z => ck_Yhal hg fun m' hh _ hm' => ?_) (fun z => ck_Yhal hg fun m' hh _ hm' => ?_)
  · rw [E m' hm']
    exact br_t z (H 1 hh)
  · rw [E m' hm']
    exact br_f z (H 0 hh)
