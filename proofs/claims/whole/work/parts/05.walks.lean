/-! ===== the walks of the small methods, each with a general post ===== -/
/-- the array of a graph -/
def ck_A (g : Nat → Nat) : Nat → Int32 := fun i => nI (g i)
theorem ck_at {g : Nat → Nat} {v : Nat} (hv : v < 8) : ck_A g (nI v).toNatClampNeg = nI (g v) := by
  rw [nI_clamp (by omega)]
  rfl
theorem ck_in {v : Nat} (hv : v < 8) : vp_in (nI v) 8 := vp_in_nI hv (by decide)
theorem ck_8 {v : Nat} (hv : v < 8) : ¬ (8 : Int32) ≤ nI v := nI_ge (b := 8) hv (by decide)
theorem ck_88 : (8 : Int32) ≤ nI 8 := nI_le (a := 8) (b := 8) (Nat.le_refl 8) (by decide)
theorem ck_256 {v : Nat} (hv : v < 256) : ¬ (256 : Int32) ≤ nI v := nI_ge (b := 256) hv (by decide)
theorem ck_256e : (256 : Int32) ≤ nI 256 := nI_le (a := 256) (b := 256) (Nat.le_refl 256) (by decide)
theorem ck_eq0 {a : Nat} (ha : a < 2 ^ 31) : nI a = 0 ↔ a = 0 := nI_eq (b := 0) ha (by decide)
/-! size and count -/
theorem ck_Xsz_l {post : Int32 → Prop} {s : Nat} (hs : s < 256) (H : post (nI (ck_n s 8))) : ∀ d v, v + d = 8 → wX_size_4 post (nI s) (d + 1) (nI (ck_n s v)) (nI v) := by
  intro d
  induction d with
  | zero =>
    intro v hv
    cases (by omega : v = 8)
    exact br_t ck_88 H
  | succ d ih =>
    intro v hv
    have e : nI (ck_n s v) + ((nI s >>> (nI v &&& 31)) &&& 1) = nI (ck_n s (v + 1)) := by
      rw [ck_sh hs (by omega), nI_add]
      rfl
    exact br_f (ck_8 (by omega)) (nm_r e (nm_r (nI_1 v) (ih (v + 1) (by omega))))
theorem ck_Xsz {post : Int32 → Prop} {s : Nat} (hs : s < 256) (H : post (nI (ck_n s 8))) : wpX_size post (nI s) := ⟨9, ck_Xsz_l hs H 8 0 rfl⟩
theorem ck_Yct_l {post : Int32 → Prop} {a t h : Nat → Int32} {s : Nat} (hs : s < 256) (H : post (nI (ck_n s 8))) : ∀ d v, v + d = 8 → wY_count_4 post (nI s) a t h (d + 1) (nI (ck_n s v)) (nI v) := by
  intro d
  induction d with
  | zero =>
    intro v hv
    cases (by omega : v = 8)
    exact br_t ck_88 H
  | succ d ih =>
    intro v hv
    have e : nI (ck_n s v) + ((nI s >>> (nI v &&& 31)) &&& 1) = nI (ck_n s (v + 1)) := by
      rw [ck_sh hs (by omega), nI_add]
      rfl
    exact br_f (ck_8 (by omega)) (nm_r e (nm_r (nI_1 v) (ih (v + 1) (by omega))))
theorem ck_Yct {post : Int32 → Prop} {a t h : Nat → Int32} {s : Nat} (hs : s < 256) (H : post (nI (ck_n s 8))) : wpY_count post (a, t, h) (nI s) := ⟨9, ck_Yct_l hs H 8 0 rfl⟩
/-! one bit -/
theorem ck_bit {s v : Nat} (hs : s < 256) (hv : v < 8) : ((nI s >>> (nI v &&& 31)) &&& 1) = 1 ↔ s.testBit v = true := by
  rw [ck_sh hs hv]
  exact ck_b1
theorem ck_bit0 {s v : Nat} (hs : s < 256) (hv : v < 8) : ((nI s >>> (nI v &&& 31)) &&& 1) = 0 ↔ s.testBit v = false := by
  rw [ck_sh hs hv]
  exact ck_b0
theorem ck_Xhas {post : Int32 → Prop} {s v : Nat} (hs : s < 256) (hv : v < 8) (H1 : s.testBit v = true → post 1) (H0 : s.testBit v = false → post 0) : wpX_has post (nI s) (nI v) :=
  br_c (fun h => H1 ((ck_bit hs hv).mp h)) (fun h => H0 (ck_nt fun z => h ((ck_bit hs hv).mpr z)))
/-! around -/
theorem ck_ar_s1 {g : Nat → Nat} {s v : Nat} (h : s.testBit v = true) : ck_ar g s (v + 1) = ck_ar g s v ||| g v := if_pos h
theorem ck_ar_s0 {g : Nat → Nat} {s v : Nat} (h : s.testBit v = false) : ck_ar g s (v + 1) = ck_ar g s v := if_neg (by rw [h]; decide)
theorem ck_Xar_l {post : Int32 → Prop} {g : Nat → Nat} {D : Nat → Int32} {s : Nat} (hs : s < 256) (H : post (nI (ck_ar g s 8))) : ∀ d v, v + d = 8 → wX_around_4 post (nI s) (ck_A g) D (d + 1) (nI (ck_ar g s v)) (nI v) := by
  intro d
  induction d with
  | zero =>
    intro v hv
    cases (by omega : v = 8)
    exact br_t ck_88 H
  | succ d ih =>
    intro v hv
    have hv8 : v < 8 := by omega
    refine br_f (ck_8 hv8) (ck_Xhas hs hv8 (fun h => br_f (by decide) ⟨ck_in hv8, nm_r ?_ (nm_r (nI_1 v) (ih (v + 1) (by omega)))⟩) (fun h => br_t rfl (nm_r (nI_1 v) ?_)))
    · rw [ck_at hv8, ck_or, ck_ar_s1 h]
    · have q := ih (v + 1) (by omega)
      rw [ck_ar_s0 h] at q
      exact q
theorem ck_Xar {post : Int32 → Prop} {g : Nat → Nat} {D : Nat → Int32} {s : Nat} (hs : s < 256) (H : post (nI (ck_ar g s 8))) : wpX_around post (ck_A g, D) (nI s) := ⟨9, ck_Xar_l hs H 8 0 rfl⟩
/-! covers -/
theorem ck_and_lt {a b : Nat} (ha : a < 256) : a &&& b < 256 := Nat.lt_of_le_of_lt Nat.and_le_left ha
theorem ck_a0 {a b : Nat} (ha : a < 256) : (nI a &&& nI b) = 0 ↔ a &&& b = 0 := by
  rw [nx_and]
  exact ck_eq0 (Nat.lt_of_lt_of_le (ck_and_lt ha) (by decide))
theorem ck_an0 {a b : Nat} (ha : a < 256) : (nI a &&& (nI b ^^^ (-1))) = 0 ↔ a &&& (255 ^^^ b) = 0 := by
  rw [ck_an ha]
  exact ck_eq0 (Nat.lt_of_lt_of_le (ck_and_lt ha) (by decide))
theorem ck_left (s : Nat) : (255 : Int32) &&& (nI s ^^^ (-1)) = nI (ck_co s) := ck_an (a := 255) (by decide)
theorem ck_Xcv {post : Int32 → Prop} {g : Nat → Nat} (hg : ck_G g) {D : Nat → Int32} {s : Nat} (H1 : ck_cv g s = true → post 1) (H0 : ck_cv g s = false → post 0) : wpX_isCover post (ck_A g, D) (nI s) := by
  refine nm_r (ck_left s) (ck_Xar (ck_co_lt s) (br_c (fun h => H1 ?_) (fun h => H0 ?_)))
  · exact decide_eq_true ((ck_a0 (ck_ar_lt hg.1 _ 8 (Nat.le_refl 8))).mp h)
  · exact decide_eq_false fun z => h ((ck_a0 (ck_ar_lt hg.1 _ 8 (Nat.le_refl 8))).mpr z)
theorem ck_Xne {post : Int32 → Prop} {g : Nat → Nat} {D : Nat → Int32} {s : Nat} (hs : s < 256) (H1 : ck_xt g s = true → post 1) (H0 : ck_xt g s = false → post 0) : wpX_needsEachVertex post (ck_A g, D) (nI s) := by
  refine nm_r (ck_left s) (ck_Xar (ck_co_lt s) (br_c (fun h => H1 ?_) (fun h => H0 ?_)))
  · exact decide_eq_true ((ck_an0 hs).mp h)
  · exact decide_eq_false fun z => h ((ck_an0 hs).mpr z)
theorem ck_narB {b : Bool} : narrow .boolean (.int (nI b.toNat)) = .int (nI b.toNat) := by
  cases b <;> rfl
theorem ck_Ycv_l {post : Int32 → Prop} {g : Nat → Nat} (hg : ck_G g) {t h : Nat → Int32} {s : Nat} (hs : s < 256) (H : post (nI (ck_yc g s 8).toNat)) : ∀ d v, v + d = 8 → wY_covers_19 post (nI s) (ck_A g) t h (d + 1) (nI (ck_yc g s v).toNat) (nI v) := by
  intro d
  induction d with
  | zero =>
    intro v hv
    cases (by omega : v = 8)
    exact br_t ck_88 ⟨ck_narB, H⟩
  | succ d ih =>
    intro v hv
    have hv8 : v < 8 := by omega
    have q := ih (v + 1) (by omega)
    have e : ck_yc g s (v + 1) = (ck_yc g s v && (s.testBit v || decide (g v &&& (255 ^^^ s) = 0))) := rfl
    refine br_f (ck_8 hv8) ?_
    cases ey : ck_yc g s v
    · rw [ey, Bool.false_and] at e
      rw [e] at q
      exact br_t rfl (nm_r (nI_1 v) q)
    · rw [ey, Bool.true_and] at e
      refine br_f (by decide) (br_c (fun hb => ?_) (fun hb => ⟨ck_in hv8, ?_⟩))
      · rw [(ck_bit hs hv8).mp hb, Bool.true_or] at e
        rw [e] at q
        exact nm_r (nI_1 v) q
      · have hb' : s.testBit v = false := ck_nt fun z => hb ((ck_bit hs hv8).mpr z)
        rw [hb', Bool.false_or] at e
        rw [ck_at hv8]
        refine br_c (fun h0 => ?_) (fun h0 => ?_)
        · rw [decide_eq_true ((ck_an0 (hg.1 v hv8)).mp h0)] at e
          rw [e] at q
          exact nm_r (nI_1 v) q
        · rw [decide_eq_false (fun z => h0 ((ck_an0 (hg.1 v hv8)).mpr z))] at e
          rw [e] at q
          exact nm_r (nI_1 v) q
theorem ck_Ycv {post : Int32 → Prop} {g : Nat → Nat} (hg : ck_G g) {t h : Nat → Int32} {s : Nat} (hs : s < 256) (H1 : ck_cv g s = true → post 1) (H0 : ck_cv g s = false → post 0) : wpY_covers post (ck_A g, t, h) (nI s) := by
  have H : post (nI (ck_yc g s 8).toNat) := by
    rw [ck_yc_cv hg]
    cases e : ck_cv g s
    · exact H0 e
    · exact H1 e
  exact br_f (nI_pos (by omega)) (br_f (nI_nlt (b := s) (a := 255) (by omega) (by decide)) ⟨9, ck_Ycv_l hg hs H 8 0 rfl⟩)
/-! the reference's covers outside -/
theorem ck_Ycv_n {post : Int32 → Prop} {a t h : Nat → Int32} {x : Int32} (H : post 0) : ∀ d v, v + d = 8 → wY_covers_19 post x a t h (d + 1) 0 (nI v) := by
  intro d
  induction d with
  | zero =>
    intro v hv
    cases (by omega : v = 8)
    exact br_t ck_88 ⟨ck_narB (b := false), H⟩
  | succ d ih =>
    intro v hv
    exact br_f (ck_8 (by omega)) (br_t rfl (nm_r (nI_1 v) (ih (v + 1) (by omega))))
/-! costWithZeros, halvesOf -/
theorem ck_Xcz {post : Int32 → Prop} {g : Nat → Nat} (hg : ck_G g) {D : Nat → Int32} {z : Nat} (hz : z < 256) (H : post (nI (ck_cost g z))) : wpX_costWithZeros post (ck_A g, D) (nI z) := by
  have ha := ck_ar_lt hg.1 z 8 (Nat.le_refl 8)
  refine ck_Xar hz (br_c (fun h => ?_) (fun h => ?_))
  · have k := (ck_a0 ha).mp h
    refine ck_Xsz ha (ck_Xsz hz ?_)
    have e : (8 : Int32) + nI (ck_n (ck_ar g z 8) 8) - nI (ck_n z 8) = nI (ck_cost g z) := by
      have e1 : (8 : Int32) + nI (ck_n (ck_ar g z 8) 8) = nI (8 + ck_n (ck_ar g z 8) 8) := nI_add 8 _
      have := ck_n_le z 8
      rw [e1, pk_sub (by omega)]
      exact congrArg nI (if_pos k).symm
    rw [e]
    exact H
  · have k : ck_cost g z = 17 := if_neg fun k => h ((ck_a0 ha).mpr k)
    rw [k] at H
    exact H
theorem ck_Xho {post : Int32 → Prop} {g : Nat → Nat} (hg : ck_G g) {D : Nat → Int32} {z v : Nat} (hz : z < 256) (hv : v < 8) (H : post (nI (ck_hv g z v))) : wpX_halvesOf post (ck_A g, D) (nI v) (nI z) := by
  have ha := ck_ar_lt hg.1 z 8 (Nat.le_refl 8)
  unfold wpX_halvesOf
  dsimp only
  refine ck_Xhas hz hv (fun h => br_f (by decide) ?_) (fun h => br_t rfl (ck_Xar hz (ck_Xhas ha hv (fun h2 => br_f (by decide) ?_) (fun h2 => br_t rfl ?_))))
  · rw [ck_hv_0 h] at H
    exact H
  · rw [ck_hv_2 (by rw [h]; decide) h2] at H
    exact H
  · rw [ck_hv_1 (by rw [h]; decide) (by rw [h2]; decide)] at H
    exact H
