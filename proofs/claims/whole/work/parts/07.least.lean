/-! ===== leastWith, least, leastCover, always, never ===== -/
/-- may s be the cover: all of i, none of o -/
def ck_al (i o s : Nat) : Bool := decide (s &&& i = i) && decide (s &&& o = 0)
/-- the least number of such a cover below k, 9 for none -/
def ck_lf (g : Nat → Nat) (i o : Nat) : Nat → Nat
  | 0 => 9
  | s + 1 => if (ck_al i o s && ck_cv g s) = true then (if ck_lf g i o s ≤ ck_n s 8 then ck_lf g i o s else ck_n s 8) else ck_lf g i o s
def ck_e (m : Nat) : Int32 := if m = 9 then -1 else nI m
theorem ck_e9 : ck_e 9 = -1 := rfl
theorem ck_e8 {m : Nat} (h : m ≤ 8) : ck_e m = nI m := if_neg (by omega)
theorem ck_nm1 {m : Nat} (h : m < 2 ^ 31) : ¬ nI m = -1 := fun z => by
  have a := nI_toInt h
  rw [z, show (-1 : Int32).toInt = -1 from by decide] at a
  omega
theorem ck_lf_y {g : Nat → Nat} {i o s : Nat} (h : (ck_al i o s && ck_cv g s) = true) : ck_lf g i o (s + 1) = if ck_lf g i o s ≤ ck_n s 8 then ck_lf g i o s else ck_n s 8 := if_pos h
theorem ck_lf_n {g : Nat → Nat} {i o s : Nat} (h : (ck_al i o s && ck_cv g s) = false) : ck_lf g i o (s + 1) = ck_lf g i o s := if_neg (by rw [h]; decide)
theorem ck_lf_9 (g : Nat → Nat) (i o : Nat) : ∀ k, ck_lf g i o k ≤ 9
  | 0 => Nat.le_refl 9
  | k + 1 => by
    have ih := ck_lf_9 g i o k
    have b := ck_n_le k 8
    cases e : (ck_al i o k && ck_cv g k)
    · rw [ck_lf_n e]
      exact ih
    · rw [ck_lf_y e]
      split <;> omega
theorem ck_lf_a (g : Nat → Nat) (i o : Nat) : ∀ k, ck_lf g i o k = 9 ∨ ∃ s, s < k ∧ ck_cv g s = true ∧ ck_n s 8 = ck_lf g i o k
  | 0 => Or.inl rfl
  | k + 1 => by
    have ih := ck_lf_a g i o k
    cases e : (ck_al i o k && ck_cv g k)
    · rw [ck_lf_n e]
      rcases ih with q | ⟨s, a, b⟩
      · exact Or.inl q
      · exact Or.inr ⟨s, by omega, b⟩
    · rw [ck_lf_y e]
      split
      · rcases ih with q | ⟨s, a, b⟩
        · exact Or.inl q
        · exact Or.inr ⟨s, by omega, b⟩
      · rw [Bool.and_eq_true] at e
        exact Or.inr ⟨k, by omega, e.2, rfl⟩
theorem ck_lf_le (g : Nat → Nat) (i o : Nat) : ∀ k s, s < k → ck_al i o s = true → ck_cv g s = true → ck_lf g i o k ≤ ck_n s 8
  | 0, s, h, _, _ => absurd h (Nat.not_lt_zero s)
  | k + 1, s, h, a, c => by
    cases e : (ck_al i o k && ck_cv g k)
    · rw [ck_lf_n e]
      rcases Nat.lt_or_ge s k with q | q
      · exact ck_lf_le g i o k s q a c
      · have y : s = k := by omega
        rw [← y, a, c] at e
        exact absurd e (by decide)
    · rw [ck_lf_y e]
      rcases Nat.lt_or_ge s k with q | q
      · have := ck_lf_le g i o k s q a c
        split <;> omega
      · have y : s = k := by omega
        rw [y]
        split <;> omega
theorem ck_al0 (s : Nat) : ck_al 0 0 s = true := by
  unfold ck_al
  rw [Nat.and_zero]
  decide
/-- the least of all -/
def ck_m (g : Nat → Nat) : Nat := ck_lf g 0 0 256
theorem ck_m_8 {g : Nat → Nat} (hg : ck_G g) : ck_m g ≤ 8 := Nat.le_trans (ck_lf_le g 0 0 256 255 (by decide) (ck_al0 255) (ck_C255 hg)) (ck_n_le 255 8)
theorem ck_m_a {g : Nat → Nat} (hg : ck_G g) : ∃ s, s < 256 ∧ ck_n s 8 = ck_m g ∧ ck_cv g s = true := by
  have a := ck_m_8 hg
  rcases ck_lf_a g 0 0 256 with q | ⟨s, x, y, z⟩
  · have b : ck_m g = 9 := q
    omega
  · exact ⟨s, x, z, y⟩
theorem ck_m_e {g : Nat → Nat} (hg : ck_G g) : ck_e (ck_lf g 0 0 256) = nI (ck_m g) := ck_e8 (ck_m_8 hg)
theorem ck_alX {s i : Nat} (hs : s < 256) (hi : i < 256) : (nI s &&& nI i) = nI i ↔ s &&& i = i := by
  rw [nx_and]
  exact nI_eq (Nat.lt_of_lt_of_le (ck_and_lt hs) (by decide)) (by omega)
theorem ck_alY {s i : Nat} (hs : s < 256) (hi : i < 256) : (nI i &&& (nI s ^^^ (-1))) = 0 ↔ s &&& i = i := by
  rw [ck_an0 hi, ck_and0]
  constructor
  · intro h
    refine ck_ext (ck_and_lt hs) hi fun b hb => ?_
    rw [Nat.testBit_and]
    cases e : i.testBit b
    · simp
    · have q := h b e
      rw [ck_x_bit hb] at q
      simpa using q
  · intro h b hb
    rw [ck_x_bit (ck_b8 hi hb)]
    have q : (s &&& i).testBit b = true := by rw [h]; exact hb
    rw [Nat.testBit_and, Bool.and_eq_true] at q
    rw [q.1]
    rfl
theorem ck_alO {s o : Nat} (ho : o < 256) : (nI o &&& nI s) = 0 ↔ s &&& o = 0 := by
  rw [ck_a0 ho, Nat.and_comm]
theorem ck_al_1 {i o s : Nat} (h1 : s &&& i = i) (h2 : s &&& o = 0) : ck_al i o s = true := by
  unfold ck_al
  rw [decide_eq_true h1, decide_eq_true h2]
  rfl
theorem ck_al_i {i o s : Nat} (h : ¬ s &&& i = i) : ck_al i o s = false := by
  unfold ck_al
  rw [decide_eq_false h]
  rfl
theorem ck_al_o {i o s : Nat} (h : ¬ s &&& o = 0) : ck_al i o s = false := by
  unfold ck_al
  rw [decide_eq_false h, Bool.and_false]
theorem ck_Xlw_l {post : Int32 → Prop} {g : Nat → Nat} (hg : ck_G g) {D : Nat → Int32} {i o : Nat} (hi : i < 256) (H : post (ck_e (ck_lf g i o 256))) : ∀ d s, s + d = 256 → wX_leastWith_21 post (nI i) (nI o) (ck_A g) D (d + 1) (ck_e (ck_lf g i o s)) (nI s) := by
  intro d
  induction d with
  | zero =>
    intro s hs
    cases (by omega : s = 256)
    exact br_t ck_256e H
  | succ d ih =>
    intro s hsd
    have hs : s < 256 := by omega
    have q := ih (s + 1) (by omega)
    have K : (ck_al i o s && ck_cv g s) = false → wX_leastWith_21 post (nI i) (nI o) (ck_A g) D (d + 1) (ck_e (ck_lf g i o s)) (nI (s + 1)) := fun z => by
      rw [ck_lf_n z] at q
      exact q
    refine br_f (ck_256 hs) (br_c (fun h1 => br_c (fun h2 => ?_) (fun h2 => ?_)) (fun h1 => ?_))
    · have a : ck_al i o s = true := ck_al_1 ((ck_alX hs hi).mp h1) ((ck_a0 hs).mp h2)
      refine br_f (by decide) (ck_Xcv hg (fun c => br_f (by decide) (ck_Xsz hs ?_)) (fun c => br_t rfl (nm_r (nI_1 s) (K (by rw [c, Bool.and_false])))))
      rw [ck_lf_y (by rw [a, c]; rfl)] at q
      have b9 := ck_lf_9 g i o s
      have b8 := ck_n_le s 8
      by_cases e9 : ck_lf g i o s = 9
      · rw [e9, if_neg (by omega), ck_e8 b8] at q
        rw [e9]
        exact br_t rfl (nm_r (nI_1 s) q)
      · have b8' : ck_lf g i o s ≤ 8 := by omega
        rw [ck_e8 b8']
        refine br_f (ck_nm1 (by omega)) (br_c (fun z => nm_r (nI_1 s) ?_) (fun z => nm_r (nI_1 s) ?_))
        · rw [if_pos ((nI_leI (by omega) (by omega)).mp z), ck_e8 b8'] at q
          exact q
        · rw [if_neg (fun y => z ((nI_leI (by omega) (by omega)).mpr y)), ck_e8 b8] at q
          exact q
    · exact br_t rfl (nm_r (nI_1 s) (K (by rw [ck_al_o (fun z => h2 ((ck_a0 hs).mpr z)), Bool.false_and])))
    · exact br_t rfl (nm_r (nI_1 s) (K (by rw [ck_al_i (fun z => h1 ((ck_alX hs hi).mpr z)), Bool.false_and])))
theorem ck_Ylw_l {post : Int32 → Prop} {g : Nat → Nat} (hg : ck_G g) {t h : Nat → Int32} {i o : Nat} (hi : i < 256) (ho : o < 256) (H : post (ck_e (ck_lf g i o 256))) : ∀ d s, s + d = 256 → wY_leastOf_5 post (nI i) (nI o) (ck_A g) t h (d + 1) (ck_e (ck_lf g i o s)) (nI s) := by
  intro d
  induction d with
  | zero =>
    intro s hs
    cases (by omega : s = 256)
    exact br_t ck_256e H
  | succ d ih =>
    intro s hsd
    have hs : s < 256 := by omega
    have q := ih (s + 1) (by omega)
    have K : (ck_al i o s && ck_cv g s) = false → wY_leastOf_5 post (nI i) (nI o) (ck_A g) t h (d + 1) (ck_e (ck_lf g i o s)) (nI (s + 1)) := fun z => by
      rw [ck_lf_n z] at q
      exact q
    refine br_f (ck_256 hs) (br_c (fun h1 => br_c (fun h2 => ?_) (fun h2 => ?_)) (fun h1 => ?_))
    · have a : ck_al i o s = true := ck_al_1 ((ck_alY hs hi).mp h1) ((ck_alO ho).mp h2)
      refine ck_Ycv hg hs (fun c => br_f (by decide) (ck_Yct hs ?_)) (fun c => br_t rfl (nm_r (nI_1 s) (K (by rw [c, Bool.and_false]))))
      rw [ck_lf_y (by rw [a, c]; rfl)] at q
      have b9 := ck_lf_9 g i o s
      have b8 := ck_n_le s 8
      by_cases e9 : ck_lf g i o s = 9
      · rw [e9, if_neg (by omega), ck_e8 b8] at q
        rw [e9]
        exact br_t (by decide) (nm_r (nI_1 s) q)
      · have b8' : ck_lf g i o s ≤ 8 := by omega
        rw [ck_e8 b8']
        refine br_f (nI_pos (by omega)) (br_c (fun z => nm_r (nI_1 s) ?_) (fun z => nm_r (nI_1 s) ?_))
        · rw [if_pos ((nI_leI (by omega) (by omega)).mp z), ck_e8 b8'] at q
          exact q
        · rw [if_neg (fun y => z ((nI_leI (by omega) (by omega)).mpr y)), ck_e8 b8] at q
          exact q
    · exact nm_r (nI_1 s) (K (by rw [ck_al_o (fun z => h2 ((ck_alO ho).mpr z)), Bool.false_and]))
    · exact nm_r (nI_1 s) (K (by rw [ck_al_i (fun z => h1 ((ck_alY hs hi).mpr z)), Bool.false_and]))
theorem ck_Xlw {post : Int32 → Prop} {g : Nat → Nat} (hg : ck_G g) {D : Nat → Int32} {i o : Nat} (hi : i < 256) (ho : o < 256) (H : post (ck_e (ck_lf g i o 256))) : wpX_leastWith post (ck_A g, D) (nI i) (nI o) := by
  unfold wpX_leastWith
  dsimp only
  exact ck_Xs hi (br_f (by decide) (ck_Xs ho (br_f (by decide) ⟨257, ck_Xlw_l hg hi H 256 0 rfl⟩)))
theorem ck_Ylw {post : Int32 → Prop} {g : Nat → Nat} (hg : ck_G g) {t h : Nat → Int32} {i o : Nat} (hi : i < 256) (ho : o < 256) (H : post (ck_e (ck_lf g i o 256))) : wpY_leastOf post (ck_A g, t, h) (nI i) (nI o) := ⟨257, ck_Ylw_l hg hi ho H 256 0 rfl⟩
theorem ck_Xle {post : Int32 → Prop} {g : Nat → Nat} (hg : ck_G g) {D : Nat → Int32} (H : post (nI (ck_m g))) : wpX_least post (ck_A g, D) := by
  unfold wpX_least
  dsimp only
  refine ck_Xlw (i := 0) (o := 0) hg (by decide) (by decide) ?_
  rw [ck_m_e hg]
  exact H
theorem ck_Yle {post : Int32 → Prop} {g : Nat → Nat} (hg : ck_G g) {t h : Nat → Int32} (H : post (nI (ck_m g))) : wpY_leastOf post (ck_A g, t, h) 0 0 := by
  refine ck_Ylw (i := 0) (o := 0) hg (by decide) (by decide) ?_
  rw [ck_m_e hg]
  exact H
theorem ck_leastWith {g : Nat → Nat} (hg : ck_G g) {D t h : Nat → Int32} {Q : Int32 → Int32 → Prop} (x y : Int32) (H : ∀ r, Q r r) :
    wpX_leastWith (fun r => wpY_leastWith (fun r' => Q r r') (ck_A g, t, h) x y) (ck_A g, D) x y := by
  rcases ck_set x with h0 | h1 | ⟨i, hi, rfl⟩
  · exact br_t h0 (br_t rfl (br_t h0 (H (-1))))
  · exact br_f (ck_n0' h1) (br_t h1 (br_t rfl (br_f (ck_n0' h1) (br_t (ck_2550 h1) (H (-1))))))
  · rcases ck_set y with h0 | h1 | ⟨o, ho, rfl⟩
    · unfold wpX_leastWith
      dsimp only
      exact ck_Xs hi (br_f (by decide) (br_t h0 (br_t rfl (br_f (nI_pos (by omega)) (br_f (ck_n255 hi) (br_t h0 (H (-1))))))))
    · unfold wpX_leastWith
      dsimp only
      exact ck_Xs hi (br_f (by decide) (br_f (ck_n0' h1) (br_t h1 (br_t rfl (br_f (nI_pos (by omega)) (br_f (ck_n255 hi) (br_f (ck_n0' h1) (br_f (Int32.not_le.mpr (ck_2550 h1)) (H (-1))))))))))
    · refine ck_Xlw hg hi ho ?_
      unfold wpY_leastWith
      dsimp only
      exact br_f (nI_pos (by omega)) (br_f (ck_n255 hi) (br_f (nI_pos (by omega)) (br_t (Int32.not_lt.mp (ck_n255 ho)) (ck_Ylw hg hi ho (H _)))))
/-! leastCover -/
theorem ck_lc_l {g : Nat → Nat} (hg : ck_G g) {D t h : Nat → Int32} {m : Nat} (hm : m ≤ 8) : ∀ d s, s + d = 256 → (∃ x, s ≤ x ∧ x < 256 ∧ ck_n x 8 = m ∧ ck_cv g x = true) →
    ∃ r : Int32, (∀ post : Int32 → Prop, post r → wX_leastCover_7 post (nI m) (ck_A g) D (d + 1) (nI s)) ∧ (∀ post : Int32 → Prop, post r → wY_leastCover_9 post (nI m) (ck_A g) t h (d + 1) (nI s)) := by
  intro d
  induction d with
  | zero =>
    intro s hs
    rintro ⟨x, a, b, _⟩
    omega
  | succ d ih =>
    intro s hsd
    rintro ⟨x, x1, x2, x3, x4⟩
    have hs : s < 256 := by omega
    have b8 := ck_n_le s 8
    have hn := ck_256 hs
    have N : ∀ p, (¬ (ck_n s 8 = m ∧ ck_cv g s = true)) → (p = s + 1) → ∃ x, p ≤ x ∧ x < 256 ∧ ck_n x 8 = m ∧ ck_cv g x = true := fun p z ep => by
      refine ⟨x, ?_, x2, x3, x4⟩
      have : x ≠ s := fun y => z (by rw [← y]; exact ⟨x3, x4⟩)
      omega
    by_cases e : ck_n s 8 = m
    · cases c : ck_cv g s
      · obtain ⟨r, X, Y⟩ := ih (s + 1) (by omega) (N _ (fun z => by rw [c] at z; exact absurd z.2 (by decide)) rfl)
        refine ⟨r, fun post p => br_f hn (ck_Xsz hs (br_t (by rw [e]) (ck_Xcv hg (fun c' => ?_) (fun _ => br_t rfl (nm_r (nI_1 s) (X post p)))))), fun post p => br_f hn (ck_Yct hs (br_t (by rw [e]) (ck_Ycv hg hs (fun c' => ?_) (fun _ => br_t rfl (nm_r (nI_1 s) (Y post p))))))⟩
        · rw [c] at c'
          exact absurd c' (by decide)
        · rw [c] at c'
          exact absurd c' (by decide)
      · refine ⟨nI s, fun post p => br_f hn (ck_Xsz hs (br_t (by rw [e]) (ck_Xcv hg (fun _ => br_f (by decide) p) (fun c' => ?_)))), fun post p => br_f hn (ck_Yct hs (br_t (by rw [e]) (ck_Ycv hg hs (fun _ => br_f (by decide) p) (fun c' => ?_))))⟩
        · rw [c] at c'
          exact absurd c' (by decide)
        · rw [c] at c'
          exact absurd c' (by decide)
    · obtain ⟨r, X, Y⟩ := ih (s + 1) (by omega) (N _ (fun z => e z.1) rfl)
      have ne : ¬ nI (ck_n s 8) = nI m := fun z => e ((nI_eq (by omega) (by omega)).mp z)
      exact ⟨r, fun post p => br_f hn (ck_Xsz hs (br_f ne (nm_r (nI_1 s) (X post p)))), fun post p => br_f hn (ck_Yct hs (br_f ne (nm_r (nI_1 s) (Y post p))))⟩
theorem ck_leastCover {g : Nat → Nat} (hg : ck_G g) {D t h : Nat → Int32} {Q : Int32 → Int32 → Prop} (H : ∀ r, Q r r) :
    wpX_leastCover (fun r => wpY_leastCover (fun r' => Q r r') (ck_A g, t, h)) (ck_A g, D) := by
  obtain ⟨x, a, b, c⟩ := ck_m_a hg
  obtain ⟨r, X, Y⟩ := ck_lc_l hg (D := D) (t := t) (h := h) (ck_m_8 hg) 256 0 rfl ⟨x, Nat.zero_le x, a, b, c⟩
  unfold wpX_leastCover
  dsimp only
  refine ck_Xle hg ⟨257, X _ ?_⟩
  unfold wpY_leastCover
  dsimp only
  exact ck_Yle hg ⟨257, Y _ (H r)⟩
/-! always, never -/
def ck_aw (g : Nat → Nat) (m : Nat) : Nat → Nat
  | 0 => 255
  | s + 1 => if (decide (ck_n s 8 = m) && ck_cv g s) = true then ck_aw g m s &&& s else ck_aw g m s
def ck_nv (g : Nat → Nat) (m : Nat) : Nat → Nat
  | 0 => 0
  | s + 1 => if (decide (ck_n s 8 = m) && ck_cv g s) = true then ck_nv g m s ||| s else ck_nv g m s
theorem ck_Xaw_l {post : Int32 → Prop} {g : Nat → Nat} (hg : ck_G g) {D : Nat → Int32} {m : Nat} (hm : m ≤ 8) (H : post (nI (ck_aw g m 256))) : ∀ d s, s + d = 256 → wX_always_11 post (nI m) (ck_A g) D (d + 1) (nI (ck_aw g m s)) (nI s) := by
  intro d
  induction d with
  | zero =>
    intro s hs
    cases (by omega : s = 256)
    exact br_t ck_256e H
  | succ d ih =>
    intro s hsd
    have hs : s < 256 := by omega
    have b8 := ck_n_le s 8
    have q := ih (s + 1) (by omega)
    have e : ck_aw g m (s + 1) = if (decide (ck_n s 8 = m) && ck_cv g s) = true then ck_aw g m s &&& s else ck_aw g m s := rfl
    refine br_f (ck_256 hs) (ck_Xsz hs (br_c (fun z => ck_Xcv hg (fun c => br_f (by decide) ?_) (fun c => br_t rfl ?_)) (fun z => ?_)))
    · rw [if_pos (by rw [c, decide_eq_true ((nI_eq (by omega) (by omega)).mp z)]; rfl)] at e
      rw [e] at q
      exact nm_r (nx_and _ _) (nm_r (nI_1 s) q)
    · rw [if_neg (by rw [c, Bool.and_false]; decide)] at e
      rw [e] at q
      exact nm_r (nI_1 s) q
    · rw [if_neg (by rw [decide_eq_false (fun y => z ((nI_eq (by omega) (by omega)).mpr y)), Bool.false_and]; decide)] at e
      rw [e] at q
      exact nm_r (nI_1 s) q
theorem ck_Yaw_l {post : Int32 → Prop} {g : Nat → Nat} (hg : ck_G g) {t h : Nat → Int32} {m : Nat} (hm : m ≤ 8) (H : post (nI (ck_aw g m 256))) : ∀ d s, s + d = 256 → wY_always_13 post (nI m) (ck_A g) t h (d + 1) (nI (ck_aw g m s)) (nI s) := by
  intro d
  induction d with
  | zero =>
    intro s hs
    cases (by omega : s = 256)
    exact br_t ck_256e H
  | succ d ih =>
    intro s hsd
    have hs : s < 256 := by omega
    have b8 := ck_n_le s 8
    have q := ih (s + 1) (by omega)
    have e : ck_aw g m (s + 1) = if (decide (ck_n s 8 = m) && ck_cv g s) = true then ck_aw g m s &&& s else ck_aw g m s := rfl
    refine br_f (ck_256 hs) (ck_Yct hs (br_c (fun z => ck_Ycv hg hs (fun c => br_f (by decide) ?_) (fun c => br_t rfl ?_)) (fun z => ?_)))
    · rw [if_pos (by rw [c, decide_eq_true ((nI_eq (by omega) (by omega)).mp z)]; rfl)] at e
      rw [e] at q
      exact nm_r (nx_and _ _) (nm_r (nI_1 s) q)
    · rw [if_neg (by rw [c, Bool.and_false]; decide)] at e
      rw [e] at q
      exact nm_r (nI_1 s) q
    · rw [if_neg (by rw [decide_eq_false (fun y => z ((nI_eq (by omega) (by omega)).mpr y)), Bool.false_and]; decide)] at e
      rw [e] at q
      exact nm_r (nI_1 s) q
theorem ck_Xnv_l {post : Int32 → Prop} {g : Nat → Nat} (hg : ck_G g) {D : Nat → Int32} {m : Nat} (hm : m ≤ 8) (H : post (255 &&& (nI (ck_nv g m 256) ^^^ (-1)))) : ∀ d s, s + d = 256 → wX_never_9 post (nI m) (ck_A g) D (d + 1) (nI (ck_nv g m s)) (nI s) := by
  intro d
  induction d with
  | zero =>
    intro s hs
    cases (by omega : s = 256)
    exact br_t ck_256e H
  | succ d ih =>
    intro s hsd
    have hs : s < 256 := by omega
    have b8 := ck_n_le s 8
    have q := ih (s + 1) (by omega)
    have e : ck_nv g m (s + 1) = if (decide (ck_n s 8 = m) && ck_cv g s) = true then ck_nv g m s ||| s else ck_nv g m s := rfl
    refine br_f (ck_256 hs) (ck_Xsz hs (br_c (fun z => ck_Xcv hg (fun c => br_f (by decide) ?_) (fun c => br_t rfl ?_)) (fun z => ?_)))
    · rw [if_pos (by rw [c, decide_eq_true ((nI_eq (by omega) (by omega)).mp z)]; rfl)] at e
      rw [e] at q
      exact nm_r (ck_or _ _) (nm_r (nI_1 s) q)
    · rw [if_neg (by rw [c, Bool.and_false]; decide)] at e
      rw [e] at q
      exact nm_r (nI_1 s) q
    · rw [if_neg (by rw [decide_eq_false (fun y => z ((nI_eq (by omega) (by omega)).mpr y)), Bool.false_and]; decide)] at e
      rw [e] at q
      exact nm_r (nI_1 s) q
theorem ck_Ynv_l {post : Int32 → Prop} {g : Nat → Nat} (hg : ck_G g) {t h : Nat → Int32} {m : Nat} (hm : m ≤ 8) (H : post (255 &&& (nI (ck_nv g m 256) ^^^ (-1)))) : ∀ d s, s + d = 256 → wY_never_11 post (nI m) (ck_A g) t h (d + 1) (nI (ck_nv g m s)) (nI s) := by
  intro d
  induction d with
  | zero =>
    intro s hs
    cases (by omega : s = 256)
    exact br_t ck_256e H
  | succ d ih =>
    intro s hsd
    have hs : s < 256 := by omega
    have b8 := ck_n_le s 8
    have q := ih (s + 1) (by omega)
    have e : ck_nv g m (s + 1) = if (decide (ck_n s 8 = m) && ck_cv g s) = true then ck_nv g m s ||| s else ck_nv g m s := rfl
    refine br_f (ck_256 hs) (ck_Yct hs (br_c (fun z => ck_Ycv hg hs (fun c => br_f (by decide) ?_) (fun c => br_t rfl ?_)) (fun z => ?_)))
    · rw [if_pos (by rw [c, decide_eq_true ((nI_eq (by omega) (by omega)).mp z)]; rfl)] at e
      rw [e] at q
      exact nm_r (ck_or _ _) (nm_r (nI_1 s) q)
    · rw [if_neg (by rw [c, Bool.and_false]; decide)] at e
      rw [e] at q
      exact nm_r (nI_1 s) q
    · rw [if_neg (by rw [decide_eq_false (fun y => z ((nI_eq (by omega) (by omega)).mpr y)), Bool.false_and]; decide)] at e
      rw [e] at q
      exact nm_r (nI_1 s) q
theorem ck_always {g : Nat → Nat} (hg : ck_G g) {D t h : Nat → Int32} {Q : Int32 → Int32 → Prop} (H : ∀ r, Q r r) :
    wpX_always (fun r => wpY_always (fun r' => Q r r') (ck_A g, t, h)) (ck_A g, D) := by
  unfold wpX_always
  dsimp only
  refine ck_Xle hg ⟨257, ck_Xaw_l hg (ck_m_8 hg) ?_ 256 0 rfl⟩
  unfold wpY_always
  dsimp only
  exact ck_Yle hg ⟨257, ck_Yaw_l hg (ck_m_8 hg) (H _) 256 0 rfl⟩
theorem ck_never {g : Nat → Nat} (hg : ck_G g) {D t h : Nat → Int32} {Q : Int32 → Int32 → Prop} (H : ∀ r, Q r r) :
    wpX_never (fun r => wpY_never (fun r' => Q r r') (ck_A g, t, h)) (ck_A g, D) := by
  unfold wpX_never
  dsimp only
  refine ck_Xle hg ⟨257, ck_Xnv_l hg (ck_m_8 hg) ?_ 256 0 rfl⟩
  unfold wpY_never
  dsimp only
  exact ck_Yle hg ⟨257, ck_Ynv_l hg (ck_m_8 hg) (H _) 256 0 rfl⟩
