/-! ===== relation, join, neighbours, edges, covers ===== -/
/-- both hold the graph g -/
def ck_R (u : SX) (v : SY) : Prop := ∃ (g : Nat → Nat) (D t h : Nat → Int32), u = (ck_A g, D) ∧ v = (ck_A g, t, h) ∧ ck_G g
theorem ck_R_i {g : Nat → Nat} {D t h : Nat → Int32} (hg : ck_G g) : ck_R (ck_A g, D) (ck_A g, t, h) := ⟨g, D, t, h, rfl, rfl, hg⟩
theorem ck_ver (x : Int32) : x < 0 ∨ (8 : Int32) ≤ x ∨ ∃ v, v < 8 ∧ x = nI v := by
  by_cases h : x < 0
  · exact Or.inl h
  · obtain ⟨j, hj, rfl⟩ := nI_of h
    rcases Nat.lt_or_ge j 8 with q | q
    · exact Or.inr (Or.inr ⟨j, q, rfl⟩)
    · exact Or.inr (Or.inl (nI_le (a := 8) q hj))
theorem ck_set (x : Int32) : x < 0 ∨ (256 : Int32) ≤ x ∨ ∃ v, v < 256 ∧ x = nI v := by
  by_cases h : x < 0
  · exact Or.inl h
  · obtain ⟨j, hj, rfl⟩ := nI_of h
    rcases Nat.lt_or_ge j 256 with q | q
    · exact Or.inr (Or.inr ⟨j, q, rfl⟩)
    · exact Or.inr (Or.inl (nI_le (a := 256) q hj))
theorem ck_7 {x : Int32} (h : (8 : Int32) ≤ x) : (7 : Int32) < x := by
  rw [Int32.le_iff_toInt_le, show (8 : Int32).toInt = 8 from by decide] at h
  rw [Int32.lt_iff_toInt_lt, show (7 : Int32).toInt = 7 from by decide]
  omega
theorem ck_2550 {x : Int32} (h : (256 : Int32) ≤ x) : (255 : Int32) < x := by
  rw [Int32.le_iff_toInt_le, show (256 : Int32).toInt = 256 from by decide] at h
  rw [Int32.lt_iff_toInt_lt, show (255 : Int32).toInt = 255 from by decide]
  omega
theorem ck_n0 {x : Int32} (h : (8 : Int32) ≤ x) : ¬ x < 0 := by
  rw [Int32.le_iff_toInt_le, show (8 : Int32).toInt = 8 from by decide] at h
  rw [Int32.lt_iff_toInt_lt, show (0 : Int32).toInt = 0 from by decide]
  omega
theorem ck_n0' {x : Int32} (h : (256 : Int32) ≤ x) : ¬ x < 0 := by
  rw [Int32.le_iff_toInt_le, show (256 : Int32).toInt = 256 from by decide] at h
  rw [Int32.lt_iff_toInt_lt, show (0 : Int32).toInt = 0 from by decide]
  omega
theorem ck_n7 {v : Nat} (hv : v < 8) : ¬ (7 : Int32) < nI v := nI_nlt (a := 7) (b := v) (by omega) (by decide)
theorem ck_n255 {v : Nat} (hv : v < 256) : ¬ (255 : Int32) < nI v := nI_nlt (a := 255) (b := v) (by omega) (by decide)
/-- is x a vertex: one answer of both -/
theorem ck_vx (x : Int32) : ((∀ post : Int32 → Prop, post 0 → wpX_isVertex post x) ∧ ∀ (post : Int32 → Prop) (u : SY), post 0 → wpY_vertex post u x) ∨ ∃ v, v < 8 ∧ x = nI v := by
  rcases ck_ver x with h | h | h
  · exact Or.inl ⟨fun _ p => br_t h p, fun _ _ p => br_t h p⟩
  · exact Or.inl ⟨fun _ p => br_f (ck_n0 h) (br_t h p), fun _ _ p => br_f (ck_n0 h) (br_t (ck_7 h) p)⟩
  · exact Or.inr h
theorem ck_Xv {post : Int32 → Prop} {v : Nat} (hv : v < 8) (H : post 1) : wpX_isVertex post (nI v) := br_f (nI_pos (by omega)) (br_f (ck_8 hv) H)
theorem ck_Yv {post : Int32 → Prop} {u : SY} {v : Nat} (hv : v < 8) (H : post 1) : wpY_vertex post u (nI v) := br_f (nI_pos (by omega)) (br_f (ck_n7 hv) H)
theorem ck_Xs {post : Int32 → Prop} {v : Nat} (hv : v < 256) (H : post 1) : wpX_isSet post (nI v) := br_f (nI_pos (by omega)) (br_f (ck_256 hv) H)
/-! join -/
theorem ck_one {v : Nat} (hv : v < 8) : 2 ^ v < 256 := by
  have p : 2 ^ (v + 1) ≤ 2 ^ 8 := Nat.pow_le_pow_right (by decide) hv
  have q : 2 ^ (v + 1) = 2 ^ v * 2 := Nat.pow_succ _ _
  have r : 0 < 2 ^ v := Nat.two_pow_pos v
  omega
/-- the graph with a and b joined or parted -/
def ck_J (on : Bool) (x b : Nat) : Nat := if on = true then x ||| 2 ^ b else ck_rm x b
def ck_U (g : Nat → Nat) (a x : Nat) : Nat → Nat := fun i => if i = a then x else g i
theorem ck_J_bit {on : Bool} {x b i : Nat} (hx : x < 256) : (ck_J on x b).testBit i = if i = b then on else x.testBit i := by
  unfold ck_J
  cases on
  · rw [if_neg (by decide), ck_rm_bit hx]
    by_cases e : i = b
    · simp [e]
    · simp [e]
  · rw [if_pos rfl, Nat.testBit_or, Nat.testBit_two_pow]
    by_cases e : i = b
    · simp [e]
    · simp [e, Ne.symm e]
theorem ck_J_lt {on : Bool} {x b : Nat} (hx : x < 256) (hb : b < 8) : ck_J on x b < 256 := by
  unfold ck_J
  split
  · exact Nat.or_lt_two_pow (n := 8) hx (ck_one hb)
  · exact ck_rm_lt hx b
def ck_N (on : Bool) (g : Nat → Nat) (a b : Nat) : Nat → Nat := ck_U (ck_U g a (ck_J on (g a) b)) b (ck_J on (g b) a)
theorem ck_N_bit {on : Bool} {g : Nat → Nat} (hg : ck_G g) {a b : Nat} (ha : a < 8) (hb : b < 8) (hab : a ≠ b) {v w : Nat} (hv : v < 8) : (ck_N on g a b v).testBit w = if (v = a ∧ w = b) ∨ (v = b ∧ w = a) then on else (g v).testBit w := by
  unfold ck_N ck_U
  by_cases e : v = b
  · rw [if_pos e, ck_J_bit (hg.1 b hb), e]
    by_cases f : w = a
    · rw [if_pos f, if_pos (Or.inr ⟨rfl, f⟩)]
    · rw [if_neg f, if_neg]
      rintro (⟨x, _⟩ | ⟨_, y⟩)
      · exact hab x.symm
      · exact f y
  · rw [if_neg e]
    by_cases f : v = a
    · rw [if_pos f, ck_J_bit (hg.1 a ha), f]
      by_cases k : w = b
      · rw [if_pos k, if_pos (Or.inl ⟨rfl, k⟩)]
      · rw [if_neg k, if_neg]
        rintro (⟨_, x⟩ | ⟨y, _⟩)
        · exact k x
        · exact hab y
    · rw [if_neg f, if_neg]
      rintro (⟨x, _⟩ | ⟨y, _⟩)
      · exact f x
      · exact e y
theorem ck_N_G {on : Bool} {g : Nat → Nat} (hg : ck_G g) {a b : Nat} (ha : a < 8) (hb : b < 8) (hab : a ≠ b) : ck_G (ck_N on g a b) := by
  refine ⟨fun v hv => ?_, fun v w hv hw h => ?_, fun v hv => ?_⟩
  · show (if v = b then ck_J on (g b) a else if v = a then ck_J on (g a) b else g v) < 256
    split
    · exact ck_J_lt (hg.1 b hb) ha
    · split
      · exact ck_J_lt (hg.1 a ha) hb
      · exact hg.1 v hv
  · rw [ck_N_bit hg ha hb hab hv] at h
    rw [ck_N_bit hg ha hb hab hw]
    by_cases c : (v = a ∧ w = b) ∨ (v = b ∧ w = a)
    · rw [if_pos c] at h
      rw [if_pos (by
        rcases c with ⟨x, y⟩ | ⟨x, y⟩
        · exact Or.inr ⟨y, x⟩
        · exact Or.inl ⟨y, x⟩)]
      exact h
    · rw [if_neg c] at h
      rw [if_neg (by
        rintro (⟨x, y⟩ | ⟨x, y⟩)
        · exact c (Or.inr ⟨y, x⟩)
        · exact c (Or.inl ⟨y, x⟩))]
      exact hg.2.1 v w hv hw h
  · rw [ck_N_bit hg ha hb hab hv, if_neg]
    · exact hg.2.2 v hv
    · rintro (⟨x, y⟩ | ⟨x, y⟩)
      · exact hab (x.symm.trans y)
      · exact hab (y.symm.trans x)
theorem ck_updA {g : Nat → Nat} {a x : Nat} (ha : a < 8) : upd (ck_A g) (nI a).toNatClampNeg (nI x) = ck_A (ck_U g a x) := by
  rw [nI_clamp (by omega)]
  funext i
  show (if i = a then nI x else nI (g i)) = nI (if i = a then x else g i)
  split <;> rfl
theorem ck_J1 {x b : Nat} (hb : b < 8) : nI x ||| ((1 : Int32) <<< (nI b &&& 31)) = nI (ck_J true x b) := by
  rw [ck_s1 hb, ck_or]
  rfl
theorem ck_J0 {x b : Nat} (hx : x < 256) (hb : b < 8) : nI x &&& (((1 : Int32) <<< (nI b &&& 31)) ^^^ (-1)) = nI (ck_J false x b) := by
  rw [ck_s1 hb, ck_an hx]
  rfl
theorem ck_at2 {g : Nat → Nat} {a b x : Nat} (hb : b < 8) (hab : a ≠ b) : ck_A (ck_U g a x) (nI b).toNatClampNeg = nI (g b) := by
  rw [ck_at hb]
  show nI (if b = a then x else g b) = _
  rw [if_neg (Ne.symm hab)]
theorem ck_join {g : Nat → Nat} (hg : ck_G g) {D t h : Nat → Int32} {Q : Int32 → SX → Int32 → SY → Prop} (v1 v2 v3 : Int32)
    (H0 : Q 0 (ck_A g, D) 0 (ck_A g, t, h)) (H1 : ∀ g', ck_G g' → Q 1 (ck_A g', D) 1 (ck_A g', t, h)) :
    wpX_join (fun r u' => wpY_join (fun r' v' => Q r u' r' v') (ck_A g, t, h) v1 v2 v3) (ck_A g, D) v1 v2 v3 := by
  by_cases e : v1 = v2
  · exact br_t e (br_t e H0)
  · rcases ck_vx v1 with ⟨x1, y1⟩ | ⟨a, ha, rfl⟩
    · exact br_f e (x1 _ (br_t rfl (br_f e (y1 _ _ (br_t rfl H0)))))
    · rcases ck_vx v2 with ⟨x2, y2⟩ | ⟨b, hb, rfl⟩
      · exact br_f e (ck_Xv ha (br_f (by decide) (x2 _ (br_t rfl (br_f e (ck_Yv ha (br_f (by decide) (y2 _ _ (br_t rfl H0)))))))))
      · have hab : a ≠ b := fun z => e (by rw [z])
        have ia := ck_in ha
        have ib := ck_in hb
        refine br_f e (ck_Xv ha (br_f (by decide) (ck_Xv hb (br_f (by decide) (br_c (fun z => ?_) (fun z => ?_))))))
        · have e1 : upd (ck_A g) (nI a).toNatClampNeg ((ck_A g (nI a).toNatClampNeg) &&& (((1 : Int32) <<< (nI b &&& 31)) ^^^ (-1))) = ck_A (ck_U g a (ck_J false (g a) b)) := by
            rw [ck_at ha, ck_J0 (hg.1 a ha) hb, ck_updA ha]
          have e2 : upd (ck_A (ck_U g a (ck_J false (g a) b))) (nI b).toNatClampNeg ((ck_A (ck_U g a (ck_J false (g a) b)) (nI b).toNatClampNeg) &&& (((1 : Int32) <<< (nI a &&& 31)) ^^^ (-1))) = ck_A (ck_N false g a b) := by
            rw [ck_at2 hb hab, ck_J0 (hg.1 b hb) ha, ck_updA hb]
            rfl
          have K := H1 _ (ck_N_G (on := false) hg ha hb hab)
          exact ⟨ia, ia, nm_r e1 ⟨ib, ib, nm_r e2 (br_f e (ck_Yv ha (br_f (by decide) (ck_Yv hb (br_f (by decide) (br_t z ⟨ia, ia, nm_r e1 (br_t z ⟨ib, ib, nm_r e2 K⟩)⟩))))))⟩⟩
        · have e1 : upd (ck_A g) (nI a).toNatClampNeg ((ck_A g (nI a).toNatClampNeg) ||| ((1 : Int32) <<< (nI b &&& 31))) = ck_A (ck_U g a (ck_J true (g a) b)) := by
            rw [ck_at ha, ck_J1 hb, ck_updA ha]
          have e2 : upd (ck_A (ck_U g a (ck_J true (g a) b))) (nI b).toNatClampNeg ((ck_A (ck_U g a (ck_J true (g a) b)) (nI b).toNatClampNeg) ||| ((1 : Int32) <<< (nI a &&& 31))) = ck_A (ck_N true g a b) := by
            rw [ck_at2 hb hab, ck_J1 ha, ck_updA hb]
            rfl
          have K := H1 _ (ck_N_G (on := true) hg ha hb hab)
          exact ⟨ia, ia, nm_r e1 ⟨ib, ib, nm_r e2 (br_f e (ck_Yv ha (br_f (by decide) (ck_Yv hb (br_f (by decide) (br_f z ⟨ia, ia, nm_r e1 (br_f z ⟨ib, ib, nm_r e2 K⟩)⟩))))))⟩⟩
/-! edges -/
def ck_ed (g : Nat → Nat) : Nat → Nat
  | 0 => 0
  | v + 1 => ck_ed g v + ck_n (g v) 8
theorem ck_Xed_l {post : Int32 → Prop} {g : Nat → Nat} (hg : ck_G g) {D : Nat → Int32} (H : post (nI (ck_ed g 8) / 2)) : ∀ d v, v + d = 8 → wX_edges_4 post (ck_A g) D (d + 1) (nI (ck_ed g v)) (nI v) := by
  intro d
  induction d with
  | zero =>
    intro v hv
    cases (by omega : v = 8)
    exact br_t ck_88 ⟨by decide, H⟩
  | succ d ih =>
    intro v hv
    have hv8 : v < 8 := by omega
    refine br_f (ck_8 hv8) ⟨ck_in hv8, ?_⟩
    rw [ck_at hv8]
    exact ck_Xsz (hg.1 v hv8) (nm_r (nI_add _ _) (nm_r (nI_1 v) (ih (v + 1) (by omega))))
theorem ck_Yed_l {post : Int32 → Prop} {g : Nat → Nat} (hg : ck_G g) {t h : Nat → Int32} (H : post (nI (ck_ed g 8) / 2)) : ∀ d v, v + d = 8 → wY_edges_4 post (ck_A g) t h (d + 1) (nI (ck_ed g v)) (nI v) := by
  intro d
  induction d with
  | zero =>
    intro v hv
    cases (by omega : v = 8)
    exact br_t ck_88 ⟨by decide, H⟩
  | succ d ih =>
    intro v hv
    have hv8 : v < 8 := by omega
    refine br_f (ck_8 hv8) ⟨ck_in hv8, ?_⟩
    rw [ck_at hv8]
    exact ck_Yct (hg.1 v hv8) (nm_r (nI_add _ _) (nm_r (nI_1 v) (ih (v + 1) (by omega))))
theorem ck_Xed {post : Int32 → Prop} {g : Nat → Nat} (hg : ck_G g) {D : Nat → Int32} (H : post (nI (ck_ed g 8) / 2)) : wpX_edges post (ck_A g, D) := ⟨9, ck_Xed_l hg H 8 0 rfl⟩
theorem ck_Yed {post : Int32 → Prop} {g : Nat → Nat} (hg : ck_G g) {t h : Nat → Int32} (H : post (nI (ck_ed g 8) / 2)) : wpY_edges post (ck_A g, t, h) := ⟨9, ck_Yed_l hg H 8 0 rfl⟩
/-! covers -/
theorem ck_covers {g : Nat → Nat} (hg : ck_G g) {D t h : Nat → Int32} {Q : Int32 → Int32 → Prop} (x : Int32) (H : ∀ r, Q r r) :
    wpX_covers (fun r => wpY_covers (fun r' => Q r r') (ck_A g, t, h) x) (ck_A g, D) x := by
  rcases ck_set x with h0 | h1 | ⟨s, hs, rfl⟩
  · exact br_t h0 (br_t rfl (br_t h0 ⟨9, ck_Ycv_n (H 0) 8 0 rfl⟩))
  · exact br_f (ck_n0' h1) (br_t h1 (br_t rfl (br_f (ck_n0' h1) (br_t (ck_2550 h1) ⟨9, ck_Ycv_n (H 0) 8 0 rfl⟩))))
  · unfold wpX_covers
    dsimp only
    refine ck_Xs hs (br_f (by decide) (ck_Xcv hg (fun c => br_f (by decide) (ck_Ycv hg hs (fun _ => H 1) (fun z => ?_))) (fun c => br_t rfl (ck_Ycv hg hs (fun z => ?_) (fun _ => H 0)))))
    · rw [c] at z
      exact absurd z (by decide)
    · rw [c] at z
      exact absurd z (by decide)
