/-! ===== tightCovers: the walks ===== -/
def ck_tc (g : Nat → Nat) : Nat → Nat
  | 0 => 0
  | s + 1 => if (ck_cv g s && ck_xt g s) = true then ck_tc g s + 1 else ck_tc g s
theorem ck_Xtc_l {post : Int32 → Prop} {g : Nat → Nat} (hg : ck_G g) {D : Nat → Int32} (H : post (nI (ck_tc g 256))) : ∀ d s, s + d = 256 → wX_tightCovers_4 post (ck_A g) D (d + 1) (nI (ck_tc g s)) (nI s) := by
  intro d
  induction d with
  | zero =>
    intro s hs
    cases (by omega : s = 256)
    exact br_t ck_256e H
  | succ d ih =>
    intro s hsd
    have hs : s < 256 := by omega
    have q := ih (s + 1) (by omega)
    have e : ck_tc g (s + 1) = if (ck_cv g s && ck_xt g s) = true then ck_tc g s + 1 else ck_tc g s := rfl
    refine br_f (ck_256 hs) (ck_Xcv hg (fun c => br_f (by decide) (ck_Xne hs (fun x => br_f (by decide) ?_) (fun x => br_t rfl ?_))) (fun c => br_t rfl ?_))
    · rw [c, x, Bool.true_and, if_pos rfl] at e
      rw [e] at q
      exact nm_r (nI_1 _) (nm_r (nI_1 s) q)
    · rw [c, x, if_neg (by decide)] at e
      rw [e] at q
      exact nm_r (nI_1 s) q
    · rw [c, Bool.false_and, if_neg (by decide)] at e
      rw [e] at q
      exact nm_r (nI_1 s) q
theorem ck_Yt20 {post : Int32 → Prop} {J : Int32 → Int32 → Prop} {g : Nat → Nat} (hg : ck_G g) {t h : Nat → Int32} {x1 : Int32} {s : Nat} (hs : s < 256) (K1 : ck_yt g s 8 = true → J (x1 + 1) (nI (s + 1))) (K0 : ck_yt g s 8 = false → J x1 (nI (s + 1))) :
    ∀ d v, v + d = 8 → wY_tightCovers_20 post J x1 (nI s) (ck_A g) t h (d + 1) (nI (ck_yt g s v).toNat) (nI v) := by
  intro d
  induction d with
  | zero =>
    intro v hv
    cases (by omega : v = 8)
    refine br_t ck_88 ?_
    cases e : ck_yt g s 8
    · exact br_t rfl (nm_r (nI_1 s) (K0 e))
    · exact br_f (by decide) (nm_e (nm_r (nI_1 s) (K1 e)))
  | succ d ih =>
    intro v hvd
    have hv : v < 8 := by omega
    have q := ih (v + 1) (by omega)
    have e : ck_yt g s (v + 1) = (ck_yt g s v && (!s.testBit v || !ck_cv g (ck_rm s v))) := rfl
    refine br_f (ck_8 hv) ?_
    cases ey : ck_yt g s v
    · rw [ey, Bool.false_and] at e
      rw [e] at q
      exact br_t rfl (nm_r (nI_1 v) q)
    · rw [ey, Bool.true_and] at e
      refine br_f (by decide) (br_c (fun z => ?_) (fun z => ?_))
      · rw [(ck_bit0 hs hv).mp z] at e
        rw [e] at q
        exact nm_r (nI_1 v) q
      · have sv : s.testBit v = true := by
          cases x : s.testBit v
          · exact absurd ((ck_bit0 hs hv).mpr x) z
          · rfl
        rw [sv] at e
        rw [ck_rmI hs hv]
        refine ck_Ycv hg (ck_rm_lt hs v) (fun c => br_f (by decide) ?_) (fun c => br_t rfl ?_)
        · rw [c] at e
          rw [e] at q
          exact nm_r (nI_1 v) q
        · rw [c] at e
          rw [e] at q
          exact nm_r (nI_1 v) q
theorem ck_Ytc_l {post : Int32 → Prop} {g : Nat → Nat} (hg : ck_G g) {t h : Nat → Int32} (H : post (nI (ck_tc g 256))) : ∀ d s, s + d = 256 → wY_tightCovers_4 post (ck_A g) t h (d + 1) (nI (ck_tc g s)) (nI s) := by
  intro d
  induction d with
  | zero =>
    intro s hs
    cases (by omega : s = 256)
    exact br_t ck_256e H
  | succ d ih =>
    intro s hsd
    have hs : s < 256 := by omega
    have q := ih (s + 1) (by omega)
    have e : ck_tc g (s + 1) = if (ck_cv g s && ck_xt g s) = true then ck_tc g s + 1 else ck_tc g s := rfl
    rw [← ck_tight hg hs] at e
    have R := ck_Yt20 (post := post) (J := wY_tightCovers_4 post (ck_A g) t h (d + 1)) (x1 := nI (ck_tc g s)) (t := t) (h := h) hg hs (fun c => by
      rw [c, if_pos rfl] at e
      rw [nI_1, ← e]
      exact q) (fun c => by
      rw [c, if_neg (by decide)] at e
      rw [← e]
      exact q) 8 0 rfl
    refine br_f (ck_256 hs) (ck_Ycv hg hs (fun c => ⟨9, ?_⟩) (fun c => ⟨9, ?_⟩))
    · rw [show ck_yt g s 0 = true from c] at R
      exact R
    · rw [show ck_yt g s 0 = false from c] at R
      exact R
theorem ck_tightCovers {g : Nat → Nat} (hg : ck_G g) {D t h : Nat → Int32} {Q : Int32 → Int32 → Prop} (H : ∀ r, Q r r) :
    wpX_tightCovers (fun r => wpY_tightCovers (fun r' => Q r r') (ck_A g, t, h)) (ck_A g, D) :=
  ⟨257, ck_Xtc_l hg ⟨257, ck_Ytc_l hg (H _) 256 0 rfl⟩ 256 0 rfl⟩
