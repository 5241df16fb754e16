/-! ===== what is owed ===== -/
def i_Rel (k : Nat) (u : SX) (v : SY) : Prop := ck_R u v
theorem i_up {k : Nat} {u : SX} {v : SY} (h : i_Rel k u v) : i_Rel (k + 4) u v := h
theorem ck_G0 : ck_G (fun _ => 0) := ⟨fun _ _ => (by decide : 0 < 256), fun _ _ _ _ z => by rw [Nat.zero_testBit] at z; exact absurd z (by decide), fun v _ => Nat.zero_testBit v⟩
theorem ck_A0 : (fun _ => 0 : Nat → Int32) = ck_A (fun _ => 0) := rfl
theorem i_vc0 : wpX_init (fun u => wpY_init (fun v => i_Rel 0 u v)) := ⟨fun _ => 0, fun _ => 0, fun _ => 0, fun _ => 0, rfl, rfl, ck_G0⟩
theorem i_vc_join {k : Nat} {u : SX} {v : SY} (I : i_Rel k u v) (hk : k + 4 ≤ 2048) (v1 : Int32) (v2 : Int32) (v3 : Int32) : wpX_join (fun r u' => wpY_join (fun r' v' => r' = r ∧ i_Rel (k + 4) u' v') v v1 v2 (lw_bz v3)) u v1 v2 (lw_bz v3) := by
  obtain ⟨g, D, t, h, rfl, rfl, hg⟩ := I
  exact ck_join hg v1 v2 (lw_bz v3) ⟨rfl, ck_R_i hg⟩ (fun g' hg' => ⟨rfl, ck_R_i hg'⟩)
theorem i_vc_neighbours {k : Nat} {u : SX} {v : SY} (I : i_Rel k u v) (hk : k + 4 ≤ 2048) (v1 : Int32) : wpX_neighbours (fun r => wpY_neighbours (fun r' => r' = r ∧ i_Rel (k + 4) u v) v v1) u v1 := by
  obtain ⟨g, D, t, h, rfl, rfl, hg⟩ := I
  unfold wpX_neighbours wpY_neighbours
  dsimp only
  rcases ck_vx v1 with ⟨x1, y1⟩ | ⟨v, hv, rfl⟩
  · exact x1 _ (br_t rfl (y1 _ _ (br_t rfl ⟨rfl, ck_R_i hg⟩)))
  · exact ck_Xv hv (br_f (by decide) ⟨ck_in hv, ck_Yv hv (br_f (by decide) ⟨ck_in hv, rfl, ck_R_i hg⟩)⟩)
theorem i_vc_edges {k : Nat} {u : SX} {v : SY} (I : i_Rel k u v) (hk : k + 4 ≤ 2048) : wpX_edges (fun r => wpY_edges (fun r' => r' = r ∧ i_Rel (k + 4) u v) v) u := by
  obtain ⟨g, D, t, h, rfl, rfl, hg⟩ := I
  exact ck_Xed hg (ck_Yed hg ⟨rfl, ck_R_i hg⟩)
theorem i_vc_covers {k : Nat} {u : SX} {v : SY} (I : i_Rel k u v) (hk : k + 4 ≤ 2048) (v1 : Int32) : wpX_covers (fun r => wpY_covers (fun r' => r' = r ∧ i_Rel (k + 4) u v) v v1) u v1 := by
  obtain ⟨g, D, t, h, rfl, rfl, hg⟩ := I
  exact ck_covers hg v1 (fun r => ⟨rfl, ck_R_i hg⟩)
theorem i_vc_least {k : Nat} {u : SX} {v : SY} (I : i_Rel k u v) (hk : k + 4 ≤ 2048) : wpX_least (fun r => wpY_least (fun r' => r' = r ∧ i_Rel (k + 4) u v) v) u := by
  obtain ⟨g, D, t, h, rfl, rfl, hg⟩ := I
  refine ck_Xle hg ?_
  unfold wpY_least
  dsimp only
  exact ck_Yle hg ⟨rfl, ck_R_i hg⟩
theorem i_vc_leastCover {k : Nat} {u : SX} {v : SY} (I : i_Rel k u v) (hk : k + 4 ≤ 2048) : wpX_leastCover (fun r => wpY_leastCover (fun r' => r' = r ∧ i_Rel (k + 4) u v) v) u := by
  obtain ⟨g, D, t, h, rfl, rfl, hg⟩ := I
  exact ck_leastCover hg (fun r => ⟨rfl, ck_R_i hg⟩)
theorem i_vc_always {k : Nat} {u : SX} {v : SY} (I : i_Rel k u v) (hk : k + 4 ≤ 2048) : wpX_always (fun r => wpY_always (fun r' => r' = r ∧ i_Rel (k + 4) u v) v) u := by
  obtain ⟨g, D, t, h, rfl, rfl, hg⟩ := I
  exact ck_always hg (fun r => ⟨rfl, ck_R_i hg⟩)
theorem i_vc_never {k : Nat} {u : SX} {v : SY} (I : i_Rel k u v) (hk : k + 4 ≤ 2048) : wpX_never (fun r => wpY_never (fun r' => r' = r ∧ i_Rel (k + 4) u v) v) u := by
  obtain ⟨g, D, t, h, rfl, rfl, hg⟩ := I
  exact ck_never hg (fun r => ⟨rfl, ck_R_i hg⟩)
theorem i_vc_tightCovers {k : Nat} {u : SX} {v : SY} (I : i_Rel k u v) (hk : k + 4 ≤ 2048) : wpX_tightCovers (fun r => wpY_tightCovers (fun r' => r' = r ∧ i_Rel (k + 4) u v) v) u := by
  obtain ⟨g, D, t, h, rfl, rfl, hg⟩ := I
  exact ck_tightCovers hg (fun r => ⟨rfl, ck_R_i hg⟩)
theorem i_vc_leastWith {k : Nat} {u : SX} {v : SY} (I : i_Rel k u v) (hk : k + 4 ≤ 2048) (v1 : Int32) (v2 : Int32) : wpX_leastWith (fun r => wpY_leastWith (fun r' => r' = r ∧ i_Rel (k + 4) u v) v v1 v2) u v1 v2 := by
  obtain ⟨g, D, t, h, rfl, rfl, hg⟩ := I
  exact ck_leastWith hg v1 v2 (fun r => ⟨rfl, ck_R_i hg⟩)
theorem i_vc_halves {k : Nat} {u : SX} {v : SY} (I : i_Rel k u v) (hk : k + 4 ≤ 2048) : wpX_halves (fun r => wpY_halves (fun r' v' => r' = r ∧ i_Rel (k + 4) u v') v) u := by
  obtain ⟨g, D, t, h, rfl, rfl, hg⟩ := I
  exact ck_halves hg (fun r hh => ⟨rfl, ck_R_i hg⟩)
theorem i_vc_whole {k : Nat} {u : SX} {v : SY} (I : i_Rel k u v) (hk : k + 4 ≤ 2048) : wpX_whole (fun r => wpY_whole (fun r' v' => r' = r ∧ i_Rel (k + 4) u v') v) u := by
  obtain ⟨g, D, t, h, rfl, rfl, hg⟩ := I
  exact ck_whole hg (fun r hh => ⟨rfl, ck_R_i hg⟩)
theorem i_vc_bare {k : Nat} {u : SX} {v : SY} (I : i_Rel k u v) (hk : k + 4 ≤ 2048) : wpX_bare (fun r => wpY_bare (fun r' v' => r' = r ∧ i_Rel (k + 4) u v') v) u := by
  obtain ⟨g, D, t, h, rfl, rfl, hg⟩ := I
  exact ck_bare hg (fun r hh => ⟨rfl, ck_R_i hg⟩)
theorem i_vc_evenly {k : Nat} {u : SX} {v : SY} (I : i_Rel k u v) (hk : k + 4 ≤ 2048) : wpX_evenly (fun r => wpY_evenly (fun r' v' => r' = r ∧ i_Rel (k + 4) u v') v) u := by
  obtain ⟨g, D, t, h, rfl, rfl, hg⟩ := I
  exact ck_evenly hg (fun r hh => ⟨rfl, ck_R_i hg⟩)
theorem i_vc_canHave {k : Nat} {u : SX} {v : SY} (I : i_Rel k u v) (hk : k + 4 ≤ 2048) (v1 : Int32) (v2 : Int32) : wpX_canHave (fun r => wpY_canHave (fun r' v' => r' = r ∧ i_Rel (k + 4) u v') v v1 v2) u v1 v2 := by
  obtain ⟨g, D, t, h, rfl, rfl, hg⟩ := I
  exact ck_canHave hg v1 v2 (fun r hh => ⟨rfl, ck_R_i hg⟩)
theorem i_vc_matching {k : Nat} {u : SX} {v : SY} (I : i_Rel k u v) (hk : k + 4 ≤ 2048) : wpX_matching (fun r u' => wpY_matching (fun r' v' => r' = r ∧ i_Rel (k + 4) u' v') v) u := by
  obtain ⟨g, D, t, h, rfl, rfl, hg⟩ := I
  exact ck_matching hg (fun r D' t' => ⟨rfl, ck_R_i hg⟩)
