theorem i_vc_wipe {k : Nat} {u : SX} {v : SY} (I : i_Rel k u v) (hk : k + 5 ≤ 5) : wpX_wipe (fun r u' => wpY_wipe (fun r' v' => r' = r ∧ i_Rel (k + 5) u' v') v) u := by
  obtain ⟨rfl, rfl⟩ := I (by omega)
  exact ⟨rfl, zr_T _ _⟩
theorem i_vc_check {k : Nat} {u : SX} {v : SY} (I : i_Rel k u v) (hk : k + 5 ≤ 5) : wpX_check (fun r u' => wpY_check (fun r' v' => r' = r ∧ i_Rel (k + 5) u' v') v) u := by
  obtain ⟨rfl, rfl⟩ := I (by omega)
  unfold wpX_check wpY_check
  exact zr_study _ (zr_look _ ⟨rfl, zr_T _ _⟩)
theorem i_vc_place {k : Nat} {u : SX} {v : SY} (I : i_Rel k u v) (hk : k + 5 ≤ 5) : wpX_place (fun r u' => wpY_place (fun r' v' => r' = r ∧ i_Rel (k + 5) u' v') v) u := by
  obtain ⟨rfl, rfl⟩ := I (by omega)
  unfold wpX_place wpY_place
  exact zr_study _ (zr_look _ ⟨rfl, zr_T _ _⟩)
theorem i_vc_lanes {k : Nat} {u : SX} {v : SY} (I : i_Rel k u v) (hk : k + 5 ≤ 5) (v1 : Int32) (v2 : Int32) : wpX_lanes (fun r u' => wpY_lanes (fun r' v' => r' = r ∧ i_Rel (k + 5) u' v') v v1 v2) u v1 v2 := by
  obtain ⟨rfl, rfl⟩ := I (by omega)
  unfold wpX_lanes wpY_lanes
  refine zr_study _ (br_c (fun h => ?_) (fun h => br_t (Int32.not_lt.mp h) ?_))
  · exact zr_look _ (br_t h ⟨rfl, zr_T _ _⟩)
  · exact zr_look _ (br_f h (br_t (Int32.not_lt.mp h) ⟨rfl, zr_T _ _⟩))
theorem i_vc_shorter {k : Nat} {u : SX} {v : SY} (I : i_Rel k u v) (hk : k + 5 ≤ 5) (v1 : Int32) (v2 : Int32) : wpX_shorter (fun r u' => wpY_shorter (fun r' v' => r' = r ∧ i_Rel (k + 5) u' v') v v1 v2) u v1 v2 := by
  obtain ⟨rfl, rfl⟩ := I (by omega)
  unfold wpX_shorter wpY_shorter
  refine zr_study _ (br_c (fun h => ?_) (fun h => br_t (Int32.not_lt.mp h) ?_))
  · exact zr_look _ (br_t h ⟨rfl, zr_T _ _⟩)
  · exact zr_look _ (br_f h (br_t (Int32.not_lt.mp h) ⟨rfl, zr_T _ _⟩))
theorem zr_four (x : Int32) (h0 : ¬ x < 0) (h4 : ¬ 4 ≤ x) : vp_in x 4 := by
  obtain ⟨j, hj, rfl⟩ := nI_of h0
  rw [show (4 : Int32) = nI 4 from rfl, nI_leI (by omega) hj] at h4
  exact vp_in_nI (by omega) (by omega)
theorem i_vc_varied {k : Nat} {u : SX} {v : SY} (I : i_Rel k u v) (hk : k + 5 ≤ 5) (v1 : Int32) : wpX_varied (fun r u' => wpY_varied (fun r' v' => r' = r ∧ i_Rel (k + 5) u' v') v v1) u v1 := by
  obtain ⟨rfl, rfl⟩ := I (by omega)
  unfold wpX_varied wpY_varied
  refine zr_study _ (br_c (fun h => br_t rfl ?_) (fun h => br_c (fun h4 => br_t rfl ?_) (fun h4 => br_f (by decide) (br_t rfl (br_f (by decide) ⟨zr_four _ h h4, br_t rfl ?_⟩)))))
  · exact zr_look _ (br_t h ⟨rfl, zr_T _ _⟩)
  · exact zr_look _ (br_f h (br_t ((ez_34 _).mpr h4) ⟨rfl, zr_T _ _⟩))
  · exact zr_look _ (br_f h (br_f (fun h3 => h4 ((ez_34 _).mp h3)) (br_t (by decide) ⟨zr_four _ h h4, br_t rfl ⟨rfl, zr_T _ _⟩⟩)))
theorem i_vc_state {k : Nat} {u : SX} {v : SY} (I : i_Rel k u v) (hk : k + 5 ≤ 5) (v1 : Int32) : wpX_state (fun r => wpY_state (fun r' => r' = r ∧ i_Rel (k + 5) u v) v v1) u v1 := by
  obtain ⟨rfl, rfl⟩ := I (by omega)
  refine sa_X _ (fun h => ?_) (fun h => ?_) (fun h => ?_) (fun h => ?_) (fun h => ?_) (fun h => ?_)
  · refine sa_Y _ (fun _ => ⟨rfl, zr_T _ _⟩) ?_ ?_ ?_ ?_ ?_ <;> (intro e; subst e; exact absurd h (by decide))
  all_goals
    subst h
    refine sa_Y _ (fun h => absurd h (by decide)) ?_ ?_ ?_ ?_ ?_ <;> exact fun _ => ⟨rfl, zr_T _ _⟩
theorem i_vc_out {k : Nat} {u : SX} {v : SY} (I : i_Rel k u v) (hk : k + 5 ≤ 5) (v1 : Int32) (v2 : Int32) : wpX_out (fun r => wpY_out (fun r' => r' = r ∧ i_Rel (k + 5) u v) v v1 v2) u v1 v2 := by
  obtain ⟨rfl, rfl⟩ := I (by omega)
  refine ou_X _ _ (fun h => ?_) (fun l k hl hk e1 e2 => ?_)
  · exact ou_Y _ _ (fun _ => ⟨rfl, zr_T _ _⟩) (fun _ _ _ _ _ _ => ⟨rfl, zr_T _ _⟩)
  · exact ou_Y _ _ (fun _ => ⟨rfl, zr_T _ _⟩) (fun _ _ _ _ _ _ => ⟨rfl, zr_T _ _⟩)
theorem i_vc_kept {k : Nat} {u : SX} {v : SY} (I : i_Rel k u v) (hk : k + 5 ≤ 5) (v1 : Int32) (v2 : Int32) : wpX_kept (fun r => wpY_kept (fun r' => r' = r ∧ i_Rel (k + 5) u v) v v1 v2) u v1 v2 := by
  obtain ⟨rfl, rfl⟩ := I (by omega)
  refine ke_X _ _ (fun h => ?_) (fun l k hl hk e1 e2 => ?_) (fun l k hl hk e1 e2 => ?_) <;> exact ke_Y _ _ (fun _ => ⟨rfl, zr_T _ _⟩) (fun _ _ _ _ _ _ => ⟨rfl, zr_T _ _⟩) (fun _ _ _ _ _ _ => ⟨rfl, zr_T _ _⟩)
theorem i_vc_add {k : Nat} {u : SX} {v : SY} (I : i_Rel k u v) (hk : k + 5 ≤ 5) (v1 : Int32) (v2 : Int32) (v3 : Int32) (v4 : Int32) : wpX_add (fun r u' => wpY_add (fun r' v' => r' = r ∧ i_Rel (k + 5) u' v') v v1 v2 v3 v4) u v1 v2 v3 v4 := by
  obtain ⟨rfl, rfl⟩ := I (by omega)
  refine ad_X (n := 0) (by omega) v1 v2 v3 v4 (fun h => ?_) (fun h h2 => absurd h2 (by omega)) (fun h h2 => ?_)
  · exact ad_Y (n := 0) (by omega) v1 v2 v3 v4 (fun _ => ⟨rfl, zr_T _ _⟩) (fun h2 => absurd h h2) (fun h2 => absurd h h2)
  · exact ad_Y (n := 0) (by omega) v1 v2 v3 v4 (fun h2 => absurd h2 h) (fun _ h3 => absurd h3 (by omega)) (fun _ _ => ⟨rfl, zr_T _ _⟩)
theorem i_vc_input {k : Nat} {u : SX} {v : SY} (I : i_Rel k u v) (hk : k + 5 ≤ 5) (v1 : Int32) (v2 : Int32) (v3 : Int32) : wpX_input (fun r u' => wpY_input (fun r' v' => r' = r ∧ i_Rel (k + 5) u' v') v v1 v2 v3) u v1 v2 v3 := by
  obtain ⟨rfl, rfl⟩ := I (by omega)
  have no : ∀ {p : Int32} {l : Nat}, l < 4 → p = nI l → (p < 0 ∨ 4 ≤ p) → False := fun hl e h => by
    subst e; exact h.elim (ez_n4 hl).1 (ez_n4 hl).2.1
  refine in_X _ _ _ (fun h => ?_) (fun l k hl hk e1 e2 => ?_)
  · exact in_Y _ _ _ (fun _ => ⟨rfl, zr_T _ _⟩) (fun l k hl hk e1 e2 => absurd h (fun h => h.elim (no hl e1) (no hk e2)))
  · exact in_Y _ _ _ (fun h => absurd h (fun h => h.elim (no hl e1) (no hk e2))) (fun _ _ _ _ _ _ => ⟨rfl, zr_T _ _⟩)
theorem i_vc_run {k : Nat} {u : SX} {v : SY} (I : i_Rel k u v) (hk : k + 5 ≤ 5) (v1 : Int32) : wpX_run (fun r u' => wpY_run (fun r' v' => r' = r ∧ i_Rel (k + 5) u' v') v (lw_bz v1)) u (lw_bz v1) := by
  obtain ⟨rfl, rfl⟩ := I (by omega)
  unfold wpX_run wpY_run
  refine zr_study _ (br_t rfl (cr_X ⟨lw_bz_n _, ?_, ⟨1, br_f (by decide) (br_t (by decide) ⟨1, br_f (by decide) (br_t (by decide) (br_t (by decide) ?_))⟩)⟩⟩))
  · rcases lw_bz_01 v1 with h | h <;> rw [h] <;> decide
  · exact zr_look _ (br_t (by decide) (cr_Y ⟨1, br_f (by decide) ⟨1, br_t (by decide) (br_t rfl ⟨rfl, zr_T _ _⟩)⟩⟩))
