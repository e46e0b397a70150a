section
variable {K : Nat → Nat} {n : Nat} {T : Nat → Nat × Bool × Int32}
variable {f_lines f_studied f_wrong f_wrongAt f_brief f_on f_dropped f_steps f_nextLine f_repeats : Int32} {a_kinds a_firsts a_seconds a_thirds a_inputs a_home a_depth a_closer a_mate a_operands a_varies a_parted a_variableVaries a_same a_fixed a_worth a_needed a_variableNeeded a_values a_variables a_outputs a_cells a_whole a_waiting : Nat → Int32}
theorem sx_fix {post : SX → Prop} {i : Nat} {v : Int32} (hi : i < 48) (h : post (f_lines, f_studied, f_wrong, f_wrongAt, f_brief, f_on, f_dropped, f_steps, f_nextLine, f_repeats, a_kinds, a_firsts, a_seconds, a_thirds, a_inputs, a_home, a_depth, a_closer, a_mate, a_operands, a_varies, a_parted, a_variableVaries, a_same, upd a_fixed i 1, upd a_worth i v, a_needed, a_variableNeeded, a_values, a_variables, a_outputs, a_cells, a_whole, a_waiting)) : wpX_fix post (f_lines, f_studied, f_wrong, f_wrongAt, f_brief, f_on, f_dropped, f_steps, f_nextLine, f_repeats, a_kinds, a_firsts, a_seconds, a_thirds, a_inputs, a_home, a_depth, a_closer, a_mate, a_operands, a_varies, a_parted, a_variableVaries, a_same, a_fixed, a_worth, a_needed, a_variableNeeded, a_values, a_variables, a_outputs, a_cells, a_whole, a_waiting) (nI i) v := by
  have ci : (nI i).toNatClampNeg = i := nI_clamp (by omega)
  have ii : vp_in (nI i) 48 := vp_in_nI hi (by omega)
  exact ⟨ii, nm_r (by rw [ci, xv_nar1]) ⟨ii, nm_r (by rw [ci]) h⟩⟩
theorem sx_isFixedAt {post : Int32 → Prop} {x : Nat} {v : Int32} (hx : x < 48) (hf : a_fixed x = sh_bI (T x).2.1) (hw : a_worth x = (T x).2.2) (h1 : sh_is T x v = true → post 1) (h0 : sh_is T x v = false → post 0) : wpX_isFixedAt post (f_lines, f_studied, f_wrong, f_wrongAt, f_brief, f_on, f_dropped, f_steps, f_nextLine, f_repeats, a_kinds, a_firsts, a_seconds, a_thirds, a_inputs, a_home, a_depth, a_closer, a_mate, a_operands, a_varies, a_parted, a_variableVaries, a_same, a_fixed, a_worth, a_needed, a_variableNeeded, a_values, a_variables, a_outputs, a_cells, a_whole, a_waiting) (nI x) v := by
  have ci : (nI x).toNatClampNeg = x := nI_clamp (by omega)
  have ii : vp_in (nI x) 48 := vp_in_nI hx (by omega)
  refine ⟨ii, ?_⟩
  rw [ci, hf, hw]
  refine br_c (fun hz => h0 ?_) (fun hz => ⟨ii, br_c (fun he => h1 ?_) (fun he => h0 ?_)⟩)
  · unfold sh_is; rw [sh_bI_0 hz]; rfl
  · unfold sh_is; rw [sh_bI_n hz, he]; simp
  · unfold sh_is; rw [sh_bI_n hz]; simp [he]
theorem sx_leaves {post : Int32 → Prop} {k y : Nat} (hk : k ≤ 25) (hy : y < 48) (hf : a_fixed y = sh_bI (T y).2.1) (hw : a_worth y = (T y).2.2) (h1 : ((k = 3 ∨ k = 4) ∧ sh_is T y 0 = true) ∨ (k = 5 ∧ sh_is T y 1 = true) → post 1) (h0 : ¬ (((k = 3 ∨ k = 4) ∧ sh_is T y 0 = true) ∨ (k = 5 ∧ sh_is T y 1 = true)) → post 0) : wpX_leaves post (f_lines, f_studied, f_wrong, f_wrongAt, f_brief, f_on, f_dropped, f_steps, f_nextLine, f_repeats, a_kinds, a_firsts, a_seconds, a_thirds, a_inputs, a_home, a_depth, a_closer, a_mate, a_operands, a_varies, a_parted, a_variableVaries, a_same, a_fixed, a_worth, a_needed, a_variableNeeded, a_values, a_variables, a_outputs, a_cells, a_whole, a_waiting) (nI k) (nI y) := by
  have t24 : (k = 3 ∨ k = 4) → wX_leaves_24 post (nI y) f_lines f_studied f_wrong f_wrongAt f_brief f_on f_dropped f_steps f_nextLine f_repeats a_kinds a_firsts a_seconds a_thirds a_inputs a_home a_depth a_closer a_mate a_operands a_varies a_parted a_variableVaries a_same a_fixed a_worth a_needed a_variableNeeded a_values a_variables a_outputs a_cells a_whole a_waiting := fun hk34 =>
    sx_isFixedAt (T := T) hy hf hw (fun h => br_f (by decide) (h1 (Or.inl ⟨hk34, h⟩))) (fun h => br_t rfl (h0 (by
      rintro (⟨_, h'⟩ | ⟨h', _⟩)
      · rw [h] at h'; cases h'
      · omega)))
  refine pk_eq k 5 (fun h5 => ?_) (fun h5 => pk_eq k 3 (fun h => t24 (Or.inl h)) (fun h3 => pk_eq k 4 (fun h => t24 (Or.inr h)) (fun h4 => h0 (by omega))))
  refine sx_isFixedAt (T := T) hy hf hw (fun h => ⟨xs_nb1, h1 (Or.inr ⟨h5, h⟩)⟩) (fun h => ⟨xs_nb0, h0 ?_⟩)
  rintro (⟨h', _⟩ | ⟨_, h'⟩)
  · omega
  · rw [h] at h'; cases h'
theorem sx_result {post : Int32 → Prop} {k : Nat} {x y : Int32} (h3 : 3 ≤ k) (h9 : k ≤ 9) (h : post (sh_rk k x y)) : wpX_result post (nI k) x y := by
  unfold sh_rk at h
  refine pk_lt k 3 (fun h' => absurd h' (by omega)) (fun _ => pk_lt 8 k (fun h8 => ?_) (fun h8 => pk_eq k 3 (fun e => ?_) (fun n3 => pk_eq k 4 (fun e => ?_) (fun n4 => pk_eq k 5 (fun e => ?_) (fun n5 => pk_eq k 6 (fun e => ?_) (fun n6 => pk_eq k 7 (fun e => ?_) (fun n7 => pk_eq k 8 (fun e => ?_) (fun n8 => trivial))))))))
  · rw [if_neg (by omega), if_neg (by omega), if_neg (by omega), if_neg (by omega), if_neg (by omega), if_neg (by omega)] at h
    exact br_c (fun e => by rw [if_pos e] at h; exact h) (fun e => by rw [if_neg e] at h; exact h)
  · rw [if_pos e] at h; exact h
  · rw [if_neg n3, if_pos e] at h; exact h
  · rw [if_neg n3, if_neg n4, if_pos e] at h; exact h
  · rw [if_neg n3, if_neg n4, if_neg n5, if_pos e] at h
    exact br_c (fun e => by rw [if_pos e] at h; exact h) (fun e => by rw [if_neg e] at h; exact h)
  · rw [if_neg n3, if_neg n4, if_neg n5, if_neg n6, if_pos e] at h
    exact br_c (fun e => by rw [if_pos e] at h; exact h) (fun e => by rw [if_neg e] at h; exact h)
  · rw [if_neg n3, if_neg n4, if_neg n5, if_neg n6, if_neg n7, if_pos e] at h
    exact br_c (fun e => by rw [if_pos e] at h; exact h) (fun e => by
      rw [if_neg e] at h
      exact br_c (fun e => by rw [if_pos e] at h; exact h) (fun e => by rw [if_neg e] at h; exact h))
theorem sh_is_F {x : Nat} {v : Int32} (h : sh_is T x v = true) : (T x).2.1 = true := by
  unfold sh_is at h; simp only [Bool.and_eq_true] at h; exact h.1
/-- ADD to NOT of x and y -/
theorem sx_sum28 (hn : n ≤ 48) {post : SX → Prop} {i x y : Nat} (hi : i < n) (hki : a_kinds i = nI (K i)) (h3 : 3 ≤ K i) (h9 : K i ≤ 9) (hx : x < i) (hy : y < i) (hR : ∀ j, j < i → a_same j = nI (T j).1 ∧ a_fixed j = sh_bI (T j).2.1 ∧ a_worth j = (T j).2.2)
    (hc : ∀ t, t < i → sh_sum K T i x y = (t, (T t).2) → post (f_lines, f_studied, f_wrong, f_wrongAt, f_brief, f_on, f_dropped, f_steps, f_nextLine, f_repeats, a_kinds, a_firsts, a_seconds, a_thirds, a_inputs, a_home, a_depth, a_closer, a_mate, a_operands, a_varies, a_parted, a_variableVaries, upd a_same i (nI t), a_fixed, a_worth, a_needed, a_variableNeeded, a_values, a_variables, a_outputs, a_cells, a_whole, a_waiting))
    (hm : ∀ v, sh_sum K T i x y = (i, true, v) → post (f_lines, f_studied, f_wrong, f_wrongAt, f_brief, f_on, f_dropped, f_steps, f_nextLine, f_repeats, a_kinds, a_firsts, a_seconds, a_thirds, a_inputs, a_home, a_depth, a_closer, a_mate, a_operands, a_varies, a_parted, a_variableVaries, a_same, upd a_fixed i 1, upd a_worth i v, a_needed, a_variableNeeded, a_values, a_variables, a_outputs, a_cells, a_whole, a_waiting))
    (hz : sh_sum K T i x y = (i, false, 0) → post (f_lines, f_studied, f_wrong, f_wrongAt, f_brief, f_on, f_dropped, f_steps, f_nextLine, f_repeats, a_kinds, a_firsts, a_seconds, a_thirds, a_inputs, a_home, a_depth, a_closer, a_mate, a_operands, a_varies, a_parted, a_variableVaries, a_same, a_fixed, a_worth, a_needed, a_variableNeeded, a_values, a_variables, a_outputs, a_cells, a_whole, a_waiting)) : wX_shortenSum_28 post (nI i) (nI x) (nI y) f_lines f_studied f_wrong f_wrongAt f_brief f_on f_dropped f_steps f_nextLine f_repeats a_kinds a_firsts a_seconds a_thirds a_inputs a_home a_depth a_closer a_mate a_operands a_varies a_parted a_variableVaries a_same a_fixed a_worth a_needed a_variableNeeded a_values a_variables a_outputs a_cells a_whole a_waiting := by
  have ci : (nI i).toNatClampNeg = i := nI_clamp (by omega)
  have ii : vp_in (nI i) 48 := vp_in_nI (by omega) (by omega)
  have cx : (nI x).toNatClampNeg = x := nI_clamp (by omega)
  have ix : vp_in (nI x) 48 := vp_in_nI (by omega) (by omega)
  have cy : (nI y).toNatClampNeg = y := nI_clamp (by omega)
  have iy : vp_in (nI y) 48 := vp_in_nI (by omega) (by omega)
  obtain ⟨_, fx, wx⟩ := hR x hx
  obtain ⟨_, fy, wy⟩ := hR y hy
  unfold sh_sum at hc hm hz
  have t80 : ¬ ((T x).2.1 = true ∧ (T y).2.1 = true) → wX_shortenSum_80 post (nI i) (nI x) (nI y) f_lines f_studied f_wrong f_wrongAt f_brief f_on f_dropped f_steps f_nextLine f_repeats a_kinds a_firsts a_seconds a_thirds a_inputs a_home a_depth a_closer a_mate a_operands a_varies a_parted a_variableVaries a_same a_fixed a_worth a_needed a_variableNeeded a_values a_variables a_outputs a_cells a_whole a_waiting := by
    intro nf
    rw [if_neg nf] at hc hm hz
    have t138 : ¬ (((K i = 3 ∨ K i = 4) ∧ sh_is T y 0 = true) ∨ (K i = 5 ∧ sh_is T y 1 = true)) → ¬ ((K i = 3 ∧ sh_is T x 0 = true) ∨ (K i = 5 ∧ sh_is T x 1 = true)) → wX_shortenSum_138 post (nI i) (nI x) (nI y) f_lines f_studied f_wrong f_wrongAt f_brief f_on f_dropped f_steps f_nextLine f_repeats a_kinds a_firsts a_seconds a_thirds a_inputs a_home a_depth a_closer a_mate a_operands a_varies a_parted a_variableVaries a_same a_fixed a_worth a_needed a_variableNeeded a_values a_variables a_outputs a_cells a_whole a_waiting := by
      intro ny nx
      rw [if_neg nx, if_neg ny] at hc hm hz
      have t0 : ((K i = 5 ∧ (sh_is T x 0 = true ∨ sh_is T y 0 = true)) ∨ (x = y ∧ (K i = 4 ∨ K i = 6))) → wpX_fix (fun u => match u with | (f_lines, f_studied, f_wrong, f_wrongAt, f_brief, f_on, f_dropped, f_steps, f_nextLine, f_repeats, a_kinds, a_firsts, a_seconds, a_thirds, a_inputs, a_home, a_depth, a_closer, a_mate, a_operands, a_varies, a_parted, a_variableVaries, a_same, a_fixed, a_worth, a_needed, a_variableNeeded, a_values, a_variables, a_outputs, a_cells, a_whole, a_waiting) => (post (f_lines, f_studied, f_wrong, f_wrongAt, f_brief, f_on, f_dropped, f_steps, f_nextLine, f_repeats, a_kinds, a_firsts, a_seconds, a_thirds, a_inputs, a_home, a_depth, a_closer, a_mate, a_operands, a_varies, a_parted, a_variableVaries, a_same, a_fixed, a_worth, a_needed, a_variableNeeded, a_values, a_variables, a_outputs, a_cells, a_whole, a_waiting))) (f_lines, f_studied, f_wrong, f_wrongAt, f_brief, f_on, f_dropped, f_steps, f_nextLine, f_repeats, a_kinds, a_firsts, a_seconds, a_thirds, a_inputs, a_home, a_depth, a_closer, a_mate, a_operands, a_varies, a_parted, a_variableVaries, a_same, a_fixed, a_worth, a_needed, a_variableNeeded, a_values, a_variables, a_outputs, a_cells, a_whole, a_waiting) (nI i) 0 := fun h => by
        rw [if_pos h] at hm
        exact sx_fix (by omega) (hm 0 rfl)
      have t175 : ¬ (K i = 5 ∧ (sh_is T x 0 = true ∨ sh_is T y 0 = true)) → wX_shortenSum_175 post (nI i) (nI x) (nI y) f_lines f_studied f_wrong f_wrongAt f_brief f_on f_dropped f_steps f_nextLine f_repeats a_kinds a_firsts a_seconds a_thirds a_inputs a_home a_depth a_closer a_mate a_operands a_varies a_parted a_variableVaries a_same a_fixed a_worth a_needed a_variableNeeded a_values a_variables a_outputs a_cells a_whole a_waiting := by
        intro n5
        have t210 : ¬ (x = y ∧ (K i = 4 ∨ K i = 6)) → wX_shortenSum_210 post (nI i) (nI x) (nI y) f_lines f_studied f_wrong f_wrongAt f_brief f_on f_dropped f_steps f_nextLine f_repeats a_kinds a_firsts a_seconds a_thirds a_inputs a_home a_depth a_closer a_mate a_operands a_varies a_parted a_variableVaries a_same a_fixed a_worth a_needed a_variableNeeded a_values a_variables a_outputs a_cells a_whole a_waiting := by
          intro n46
          rw [if_neg (by rintro (h | h); exact n5 h; exact n46 h)] at hm hz
          refine pk_eq x y (fun e => ⟨ii, ?_⟩) (fun e => ?_)
          · rw [ci, hki]
            refine pk_eq (K i) 7 (fun h7 => ?_) (fun h7 => ?_)
            · rw [if_pos ⟨e, h7⟩] at hm
              exact sx_fix (by omega) (hm 1 rfl)
            · rw [if_neg (fun h => h7 h.2)] at hz
              exact hz rfl
          · rw [if_neg (fun h => e h.1)] at hz
            exact hz rfl
        refine pk_eq x y (fun e => ⟨ii, ?_⟩) (fun e => t210 (fun h => e h.1))
        rw [ci, hki]
        exact pk_eq (K i) 4 (fun h4 => t0 (Or.inr ⟨e, Or.inl h4⟩)) (fun h4 => ⟨ii, pk_eq (K i) 6 (fun h6 => t0 (Or.inr ⟨e, Or.inr h6⟩)) (fun h6 => t210 (fun h => h.2.elim h4 h6))⟩)
      refine ⟨ii, ?_⟩
      rw [ci, hki]
      refine pk_eq (K i) 5 (fun h5 => ?_) (fun h5 => t175 (fun h => h5 h.1))
      refine sx_isFixedAt (T := T) (by omega) fx wx (fun h => br_f (by decide) (t0 (Or.inl ⟨h5, Or.inl h⟩))) (fun h => br_t rfl ?_)
      refine sx_isFixedAt (T := T) (by omega) fy wy (fun h' => br_f (by decide) (t0 (Or.inl ⟨h5, Or.inr h'⟩))) (fun h' => br_t rfl (t175 ?_))
      rintro ⟨_, h2 | h2⟩
      · rw [h] at h2; cases h2
      · rw [h'] at h2; cases h2
    refine ⟨ii, ?_⟩
    rw [ci, hki]
    refine sx_leaves (T := T) (by omega) (by omega) fy wy (fun hl => br_f (by decide) ⟨ii, nm_r (e' := upd a_same i (nI x)) rfl (hc x hx ?_)⟩) (fun hl => br_t rfl ⟨ii, ?_⟩)
    · have nx : ¬ ((K i = 3 ∧ sh_is T x 0 = true) ∨ (K i = 5 ∧ sh_is T x 1 = true)) := by
        have Fy : (T y).2.1 = true := by
          rcases hl with ⟨_, h⟩ | ⟨_, h⟩
          · exact sh_is_F h
          · exact sh_is_F h
        rintro (⟨_, h⟩ | ⟨_, h⟩)
        · exact nf ⟨sh_is_F h, Fy⟩
        · exact nf ⟨sh_is_F h, Fy⟩
      rw [if_neg nx, if_pos hl]
    · refine pk_eq (K i) 4 (fun h4 => t138 hl (by omega)) (fun h4 => ⟨ii, ?_⟩)
      refine sx_leaves (T := T) (by omega) (by omega) fx wx (fun hlx => br_f (by decide) ⟨ii, nm_r (e' := upd a_same i (nI y)) rfl (hc y hy ?_)⟩) (fun hlx => br_t rfl (t138 hl ?_))
      · rw [if_pos]
        rcases hlx with ⟨h, h'⟩ | h
        · exact Or.inl ⟨by omega, h'⟩
        · exact Or.inr h
      · rintro (⟨h, h'⟩ | h)
        · exact hlx (Or.inl ⟨Or.inl h, h'⟩)
        · exact hlx (Or.inr h)
  refine ⟨ix, ?_⟩
  rw [cx, cy, fx, fy]
  refine br_c (fun hz' => t80 (fun h => by rw [sh_bI_0 hz'] at h; cases h.1)) (fun hz' => ⟨iy, br_c (fun hz2 => t80 (fun h => by rw [sh_bI_0 hz2] at h; cases h.2)) (fun hz2 => ⟨ii, ix, iy, ?_⟩)⟩)
  rw [if_pos ⟨sh_bI_n hz', sh_bI_n hz2⟩] at hm
  rw [ci, hki, wx, wy]
  exact sx_result h3 h9 (sx_fix (by omega) (hm _ rfl))
theorem sx_sum (hP : xv_P K n a_kinds a_firsts a_seconds a_thirds a_home a_mate a_operands) {post : SX → Prop} {i : Nat} (hi : i < n) (h3 : 3 ≤ K i) (h9 : K i ≤ 9) (hR : ∀ j, j < i → a_same j = nI (T j).1 ∧ a_fixed j = sh_bI (T j).2.1 ∧ a_worth j = (T j).2.2) (hg : ∀ j, j < i → (T j).1 ≤ j)
    (hc : ∀ t, t < i → sh_1 K a_firsts a_seconds a_thirds T i = (t, (T t).2) → post (f_lines, f_studied, f_wrong, f_wrongAt, f_brief, f_on, f_dropped, f_steps, f_nextLine, f_repeats, a_kinds, a_firsts, a_seconds, a_thirds, a_inputs, a_home, a_depth, a_closer, a_mate, a_operands, a_varies, a_parted, a_variableVaries, upd a_same i (nI t), a_fixed, a_worth, a_needed, a_variableNeeded, a_values, a_variables, a_outputs, a_cells, a_whole, a_waiting))
    (hm : ∀ v, sh_1 K a_firsts a_seconds a_thirds T i = (i, true, v) → post (f_lines, f_studied, f_wrong, f_wrongAt, f_brief, f_on, f_dropped, f_steps, f_nextLine, f_repeats, a_kinds, a_firsts, a_seconds, a_thirds, a_inputs, a_home, a_depth, a_closer, a_mate, a_operands, a_varies, a_parted, a_variableVaries, a_same, upd a_fixed i 1, upd a_worth i v, a_needed, a_variableNeeded, a_values, a_variables, a_outputs, a_cells, a_whole, a_waiting))
    (hz : sh_1 K a_firsts a_seconds a_thirds T i = (i, false, 0) → post (f_lines, f_studied, f_wrong, f_wrongAt, f_brief, f_on, f_dropped, f_steps, f_nextLine, f_repeats, a_kinds, a_firsts, a_seconds, a_thirds, a_inputs, a_home, a_depth, a_closer, a_mate, a_operands, a_varies, a_parted, a_variableVaries, a_same, a_fixed, a_worth, a_needed, a_variableNeeded, a_values, a_variables, a_outputs, a_cells, a_whole, a_waiting)) : wpX_shortenSum post (f_lines, f_studied, f_wrong, f_wrongAt, f_brief, f_on, f_dropped, f_steps, f_nextLine, f_repeats, a_kinds, a_firsts, a_seconds, a_thirds, a_inputs, a_home, a_depth, a_closer, a_mate, a_operands, a_varies, a_parted, a_variableVaries, a_same, a_fixed, a_worth, a_needed, a_variableNeeded, a_values, a_variables, a_outputs, a_cells, a_whole, a_waiting) (nI i) := by
  obtain ⟨hn, hK, hgd, h4, hok, hH, hO⟩ := hP
  have ci : (nI i).toNatClampNeg = i := nI_clamp (by omega)
  have ii : vp_in (nI i) 48 := vp_in_nI (by omega) (by omega)
  have S : ∀ j, j < i → a_same j = nI (T j).1 := fun j hj => (hR j hj).1
  have u0 : sc_us (K i) 0 := by unfold sc_us; omega
  have o0 := (sh_ov_lt (by omega) (hok i hi 0 (by omega) u0)).1
  have g0 := hg _ o0
  have e1 : sh_1 K a_firsts a_seconds a_thirds T i = sh_sum K T i (T (sh_o a_firsts a_seconds a_thirds 0 i)).1 (if K i = 9 then (T (sh_o a_firsts a_seconds a_thirds 0 i)).1 else (T (sh_o a_firsts a_seconds a_thirds 1 i)).1) := by
    unfold sh_1; rw [if_neg (by omega), if_neg (by omega), if_pos ⟨h3, h9⟩]
  rw [e1] at hc hm hz
  unfold wpX_shortenSum
  refine sx_stands (K := K) (T := T) (s := 0) hn hi (Nat.le_refl _) (by omega) (hO i hi) (hok i hi) S ?_
  refine ⟨ii, ?_⟩
  rw [sh_v_u u0, ci, (hK i hi).1]
  refine pk_eq (K i) 9 (fun e9 => ?_) (fun e9 => ?_)
  · rw [if_pos e9] at hc hm hz
    exact sx_sum28 (K := K) (T := T) hn hi (hK i hi).1 h3 h9 (by omega) (by omega) hR hc hm hz
  · have u1 : sc_us (K i) 1 := by unfold sc_us; omega
    have o1 := (sh_ov_lt (by omega) (hok i hi 1 (by omega) u1)).1
    have g1 := hg _ o1
    rw [if_neg e9] at hc hm hz
    refine sx_stands (K := K) (T := T) (s := 1) hn hi (Nat.le_refl _) (by omega) (hO i hi) (hok i hi) S ?_
    rw [sh_v_u u1]
    exact sx_sum28 (K := K) (T := T) hn hi (hK i hi).1 h3 h9 (by omega) (by omega) hR hc hm hz
theorem sx_pick (hP : xv_P K n a_kinds a_firsts a_seconds a_thirds a_home a_mate a_operands) {post : SX → Prop} {i : Nat} (hi : i < n) (h10 : K i = 10) (hR : ∀ j, j < i → a_same j = nI (T j).1 ∧ a_fixed j = sh_bI (T j).2.1 ∧ a_worth j = (T j).2.2) (hg : ∀ j, j < i → (T j).1 ≤ j)
    (hc : ∀ t, t < i → sh_1 K a_firsts a_seconds a_thirds T i = (t, (T t).2) → post (f_lines, f_studied, f_wrong, f_wrongAt, f_brief, f_on, f_dropped, f_steps, f_nextLine, f_repeats, a_kinds, a_firsts, a_seconds, a_thirds, a_inputs, a_home, a_depth, a_closer, a_mate, a_operands, a_varies, a_parted, a_variableVaries, upd a_same i (nI t), a_fixed, a_worth, a_needed, a_variableNeeded, a_values, a_variables, a_outputs, a_cells, a_whole, a_waiting))
    (hz : sh_1 K a_firsts a_seconds a_thirds T i = (i, false, 0) → post (f_lines, f_studied, f_wrong, f_wrongAt, f_brief, f_on, f_dropped, f_steps, f_nextLine, f_repeats, a_kinds, a_firsts, a_seconds, a_thirds, a_inputs, a_home, a_depth, a_closer, a_mate, a_operands, a_varies, a_parted, a_variableVaries, a_same, a_fixed, a_worth, a_needed, a_variableNeeded, a_values, a_variables, a_outputs, a_cells, a_whole, a_waiting)) : wpX_shortenPick post (f_lines, f_studied, f_wrong, f_wrongAt, f_brief, f_on, f_dropped, f_steps, f_nextLine, f_repeats, a_kinds, a_firsts, a_seconds, a_thirds, a_inputs, a_home, a_depth, a_closer, a_mate, a_operands, a_varies, a_parted, a_variableVaries, a_same, a_fixed, a_worth, a_needed, a_variableNeeded, a_values, a_variables, a_outputs, a_cells, a_whole, a_waiting) (nI i) := by
  obtain ⟨hn, hK, hgd, h4, hok, hH, hO⟩ := hP
  have ci : (nI i).toNatClampNeg = i := nI_clamp (by omega)
  have ii : vp_in (nI i) 48 := vp_in_nI (by omega) (by omega)
  have S : ∀ j, j < i → a_same j = nI (T j).1 := fun j hj => (hR j hj).1
  have u0 : sc_us (K i) 0 := by unfold sc_us; omega
  have u1 : sc_us (K i) 1 := by unfold sc_us; omega
  have u2 : sc_us (K i) 2 := by unfold sc_us; omega
  have o0 := (sh_ov_lt (by omega) (hok i hi 0 (by omega) u0)).1
  have o1 := (sh_ov_lt (by omega) (hok i hi 1 (by omega) u1)).1
  have o2 := (sh_ov_lt (by omega) (hok i hi 2 (by omega) u2)).1
  have g0 := hg _ o0
  have g1 := hg _ o1
  have g2 := hg _ o2
  have e1 : sh_1 K a_firsts a_seconds a_thirds T i = sh_pick T i (T (sh_o a_firsts a_seconds a_thirds 0 i)).1 (T (sh_o a_firsts a_seconds a_thirds 1 i)).1 (T (sh_o a_firsts a_seconds a_thirds 2 i)).1 := by
    unfold sh_1; rw [if_neg (by omega), if_pos h10]
  rw [e1] at hc hz
  unfold sh_pick at hc hz
  unfold wpX_shortenPick
  refine sx_stands (K := K) (T := T) (s := 0) hn hi (Nat.le_refl _) (by omega) (hO i hi) (hok i hi) S ?_
  refine sx_stands (K := K) (T := T) (s := 1) hn hi (Nat.le_refl _) (by omega) (hO i hi) (hok i hi) S ?_
  refine sx_stands (K := K) (T := T) (s := 2) hn hi (Nat.le_refl _) (by omega) (hO i hi) (hok i hi) S ?_
  rw [sh_v_u u0, sh_v_u u1, sh_v_u u2]
  generalize (T (sh_o a_firsts a_seconds a_thirds 0 i)).1 = x at *
  generalize (T (sh_o a_firsts a_seconds a_thirds 1 i)).1 = y at *
  generalize (T (sh_o a_firsts a_seconds a_thirds 2 i)).1 = z at *
  have cx : (nI x).toNatClampNeg = x := nI_clamp (by omega)
  have ix : vp_in (nI x) 48 := vp_in_nI (by omega) (by omega)
  obtain ⟨_, fx, wx⟩ := hR x (by omega)
  refine ⟨ix, ?_⟩
  rw [cx, ci, fx, wx]
  refine br_c (fun hf => ?_) (fun hf => ⟨ix, ?_⟩)
  · rw [if_neg (by rw [sh_bI_0 hf]; decide)] at hz
    have hc' := hc y (by omega)
    rw [if_neg (by rw [sh_bI_0 hf]; decide)] at hc'
    refine pk_eq y z (fun e => ⟨ii, nm_r (e' := upd a_same i (nI y)) rfl ?_⟩) (fun e => ?_)
    · rw [if_pos e] at hc'; exact hc' rfl
    · rw [if_neg e] at hz; exact hz rfl
  · refine br_c (fun h0 => ⟨ii, nm_r (e' := upd a_same i (nI z)) rfl ?_⟩) (fun h0 => ⟨ii, nm_r (e' := upd a_same i (nI y)) rfl ?_⟩)
    · have hc' := hc z (by omega)
      rw [if_pos (sh_bI_n hf), if_pos h0] at hc'
      exact hc' rfl
    · have hc' := hc y (by omega)
      rw [if_pos (sh_bI_n hf), if_neg h0] at hc'
      exact hc' rfl
end
