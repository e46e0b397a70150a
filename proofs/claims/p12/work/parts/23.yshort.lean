section
variable {K : Nat → Nat} {n : Nat} {T : Nat → Nat × Bool × Int32}
variable {f_lines f_known f_wrong f_place f_blocks f_steps f_dropped f_on f_next f_again f_depth : Int32} {a_ops a_as a_bs a_cs a_blockOf a_opener a_around a_other a_end a_open a_varied a_loose a_variedVariable a_stands a_number a_isConst a_needed a_inputs a_values a_variables a_cells a_outs a_was a_rest a_line : Nat → Int32}
theorem sy_narb (b : Bool) : vp_nar .boolean (sh_bI b) = sh_bI b := by cases b <;> decide
theorem sy_copy {post : SY → Prop} {i x : Nat} {F : Bool} {N : Int32} (hi : i < 48) (hx : x < 48) (hne : x ≠ i) (hf : a_isConst x = sh_bI F) (hw : a_number x = N) (h : post (f_lines, f_known, f_wrong, f_place, f_blocks, f_steps, f_dropped, f_on, f_next, f_again, f_depth, a_ops, a_as, a_bs, a_cs, a_blockOf, a_opener, a_around, a_other, a_end, a_open, a_varied, a_loose, a_variedVariable, upd a_stands i (nI x), upd a_number i N, upd a_isConst i (sh_bI F), a_needed, a_inputs, a_values, a_variables, a_cells, a_outs, a_was, a_rest, a_line)) : wpY_copy post (f_lines, f_known, f_wrong, f_place, f_blocks, f_steps, f_dropped, f_on, f_next, f_again, f_depth, a_ops, a_as, a_bs, a_cs, a_blockOf, a_opener, a_around, a_other, a_end, a_open, a_varied, a_loose, a_variedVariable, a_stands, a_number, a_isConst, a_needed, a_inputs, a_values, a_variables, a_cells, a_outs, a_was, a_rest, a_line) (nI i) (nI x) := by
  have ci : (nI i).toNatClampNeg = i := nI_clamp (by omega)
  have ii : vp_in (nI i) 48 := vp_in_nI hi (by omega)
  have cx : (nI x).toNatClampNeg = x := nI_clamp (by omega)
  have ix : vp_in (nI x) 48 := vp_in_nI hx (by omega)
  exact ⟨ii, nm_r (by rw [ci]) ⟨ix, ii, nm_r (by rw [ci, cx, hf, sy_narb]) ⟨ix, ii, nm_r (by rw [ci, cx, hw]) h⟩⟩⟩
theorem sy_make {post : SY → Prop} {i : Nat} {v : Int32} (hi : i < 48) (h : post (f_lines, f_known, f_wrong, f_place, f_blocks, f_steps, f_dropped, f_on, f_next, f_again, f_depth, a_ops, a_as, a_bs, a_cs, a_blockOf, a_opener, a_around, a_other, a_end, a_open, a_varied, a_loose, a_variedVariable, a_stands, upd a_number i v, upd a_isConst i 1, a_needed, a_inputs, a_values, a_variables, a_cells, a_outs, a_was, a_rest, a_line)) : wpY_make post (f_lines, f_known, f_wrong, f_place, f_blocks, f_steps, f_dropped, f_on, f_next, f_again, f_depth, a_ops, a_as, a_bs, a_cs, a_blockOf, a_opener, a_around, a_other, a_end, a_open, a_varied, a_loose, a_variedVariable, a_stands, a_number, a_isConst, a_needed, a_inputs, a_values, a_variables, a_cells, a_outs, a_was, a_rest, a_line) (nI i) v := by
  have ci : (nI i).toNatClampNeg = i := nI_clamp (by omega)
  have ii : vp_in (nI i) 48 := vp_in_nI hi (by omega)
  exact ⟨ii, nm_r (by rw [ci, xv_nar1]) ⟨ii, nm_r (by rw [ci]) h⟩⟩
theorem sy_is {post : Int32 → Prop} {x : Nat} {v : Int32} (hx : x < 48) (hf : a_isConst x = sh_bI (T x).2.1) (hw : a_number x = (T x).2.2) (h1 : sh_is T x v = true → post 1) (h0 : sh_is T x v = false → post 0) : wpY_is post (f_lines, f_known, f_wrong, f_place, f_blocks, f_steps, f_dropped, f_on, f_next, f_again, f_depth, a_ops, a_as, a_bs, a_cs, a_blockOf, a_opener, a_around, a_other, a_end, a_open, a_varied, a_loose, a_variedVariable, a_stands, a_number, a_isConst, a_needed, a_inputs, a_values, a_variables, a_cells, a_outs, a_was, a_rest, a_line) (nI x) v := by
  have ci : (nI x).toNatClampNeg = x := nI_clamp (by omega)
  have ii : vp_in (nI x) 48 := vp_in_nI hx (by omega)
  refine ⟨ii, ?_⟩
  rw [ci, hf, hw]
  refine br_c (fun hz => h0 ?_) (fun hz => ⟨ii, br_c (fun he => h1 ?_) (fun he => h0 ?_)⟩)
  · unfold sh_is; rw [sh_bI_0 hz]; rfl
  · unfold sh_is; rw [sh_bI_n hz, he]; simp
  · unfold sh_is; rw [sh_bI_n hz]; simp [he]
theorem sy_reckon {post : Int32 → Prop} {k : Nat} {x y : Int32} (h3 : 3 ≤ k) (h9 : k ≤ 9) (h : post (sh_rk k x y)) : wpY_reckon post (nI k) x y := sx_result (k := k) h3 h9 h
/-- ADD to NOT of x and y -/
theorem sy_sum (hn : n ≤ 48) {post : SY → Prop} {i x y : Nat} {z : Int32} (hi : i < n) (h3 : 3 ≤ K i) (h9 : K i ≤ 9) (hx : x < i) (hy : y < i) (hR : ∀ j, j < i → a_stands j = nI (T j).1 ∧ a_isConst j = sh_bI (T j).2.1 ∧ a_number j = (T j).2.2)
    (hc : ∀ t, t < i → sh_sum K T i x y = (t, (T t).2) → post (f_lines, f_known, f_wrong, f_place, f_blocks, f_steps, f_dropped, f_on, f_next, f_again, f_depth, a_ops, a_as, a_bs, a_cs, a_blockOf, a_opener, a_around, a_other, a_end, a_open, a_varied, a_loose, a_variedVariable, upd a_stands i (nI t), upd a_number i (T t).2.2, upd a_isConst i (sh_bI (T t).2.1), a_needed, a_inputs, a_values, a_variables, a_cells, a_outs, a_was, a_rest, a_line))
    (hm : ∀ v, sh_sum K T i x y = (i, true, v) → post (f_lines, f_known, f_wrong, f_place, f_blocks, f_steps, f_dropped, f_on, f_next, f_again, f_depth, a_ops, a_as, a_bs, a_cs, a_blockOf, a_opener, a_around, a_other, a_end, a_open, a_varied, a_loose, a_variedVariable, a_stands, upd a_number i v, upd a_isConst i 1, a_needed, a_inputs, a_values, a_variables, a_cells, a_outs, a_was, a_rest, a_line))
    (hz : sh_sum K T i x y = (i, false, 0) → post (f_lines, f_known, f_wrong, f_place, f_blocks, f_steps, f_dropped, f_on, f_next, f_again, f_depth, a_ops, a_as, a_bs, a_cs, a_blockOf, a_opener, a_around, a_other, a_end, a_open, a_varied, a_loose, a_variedVariable, a_stands, a_number, a_isConst, a_needed, a_inputs, a_values, a_variables, a_cells, a_outs, a_was, a_rest, a_line)) : wY_simplify_63 post (nI i) (nI (K i)) (nI x) (nI y) z f_lines f_known f_wrong f_place f_blocks f_steps f_dropped f_on f_next f_again f_depth a_ops a_as a_bs a_cs a_blockOf a_opener a_around a_other a_end a_open a_varied a_loose a_variedVariable a_stands a_number a_isConst a_needed a_inputs a_values a_variables a_cells a_outs a_was a_rest a_line := by
  have cx : (nI x).toNatClampNeg = x := nI_clamp (by omega)
  have ix : vp_in (nI x) 48 := vp_in_nI (by omega) (by omega)
  have cy : (nI y).toNatClampNeg = y := nI_clamp (by omega)
  have iy : vp_in (nI y) 48 := vp_in_nI (by omega) (by omega)
  obtain ⟨_, fx, wx⟩ := hR x hx
  obtain ⟨_, fy, wy⟩ := hR y hy
  unfold sh_sum at hc hm hz
  have cpx : (∀ hh : sh_sum K T i x y = sh_sum K T i x y, True) → True := fun _ => trivial
  have t165 : ¬ ((T x).2.1 = true ∧ (T y).2.1 = true) → wY_simplify_165 post (nI i) (nI (K i)) (nI x) (nI y) f_lines f_known f_wrong f_place f_blocks f_steps f_dropped f_on f_next f_again f_depth a_ops a_as a_bs a_cs a_blockOf a_opener a_around a_other a_end a_open a_varied a_loose a_variedVariable a_stands a_number a_isConst a_needed a_inputs a_values a_variables a_cells a_outs a_was a_rest a_line := by
    intro nf
    rw [if_neg nf] at hm hz
    have hc1 : ∀ t, t < i → (if (K i = 3 ∧ sh_is T x 0 = true) ∨ (K i = 5 ∧ sh_is T x 1 = true) then (y, (T y).2) else if ((K i = 3 ∨ K i = 4) ∧ sh_is T y 0 = true) ∨ (K i = 5 ∧ sh_is T y 1 = true) then (x, (T x).2) else if (K i = 5 ∧ (sh_is T x 0 = true ∨ sh_is T y 0 = true)) ∨ (x = y ∧ (K i = 4 ∨ K i = 6)) then (i, true, 0) else if x = y ∧ K i = 7 then (i, true, 1) else (i, false, 0)) = (t, (T t).2) → post (f_lines, f_known, f_wrong, f_place, f_blocks, f_steps, f_dropped, f_on, f_next, f_again, f_depth, a_ops, a_as, a_bs, a_cs, a_blockOf, a_opener, a_around, a_other, a_end, a_open, a_varied, a_loose, a_variedVariable, upd a_stands i (nI t), upd a_number i (T t).2.2, upd a_isConst i (sh_bI (T t).2.1), a_needed, a_inputs, a_values, a_variables, a_cells, a_outs, a_was, a_rest, a_line) := by
      intro t ht e
      refine hc t ht ?_
      rw [if_neg nf]; exact e
    have c193 : ((K i = 3 ∧ sh_is T x 0 = true) ∨ (K i = 5 ∧ sh_is T x 1 = true)) → wY_simplify_193 post (nI i) (nI y) f_lines f_known f_wrong f_place f_blocks f_steps f_dropped f_on f_next f_again f_depth a_ops a_as a_bs a_cs a_blockOf a_opener a_around a_other a_end a_open a_varied a_loose a_variedVariable a_stands a_number a_isConst a_needed a_inputs a_values a_variables a_cells a_outs a_was a_rest a_line := fun h =>
      sy_copy (by omega) (by omega) (by omega) fy wy (hc1 y hy (by rw [if_pos h]))
    have c203 : ¬ ((K i = 3 ∧ sh_is T x 0 = true) ∨ (K i = 5 ∧ sh_is T x 1 = true)) → wY_simplify_203 post (nI i) (nI (K i)) (nI x) (nI y) f_lines f_known f_wrong f_place f_blocks f_steps f_dropped f_on f_next f_again f_depth a_ops a_as a_bs a_cs a_blockOf a_opener a_around a_other a_end a_open a_varied a_loose a_variedVariable a_stands a_number a_isConst a_needed a_inputs a_values a_variables a_cells a_outs a_was a_rest a_line := by
      intro nx
      rw [if_neg nx] at hm hz
      have c238 : (((K i = 3 ∨ K i = 4) ∧ sh_is T y 0 = true) ∨ (K i = 5 ∧ sh_is T y 1 = true)) → wY_simplify_238 post (nI i) (nI x) f_lines f_known f_wrong f_place f_blocks f_steps f_dropped f_on f_next f_again f_depth a_ops a_as a_bs a_cs a_blockOf a_opener a_around a_other a_end a_open a_varied a_loose a_variedVariable a_stands a_number a_isConst a_needed a_inputs a_values a_variables a_cells a_outs a_was a_rest a_line := fun h =>
        sy_copy (by omega) (by omega) (by omega) fx wx (hc1 x hx (by rw [if_neg nx, if_pos h]))
      have c247 : ¬ (((K i = 3 ∨ K i = 4) ∧ sh_is T y 0 = true) ∨ (K i = 5 ∧ sh_is T y 1 = true)) → wY_simplify_247 post (nI i) (nI (K i)) (nI x) (nI y) f_lines f_known f_wrong f_place f_blocks f_steps f_dropped f_on f_next f_again f_depth a_ops a_as a_bs a_cs a_blockOf a_opener a_around a_other a_end a_open a_varied a_loose a_variedVariable a_stands a_number a_isConst a_needed a_inputs a_values a_variables a_cells a_outs a_was a_rest a_line := by
        intro ny
        rw [if_neg ny] at hm hz
        have c288 : ((K i = 5 ∧ (sh_is T x 0 = true ∨ sh_is T y 0 = true)) ∨ (x = y ∧ (K i = 4 ∨ K i = 6))) → wY_simplify_288 post (nI i) f_lines f_known f_wrong f_place f_blocks f_steps f_dropped f_on f_next f_again f_depth a_ops a_as a_bs a_cs a_blockOf a_opener a_around a_other a_end a_open a_varied a_loose a_variedVariable a_stands a_number a_isConst a_needed a_inputs a_values a_variables a_cells a_outs a_was a_rest a_line := fun h => by
          rw [if_pos h] at hm
          exact sy_make (by omega) (hm 0 rfl)
        have c271 : ¬ (K i = 5 ∧ (sh_is T x 0 = true ∨ sh_is T y 0 = true)) → wY_simplify_271 post (nI i) (nI (K i)) (nI x) (nI y) f_lines f_known f_wrong f_place f_blocks f_steps f_dropped f_on f_next f_again f_depth a_ops a_as a_bs a_cs a_blockOf a_opener a_around a_other a_end a_open a_varied a_loose a_variedVariable a_stands a_number a_isConst a_needed a_inputs a_values a_variables a_cells a_outs a_was a_rest a_line := by
          intro n5
          have c297 : ¬ (x = y ∧ (K i = 4 ∨ K i = 6)) → wY_simplify_297 post (nI i) (nI (K i)) (nI x) (nI y) f_lines f_known f_wrong f_place f_blocks f_steps f_dropped f_on f_next f_again f_depth a_ops a_as a_bs a_cs a_blockOf a_opener a_around a_other a_end a_open a_varied a_loose a_variedVariable a_stands a_number a_isConst a_needed a_inputs a_values a_variables a_cells a_outs a_was a_rest a_line := by
            intro n46
            rw [if_neg (by rintro (h | h); exact n5 h; exact n46 h)] at hm hz
            refine pk_eq x y (fun e => pk_eq (K i) 7 (fun h7 => ?_) (fun h7 => ?_)) (fun e => ?_)
            · rw [if_pos ⟨e, h7⟩] at hm
              exact sy_make (by omega) (hm 1 rfl)
            · rw [if_neg (fun h => h7 h.2)] at hz
              exact hz rfl
            · rw [if_neg (fun h => e h.1)] at hz
              exact hz rfl
          exact pk_eq x y (fun e => pk_eq (K i) 4 (fun h4 => c288 (Or.inr ⟨e, Or.inl h4⟩)) (fun h4 => pk_eq (K i) 6 (fun h6 => c288 (Or.inr ⟨e, Or.inr h6⟩)) (fun h6 => c297 (fun h => h.2.elim h4 h6)))) (fun e => c297 (fun h => e h.1))
        refine pk_eq (K i) 5 (fun h5 => ?_) (fun h5 => c271 (fun h => h5 h.1))
        refine sy_is (T := T) (by omega) fx wx (fun h => br_f (by decide) (c288 (Or.inl ⟨h5, Or.inl h⟩))) (fun h => br_t rfl ?_)
        refine sy_is (T := T) (by omega) fy wy (fun h' => br_f (by decide) (c288 (Or.inl ⟨h5, Or.inr h'⟩))) (fun h' => br_t rfl (c271 ?_))
        rintro ⟨_, h2 | h2⟩
        · rw [h] at h2; cases h2
        · rw [h'] at h2; cases h2
      have c223 : ¬ ((K i = 3 ∨ K i = 4) ∧ sh_is T y 0 = true) → wY_simplify_223 post (nI i) (nI (K i)) (nI x) (nI y) f_lines f_known f_wrong f_place f_blocks f_steps f_dropped f_on f_next f_again f_depth a_ops a_as a_bs a_cs a_blockOf a_opener a_around a_other a_end a_open a_varied a_loose a_variedVariable a_stands a_number a_isConst a_needed a_inputs a_values a_variables a_cells a_outs a_was a_rest a_line := by
        intro n34
        refine pk_eq (K i) 5 (fun h5 => ?_) (fun h5 => c247 (by rintro (h | ⟨h, _⟩); exact n34 h; exact h5 h))
        exact sy_is (T := T) (by omega) fy wy (fun h => br_f (by decide) (c238 (Or.inr ⟨h5, h⟩))) (fun h => br_t rfl (c247 (by
          rintro (h' | ⟨_, h'⟩)
          · exact n34 h'
          · rw [h] at h'; cases h')))
      have c213 : (K i = 3 ∨ K i = 4) → wY_simplify_213 post (nI i) (nI (K i)) (nI x) (nI y) f_lines f_known f_wrong f_place f_blocks f_steps f_dropped f_on f_next f_again f_depth a_ops a_as a_bs a_cs a_blockOf a_opener a_around a_other a_end a_open a_varied a_loose a_variedVariable a_stands a_number a_isConst a_needed a_inputs a_values a_variables a_cells a_outs a_was a_rest a_line := fun h34 =>
        sy_is (T := T) (by omega) fy wy (fun h => br_f (by decide) (c238 (Or.inl ⟨h34, h⟩))) (fun h => br_t rfl (c223 (fun h' => by rw [h] at h'; cases h'.2)))
      exact pk_eq (K i) 3 (fun h => c213 (Or.inl h)) (fun h => pk_eq (K i) 4 (fun h => c213 (Or.inr h)) (fun h' => c223 (by omega)))
    have c179 : ¬ (K i = 3 ∧ sh_is T x 0 = true) → wY_simplify_179 post (nI i) (nI (K i)) (nI x) (nI y) f_lines f_known f_wrong f_place f_blocks f_steps f_dropped f_on f_next f_again f_depth a_ops a_as a_bs a_cs a_blockOf a_opener a_around a_other a_end a_open a_varied a_loose a_variedVariable a_stands a_number a_isConst a_needed a_inputs a_values a_variables a_cells a_outs a_was a_rest a_line := by
      intro n3
      refine pk_eq (K i) 5 (fun h5 => ?_) (fun h5 => c203 (by rintro (h | ⟨h, _⟩); exact n3 h; exact h5 h))
      exact sy_is (T := T) (by omega) fx wx (fun h => br_f (by decide) (c193 (Or.inr ⟨h5, h⟩))) (fun h => br_t rfl (c203 (by
        rintro (h' | ⟨_, h'⟩)
        · exact n3 h'
        · rw [h] at h'; cases h')))
    refine pk_eq (K i) 3 (fun h5 => ?_) (fun h5 => c179 (fun h => h5 h.1))
    exact sy_is (T := T) (by omega) fx wx (fun h => br_f (by decide) (c193 (Or.inl ⟨h5, h⟩))) (fun h => br_t rfl (c179 (fun h' => by rw [h] at h'; cases h'.2)))
  refine pk_eq (K i) 10 (fun h => absurd h (by omega)) (fun _ => ⟨ix, ?_⟩)
  rw [cx, cy, fx, fy]
  refine br_c (fun hz' => t165 (fun h => by rw [sh_bI_0 hz'] at h; cases h.1)) (fun hz' => ⟨iy, br_c (fun hz2 => t165 (fun h => by rw [sh_bI_0 hz2] at h; cases h.2)) (fun hz2 => ⟨ix, iy, ?_⟩)⟩)
  rw [if_pos ⟨sh_bI_n hz', sh_bI_n hz2⟩] at hm
  rw [wx, wy]
  exact sy_reckon h3 h9 (sy_make (by omega) (hm _ rfl))
theorem sy_pick (hn : n ≤ 48) {post : SY → Prop} {i x y z : Nat} (hi : i < n) (h10 : K i = 10) (hx : x < i) (hy : y < i) (hzi : z < i) (hR : ∀ j, j < i → a_stands j = nI (T j).1 ∧ a_isConst j = sh_bI (T j).2.1 ∧ a_number j = (T j).2.2)
    (hc : ∀ t, t < i → sh_pick T i x y z = (t, (T t).2) → post (f_lines, f_known, f_wrong, f_place, f_blocks, f_steps, f_dropped, f_on, f_next, f_again, f_depth, a_ops, a_as, a_bs, a_cs, a_blockOf, a_opener, a_around, a_other, a_end, a_open, a_varied, a_loose, a_variedVariable, upd a_stands i (nI t), upd a_number i (T t).2.2, upd a_isConst i (sh_bI (T t).2.1), a_needed, a_inputs, a_values, a_variables, a_cells, a_outs, a_was, a_rest, a_line))
    (hz : sh_pick T i x y z = (i, false, 0) → post (f_lines, f_known, f_wrong, f_place, f_blocks, f_steps, f_dropped, f_on, f_next, f_again, f_depth, a_ops, a_as, a_bs, a_cs, a_blockOf, a_opener, a_around, a_other, a_end, a_open, a_varied, a_loose, a_variedVariable, a_stands, a_number, a_isConst, a_needed, a_inputs, a_values, a_variables, a_cells, a_outs, a_was, a_rest, a_line)) : wY_simplify_63 post (nI i) (nI (K i)) (nI x) (nI y) (nI z) f_lines f_known f_wrong f_place f_blocks f_steps f_dropped f_on f_next f_again f_depth a_ops a_as a_bs a_cs a_blockOf a_opener a_around a_other a_end a_open a_varied a_loose a_variedVariable a_stands a_number a_isConst a_needed a_inputs a_values a_variables a_cells a_outs a_was a_rest a_line := by
  have cx : (nI x).toNatClampNeg = x := nI_clamp (by omega)
  have ix : vp_in (nI x) 48 := vp_in_nI (by omega) (by omega)
  obtain ⟨_, fx, wx⟩ := hR x hx
  obtain ⟨_, fy, wy⟩ := hR y hy
  obtain ⟨_, fz, wz⟩ := hR z hzi
  unfold sh_pick at hc hz
  refine pk_eq (K i) 10 (fun _ => ⟨ix, ?_⟩) (fun h => absurd h10 h)
  rw [cx, fx, wx]
  refine br_c (fun hf => ?_) (fun hf => ⟨ix, ?_⟩)
  · rw [if_neg (by rw [sh_bI_0 hf]; decide)] at hz
    have hc' := hc y hy
    rw [if_neg (by rw [sh_bI_0 hf]; decide)] at hc'
    refine pk_eq y z (fun e => ?_) (fun e => ?_)
    · rw [if_pos e] at hc'
      exact sy_copy (by omega) (by omega) (by omega) fy wy (hc' rfl)
    · rw [if_neg e] at hz; exact hz rfl
  · refine br_c (fun h0 => ?_) (fun h0 => ?_)
    · have hc' := hc z hzi
      rw [if_pos (sh_bI_n hf), if_pos h0] at hc'
      exact sy_copy (by omega) (by omega) (by omega) fz wz (hc' rfl)
    · have hc' := hc y hy
      rw [if_pos (sh_bI_n hf), if_neg h0] at hc'
      exact sy_copy (by omega) (by omega) (by omega) fy wy (hc' rfl)
theorem sy_simplify (hP : yv_P K n a_ops a_as a_bs a_cs a_blockOf a_opener a_around) {post : SY → Prop} {i : Nat} (hi : i < n) (h3 : 3 ≤ K i) (h10 : K i ≤ 10) (hR : ∀ j, j < i → a_stands j = nI (T j).1 ∧ a_isConst j = sh_bI (T j).2.1 ∧ a_number j = (T j).2.2) (hg : ∀ j, j < i → (T j).1 ≤ j)
    (hc : ∀ t, t < i → sh_1 K a_as a_bs a_cs T i = (t, (T t).2) → post (f_lines, f_known, f_wrong, f_place, f_blocks, f_steps, f_dropped, f_on, f_next, f_again, f_depth, a_ops, a_as, a_bs, a_cs, a_blockOf, a_opener, a_around, a_other, a_end, a_open, a_varied, a_loose, a_variedVariable, upd a_stands i (nI t), upd a_number i (T t).2.2, upd a_isConst i (sh_bI (T t).2.1), a_needed, a_inputs, a_values, a_variables, a_cells, a_outs, a_was, a_rest, a_line))
    (hm : ∀ v, sh_1 K a_as a_bs a_cs T i = (i, true, v) → post (f_lines, f_known, f_wrong, f_place, f_blocks, f_steps, f_dropped, f_on, f_next, f_again, f_depth, a_ops, a_as, a_bs, a_cs, a_blockOf, a_opener, a_around, a_other, a_end, a_open, a_varied, a_loose, a_variedVariable, a_stands, upd a_number i v, upd a_isConst i 1, a_needed, a_inputs, a_values, a_variables, a_cells, a_outs, a_was, a_rest, a_line))
    (hz : sh_1 K a_as a_bs a_cs T i = (i, false, 0) → post (f_lines, f_known, f_wrong, f_place, f_blocks, f_steps, f_dropped, f_on, f_next, f_again, f_depth, a_ops, a_as, a_bs, a_cs, a_blockOf, a_opener, a_around, a_other, a_end, a_open, a_varied, a_loose, a_variedVariable, a_stands, a_number, a_isConst, a_needed, a_inputs, a_values, a_variables, a_cells, a_outs, a_was, a_rest, a_line)) : wpY_simplify post (f_lines, f_known, f_wrong, f_place, f_blocks, f_steps, f_dropped, f_on, f_next, f_again, f_depth, a_ops, a_as, a_bs, a_cs, a_blockOf, a_opener, a_around, a_other, a_end, a_open, a_varied, a_loose, a_variedVariable, a_stands, a_number, a_isConst, a_needed, a_inputs, a_values, a_variables, a_cells, a_outs, a_was, a_rest, a_line) (nI i) := by
  obtain ⟨hn, hK, hgd, h4, hok, hB, hA⟩ := hP
  have ci : (nI i).toNatClampNeg = i := nI_clamp (by omega)
  have ii : vp_in (nI i) 48 := vp_in_nI (by omega) (by omega)
  have u0 : sc_us (K i) 0 := by unfold sc_us; omega
  obtain ⟨o0, e0, _⟩ := sh_ov_lt (by omega) (hok i hi 0 (by omega) u0)
  have g0 := hg _ o0
  have e0' : a_as i = nI (sh_o a_as a_bs a_cs 0 i) := e0
  refine ⟨ii, nm_c ci (hK i hi).1 ⟨ii, ?_⟩⟩
  rw [ci, e0', nI_clamp (by omega), (hR _ o0).1]
  refine ⟨vp_in_nI (by omega) (by omega), nm_e ?_⟩
  have e1 : K i ≠ 10 → sh_1 K a_as a_bs a_cs T i = sh_sum K T i (T (sh_o a_as a_bs a_cs 0 i)).1 (if K i = 9 then (T (sh_o a_as a_bs a_cs 0 i)).1 else (T (sh_o a_as a_bs a_cs 1 i)).1) := fun h => by
    unfold sh_1; rw [if_neg (by omega), if_neg h, if_pos (by omega)]
  refine pk_eq (K i) 9 (fun e9 => ?_) (fun e9 => ⟨ii, ?_⟩)
  · rw [e1 (by omega), if_pos e9] at hc hm hz
    exact pk_eq (K i) 10 (fun h => absurd h (by omega)) (fun _ => sy_sum (K := K) (T := T) hn hi h3 (by omega) (by omega) (by omega) hR hc hm hz)
  · have u1 : sc_us (K i) 1 := by unfold sc_us; omega
    obtain ⟨o1, e1', _⟩ := sh_ov_lt (by omega) (hok i hi 1 (by omega) u1)
    have g1 := hg _ o1
    have e1'' : a_bs i = nI (sh_o a_as a_bs a_cs 1 i) := e1'
    rw [e1'', nI_clamp (by omega), (hR _ o1).1]
    refine ⟨vp_in_nI (by omega) (by omega), ?_⟩
    refine pk_eq (K i) 10 (fun e10 => ⟨ii, ?_⟩) (fun e10 => ?_)
    · have u2 : sc_us (K i) 2 := by unfold sc_us; omega
      obtain ⟨o2, e2', _⟩ := sh_ov_lt (by omega) (hok i hi 2 (by omega) u2)
      have g2 := hg _ o2
      have e2'' : a_cs i = nI (sh_o a_as a_bs a_cs 2 i) := e2'
      have ep : sh_1 K a_as a_bs a_cs T i = sh_pick T i (T (sh_o a_as a_bs a_cs 0 i)).1 (T (sh_o a_as a_bs a_cs 1 i)).1 (T (sh_o a_as a_bs a_cs 2 i)).1 := by
        unfold sh_1; rw [if_neg (by omega), if_pos e10]
      rw [ep] at hc hz
      rw [ci, e2'', nI_clamp (by omega), (hR _ o2).1]
      exact ⟨vp_in_nI (by omega) (by omega), sy_pick (K := K) (T := T) hn hi e10 (by omega) (by omega) (by omega) hR hc hz⟩
    · rw [e1 e10, if_neg e9] at hc hm hz
      exact sy_sum (K := K) (T := T) hn hi h3 (by omega) (by omega) (by omega) hR hc hm hz
end
