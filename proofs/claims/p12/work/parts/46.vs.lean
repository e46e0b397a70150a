section
variable {u : SX} {v : SY}
theorem g_varied {Q : Int32 → SX → Int32 → SY → Prop} (I : rl_R u v) (h : ∀ r u' v', rl_R u' v' → Q r u' r v') (v1 : Int32) : wpX_varied (fun r u' => wpY_varied (fun r' v' => Q r u' r' v') v v1) u v1 := by
  obtain ⟨f_lines, f_studied, f_wrong, f_wrongAt, f_brief, f_on, f_dropped, f_steps, f_nextLine, f_repeats, a_kinds, a_firsts, a_seconds, a_thirds, a_inputs, a_home, a_depth, a_closer, a_mate, a_operands, a_varies, a_parted, a_variableVaries, a_same, a_fixed, a_worth, a_needed, a_variableNeeded, a_values, a_variables, a_outputs, a_cells, a_whole, a_waiting⟩ := u
  obtain ⟨yf_lines, yf_known, yf_wrong, yf_place, yf_blocks, yf_steps, yf_dropped, yf_on, yf_next, yf_again, yf_depth, ya_ops, ya_as, ya_bs, ya_cs, ya_blockOf, ya_opener, ya_around, ya_other, ya_end, ya_open, ya_varied, ya_loose, ya_variedVariable, ya_stands, ya_number, ya_isConst, ya_needed, ya_inputs, ya_values, ya_variables, ya_cells, ya_outs, ya_was, ya_rest, ya_line⟩ := v
  unfold wpX_varied wpY_varied
  refine rl_study I (fun K n u' hx hY => ?_)
  obtain ⟨zf_lines, zf_studied, zf_wrong, zf_wrongAt, zf_brief, zf_on, zf_dropped, zf_steps, zf_nextLine, zf_repeats, za_kinds, za_firsts, za_seconds, za_thirds, za_inputs, za_home, za_depth, za_closer, za_mate, za_operands, za_varies, za_parted, za_variableVaries, za_same, za_fixed, za_worth, za_needed, za_variableNeeded, za_values, za_variables, za_outputs, za_cells, za_whole, za_waiting⟩ := u'
  have hx' := hx
  obtain ⟨hW, el, es, hst⟩ := hx'
  have hn := hW.1
  refine ez_four (fun hb => br_t rfl (hY _ (fun v' hy => ?_))) (fun j hj ej => br_f (by decide) ?_)
  · obtain ⟨wf_lines, wf_known, wf_wrong, wf_place, wf_blocks, wf_steps, wf_dropped, wf_on, wf_next, wf_again, wf_depth, wa_ops, wa_as, wa_bs, wa_cs, wa_blockOf, wa_opener, wa_around, wa_other, wa_end, wa_open, wa_varied, wa_loose, wa_variedVariable, wa_stands, wa_number, wa_isConst, wa_needed, wa_inputs, wa_values, wa_variables, wa_cells, wa_outs, wa_was, wa_rest, wa_line⟩ := v'
    rcases hb with h0 | h4
    · exact br_t h0 (h _ _ _ (rl_SR hx hy))
    · exact br_f (rl_lt (n := 4) (by omega) h4) (br_t ((ez_34 _).mpr h4) (h _ _ _ (rl_SR hx hy)))
  · subst ej
    obtain ⟨j0, _, j3, _⟩ := ez_n4 hj
    have cj : (nI j).toNatClampNeg = j := nI_clamp (by omega)
    have ij : vp_in (nI j) 4 := vp_in_nI hj (by omega)
    rcases hst with hb | hg
    · obtain ⟨c, c0, c4, ec⟩ := pg_bad_w hb
      obtain ⟨w1, w2, w3, w4, w5⟩ := rl_w c c4 c0
      refine br_f (by rw [ec]; exact w1) (br_f (by rw [ec]; exact w2) (br_t rfl (hY _ (fun v' hy => ?_))))
      obtain ⟨wf_lines, wf_known, wf_wrong, wf_place, wf_blocks, wf_steps, wf_dropped, wf_on, wf_next, wf_again, wf_depth, wa_ops, wa_as, wa_bs, wa_cs, wa_blockOf, wa_opener, wa_around, wa_other, wa_end, wa_open, wa_varied, wa_loose, wa_variedVariable, wa_stands, wa_number, wa_isConst, wa_needed, wa_inputs, wa_values, wa_variables, wa_cells, wa_outs, wa_was, wa_rest, wa_line⟩ := v'
      have ew : wf_wrong = zf_wrong := hy.2.2.1
      rw [ec] at ew
      exact br_f j0 (br_f j3 (br_f (by rw [ew]; exact w3) (br_f (by rw [ew]; exact w5) (h _ _ _ (rl_SR hx hy)))))
    · have hw : zf_wrong = 0 ∨ zf_wrong = 4 := by
        rcases hg.2.2.2.2.2.1 with ⟨_, _, _, _, e, _⟩ | ⟨_, e, _⟩
        · exact Or.inr e
        · exact Or.inl e
      have shaped : ∀ P : Int32 → Prop, P 1 → wpX_isShaped P (zf_lines, zf_studied, zf_wrong, zf_wrongAt, zf_brief, zf_on, zf_dropped, zf_steps, zf_nextLine, zf_repeats, za_kinds, za_firsts, za_seconds, za_thirds, za_inputs, za_home, za_depth, za_closer, za_mate, za_operands, za_varies, za_parted, za_variableVaries, za_same, za_fixed, za_worth, za_needed, za_variableNeeded, za_values, za_variables, za_outputs, za_cells, za_whole, za_waiting) := fun P hp => by
        rcases hw with e | e
        · exact br_t e hp
        · exact br_f (by rw [e]; decide) (br_t e hp)
      have toY : ∀ (post : Int32 → SY → Prop) {wf_lines wf_known wf_wrong wf_place wf_blocks wf_steps wf_dropped wf_on wf_next wf_again wf_depth : Int32} {wa_ops wa_as wa_bs wa_cs wa_blockOf wa_opener wa_around wa_other wa_end wa_open wa_varied wa_loose wa_variedVariable wa_stands wa_number wa_isConst wa_needed wa_inputs wa_values wa_variables wa_cells wa_outs wa_was wa_rest wa_line : Nat → Int32}, ys_S K n (zf_lines, zf_studied, zf_wrong, zf_wrongAt, zf_brief, zf_on, zf_dropped, zf_steps, zf_nextLine, zf_repeats, za_kinds, za_firsts, za_seconds, za_thirds, za_inputs, za_home, za_depth, za_closer, za_mate, za_operands, za_varies, za_parted, za_variableVaries, za_same, za_fixed, za_worth, za_needed, za_variableNeeded, za_values, za_variables, za_outputs, za_cells, za_whole, za_waiting) (wf_lines, wf_known, wf_wrong, wf_place, wf_blocks, wf_steps, wf_dropped, wf_on, wf_next, wf_again, wf_depth, wa_ops, wa_as, wa_bs, wa_cs, wa_blockOf, wa_opener, wa_around, wa_other, wa_end, wa_open, wa_varied, wa_loose, wa_variedVariable, wa_stands, wa_number, wa_isConst, wa_needed, wa_inputs, wa_values, wa_variables, wa_cells, wa_outs, wa_was, wa_rest, wa_line) → wY_varied_32 post (nI j) wf_lines wf_known wf_wrong wf_place wf_blocks wf_steps wf_dropped wf_on wf_next wf_again wf_depth wa_ops wa_as wa_bs wa_cs wa_blockOf wa_opener wa_around wa_other wa_end wa_open wa_varied wa_loose wa_variedVariable wa_stands wa_number wa_isConst wa_needed wa_inputs wa_values wa_variables wa_cells wa_outs wa_was wa_rest wa_line → ((nI j < 0 → post (-1) (wf_lines, wf_known, wf_wrong, wf_place, wf_blocks, wf_steps, wf_dropped, wf_on, wf_next, wf_again, wf_depth, wa_ops, wa_as, wa_bs, wa_cs, wa_blockOf, wa_opener, wa_around, wa_other, wa_end, wa_open, wa_varied, wa_loose, wa_variedVariable, wa_stands, wa_number, wa_isConst, wa_needed, wa_inputs, wa_values, wa_variables, wa_cells, wa_outs, wa_was, wa_rest, wa_line)) ∧ (¬ nI j < 0 → ((3 < nI j → post (-1) (wf_lines, wf_known, wf_wrong, wf_place, wf_blocks, wf_steps, wf_dropped, wf_on, wf_next, wf_again, wf_depth, wa_ops, wa_as, wa_bs, wa_cs, wa_blockOf, wa_opener, wa_around, wa_other, wa_end, wa_open, wa_varied, wa_loose, wa_variedVariable, wa_stands, wa_number, wa_isConst, wa_needed, wa_inputs, wa_values, wa_variables, wa_cells, wa_outs, wa_was, wa_rest, wa_line)) ∧ (¬ 3 < nI j → ((wf_wrong ≤ 0 → wY_varied_32 post (nI j) wf_lines wf_known wf_wrong wf_place wf_blocks wf_steps wf_dropped wf_on wf_next wf_again wf_depth wa_ops wa_as wa_bs wa_cs wa_blockOf wa_opener wa_around wa_other wa_end wa_open wa_varied wa_loose wa_variedVariable wa_stands wa_number wa_isConst wa_needed wa_inputs wa_values wa_variables wa_cells wa_outs wa_was wa_rest wa_line) ∧ (¬ wf_wrong ≤ 0 → ((4 ≤ wf_wrong → wY_varied_32 post (nI j) wf_lines wf_known wf_wrong wf_place wf_blocks wf_steps wf_dropped wf_on wf_next wf_again wf_depth wa_ops wa_as wa_bs wa_cs wa_blockOf wa_opener wa_around wa_other wa_end wa_open wa_varied wa_loose wa_variedVariable wa_stands wa_number wa_isConst wa_needed wa_inputs wa_values wa_variables wa_cells wa_outs wa_was wa_rest wa_line) ∧ (¬ 4 ≤ wf_wrong → post (-1) (wf_lines, wf_known, wf_wrong, wf_place, wf_blocks, wf_steps, wf_dropped, wf_on, wf_next, wf_again, wf_depth, wa_ops, wa_as, wa_bs, wa_cs, wa_blockOf, wa_opener, wa_around, wa_other, wa_end, wa_open, wa_varied, wa_loose, wa_variedVariable, wa_stands, wa_number, wa_isConst, wa_needed, wa_inputs, wa_values, wa_variables, wa_cells, wa_outs, wa_was, wa_rest, wa_line))))))))) := by
        intro post wf_lines wf_known wf_wrong wf_place wf_blocks wf_steps wf_dropped wf_on wf_next wf_again wf_depth wa_ops wa_as wa_bs wa_cs wa_blockOf wa_opener wa_around wa_other wa_end wa_open wa_varied wa_loose wa_variedVariable wa_stands wa_number wa_isConst wa_needed wa_inputs wa_values wa_variables wa_cells wa_outs wa_was wa_rest wa_line hy hp
        have ew : wf_wrong = zf_wrong := hy.2.2.1
        refine br_f j0 (br_f j3 ?_)
        rcases hw with e | e
        · exact br_t (by rw [ew, e]; decide) hp
        · exact br_f (by rw [ew, e]; decide) (br_t (by rw [ew, e]; decide) hp)
      have good : ∀ {wf_lines wf_known wf_wrong wf_place wf_blocks wf_steps wf_dropped wf_on wf_next wf_again wf_depth : Int32} {wa_ops wa_as wa_bs wa_cs wa_blockOf wa_opener wa_around wa_other wa_end wa_open wa_varied wa_loose wa_variedVariable wa_stands wa_number wa_isConst wa_needed wa_inputs wa_values wa_variables wa_cells wa_outs wa_was wa_rest wa_line : Nat → Int32}, ys_S K n (zf_lines, zf_studied, zf_wrong, zf_wrongAt, zf_brief, zf_on, zf_dropped, zf_steps, zf_nextLine, zf_repeats, za_kinds, za_firsts, za_seconds, za_thirds, za_inputs, za_home, za_depth, za_closer, za_mate, za_operands, za_varies, za_parted, za_variableVaries, za_same, za_fixed, za_worth, za_needed, za_variableNeeded, za_values, za_variables, za_outputs, za_cells, za_whole, za_waiting) (wf_lines, wf_known, wf_wrong, wf_place, wf_blocks, wf_steps, wf_dropped, wf_on, wf_next, wf_again, wf_depth, wa_ops, wa_as, wa_bs, wa_cs, wa_blockOf, wa_opener, wa_around, wa_other, wa_end, wa_open, wa_varied, wa_loose, wa_variedVariable, wa_stands, wa_number, wa_isConst, wa_needed, wa_inputs, wa_values, wa_variables, wa_cells, wa_outs, wa_was, wa_rest, wa_line) → (za_variableVaries j ≠ 0 ↔ wa_variedVariable j ≠ 0) := by
        intro wf_lines wf_known wf_wrong wf_place wf_blocks wf_steps wf_dropped wf_on wf_next wf_again wf_depth wa_ops wa_as wa_bs wa_cs wa_blockOf wa_opener wa_around wa_other wa_end wa_open wa_varied wa_loose wa_variedVariable wa_stands wa_number wa_isConst wa_needed wa_inputs wa_values wa_variables wa_cells wa_outs wa_was wa_rest wa_line hy
        obtain ⟨_, _, _, _, _, hd, _⟩ := hy
        rcases hd with hb | ⟨_, hg'⟩
        · exact (pg_bad_good hb hg.1 hg.2.1).elim
        · obtain ⟨_, _, _, v3, _⟩ := pg_join hn hg hg'
          exact v3 j hj
      refine shaped _ (br_f (by decide) ⟨ij, ?_⟩)
      rw [cj]
      refine br_c (fun hz => hY _ (fun v' hy => ?_)) (fun hz => hY _ (fun v' hy => ?_))
      · obtain ⟨wf_lines, wf_known, wf_wrong, wf_place, wf_blocks, wf_steps, wf_dropped, wf_on, wf_next, wf_again, wf_depth, wa_ops, wa_as, wa_bs, wa_cs, wa_blockOf, wa_opener, wa_around, wa_other, wa_end, wa_open, wa_varied, wa_loose, wa_variedVariable, wa_stands, wa_number, wa_isConst, wa_needed, wa_inputs, wa_values, wa_variables, wa_cells, wa_outs, wa_was, wa_rest, wa_line⟩ := v'
        have gv := good hy
        refine toY _ hy ⟨ij, ?_⟩
        rw [cj]
        exact br_t (Classical.byContradiction (fun h' => (gv.mpr h') hz)) (h _ _ _ (rl_SR hx hy))
      · obtain ⟨wf_lines, wf_known, wf_wrong, wf_place, wf_blocks, wf_steps, wf_dropped, wf_on, wf_next, wf_again, wf_depth, wa_ops, wa_as, wa_bs, wa_cs, wa_blockOf, wa_opener, wa_around, wa_other, wa_end, wa_open, wa_varied, wa_loose, wa_variedVariable, wa_stands, wa_number, wa_isConst, wa_needed, wa_inputs, wa_values, wa_variables, wa_cells, wa_outs, wa_was, wa_rest, wa_line⟩ := v'
        have gv := good hy
        refine toY _ hy ⟨ij, ?_⟩
        rw [cj]
        exact br_f (gv.mp hz) (h _ _ _ (rl_SR hx hy))
theorem g_shorter {Q : Int32 → SX → Int32 → SY → Prop} (I : rl_R u v) (h : ∀ r u' v', rl_R u' v' → Q r u' r v') (v1 v2 : Int32) : wpX_shorter (fun r u' => wpY_shorter (fun r' v' => Q r u' r' v') v v1 v2) u v1 v2 := by
  obtain ⟨f_lines, f_studied, f_wrong, f_wrongAt, f_brief, f_on, f_dropped, f_steps, f_nextLine, f_repeats, a_kinds, a_firsts, a_seconds, a_thirds, a_inputs, a_home, a_depth, a_closer, a_mate, a_operands, a_varies, a_parted, a_variableVaries, a_same, a_fixed, a_worth, a_needed, a_variableNeeded, a_values, a_variables, a_outputs, a_cells, a_whole, a_waiting⟩ := u
  obtain ⟨yf_lines, yf_known, yf_wrong, yf_place, yf_blocks, yf_steps, yf_dropped, yf_on, yf_next, yf_again, yf_depth, ya_ops, ya_as, ya_bs, ya_cs, ya_blockOf, ya_opener, ya_around, ya_other, ya_end, ya_open, ya_varied, ya_loose, ya_variedVariable, ya_stands, ya_number, ya_isConst, ya_needed, ya_inputs, ya_values, ya_variables, ya_cells, ya_outs, ya_was, ya_rest, ya_line⟩ := v
  unfold wpX_shorter wpY_shorter
  refine rl_study I (fun K n u' hx hY => ?_)
  obtain ⟨zf_lines, zf_studied, zf_wrong, zf_wrongAt, zf_brief, zf_on, zf_dropped, zf_steps, zf_nextLine, zf_repeats, za_kinds, za_firsts, za_seconds, za_thirds, za_inputs, za_home, za_depth, za_closer, za_mate, za_operands, za_varies, za_parted, za_variableVaries, za_same, za_fixed, za_worth, za_needed, za_variableNeeded, za_values, za_variables, za_outputs, za_cells, za_whole, za_waiting⟩ := u'
  have hx' := hx
  obtain ⟨hW, el, es, hst⟩ := hx'
  have hn := hW.1
  rcases pk_ix v1 (show n < 2 ^ 31 by omega) with h0 | h1 | ⟨j, hj, rfl⟩
  · refine br_t h0 (hY _ (fun v' hy => ?_))
    obtain ⟨wf_lines, wf_known, wf_wrong, wf_place, wf_blocks, wf_steps, wf_dropped, wf_on, wf_next, wf_again, wf_depth, wa_ops, wa_as, wa_bs, wa_cs, wa_blockOf, wa_opener, wa_around, wa_other, wa_end, wa_open, wa_varied, wa_loose, wa_variedVariable, wa_stands, wa_number, wa_isConst, wa_needed, wa_inputs, wa_values, wa_variables, wa_cells, wa_outs, wa_was, wa_rest, wa_line⟩ := v'
    exact br_t h0 (h _ _ _ (rl_SR hx hy))
  · have h0 := rl_lt (by omega) h1
    refine br_f h0 (br_t (by rw [el]; exact h1) (hY _ (fun v' hy => ?_)))
    obtain ⟨wf_lines, wf_known, wf_wrong, wf_place, wf_blocks, wf_steps, wf_dropped, wf_on, wf_next, wf_again, wf_depth, wa_ops, wa_as, wa_bs, wa_cs, wa_blockOf, wa_opener, wa_around, wa_other, wa_end, wa_open, wa_varied, wa_loose, wa_variedVariable, wa_stands, wa_number, wa_isConst, wa_needed, wa_inputs, wa_values, wa_variables, wa_cells, wa_outs, wa_was, wa_rest, wa_line⟩ := v'
    have el' : wf_lines = nI n := hy.1
    exact br_f h0 (br_t (by rw [el']; exact h1) (h _ _ _ (rl_SR hx hy)))
  · have h0 : ¬ nI j < 0 := nI_pos (by omega)
    have h1 : ¬ zf_lines ≤ nI j := by rw [el]; exact nI_ge hj (by omega)
    have h2 : ∀ {x : Int32}, x = nI n → ¬ x ≤ nI j := fun e => by rw [e]; exact nI_ge hj (by omega)
    have cj : (nI j).toNatClampNeg = j := nI_clamp (by omega)
    have ij : vp_in (nI j) 48 := vp_in_nI (by omega) (by omega)
    refine br_f h0 (br_f h1 ?_)
    have bad : ¬ zf_wrong = 0 → (∀ {wf_lines wf_known wf_wrong wf_place wf_blocks wf_steps wf_dropped wf_on wf_next wf_again wf_depth : Int32} {wa_ops wa_as wa_bs wa_cs wa_blockOf wa_opener wa_around wa_other wa_end wa_open wa_varied wa_loose wa_variedVariable wa_stands wa_number wa_isConst wa_needed wa_inputs wa_values wa_variables wa_cells wa_outs wa_was wa_rest wa_line : Nat → Int32}, ys_S K n (zf_lines, zf_studied, zf_wrong, zf_wrongAt, zf_brief, zf_on, zf_dropped, zf_steps, zf_nextLine, zf_repeats, za_kinds, za_firsts, za_seconds, za_thirds, za_inputs, za_home, za_depth, za_closer, za_mate, za_operands, za_varies, za_parted, za_variableVaries, za_same, za_fixed, za_worth, za_needed, za_variableNeeded, za_values, za_variables, za_outputs, za_cells, za_whole, za_waiting) (wf_lines, wf_known, wf_wrong, wf_place, wf_blocks, wf_steps, wf_dropped, wf_on, wf_next, wf_again, wf_depth, wa_ops, wa_as, wa_bs, wa_cs, wa_blockOf, wa_opener, wa_around, wa_other, wa_end, wa_open, wa_varied, wa_loose, wa_variedVariable, wa_stands, wa_number, wa_isConst, wa_needed, wa_inputs, wa_values, wa_variables, wa_cells, wa_outs, wa_was, wa_rest, wa_line) → ¬ wf_wrong ≤ 0) := by
      intro hz wf_lines wf_known wf_wrong wf_place wf_blocks wf_steps wf_dropped wf_on wf_next wf_again wf_depth wa_ops wa_as wa_bs wa_cs wa_blockOf wa_opener wa_around wa_other wa_end wa_open wa_varied wa_loose wa_variedVariable wa_stands wa_number wa_isConst wa_needed wa_inputs wa_values wa_variables wa_cells wa_outs wa_was wa_rest wa_line hy
      have ew : wf_wrong = zf_wrong := hy.2.2.1
      rw [ew]
      rcases hst with hb | hg
      · obtain ⟨c, c0, c4, ec⟩ := pg_bad_w hb
        rw [ec]; exact (rl_w c c4 c0).2.2.1
      · rcases hg.2.2.2.2.2.1 with ⟨_, _, _, _, e, _⟩ | ⟨_, e, _⟩
        · rw [e]; decide
        · exact absurd e hz
    refine br_c (fun hz => ?_) (fun hz => hY _ (fun v' hy => ?_))
    · have hg : pg_X K n za_firsts za_seconds za_thirds zf_wrong zf_wrongAt za_home za_depth za_closer za_mate za_operands za_varies za_parted za_variableVaries za_same za_fixed za_worth za_needed := by
        rcases hst with hb | hg
        · obtain ⟨c, c0, c4, ec⟩ := pg_bad_w hb
          rw [ec] at hz; exact absurd hz (rl_w c c4 c0).1
        · exact hg
      have good : ∀ {wf_lines wf_known wf_wrong wf_place wf_blocks wf_steps wf_dropped wf_on wf_next wf_again wf_depth : Int32} {wa_ops wa_as wa_bs wa_cs wa_blockOf wa_opener wa_around wa_other wa_end wa_open wa_varied wa_loose wa_variedVariable wa_stands wa_number wa_isConst wa_needed wa_inputs wa_values wa_variables wa_cells wa_outs wa_was wa_rest wa_line : Nat → Int32}, ys_S K n (zf_lines, zf_studied, zf_wrong, zf_wrongAt, zf_brief, zf_on, zf_dropped, zf_steps, zf_nextLine, zf_repeats, za_kinds, za_firsts, za_seconds, za_thirds, za_inputs, za_home, za_depth, za_closer, za_mate, za_operands, za_varies, za_parted, za_variableVaries, za_same, za_fixed, za_worth, za_needed, za_variableNeeded, za_values, za_variables, za_outputs, za_cells, za_whole, za_waiting) (wf_lines, wf_known, wf_wrong, wf_place, wf_blocks, wf_steps, wf_dropped, wf_on, wf_next, wf_again, wf_depth, wa_ops, wa_as, wa_bs, wa_cs, wa_blockOf, wa_opener, wa_around, wa_other, wa_end, wa_open, wa_varied, wa_loose, wa_variedVariable, wa_stands, wa_number, wa_isConst, wa_needed, wa_inputs, wa_values, wa_variables, wa_cells, wa_outs, wa_was, wa_rest, wa_line) → wa_stands j = za_same j ∧ wa_isConst j = za_fixed j ∧ wa_number j = za_worth j ∧ (za_fixed j = 0 → (za_needed j ≠ 0 ↔ wa_needed j ≠ 0)) := by
        intro wf_lines wf_known wf_wrong wf_place wf_blocks wf_steps wf_dropped wf_on wf_next wf_again wf_depth wa_ops wa_as wa_bs wa_cs wa_blockOf wa_opener wa_around wa_other wa_end wa_open wa_varied wa_loose wa_variedVariable wa_stands wa_number wa_isConst wa_needed wa_inputs wa_values wa_variables wa_cells wa_outs wa_was wa_rest wa_line hy
        obtain ⟨_, _, _, _, _, hd, _⟩ := hy
        rcases hd with hb | ⟨_, hg'⟩
        · exact (pg_bad_good hb hg.1 hg.2.1).elim
        · obtain ⟨_, _, _, _, T, r1, r2, _, _, r5⟩ := pg_join hn hg hg'
          obtain ⟨a1, a2, a3⟩ := r1 j hj
          obtain ⟨b1, b2, b3⟩ := r2 j hj
          refine ⟨by rw [a1, b1], by rw [a2, b2], by rw [a3, b3], fun hf => ?_⟩
          rw [a2] at hf
          rw [r5 j hj]
          exact ⟨fun h => h.1, fun h => ⟨h, sh_bI_0 hf⟩⟩
      have w0 : ∀ {wf_lines wf_known wf_wrong wf_place wf_blocks wf_steps wf_dropped wf_on wf_next wf_again wf_depth : Int32} {wa_ops wa_as wa_bs wa_cs wa_blockOf wa_opener wa_around wa_other wa_end wa_open wa_varied wa_loose wa_variedVariable wa_stands wa_number wa_isConst wa_needed wa_inputs wa_values wa_variables wa_cells wa_outs wa_was wa_rest wa_line : Nat → Int32}, ys_S K n (zf_lines, zf_studied, zf_wrong, zf_wrongAt, zf_brief, zf_on, zf_dropped, zf_steps, zf_nextLine, zf_repeats, za_kinds, za_firsts, za_seconds, za_thirds, za_inputs, za_home, za_depth, za_closer, za_mate, za_operands, za_varies, za_parted, za_variableVaries, za_same, za_fixed, za_worth, za_needed, za_variableNeeded, za_values, za_variables, za_outputs, za_cells, za_whole, za_waiting) (wf_lines, wf_known, wf_wrong, wf_place, wf_blocks, wf_steps, wf_dropped, wf_on, wf_next, wf_again, wf_depth, wa_ops, wa_as, wa_bs, wa_cs, wa_blockOf, wa_opener, wa_around, wa_other, wa_end, wa_open, wa_varied, wa_loose, wa_variedVariable, wa_stands, wa_number, wa_isConst, wa_needed, wa_inputs, wa_values, wa_variables, wa_cells, wa_outs, wa_was, wa_rest, wa_line) → wf_wrong ≤ 0 := by
        intro wf_lines wf_known wf_wrong wf_place wf_blocks wf_steps wf_dropped wf_on wf_next wf_again wf_depth wa_ops wa_as wa_bs wa_cs wa_blockOf wa_opener wa_around wa_other wa_end wa_open wa_varied wa_loose wa_variedVariable wa_stands wa_number wa_isConst wa_needed wa_inputs wa_values wa_variables wa_cells wa_outs wa_was wa_rest wa_line hy
        have ew : wf_wrong = zf_wrong := hy.2.2.1
        rw [ew, hz]; decide
      have toY : ∀ (post : Int32 → SY → Prop) {wf_lines wf_known wf_wrong wf_place wf_blocks wf_steps wf_dropped wf_on wf_next wf_again wf_depth : Int32} {wa_ops wa_as wa_bs wa_cs wa_blockOf wa_opener wa_around wa_other wa_end wa_open wa_varied wa_loose wa_variedVariable wa_stands wa_number wa_isConst wa_needed wa_inputs wa_values wa_variables wa_cells wa_outs wa_was wa_rest wa_line : Nat → Int32}, ys_S K n (zf_lines, zf_studied, zf_wrong, zf_wrongAt, zf_brief, zf_on, zf_dropped, zf_steps, zf_nextLine, zf_repeats, za_kinds, za_firsts, za_seconds, za_thirds, za_inputs, za_home, za_depth, za_closer, za_mate, za_operands, za_varies, za_parted, za_variableVaries, za_same, za_fixed, za_worth, za_needed, za_variableNeeded, za_values, za_variables, za_outputs, za_cells, za_whole, za_waiting) (wf_lines, wf_known, wf_wrong, wf_place, wf_blocks, wf_steps, wf_dropped, wf_on, wf_next, wf_again, wf_depth, wa_ops, wa_as, wa_bs, wa_cs, wa_blockOf, wa_opener, wa_around, wa_other, wa_end, wa_open, wa_varied, wa_loose, wa_variedVariable, wa_stands, wa_number, wa_isConst, wa_needed, wa_inputs, wa_values, wa_variables, wa_cells, wa_outs, wa_was, wa_rest, wa_line) → (∀ r : Int32, ((za_fixed j = 0 ∧ za_same j = nI j ∧ za_needed j = 0 ∧ r = 0) ∨ (za_fixed j = 0 ∧ za_same j = nI j ∧ za_needed j ≠ 0 ∧ r = 1) ∨ (za_fixed j = 0 ∧ za_same j ≠ nI j ∧ r = 2) ∨ (za_fixed j ≠ 0 ∧ r = 3)) → wY_shorter_66 post (nI j) v2 r wf_lines wf_known wf_wrong wf_place wf_blocks wf_steps wf_dropped wf_on wf_next wf_again wf_depth wa_ops wa_as wa_bs wa_cs wa_blockOf wa_opener wa_around wa_other wa_end wa_open wa_varied wa_loose wa_variedVariable wa_stands wa_number wa_isConst wa_needed wa_inputs wa_values wa_variables wa_cells wa_outs wa_was wa_rest wa_line) →
          ((nI j < 0 → post (-1) (wf_lines, wf_known, wf_wrong, wf_place, wf_blocks, wf_steps, wf_dropped, wf_on, wf_next, wf_again, wf_depth, wa_ops, wa_as, wa_bs, wa_cs, wa_blockOf, wa_opener, wa_around, wa_other, wa_end, wa_open, wa_varied, wa_loose, wa_variedVariable, wa_stands, wa_number, wa_isConst, wa_needed, wa_inputs, wa_values, wa_variables, wa_cells, wa_outs, wa_was, wa_rest, wa_line)) ∧ (¬ nI j < 0 → ((wf_lines ≤ nI j → post (-1) (wf_lines, wf_known, wf_wrong, wf_place, wf_blocks, wf_steps, wf_dropped, wf_on, wf_next, wf_again, wf_depth, wa_ops, wa_as, wa_bs, wa_cs, wa_blockOf, wa_opener, wa_around, wa_other, wa_end, wa_open, wa_varied, wa_loose, wa_variedVariable, wa_stands, wa_number, wa_isConst, wa_needed, wa_inputs, wa_values, wa_variables, wa_cells, wa_outs, wa_was, wa_rest, wa_line)) ∧ (¬ wf_lines ≤ nI j → ((wf_wrong ≤ 0 → (vp_in (nI j) 48 ∧ ((wa_isConst (nI j).toNatClampNeg = 0 → (vp_in (nI j) 48 ∧ ((wa_stands (nI j).toNatClampNeg = nI j → (vp_in (nI j) 48 ∧ ((wa_needed (nI j).toNatClampNeg = 0 → wY_shorter_66 post (nI j) v2 0 wf_lines wf_known wf_wrong wf_place wf_blocks wf_steps wf_dropped wf_on wf_next wf_again wf_depth wa_ops wa_as wa_bs wa_cs wa_blockOf wa_opener wa_around wa_other wa_end wa_open wa_varied wa_loose wa_variedVariable wa_stands wa_number wa_isConst wa_needed wa_inputs wa_values wa_variables wa_cells wa_outs wa_was wa_rest wa_line) ∧ (¬ wa_needed (nI j).toNatClampNeg = 0 → wY_shorter_66 post (nI j) v2 1 wf_lines wf_known wf_wrong wf_place wf_blocks wf_steps wf_dropped wf_on wf_next wf_again wf_depth wa_ops wa_as wa_bs wa_cs wa_blockOf wa_opener wa_around wa_other wa_end wa_open wa_varied wa_loose wa_variedVariable wa_stands wa_number wa_isConst wa_needed wa_inputs wa_values wa_variables wa_cells wa_outs wa_was wa_rest wa_line)))) ∧ (¬ wa_stands (nI j).toNatClampNeg = nI j → wY_shorter_66 post (nI j) v2 2 wf_lines wf_known wf_wrong wf_place wf_blocks wf_steps wf_dropped wf_on wf_next wf_again wf_depth wa_ops wa_as wa_bs wa_cs wa_blockOf wa_opener wa_around wa_other wa_end wa_open wa_varied wa_loose wa_variedVariable wa_stands wa_number wa_isConst wa_needed wa_inputs wa_values wa_variables wa_cells wa_outs wa_was wa_rest wa_line)))) ∧ (¬ wa_isConst (nI j).toNatClampNeg = 0 → wY_shorter_66 post (nI j) v2 3 wf_lines wf_known wf_wrong wf_place wf_blocks wf_steps wf_dropped wf_on wf_next wf_again wf_depth wa_ops wa_as wa_bs wa_cs wa_blockOf wa_opener wa_around wa_other wa_end wa_open wa_varied wa_loose wa_variedVariable wa_stands wa_number wa_isConst wa_needed wa_inputs wa_values wa_variables wa_cells wa_outs wa_was wa_rest wa_line)))) ∧ (¬ wf_wrong ≤ 0 → post (-1) (wf_lines, wf_known, wf_wrong, wf_place, wf_blocks, wf_steps, wf_dropped, wf_on, wf_next, wf_again, wf_depth, wa_ops, wa_as, wa_bs, wa_cs, wa_blockOf, wa_opener, wa_around, wa_other, wa_end, wa_open, wa_varied, wa_loose, wa_variedVariable, wa_stands, wa_number, wa_isConst, wa_needed, wa_inputs, wa_values, wa_variables, wa_cells, wa_outs, wa_was, wa_rest, wa_line))))))) := by
        intro post wf_lines wf_known wf_wrong wf_place wf_blocks wf_steps wf_dropped wf_on wf_next wf_again wf_depth wa_ops wa_as wa_bs wa_cs wa_blockOf wa_opener wa_around wa_other wa_end wa_open wa_varied wa_loose wa_variedVariable wa_stands wa_number wa_isConst wa_needed wa_inputs wa_values wa_variables wa_cells wa_outs wa_was wa_rest wa_line hy hp
        obtain ⟨g1, g2, g3, g4⟩ := good hy
        refine br_f h0 (br_f (h2 hy.1) (br_t (w0 hy) ⟨ij, ?_⟩))
        rw [cj, g1, g2]
        refine br_c (fun hf => ⟨ij, br_c (fun hs => ⟨ij, br_c (fun hnd => hp 0 (Or.inl ⟨hf, hs, ?_, rfl⟩)) (fun hnd => hp 1 (Or.inr (Or.inl ⟨hf, hs, (g4 hf).mpr hnd, rfl⟩)))⟩) (fun hs => hp 2 (Or.inr (Or.inr (Or.inl ⟨hf, hs, rfl⟩))))⟩) (fun hf => hp 3 (Or.inr (Or.inr (Or.inr ⟨hf, rfl⟩))))
        exact Classical.byContradiction (fun h' => ((g4 hf).mp h') hnd)
      have toY2 := toY
      rw [cj] at toY2
      rcases pk_ix v2 (show 3 < 2 ^ 31 by omega) with p0 | p3 | ⟨k, hk, rfl⟩
      · refine br_t p0 (hY _ (fun v' hy => ?_))
        obtain ⟨wf_lines, wf_known, wf_wrong, wf_place, wf_blocks, wf_steps, wf_dropped, wf_on, wf_next, wf_again, wf_depth, wa_ops, wa_as, wa_bs, wa_cs, wa_blockOf, wa_opener, wa_around, wa_other, wa_end, wa_open, wa_varied, wa_loose, wa_variedVariable, wa_stands, wa_number, wa_isConst, wa_needed, wa_inputs, wa_values, wa_variables, wa_cells, wa_outs, wa_was, wa_rest, wa_line⟩ := v'
        exact toY _ hy (fun r _ => br_f (fun e => absurd p0 (by rw [e]; decide)) (br_f (fun e => absurd p0 (by rw [e]; decide)) (br_f (fun e => absurd p0 (by rw [e]; decide)) (h _ _ _ (rl_SR hx hy)))))
      · refine br_f (rl_lt (by omega) p3) (br_t ((ez_23 _).mpr p3) (hY _ (fun v' hy => ?_)))
        obtain ⟨wf_lines, wf_known, wf_wrong, wf_place, wf_blocks, wf_steps, wf_dropped, wf_on, wf_next, wf_again, wf_depth, wa_ops, wa_as, wa_bs, wa_cs, wa_blockOf, wa_opener, wa_around, wa_other, wa_end, wa_open, wa_varied, wa_loose, wa_variedVariable, wa_stands, wa_number, wa_isConst, wa_needed, wa_inputs, wa_values, wa_variables, wa_cells, wa_outs, wa_was, wa_rest, wa_line⟩ := v'
        exact toY _ hy (fun r _ => br_f (fun e => absurd p3 (by rw [e]; decide)) (br_f (fun e => absurd p3 (by rw [e]; decide)) (br_f (fun e => absurd p3 (by rw [e]; decide)) (h _ _ _ (rl_SR hx hy)))))
      · have hk3 : k = 0 ∨ k = 1 ∨ k = 2 := by omega
        rcases hk3 with rfl | rfl | rfl
        · refine br_f (by decide) (br_f (by decide) (br_t rfl ⟨ij, ?_⟩))
          rw [cj]
          refine br_c (fun hf => ⟨ij, br_c (fun hs => ⟨ij, br_c (fun hnd => hY _ (fun v' hy => ?_)) (fun hnd => hY _ (fun v' hy => ?_))⟩) (fun hs => hY _ (fun v' hy => ?_))⟩) (fun hf => hY _ (fun v' hy => ?_))
          all_goals
            obtain ⟨wf_lines, wf_known, wf_wrong, wf_place, wf_blocks, wf_steps, wf_dropped, wf_on, wf_next, wf_again, wf_depth, wa_ops, wa_as, wa_bs, wa_cs, wa_blockOf, wa_opener, wa_around, wa_other, wa_end, wa_open, wa_varied, wa_loose, wa_variedVariable, wa_stands, wa_number, wa_isConst, wa_needed, wa_inputs, wa_values, wa_variables, wa_cells, wa_outs, wa_was, wa_rest, wa_line⟩ := v'
            refine toY2 _ hy (fun r hr => br_t rfl ?_)
            rcases hr with ⟨a1, a2, a3, rfl⟩ | ⟨a1, a2, a3, rfl⟩ | ⟨a1, a2, rfl⟩ | ⟨a1, rfl⟩ <;> first | exact h _ _ _ (rl_SR hx hy) | contradiction
        · refine br_f (by decide) (br_f (by decide) (br_f (by decide) (br_t rfl ⟨ij, ?_⟩)))
          rw [cj]
          refine hY _ (fun v' hy => ?_)
          obtain ⟨wf_lines, wf_known, wf_wrong, wf_place, wf_blocks, wf_steps, wf_dropped, wf_on, wf_next, wf_again, wf_depth, wa_ops, wa_as, wa_bs, wa_cs, wa_blockOf, wa_opener, wa_around, wa_other, wa_end, wa_open, wa_varied, wa_loose, wa_variedVariable, wa_stands, wa_number, wa_isConst, wa_needed, wa_inputs, wa_values, wa_variables, wa_cells, wa_outs, wa_was, wa_rest, wa_line⟩ := v'
          refine toY2 _ hy (fun r hr => br_f (by decide) (br_t rfl ⟨ij, ?_⟩))
          rw [cj, (good hy).1]
          exact h _ _ _ (rl_SR hx hy)
        · refine br_f (by decide) (br_f (by decide) (br_f (by decide) (br_f (by decide) (br_t rfl ⟨ij, ?_⟩))))
          rw [cj]
          refine hY _ (fun v' hy => ?_)
          obtain ⟨wf_lines, wf_known, wf_wrong, wf_place, wf_blocks, wf_steps, wf_dropped, wf_on, wf_next, wf_again, wf_depth, wa_ops, wa_as, wa_bs, wa_cs, wa_blockOf, wa_opener, wa_around, wa_other, wa_end, wa_open, wa_varied, wa_loose, wa_variedVariable, wa_stands, wa_number, wa_isConst, wa_needed, wa_inputs, wa_values, wa_variables, wa_cells, wa_outs, wa_was, wa_rest, wa_line⟩ := v'
          refine toY2 _ hy (fun r hr => br_f (by decide) (br_f (by decide) (br_t rfl ⟨ij, ?_⟩)))
          rw [cj, (good hy).2.2.1]
          exact h _ _ _ (rl_SR hx hy)
    · obtain ⟨wf_lines, wf_known, wf_wrong, wf_place, wf_blocks, wf_steps, wf_dropped, wf_on, wf_next, wf_again, wf_depth, wa_ops, wa_as, wa_bs, wa_cs, wa_blockOf, wa_opener, wa_around, wa_other, wa_end, wa_open, wa_varied, wa_loose, wa_variedVariable, wa_stands, wa_number, wa_isConst, wa_needed, wa_inputs, wa_values, wa_variables, wa_cells, wa_outs, wa_was, wa_rest, wa_line⟩ := v'
      exact br_f h0 (br_f (h2 hy.1) (br_f (bad hz hy) (h _ _ _ (rl_SR hx hy))))
end
