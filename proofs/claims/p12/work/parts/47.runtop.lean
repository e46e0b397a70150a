section
variable {u : SX} {v : SY}
theorem rl_ok {p : Int32} (hp : p = 0 ∨ p = 1) : narrow .boolean (.int p) = .int p ∧ fits .boolean (.int p) = true := by
  rcases hp with h | h <;> rw [h] <;> decide
theorem g_run {Q : Int32 → SX → Int32 → SY → Prop} (I : rl_R u v) (h : ∀ r u' v', rl_R u' v' → Q r u' r v') {p : Int32} (hp : p = 0 ∨ p = 1) : wpX_run (fun r u' => wpY_run (fun r' v' => Q r u' r' v') v p) u p := by
  obtain ⟨f_lines, f_studied, f_wrong, f_wrongAt, f_brief, f_on, f_dropped, f_steps, f_nextLine, f_repeats, a_kinds, a_firsts, a_seconds, a_thirds, a_inputs, a_home, a_depth, a_closer, a_mate, a_operands, a_varies, a_parted, a_variableVaries, a_same, a_fixed, a_worth, a_needed, a_variableNeeded, a_values, a_variables, a_outputs, a_cells, a_whole, a_waiting⟩ := u
  obtain ⟨yf_lines, yf_known, yf_wrong, yf_place, yf_blocks, yf_steps, yf_dropped, yf_on, yf_next, yf_again, yf_depth, ya_ops, ya_as, ya_bs, ya_cs, ya_blockOf, ya_opener, ya_around, ya_other, ya_end, ya_open, ya_varied, ya_loose, ya_variedVariable, ya_stands, ya_number, ya_isConst, ya_needed, ya_inputs, ya_values, ya_variables, ya_cells, ya_outs, ya_was, ya_rest, ya_line⟩ := v
  unfold wpX_run wpY_run
  refine rl_study I (fun K n u' hx hY => ?_)
  obtain ⟨zf_lines, zf_studied, zf_wrong, zf_wrongAt, zf_brief, zf_on, zf_dropped, zf_steps, zf_nextLine, zf_repeats, za_kinds, za_firsts, za_seconds, za_thirds, za_inputs, za_home, za_depth, za_closer, za_mate, za_operands, za_varies, za_parted, za_variableVaries, za_same, za_fixed, za_worth, za_needed, za_variableNeeded, za_values, za_variables, za_outputs, za_cells, za_whole, za_waiting⟩ := u'
  have hx' := hx
  obtain ⟨hW, el, es, hst⟩ := hx'
  have hn := hW.1
  have bad : ¬ zf_wrong = 0 → (∀ {wf_lines wf_known wf_wrong wf_place wf_blocks wf_steps wf_dropped wf_on wf_next wf_again wf_depth : Int32} {wa_ops wa_as wa_bs wa_cs wa_blockOf wa_opener wa_around wa_other wa_end wa_open wa_varied wa_loose wa_variedVariable wa_stands wa_number wa_isConst wa_needed wa_inputs wa_values wa_variables wa_cells wa_outs wa_was wa_rest wa_line : Nat → Int32}, ys_S K n (zf_lines, zf_studied, zf_wrong, zf_wrongAt, zf_brief, zf_on, zf_dropped, zf_steps, zf_nextLine, zf_repeats, za_kinds, za_firsts, za_seconds, za_thirds, za_inputs, za_home, za_depth, za_closer, za_mate, za_operands, za_varies, za_parted, za_variableVaries, za_same, za_fixed, za_worth, za_needed, za_variableNeeded, za_values, za_variables, za_outputs, za_cells, za_whole, za_waiting) (wf_lines, wf_known, wf_wrong, wf_place, wf_blocks, wf_steps, wf_dropped, wf_on, wf_next, wf_again, wf_depth, wa_ops, wa_as, wa_bs, wa_cs, wa_blockOf, wa_opener, wa_around, wa_other, wa_end, wa_open, wa_varied, wa_loose, wa_variedVariable, wa_stands, wa_number, wa_isConst, wa_needed, wa_inputs, wa_values, wa_variables, wa_cells, wa_outs, wa_was, wa_rest, wa_line) → ¬ wf_wrong ≤ 0) := by
    intro hz wf_lines wf_known wf_wrong wf_place wf_blocks wf_steps wf_dropped wf_on wf_next wf_again wf_depth wa_ops wa_as wa_bs wa_cs wa_blockOf wa_opener wa_around wa_other wa_end wa_open wa_varied wa_loose wa_variedVariable wa_stands wa_number wa_isConst wa_needed wa_inputs wa_values wa_variables wa_cells wa_outs wa_was wa_rest wa_line hy
    have ew : wf_wrong = zf_wrong := hy.2.2.1
    rw [ew]
    rcases hst with hb | hg
    · obtain ⟨c, c0, c4, ec⟩ := pg_bad_w hb
      rw [ec]; exact (rl_w c c4 c0).2.2.1
    · rcases hg.2.2.2.2.2.1 with ⟨_, _, _, _, e, _⟩ | ⟨_, e, _⟩
      · rw [e]; decide
      · exact absurd e hz
  refine br_c (fun hz => cr_X ⟨(rl_ok hp).1, (rl_ok hp).2, ?_⟩) (fun hz => hY _ (fun v' hy => ?_))
  · have hg : pg_X K n za_firsts za_seconds za_thirds zf_wrong zf_wrongAt za_home za_depth za_closer za_mate za_operands za_varies za_parted za_variableVaries za_same za_fixed za_worth za_needed := by
      rcases hst with hb | hg
      · obtain ⟨c, c0, c4, ec⟩ := pg_bad_w hb
        rw [ec] at hz; exact absurd hz (rl_w c c4 c0).1
      · exact hg
    have hg0 := hg
    obtain ⟨hok, hfr, hA, hc0, hl, h4, T, hR, hgT, hln, hnd⟩ := hg0
    have hxm : rn_xm K n T za_firsts za_seconds za_thirds za_home za_depth za_closer za_mate za_operands za_same za_fixed za_worth za_needed := ⟨hok, hfr, hA, hc0, hR, hgT, hln, hnd⟩
    obtain ⟨blockOf, opener, around, other, end_, hS⟩ := rn_stC (f_brief := p) (a_inputs := za_inputs) hW hxm rfl hp el
    have hp0 : rn_pos K n 0 (zf_lines, zf_studied, zf_wrong, zf_wrongAt, p, 15, 0, 0, zf_nextLine, 0, za_kinds, za_firsts, za_seconds, za_thirds, za_inputs, za_home, za_depth, za_closer, za_mate, za_operands, za_varies, za_parted, za_variableVaries, za_same, za_fixed, za_worth, za_needed, za_variableNeeded, cl_z 192 za_values, cl_z 16 za_variables, cl_z 16 za_outputs, cl_z 4 za_cells, za_whole, za_waiting) (nI n, 0, 0, 0, 0, 0, 0, 15, 0, 0, 0, za_kinds, za_firsts, za_seconds, za_thirds, blockOf, opener, around, other, end_, (fun _ => 0), (fun _ => 0), (fun _ => 0), (fun _ => 0), za_same, za_worth, za_fixed, za_needed, za_inputs, (fun _ => 0), (fun _ => 0), (fun _ => 0), (fun _ => 0), (fun _ => 0), (fun _ => 0), (fun _ => 0)) :=
      ⟨by omega, rfl, rfl, trivial, ⟨15, by omega, rfl⟩, Or.inl ⟨rfl, fun h => absurd h (by decide), trivial⟩⟩
    have hd0 : rn_dyn (zf_lines, zf_studied, zf_wrong, zf_wrongAt, p, 15, 0, 0, zf_nextLine, 0, za_kinds, za_firsts, za_seconds, za_thirds, za_inputs, za_home, za_depth, za_closer, za_mate, za_operands, za_varies, za_parted, za_variableVaries, za_same, za_fixed, za_worth, za_needed, za_variableNeeded, cl_z 192 za_values, cl_z 16 za_variables, cl_z 16 za_outputs, cl_z 4 za_cells, za_whole, za_waiting) (nI n, 0, 0, 0, 0, 0, 0, 15, 0, 0, 0, za_kinds, za_firsts, za_seconds, za_thirds, blockOf, opener, around, other, end_, (fun _ => 0), (fun _ => 0), (fun _ => 0), (fun _ => 0), za_same, za_worth, za_fixed, za_needed, za_inputs, (fun _ => 0), (fun _ => 0), (fun _ => 0), (fun _ => 0), (fun _ => 0), (fun _ => 0), (fun _ => 0)) :=
      ⟨rfl, ⟨0, by omega, rfl⟩, rfl, rfl, fun q hq => cl_lt _ hq, fun l hl k hk => cl_lt _ (by omega), fun l hl k hk => cl_lt _ (by omega), fun k hk => cl_lt _ hk⟩
    obtain ⟨r, a, on, dr, st, rp, va, vr, ou, ce, wh, wt, fX, fY⟩ := rn_loop (K := K) (n := n) (T := T) (br := p) 400 0 0 rfl rfl hS hp0 hd0
    refine fX _ _ (fun q hq => ⟨401, hq⟩) (hY _ (fun v' hy => ?_))
    obtain ⟨wf_lines, wf_known, wf_wrong, wf_place, wf_blocks, wf_steps, wf_dropped, wf_on, wf_next, wf_again, wf_depth, wa_ops, wa_as, wa_bs, wa_cs, wa_blockOf, wa_opener, wa_around, wa_other, wa_end, wa_open, wa_varied, wa_loose, wa_variedVariable, wa_stands, wa_number, wa_isConst, wa_needed, wa_inputs, wa_values, wa_variables, wa_cells, wa_outs, wa_was, wa_rest, wa_line⟩ := v'
    obtain ⟨yl, yk, yw, yp, ⟨e1, e2, e3, e4, e5⟩, hyst, hyd, hynx⟩ := hy
    have hgY : pg_Y K n za_firsts za_seconds za_thirds wf_wrong wf_place wa_blockOf wa_opener wa_around wa_other wa_end wa_varied wa_loose wa_variedVariable wa_stands wa_isConst wa_number wa_needed := by
      rcases hyst with hb | ⟨_, h'⟩
      · exact (pg_bad_good hb hg.1 hg.2.1).elim
      · exact h'
    have hSy := rn_stY (f_brief := p) hW hxm rfl hp el yl e1 e2 e3 e4 e5 hgY
    have hpy : rn_pos K n 0 (zf_lines, zf_studied, zf_wrong, zf_wrongAt, p, 15, 0, 0, zf_nextLine, 0, za_kinds, za_firsts, za_seconds, za_thirds, za_inputs, za_home, za_depth, za_closer, za_mate, za_operands, za_varies, za_parted, za_variableVaries, za_same, za_fixed, za_worth, za_needed, za_variableNeeded, cl_z 192 za_values, cl_z 16 za_variables, cl_z 16 za_outputs, cl_z 4 za_cells, za_whole, za_waiting) (wf_lines, wf_known, wf_wrong, wf_place, wf_blocks, 0, 0, 15, 0, 0, 0, wa_ops, wa_as, wa_bs, wa_cs, wa_blockOf, wa_opener, wa_around, wa_other, wa_end, wa_open, wa_varied, wa_loose, wa_variedVariable, wa_stands, wa_number, wa_isConst, wa_needed, wa_inputs, cl_z 192 wa_values, cl_z 16 wa_variables, cl_z 4 wa_cells, cl_z 16 wa_outs, wa_was, wa_rest, wa_line) :=
      ⟨by omega, rfl, rfl, trivial, ⟨15, by omega, rfl⟩, Or.inl ⟨rfl, fun h => absurd h (by decide), trivial⟩⟩
    have hdy : rn_dyn (zf_lines, zf_studied, zf_wrong, zf_wrongAt, p, 15, 0, 0, zf_nextLine, 0, za_kinds, za_firsts, za_seconds, za_thirds, za_inputs, za_home, za_depth, za_closer, za_mate, za_operands, za_varies, za_parted, za_variableVaries, za_same, za_fixed, za_worth, za_needed, za_variableNeeded, cl_z 192 za_values, cl_z 16 za_variables, cl_z 16 za_outputs, cl_z 4 za_cells, za_whole, za_waiting) (wf_lines, wf_known, wf_wrong, wf_place, wf_blocks, 0, 0, 15, 0, 0, 0, wa_ops, wa_as, wa_bs, wa_cs, wa_blockOf, wa_opener, wa_around, wa_other, wa_end, wa_open, wa_varied, wa_loose, wa_variedVariable, wa_stands, wa_number, wa_isConst, wa_needed, wa_inputs, cl_z 192 wa_values, cl_z 16 wa_variables, cl_z 4 wa_cells, cl_z 16 wa_outs, wa_was, wa_rest, wa_line) :=
      ⟨rfl, ⟨0, by omega, rfl⟩, rfl, rfl, fun q hq => (cl_lt _ hq).trans (cl_lt _ hq).symm, fun l hl k hk => (cl_lt _ (by omega)).trans (cl_lt _ (by omega)).symm, fun l hl k hk => (cl_lt _ (by omega)).trans (cl_lt _ (by omega)).symm, fun k hk => (cl_lt _ hk).trans (cl_lt _ hk).symm⟩
    obtain ⟨ydr, yon, yst, yag, yde, yva, yvr, yce, you, yws, yrs, yln, fd, fYw⟩ := fY hSy hpy hdy
    refine br_t (by rw [yw, hz]; decide) (cr_Y ⟨401, fYw _ ?_⟩)
    obtain ⟨d1, d2, d3, d4, d5, d6, d7, d8⟩ := fd
    exact h _ _ _ (rl_SR (K := K) (n := n) ⟨hW, el, es, hst⟩ ⟨yl, yk, yw, yp, ⟨e1, e2, e3, e4, e5⟩, Or.inr ⟨hg, hgY⟩, ⟨d1, d2, d3, d4, d5, d6, d7, d8⟩, rfl⟩)
  · obtain ⟨wf_lines, wf_known, wf_wrong, wf_place, wf_blocks, wf_steps, wf_dropped, wf_on, wf_next, wf_again, wf_depth, wa_ops, wa_as, wa_bs, wa_cs, wa_blockOf, wa_opener, wa_around, wa_other, wa_end, wa_open, wa_varied, wa_loose, wa_variedVariable, wa_stands, wa_number, wa_isConst, wa_needed, wa_inputs, wa_values, wa_variables, wa_cells, wa_outs, wa_was, wa_rest, wa_line⟩ := v'
    exact br_f (bad hz hy) (h _ _ _ (rl_SR hx hy))
end
