section
/-- X has studied -/
def xs_S (K : Nat → Nat) (n : Nat) (u : SX) : Prop := match u with
  | (f_lines, f_studied, f_wrong, f_wrongAt, f_brief, f_on, f_dropped, f_steps, f_nextLine, f_repeats, a_kinds, a_firsts, a_seconds, a_thirds, a_inputs, a_home, a_depth, a_closer, a_mate, a_operands, a_varies, a_parted, a_variableVaries, a_same, a_fixed, a_worth, a_needed, a_variableNeeded, a_values, a_variables, a_outputs, a_cells, a_whole, a_waiting) => pg_W K n a_kinds a_firsts ∧ f_lines = nI n ∧ f_studied = 1 ∧ (pg_bad K n a_firsts a_seconds a_thirds f_wrong f_wrongAt ∨ pg_X K n a_firsts a_seconds a_thirds f_wrong f_wrongAt a_home a_depth a_closer a_mate a_operands a_varies a_parted a_variableVaries a_same a_fixed a_worth a_needed)
/-- and Y has looked -/
def ys_S (K : Nat → Nat) (n : Nat) (u : SX) (v : SY) : Prop := match u, v with
  | (f_lines, f_studied, f_wrong, f_wrongAt, f_brief, f_on, f_dropped, f_steps, f_nextLine, f_repeats, a_kinds, a_firsts, a_seconds, a_thirds, a_inputs, a_home, a_depth, a_closer, a_mate, a_operands, a_varies, a_parted, a_variableVaries, a_same, a_fixed, a_worth, a_needed, a_variableNeeded, a_values, a_variables, a_outputs, a_cells, a_whole, a_waiting), (yf_lines, yf_known, yf_wrong, yf_place, yf_blocks, yf_steps, yf_dropped, yf_on, yf_next, yf_again, yf_depth, ya_ops, ya_as, ya_bs, ya_cs, ya_blockOf, ya_opener, ya_around, ya_other, ya_end, ya_open, ya_varied, ya_loose, ya_variedVariable, ya_stands, ya_number, ya_isConst, ya_needed, ya_inputs, ya_values, ya_variables, ya_cells, ya_outs, ya_was, ya_rest, ya_line) => yf_lines = nI n ∧ yf_known = 1 ∧ yf_wrong = f_wrong ∧ yf_place = f_wrongAt ∧ (ya_ops = a_kinds ∧ ya_as = a_firsts ∧ ya_bs = a_seconds ∧ ya_cs = a_thirds ∧ ya_inputs = a_inputs) ∧
    (pg_bad K n a_firsts a_seconds a_thirds f_wrong f_wrongAt ∨ (pg_X K n a_firsts a_seconds a_thirds f_wrong f_wrongAt a_home a_depth a_closer a_mate a_operands a_varies a_parted a_variableVaries a_same a_fixed a_worth a_needed ∧ pg_Y K n a_firsts a_seconds a_thirds yf_wrong yf_place ya_blockOf ya_opener ya_around ya_other ya_end ya_varied ya_loose ya_variedVariable ya_stands ya_isConst ya_number ya_needed)) ∧
    rn_dyn (f_lines, f_studied, f_wrong, f_wrongAt, f_brief, f_on, f_dropped, f_steps, f_nextLine, f_repeats, a_kinds, a_firsts, a_seconds, a_thirds, a_inputs, a_home, a_depth, a_closer, a_mate, a_operands, a_varies, a_parted, a_variableVaries, a_same, a_fixed, a_worth, a_needed, a_variableNeeded, a_values, a_variables, a_outputs, a_cells, a_whole, a_waiting) (yf_lines, yf_known, yf_wrong, yf_place, yf_blocks, yf_steps, yf_dropped, yf_on, yf_next, yf_again, yf_depth, ya_ops, ya_as, ya_bs, ya_cs, ya_blockOf, ya_opener, ya_around, ya_other, ya_end, ya_open, ya_varied, ya_loose, ya_variedVariable, ya_stands, ya_number, ya_isConst, ya_needed, ya_inputs, ya_values, ya_variables, ya_cells, ya_outs, ya_was, ya_rest, ya_line) ∧ yf_next = f_nextLine
/-- the relation -/
def rl_R (u : SX) (v : SY) : Prop := match u, v with
  | (f_lines, f_studied, f_wrong, f_wrongAt, f_brief, f_on, f_dropped, f_steps, f_nextLine, f_repeats, a_kinds, a_firsts, a_seconds, a_thirds, a_inputs, a_home, a_depth, a_closer, a_mate, a_operands, a_varies, a_parted, a_variableVaries, a_same, a_fixed, a_worth, a_needed, a_variableNeeded, a_values, a_variables, a_outputs, a_cells, a_whole, a_waiting), (yf_lines, yf_known, yf_wrong, yf_place, yf_blocks, yf_steps, yf_dropped, yf_on, yf_next, yf_again, yf_depth, ya_ops, ya_as, ya_bs, ya_cs, ya_blockOf, ya_opener, ya_around, ya_other, ya_end, ya_open, ya_varied, ya_loose, ya_variedVariable, ya_stands, ya_number, ya_isConst, ya_needed, ya_inputs, ya_values, ya_variables, ya_cells, ya_outs, ya_was, ya_rest, ya_line) => ∃ (K : Nat → Nat) (n : Nat), pg_W K n a_kinds a_firsts ∧ f_lines = nI n ∧ yf_lines = nI n ∧ (ya_ops = a_kinds ∧ ya_as = a_firsts ∧ ya_bs = a_seconds ∧ ya_cs = a_thirds ∧ ya_inputs = a_inputs) ∧
    ((f_studied = 0 ∧ yf_known = 0) ∨ (xs_S K n (f_lines, f_studied, f_wrong, f_wrongAt, f_brief, f_on, f_dropped, f_steps, f_nextLine, f_repeats, a_kinds, a_firsts, a_seconds, a_thirds, a_inputs, a_home, a_depth, a_closer, a_mate, a_operands, a_varies, a_parted, a_variableVaries, a_same, a_fixed, a_worth, a_needed, a_variableNeeded, a_values, a_variables, a_outputs, a_cells, a_whole, a_waiting) ∧ ys_S K n (f_lines, f_studied, f_wrong, f_wrongAt, f_brief, f_on, f_dropped, f_steps, f_nextLine, f_repeats, a_kinds, a_firsts, a_seconds, a_thirds, a_inputs, a_home, a_depth, a_closer, a_mate, a_operands, a_varies, a_parted, a_variableVaries, a_same, a_fixed, a_worth, a_needed, a_variableNeeded, a_values, a_variables, a_outputs, a_cells, a_whole, a_waiting) (yf_lines, yf_known, yf_wrong, yf_place, yf_blocks, yf_steps, yf_dropped, yf_on, yf_next, yf_again, yf_depth, ya_ops, ya_as, ya_bs, ya_cs, ya_blockOf, ya_opener, ya_around, ya_other, ya_end, ya_open, ya_varied, ya_loose, ya_variedVariable, ya_stands, ya_number, ya_isConst, ya_needed, ya_inputs, ya_values, ya_variables, ya_cells, ya_outs, ya_was, ya_rest, ya_line))) ∧ rn_dyn (f_lines, f_studied, f_wrong, f_wrongAt, f_brief, f_on, f_dropped, f_steps, f_nextLine, f_repeats, a_kinds, a_firsts, a_seconds, a_thirds, a_inputs, a_home, a_depth, a_closer, a_mate, a_operands, a_varies, a_parted, a_variableVaries, a_same, a_fixed, a_worth, a_needed, a_variableNeeded, a_values, a_variables, a_outputs, a_cells, a_whole, a_waiting) (yf_lines, yf_known, yf_wrong, yf_place, yf_blocks, yf_steps, yf_dropped, yf_on, yf_next, yf_again, yf_depth, ya_ops, ya_as, ya_bs, ya_cs, ya_blockOf, ya_opener, ya_around, ya_other, ya_end, ya_open, ya_varied, ya_loose, ya_variedVariable, ya_stands, ya_number, ya_isConst, ya_needed, ya_inputs, ya_values, ya_variables, ya_cells, ya_outs, ya_was, ya_rest, ya_line) ∧ yf_next = f_nextLine
end
section
variable {K : Nat → Nat} {n : Nat}
variable {f_lines f_studied f_wrong f_wrongAt f_brief f_on f_dropped f_steps f_nextLine f_repeats : Int32} {a_kinds a_firsts a_seconds a_thirds a_inputs a_home a_depth a_closer a_mate a_operands a_varies a_parted a_variableVaries a_same a_fixed a_worth a_needed a_variableNeeded a_values a_variables a_outputs a_cells a_whole a_waiting : Nat → Int32}
variable {yf_lines yf_known yf_wrong yf_place yf_blocks yf_steps yf_dropped yf_on yf_next yf_again yf_depth : Int32} {ya_ops ya_as ya_bs ya_cs ya_blockOf ya_opener ya_around ya_other ya_end ya_open ya_varied ya_loose ya_variedVariable ya_stands ya_number ya_isConst ya_needed ya_inputs ya_values ya_variables ya_cells ya_outs ya_was ya_rest ya_line : Nat → Int32}
theorem rl_SR (hx : xs_S K n (f_lines, f_studied, f_wrong, f_wrongAt, f_brief, f_on, f_dropped, f_steps, f_nextLine, f_repeats, a_kinds, a_firsts, a_seconds, a_thirds, a_inputs, a_home, a_depth, a_closer, a_mate, a_operands, a_varies, a_parted, a_variableVaries, a_same, a_fixed, a_worth, a_needed, a_variableNeeded, a_values, a_variables, a_outputs, a_cells, a_whole, a_waiting)) (hy : ys_S K n (f_lines, f_studied, f_wrong, f_wrongAt, f_brief, f_on, f_dropped, f_steps, f_nextLine, f_repeats, a_kinds, a_firsts, a_seconds, a_thirds, a_inputs, a_home, a_depth, a_closer, a_mate, a_operands, a_varies, a_parted, a_variableVaries, a_same, a_fixed, a_worth, a_needed, a_variableNeeded, a_values, a_variables, a_outputs, a_cells, a_whole, a_waiting) (yf_lines, yf_known, yf_wrong, yf_place, yf_blocks, yf_steps, yf_dropped, yf_on, yf_next, yf_again, yf_depth, ya_ops, ya_as, ya_bs, ya_cs, ya_blockOf, ya_opener, ya_around, ya_other, ya_end, ya_open, ya_varied, ya_loose, ya_variedVariable, ya_stands, ya_number, ya_isConst, ya_needed, ya_inputs, ya_values, ya_variables, ya_cells, ya_outs, ya_was, ya_rest, ya_line)) : rl_R (f_lines, f_studied, f_wrong, f_wrongAt, f_brief, f_on, f_dropped, f_steps, f_nextLine, f_repeats, a_kinds, a_firsts, a_seconds, a_thirds, a_inputs, a_home, a_depth, a_closer, a_mate, a_operands, a_varies, a_parted, a_variableVaries, a_same, a_fixed, a_worth, a_needed, a_variableNeeded, a_values, a_variables, a_outputs, a_cells, a_whole, a_waiting) (yf_lines, yf_known, yf_wrong, yf_place, yf_blocks, yf_steps, yf_dropped, yf_on, yf_next, yf_again, yf_depth, ya_ops, ya_as, ya_bs, ya_cs, ya_blockOf, ya_opener, ya_around, ya_other, ya_end, ya_open, ya_varied, ya_loose, ya_variedVariable, ya_stands, ya_number, ya_isConst, ya_needed, ya_inputs, ya_values, ya_variables, ya_cells, ya_outs, ya_was, ya_rest, ya_line) :=
  ⟨K, n, hx.1, hx.2.1, hy.1, hy.2.2.2.2.1, Or.inr ⟨hx, hy⟩, hy.2.2.2.2.2.2.1, hy.2.2.2.2.2.2.2⟩
theorem rl_study (I : rl_R (f_lines, f_studied, f_wrong, f_wrongAt, f_brief, f_on, f_dropped, f_steps, f_nextLine, f_repeats, a_kinds, a_firsts, a_seconds, a_thirds, a_inputs, a_home, a_depth, a_closer, a_mate, a_operands, a_varies, a_parted, a_variableVaries, a_same, a_fixed, a_worth, a_needed, a_variableNeeded, a_values, a_variables, a_outputs, a_cells, a_whole, a_waiting) (yf_lines, yf_known, yf_wrong, yf_place, yf_blocks, yf_steps, yf_dropped, yf_on, yf_next, yf_again, yf_depth, ya_ops, ya_as, ya_bs, ya_cs, ya_blockOf, ya_opener, ya_around, ya_other, ya_end, ya_open, ya_varied, ya_loose, ya_variedVariable, ya_stands, ya_number, ya_isConst, ya_needed, ya_inputs, ya_values, ya_variables, ya_cells, ya_outs, ya_was, ya_rest, ya_line)) {post : SX → Prop} (h : ∀ (K : Nat → Nat) (n : Nat) (u : SX), xs_S K n u → (∀ postY : SY → Prop, (∀ v, ys_S K n u v → postY v) → wpY_look postY (yf_lines, yf_known, yf_wrong, yf_place, yf_blocks, yf_steps, yf_dropped, yf_on, yf_next, yf_again, yf_depth, ya_ops, ya_as, ya_bs, ya_cs, ya_blockOf, ya_opener, ya_around, ya_other, ya_end, ya_open, ya_varied, ya_loose, ya_variedVariable, ya_stands, ya_number, ya_isConst, ya_needed, ya_inputs, ya_values, ya_variables, ya_cells, ya_outs, ya_was, ya_rest, ya_line)) → post u) : wpX_study post (f_lines, f_studied, f_wrong, f_wrongAt, f_brief, f_on, f_dropped, f_steps, f_nextLine, f_repeats, a_kinds, a_firsts, a_seconds, a_thirds, a_inputs, a_home, a_depth, a_closer, a_mate, a_operands, a_varies, a_parted, a_variableVaries, a_same, a_fixed, a_worth, a_needed, a_variableNeeded, a_values, a_variables, a_outputs, a_cells, a_whole, a_waiting) := by
  obtain ⟨K, n, hW, el, el', ⟨e1, e2, e3, e4, e5⟩, hst, hd, hnx⟩ := I
  rcases hst with ⟨es, ek⟩ | ⟨hx, hy⟩
  · have hWy : pg_W K n ya_ops ya_as := by rw [e1, e2]; exact hW
    subst el es el' ek
    refine pg_study (K := K) (n := n) hW (fun w p home depth closer mate operands hb => h K n _ ⟨hW, rfl, rfl, Or.inl hb⟩ (fun postY hy => ?_)) (fun w p home depth closer mate operands va pa vv same fixed worth nd vn hg => h K n _ ⟨hW, rfl, rfl, Or.inr hg⟩ (fun postY hy => ?_))
    · refine pg_look (K := K) (n := n) hWy (fun w' p' bl blockOf opener around other end_ opn hb' => hy _ ?_) (fun w' p' bl blockOf opener around other end_ opn va lo vv stands isc num nd hg' => ?_)
      · rw [e2, e3, e4] at hb'
        obtain ⟨ew, ep⟩ := pg_bad_uniq hb hb'
        exact ⟨rfl, rfl, ew.symm, ep.symm, ⟨e1, e2, e3, e4, e5⟩, Or.inl hb, hd, hnx⟩
      · rw [e2, e3, e4] at hg'
        exact (pg_bad_good hb hg'.1 hg'.2.1).elim
    · refine pg_look (K := K) (n := n) hWy (fun w' p' bl blockOf opener around other end_ opn hb' => ?_) (fun w' p' bl blockOf opener around other end_ opn va' lo vv' stands isc num nd' hg' => hy _ ?_)
      · rw [e2, e3, e4] at hb'
        exact (pg_bad_good hb' hg.1 hg.2.1).elim
      · rw [e2, e3, e4] at hg'
        obtain ⟨⟨ew, ep⟩, _⟩ := pg_join hW.1 hg hg'
        exact ⟨rfl, rfl, ew.symm, ep.symm, ⟨e1, e2, e3, e4, e5⟩, Or.inr ⟨hg, hg'⟩, hd, hnx⟩
  · have es := hx.2.2.1
    have ek := hy.2.1
    exact br_f (by rw [es]; decide) (h K n _ hx (fun postY hY => br_f (by rw [ek]; decide) (hY _ hy)))
theorem rl_inpE (I : rl_R (f_lines, f_studied, f_wrong, f_wrongAt, f_brief, f_on, f_dropped, f_steps, f_nextLine, f_repeats, a_kinds, a_firsts, a_seconds, a_thirds, a_inputs, a_home, a_depth, a_closer, a_mate, a_operands, a_varies, a_parted, a_variableVaries, a_same, a_fixed, a_worth, a_needed, a_variableNeeded, a_values, a_variables, a_outputs, a_cells, a_whole, a_waiting) (yf_lines, yf_known, yf_wrong, yf_place, yf_blocks, yf_steps, yf_dropped, yf_on, yf_next, yf_again, yf_depth, ya_ops, ya_as, ya_bs, ya_cs, ya_blockOf, ya_opener, ya_around, ya_other, ya_end, ya_open, ya_varied, ya_loose, ya_variedVariable, ya_stands, ya_number, ya_isConst, ya_needed, ya_inputs, ya_values, ya_variables, ya_cells, ya_outs, ya_was, ya_rest, ya_line)) : ya_inputs = a_inputs := by
  obtain ⟨K, n, hW, el, el', ⟨c1, c2, c3, c4, c5⟩, hst, hd, hnx⟩ := I
  exact c5
theorem rl_inp {inp inp' : Nat → Int32} (I : rl_R (f_lines, f_studied, f_wrong, f_wrongAt, f_brief, f_on, f_dropped, f_steps, f_nextLine, f_repeats, a_kinds, a_firsts, a_seconds, a_thirds, a_inputs, a_home, a_depth, a_closer, a_mate, a_operands, a_varies, a_parted, a_variableVaries, a_same, a_fixed, a_worth, a_needed, a_variableNeeded, a_values, a_variables, a_outputs, a_cells, a_whole, a_waiting) (yf_lines, yf_known, yf_wrong, yf_place, yf_blocks, yf_steps, yf_dropped, yf_on, yf_next, yf_again, yf_depth, ya_ops, ya_as, ya_bs, ya_cs, ya_blockOf, ya_opener, ya_around, ya_other, ya_end, ya_open, ya_varied, ya_loose, ya_variedVariable, ya_stands, ya_number, ya_isConst, ya_needed, ya_inputs, ya_values, ya_variables, ya_cells, ya_outs, ya_was, ya_rest, ya_line)) (e : inp' = inp) : rl_R (f_lines, f_studied, f_wrong, f_wrongAt, f_brief, f_on, f_dropped, f_steps, f_nextLine, f_repeats, a_kinds, a_firsts, a_seconds, a_thirds, inp, a_home, a_depth, a_closer, a_mate, a_operands, a_varies, a_parted, a_variableVaries, a_same, a_fixed, a_worth, a_needed, a_variableNeeded, a_values, a_variables, a_outputs, a_cells, a_whole, a_waiting) (yf_lines, yf_known, yf_wrong, yf_place, yf_blocks, yf_steps, yf_dropped, yf_on, yf_next, yf_again, yf_depth, ya_ops, ya_as, ya_bs, ya_cs, ya_blockOf, ya_opener, ya_around, ya_other, ya_end, ya_open, ya_varied, ya_loose, ya_variedVariable, ya_stands, ya_number, ya_isConst, ya_needed, inp', ya_values, ya_variables, ya_cells, ya_outs, ya_was, ya_rest, ya_line) := by
  obtain ⟨K, n, hW, el, el', ⟨c1, c2, c3, c4, c5⟩, hst, hd, hnx⟩ := I
  obtain ⟨d1, d2, d3, d4, d5, d6, d7, d8⟩ := hd
  refine ⟨K, n, hW, el, el', ⟨c1, c2, c3, c4, e⟩, ?_, ⟨d1, d2, d3, d4, d5, d6, d7, d8⟩, hnx⟩
  rcases hst with hs | ⟨hx, hy⟩
  · exact Or.inl hs
  · obtain ⟨x1, x2, x3, x4⟩ := hx
    obtain ⟨y1, y2, y3, y4, _, y6, _, y8⟩ := hy
    exact Or.inr ⟨⟨x1, x2, x3, x4⟩, ⟨y1, y2, y3, y4, ⟨c1, c2, c3, c4, e⟩, y6, ⟨d1, d2, d3, d4, d5, d6, d7, d8⟩, y8⟩⟩
end
section
variable {u : SX} {v : SY}
theorem g_check {Q : Int32 → SX → Int32 → SY → Prop} (I : rl_R u v) (h : ∀ r u' v', rl_R u' v' → Q r u' r v') : wpX_check (fun r u' => wpY_check (fun r' v' => Q r u' r' v') v) u := by
  obtain ⟨f_lines, f_studied, f_wrong, f_wrongAt, f_brief, f_on, f_dropped, f_steps, f_nextLine, f_repeats, a_kinds, a_firsts, a_seconds, a_thirds, a_inputs, a_home, a_depth, a_closer, a_mate, a_operands, a_varies, a_parted, a_variableVaries, a_same, a_fixed, a_worth, a_needed, a_variableNeeded, a_values, a_variables, a_outputs, a_cells, a_whole, a_waiting⟩ := u
  obtain ⟨yf_lines, yf_known, yf_wrong, yf_place, yf_blocks, yf_steps, yf_dropped, yf_on, yf_next, yf_again, yf_depth, ya_ops, ya_as, ya_bs, ya_cs, ya_blockOf, ya_opener, ya_around, ya_other, ya_end, ya_open, ya_varied, ya_loose, ya_variedVariable, ya_stands, ya_number, ya_isConst, ya_needed, ya_inputs, ya_values, ya_variables, ya_cells, ya_outs, ya_was, ya_rest, ya_line⟩ := v
  unfold wpX_check wpY_check
  refine rl_study I (fun K n u' hx hY => ?_)
  obtain ⟨zf_lines, zf_studied, zf_wrong, zf_wrongAt, zf_brief, zf_on, zf_dropped, zf_steps, zf_nextLine, zf_repeats, za_kinds, za_firsts, za_seconds, za_thirds, za_inputs, za_home, za_depth, za_closer, za_mate, za_operands, za_varies, za_parted, za_variableVaries, za_same, za_fixed, za_worth, za_needed, za_variableNeeded, za_values, za_variables, za_outputs, za_cells, za_whole, za_waiting⟩ := u'
  refine hY _ (fun v' hy => ?_)
  obtain ⟨wf_lines, wf_known, wf_wrong, wf_place, wf_blocks, wf_steps, wf_dropped, wf_on, wf_next, wf_again, wf_depth, wa_ops, wa_as, wa_bs, wa_cs, wa_blockOf, wa_opener, wa_around, wa_other, wa_end, wa_open, wa_varied, wa_loose, wa_variedVariable, wa_stands, wa_number, wa_isConst, wa_needed, wa_inputs, wa_values, wa_variables, wa_cells, wa_outs, wa_was, wa_rest, wa_line⟩ := v'
  have e : wf_wrong = zf_wrong := hy.2.2.1
  have := h zf_wrong _ _ (rl_SR hx hy)
  rw [← e] at this ⊢
  exact this
theorem g_place {Q : Int32 → SX → Int32 → SY → Prop} (I : rl_R u v) (h : ∀ r u' v', rl_R u' v' → Q r u' r v') : wpX_place (fun r u' => wpY_place (fun r' v' => Q r u' r' v') v) u := by
  obtain ⟨f_lines, f_studied, f_wrong, f_wrongAt, f_brief, f_on, f_dropped, f_steps, f_nextLine, f_repeats, a_kinds, a_firsts, a_seconds, a_thirds, a_inputs, a_home, a_depth, a_closer, a_mate, a_operands, a_varies, a_parted, a_variableVaries, a_same, a_fixed, a_worth, a_needed, a_variableNeeded, a_values, a_variables, a_outputs, a_cells, a_whole, a_waiting⟩ := u
  obtain ⟨yf_lines, yf_known, yf_wrong, yf_place, yf_blocks, yf_steps, yf_dropped, yf_on, yf_next, yf_again, yf_depth, ya_ops, ya_as, ya_bs, ya_cs, ya_blockOf, ya_opener, ya_around, ya_other, ya_end, ya_open, ya_varied, ya_loose, ya_variedVariable, ya_stands, ya_number, ya_isConst, ya_needed, ya_inputs, ya_values, ya_variables, ya_cells, ya_outs, ya_was, ya_rest, ya_line⟩ := v
  unfold wpX_place wpY_place
  refine rl_study I (fun K n u' hx hY => ?_)
  obtain ⟨zf_lines, zf_studied, zf_wrong, zf_wrongAt, zf_brief, zf_on, zf_dropped, zf_steps, zf_nextLine, zf_repeats, za_kinds, za_firsts, za_seconds, za_thirds, za_inputs, za_home, za_depth, za_closer, za_mate, za_operands, za_varies, za_parted, za_variableVaries, za_same, za_fixed, za_worth, za_needed, za_variableNeeded, za_values, za_variables, za_outputs, za_cells, za_whole, za_waiting⟩ := u'
  refine hY _ (fun v' hy => ?_)
  obtain ⟨wf_lines, wf_known, wf_wrong, wf_place, wf_blocks, wf_steps, wf_dropped, wf_on, wf_next, wf_again, wf_depth, wa_ops, wa_as, wa_bs, wa_cs, wa_blockOf, wa_opener, wa_around, wa_other, wa_end, wa_open, wa_varied, wa_loose, wa_variedVariable, wa_stands, wa_number, wa_isConst, wa_needed, wa_inputs, wa_values, wa_variables, wa_cells, wa_outs, wa_was, wa_rest, wa_line⟩ := v'
  have e : wf_place = zf_wrongAt := hy.2.2.2.1
  subst e
  exact h _ _ _ (rl_SR hx hy)
theorem g_wipe {Q : Int32 → SX → Int32 → SY → Prop} (I : rl_R u v) (h : ∀ r u' v', rl_R u' v' → Q r u' r v') : wpX_wipe (fun r u' => wpY_wipe (fun r' v' => Q r u' r' v') v) u := by
  obtain ⟨f_lines, f_studied, f_wrong, f_wrongAt, f_brief, f_on, f_dropped, f_steps, f_nextLine, f_repeats, a_kinds, a_firsts, a_seconds, a_thirds, a_inputs, a_home, a_depth, a_closer, a_mate, a_operands, a_varies, a_parted, a_variableVaries, a_same, a_fixed, a_worth, a_needed, a_variableNeeded, a_values, a_variables, a_outputs, a_cells, a_whole, a_waiting⟩ := u
  obtain ⟨yf_lines, yf_known, yf_wrong, yf_place, yf_blocks, yf_steps, yf_dropped, yf_on, yf_next, yf_again, yf_depth, ya_ops, ya_as, ya_bs, ya_cs, ya_blockOf, ya_opener, ya_around, ya_other, ya_end, ya_open, ya_varied, ya_loose, ya_variedVariable, ya_stands, ya_number, ya_isConst, ya_needed, ya_inputs, ya_values, ya_variables, ya_cells, ya_outs, ya_was, ya_rest, ya_line⟩ := v
  obtain ⟨K, n, hW, el, el', he, hst, hd, hnx⟩ := I
  have e : yf_lines = f_lines := el'.trans el.symm
  have := h f_lines (0, 0, f_wrong, f_wrongAt, f_brief, f_on, f_dropped, f_steps, f_nextLine, f_repeats, a_kinds, a_firsts, a_seconds, a_thirds, a_inputs, a_home, a_depth, a_closer, a_mate, a_operands, a_varies, a_parted, a_variableVaries, a_same, a_fixed, a_worth, a_needed, a_variableNeeded, a_values, a_variables, a_outputs, a_cells, a_whole, a_waiting) (0, 0, yf_wrong, yf_place, yf_blocks, yf_steps, yf_dropped, yf_on, yf_next, yf_again, yf_depth, ya_ops, ya_as, ya_bs, ya_cs, ya_blockOf, ya_opener, ya_around, ya_other, ya_end, ya_open, ya_varied, ya_loose, ya_variedVariable, ya_stands, ya_number, ya_isConst, ya_needed, ya_inputs, ya_values, ya_variables, ya_cells, ya_outs, ya_was, ya_rest, ya_line) ⟨K, 0, ⟨by omega, fun j hj => by omega, fun j hj => by omega⟩, rfl, rfl, he, Or.inl ⟨rfl, rfl⟩, hd, hnx⟩
  show Q f_lines _ yf_lines _
  rw [e]
  exact this
theorem g_add {Q : Int32 → SX → Int32 → SY → Prop} (I : rl_R u v) (h : ∀ r u' v', rl_R u' v' → Q r u' r v') (v1 v2 v3 v4 : Int32) : wpX_add (fun r u' => wpY_add (fun r' v' => Q r u' r' v') v v1 v2 v3 v4) u v1 v2 v3 v4 := by
  obtain ⟨f_lines, f_studied, f_wrong, f_wrongAt, f_brief, f_on, f_dropped, f_steps, f_nextLine, f_repeats, a_kinds, a_firsts, a_seconds, a_thirds, a_inputs, a_home, a_depth, a_closer, a_mate, a_operands, a_varies, a_parted, a_variableVaries, a_same, a_fixed, a_worth, a_needed, a_variableNeeded, a_values, a_variables, a_outputs, a_cells, a_whole, a_waiting⟩ := u
  obtain ⟨yf_lines, yf_known, yf_wrong, yf_place, yf_blocks, yf_steps, yf_dropped, yf_on, yf_next, yf_again, yf_depth, ya_ops, ya_as, ya_bs, ya_cs, ya_blockOf, ya_opener, ya_around, ya_other, ya_end, ya_open, ya_varied, ya_loose, ya_variedVariable, ya_stands, ya_number, ya_isConst, ya_needed, ya_inputs, ya_values, ya_variables, ya_cells, ya_outs, ya_was, ya_rest, ya_line⟩ := v
  have I0 := I
  obtain ⟨K, n, hW, el, el', ⟨e1, e2, e3, e4, e5⟩, hst, hd, hnx⟩ := I
  subst el el'
  have hn := hW.1
  refine ad_X hn v1 v2 v3 v4 (fun hb => ?_) (fun hb hf => ?_) (fun hb hf => ?_)
  · exact ad_Y hn v1 v2 v3 v4 (fun _ => h _ _ _ I0) (fun h' => absurd hb h') (fun h' => absurd hb h')
  · exact ad_Y hn v1 v2 v3 v4 (fun h' => absurd h' hb) (fun _ _ => h _ _ _ I0) (fun _ h' => absurd h' (by omega))
  · refine ad_Y hn v1 v2 v3 v4 (fun h' => absurd h' hb) (fun _ h' => absurd h' (by omega)) (fun _ _ => h _ _ _ ?_)
    have hop : ∃ k, k ≤ 25 ∧ v1 = nI k := by
      rcases pk_ix v1 (show 26 < 2 ^ 31 by omega) with h0 | h0 | ⟨k, hk, e⟩
      · exact absurd (Or.inl h0) hb
      · refine absurd (Or.inr (Or.inl ?_)) hb
        rw [Int32.lt_iff_toInt_lt]
        rw [Int32.le_iff_toInt_le, nI_toInt (by omega)] at h0
        have : (25 : Int32).toInt = 25 := by decide
        omega
      · exact ⟨k, by omega, e⟩
    obtain ⟨k, hk, ek⟩ := hop
    have few : (k = 1 ∨ k = 11 ∨ k = 16 ∨ k = 17 ∨ k = 18) → ∃ a, a < 4 ∧ v2 = nI a := fun hf => by
      have hf' : v1 = 1 ∨ v1 = 11 ∨ v1 = 16 ∨ v1 = 17 ∨ v1 = 18 := by
        rcases hf with r | r | r | r | r <;> subst r <;> simp only [ek] <;> decide
      rcases ez_4 v2 with h0 | ⟨a, ha, e⟩
      · exact absurd (Or.inr (Or.inr ⟨hf', h0⟩)) hb
      · exact ⟨a, ha, e⟩
    refine ⟨fun j => if j = n then k else K j, n + 1, ⟨by omega, fun j hj => ?_, fun j hj => ?_⟩, rfl, rfl, ⟨by rw [e1], by rw [e2], by rw [e3], by rw [e4], e5⟩, Or.inl ⟨rfl, rfl⟩, hd, hnx⟩
    · dsimp only
      by_cases e : j = n
      · subst e; rw [pk_us, if_pos rfl]; exact ⟨ek, hk⟩
      · rw [pk_un e, if_neg e]; exact hW.2.1 j (by omega)
    · dsimp only
      by_cases e : j = n
      · subst e; rw [pk_us, if_pos rfl]; exact few
      · rw [pk_un e, if_neg e]; exact hW.2.2 j (by omega)
theorem g_input {Q : Int32 → SX → Int32 → SY → Prop} (I : rl_R u v) (h : ∀ r u' v', rl_R u' v' → Q r u' r v') (v1 v2 v3 : Int32) : wpX_input (fun r u' => wpY_input (fun r' v' => Q r u' r' v') v v1 v2 v3) u v1 v2 v3 := by
  obtain ⟨f_lines, f_studied, f_wrong, f_wrongAt, f_brief, f_on, f_dropped, f_steps, f_nextLine, f_repeats, a_kinds, a_firsts, a_seconds, a_thirds, a_inputs, a_home, a_depth, a_closer, a_mate, a_operands, a_varies, a_parted, a_variableVaries, a_same, a_fixed, a_worth, a_needed, a_variableNeeded, a_values, a_variables, a_outputs, a_cells, a_whole, a_waiting⟩ := u
  obtain ⟨yf_lines, yf_known, yf_wrong, yf_place, yf_blocks, yf_steps, yf_dropped, yf_on, yf_next, yf_again, yf_depth, ya_ops, ya_as, ya_bs, ya_cs, ya_blockOf, ya_opener, ya_around, ya_other, ya_end, ya_open, ya_varied, ya_loose, ya_variedVariable, ya_stands, ya_number, ya_isConst, ya_needed, ya_inputs, ya_values, ya_variables, ya_cells, ya_outs, ya_was, ya_rest, ya_line⟩ := v
  have no : ∀ {p : Int32} {l : Nat}, l < 4 → p = nI l → (p < 0 ∨ 4 ≤ p) → False := fun hl e h => by
    subst e; exact h.elim (ez_n4 hl).1 (ez_n4 hl).2.1
  have inj : ∀ {p : Int32} {l l' : Nat}, l < 4 → l' < 4 → p = nI l → p = nI l' → l = l' := fun hl hl' e e' => by
    rw [e] at e'
    exact (nI_eq (by omega) (by omega)).mp e'
  refine in_X _ _ _ (fun hb => ?_) (fun l k hl hk e1 e2 => ?_)
  · exact in_Y _ _ _ (fun _ => h _ _ _ I) (fun l k hl hk e1 e2 => absurd hb (fun h => h.elim (no hl e1) (no hk e2)))
  · refine in_Y _ _ _ (fun hb => absurd hb (fun h => h.elim (no hl e1) (no hk e2))) (fun l' k' hl' hk' e1' e2' => h _ _ _ ?_)
    cases inj hl hl' e1 e1'
    cases inj hk hk' e2 e2'
    exact rl_inp I (by rw [rl_inpE I])
theorem g_out {Q : Int32 → Int32 → Prop} (I : rl_R u v) (h : ∀ r, Q r r) (v1 v2 : Int32) : wpX_out (fun r => wpY_out (fun r' => Q r r') v v1 v2) u v1 v2 := by
  obtain ⟨f_lines, f_studied, f_wrong, f_wrongAt, f_brief, f_on, f_dropped, f_steps, f_nextLine, f_repeats, a_kinds, a_firsts, a_seconds, a_thirds, a_inputs, a_home, a_depth, a_closer, a_mate, a_operands, a_varies, a_parted, a_variableVaries, a_same, a_fixed, a_worth, a_needed, a_variableNeeded, a_values, a_variables, a_outputs, a_cells, a_whole, a_waiting⟩ := u
  obtain ⟨yf_lines, yf_known, yf_wrong, yf_place, yf_blocks, yf_steps, yf_dropped, yf_on, yf_next, yf_again, yf_depth, ya_ops, ya_as, ya_bs, ya_cs, ya_blockOf, ya_opener, ya_around, ya_other, ya_end, ya_open, ya_varied, ya_loose, ya_variedVariable, ya_stands, ya_number, ya_isConst, ya_needed, ya_inputs, ya_values, ya_variables, ya_cells, ya_outs, ya_was, ya_rest, ya_line⟩ := v
  obtain ⟨K, n, _, _, _, _, _, ⟨d1, d2, d3, d4, d5, d6, d7, d8⟩, hnx⟩ := I
  have no : ∀ {p : Int32} {l : Nat}, l < 4 → p = nI l → (p < 0 ∨ 4 ≤ p) → False := fun hl e h => by
    subst e; exact h.elim (ez_n4 hl).1 (ez_n4 hl).2.1
  have inj : ∀ {p : Int32} {l l' : Nat}, l < 4 → l' < 4 → p = nI l → p = nI l' → l = l' := fun hl hl' e e' => by
    rw [e] at e'
    exact (nI_eq (by omega) (by omega)).mp e'
  refine ou_X _ _ (fun hb => ?_) (fun l k hl hk e1 e2 => ?_)
  · exact ou_Y _ _ (fun _ => h _) (fun l k hl hk e1 e2 => absurd hb (fun h => h.elim (no hl e1) (no hk e2)))
  · refine ou_Y _ _ (fun hb => absurd hb (fun h => h.elim (no hl e1) (no hk e2))) (fun l' k' hl' hk' e1' e2' => ?_)
    cases inj hl hl' e1 e1'
    cases inj hk hk' e2 e2'
    rw [← d7 l hl k hk]; exact h _
theorem g_kept {Q : Int32 → Int32 → Prop} (I : rl_R u v) (h : ∀ r, Q r r) (v1 v2 : Int32) : wpX_kept (fun r => wpY_kept (fun r' => Q r r') v v1 v2) u v1 v2 := by
  obtain ⟨f_lines, f_studied, f_wrong, f_wrongAt, f_brief, f_on, f_dropped, f_steps, f_nextLine, f_repeats, a_kinds, a_firsts, a_seconds, a_thirds, a_inputs, a_home, a_depth, a_closer, a_mate, a_operands, a_varies, a_parted, a_variableVaries, a_same, a_fixed, a_worth, a_needed, a_variableNeeded, a_values, a_variables, a_outputs, a_cells, a_whole, a_waiting⟩ := u
  obtain ⟨yf_lines, yf_known, yf_wrong, yf_place, yf_blocks, yf_steps, yf_dropped, yf_on, yf_next, yf_again, yf_depth, ya_ops, ya_as, ya_bs, ya_cs, ya_blockOf, ya_opener, ya_around, ya_other, ya_end, ya_open, ya_varied, ya_loose, ya_variedVariable, ya_stands, ya_number, ya_isConst, ya_needed, ya_inputs, ya_values, ya_variables, ya_cells, ya_outs, ya_was, ya_rest, ya_line⟩ := v
  obtain ⟨K, n, _, _, _, _, _, ⟨d1, d2, d3, d4, d5, d6, d7, d8⟩, hnx⟩ := I
  have no : ∀ {p : Int32} {l : Nat}, l < 4 → p = nI l → (p < 0 ∨ 4 ≤ p) → False := fun hl e h => by
    subst e; exact h.elim (ez_n4 hl).1 (ez_n4 hl).2.1
  have no8 : ∀ {p : Int32} {l : Nat}, l < 8 → p = nI l → (p < 0 ∨ 8 ≤ p) → False := fun hl e h => by
    subst e; exact h.elim (nI_pos (by omega)) (nI_ge (b := 8) hl (by decide))
  have inj : ∀ {p : Int32} {l l' : Nat}, l < 8 → l' < 8 → p = nI l → p = nI l' → l = l' := fun hl hl' e e' => by
    rw [e] at e'
    exact (nI_eq (by omega) (by omega)).mp e'
  refine ke_X _ _ (fun hb => ?_) (fun l k hl hk e1 e2 => ?_) (fun l k hl hk e1 e2 => ?_)
  · exact ke_Y _ _ (fun _ => h _) (fun l k hl hk e1 e2 => absurd hb (fun h => h.elim (no hl e1) (no8 (by omega) e2))) (fun l k hl hk e1 e2 => absurd hb (fun h => h.elim (no hl e1) (no8 (by omega) e2)))
  · refine ke_Y _ _ (fun hb => absurd hb (fun h => h.elim (no hl e1) (no8 (by omega) e2))) (fun l' k' hl' hk' e1' e2' => ?_) (fun l' k' hl' hk' e1' e2' => ?_)
    · cases inj (by omega) (by omega) e1 e1'
      cases inj (by omega) (by omega) e2 e2'
      rw [← d6 l hl k hk]; exact h _
    · have := inj (by omega) (by omega) e2 e2'
      omega
  · refine ke_Y _ _ (fun hb => absurd hb (fun h => h.elim (no hl e1) (no8 (by omega) e2))) (fun l' k' hl' hk' e1' e2' => ?_) (fun l' k' hl' hk' e1' e2' => ?_)
    · have := inj (by omega) (by omega) e2 e2'
      omega
    · have := inj (by omega) (by omega) e2 e2'
      cases (show k = k' by omega)
      rw [← d8 k hk]; exact h _
theorem g_state {Q : Int32 → Int32 → Prop} (h : ∀ r r', Q r r') (v1 : Int32) : wpX_state (fun r => wpY_state (fun r' => Q r r') v v1) u v1 := by
  obtain ⟨f_lines, f_studied, f_wrong, f_wrongAt, f_brief, f_on, f_dropped, f_steps, f_nextLine, f_repeats, a_kinds, a_firsts, a_seconds, a_thirds, a_inputs, a_home, a_depth, a_closer, a_mate, a_operands, a_varies, a_parted, a_variableVaries, a_same, a_fixed, a_worth, a_needed, a_variableNeeded, a_values, a_variables, a_outputs, a_cells, a_whole, a_waiting⟩ := u
  obtain ⟨yf_lines, yf_known, yf_wrong, yf_place, yf_blocks, yf_steps, yf_dropped, yf_on, yf_next, yf_again, yf_depth, ya_ops, ya_as, ya_bs, ya_cs, ya_blockOf, ya_opener, ya_around, ya_other, ya_end, ya_open, ya_varied, ya_loose, ya_variedVariable, ya_stands, ya_number, ya_isConst, ya_needed, ya_inputs, ya_values, ya_variables, ya_cells, ya_outs, ya_was, ya_rest, ya_line⟩ := v
  refine sa_X _ (fun _ => ?_) (fun _ => ?_) (fun _ => ?_) (fun _ => ?_) (fun _ => ?_) (fun _ => ?_) <;> exact sa_Y _ (fun _ => h _ _) (fun _ => h _ _) (fun _ => h _ _) (fun _ => h _ _) (fun _ => h _ _) (fun _ => h _ _)
end
