section
variable {f_lines f_studied f_wrong f_wrongAt f_brief f_on f_dropped f_steps f_nextLine f_repeats : Int32} {a_kinds a_firsts a_seconds a_thirds a_inputs a_home a_depth a_closer a_mate a_operands a_varies a_parted a_variableVaries a_same a_fixed a_worth a_needed a_variableNeeded a_values a_variables a_outputs a_cells a_whole a_waiting : Nat → Int32}
variable {yf_lines yf_known yf_wrong yf_place yf_blocks yf_steps yf_dropped yf_on yf_next yf_again yf_depth : Int32} {ya_ops ya_as ya_bs ya_cs ya_blockOf ya_opener ya_around ya_other ya_end ya_open ya_varied ya_loose ya_variedVariable ya_stands ya_number ya_isConst ya_needed ya_inputs ya_values ya_variables ya_cells ya_outs ya_was ya_rest ya_line : Nat → Int32}
/-- zero below N -/
def cl_z (N : Nat) (a : Nat → Int32) : Nat → Int32 := fun j => if j < N then 0 else a j
theorem cl_0 (a : Nat → Int32) : cl_z 0 a = a := by funext j; simp [cl_z]
theorem cl_s (i : Nat) (a : Nat → Int32) : upd (cl_z i a) i 0 = cl_z (i + 1) a := by
  funext j; simp only [upd, cl_z]
  by_cases h : j = i
  · simp [h]
  · by_cases h2 : j < i
    · simp [h2, show j < i + 1 by omega]
    · simp [h, h2, show ¬ j < i + 1 by omega]
theorem cl_k {i N : Nat} (h : i < N) (a : Nat → Int32) : upd (cl_z N a) i 0 = cl_z N a := by
  funext j; simp only [upd, cl_z]
  by_cases e : j = i
  · simp [e, h]
  · simp [e]
theorem cl_lt {j N : Nat} (a : Nat → Int32) (h : j < N) : cl_z N a j = 0 := if_pos h
theorem cr_X52 {post : SX → Prop} (h : post (f_lines, f_studied, f_wrong, f_wrongAt, f_brief, 15, 0, 0, f_nextLine, 0, a_kinds, a_firsts, a_seconds, a_thirds, a_inputs, a_home, a_depth, a_closer, a_mate, a_operands, a_varies, a_parted, a_variableVaries, a_same, a_fixed, a_worth, a_needed, a_variableNeeded, a_values, a_variables, a_outputs, cl_z 4 a_cells, a_whole, a_waiting)) : ∀ d i : Nat, i + d = 4 → wX_clearRun_52 post f_lines f_studied f_wrong f_wrongAt f_brief f_on f_dropped f_steps f_nextLine f_repeats (d + 1) (nI i) a_kinds a_firsts a_seconds a_thirds a_inputs a_home a_depth a_closer a_mate a_operands a_varies a_parted a_variableVaries a_same a_fixed a_worth a_needed a_variableNeeded a_values a_variables a_outputs (cl_z i a_cells) a_whole a_waiting := by
  intro d
  induction d with
  | zero => intro i hi; cases (show i = 4 by omega); exact br_t (by decide) h
  | succ d ih =>
    intro i hi
    exact br_f (nI_ge (b := 4) (by omega) (by decide)) ⟨vp_in_nI (by omega) (by omega), nm_r (by rw [nI_clamp (by omega)]; exact cl_s i _) (nm_r (nI_1 i) (ih (i + 1) (by omega)))⟩
theorem cr_X24 {post : SX → Prop} (h : post (f_lines, f_studied, f_wrong, f_wrongAt, f_brief, 15, 0, 0, f_nextLine, 0, a_kinds, a_firsts, a_seconds, a_thirds, a_inputs, a_home, a_depth, a_closer, a_mate, a_operands, a_varies, a_parted, a_variableVaries, a_same, a_fixed, a_worth, a_needed, a_variableNeeded, a_values, cl_z 16 a_variables, cl_z 16 a_outputs, cl_z 4 a_cells, a_whole, a_waiting)) : ∀ d i : Nat, i + d = 16 → wX_clearRun_24 post f_lines f_studied f_wrong f_wrongAt f_brief f_on f_dropped f_steps f_nextLine f_repeats (d + 1) (nI i) a_kinds a_firsts a_seconds a_thirds a_inputs a_home a_depth a_closer a_mate a_operands a_varies a_parted a_variableVaries a_same a_fixed a_worth a_needed a_variableNeeded a_values (cl_z i a_variables) (cl_z i a_outputs) a_cells a_whole a_waiting := by
  intro d
  induction d with
  | zero =>
    intro i hi
    cases (show i = 16 by omega)
    exact br_t (by decide) ⟨5, by rw [← cl_0 a_cells]; exact cr_X52 h 4 0 rfl⟩
  | succ d ih =>
    intro i hi
    exact br_f (nI_ge (b := 16) (by omega) (by decide)) ⟨vp_in_nI (by omega) (by omega), nm_r (by rw [nI_clamp (by omega)]; exact cl_s i _) ⟨vp_in_nI (by omega) (by omega), nm_r (by rw [nI_clamp (by omega)]; exact cl_s i _) (nm_r (nI_1 i) (ih (i + 1) (by omega)))⟩⟩
theorem cr_X2 {post : SX → Prop} (h : post (f_lines, f_studied, f_wrong, f_wrongAt, f_brief, 15, 0, 0, f_nextLine, 0, a_kinds, a_firsts, a_seconds, a_thirds, a_inputs, a_home, a_depth, a_closer, a_mate, a_operands, a_varies, a_parted, a_variableVaries, a_same, a_fixed, a_worth, a_needed, a_variableNeeded, cl_z 192 a_values, cl_z 16 a_variables, cl_z 16 a_outputs, cl_z 4 a_cells, a_whole, a_waiting)) : ∀ d i : Nat, i + d = 192 → wX_clearRun_2 post f_lines f_studied f_wrong f_wrongAt f_brief f_on f_dropped f_steps f_nextLine f_repeats (d + 1) (nI i) a_kinds a_firsts a_seconds a_thirds a_inputs a_home a_depth a_closer a_mate a_operands a_varies a_parted a_variableVaries a_same a_fixed a_worth a_needed a_variableNeeded (cl_z i a_values) a_variables a_outputs a_cells a_whole a_waiting := by
  intro d
  induction d with
  | zero =>
    intro i hi
    cases (show i = 192 by omega)
    exact br_t (by decide) ⟨17, by rw [← cl_0 a_variables, ← cl_0 a_outputs]; exact cr_X24 h 16 0 rfl⟩
  | succ d ih =>
    intro i hi
    exact br_f (nI_ge (b := 192) (by omega) (by decide)) ⟨vp_in_nI (by omega) (by omega), nm_r (by rw [nI_clamp (by omega)]; exact cl_s i _) (nm_r (nI_1 i) (ih (i + 1) (by omega)))⟩
theorem cr_X {post : SX → Prop} (h : post (f_lines, f_studied, f_wrong, f_wrongAt, f_brief, 15, 0, 0, f_nextLine, 0, a_kinds, a_firsts, a_seconds, a_thirds, a_inputs, a_home, a_depth, a_closer, a_mate, a_operands, a_varies, a_parted, a_variableVaries, a_same, a_fixed, a_worth, a_needed, a_variableNeeded, cl_z 192 a_values, cl_z 16 a_variables, cl_z 16 a_outputs, cl_z 4 a_cells, a_whole, a_waiting)) : wpX_clearRun post (f_lines, f_studied, f_wrong, f_wrongAt, f_brief, f_on, f_dropped, f_steps, f_nextLine, f_repeats, a_kinds, a_firsts, a_seconds, a_thirds, a_inputs, a_home, a_depth, a_closer, a_mate, a_operands, a_varies, a_parted, a_variableVaries, a_same, a_fixed, a_worth, a_needed, a_variableNeeded, a_values, a_variables, a_outputs, a_cells, a_whole, a_waiting) := by
  refine ⟨193, ?_⟩
  rw [← cl_0 a_values]
  exact cr_X2 h 192 0 rfl
theorem cr_Y37 {post : Int32 → SY → Prop} {x1 : Int32} (h : ∃ n, wY_run_103 post x1 n yf_lines yf_known yf_wrong yf_place yf_blocks 0 0 15 0 0 0 ya_ops ya_as ya_bs ya_cs ya_blockOf ya_opener ya_around ya_other ya_end ya_open ya_varied ya_loose ya_variedVariable ya_stands ya_number ya_isConst ya_needed ya_inputs ya_values (cl_z 16 ya_variables) (cl_z 4 ya_cells) (cl_z 16 ya_outs) ya_was ya_rest ya_line) : ∀ d i : Nat, i + d = 16 → wY_run_37 post x1 yf_lines yf_known yf_wrong yf_place yf_blocks yf_steps yf_dropped yf_on yf_next yf_again yf_depth (d + 1) (nI i) ya_ops ya_as ya_bs ya_cs ya_blockOf ya_opener ya_around ya_other ya_end ya_open ya_varied ya_loose ya_variedVariable ya_stands ya_number ya_isConst ya_needed ya_inputs ya_values (cl_z i ya_variables) (cl_z (min i 4) ya_cells) (cl_z i ya_outs) ya_was ya_rest ya_line := by
  intro d
  induction d with
  | zero =>
    intro i hi
    cases (show i = 16 by omega)
    exact br_t (by decide) h
  | succ d ih =>
    intro i hi
    have em : nI i - nI i / 4 * 4 = nI (i % 4) := pk_rem (d := 4) (by omega) (by omega) (by omega)
    have ec : upd (cl_z (min i 4) ya_cells) (nI i - nI i / 4 * 4).toNatClampNeg 0 = cl_z (min (i + 1) 4) ya_cells := by
      rw [em, nI_clamp (by omega)]
      by_cases h4 : i < 4
      · rw [show i % 4 = i by omega, show min i 4 = i by omega, show min (i + 1) 4 = i + 1 by omega]; exact cl_s i _
      · rw [show min i 4 = 4 by omega, show min (i + 1) 4 = 4 by omega]; exact cl_k (by omega) _
    exact br_f (nI_ge (b := 16) (by omega) (by decide)) ⟨vp_in_nI (by omega) (by omega), nm_r (by rw [nI_clamp (by omega)]; exact cl_s i _) ⟨vp_in_nI (by omega) (by omega), nm_r (by rw [nI_clamp (by omega)]; exact cl_s i _) ⟨by decide, by rw [em]; exact vp_in_nI (by omega) (by omega), nm_r ec (nm_r (nI_1 i) (ih (i + 1) (by omega)))⟩⟩⟩
theorem cr_Y15 {post : Int32 → SY → Prop} {x1 : Int32} (h : ∃ n, wY_run_103 post x1 n yf_lines yf_known yf_wrong yf_place yf_blocks 0 0 15 0 0 0 ya_ops ya_as ya_bs ya_cs ya_blockOf ya_opener ya_around ya_other ya_end ya_open ya_varied ya_loose ya_variedVariable ya_stands ya_number ya_isConst ya_needed ya_inputs (cl_z 192 ya_values) (cl_z 16 ya_variables) (cl_z 4 ya_cells) (cl_z 16 ya_outs) ya_was ya_rest ya_line) : ∀ d i : Nat, i + d = 192 → wY_run_15 post x1 yf_lines yf_known yf_wrong yf_place yf_blocks yf_steps yf_dropped yf_on yf_next yf_again yf_depth (d + 1) (nI i) ya_ops ya_as ya_bs ya_cs ya_blockOf ya_opener ya_around ya_other ya_end ya_open ya_varied ya_loose ya_variedVariable ya_stands ya_number ya_isConst ya_needed ya_inputs (cl_z i ya_values) ya_variables ya_cells ya_outs ya_was ya_rest ya_line := by
  intro d
  induction d with
  | zero =>
    intro i hi
    cases (show i = 192 by omega)
    refine br_t (by decide) ⟨17, ?_⟩
    rw [← cl_0 ya_variables, ← cl_0 ya_outs, ← cl_0 ya_cells]
    exact cr_Y37 h 16 0 rfl
  | succ d ih =>
    intro i hi
    exact br_f (nI_ge (b := 192) (by omega) (by decide)) ⟨vp_in_nI (by omega) (by omega), nm_r (by rw [nI_clamp (by omega)]; exact cl_s i _) (nm_r (nI_1 i) (ih (i + 1) (by omega)))⟩
theorem cr_Y {post : Int32 → SY → Prop} {x1 : Int32} (h : ∃ n, wY_run_103 post x1 n yf_lines yf_known yf_wrong yf_place yf_blocks 0 0 15 0 0 0 ya_ops ya_as ya_bs ya_cs ya_blockOf ya_opener ya_around ya_other ya_end ya_open ya_varied ya_loose ya_variedVariable ya_stands ya_number ya_isConst ya_needed ya_inputs (cl_z 192 ya_values) (cl_z 16 ya_variables) (cl_z 4 ya_cells) (cl_z 16 ya_outs) ya_was ya_rest ya_line) : ∃ n, wY_run_15 post x1 yf_lines yf_known yf_wrong yf_place yf_blocks yf_steps yf_dropped yf_on yf_next yf_again yf_depth n 0 ya_ops ya_as ya_bs ya_cs ya_blockOf ya_opener ya_around ya_other ya_end ya_open ya_varied ya_loose ya_variedVariable ya_stands ya_number ya_isConst ya_needed ya_inputs ya_values ya_variables ya_cells ya_outs ya_was ya_rest ya_line := by
  refine ⟨193, ?_⟩
  rw [← cl_0 ya_values]
  exact cr_Y15 h 192 0 rfl
end
