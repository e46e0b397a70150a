section
variable {K : Nat → Nat} {n : Nat} {T : Nat → Nat × Bool × Int32} {br : Int32}
variable {f_lines f_studied f_wrong f_wrongAt f_brief f_on f_dropped f_steps f_nextLine f_repeats : Int32} {a_kinds a_firsts a_seconds a_thirds a_inputs a_home a_depth a_closer a_mate a_operands a_varies a_parted a_variableVaries a_same a_fixed a_worth a_needed a_variableNeeded a_values a_variables a_outputs a_cells a_whole a_waiting : Nat → Int32}
variable {yf_lines yf_known yf_wrong yf_place yf_blocks yf_steps yf_dropped yf_on yf_next yf_again yf_depth : Int32} {ya_ops ya_as ya_bs ya_cs ya_blockOf ya_opener ya_around ya_other ya_end ya_open ya_varied ya_loose ya_variedVariable ya_stands ya_number ya_isConst ya_needed ya_inputs ya_values ya_variables ya_cells ya_outs ya_was ya_rest ya_line : Nat → Int32}
theorem gx_off {post : SX → Prop} {i t w d : Nat} (ht : t < 4) (hw : w < 16) (eon : f_on = nI w) (hb : w.testBit t = false) (h : wX_giveValue_2 post (nI i) d (nI (t + 1)) f_lines f_studied f_wrong f_wrongAt f_brief f_on f_dropped f_steps f_nextLine f_repeats a_kinds a_firsts a_seconds a_thirds a_inputs a_home a_depth a_closer a_mate a_operands a_varies a_parted a_variableVaries a_same a_fixed a_worth a_needed a_variableNeeded a_values a_variables a_outputs a_cells a_whole a_waiting) : wX_giveValue_2 post (nI i) (d + 1) (nI t) f_lines f_studied f_wrong f_wrongAt f_brief f_on f_dropped f_steps f_nextLine f_repeats a_kinds a_firsts a_seconds a_thirds a_inputs a_home a_depth a_closer a_mate a_operands a_varies a_parted a_variableVaries a_same a_fixed a_worth a_needed a_variableNeeded a_values a_variables a_outputs a_cells a_whole a_waiting :=
  br_f (nI_ge (b := 4) ht (by decide)) (rx_isOn hw ht eon (fun h' => by rw [hb] at h'; cases h') (fun _ => br_t rfl (nm_r (nI_1 t) h)))
theorem gx_on {post : SX → Prop} {i t w d : Nat} {r : Int32} (hi : i < 48) (ht : t < 4) (hw : w < 16) (eon : f_on = nI w) (hb : w.testBit t = true) {cells' : Nat → Int32} (rX : ∀ post : Int32 → SX → Prop, post r (f_lines, f_studied, f_wrong, f_wrongAt, f_brief, f_on, f_dropped, f_steps, f_nextLine, f_repeats, a_kinds, a_firsts, a_seconds, a_thirds, a_inputs, a_home, a_depth, a_closer, a_mate, a_operands, a_varies, a_parted, a_variableVaries, a_same, a_fixed, a_worth, a_needed, a_variableNeeded, a_values, a_variables, a_outputs, cells', a_whole, a_waiting) → wpX_valueFor post (f_lines, f_studied, f_wrong, f_wrongAt, f_brief, f_on, f_dropped, f_steps, f_nextLine, f_repeats, a_kinds, a_firsts, a_seconds, a_thirds, a_inputs, a_home, a_depth, a_closer, a_mate, a_operands, a_varies, a_parted, a_variableVaries, a_same, a_fixed, a_worth, a_needed, a_variableNeeded, a_values, a_variables, a_outputs, a_cells, a_whole, a_waiting) (nI i) (nI t)) (h : wX_giveValue_2 post (nI i) d (nI (t + 1)) f_lines f_studied f_wrong f_wrongAt f_brief f_on f_dropped f_steps f_nextLine f_repeats a_kinds a_firsts a_seconds a_thirds a_inputs a_home a_depth a_closer a_mate a_operands a_varies a_parted a_variableVaries a_same a_fixed a_worth a_needed a_variableNeeded (upd a_values (4 * i + t) r) a_variables a_outputs cells' a_whole a_waiting) : wX_giveValue_2 post (nI i) (d + 1) (nI t) f_lines f_studied f_wrong f_wrongAt f_brief f_on f_dropped f_steps f_nextLine f_repeats a_kinds a_firsts a_seconds a_thirds a_inputs a_home a_depth a_closer a_mate a_operands a_varies a_parted a_variableVaries a_same a_fixed a_worth a_needed a_variableNeeded a_values a_variables a_outputs a_cells a_whole a_waiting := by
  have e43 : (nI i * 4 + nI t).toNatClampNeg = 4 * i + t := by rw [e_43, nI_clamp (by omega)]
  have i43 : vp_in (nI i * 4 + nI t) 192 := by rw [e_43]; exact vp_in_nI (by omega) (by omega)
  refine br_f (nI_ge (b := 4) ht (by decide)) (rx_isOn hw ht eon (fun _ => br_f (by decide) (rX _ ?_)) (fun h' => by rw [hb] at h'; cases h'))
  exact ⟨i43, nm_r (by rw [e43]) (nm_r (nI_1 t) h)⟩
theorem gy_off {post : SY → Prop} {i t w d : Nat} (ht : t < 4) (hw : w < 16) (eon : yf_on = nI w) (hb : w.testBit t = false) (h : wY_step_39 post (nI i) br yf_lines yf_known yf_wrong yf_place yf_blocks yf_steps yf_dropped yf_on yf_next yf_again yf_depth d (nI (t + 1)) ya_ops ya_as ya_bs ya_cs ya_blockOf ya_opener ya_around ya_other ya_end ya_open ya_varied ya_loose ya_variedVariable ya_stands ya_number ya_isConst ya_needed ya_inputs ya_values ya_variables ya_cells ya_outs ya_was ya_rest ya_line) : wY_step_39 post (nI i) br yf_lines yf_known yf_wrong yf_place yf_blocks yf_steps yf_dropped yf_on yf_next yf_again yf_depth (d + 1) (nI t) ya_ops ya_as ya_bs ya_cs ya_blockOf ya_opener ya_around ya_other ya_end ya_open ya_varied ya_loose ya_variedVariable ya_stands ya_number ya_isConst ya_needed ya_inputs ya_values ya_variables ya_cells ya_outs ya_was ya_rest ya_line := by
  refine br_f (nI_ge (b := 4) ht (by decide)) (br_f (fun h' => ?_) (nm_r (nI_1 t) h))
  rw [eon] at h'
  have := (mk_bit w hw t ht).2.mp h'; rw [hb] at this; cases this
theorem gy_on {post : SY → Prop} {i t w d : Nat} {r : Int32} (hi : i < 48) (ht : t < 4) (hw : w < 16) (eon : yf_on = nI w) (hb : w.testBit t = true) (rY : ∀ post : Int32 → Prop, post r → wpY_result post (yf_lines, yf_known, yf_wrong, yf_place, yf_blocks, yf_steps, yf_dropped, yf_on, yf_next, yf_again, yf_depth, ya_ops, ya_as, ya_bs, ya_cs, ya_blockOf, ya_opener, ya_around, ya_other, ya_end, ya_open, ya_varied, ya_loose, ya_variedVariable, ya_stands, ya_number, ya_isConst, ya_needed, ya_inputs, ya_values, ya_variables, ya_cells, ya_outs, ya_was, ya_rest, ya_line) (nI i) (nI t) br) (h : wY_step_39 post (nI i) br yf_lines yf_known yf_wrong yf_place yf_blocks yf_steps yf_dropped yf_on yf_next yf_again yf_depth d (nI (t + 1)) ya_ops ya_as ya_bs ya_cs ya_blockOf ya_opener ya_around ya_other ya_end ya_open ya_varied ya_loose ya_variedVariable ya_stands ya_number ya_isConst ya_needed ya_inputs (upd ya_values (4 * i + t) r) ya_variables ya_cells ya_outs ya_was ya_rest ya_line) : wY_step_39 post (nI i) br yf_lines yf_known yf_wrong yf_place yf_blocks yf_steps yf_dropped yf_on yf_next yf_again yf_depth (d + 1) (nI t) ya_ops ya_as ya_bs ya_cs ya_blockOf ya_opener ya_around ya_other ya_end ya_open ya_varied ya_loose ya_variedVariable ya_stands ya_number ya_isConst ya_needed ya_inputs ya_values ya_variables ya_cells ya_outs ya_was ya_rest ya_line := by
  have e44 : (4 * nI i + nI t).toNatClampNeg = 4 * i + t := by rw [e_44, nI_clamp (by omega)]
  have i44 : vp_in (4 * nI i + nI t) 192 := by rw [e_44]; exact vp_in_nI (by omega) (by omega)
  refine br_f (nI_ge (b := 4) ht (by decide)) (br_t (by rw [eon]; exact (mk_bit w hw t ht).2.mpr hb) (rY _ ?_))
  exact ⟨i44, nm_r (by rw [e44]) (nm_r (nI_1 t) h)⟩
/-- a value for each lane that is on -/
theorem rn_give (hS : rn_stat K n T br f_lines f_brief a_kinds a_firsts a_seconds a_thirds a_inputs a_home a_depth a_closer a_mate a_operands a_same a_fixed a_worth a_needed yf_lines ya_ops ya_as ya_bs ya_cs ya_blockOf ya_opener ya_around ya_other ya_end ya_stands ya_number ya_isConst ya_needed ya_inputs) {i w dw : Nat} (hi : i < n) (h15 : K i ≤ 15) (hw : w < 16) (eon : f_on = nI w) (eyn : yf_on = f_on) (hdw : dw < 16) (edr : f_dropped = nI dw) (eyd : yf_dropped = f_dropped) (hvar : va_R a_variables ya_variables) : ∀ (d t : Nat) (vx vy : Nat → Int32), t + d = 4 → (∀ q, q < 192 → vx q = vy q) → ∃ vx' vy', (∀ q, q < 192 → vx' q = vy' q) ∧ vx' = la_f w (fun t s => upd s (4 * i + t) (vf K a_firsts a_seconds a_thirds a_inputs a_variables T br w dw i s t)) d t vx ∧
    (∀ post : SX → Prop, post (f_lines, f_studied, f_wrong, f_wrongAt, f_brief, f_on, f_dropped, f_steps, f_nextLine, f_repeats, a_kinds, a_firsts, a_seconds, a_thirds, a_inputs, a_home, a_depth, a_closer, a_mate, a_operands, a_varies, a_parted, a_variableVaries, a_same, a_fixed, a_worth, a_needed, a_variableNeeded, vx', a_variables, a_outputs, a_cells, a_whole, a_waiting) → wX_giveValue_2 post (nI i) (d + 1) (nI t) f_lines f_studied f_wrong f_wrongAt f_brief f_on f_dropped f_steps f_nextLine f_repeats a_kinds a_firsts a_seconds a_thirds a_inputs a_home a_depth a_closer a_mate a_operands a_varies a_parted a_variableVaries a_same a_fixed a_worth a_needed a_variableNeeded vx a_variables a_outputs a_cells a_whole a_waiting) ∧ (∀ post : SY → Prop, post (yf_lines, yf_known, yf_wrong, yf_place, yf_blocks, yf_steps, yf_dropped, yf_on, yf_next, yf_again, yf_depth, ya_ops, ya_as, ya_bs, ya_cs, ya_blockOf, ya_opener, ya_around, ya_other, ya_end, ya_open, ya_varied, ya_loose, ya_variedVariable, ya_stands, ya_number, ya_isConst, ya_needed, ya_inputs, vy', ya_variables, ya_cells, ya_outs, ya_was, ya_rest, ya_line) → wY_step_39 post (nI i) br yf_lines yf_known yf_wrong yf_place yf_blocks yf_steps yf_dropped yf_on yf_next yf_again yf_depth (d + 1) (nI t) ya_ops ya_as ya_bs ya_cs ya_blockOf ya_opener ya_around ya_other ya_end ya_open ya_varied ya_loose ya_variedVariable ya_stands ya_number ya_isConst ya_needed ya_inputs vy ya_variables ya_cells ya_outs ya_was ya_rest ya_line) := by
  have hn : n ≤ 48 := by obtain ⟨hW, _⟩ := hS; exact hW.1
  have eyw : yf_on = nI w := by rw [eyn]; exact eon
  intro d
  induction d with
  | zero =>
    intro t vx vy ht hv
    cases (show t = 4 by omega)
    exact ⟨vx, vy, hv, rfl, fun post h => br_t (by decide) h, fun post h => br_t (by decide) h⟩
  | succ d ih =>
    intro t vx vy ht hv
    cases hb : w.testBit t with
    | false =>
      obtain ⟨vx', vy', h1, h0, h2, h3⟩ := ih (t + 1) vx vy (by omega) hv
      exact ⟨vx', vy', h1, h0.trans (la_n hb).symm, fun post h => gx_off (by omega) hw eon hb (h2 post h), fun post h => gy_off (by omega) hw eyw hb (h3 post h)⟩
    | true =>
      have hv4 : ∃ r : Int32, r = vf K a_firsts a_seconds a_thirds a_inputs a_variables T br w dw i vx t ∧ (∀ post : Int32 → SX → Prop, post r (f_lines, f_studied, f_wrong, f_wrongAt, f_brief, f_on, f_dropped, f_steps, f_nextLine, f_repeats, a_kinds, a_firsts, a_seconds, a_thirds, a_inputs, a_home, a_depth, a_closer, a_mate, a_operands, a_varies, a_parted, a_variableVaries, a_same, a_fixed, a_worth, a_needed, a_variableNeeded, vx, a_variables, a_outputs, a_cells, a_whole, a_waiting) → wpX_valueFor post (f_lines, f_studied, f_wrong, f_wrongAt, f_brief, f_on, f_dropped, f_steps, f_nextLine, f_repeats, a_kinds, a_firsts, a_seconds, a_thirds, a_inputs, a_home, a_depth, a_closer, a_mate, a_operands, a_varies, a_parted, a_variableVaries, a_same, a_fixed, a_worth, a_needed, a_variableNeeded, vx, a_variables, a_outputs, a_cells, a_whole, a_waiting) (nI i) (nI t)) ∧ (∀ post : Int32 → Prop, post r → wpY_result post (yf_lines, yf_known, yf_wrong, yf_place, yf_blocks, yf_steps, yf_dropped, yf_on, yf_next, yf_again, yf_depth, ya_ops, ya_as, ya_bs, ya_cs, ya_blockOf, ya_opener, ya_around, ya_other, ya_end, ya_open, ya_varied, ya_loose, ya_variedVariable, ya_stands, ya_number, ya_isConst, ya_needed, ya_inputs, vy, ya_variables, ya_cells, ya_outs, ya_was, ya_rest, ya_line) (nI i) (nI t) br) := rn_val (K := K) (n := n) (T := T) (br := br) (a_values := vx) (ya_values := vy) hS hi h15 (show t < 4 by omega) hw eon eyn hdw edr eyd hv hvar
      obtain ⟨r, er, rX, rY⟩ := hv4
      obtain ⟨vx', vy', h1, h0, h2, h3⟩ := ih (t + 1) (upd vx (4 * i + t) r) (upd vy (4 * i + t) r) (by omega) (fun q hq => by
        by_cases e : q = 4 * i + t
        · rw [e, pk_us, pk_us]
        · rw [pk_un e, pk_un e]; exact hv q hq)
      exact ⟨vx', vy', h1, by rw [h0, la_t hb, ← er], fun post h => gx_on (by omega) (by omega) hw eon hb rX (h2 post h), fun post h => gy_on (by omega) (by omega) hw eyw hb rY (h3 post h)⟩
/-- one lane after the other takes from a cell -/
theorem tx_on (hP : xv_P K n a_kinds a_firsts a_seconds a_thirds a_home a_mate a_operands) (hR : sh_R T n a_same a_fixed a_worth) (hgT : ∀ j, j < n → sh_good T j) {i t a dw : Nat} (hi : i < n) (h16 : K i = 16) (ht : t < 4) (ha : a < 4) (ea : a_firsts i = nI a) (hdw : dw < 16) (edr : f_dropped = nI dw) (hd : dw.testBit t = false) {post : Int32 → SX → Prop} (h : post (a_cells a) (f_lines, f_studied, f_wrong, f_wrongAt, f_brief, f_on, f_dropped, f_steps, f_nextLine, f_repeats, a_kinds, a_firsts, a_seconds, a_thirds, a_inputs, a_home, a_depth, a_closer, a_mate, a_operands, a_varies, a_parted, a_variableVaries, a_same, a_fixed, a_worth, a_needed, a_variableNeeded, a_values, a_variables, a_outputs, upd a_cells a (a_cells a + rv f_brief T a_values (sh_o a_firsts a_seconds a_thirds 1 i) t), a_whole, a_waiting)) : wpX_valueFor post (f_lines, f_studied, f_wrong, f_wrongAt, f_brief, f_on, f_dropped, f_steps, f_nextLine, f_repeats, a_kinds, a_firsts, a_seconds, a_thirds, a_inputs, a_home, a_depth, a_closer, a_mate, a_operands, a_varies, a_parted, a_variableVaries, a_same, a_fixed, a_worth, a_needed, a_variableNeeded, a_values, a_variables, a_outputs, a_cells, a_whole, a_waiting) (nI i) (nI t) := by
  have hP' := hP
  obtain ⟨hn, hK, hgd, h4, hok, hH, hO⟩ := hP'
  have ci : (nI i).toNatClampNeg = i := nI_clamp (by omega)
  have ii : vp_in (nI i) 48 := vp_in_nI (by omega) (by omega)
  have ina : vp_in (nI a) 4 := vp_in_nI ha (by omega)
  have ca : (nI a).toNatClampNeg = a := nI_clamp (by omega)
  refine rx_switch (k := 16) (by omega) (by rw [(hK i hi).1, h16]) (by omega) ?_ ?_ ?_ ?_ ?_ ?_ ?_ ?_ ?_ ?_ (fun _ => ?_)
  case refine_11 =>
    unfold wpX_takeFrom
    refine rx_isDropped hdw ht edr (fun h' => by rw [hd] at h'; cases h') (fun _ => br_t rfl ?_)
    refine ⟨ii, nm_c ci ea ⟨ina, nm_e ?_⟩⟩
    refine rx_read (K := K) (n := n) (T := T) (s := 1) hP hR hgT hi (by omega) ht (fun _ => ⟨ina, ?_⟩) (fun h' => absurd (by unfold sc_us; omega) h')
    rw [ca]
    exact nm_e h
  all_goals first | (intro h'; exact absurd h' (by omega)) | (intro h' h''; exact absurd h'' (by omega))
theorem tx_off (hP : xv_P K n a_kinds a_firsts a_seconds a_thirds a_home a_mate a_operands) {i t dw : Nat} (hi : i < n) (h16 : K i = 16) (ht : t < 4) (hdw : dw < 16) (edr : f_dropped = nI dw) (hd : dw.testBit t = true) {post : Int32 → SX → Prop} (h : post 0 (f_lines, f_studied, f_wrong, f_wrongAt, f_brief, f_on, f_dropped, f_steps, f_nextLine, f_repeats, a_kinds, a_firsts, a_seconds, a_thirds, a_inputs, a_home, a_depth, a_closer, a_mate, a_operands, a_varies, a_parted, a_variableVaries, a_same, a_fixed, a_worth, a_needed, a_variableNeeded, a_values, a_variables, a_outputs, a_cells, a_whole, a_waiting)) : wpX_valueFor post (f_lines, f_studied, f_wrong, f_wrongAt, f_brief, f_on, f_dropped, f_steps, f_nextLine, f_repeats, a_kinds, a_firsts, a_seconds, a_thirds, a_inputs, a_home, a_depth, a_closer, a_mate, a_operands, a_varies, a_parted, a_variableVaries, a_same, a_fixed, a_worth, a_needed, a_variableNeeded, a_values, a_variables, a_outputs, a_cells, a_whole, a_waiting) (nI i) (nI t) := by
  obtain ⟨hn, hK, hgd, h4, hok, hH, hO⟩ := hP
  refine rx_switch (k := 16) (by omega) (by rw [(hK i hi).1, h16]) (by omega) ?_ ?_ ?_ ?_ ?_ ?_ ?_ ?_ ?_ ?_ (fun _ => ?_)
  case refine_11 =>
    unfold wpX_takeFrom
    exact rx_isDropped hdw ht edr (fun _ => br_f (by decide) h) (fun h' => by rw [hd] at h'; cases h')
  all_goals first | (intro h'; exact absurd h' (by omega)) | (intro h' h''; exact absurd h'' (by omega))
theorem ty_off {post : SY → Prop} {i t w d : Nat} (ht : t < 4) (hw : w < 16) (eon : yf_on = nI w) (hb : w.testBit t = false) (h : wY_take_2 post (nI i) br yf_lines yf_known yf_wrong yf_place yf_blocks yf_steps yf_dropped yf_on yf_next yf_again yf_depth d (nI (t + 1)) ya_ops ya_as ya_bs ya_cs ya_blockOf ya_opener ya_around ya_other ya_end ya_open ya_varied ya_loose ya_variedVariable ya_stands ya_number ya_isConst ya_needed ya_inputs ya_values ya_variables ya_cells ya_outs ya_was ya_rest ya_line) : wY_take_2 post (nI i) br yf_lines yf_known yf_wrong yf_place yf_blocks yf_steps yf_dropped yf_on yf_next yf_again yf_depth (d + 1) (nI t) ya_ops ya_as ya_bs ya_cs ya_blockOf ya_opener ya_around ya_other ya_end ya_open ya_varied ya_loose ya_variedVariable ya_stands ya_number ya_isConst ya_needed ya_inputs ya_values ya_variables ya_cells ya_outs ya_was ya_rest ya_line :=
  br_f (nI_ge (b := 4) ht (by decide)) (br_t (by rw [eon]; exact (mk_bit w hw t ht).1.mpr hb) (nm_r (nI_1 t) h))
theorem ty_drop {post : SY → Prop} {i t w dw d : Nat} (hi : i < 48) (ht : t < 4) (hw : w < 16) (eon : yf_on = nI w) (hb : w.testBit t = true) (hdw : dw < 16) (edr : yf_dropped = nI dw) (hd : dw.testBit t = true) (h : wY_take_2 post (nI i) br yf_lines yf_known yf_wrong yf_place yf_blocks yf_steps yf_dropped yf_on yf_next yf_again yf_depth d (nI (t + 1)) ya_ops ya_as ya_bs ya_cs ya_blockOf ya_opener ya_around ya_other ya_end ya_open ya_varied ya_loose ya_variedVariable ya_stands ya_number ya_isConst ya_needed ya_inputs (upd ya_values (4 * i + t) 0) ya_variables ya_cells ya_outs ya_was ya_rest ya_line) : wY_take_2 post (nI i) br yf_lines yf_known yf_wrong yf_place yf_blocks yf_steps yf_dropped yf_on yf_next yf_again yf_depth (d + 1) (nI t) ya_ops ya_as ya_bs ya_cs ya_blockOf ya_opener ya_around ya_other ya_end ya_open ya_varied ya_loose ya_variedVariable ya_stands ya_number ya_isConst ya_needed ya_inputs ya_values ya_variables ya_cells ya_outs ya_was ya_rest ya_line := by
  have e44 : (4 * nI i + nI t).toNatClampNeg = 4 * i + t := by rw [e_44, nI_clamp (by omega)]
  have i44 : vp_in (4 * nI i + nI t) 192 := by rw [e_44]; exact vp_in_nI (by omega) (by omega)
  refine br_f (nI_ge (b := 4) ht (by decide)) (br_f (fun h' => ?_) (br_f (fun h' => ?_) (br_t rfl ⟨i44, nm_r (by rw [e44]) (br_t rfl (nm_r (nI_1 t) h))⟩)))
  · rw [eon] at h'; have := (mk_bit w hw t ht).1.mp h'; rw [hb] at this; cases this
  · rw [edr] at h'; have := (mk_bit dw hdw t ht).1.mp h'; rw [hd] at this; cases this
theorem ty_on (hn : n ≤ 48) (hR : sh_R T n ya_stands ya_isConst ya_number) (hgT : ∀ j, j < n → sh_good T j) {post : SY → Prop} {i t w dw d a o : Nat} (hi : i < 48) (ht : t < 4) (hw : w < 16) (eon : yf_on = nI w) (hb : w.testBit t = true) (hdw : dw < 16) (edr : yf_dropped = nI dw) (hd : dw.testBit t = false) (ha : a < 4) (ea : ya_as i = nI a) (ho : o < n) (eo : ya_bs i = nI o) (h : wY_take_2 post (nI i) br yf_lines yf_known yf_wrong yf_place yf_blocks yf_steps yf_dropped yf_on yf_next yf_again yf_depth d (nI (t + 1)) ya_ops ya_as ya_bs ya_cs ya_blockOf ya_opener ya_around ya_other ya_end ya_open ya_varied ya_loose ya_variedVariable ya_stands ya_number ya_isConst ya_needed ya_inputs (upd ya_values (4 * i + t) (ya_cells a)) ya_variables (upd ya_cells a (ya_cells a + rv br T (upd ya_values (4 * i + t) (ya_cells a)) o t)) ya_outs ya_was ya_rest ya_line) : wY_take_2 post (nI i) br yf_lines yf_known yf_wrong yf_place yf_blocks yf_steps yf_dropped yf_on yf_next yf_again yf_depth (d + 1) (nI t) ya_ops ya_as ya_bs ya_cs ya_blockOf ya_opener ya_around ya_other ya_end ya_open ya_varied ya_loose ya_variedVariable ya_stands ya_number ya_isConst ya_needed ya_inputs ya_values ya_variables ya_cells ya_outs ya_was ya_rest ya_line := by
  have e44 : (4 * nI i + nI t).toNatClampNeg = 4 * i + t := by rw [e_44, nI_clamp (by omega)]
  have i44 : vp_in (4 * nI i + nI t) 192 := by rw [e_44]; exact vp_in_nI (by omega) (by omega)
  have ci : (nI i).toNatClampNeg = i := nI_clamp (by omega)
  have ii : vp_in (nI i) 48 := vp_in_nI (by omega) (by omega)
  have ina : vp_in (nI a) 4 := vp_in_nI ha (by omega)
  have ca : (nI a).toNatClampNeg = a := nI_clamp (by omega)
  refine br_f (nI_ge (b := 4) ht (by decide)) (br_f (fun h' => ?_) (br_t ?_ (br_f (by decide) ⟨ii, ?_⟩)))
  · rw [eon] at h'; have := (mk_bit w hw t ht).1.mp h'; rw [hb] at this; cases this
  · rw [edr]; exact (mk_bit dw hdw t ht).1.mpr hd
  · rw [ci, ea, ca]
    refine ⟨ina, i44, nm_r (e' := upd ya_values (4 * i + t) (ya_cells a)) (by rw [e44]) (br_f (by decide) ⟨ii, ?_⟩)⟩
    rw [ci, ea, eo]
    refine ⟨ina, ii, ?_⟩
    refine ry_value (n := n) (T := T) hn hR hgT ho ht ⟨ina, ?_⟩
    rw [ca]
    exact nm_e (nm_r (nI_1 t) h)
theorem rn_take (hS : rn_stat K n T br f_lines f_brief a_kinds a_firsts a_seconds a_thirds a_inputs a_home a_depth a_closer a_mate a_operands a_same a_fixed a_worth a_needed yf_lines ya_ops ya_as ya_bs ya_cs ya_blockOf ya_opener ya_around ya_other ya_end ya_stands ya_number ya_isConst ya_needed ya_inputs) {i w dw : Nat} (hi : i < n) (h16 : K i = 16) (hw : w < 16) (eon : f_on = nI w) (eyn : yf_on = f_on) (hdw : dw < 16) (edr : f_dropped = nI dw) (eyd : yf_dropped = f_dropped) : ∀ (d t : Nat) (vx vy cx cy : Nat → Int32), t + d = 4 → (∀ q, q < 192 → vx q = vy q) → (∀ q, q < 4 → cx q = cy q) → ∃ vx' vy' cx' cy', (∀ q, q < 192 → vx' q = vy' q) ∧ (∀ q, q < 4 → cx' q = cy' q) ∧ (vx', cx') = la_f w (fun t (s : (Nat → Int32) × (Nat → Int32)) => if dw.testBit t = true then (upd s.1 (4 * i + t) 0, s.2) else (upd s.1 (4 * i + t) (s.2 (a_firsts i).toNatClampNeg), upd s.2 (a_firsts i).toNatClampNeg (s.2 (a_firsts i).toNatClampNeg + rv br T s.1 (sh_o a_firsts a_seconds a_thirds 1 i) t))) d t (vx, cx) ∧
    (∀ post : SX → Prop, post (f_lines, f_studied, f_wrong, f_wrongAt, f_brief, f_on, f_dropped, f_steps, f_nextLine, f_repeats, a_kinds, a_firsts, a_seconds, a_thirds, a_inputs, a_home, a_depth, a_closer, a_mate, a_operands, a_varies, a_parted, a_variableVaries, a_same, a_fixed, a_worth, a_needed, a_variableNeeded, vx', a_variables, a_outputs, cx', a_whole, a_waiting) → wX_giveValue_2 post (nI i) (d + 1) (nI t) f_lines f_studied f_wrong f_wrongAt f_brief f_on f_dropped f_steps f_nextLine f_repeats a_kinds a_firsts a_seconds a_thirds a_inputs a_home a_depth a_closer a_mate a_operands a_varies a_parted a_variableVaries a_same a_fixed a_worth a_needed a_variableNeeded vx a_variables a_outputs cx a_whole a_waiting) ∧ (∀ post : SY → Prop, post (yf_lines, yf_known, yf_wrong, yf_place, yf_blocks, yf_steps, yf_dropped, yf_on, yf_next, yf_again, yf_depth, ya_ops, ya_as, ya_bs, ya_cs, ya_blockOf, ya_opener, ya_around, ya_other, ya_end, ya_open, ya_varied, ya_loose, ya_variedVariable, ya_stands, ya_number, ya_isConst, ya_needed, ya_inputs, vy', ya_variables, cy', ya_outs, ya_was, ya_rest, ya_line) → wY_take_2 post (nI i) br yf_lines yf_known yf_wrong yf_place yf_blocks yf_steps yf_dropped yf_on yf_next yf_again yf_depth (d + 1) (nI t) ya_ops ya_as ya_bs ya_cs ya_blockOf ya_opener ya_around ya_other ya_end ya_open ya_varied ya_loose ya_variedVariable ya_stands ya_number ya_isConst ya_needed ya_inputs vy ya_variables cy ya_outs ya_was ya_rest ya_line) := by
  obtain ⟨hW, hok, hfr, hA, hc0, hB, ⟨e1, e2, e3, e4, e5⟩, ⟨hR, hR', hgT, hc10⟩, hnd, hself, hini, eb, hbr, el, el'⟩ := hS
  have hP := pg_xvP hW hok hA
  have hn := hW.1
  have hov := (sc_ck0 (hok i hi)).2.1
  obtain ⟨a, ha, ea⟩ := hW.2.2 i hi (by omega)
  obtain ⟨o, eo, _⟩ := sh_ov_lt (by omega) (hov 1 (by omega) (by unfold sc_us; omega))
  have eo' : ya_bs i = nI (sh_o a_firsts a_seconds a_thirds 1 i) := by rw [e3]; exact eo
  have ea' : ya_as i = nI a := by rw [e2]; exact ea
  have eyw : yf_on = nI w := by rw [eyn]; exact eon
  have eyd' : yf_dropped = nI dw := by rw [eyd]; exact edr
  have ca : (a_firsts i).toNatClampNeg = a := by rw [ea, nI_clamp (by omega)]
  subst eb
  intro d
  induction d with
  | zero =>
    intro t vx vy cx cy ht hv hc
    cases (show t = 4 by omega)
    exact ⟨vx, vy, cx, cy, hv, hc, rfl, fun post h => br_t (by decide) h, fun post h => br_t (by decide) h⟩
  | succ d ih =>
    intro t vx vy cx cy ht hv hc
    have agree : ∀ r q, q < 192 → upd vx (4 * i + t) r q = upd vy (4 * i + t) r q := fun r q hq => by
      by_cases e : q = 4 * i + t
      · rw [e, pk_us, pk_us]
      · rw [pk_un e, pk_un e]; exact hv q hq
    cases hb : w.testBit t with
    | false =>
      obtain ⟨vx', vy', cx', cy', h0, h1, hq, h2, h3⟩ := ih (t + 1) vx vy cx cy (by omega) hv hc
      exact ⟨vx', vy', cx', cy', h0, h1, hq.trans (la_n hb).symm, fun post h => gx_off (by omega) hw eon hb (h2 post h), fun post h => ty_off (by omega) hw eyw hb (h3 post h)⟩
    | true =>
      cases hd : dw.testBit t with
      | true =>
        obtain ⟨vx', vy', cx', cy', h0, h1, hq, h2, h3⟩ := ih (t + 1) (upd vx (4 * i + t) 0) (upd vy (4 * i + t) 0) cx cy (by omega) (agree 0) hc
        exact ⟨vx', vy', cx', cy', h0, h1, by rw [hq, la_t hb, if_pos hd], fun post h => gx_on (by omega) (by omega) hw eon hb (fun p hp => tx_off (K := K) (n := n) hP hi h16 (by omega) hdw edr hd hp) (h2 post h), fun post h => ty_drop (by omega) (by omega) hw eyw hb hdw eyd' hd (h3 post h)⟩
      | false =>
        have er : rv f_brief T (upd vy (4 * i + t) (cy a)) (sh_o a_firsts a_seconds a_thirds 1 i) t = rv f_brief T vx (sh_o a_firsts a_seconds a_thirds 1 i) t := rv_eq (hgT _ (by omega)).1 (fun q hq => by
          rw [pk_un (by omega)]; exact (hv q (by omega)).symm)
        obtain ⟨vx', vy', cx', cy', h0, h1, hq, h2, h3⟩ := ih (t + 1) (upd vx (4 * i + t) (cx a)) (upd vy (4 * i + t) (cx a)) (upd cx a (cx a + rv f_brief T vx (sh_o a_firsts a_seconds a_thirds 1 i) t)) (upd cy a (cx a + rv f_brief T vx (sh_o a_firsts a_seconds a_thirds 1 i) t)) (by omega) (agree _) (fun q hq => by
          by_cases e : q = a
          · rw [e, pk_us, pk_us]
          · rw [pk_un e, pk_un e]; exact hc q hq)
        refine ⟨vx', vy', cx', cy', h0, h1, by rw [hq, la_t hb, if_neg (by rw [hd]; decide), ca], fun post h => gx_on (by omega) (by omega) hw eon hb (fun p hp => tx_on (K := K) (n := n) (T := T) hP hR hgT hi h16 (by omega) ha ea hdw edr hd hp) (h2 post h), fun post h => ty_on (n := n) (T := T) (a := a) (o := sh_o a_firsts a_seconds a_thirds 1 i) hn hR' hgT (by omega) (by omega) hw eyw hb hdw eyd' hd ha ea' (by omega) eo' ?_⟩
        rw [er, ← hc a ha]
        exact h3 post h
end
