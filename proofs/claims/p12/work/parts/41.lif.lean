section
variable {K : Nat → Nat} {n : Nat} {T : Nat → Nat × Bool × Int32} {br : Int32}
variable {f_lines f_studied f_wrong f_wrongAt f_brief f_on f_dropped f_steps f_nextLine f_repeats : Int32} {a_kinds a_firsts a_seconds a_thirds a_inputs a_home a_depth a_closer a_mate a_operands a_varies a_parted a_variableVaries a_same a_fixed a_worth a_needed a_variableNeeded a_values a_variables a_outputs a_cells a_whole a_waiting : Nat → Int32}
variable {yf_lines yf_known yf_wrong yf_place yf_blocks yf_steps yf_dropped yf_on yf_next yf_again yf_depth : Int32} {ya_ops ya_as ya_bs ya_cs ya_blockOf ya_opener ya_around ya_other ya_end ya_open ya_varied ya_loose ya_variedVariable ya_stands ya_number ya_isConst ya_needed ya_inputs ya_values ya_variables ya_cells ya_outs ya_was ya_rest ya_line : Nat → Int32}
theorem ln_break (hS : rn_stat K n T br f_lines f_brief a_kinds a_firsts a_seconds a_thirds a_inputs a_home a_depth a_closer a_mate a_operands a_same a_fixed a_worth a_needed yf_lines ya_ops ya_as ya_bs ya_cs ya_blockOf ya_opener ya_around ya_other ya_end ya_stands ya_number ya_isConst ya_needed ya_inputs) {i : Nat} (hp : rn_pos K n i (f_lines, f_studied, f_wrong, f_wrongAt, f_brief, f_on, f_dropped, f_steps, f_nextLine, f_repeats, a_kinds, a_firsts, a_seconds, a_thirds, a_inputs, a_home, a_depth, a_closer, a_mate, a_operands, a_varies, a_parted, a_variableVaries, a_same, a_fixed, a_worth, a_needed, a_variableNeeded, a_values, a_variables, a_outputs, a_cells, a_whole, a_waiting) (yf_lines, yf_known, yf_wrong, yf_place, yf_blocks, yf_steps, yf_dropped, yf_on, yf_next, yf_again, yf_depth, ya_ops, ya_as, ya_bs, ya_cs, ya_blockOf, ya_opener, ya_around, ya_other, ya_end, ya_open, ya_varied, ya_loose, ya_variedVariable, ya_stands, ya_number, ya_isConst, ya_needed, ya_inputs, ya_values, ya_variables, ya_cells, ya_outs, ya_was, ya_rest, ya_line)) (hd : rn_dyn (f_lines, f_studied, f_wrong, f_wrongAt, f_brief, f_on, f_dropped, f_steps, f_nextLine, f_repeats, a_kinds, a_firsts, a_seconds, a_thirds, a_inputs, a_home, a_depth, a_closer, a_mate, a_operands, a_varies, a_parted, a_variableVaries, a_same, a_fixed, a_worth, a_needed, a_variableNeeded, a_values, a_variables, a_outputs, a_cells, a_whole, a_waiting) (yf_lines, yf_known, yf_wrong, yf_place, yf_blocks, yf_steps, yf_dropped, yf_on, yf_next, yf_again, yf_depth, ya_ops, ya_as, ya_bs, ya_cs, ya_blockOf, ya_opener, ya_around, ya_other, ya_end, ya_open, ya_varied, ya_loose, ya_variedVariable, ya_stands, ya_number, ya_isConst, ya_needed, ya_inputs, ya_values, ya_variables, ya_cells, ya_outs, ya_was, ya_rest, ya_line)) (hi : i < n) (hon : f_on ≠ 0) (hk : K i = 24) : rn_goes K n T i br (f_lines, f_studied, f_wrong, f_wrongAt, f_brief, f_on, f_dropped, f_steps, f_nextLine, f_repeats, a_kinds, a_firsts, a_seconds, a_thirds, a_inputs, a_home, a_depth, a_closer, a_mate, a_operands, a_varies, a_parted, a_variableVaries, a_same, a_fixed, a_worth, a_needed, a_variableNeeded, a_values, a_variables, a_outputs, a_cells, a_whole, a_waiting) (yf_lines, yf_known, yf_wrong, yf_place, yf_blocks, yf_steps, yf_dropped, yf_on, yf_next, yf_again, yf_depth, ya_ops, ya_as, ya_bs, ya_cs, ya_blockOf, ya_opener, ya_around, ya_other, ya_end, ya_open, ya_varied, ya_loose, ya_variedVariable, ya_stands, ya_number, ya_isConst, ya_needed, ya_inputs, ya_values, ya_variables, ya_cells, ya_outs, ya_was, ya_rest, ya_line) := by
  obtain ⟨hin, en, ed, hst, ⟨w, hw, eon⟩, hmode⟩ := hp
  obtain ⟨hW, hok, hfr, hA, hc0, hB, ⟨e1, e2, e3, e4, e5⟩, _⟩ := hS
  have hn := hW.1
  have hK := hW.2.1
  have hKy : ∀ j, j < n → ya_ops j = nI (K j) ∧ K j ≤ 25 := by rw [e1]; exact hK
  have hg := sc_ok_good hok
  have hl := (hg i hi).2.2.2.2 hk
  have hs : sc_fr K (i + 1) = sc_fr K i := sc_s_plain (by omega)
  have aH := (hA i hi).1
  rw [sc_lf_n (by omega)] at aH
  have len := sc_len i (sc_good_le hg hin)
  have hne0 : sc_fr K i ≠ [] := by
    obtain ⟨f, hf, _⟩ := hl
    intro h'; rw [h'] at hf; cases hf
  have ci : (nI i).toNatClampNeg = i := nI_clamp (by omega)
  have ii : vp_in (nI i) 48 := vp_in_nI (by omega) (by omega)
  rcases hmode with ⟨ey, hne, hsw⟩ | ⟨_, k21, _⟩
  · subst ey
    refine ⟨i + 1, 0, f_dropped, f_repeats, a_values, a_variables, a_outputs, a_cells, bk K yf_on (sc_fr K i) a_whole, a_waiting, yf_dropped, 0, yf_again, yf_depth, ya_values, ya_variables, ya_cells, ya_outs, bk K yf_on (sc_fr K i) ya_was, ya_rest, ya_line, ⟨by omega, rfl, by rw [hs]; exact ed, ?_, ⟨0, by omega, rfl⟩, Or.inl ⟨rfl, fun _ => by rw [hs]; exact hne0, by rw [hs]; exact hsw⟩⟩, hd, by unfold xf; rw [if_neg (by omega), if_neg (by omega), if_neg (by omega), if_neg (by omega), if_neg (by omega), if_neg (by omega), if_neg (by omega), if_neg (by omega), if_neg (by omega), if_pos hk], fun post h => ?_, fun post h => ?_⟩
    · rw [hs, eon]
      exact bk_st hw _ _ _ _ hl hst
    · refine ln_fx (K := K) (n := n) hn hK hi (by omega) (by omega) (fun z => absurd z (by omega)) (fun z => absurd z (by omega)) (fun z => absurd z (by omega)) (fun z => absurd z (by omega)) (fun z => absurd z (by omega)) (fun _ => ⟨ii, nm_c ci aH ⟨5, ?_⟩⟩)
      exact rx_break9 (K := K) (n := n) hn hK hg (fun j hj => ⟨(hA j hj).1, (hA j hj).2.1⟩) _ i 0 a_whole hin rfl (by omega) h 5 (by omega)
    · refine ln_fy (K := K) (n := n) hn hKy hi (by omega) (by omega) ?_
      rw [hk]
      refine ry_f24 (nm_r (e' := nI (sc_fr K i).length + (-1)) ?_ ⟨5, ?_⟩)
      · rw [ed]
        cases he : sc_fr K i with
        | nil => exact absurd he hne0
        | cons f r => exact (nI_pred r.length).trans (pk_m1 r.length).symm
      · exact ry_break7 (K := K) (n := n) hn hKy hg _ i ya_was hin rfl hl (st_O _ hst) h 5 (by omega)
  · omega
theorem ln_else (hS : rn_stat K n T br f_lines f_brief a_kinds a_firsts a_seconds a_thirds a_inputs a_home a_depth a_closer a_mate a_operands a_same a_fixed a_worth a_needed yf_lines ya_ops ya_as ya_bs ya_cs ya_blockOf ya_opener ya_around ya_other ya_end ya_stands ya_number ya_isConst ya_needed ya_inputs) {i : Nat} (hp : rn_pos K n i (f_lines, f_studied, f_wrong, f_wrongAt, f_brief, f_on, f_dropped, f_steps, f_nextLine, f_repeats, a_kinds, a_firsts, a_seconds, a_thirds, a_inputs, a_home, a_depth, a_closer, a_mate, a_operands, a_varies, a_parted, a_variableVaries, a_same, a_fixed, a_worth, a_needed, a_variableNeeded, a_values, a_variables, a_outputs, a_cells, a_whole, a_waiting) (yf_lines, yf_known, yf_wrong, yf_place, yf_blocks, yf_steps, yf_dropped, yf_on, yf_next, yf_again, yf_depth, ya_ops, ya_as, ya_bs, ya_cs, ya_blockOf, ya_opener, ya_around, ya_other, ya_end, ya_open, ya_varied, ya_loose, ya_variedVariable, ya_stands, ya_number, ya_isConst, ya_needed, ya_inputs, ya_values, ya_variables, ya_cells, ya_outs, ya_was, ya_rest, ya_line)) (hd : rn_dyn (f_lines, f_studied, f_wrong, f_wrongAt, f_brief, f_on, f_dropped, f_steps, f_nextLine, f_repeats, a_kinds, a_firsts, a_seconds, a_thirds, a_inputs, a_home, a_depth, a_closer, a_mate, a_operands, a_varies, a_parted, a_variableVaries, a_same, a_fixed, a_worth, a_needed, a_variableNeeded, a_values, a_variables, a_outputs, a_cells, a_whole, a_waiting) (yf_lines, yf_known, yf_wrong, yf_place, yf_blocks, yf_steps, yf_dropped, yf_on, yf_next, yf_again, yf_depth, ya_ops, ya_as, ya_bs, ya_cs, ya_blockOf, ya_opener, ya_around, ya_other, ya_end, ya_open, ya_varied, ya_loose, ya_variedVariable, ya_stands, ya_number, ya_isConst, ya_needed, ya_inputs, ya_values, ya_variables, ya_cells, ya_outs, ya_was, ya_rest, ya_line)) (hi : i < n) (hk : K i = 20) : rn_goes K n T i br (f_lines, f_studied, f_wrong, f_wrongAt, f_brief, f_on, f_dropped, f_steps, f_nextLine, f_repeats, a_kinds, a_firsts, a_seconds, a_thirds, a_inputs, a_home, a_depth, a_closer, a_mate, a_operands, a_varies, a_parted, a_variableVaries, a_same, a_fixed, a_worth, a_needed, a_variableNeeded, a_values, a_variables, a_outputs, a_cells, a_whole, a_waiting) (yf_lines, yf_known, yf_wrong, yf_place, yf_blocks, yf_steps, yf_dropped, yf_on, yf_next, yf_again, yf_depth, ya_ops, ya_as, ya_bs, ya_cs, ya_blockOf, ya_opener, ya_around, ya_other, ya_end, ya_open, ya_varied, ya_loose, ya_variedVariable, ya_stands, ya_number, ya_isConst, ya_needed, ya_inputs, ya_values, ya_variables, ya_cells, ya_outs, ya_was, ya_rest, ya_line) := by
  obtain ⟨hin, en, ed, hst, _, hmode⟩ := hp
  obtain ⟨hW, hok, hfr, hA, hc0, hB, ⟨e1, e2, e3, e4, e5⟩, _⟩ := hS
  have hn := hW.1
  have hK := hW.2.1
  have hKy : ∀ j, j < n → ya_ops j = nI (K j) ∧ K j ≤ 25 := by rw [e1]; exact hK
  have hg := sc_ok_good hok
  obtain ⟨m, r, e, km⟩ := (hg i hi).2.1 hk
  have T := sc_top i (sc_good_le hg hin) _ _ _ e
  have tb := T.2.1
  have fr1 : sc_fr K (i + 1) = (i + 1, m) :: r := by rw [sc_s_else hk, e]; rfl
  obtain ⟨q, hiq, hq, hc, eq, em⟩ := rn_close hg hfr (show i + 1 ≤ n by omega) fr1
  have eC := (hA q hq).2.2.2.1 hc
  rw [eq, sc_hd_cons] at eC
  obtain ⟨_, c2, _⟩ := rn_closeY hg (show i + 1 ≤ n by omega) fr1 hiq hq hc eq em hB
  obtain ⟨kq, eE, eO⟩ := c2 km (by omega)
  rw [Nat.add_sub_cancel] at eO
  have len := sc_len i (sc_good_le hg hin)
  have aD := (hA i hi).2.1
  rw [sc_lf_cl (by omega), e, List.tail_cons] at aD
  rw [e] at len ed hst
  simp only [List.length_cons] at len ed
  have hr4 : r.length < 4 := by omega
  have ci : (nI i).toNatClampNeg = i := nI_clamp (by omega)
  have ii : vp_in (nI i) 48 := vp_in_nI (by omega) (by omega)
  have cr : (nI r.length).toNatClampNeg = r.length := nI_clamp (by omega)
  have ci1 : (nI (i + 1)).toNatClampNeg = i + 1 := nI_clamp (by omega)
  have no0 : ¬ ya_other m < 0 := by rw [eO]; exact nI_pos (by omega)
  rcases hmode with ⟨ey, hne, hsw⟩ | ⟨_, k21, _⟩
  · rw [e] at hsw
    obtain ⟨wr, w, hw, ew⟩ := hsw.1 km rfl
    have stR : st_R K a_whole ya_was ya_line ((i + 1, m) :: r) := hst
    have stW : st_W K a_waiting (upd ya_rest r.length (-1)) ((i + 1, m) :: r) := ⟨fun _ h => absurd (show i + 1 = m + 1 from h) (by omega), st_W_updY _ _ (Nat.le_refl _) hsw.2⟩
    by_cases hz : w = 0
    · refine ⟨q, a_waiting r.length, f_dropped, f_repeats, a_values, a_variables, a_outputs, a_cells, a_whole, a_waiting, yf_dropped, a_waiting r.length, yf_again, nI (r.length + 1), ya_values, ya_variables, ya_cells, ya_outs, ya_was, upd ya_rest r.length (-1), ya_line, ⟨by omega, rfl, by rw [eq]; rfl, by rw [eq]; exact stR, ⟨w, hw, ew⟩, Or.inl ⟨rfl, fun _ => by rw [eq]; exact List.cons_ne_nil _ _, by rw [eq]; exact stW⟩⟩, hd, by unfold xf; rw [if_neg (by omega), if_neg (by omega), if_neg (by omega), if_neg (by omega), if_neg (by omega), if_pos hk, aD, cr, if_pos (by rw [ew, hz]; rfl), eC, nI_clamp (by omega)], fun post h => ?_, fun post h => ?_⟩
      · refine ln_fx (K := K) (n := n) hn hK hi (by omega) (by omega) (fun z => absurd z (by omega)) (fun _ => ⟨ii, ?_⟩) (fun z => absurd z (by omega)) (fun z => absurd z (by omega)) (fun z => absurd z (by omega)) (fun z => absurd z (by omega))
        rw [ci, aD, cr]
        refine ⟨vp_in_nI hr4 (by omega), nm_e (br_t (by rw [ew, hz]; rfl) ⟨?_, ?_⟩)⟩
        · rw [nI_1]; exact vp_in_nI (by omega) (by omega)
        · rw [nI_1, ci1, eC]; exact h
      · refine ln_fy (K := K) (n := n) hn hKy hi (by omega) (by omega) ?_
        rw [hk]
        refine ry_f20 ed (ry_second hr4 (show m < 48 by omega) hst.1 wr (fun h' => absurd h' no0) (fun _ _ => ?_) (fun _ h' => absurd (by rw [ew, hz]; rfl) h'))
        rw [eE, ed]; exact h
    · refine ⟨i + 1, a_waiting r.length, f_dropped, f_repeats, a_values, a_variables, a_outputs, a_cells, a_whole, a_waiting, yf_dropped, a_waiting r.length, yf_again, nI (r.length + 1), ya_values, ya_variables, ya_cells, ya_outs, ya_was, upd ya_rest r.length (-1), ya_line, ⟨by omega, rfl, by rw [fr1]; rfl, by rw [fr1]; exact stR, ⟨w, hw, ew⟩, Or.inl ⟨rfl, fun _ => by rw [fr1]; exact List.cons_ne_nil _ _, by rw [fr1]; exact stW⟩⟩, hd, by unfold xf; rw [if_neg (by omega), if_neg (by omega), if_neg (by omega), if_neg (by omega), if_neg (by omega), if_pos hk, aD, cr, if_neg (fun h' => hz ((mk_ne w hw).mp (ew ▸ h')))], fun post h => ?_, fun post h => ?_⟩
      · refine ln_fx (K := K) (n := n) hn hK hi (by omega) (by omega) (fun z => absurd z (by omega)) (fun _ => ⟨ii, ?_⟩) (fun z => absurd z (by omega)) (fun z => absurd z (by omega)) (fun z => absurd z (by omega)) (fun z => absurd z (by omega))
        rw [ci, aD, cr]
        refine ⟨vp_in_nI hr4 (by omega), nm_e (br_f (fun h' => hz ((mk_ne w hw).mp (ew ▸ h'))) ?_)⟩
        rw [nI_1]; exact h
      · refine ln_fy (K := K) (n := n) hn hKy hi (by omega) (by omega) ?_
        rw [hk]
        refine ry_f20 ed (ry_second hr4 (show m < 48 by omega) hst.1 wr (fun h' => absurd h' no0) (fun _ h' => absurd ((mk_ne w hw).mp (ew ▸ h')) hz) (fun _ _ => ?_))
        rw [eO, nI_1, ed]; exact h
  · omega
theorem ln_if (hS : rn_stat K n T br f_lines f_brief a_kinds a_firsts a_seconds a_thirds a_inputs a_home a_depth a_closer a_mate a_operands a_same a_fixed a_worth a_needed yf_lines ya_ops ya_as ya_bs ya_cs ya_blockOf ya_opener ya_around ya_other ya_end ya_stands ya_number ya_isConst ya_needed ya_inputs) {i : Nat} (hp : rn_pos K n i (f_lines, f_studied, f_wrong, f_wrongAt, f_brief, f_on, f_dropped, f_steps, f_nextLine, f_repeats, a_kinds, a_firsts, a_seconds, a_thirds, a_inputs, a_home, a_depth, a_closer, a_mate, a_operands, a_varies, a_parted, a_variableVaries, a_same, a_fixed, a_worth, a_needed, a_variableNeeded, a_values, a_variables, a_outputs, a_cells, a_whole, a_waiting) (yf_lines, yf_known, yf_wrong, yf_place, yf_blocks, yf_steps, yf_dropped, yf_on, yf_next, yf_again, yf_depth, ya_ops, ya_as, ya_bs, ya_cs, ya_blockOf, ya_opener, ya_around, ya_other, ya_end, ya_open, ya_varied, ya_loose, ya_variedVariable, ya_stands, ya_number, ya_isConst, ya_needed, ya_inputs, ya_values, ya_variables, ya_cells, ya_outs, ya_was, ya_rest, ya_line)) (hd : rn_dyn (f_lines, f_studied, f_wrong, f_wrongAt, f_brief, f_on, f_dropped, f_steps, f_nextLine, f_repeats, a_kinds, a_firsts, a_seconds, a_thirds, a_inputs, a_home, a_depth, a_closer, a_mate, a_operands, a_varies, a_parted, a_variableVaries, a_same, a_fixed, a_worth, a_needed, a_variableNeeded, a_values, a_variables, a_outputs, a_cells, a_whole, a_waiting) (yf_lines, yf_known, yf_wrong, yf_place, yf_blocks, yf_steps, yf_dropped, yf_on, yf_next, yf_again, yf_depth, ya_ops, ya_as, ya_bs, ya_cs, ya_blockOf, ya_opener, ya_around, ya_other, ya_end, ya_open, ya_varied, ya_loose, ya_variedVariable, ya_stands, ya_number, ya_isConst, ya_needed, ya_inputs, ya_values, ya_variables, ya_cells, ya_outs, ya_was, ya_rest, ya_line)) (hi : i < n) (hon : f_on ≠ 0) (hk : K i = 19) : rn_goes K n T i br (f_lines, f_studied, f_wrong, f_wrongAt, f_brief, f_on, f_dropped, f_steps, f_nextLine, f_repeats, a_kinds, a_firsts, a_seconds, a_thirds, a_inputs, a_home, a_depth, a_closer, a_mate, a_operands, a_varies, a_parted, a_variableVaries, a_same, a_fixed, a_worth, a_needed, a_variableNeeded, a_values, a_variables, a_outputs, a_cells, a_whole, a_waiting) (yf_lines, yf_known, yf_wrong, yf_place, yf_blocks, yf_steps, yf_dropped, yf_on, yf_next, yf_again, yf_depth, ya_ops, ya_as, ya_bs, ya_cs, ya_blockOf, ya_opener, ya_around, ya_other, ya_end, ya_open, ya_varied, ya_loose, ya_variedVariable, ya_stands, ya_number, ya_isConst, ya_needed, ya_inputs, ya_values, ya_variables, ya_cells, ya_outs, ya_was, ya_rest, ya_line) := by
  obtain ⟨hin, en, ed, hst, ⟨w, hw, eon⟩, hmode⟩ := hp
  obtain ⟨hW, hok, hfr, hA, hc0, hB, ⟨e1, e2, e3, e4, e5⟩, ⟨hR, hR', hgT, hc10⟩, hnd, hself, hini, eb, hbr, el, el'⟩ := hS
  have hP := pg_xvP hW hok hA
  have hn := hW.1
  have hK := hW.2.1
  have hKy : ∀ j, j < n → ya_ops j = nI (K j) ∧ K j ≤ 25 := by rw [e1]; exact hK
  have hg := sc_ok_good hok
  have L4 := (hg i hi).1 (Or.inl hk)
  have fr1 : sc_fr K (i + 1) = (i + 1, i) :: sc_fr K i := sc_s_open (Or.inl hk)
  have aD := (hA i hi).2.1
  rw [sc_lf_n (by omega)] at aD
  obtain ⟨q, hiq, hq, hc, eq, em⟩ := rn_close hg hfr (show i + 1 ≤ n by omega) fr1
  have eC := (hA q hq).2.2.2.1 hc
  rw [eq, sc_hd_cons] at eC
  obtain ⟨_, _, c3⟩ := rn_closeY hg (show i + 1 ≤ n by omega) fr1 hiq hq hc eq em hB
  have c3 := c3 hk rfl
  have u0 : sc_us (K i) 0 := by unfold sc_us; omega
  obtain ⟨o, eo, _⟩ := sh_ov_lt (by omega) ((sc_ck0 (hok i hi)).2.1 0 (by omega) u0)
  have eo' : ya_as i = nI (sh_o a_firsts a_seconds a_thirds 0 i) := by rw [e2]; exact eo
  obtain ⟨d1, d2, d3, d4, d5, d6, d7, d8⟩ := hd
  rcases hmode with ⟨ey, hne, hsw⟩ | ⟨_, k21, _⟩
  · obtain ⟨m, emm⟩ : ∃ m, m = xf_tk T br a_firsts a_seconds a_thirds a_values i := ⟨_, rfl⟩
    obtain ⟨hm, hmb⟩ : m < 16 ∧ ∀ l, l < 4 → m.testBit l = !(rv f_brief T a_values (sh_o a_firsts a_seconds a_thirds 0 i) l == 0) := by
      rw [emm, eb]; exact mk_ex _
    have cw : f_on.toNatClampNeg = w := by rw [eon, nI_clamp (by omega)]
    have cL : (a_depth i).toNatClampNeg = (sc_fr K i).length := by rw [aD, nI_clamp (by omega)]
    have cq : (a_closer (i + 1)).toNatClampNeg = q := by rw [eC, nI_clamp (by omega)]
    have eyw : yf_on = nI w := by rw [ey]; exact eon
    have htk := (mk_lt w hw m hm).2.1
    have haa := mk_aa w hw m hm
    have hb : ∀ l, l < 4 → (w &&& m).testBit l = (w.testBit l && !(rv f_brief T a_values (sh_o a_firsts a_seconds a_thirds 0 i) l == 0)) := fun l hl => by
      rw [Nat.testBit_and, hmb l hl]
    have hw0 : w ≠ 0 := fun h => hon (by rw [eon, h]; rfl)
    have mask : ∀ P : Int32 → Prop, P (nI m) → wpY_mask P (yf_lines, yf_known, yf_wrong, yf_place, yf_blocks, yf_steps, yf_dropped, yf_on, nI (i + 1), yf_again, yf_depth, ya_ops, ya_as, ya_bs, ya_cs, ya_blockOf, ya_opener, ya_around, ya_other, ya_end, ya_open, ya_varied, ya_loose, ya_variedVariable, ya_stands, ya_number, ya_isConst, ya_needed, ya_inputs, ya_values, ya_variables, ya_cells, ya_outs, ya_was, ya_rest, ya_line) (ya_as i) br := fun P h => by
      rw [eo']
      refine ry_mask (n := n) (T := T) hn hR' hgT (by omega) (fun m' hm' hb' => ?_)
      have : m' = m := mk_ext m' hm' m hm (fun l hl => by
        rw [hb' l hl, hmb l hl, rv_eq (v := ya_values) (v' := a_values) (hgT _ (by omega)).1 (fun q hq => (d5 q (by omega)).symm), eb])
      rw [this]; exact h
    have stR : st_R K (upd a_whole (sc_fr K i).length (nI w)) (upd ya_was (sc_fr K i).length (nI w)) (upd ya_line (sc_fr K i).length (nI i)) ((i + 1, i) :: sc_fr K i) :=
      ⟨pk_us, by rw [pk_us, pk_us], ⟨w, hw, pk_us⟩, fun h => absurd (show K i = 22 from h) (by omega), fun h => absurd ((mk_ne w hw).mp (by rw [pk_us] at h; exact h)) hw0, st_R_upd _ _ (Nat.le_refl _) hst⟩
    have stT : st_W K (upd a_waiting (sc_fr K i).length (nI (w &&& (15 ^^^ m)))) (upd ya_rest (sc_fr K i).length (nI (w &&& (15 ^^^ m)))) (sc_fr K i) := st_W_upd _ _ (Nat.le_refl _) hsw
    have fX : ∀ post : Int32 → SX → Prop, (w &&& m ≠ 0 → post (nI (i + 1)) (f_lines, f_studied, f_wrong, f_wrongAt, f_brief, nI (w &&& m), f_dropped, f_steps, f_nextLine, f_repeats, a_kinds, a_firsts, a_seconds, a_thirds, a_inputs, a_home, a_depth, a_closer, a_mate, a_operands, a_varies, a_parted, a_variableVaries, a_same, a_fixed, a_worth, a_needed, a_variableNeeded, a_values, a_variables, a_outputs, a_cells, upd a_whole (sc_fr K i).length (nI w), upd a_waiting (sc_fr K i).length (nI (w &&& (15 ^^^ m))))) → (w &&& m = 0 → K q = 20 → post (nI (q + 1)) (f_lines, f_studied, f_wrong, f_wrongAt, f_brief, nI (w &&& (15 ^^^ m)), f_dropped, f_steps, f_nextLine, f_repeats, a_kinds, a_firsts, a_seconds, a_thirds, a_inputs, a_home, a_depth, a_closer, a_mate, a_operands, a_varies, a_parted, a_variableVaries, a_same, a_fixed, a_worth, a_needed, a_variableNeeded, a_values, a_variables, a_outputs, a_cells, upd a_whole (sc_fr K i).length (nI w), upd a_waiting (sc_fr K i).length (nI (w &&& (15 ^^^ m))))) → (w &&& m = 0 → K q ≠ 20 → post (nI q) (f_lines, f_studied, f_wrong, f_wrongAt, f_brief, 0, f_dropped, f_steps, f_nextLine, f_repeats, a_kinds, a_firsts, a_seconds, a_thirds, a_inputs, a_home, a_depth, a_closer, a_mate, a_operands, a_varies, a_parted, a_variableVaries, a_same, a_fixed, a_worth, a_needed, a_variableNeeded, a_values, a_variables, a_outputs, a_cells, upd a_whole (sc_fr K i).length (nI w), upd a_waiting (sc_fr K i).length (nI (w &&& (15 ^^^ m))))) → wpX_doLine post (f_lines, f_studied, f_wrong, f_wrongAt, f_brief, f_on, f_dropped, f_steps, f_nextLine, f_repeats, a_kinds, a_firsts, a_seconds, a_thirds, a_inputs, a_home, a_depth, a_closer, a_mate, a_operands, a_varies, a_parted, a_variableVaries, a_same, a_fixed, a_worth, a_needed, a_variableNeeded, a_values, a_variables, a_outputs, a_cells, a_whole, a_waiting) (nI i) := fun post h1 h2 h3 => by
      refine ln_fx (K := K) (n := n) hn hK hi (by omega) (by omega) (fun _ => ⟨5, ?_⟩) (fun z => absurd z (by omega)) (fun z => absurd z (by omega)) (fun z => absurd z (by omega)) (fun z => absurd z (by omega)) (fun z => absurd z (by omega))
      subst eon
      refine rx_if4 (K := K) (n := n) (T := T) (w := w) (tk := w &&& m) (L := (sc_fr K i).length) (q := q) hP hR hgT hi hk hw htk L4 aD hq eC hb ?_ ?_ ?_ 4 0 0 rfl (by omega) (fun l hl => by simp)
      · rw [haa]; exact h1
      · rw [haa]; exact h2
      · rw [haa]; exact h3
    have fY : ∀ post : SY → Prop, (w &&& m ≠ 0 → post (yf_lines, yf_known, yf_wrong, yf_place, yf_blocks, yf_steps, yf_dropped, nI (w &&& m), nI (i + 1), yf_again, nI ((sc_fr K i).length + 1), ya_ops, ya_as, ya_bs, ya_cs, ya_blockOf, ya_opener, ya_around, ya_other, ya_end, ya_open, ya_varied, ya_loose, ya_variedVariable, ya_stands, ya_number, ya_isConst, ya_needed, ya_inputs, ya_values, ya_variables, ya_cells, ya_outs, upd ya_was (sc_fr K i).length (nI w), upd ya_rest (sc_fr K i).length (nI (w &&& (15 ^^^ m))), upd ya_line (sc_fr K i).length (nI i))) → (w &&& m = 0 → K q = 20 → post (yf_lines, yf_known, yf_wrong, yf_place, yf_blocks, yf_steps, yf_dropped, nI (w &&& (15 ^^^ m)), nI (q + 1), yf_again, nI ((sc_fr K i).length + 1), ya_ops, ya_as, ya_bs, ya_cs, ya_blockOf, ya_opener, ya_around, ya_other, ya_end, ya_open, ya_varied, ya_loose, ya_variedVariable, ya_stands, ya_number, ya_isConst, ya_needed, ya_inputs, ya_values, ya_variables, ya_cells, ya_outs, upd ya_was (sc_fr K i).length (nI w), upd (upd ya_rest (sc_fr K i).length (nI (w &&& (15 ^^^ m)))) (sc_fr K i).length (-1), upd ya_line (sc_fr K i).length (nI i))) → (w &&& m = 0 → K q ≠ 20 → post (yf_lines, yf_known, yf_wrong, yf_place, yf_blocks, yf_steps, yf_dropped, nI (w &&& (15 ^^^ m)), nI q, yf_again, nI ((sc_fr K i).length + 1), ya_ops, ya_as, ya_bs, ya_cs, ya_blockOf, ya_opener, ya_around, ya_other, ya_end, ya_open, ya_varied, ya_loose, ya_variedVariable, ya_stands, ya_number, ya_isConst, ya_needed, ya_inputs, ya_values, ya_variables, ya_cells, ya_outs, upd ya_was (sc_fr K i).length (nI w), upd (upd ya_rest (sc_fr K i).length (nI (w &&& (15 ^^^ m)))) (sc_fr K i).length (-1), upd ya_line (sc_fr K i).length (nI i))) → wpY_step post (yf_lines, yf_known, yf_wrong, yf_place, yf_blocks, yf_steps, yf_dropped, yf_on, yf_next, yf_again, yf_depth, ya_ops, ya_as, ya_bs, ya_cs, ya_blockOf, ya_opener, ya_around, ya_other, ya_end, ya_open, ya_varied, ya_loose, ya_variedVariable, ya_stands, ya_number, ya_isConst, ya_needed, ya_inputs, ya_values, ya_variables, ya_cells, ya_outs, ya_was, ya_rest, ya_line) (nI i) br := fun post h1 h2 h3 => by
      refine ln_fy (K := K) (n := n) hn hKy hi (by omega) (by omega) ?_
      rw [hk]
      refine ry_f19 (m := m) (by omega) L4 ed hw hm eyw mask h1 (fun hz => ?_)
      have wz : w &&& (15 ^^^ m) = w := mk_a0 w hw m hm hz
      rcases c3 with ⟨k20, eO⟩ | ⟨k21, eO, eE⟩
      · have no0 : ¬ ya_other i < 0 := by rw [eO]; exact nI_pos (by omega)
        refine ry_second L4 (show i < 48 by omega) pk_us pk_us (fun h' => absurd h' no0) (fun _ h' => absurd ((mk_ne _ hw).mp (wz ▸ h')) hw0) (fun _ _ => ?_)
        rw [eO, nI_1]; exact h2 hz k20
      · refine ry_second L4 (show i < 48 by omega) pk_us pk_us (fun _ => ?_) (fun h' => absurd (by rw [eO]; decide) h') (fun h' => absurd (by rw [eO]; decide) h')
        rw [eE]; exact h3 hz (by omega)
    by_cases hz : w &&& m = 0
    · have wz : w &&& (15 ^^^ m) = w := mk_a0 w hw m hm hz
      by_cases k20 : K q = 20
      · have frq : sc_fr K (q + 1) = (q + 1, i) :: sc_fr K i := by rw [sc_s_else k20, eq]; rfl
        refine ⟨q + 1, nI (w &&& (15 ^^^ m)), f_dropped, f_repeats, a_values, a_variables, a_outputs, a_cells, upd a_whole (sc_fr K i).length (nI w), upd a_waiting (sc_fr K i).length (nI (w &&& (15 ^^^ m))), yf_dropped, nI (w &&& (15 ^^^ m)), yf_again, nI ((sc_fr K i).length + 1), ya_values, ya_variables, ya_cells, ya_outs, upd ya_was (sc_fr K i).length (nI w), upd (upd ya_rest (sc_fr K i).length (nI (w &&& (15 ^^^ m)))) (sc_fr K i).length (-1), upd ya_line (sc_fr K i).length (nI i), ⟨by omega, rfl, by rw [frq]; rfl, by rw [frq]; exact stR, ⟨_, (mk_lt w hw m hm).1, rfl⟩, Or.inl ⟨rfl, fun _ => by rw [frq]; exact List.cons_ne_nil _ _, ?_⟩⟩, ⟨d1, d2, d3, d4, d5, d6, d7, d8⟩, by unfold xf; rw [if_neg (by omega), if_neg (by omega), if_neg (by omega), if_neg (by omega), if_pos hk, ← emm, cw, cL, cq, if_pos hz, if_pos k20, eon], fun post h => fX post (fun h' => absurd hz h') (fun _ _ => h) (fun _ h' => absurd k20 h'), fun post h => fY post (fun h' => absurd hz h') (fun _ _ => h) (fun _ h' => absurd k20 h')⟩
        rw [frq]
        exact ⟨fun _ h => absurd (show q + 1 = i + 1 from h) (by omega), st_W_updY _ _ (Nat.le_refl _) stT⟩
      · have k21 : K q = 21 := by
          rcases c3 with ⟨h, _⟩ | ⟨h, _⟩
          · exact absurd h k20
          · exact h
        refine ⟨q, 0, f_dropped, f_repeats, a_values, a_variables, a_outputs, a_cells, upd a_whole (sc_fr K i).length (nI w), upd a_waiting (sc_fr K i).length (nI (w &&& (15 ^^^ m))), yf_dropped, nI (w &&& (15 ^^^ m)), yf_again, nI ((sc_fr K i).length + 1), ya_values, ya_variables, ya_cells, ya_outs, upd ya_was (sc_fr K i).length (nI w), upd (upd ya_rest (sc_fr K i).length (nI (w &&& (15 ^^^ m)))) (sc_fr K i).length (-1), upd ya_line (sc_fr K i).length (nI i), ⟨by omega, rfl, by rw [eq]; rfl, by rw [eq]; exact stR, ⟨0, by omega, rfl⟩, Or.inr ⟨hq, k21, rfl, ?_, ?_⟩⟩, ⟨d1, d2, d3, d4, d5, d6, d7, d8⟩, by unfold xf; rw [if_neg (by omega), if_neg (by omega), if_neg (by omega), if_neg (by omega), if_pos hk, ← emm, cw, cL, cq, if_pos hz, if_neg k20, eon], fun post h => fX post (fun h' => absurd hz h') (fun _ h' => absurd h' k20) (fun _ _ => h), fun post h => fY post (fun h' => absurd hz h') (fun _ h' => absurd h' k20) (fun _ _ => h)⟩
        · intro h; rw [wz] at h; exact hw0 ((mk_ne w hw).mp h)
        · rw [eq]; exact st_W_updY _ _ (Nat.le_refl _) stT
    · refine ⟨i + 1, nI (w &&& m), f_dropped, f_repeats, a_values, a_variables, a_outputs, a_cells, upd a_whole (sc_fr K i).length (nI w), upd a_waiting (sc_fr K i).length (nI (w &&& (15 ^^^ m))), yf_dropped, nI (w &&& m), yf_again, nI ((sc_fr K i).length + 1), ya_values, ya_variables, ya_cells, ya_outs, upd ya_was (sc_fr K i).length (nI w), upd ya_rest (sc_fr K i).length (nI (w &&& (15 ^^^ m))), upd ya_line (sc_fr K i).length (nI i), ⟨by omega, rfl, by rw [fr1]; rfl, by rw [fr1]; exact stR, ⟨_, htk, rfl⟩, Or.inl ⟨rfl, fun _ => by rw [fr1]; exact List.cons_ne_nil _ _, ?_⟩⟩, ⟨d1, d2, d3, d4, d5, d6, d7, d8⟩, by unfold xf; rw [if_neg (by omega), if_neg (by omega), if_neg (by omega), if_neg (by omega), if_pos hk, ← emm, cw, cL, cq, if_neg hz, eon], fun post h => fX post (fun _ => h) (fun h' => absurd h' hz) (fun h' => absurd h' hz), fun post h => fY post (fun _ => h) (fun h' => absurd h' hz) (fun h' => absurd h' hz)⟩
      rw [fr1]
      exact ⟨fun _ _ => ⟨by rw [pk_us, pk_us], ⟨_, (mk_lt w hw m hm).1, pk_us⟩⟩, stT⟩
  · omega
/-- every line -/
theorem rn_line (hS : rn_stat K n T br f_lines f_brief a_kinds a_firsts a_seconds a_thirds a_inputs a_home a_depth a_closer a_mate a_operands a_same a_fixed a_worth a_needed yf_lines ya_ops ya_as ya_bs ya_cs ya_blockOf ya_opener ya_around ya_other ya_end ya_stands ya_number ya_isConst ya_needed ya_inputs) {i : Nat} (hp : rn_pos K n i (f_lines, f_studied, f_wrong, f_wrongAt, f_brief, f_on, f_dropped, f_steps, f_nextLine, f_repeats, a_kinds, a_firsts, a_seconds, a_thirds, a_inputs, a_home, a_depth, a_closer, a_mate, a_operands, a_varies, a_parted, a_variableVaries, a_same, a_fixed, a_worth, a_needed, a_variableNeeded, a_values, a_variables, a_outputs, a_cells, a_whole, a_waiting) (yf_lines, yf_known, yf_wrong, yf_place, yf_blocks, yf_steps, yf_dropped, yf_on, yf_next, yf_again, yf_depth, ya_ops, ya_as, ya_bs, ya_cs, ya_blockOf, ya_opener, ya_around, ya_other, ya_end, ya_open, ya_varied, ya_loose, ya_variedVariable, ya_stands, ya_number, ya_isConst, ya_needed, ya_inputs, ya_values, ya_variables, ya_cells, ya_outs, ya_was, ya_rest, ya_line)) (hd : rn_dyn (f_lines, f_studied, f_wrong, f_wrongAt, f_brief, f_on, f_dropped, f_steps, f_nextLine, f_repeats, a_kinds, a_firsts, a_seconds, a_thirds, a_inputs, a_home, a_depth, a_closer, a_mate, a_operands, a_varies, a_parted, a_variableVaries, a_same, a_fixed, a_worth, a_needed, a_variableNeeded, a_values, a_variables, a_outputs, a_cells, a_whole, a_waiting) (yf_lines, yf_known, yf_wrong, yf_place, yf_blocks, yf_steps, yf_dropped, yf_on, yf_next, yf_again, yf_depth, ya_ops, ya_as, ya_bs, ya_cs, ya_blockOf, ya_opener, ya_around, ya_other, ya_end, ya_open, ya_varied, ya_loose, ya_variedVariable, ya_stands, ya_number, ya_isConst, ya_needed, ya_inputs, ya_values, ya_variables, ya_cells, ya_outs, ya_was, ya_rest, ya_line)) (hi : i < n) (hon : f_on ≠ 0 ∨ (K i = 20 ∨ K i = 21 ∨ K i = 23)) : rn_goes K n T i br (f_lines, f_studied, f_wrong, f_wrongAt, f_brief, f_on, f_dropped, f_steps, f_nextLine, f_repeats, a_kinds, a_firsts, a_seconds, a_thirds, a_inputs, a_home, a_depth, a_closer, a_mate, a_operands, a_varies, a_parted, a_variableVaries, a_same, a_fixed, a_worth, a_needed, a_variableNeeded, a_values, a_variables, a_outputs, a_cells, a_whole, a_waiting) (yf_lines, yf_known, yf_wrong, yf_place, yf_blocks, yf_steps, yf_dropped, yf_on, yf_next, yf_again, yf_depth, ya_ops, ya_as, ya_bs, ya_cs, ya_blockOf, ya_opener, ya_around, ya_other, ya_end, ya_open, ya_varied, ya_loose, ya_variedVariable, ya_stands, ya_number, ya_isConst, ya_needed, ya_inputs, ya_values, ya_variables, ya_cells, ya_outs, ya_was, ya_rest, ya_line) := by
  have k25 : K i ≤ 25 := by obtain ⟨hW, _⟩ := hS; exact (hW.2.1 i hi).2
  by_cases h20 : K i = 20
  · exact ln_else hS hp hd hi h20
  by_cases h21 : K i = 21
  · exact ln_end hS hp hd hi h21
  by_cases h23 : K i = 23
  · exact ln_again hS hp hd hi h23
  have hon' : f_on ≠ 0 := hon.resolve_right (by omega)
  by_cases h15 : K i ≤ 15
  · exact ln_val hS hp hd hi hon' h15
  by_cases h16 : K i = 16
  · exact ln_take hS hp hd hi hon' h16
  by_cases h17 : K i = 17
  · exact ln_put hS hp hd hi hon' h17
  by_cases h18 : K i = 18
  · exact ln_out hS hp hd hi hon' h18
  by_cases h19 : K i = 19
  · exact ln_if hS hp hd hi hon' h19
  by_cases h22 : K i = 22
  · exact ln_loop hS hp hd hi hon' h22
  by_cases h24 : K i = 24
  · exact ln_break hS hp hd hi hon' h24
  exact ln_drop hS hp hd hi hon' (by omega)
end
