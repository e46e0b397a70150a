section
variable {K : Nat → Nat} {n : Nat} {T : Nat → Nat × Bool × Int32} {br : Int32}
variable {f_lines f_studied f_wrong f_wrongAt f_brief f_on f_dropped f_steps f_nextLine f_repeats : Int32} {a_kinds a_firsts a_seconds a_thirds a_inputs a_home a_depth a_closer a_mate a_operands a_varies a_parted a_variableVaries a_same a_fixed a_worth a_needed a_variableNeeded a_values a_variables a_outputs a_cells a_whole a_waiting : Nat → Int32}
variable {yf_lines yf_known yf_wrong yf_place yf_blocks yf_steps yf_dropped yf_on yf_next yf_again yf_depth : Int32} {ya_ops ya_as ya_bs ya_cs ya_blockOf ya_opener ya_around ya_other ya_end ya_open ya_varied ya_loose ya_variedVariable ya_stands ya_number ya_isConst ya_needed ya_inputs ya_values ya_variables ya_cells ya_outs ya_was ya_rest ya_line : Nat → Int32}
theorem ln_ops : ∀ l, l < 4 → (nI l ||| 1 = nI (l ||| 1) ∧ l ||| 1 < 4) ∧ (nI l &&& 2 = nI (l &&& 2) ∧ l &&& 2 < 4) ∧ (nI l ||| 2 = nI (l ||| 2) ∧ l ||| 2 < 4) ∧ (nI l &&& 1 = nI (l &&& 1) ∧ l &&& 1 < 4) := by decide +kernel
/-- the value of line i for lane l -/
noncomputable def vf (K : Nat → Nat) (A B C inp vars : Nat → Int32) (T : Nat → Nat × Bool × Int32) (br : Int32) (w dw i : Nat) (vals : Nat → Int32) (l : Nat) : Int32 :=
  if K i = 0 then A i else if K i = 1 then inp (4 * l + (A i).toNatClampNeg) else if K i = 2 then nI l
  else if 3 ≤ K i ∧ K i ≤ 9 then sh_rk (K i) (rv br T vals (sh_o A B C 0 i) l) (if K i = 9 then 0 else rv br T vals (sh_o A B C 1 i) l)
  else if K i = 10 then (if rv br T vals (sh_o A B C 0 i) l = 0 then rv br T vals (sh_o A B C 2 i) l else rv br T vals (sh_o A B C 1 i) l)
  else if K i = 11 then vars (l * 4 + (A i).toNatClampNeg)
  else if K i = 12 then rv br T vals (sh_o A B C 0 i) (l ||| 1) - rv br T vals (sh_o A B C 0 i) (l &&& 2)
  else if K i = 13 then rv br T vals (sh_o A B C 0 i) (l ||| 2) - rv br T vals (sh_o A B C 0 i) (l &&& 1)
  else if K i = 14 then @ite _ (∃ l, l < 4 ∧ w.testBit l = true ∧ dw.testBit l = false ∧ rv br T vals (sh_o A B C 0 i) l ≠ 0) (Classical.propDecidable _) 1 0
  else @dite _ (∃ q, q < 4 ∧ (w.testBit q = true ∧ dw.testBit q = false)) (Classical.propDecidable _) (fun h => rv br T vals (sh_o A B C 0 i) (Classical.choose (pk_least (fun q => q < 4 ∧ (w.testBit q = true ∧ dw.testBit q = false)) h))) (fun _ => 0)
theorem rn_val (hS : rn_stat K n T br f_lines f_brief a_kinds a_firsts a_seconds a_thirds a_inputs a_home a_depth a_closer a_mate a_operands a_same a_fixed a_worth a_needed yf_lines ya_ops ya_as ya_bs ya_cs ya_blockOf ya_opener ya_around ya_other ya_end ya_stands ya_number ya_isConst ya_needed ya_inputs) {i w dw l : Nat} (hi : i < n) (h15 : K i ≤ 15) (hl : l < 4) (hw : w < 16) (eon : f_on = nI w) (eyn : yf_on = f_on) (hdw : dw < 16) (edr : f_dropped = nI dw) (eyd : yf_dropped = f_dropped) (hv : ∀ q, q < 192 → a_values q = ya_values q) (hvar : va_R a_variables ya_variables) :
    ∃ r : Int32, r = vf K a_firsts a_seconds a_thirds a_inputs a_variables T br w dw i a_values l ∧ (∀ post : Int32 → SX → Prop, post r (f_lines, f_studied, f_wrong, f_wrongAt, f_brief, f_on, f_dropped, f_steps, f_nextLine, f_repeats, a_kinds, a_firsts, a_seconds, a_thirds, a_inputs, a_home, a_depth, a_closer, a_mate, a_operands, a_varies, a_parted, a_variableVaries, a_same, a_fixed, a_worth, a_needed, a_variableNeeded, a_values, a_variables, a_outputs, a_cells, a_whole, a_waiting) → wpX_valueFor post (f_lines, f_studied, f_wrong, f_wrongAt, f_brief, f_on, f_dropped, f_steps, f_nextLine, f_repeats, a_kinds, a_firsts, a_seconds, a_thirds, a_inputs, a_home, a_depth, a_closer, a_mate, a_operands, a_varies, a_parted, a_variableVaries, a_same, a_fixed, a_worth, a_needed, a_variableNeeded, a_values, a_variables, a_outputs, a_cells, a_whole, a_waiting) (nI i) (nI l)) ∧ (∀ post : Int32 → Prop, post r → wpY_result post (yf_lines, yf_known, yf_wrong, yf_place, yf_blocks, yf_steps, yf_dropped, yf_on, yf_next, yf_again, yf_depth, ya_ops, ya_as, ya_bs, ya_cs, ya_blockOf, ya_opener, ya_around, ya_other, ya_end, ya_open, ya_varied, ya_loose, ya_variedVariable, ya_stands, ya_number, ya_isConst, ya_needed, ya_inputs, ya_values, ya_variables, ya_cells, ya_outs, ya_was, ya_rest, ya_line) (nI i) (nI l) br) := by
  obtain ⟨hW, hok, hfr, hA, hc0, hB, ⟨e1, e2, e3, e4, e5⟩, ⟨hR, hR', hgT, hc10⟩, hnd, hself, hini, eb, hbr, el, el'⟩ := hS
  have hP := pg_xvP hW hok hA
  have hn := hW.1
  have hov := (sc_ck0 (hok i hi)).2.1
  have ki := hW.2.1 i hi
  have ci : (nI i).toNatClampNeg = i := nI_clamp (by omega)
  have ii : vp_in (nI i) 48 := vp_in_nI (by omega) (by omega)
  subst eb eyn eon eyd edr
  have kiy : ya_ops i = nI (K i) := by rw [e1]; exact ki.1
  have easy : ya_as i = a_firsts i := by rw [e2]
  have rd : ∀ s, s < 3 → sc_us (K i) s → sc_o3 a_firsts a_seconds a_thirds s i = nI (sh_o a_firsts a_seconds a_thirds s i) ∧ sh_o a_firsts a_seconds a_thirds s i < i := fun s hs hu => by
    obtain ⟨a, b, _⟩ := sh_ov_lt (by omega) (hov s hs hu); exact ⟨b, a⟩
  have er : ∀ s, s < 3 → sc_us (K i) s → ∀ m, m < 4 → rv f_brief T ya_values (sh_o a_firsts a_seconds a_thirds s i) m = rv f_brief T a_values (sh_o a_firsts a_seconds a_thirds s i) m := fun s hs hu m hm =>
    rv_eq (hgT _ (by have := (rd s hs hu).2; omega)).1 (fun q hq => (hv q (by have := (rd s hs hu).2; omega)).symm)
  have xr : ∀ (post : Int32 → Prop) (s m : Nat), s < 3 → m < 4 → sc_us (K i) s → post (rv f_brief T a_values (sh_o a_firsts a_seconds a_thirds s i) m) → wpX_read post (f_lines, f_studied, f_wrong, f_wrongAt, f_brief, nI w, nI dw, f_steps, f_nextLine, f_repeats, a_kinds, a_firsts, a_seconds, a_thirds, a_inputs, a_home, a_depth, a_closer, a_mate, a_operands, a_varies, a_parted, a_variableVaries, a_same, a_fixed, a_worth, a_needed, a_variableNeeded, a_values, a_variables, a_outputs, a_cells, a_whole, a_waiting) (nI i) (nI s) (nI m) := fun post s m hs hm hu h =>
    rx_read (K := K) (n := n) (T := T) hP hR hgT hi hs hm (fun _ => h) (fun h' => absurd hu h')
  have yr : ∀ (post : Int32 → Prop) (s m : Nat), s < 3 → m < 4 → sc_us (K i) s → post (rv f_brief T a_values (sh_o a_firsts a_seconds a_thirds s i) m) → wpY_value post (yf_lines, yf_known, yf_wrong, yf_place, yf_blocks, yf_steps, nI dw, nI w, yf_next, yf_again, yf_depth, ya_ops, ya_as, ya_bs, ya_cs, ya_blockOf, ya_opener, ya_around, ya_other, ya_end, ya_open, ya_varied, ya_loose, ya_variedVariable, ya_stands, ya_number, ya_isConst, ya_needed, ya_inputs, ya_values, ya_variables, ya_cells, ya_outs, ya_was, ya_rest, ya_line) (sc_o3 a_firsts a_seconds a_thirds s i) (nI m) f_brief := fun post s m hs hm hu h => by
    rw [(rd s hs hu).1]
    exact ry_value (n := n) (T := T) hn hR' hgT (by have := (rd s hs hu).2; omega) hm (by rw [er s hs hu m hm]; exact h)
  have o0 : sc_o3 a_firsts a_seconds a_thirds 0 i = a_firsts i := rfl
  have o1 : sc_o3 a_firsts a_seconds a_thirds 1 i = a_seconds i := rfl
  have o2 : sc_o3 a_firsts a_seconds a_thirds 2 i = a_thirds i := rfl
  have lo := ln_ops l hl
  by_cases k0 : K i = 0
  · refine ⟨a_firsts i, by unfold vf; rw [if_pos k0], fun post h => rx_switch (by omega) ki.1 (by omega) (fun _ => h) ?_ ?_ ?_ ?_ ?_ ?_ ?_ ?_ ?_ ?_, fun post h => ry_switch (by omega) kiy (by omega) easy (fun _ => h) ?_ ?_ ?_ ?_ ?_ ?_ ?_ ?_ ?_⟩ <;> (intro h'; exact absurd h' (by omega))
  by_cases k1 : K i = 1
  · obtain ⟨a, ha, ea⟩ := hW.2.2 i hi (by omega)
    refine ⟨a_inputs (4 * l + a), by unfold vf; rw [if_neg k0, if_pos k1, ea, nI_clamp (by omega)], fun post h => rx_switch (by omega) ki.1 (by omega) ?_ (fun _ => ?_) ?_ ?_ ?_ ?_ ?_ ?_ ?_ ?_ ?_, fun post h => ry_switch (by omega) kiy (by omega) easy ?_ (fun _ => ?_) ?_ ?_ ?_ ?_ ?_ ?_ ?_ ?_⟩
    case refine_2 => rw [ea, e_43, nI_clamp (by omega)]; exact ⟨vp_in_nI (by omega) (by omega), h⟩
    case refine_13 => rw [ea, e_44, nI_clamp (by omega), e5]; exact ⟨vp_in_nI (by omega) (by omega), h⟩
    all_goals (intro h'; exact absurd h' (by omega))
  by_cases k2 : K i = 2
  · refine ⟨nI l, by unfold vf; rw [if_neg k0, if_neg k1, if_pos k2], fun post h => rx_switch (by omega) ki.1 (by omega) ?_ ?_ (fun _ => h) ?_ ?_ ?_ ?_ ?_ ?_ ?_ ?_, fun post h => ry_switch (by omega) kiy (by omega) easy ?_ ?_ (fun _ => h) ?_ ?_ ?_ ?_ ?_ ?_ ?_⟩ <;> (intro h'; exact absurd h' (by omega))
  by_cases ks : 3 ≤ K i ∧ K i ≤ 9
  · have u0 : sc_us (K i) 0 := by unfold sc_us; omega
    have fx : ∀ post : Int32 → SX → Prop, post (sh_rk (K i) ((rv f_brief T a_values (sh_o a_firsts a_seconds a_thirds 0 i) l)) (if K i = 9 then 0 else (rv f_brief T a_values (sh_o a_firsts a_seconds a_thirds 1 i) l))) (f_lines, f_studied, f_wrong, f_wrongAt, f_brief, nI w, nI dw, f_steps, f_nextLine, f_repeats, a_kinds, a_firsts, a_seconds, a_thirds, a_inputs, a_home, a_depth, a_closer, a_mate, a_operands, a_varies, a_parted, a_variableVaries, a_same, a_fixed, a_worth, a_needed, a_variableNeeded, a_values, a_variables, a_outputs, a_cells, a_whole, a_waiting) → wX_valueFor_216 post (nI i) (nI l) f_lines f_studied f_wrong f_wrongAt f_brief (nI w) (nI dw) f_steps f_nextLine f_repeats a_kinds a_firsts a_seconds a_thirds a_inputs a_home a_depth a_closer a_mate a_operands a_varies a_parted a_variableVaries a_same a_fixed a_worth a_needed a_variableNeeded a_values a_variables a_outputs a_cells a_whole a_waiting := fun post h => by
      refine xr _ 0 l (by omega) hl u0 ?_
      by_cases e9 : K i = 9
      · rw [if_pos e9] at h
        refine rx_read (K := K) (n := n) (T := T) (s := 1) hP hR hgT hi (by omega) hl (fun h' => absurd h' (by unfold sc_us; omega)) (fun _ => ⟨ii, ?_⟩)
        rw [ci, ki.1]
        exact sx_result ks.1 ks.2 h
      · rw [if_neg e9] at h
        refine xr _ 1 l (by omega) hl (by unfold sc_us; omega) ⟨ii, ?_⟩
        rw [ci, ki.1]
        exact sx_result ks.1 ks.2 h
    have fy : ∀ post : Int32 → Prop, post (sh_rk (K i) ((rv f_brief T a_values (sh_o a_firsts a_seconds a_thirds 0 i) l)) (if K i = 9 then 0 else (rv f_brief T a_values (sh_o a_firsts a_seconds a_thirds 1 i) l))) → wY_result_278 post (nI i) (nI l) f_brief (nI (K i)) (a_firsts i) yf_lines yf_known yf_wrong yf_place yf_blocks yf_steps (nI dw) (nI w) yf_next yf_again yf_depth ya_ops ya_as ya_bs ya_cs ya_blockOf ya_opener ya_around ya_other ya_end ya_open ya_varied ya_loose ya_variedVariable ya_stands ya_number ya_isConst ya_needed ya_inputs ya_values ya_variables ya_cells ya_outs ya_was ya_rest ya_line := fun post h => by
      refine yr _ 0 l (by omega) hl u0 ?_
      refine pk_eq (K i) 9 (fun e9 => ?_) (fun e9 => ⟨ii, ?_⟩)
      · rw [if_pos e9] at h
        exact sy_reckon ks.1 ks.2 h
      · rw [if_neg e9] at h
        rw [ci, e3]
        have := yr (fun r_47 => wY_result_311 post (nI (K i)) ((rv f_brief T a_values (sh_o a_firsts a_seconds a_thirds 0 i) l)) r_47 yf_lines yf_known yf_wrong yf_place yf_blocks yf_steps (nI dw) (nI w) yf_next yf_again yf_depth ya_ops ya_as ya_bs ya_cs ya_blockOf ya_opener ya_around ya_other ya_end ya_open ya_varied ya_loose ya_variedVariable ya_stands ya_number ya_isConst ya_needed ya_inputs ya_values ya_variables ya_cells ya_outs ya_was ya_rest ya_line) 1 l (by omega) hl (by unfold sc_us; omega) (sy_reckon ks.1 ks.2 h)
        rw [e3] at this
        exact this
    refine ⟨_, by unfold vf; rw [if_neg k0, if_neg k1, if_neg k2, if_pos ks], fun post h => rx_switch (by omega) ki.1 (by omega) ?_ ?_ ?_ (fun _ _ => fx post h) ?_ ?_ ?_ ?_ ?_ ?_ ?_, fun post h => ry_switch (by omega) kiy (by omega) easy ?_ ?_ ?_ (fun _ _ => fy post h) ?_ ?_ ?_ ?_ ?_ ?_⟩ <;> (intro h'; exact absurd h' (by omega))
  by_cases k10 : K i = 10
  · have u0 : sc_us (K i) 0 := by unfold sc_us; omega
    have u1 : sc_us (K i) 1 := by unfold sc_us; omega
    have u2 : sc_us (K i) 2 := by unfold sc_us; omega
    by_cases hz : (rv f_brief T a_values (sh_o a_firsts a_seconds a_thirds 0 i) l) = 0
    · refine ⟨(rv f_brief T a_values (sh_o a_firsts a_seconds a_thirds 2 i) l), by unfold vf; rw [if_neg k0, if_neg k1, if_neg k2, if_neg ks, if_pos k10, if_pos hz], fun post h => rx_switch (by omega) ki.1 (by omega) ?_ ?_ ?_ ?_ (fun _ => xr _ 0 l (by omega) hl u0 (br_t hz (xr _ 2 l (by omega) hl u2 h))) ?_ ?_ ?_ ?_ ?_ ?_, fun post h => ry_switch (by omega) kiy (by omega) easy ?_ ?_ ?_ ?_ (fun _ => yr _ 0 l (by omega) hl u0 (br_t hz ⟨ii, ?_⟩)) ?_ ?_ ?_ ?_ ?_⟩
      case refine_15 => rw [e4]; have := yr (fun r_136 => post r_136) 2 l (by omega) hl u2 h; rw [e4] at this; exact this
      all_goals first | (intro h'; exact absurd h' (by omega)) | (intro h' h''; exact absurd h'' (by omega))
    · refine ⟨(rv f_brief T a_values (sh_o a_firsts a_seconds a_thirds 1 i) l), by unfold vf; rw [if_neg k0, if_neg k1, if_neg k2, if_neg ks, if_pos k10, if_neg hz], fun post h => rx_switch (by omega) ki.1 (by omega) ?_ ?_ ?_ ?_ (fun _ => xr _ 0 l (by omega) hl u0 (br_f hz (xr _ 1 l (by omega) hl u1 h))) ?_ ?_ ?_ ?_ ?_ ?_, fun post h => ry_switch (by omega) kiy (by omega) easy ?_ ?_ ?_ ?_ (fun _ => yr _ 0 l (by omega) hl u0 (br_f hz ⟨ii, ?_⟩)) ?_ ?_ ?_ ?_ ?_⟩
      case refine_15 => rw [e3]; have := yr (fun r_136 => post r_136) 1 l (by omega) hl u1 h; rw [e3] at this; exact this
      all_goals first | (intro h'; exact absurd h' (by omega)) | (intro h' h''; exact absurd h'' (by omega))
  by_cases k11 : K i = 11
  · obtain ⟨a, ha, ea⟩ := hW.2.2 i hi (by omega)
    refine ⟨a_variables (l * 4 + a), by unfold vf; rw [if_neg k0, if_neg k1, if_neg k2, if_neg ks, if_neg k10, if_pos k11, ea, nI_clamp (by omega)], fun post h => rx_switch (by omega) ki.1 (by omega) ?_ ?_ ?_ ?_ ?_ (fun _ => ?_) ?_ ?_ ?_ ?_ ?_, fun post h => ry_switch (by omega) kiy (by omega) easy ?_ ?_ ?_ ?_ ?_ (fun _ => ?_) ?_ ?_ ?_ ?_⟩
    case refine_6 => rw [ea, e_4l, nI_clamp (by omega)]; exact ⟨vp_in_nI (by omega) (by omega), h⟩
    case refine_17 => rw [ea, e_44, nI_clamp (by omega), ← hvar l hl a ha]; exact ⟨vp_in_nI (by omega) (by omega), h⟩
    all_goals first | (intro h'; exact absurd h' (by omega)) | (intro h' h''; exact absurd h'' (by omega))
  by_cases k12 : K i = 12
  · have u0 : sc_us (K i) 0 := by unfold sc_us; omega
    refine ⟨rv f_brief T a_values (sh_o a_firsts a_seconds a_thirds 0 i) (l ||| 1) - rv f_brief T a_values (sh_o a_firsts a_seconds a_thirds 0 i) (l &&& 2), by unfold vf; rw [if_neg k0, if_neg k1, if_neg k2, if_neg ks, if_neg k10, if_neg k11, if_pos k12], fun post h => rx_switch (by omega) ki.1 (by omega) ?_ ?_ ?_ ?_ ?_ ?_ (fun _ => ?_) ?_ ?_ ?_ ?_, fun post h => ry_switch (by omega) kiy (by omega) easy ?_ ?_ ?_ ?_ ?_ ?_ (fun _ => ?_) ?_ ?_ ?_⟩
    case refine_7 => rw [lo.1.1, lo.2.1.1]; exact xr _ 0 _ (by omega) lo.1.2 u0 (xr _ 0 _ (by omega) lo.2.1.2 u0 h)
    case refine_18 => rw [lo.1.1, lo.2.1.1]; exact yr _ 0 _ (by omega) lo.1.2 u0 (yr _ 0 _ (by omega) lo.2.1.2 u0 h)
    all_goals first | (intro h'; exact absurd h' (by omega)) | (intro h' h''; exact absurd h'' (by omega))
  by_cases k13 : K i = 13
  · have u0 : sc_us (K i) 0 := by unfold sc_us; omega
    refine ⟨rv f_brief T a_values (sh_o a_firsts a_seconds a_thirds 0 i) (l ||| 2) - rv f_brief T a_values (sh_o a_firsts a_seconds a_thirds 0 i) (l &&& 1), by unfold vf; rw [if_neg k0, if_neg k1, if_neg k2, if_neg ks, if_neg k10, if_neg k11, if_neg k12, if_pos k13], fun post h => rx_switch (by omega) ki.1 (by omega) ?_ ?_ ?_ ?_ ?_ ?_ ?_ (fun _ => ?_) ?_ ?_ ?_, fun post h => ry_switch (by omega) kiy (by omega) easy ?_ ?_ ?_ ?_ ?_ ?_ ?_ (fun _ => ?_) ?_ ?_⟩
    case refine_8 => rw [lo.2.2.1.1, lo.2.2.2.1]; exact xr _ 0 _ (by omega) lo.2.2.1.2 u0 (xr _ 0 _ (by omega) lo.2.2.2.2 u0 h)
    case refine_19 => rw [lo.2.2.1.1, lo.2.2.2.1]; exact yr _ 0 _ (by omega) lo.2.2.1.2 u0 (yr _ 0 _ (by omega) lo.2.2.2.2 u0 h)
    all_goals first | (intro h'; exact absurd h' (by omega)) | (intro h' h''; exact absurd h'' (by omega))
  have u0 : sc_us (K i) 0 := by unfold sc_us; omega
  have lx := mk_an w hw dw hdw
  have llt := (mk_lt w hw dw hdw).1
  have lb : ∀ q, q < 4 → ((w &&& (15 ^^^ dw)).testBit q = true ↔ (w.testBit q = true ∧ dw.testBit q = false)) := fun q hq => by
    rw [mk_anb w hw dw hdw q hq]; simp
  by_cases k14 : K i = 14
  · have fy : ∀ (post : Int32 → Prop), ((∃ l, l < 4 ∧ w.testBit l = true ∧ dw.testBit l = false ∧ rv f_brief T a_values (sh_o a_firsts a_seconds a_thirds 0 i) l ≠ 0) → post 1) → ((¬ ∃ l, l < 4 ∧ w.testBit l = true ∧ dw.testBit l = false ∧ rv f_brief T a_values (sh_o a_firsts a_seconds a_thirds 0 i) l ≠ 0) → post 0) → wpY_mask (fun r_327 => ((((r_327 &&& (nI w &&& (nI dw ^^^ (-1)))) = 0 → (post 0)) ∧ (¬ (r_327 &&& (nI w &&& (nI dw ^^^ (-1)))) = 0 → (post 1))))) (yf_lines, yf_known, yf_wrong, yf_place, yf_blocks, yf_steps, nI dw, nI w, yf_next, yf_again, yf_depth, ya_ops, ya_as, ya_bs, ya_cs, ya_blockOf, ya_opener, ya_around, ya_other, ya_end, ya_open, ya_varied, ya_loose, ya_variedVariable, ya_stands, ya_number, ya_isConst, ya_needed, ya_inputs, ya_values, ya_variables, ya_cells, ya_outs, ya_was, ya_rest, ya_line) (a_firsts i) f_brief := fun post h1 h0 => by
      rw [lx, show a_firsts i = nI (sh_o a_firsts a_seconds a_thirds 0 i) from (rd 0 (by omega) u0).1]
      refine ry_mask (n := n) (T := T) hn hR' hgT (by have := (rd 0 (by omega) u0).2; omega) (fun m hm hb => ?_)
      rw [mk_and m hm _ llt]
      have mlt := (mk_lt m hm _ llt).2.1
      refine br_c (fun hz => h0 ?_) (fun hz => h1 ?_)
      · rintro ⟨q, hq, a, b, c⟩
        have z := (mk_ne _ mlt).mp hz
        have : (m &&& (w &&& (15 ^^^ dw))).testBit q = true := by
          rw [Nat.testBit_and, hb q hq, er 0 (by omega) u0 q hq, (lb q hq).mpr ⟨a, b⟩]; simp [c]
        rw [z] at this; simp at this
      · refine Classical.byContradiction (fun hno => hz ?_)
        rw [mk_ne _ mlt]
        refine mk_zero _ mlt (fun q hq => ?_)
        rw [Nat.testBit_and, hb q hq, er 0 (by omega) u0 q hq]
        cases hlv : (w &&& (15 ^^^ dw)).testBit q with
        | false => simp
        | true =>
          have := (lb q hq).mp hlv
          by_cases hr : rv f_brief T a_values (sh_o a_firsts a_seconds a_thirds 0 i) q = 0
          · simp [hr]
          · exact absurd ⟨q, hq, this.1, this.2, hr⟩ hno
    have fx : ∀ (post : Int32 → Prop), ((∃ l, l < 4 ∧ w.testBit l = true ∧ dw.testBit l = false ∧ rv f_brief T a_values (sh_o a_firsts a_seconds a_thirds 0 i) l ≠ 0) → post 1) → ((¬ ∃ l, l < 4 ∧ w.testBit l = true ∧ dw.testBit l = false ∧ rv f_brief T a_values (sh_o a_firsts a_seconds a_thirds 0 i) l ≠ 0) → post 0) → wpX_anyOf post (f_lines, f_studied, f_wrong, f_wrongAt, f_brief, nI w, nI dw, f_steps, f_nextLine, f_repeats, a_kinds, a_firsts, a_seconds, a_thirds, a_inputs, a_home, a_depth, a_closer, a_mate, a_operands, a_varies, a_parted, a_variableVaries, a_same, a_fixed, a_worth, a_needed, a_variableNeeded, a_values, a_variables, a_outputs, a_cells, a_whole, a_waiting) (nI i) := fun post h1 h0 =>
      ⟨5, rx_any (K := K) (n := n) (T := T) (w := w) (dw := dw) hP hR hgT hi u0 hw rfl hdw rfl h1 h0 4 0 rfl (fun q hq => by omega)⟩
    by_cases hex : ∃ l, l < 4 ∧ w.testBit l = true ∧ dw.testBit l = false ∧ rv f_brief T a_values (sh_o a_firsts a_seconds a_thirds 0 i) l ≠ 0
    · refine ⟨1, by unfold vf; rw [if_neg k0, if_neg k1, if_neg k2, if_neg ks, if_neg k10, if_neg k11, if_neg k12, if_neg k13, if_pos k14, if_pos hex], fun post h => rx_switch (by omega) ki.1 (by omega) ?_ ?_ ?_ ?_ ?_ ?_ ?_ ?_ (fun _ => fx _ (fun _ => h) (fun hn => absurd hex hn)) ?_ ?_, fun post h => ry_switch (by omega) kiy (by omega) easy ?_ ?_ ?_ ?_ ?_ ?_ ?_ ?_ (fun _ => fy _ (fun _ => h) (fun hn => absurd hex hn)) ?_⟩ <;> first | (intro h'; exact absurd h' (by omega)) | (intro h' h''; exact absurd h'' (by omega))
    · refine ⟨0, by unfold vf; rw [if_neg k0, if_neg k1, if_neg k2, if_neg ks, if_neg k10, if_neg k11, if_neg k12, if_neg k13, if_pos k14, if_neg hex], fun post h => rx_switch (by omega) ki.1 (by omega) ?_ ?_ ?_ ?_ ?_ ?_ ?_ ?_ (fun _ => fx _ (fun hn => absurd hn hex) (fun _ => h)) ?_ ?_, fun post h => ry_switch (by omega) kiy (by omega) easy ?_ ?_ ?_ ?_ ?_ ?_ ?_ ?_ (fun _ => fy _ (fun hn => absurd hn hex) (fun _ => h)) ?_⟩ <;> first | (intro h'; exact absurd h' (by omega)) | (intro h' h''; exact absurd h'' (by omega))
  have k15 : K i = 15 := by omega
  have fx : ∀ (post : Int32 → Prop), (∀ l, l < 4 → (w.testBit l = true ∧ dw.testBit l = false) → (∀ q, q < l → ¬ (w.testBit q = true ∧ dw.testBit q = false)) → post (rv f_brief T a_values (sh_o a_firsts a_seconds a_thirds 0 i) l)) → ((∀ q, q < 4 → ¬ (w.testBit q = true ∧ dw.testBit q = false)) → post 0) → wpX_firstOf post (f_lines, f_studied, f_wrong, f_wrongAt, f_brief, nI w, nI dw, f_steps, f_nextLine, f_repeats, a_kinds, a_firsts, a_seconds, a_thirds, a_inputs, a_home, a_depth, a_closer, a_mate, a_operands, a_varies, a_parted, a_variableVaries, a_same, a_fixed, a_worth, a_needed, a_variableNeeded, a_values, a_variables, a_outputs, a_cells, a_whole, a_waiting) (nI i) := fun post h1 h0 =>
    ⟨5, rx_first (K := K) (n := n) (T := T) (w := w) (dw := dw) hP hR hgT hi u0 hw rfl hdw rfl h1 h0 4 0 rfl (fun q hq => by omega)⟩
  have fy : ∀ (post : Int32 → Prop), (∀ l, l < 4 → (w.testBit l = true ∧ dw.testBit l = false) → (∀ q, q < l → ¬ (w.testBit q = true ∧ dw.testBit q = false)) → post (rv f_brief T a_values (sh_o a_firsts a_seconds a_thirds 0 i) l)) → ((∀ q, q < 4 → ¬ (w.testBit q = true ∧ dw.testBit q = false)) → post 0) → ∃ m, wY_result_236 post f_brief (a_firsts i) (nI w &&& (nI dw ^^^ (-1))) yf_lines yf_known yf_wrong yf_place yf_blocks yf_steps (nI dw) (nI w) yf_next yf_again yf_depth ya_ops ya_as ya_bs ya_cs ya_blockOf ya_opener ya_around ya_other ya_end ya_open ya_varied ya_loose ya_variedVariable ya_stands ya_number ya_isConst ya_needed ya_inputs ya_values ya_variables ya_cells ya_outs ya_was ya_rest ya_line m 0 := fun post h1 h0 => by
    rw [lx, show a_firsts i = nI (sh_o a_firsts a_seconds a_thirds 0 i) from (rd 0 (by omega) u0).1]
    refine ⟨5, ry_first (n := n) (T := T) hn hR' hgT (by have := (rd 0 (by omega) u0).2; omega) llt (fun q hq hb hno => ?_) (fun hno => h0 (fun q hq h => hno q hq ((lb q hq).mpr h))) 4 0 rfl (fun q hq => by omega)⟩
    rw [er 0 (by omega) u0 q hq]
    exact h1 q hq ((lb q hq).mp hb) (fun q' hq' h => hno q' hq' ((lb q' (by omega)).mpr h))
  by_cases hex : ∃ q, q < 4 ∧ (w.testBit q = true ∧ dw.testBit q = false)
  · obtain ⟨q, eqq⟩ : ∃ q, q = Classical.choose (pk_least (fun q => q < 4 ∧ (w.testBit q = true ∧ dw.testBit q = false)) hex) := ⟨_, rfl⟩
    have sp := Classical.choose_spec (pk_least (fun q => q < 4 ∧ (w.testBit q = true ∧ dw.testBit q = false)) hex)
    rw [← eqq] at sp
    obtain ⟨⟨hq, hlv⟩, hmin⟩ := sp
    have uq : ∀ q', q' < 4 → (w.testBit q' = true ∧ dw.testBit q' = false) → (∀ p, p < q' → ¬ (w.testBit p = true ∧ dw.testBit p = false)) → q' = q := fun q' hq' h' hno' => by
      rcases Nat.lt_trichotomy q q' with z | z | z
      · exact absurd hlv (hno' q z)
      · exact z.symm
      · exact absurd ⟨hq', h'⟩ (hmin q' z)
    refine ⟨rv f_brief T a_values (sh_o a_firsts a_seconds a_thirds 0 i) q, by unfold vf; rw [if_neg k0, if_neg k1, if_neg k2, if_neg ks, if_neg k10, if_neg k11, if_neg k12, if_neg k13, if_neg k14, dif_pos hex, ← eqq], fun post h => rx_switch (by omega) ki.1 (by omega) ?_ ?_ ?_ ?_ ?_ ?_ ?_ ?_ ?_ (fun _ => fx _ (fun q' a b c => by rw [uq q' a b c]; exact h) (fun hn => absurd hlv (hn q hq))) ?_, fun post h => ry_switch (by omega) kiy (by omega) easy ?_ ?_ ?_ ?_ ?_ ?_ ?_ ?_ ?_ (fun _ => fy _ (fun q' a b c => by rw [uq q' a b c]; exact h) (fun hn => absurd hlv (hn q hq)))⟩ <;> first | (intro h'; exact absurd h' (by omega)) | (intro h' h''; exact absurd h'' (by omega))
  · refine ⟨0, by unfold vf; rw [if_neg k0, if_neg k1, if_neg k2, if_neg ks, if_neg k10, if_neg k11, if_neg k12, if_neg k13, if_neg k14, dif_neg hex], fun post h => rx_switch (by omega) ki.1 (by omega) ?_ ?_ ?_ ?_ ?_ ?_ ?_ ?_ ?_ (fun _ => fx _ (fun q' a b c => absurd ⟨q', a, b⟩ hex) (fun _ => h)) ?_, fun post h => ry_switch (by omega) kiy (by omega) easy ?_ ?_ ?_ ?_ ?_ ?_ ?_ ?_ ?_ (fun _ => fy _ (fun q' a b c => absurd ⟨q', a, b⟩ hex) (fun _ => h))⟩ <;> first | (intro h'; exact absurd h' (by omega)) | (intro h' h''; exact absurd h'' (by omega))
end
