section
variable {K : Nat → Nat} {n : Nat} {T : Nat → Nat × Bool × Int32} {br : Int32}
variable {f_lines f_studied f_wrong f_wrongAt f_brief f_on f_dropped f_steps f_nextLine f_repeats : Int32} {a_kinds a_firsts a_seconds a_thirds a_inputs a_home a_depth a_closer a_mate a_operands a_varies a_parted a_variableVaries a_same a_fixed a_worth a_needed a_variableNeeded a_values a_variables a_outputs a_cells a_whole a_waiting : Nat → Int32}
variable {yf_lines yf_known yf_wrong yf_place yf_blocks yf_steps yf_dropped yf_on yf_next yf_again yf_depth : Int32} {ya_ops ya_as ya_bs ya_cs ya_blockOf ya_opener ya_around ya_other ya_end ya_open ya_varied ya_loose ya_variedVariable ya_stands ya_number ya_isConst ya_needed ya_inputs ya_values ya_variables ya_cells ya_outs ya_was ya_rest ya_line : Nat → Int32}
theorem pa_ex {nd : Nat → Int32} : ∀ d i : Nat, i + d = n → ∃ a, pa_R br nd n i a := by
  intro d
  induction d with
  | zero => intro i hi; exact ⟨i, Nat.le_refl _, by omega, fun _ => rfl, fun _ => ⟨fun j a b => by omega, fun a => by omega⟩⟩
  | succ d ih =>
    intro i hi
    by_cases hb : br = 0
    · exact ⟨i, Nat.le_refl _, by omega, fun _ => rfl, fun h => absurd hb h⟩
    · by_cases hz : nd i = 0
      · obtain ⟨a, a1, a2, a3, a4⟩ := ih (i + 1) (by omega)
        refine ⟨a, by omega, a2, fun h => absurd h hb, fun h => ⟨fun j h1 h2 => ?_, (a4 h).2⟩⟩
        by_cases e : j = i
        · rw [e]; exact hz
        · exact (a4 h).1 j (by omega) h2
      · exact ⟨i, Nat.le_refl _, by omega, fun _ => rfl, fun _ => ⟨fun j a b => by omega, fun _ => hz⟩⟩
theorem rn_pass {i : Nat} (hS : rn_stat K n T br f_lines f_brief a_kinds a_firsts a_seconds a_thirds a_inputs a_home a_depth a_closer a_mate a_operands a_same a_fixed a_worth a_needed yf_lines ya_ops ya_as ya_bs ya_cs ya_blockOf ya_opener ya_around ya_other ya_end ya_stands ya_number ya_isConst ya_needed ya_inputs) (hp : rn_pos K n i (f_lines, f_studied, f_wrong, f_wrongAt, f_brief, f_on, f_dropped, f_steps, f_nextLine, f_repeats, a_kinds, a_firsts, a_seconds, a_thirds, a_inputs, a_home, a_depth, a_closer, a_mate, a_operands, a_varies, a_parted, a_variableVaries, a_same, a_fixed, a_worth, a_needed, a_variableNeeded, a_values, a_variables, a_outputs, a_cells, a_whole, a_waiting) (yf_lines, yf_known, yf_wrong, yf_place, yf_blocks, yf_steps, yf_dropped, yf_on, yf_next, yf_again, yf_depth, ya_ops, ya_as, ya_bs, ya_cs, ya_blockOf, ya_opener, ya_around, ya_other, ya_end, ya_open, ya_varied, ya_loose, ya_variedVariable, ya_stands, ya_number, ya_isConst, ya_needed, ya_inputs, ya_values, ya_variables, ya_cells, ya_outs, ya_was, ya_rest, ya_line)) : ∃ a, rn_pos K n a (f_lines, f_studied, f_wrong, f_wrongAt, f_brief, f_on, f_dropped, f_steps, f_nextLine, f_repeats, a_kinds, a_firsts, a_seconds, a_thirds, a_inputs, a_home, a_depth, a_closer, a_mate, a_operands, a_varies, a_parted, a_variableVaries, a_same, a_fixed, a_worth, a_needed, a_variableNeeded, a_values, a_variables, a_outputs, a_cells, a_whole, a_waiting) (yf_lines, yf_known, yf_wrong, yf_place, yf_blocks, yf_steps, yf_dropped, yf_on, nI a, yf_again, yf_depth, ya_ops, ya_as, ya_bs, ya_cs, ya_blockOf, ya_opener, ya_around, ya_other, ya_end, ya_open, ya_varied, ya_loose, ya_variedVariable, ya_stands, ya_number, ya_isConst, ya_needed, ya_inputs, ya_values, ya_variables, ya_cells, ya_outs, ya_was, ya_rest, ya_line) ∧ pa_q K n br a_needed f_on i a ∧ (a < n → f_on ≠ 0 ∨ (K a = 20 ∨ K a = 21 ∨ K a = 23)) ∧ (∀ post : Int32 → Prop, post (nI a) → wpX_nextStep post (f_lines, f_studied, f_wrong, f_wrongAt, f_brief, f_on, f_dropped, f_steps, f_nextLine, f_repeats, a_kinds, a_firsts, a_seconds, a_thirds, a_inputs, a_home, a_depth, a_closer, a_mate, a_operands, a_varies, a_parted, a_variableVaries, a_same, a_fixed, a_worth, a_needed, a_variableNeeded, a_values, a_variables, a_outputs, a_cells, a_whole, a_waiting) (nI i)) ∧ (∀ post : SY → Prop, post (yf_lines, yf_known, yf_wrong, yf_place, yf_blocks, yf_steps, yf_dropped, yf_on, nI a, yf_again, yf_depth, ya_ops, ya_as, ya_bs, ya_cs, ya_blockOf, ya_opener, ya_around, ya_other, ya_end, ya_open, ya_varied, ya_loose, ya_variedVariable, ya_stands, ya_number, ya_isConst, ya_needed, ya_inputs, ya_values, ya_variables, ya_cells, ya_outs, ya_was, ya_rest, ya_line) → wpY_pass post (yf_lines, yf_known, yf_wrong, yf_place, yf_blocks, yf_steps, yf_dropped, yf_on, yf_next, yf_again, yf_depth, ya_ops, ya_as, ya_bs, ya_cs, ya_blockOf, ya_opener, ya_around, ya_other, ya_end, ya_open, ya_varied, ya_loose, ya_variedVariable, ya_stands, ya_number, ya_isConst, ya_needed, ya_inputs, ya_values, ya_variables, ya_cells, ya_outs, ya_was, ya_rest, ya_line) br) := by
  obtain ⟨hW, hok, hfr, hA, hc0, hB, ⟨e1, e2, e3, e4, e5⟩, ⟨hR, hR', hgT, hc10⟩, hnd, hself, hini, eb, hbr, el, el'⟩ := hS
  obtain ⟨hin, en, ed, hst, ⟨w, hw, eon⟩, hmode⟩ := hp
  subst e1 e2 e3 e4 e5 eb el el' en ed
  have hn := hW.1
  have hK := hW.2.1
  have hg := sc_ok_good hok
  have hselfpa : ∀ q, q < n → (K q = 20 ∨ K q = 21 ∨ K q = 23) → pa_R f_brief a_needed n q q := fun q hq hc => ⟨Nat.le_refl _, by omega, fun _ => rfl, fun _ => ⟨fun j a b => by omega, fun _ => hini q hq (by omega)⟩⟩
  have y15 : ∀ (post : SY → Prop) (q a : Nat), q ≤ n → pa_R f_brief a_needed n q a → post (nI n, yf_known, yf_wrong, yf_place, yf_blocks, yf_steps, yf_dropped, yf_on, nI a, yf_again, nI (sc_fr K i).length, ya_ops, ya_as, ya_bs, ya_cs, ya_blockOf, ya_opener, ya_around, ya_other, ya_end, ya_open, ya_varied, ya_loose, ya_variedVariable, ya_stands, ya_number, ya_isConst, ya_needed, ya_inputs, ya_values, ya_variables, ya_cells, ya_outs, ya_was, ya_rest, ya_line) → ∃ m, wY_pass_15 post f_brief (nI n) yf_known yf_wrong yf_place yf_blocks yf_steps yf_dropped yf_on yf_again (nI (sc_fr K i).length) ya_ops ya_as ya_bs ya_cs ya_blockOf ya_opener ya_around ya_other ya_end ya_open ya_varied ya_loose ya_variedVariable ya_stands ya_number ya_isConst ya_needed ya_inputs ya_values ya_variables ya_cells ya_outs ya_was ya_rest ya_line m (nI q) := fun post q a hq ha hpost =>
    ⟨n - q + 1, ry_15 (K := K) (n := n) (T := T) (nd := a_needed) hn hK hR' hgT hc10 hnd hself (n - q) q (by omega) (fun a' ha' => by rw [pa_uniq ha' ha]; exact hpost)⟩
  rcases hmode with ⟨ey, hne, hsw⟩ | ⟨hi, k21, ez, hyn, hsw⟩
  · subst ey
    by_cases hz : yf_on = 0
    · cases e : sc_fr K i with
      | nil => exact absurd e (hne hz)
      | cons f r =>
        obtain ⟨b, m⟩ := f
        have hilt : i < n := by
          rcases Nat.lt_or_ge i n with l | l
          · exact l
          · have : i = n := by omega
            rw [this, hfr] at e; cases e
        obtain ⟨q, hiq, hq, hc, eq, em⟩ := rn_close hg hfr hin e
        rw [e] at hst hsw y15
        obtain ⟨s1, s2, s3, s4, s5, s6⟩ := hst
        refine ⟨q, ⟨by omega, rfl, by rw [eq], by rw [eq]; exact ⟨s1, s2, s3, s4, s5, s6⟩, ⟨w, hw, eon⟩, Or.inl ⟨rfl, fun _ => by rw [eq]; simp, by rw [eq]; exact hsw⟩⟩, ⟨fun _ => ⟨hq, hc, b, m, r, e, eq⟩, fun h => absurd hz h⟩, fun _ => Or.inr hc, fun post hpost => ?_, fun post hpost => br_t hz ?_⟩
        · exact rx_off (K := K) (n := n) hn hK hg hfr (fun j hj => ⟨(hA j hj).1, (hA j hj).2.2.2.1⟩) hini hz hilt e hiq hq hc eq hpost
        · refine ry_partEnd (K := K) (n := n) hn hK hg hB hin e hiq hq hc eq em s1 (fun h19 hb => ?_) (y15 post q q (by omega) (hselfpa q hq hc) hpost)
          obtain ⟨r1, w', hw', ew'⟩ := hsw.1 h19 hb
          rw [r1, ew']; exact mk_pos w' hw'
    · obtain ⟨a, ha⟩ := pa_ex (br := f_brief) (nd := a_needed) (n := n) (n - i) i (by omega)
      have ef := pa_fr (K := K) hini ha
      refine ⟨a, ⟨ha.2.1, rfl, by rw [ef], by rw [ef]; exact hst, ⟨w, hw, eon⟩, Or.inl ⟨rfl, fun h => absurd h hz, by rw [ef]; exact hsw⟩⟩, ⟨fun h => absurd h hz, fun _ => ha⟩, fun _ => Or.inl hz, fun post hpost => ⟨n - i + 1, ?_⟩, fun post hpost => br_f hz (y15 post i a hin ha hpost)⟩
      exact rx_on (K := K) (n := n) hn hK hz (n - i) i 0 (by omega) (by omega) (fun a' ha' => by rw [pa_uniq ha' ha]; exact hpost)
  · obtain ⟨b, m, r, e, km⟩ := (hg i hi).2.2.1 k21
    refine ⟨i, ⟨by omega, rfl, rfl, hst, ⟨w, hw, eon⟩, Or.inr ⟨hi, k21, ez, hyn, hsw⟩⟩, ⟨fun _ => ⟨hi, by omega, b, m, r, e, e⟩, fun h => absurd ez h⟩, fun _ => Or.inr (by omega), fun post hpost => ?_, fun post hpost => br_f hyn (y15 post i i hin (hselfpa i hi (by omega)) hpost)⟩
    exact rx_off (K := K) (n := n) hn hK hg hfr (fun j hj => ⟨(hA j hj).1, (hA j hj).2.2.2.1⟩) hini ez hi e (Nat.le_refl _) hi (by omega) e hpost
end
