section
/-- an operand's value for a lane -/
def rv (br : Int32) (T : Nat → Nat × Bool × Int32) (vals : Nat → Int32) (o l : Nat) : Int32 := if br = 0 then vals (4 * o + l) else if (T o).2.1 = true then (T o).2.2 else vals (4 * (T o).1 + l)
theorem rv_eq {br : Int32} {T : Nat → Nat × Bool × Int32} {v v' : Nat → Int32} {o l : Nat} (hg : (T o).1 ≤ o) (h : ∀ q, q ≤ 4 * o + l → v q = v' q) : rv br T v o l = rv br T v' o l := by
  unfold rv
  rw [h (4 * o + l) (Nat.le_refl _), h (4 * (T o).1 + l) (by omega)]
theorem e_43 {o l : Nat} : nI o * 4 + nI l = nI (4 * o + l) := by
  rw [show (4 : Int32) = nI 4 from rfl, pk_mul, nI_add, Nat.mul_comm]
theorem e_44 {o l : Nat} : 4 * nI o + nI l = nI (4 * o + l) := by
  rw [show (4 : Int32) = nI 4 from rfl, pk_mul, nI_add]
end
section
variable {K : Nat → Nat} {n : Nat} {T : Nat → Nat × Bool × Int32}
variable {f_lines f_studied f_wrong f_wrongAt f_brief f_on f_dropped f_steps f_nextLine f_repeats : Int32} {a_kinds a_firsts a_seconds a_thirds a_inputs a_home a_depth a_closer a_mate a_operands a_varies a_parted a_variableVaries a_same a_fixed a_worth a_needed a_variableNeeded a_values a_variables a_outputs a_cells a_whole a_waiting : Nat → Int32}
theorem rx_read (hP : xv_P K n a_kinds a_firsts a_seconds a_thirds a_home a_mate a_operands) (hR : sh_R T n a_same a_fixed a_worth) (hgT : ∀ j, j < n → sh_good T j) {post : Int32 → Prop} {i s l : Nat} (hi : i < n) (hs : s < 3) (hl : l < 4) (h1 : sc_us (K i) s → post (rv f_brief T a_values (sh_o a_firsts a_seconds a_thirds s i) l)) (h0 : ¬ sc_us (K i) s → post 0) : wpX_read post (f_lines, f_studied, f_wrong, f_wrongAt, f_brief, f_on, f_dropped, f_steps, f_nextLine, f_repeats, a_kinds, a_firsts, a_seconds, a_thirds, a_inputs, a_home, a_depth, a_closer, a_mate, a_operands, a_varies, a_parted, a_variableVaries, a_same, a_fixed, a_worth, a_needed, a_variableNeeded, a_values, a_variables, a_outputs, a_cells, a_whole, a_waiting) (nI i) (nI s) (nI l) := by
  obtain ⟨hn, hK, hgd, h4, hok, hH, hO⟩ := hP
  have ea : nI i * 3 + nI s = nI (3 * i + s) := nb_34
  have ca : (nI i * 3 + nI s).toNatClampNeg = 3 * i + s := by rw [ea, nI_clamp (by omega)]
  refine ⟨by rw [ea]; exact vp_in_nI (by omega) (by omega), ?_⟩
  rw [ca]
  by_cases hu : sc_us (K i) s
  · obtain ⟨o, eo, _⟩ := sh_ov_lt (by omega) (hok i hi s hs hu)
    rw [(hO i hi s hs).1 hu, eo]
    have h1' := h1 hu
    generalize sh_o a_firsts a_seconds a_thirds s i = x at *
    have g := hgT x (by omega)
    have gle := g.1
    obtain ⟨r1, r2, r3⟩ := hR x (by omega)
    have cx : (nI x).toNatClampNeg = x := nI_clamp (by omega)
    have ix : vp_in (nI x) 48 := vp_in_nI (by omega) (by omega)
    have t64 : ∀ z : Nat, z < 48 → post (a_values (4 * z + l)) → wX_read_64 post (nI l) (nI z) f_lines f_studied f_wrong f_wrongAt f_brief f_on f_dropped f_steps f_nextLine f_repeats a_kinds a_firsts a_seconds a_thirds a_inputs a_home a_depth a_closer a_mate a_operands a_varies a_parted a_variableVaries a_same a_fixed a_worth a_needed a_variableNeeded a_values a_variables a_outputs a_cells a_whole a_waiting := fun z hz hp => by
      refine ⟨by rw [e_43]; exact vp_in_nI (by omega) (by omega), ?_⟩
      rw [e_43, nI_clamp (by omega)]; exact hp
    refine nm_e (br_f (nI_m1ne (by omega)) ?_)
    unfold rv at h1'
    refine br_c (fun hb => br_t hb (t64 x (by omega) ?_)) (fun hb => ⟨ix, ?_⟩)
    · rw [if_pos hb] at h1'; exact h1'
    · rw [if_neg hb] at h1'
      rw [cx, r2, r3]
      refine br_c (fun hf => br_f hb ⟨ix, ?_⟩) (fun hf => ⟨ix, ?_⟩)
      · rw [cx, r1]
        refine t64 _ (by omega) ?_
        rw [if_neg (by rw [sh_bI_0 hf]; decide)] at h1'; exact h1'
      · rw [if_pos (sh_bI_n hf)] at h1'; exact h1'
  · rw [(hO i hi s hs).2 hu]
    exact nm_e (br_t rfl (h0 hu))
theorem rx_isOn {post : Int32 → Prop} {w l : Nat} (hw : w < 16) (hl : l < 4) (eon : f_on = nI w) (h1 : w.testBit l = true → post 1) (h0 : w.testBit l = false → post 0) : wpX_isOn post (f_lines, f_studied, f_wrong, f_wrongAt, f_brief, f_on, f_dropped, f_steps, f_nextLine, f_repeats, a_kinds, a_firsts, a_seconds, a_thirds, a_inputs, a_home, a_depth, a_closer, a_mate, a_operands, a_varies, a_parted, a_variableVaries, a_same, a_fixed, a_worth, a_needed, a_variableNeeded, a_values, a_variables, a_outputs, a_cells, a_whole, a_waiting) (nI l) := by
  subst eon
  refine br_c (fun h => h0 ((mk_bit w hw l hl).1.mp h)) (fun h => h1 ?_)
  cases e : w.testBit l with
  | true => rfl
  | false => exact absurd ((mk_bit w hw l hl).1.mpr e) h
theorem rx_isDropped {post : Int32 → Prop} {w l : Nat} (hw : w < 16) (hl : l < 4) (eon : f_dropped = nI w) (h1 : w.testBit l = true → post 1) (h0 : w.testBit l = false → post 0) : wpX_isDropped post (f_lines, f_studied, f_wrong, f_wrongAt, f_brief, f_on, f_dropped, f_steps, f_nextLine, f_repeats, a_kinds, a_firsts, a_seconds, a_thirds, a_inputs, a_home, a_depth, a_closer, a_mate, a_operands, a_varies, a_parted, a_variableVaries, a_same, a_fixed, a_worth, a_needed, a_variableNeeded, a_values, a_variables, a_outputs, a_cells, a_whole, a_waiting) (nI l) := by
  subst eon
  refine br_c (fun h => h0 ((mk_bit w hw l hl).1.mp h)) (fun h => h1 ?_)
  cases e : w.testBit l with
  | true => rfl
  | false => exact absurd ((mk_bit w hw l hl).1.mpr e) h
end
section
variable {K : Nat → Nat} {n : Nat} {T : Nat → Nat × Bool × Int32} {br : Int32}
variable {f_lines f_known f_wrong f_place f_blocks f_steps f_dropped f_on f_next f_again f_depth : Int32} {a_ops a_as a_bs a_cs a_blockOf a_opener a_around a_other a_end a_open a_varied a_loose a_variedVariable a_stands a_number a_isConst a_needed a_inputs a_values a_variables a_cells a_outs a_was a_rest a_line : Nat → Int32}
theorem ry_value (hn : n ≤ 48) (hR : sh_R T n a_stands a_isConst a_number) (hgT : ∀ j, j < n → sh_good T j) {post : Int32 → Prop} {o l : Nat} (ho : o < n) (hl : l < 4) (h : post (rv br T a_values o l)) : wpY_value post (f_lines, f_known, f_wrong, f_place, f_blocks, f_steps, f_dropped, f_on, f_next, f_again, f_depth, a_ops, a_as, a_bs, a_cs, a_blockOf, a_opener, a_around, a_other, a_end, a_open, a_varied, a_loose, a_variedVariable, a_stands, a_number, a_isConst, a_needed, a_inputs, a_values, a_variables, a_cells, a_outs, a_was, a_rest, a_line) (nI o) (nI l) br := by
  have g := hgT o ho
  have gle := g.1
  obtain ⟨r1, r2, r3⟩ := hR o ho
  obtain ⟨q1, q2, q3⟩ := hR (T o).1 (by omega)
  have co : (nI o).toNatClampNeg = o := nI_clamp (by omega)
  have t40 : ∀ z : Nat, z < 48 → post (a_values (4 * z + l)) → wY_value_40 post (nI l) (nI z) f_lines f_known f_wrong f_place f_blocks f_steps f_dropped f_on f_next f_again f_depth a_ops a_as a_bs a_cs a_blockOf a_opener a_around a_other a_end a_open a_varied a_loose a_variedVariable a_stands a_number a_isConst a_needed a_inputs a_values a_variables a_cells a_outs a_was a_rest a_line := fun z hz hp => by
    refine ⟨by rw [e_44]; exact vp_in_nI (by omega) (by omega), ?_⟩
    rw [e_44, nI_clamp (by omega)]; exact hp
  unfold rv at h
  refine br_c (fun hb => br_t hb (t40 o (by omega) ?_)) (fun hb => ⟨vp_in_nI (by omega) (by omega), ?_⟩)
  · rw [if_pos hb] at h; exact h
  · rw [if_neg hb] at h
    rw [co, r1]
    have iz : vp_in (nI (T o).1) 48 := vp_in_nI (by omega) (by omega)
    refine br_f hb ⟨iz, ?_⟩
    rw [nI_clamp (by omega), q2, q3, g.2.2.1]
    refine br_c (fun hf => t40 _ (by omega) ?_) (fun hf => ⟨iz, ?_⟩)
    · rw [if_neg (by rw [sh_bI_0 hf]; decide)] at h; exact h
    · rw [if_pos (sh_bI_n hf)] at h; exact h
end
