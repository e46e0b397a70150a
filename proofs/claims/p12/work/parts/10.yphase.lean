section
variable {K : Nat → Nat} {n : Nat}
variable {f_lines f_known f_wrong f_place f_blocks f_steps f_dropped f_on f_next f_again f_depth : Int32} {a_ops a_as a_bs a_cs a_blockOf a_opener a_around a_other a_end a_open a_varied a_loose a_variedVariable a_stands a_number a_isConst a_needed a_inputs a_values a_variables a_cells a_outs a_was a_rest a_line : Nat → Int32}
/-- the head of Y's round: is the line where it may be -/
theorem yl_head (hn : n ≤ 48) (hK : ∀ j, j < n → a_ops j = nI (K j) ∧ K j ≤ 25) {post : SY → Prop} {J : Int32 → Int32 → Int32 → Int32 → Int32 → Int32 → Int32 → Int32 → Int32 → Int32 → Int32 → Int32 → Int32 → Int32 → (Nat → Int32) → (Nat → Int32) → (Nat → Int32) → (Nat → Int32) → (Nat → Int32) → (Nat → Int32) → (Nat → Int32) → (Nat → Int32) → (Nat → Int32) → (Nat → Int32) → (Nat → Int32) → (Nat → Int32) → (Nat → Int32) → (Nat → Int32) → (Nat → Int32) → (Nat → Int32) → (Nat → Int32) → (Nat → Int32) → (Nat → Int32) → (Nat → Int32) → (Nat → Int32) → (Nat → Int32) → (Nat → Int32) → (Nat → Int32) → (Nat → Int32) → Prop} {x2 : Int32} {i : Nat} (hi : i < n) (hg : sc_good K i) (hO : ys_O a_open (sc_fr K i)) (hA : ys_A K i a_blockOf a_opener a_around a_other a_end)
    (hgo : sc_fits K i → wY_look_221 post J (nI (sc_fr K i).length) x2 (nI i) (nI (K i)) (yl_top (sc_fr K i)) f_lines f_known f_wrong f_place f_blocks f_steps f_dropped f_on f_next f_again f_depth a_ops a_as a_bs a_cs a_blockOf a_opener a_around a_other a_end a_open a_varied a_loose a_variedVariable a_stands a_number a_isConst a_needed a_inputs a_values a_variables a_cells a_outs a_was a_rest a_line) (hno : ¬ sc_fits K i → wY_look_217 post J (nI (sc_fr K i).length) x2 (nI i) (nI (K i)) (yl_top (sc_fr K i)) f_lines f_known f_wrong f_place f_blocks f_steps f_dropped f_on f_next f_again f_depth a_ops a_as a_bs a_cs a_blockOf a_opener a_around a_other a_end a_open a_varied a_loose a_variedVariable a_stands a_number a_isConst a_needed a_inputs a_values a_variables a_cells a_outs a_was a_rest a_line) :
    (nI (sc_fr K i).length ≤ 0 → wY_look_87 post J (nI (sc_fr K i).length) x2 (nI i) (nI (K i)) (-1) f_lines f_known f_wrong f_place f_blocks f_steps f_dropped f_on f_next f_again f_depth a_ops a_as a_bs a_cs a_blockOf a_opener a_around a_other a_end a_open a_varied a_loose a_variedVariable a_stands a_number a_isConst a_needed a_inputs a_values a_variables a_cells a_outs a_was a_rest a_line) ∧ (¬ nI (sc_fr K i).length ≤ 0 → (vp_in (nI (sc_fr K i).length - 1) 5 ∧ wY_look_87 post J (nI (sc_fr K i).length) x2 (nI i) (nI (K i)) (a_open (nI (sc_fr K i).length - 1).toNatClampNeg) f_lines f_known f_wrong f_place f_blocks f_steps f_dropped f_on f_next f_again f_depth a_ops a_as a_bs a_cs a_blockOf a_opener a_around a_other a_end a_open a_varied a_loose a_variedVariable a_stands a_number a_isConst a_needed a_inputs a_values a_variables a_cells a_outs a_was a_rest a_line)) := by
  have k25 := (hK i hi).2
  have len := sc_len i hg
  have f24 : K i = 24 → ∀ p : Int32 → Prop, (sc_fits K i → p 1) → (¬ sc_fits K i → p 0) → wpY_isInLoop p (f_lines, f_known, f_wrong, f_place, f_blocks, f_steps, f_dropped, f_on, f_next, f_again, f_depth, a_ops, a_as, a_bs, a_cs, a_blockOf, a_opener, a_around, a_other, a_end, a_open, a_varied, a_loose, a_variedVariable, a_stands, a_number, a_isConst, a_needed, a_inputs, a_values, a_variables, a_cells, a_outs, a_was, a_rest, a_line) (nI (sc_fr K i).length) := fun h24 p p1 p0 =>
    ys_inLoop hn hK (by omega) hg hO (fun h => p1 ⟨by omega, by omega, by omega, by omega, fun _ => h⟩) (fun h => p0 (fun f => h (f.2.2.2.2 h24)))
  have fo : (K i = 19 ∨ K i = 22) → (sc_fits K i ↔ (sc_fr K i).length < 4) := fun h => ⟨fun f => f.1 h, fun f => ⟨fun _ => f, by omega, by omega, by omega, by omega⟩⟩
  have fp : ¬ (K i = 19 ∨ K i = 20 ∨ K i = 21 ∨ K i = 22 ∨ K i = 23 ∨ K i = 24) → sc_fits K i := fun h => ⟨by omega, by omega, by omega, by omega, by omega⟩
  cases e : sc_fr K i with
  | nil =>
    rw [e] at hgo hno f24 fo
    refine br_t (by decide) (br_t (by decide) (br_t (by decide) ?_))
    refine yl_135 (F := sc_fits K i) k25 (by simp) hgo hno (fun h => Or.inl ⟨rfl, ?_⟩) (fun h => Or.inl ⟨rfl, ?_⟩) (fun h => Or.inl ⟨rfl, ?_⟩) f24 fo fp
    · rintro ⟨_, f, _⟩; obtain ⟨m, r, e', _⟩ := f h; rw [e] at e'; cases e'
    · rintro ⟨_, _, f, _⟩; obtain ⟨b, m, r, e', _⟩ := f h; rw [e] at e'; cases e'
    · rintro ⟨_, _, _, f, _⟩; obtain ⟨b, m, r, e', _⟩ := f h; rw [e] at e'; cases e'
  | cons f r =>
    obtain ⟨b, m⟩ := f
    have T := sc_top i hg _ _ _ e
    have tb2 := T.2.1
    have tm := T.2.2.1
    rw [e] at hgo hno f24 fo hO len
    simp only [List.length_cons] at len
    have el : nI ((b, m) :: r).length - 1 = nI r.length := nI_pred _
    have eo : a_open (nI ((b, m) :: r).length - 1).toNatClampNeg = nI m := by rw [el, nI_clamp (by omega)]; exact hO.1
    have km := hK m (by omega)
    have im : vp_in (nI m) 48 := vp_in_nI (by omega) (by omega)
    have cm : (nI m).toNatClampNeg = m := nI_clamp (by omega)
    refine br_f (nI_nle (by simp) (by simp only [List.length_cons]; omega)) ⟨by rw [el]; exact vp_in_nI (by omega) (by omega), ?_⟩
    rw [eo]
    have f20 : ∀ x6 : Int32, (x6 = 0 ↔ ¬ K m = 19) → K i = 20 → (x6 = 0 ∧ ¬ sc_fits K i) ∨ (¬ x6 = 0 ∧ vp_in (nI m) 48 ∧ (0 ≤ a_other (nI m).toNatClampNeg ∧ ¬ sc_fits K i ∨ ¬ 0 ≤ a_other (nI m).toNatClampNeg ∧ sc_fits K i)) := by
      intro x6 h6 h20
      by_cases k19 : K m = 19
      · refine Or.inr ⟨fun h => (h6.mp h) k19, im, ?_⟩
        rw [cm]
        rcases T.2.2.2.1 with ⟨hb, _⟩ | ⟨hb, _, hlt⟩
        · subst hb
          refine Or.inr ⟨?_, by omega, fun _ => ⟨m, r, e, k19⟩, by omega, by omega, by omega⟩
          rw [(hA m (by omega)).2.2.2.1 (Or.inl k19) (sc_noElse hg e)]; decide
        · refine Or.inl ⟨?_, ?_⟩
          · have := (hA (b - 1) (by omega)).2.2.1 hb
            rw [T.2.2.2.2.2.2.1] at this
            rw [this]; exact nI_pos' (by omega)
          · rintro ⟨_, f, _⟩; obtain ⟨m', r', e', _⟩ := f h20
            rw [e] at e'
            simp only [List.cons.injEq, Prod.mk.injEq] at e'
            omega
      · refine Or.inl ⟨h6.mpr k19, ?_⟩
        rintro ⟨_, f, _⟩; obtain ⟨m', r', e', k'⟩ := f h20
        rw [e] at e'
        simp only [List.cons.injEq, Prod.mk.injEq] at e'
        rw [← e'.1.2] at k'; exact k19 k'
    have f21 : ∀ x6 : Int32, (x6 = 0 ↔ ¬ K m = 19) → K i = 21 → (x6 = 0 ∧ ¬ sc_fits K i) ∨ (¬ x6 = 0 ∧ sc_fits K i) := by
      intro x6 h6 h21
      by_cases k19 : K m = 19
      · exact Or.inr ⟨fun h => (h6.mp h) k19, by omega, by omega, fun _ => ⟨b, m, r, e, k19⟩, by omega, by omega⟩
      · refine Or.inl ⟨h6.mpr k19, ?_⟩
        rintro ⟨_, _, f, _⟩; obtain ⟨b', m', r', e', k'⟩ := f h21
        rw [e] at e'
        simp only [List.cons.injEq, Prod.mk.injEq] at e'
        rw [← e'.1.2] at k'; exact k19 k'
    have f23 : ∀ x7 : Int32, (x7 = 0 ↔ ¬ K m = 22) → K i = 23 → (x7 = 0 ∧ ¬ sc_fits K i) ∨ (¬ x7 = 0 ∧ sc_fits K i) := by
      intro x7 h7 h23
      by_cases k22 : K m = 22
      · exact Or.inr ⟨fun h => (h7.mp h) k22, by omega, by omega, by omega, fun _ => ⟨b, m, r, e, k22⟩, by omega⟩
      · refine Or.inl ⟨h7.mpr k22, ?_⟩
        rintro ⟨_, _, _, f, _⟩; obtain ⟨b', m', r', e', k'⟩ := f h23
        rw [e] at e'
        simp only [List.cons.injEq, Prod.mk.injEq] at e'
        rw [← e'.1.2] at k'; exact k22 k'
    have fin : ∀ x6 x7 : Int32, (x6 = 0 ↔ ¬ K m = 19) → (x7 = 0 ↔ ¬ K m = 22) → wY_look_135 post J (nI ((b, m) :: r).length) x2 (nI i) (nI (K i)) (nI m) x6 x7 f_lines f_known f_wrong f_place f_blocks f_steps f_dropped f_on f_next f_again f_depth a_ops a_as a_bs a_cs a_blockOf a_opener a_around a_other a_end a_open a_varied a_loose a_variedVariable a_stands a_number a_isConst a_needed a_inputs a_values a_variables a_cells a_outs a_was a_rest a_line := fun x6 x7 h6 h7 =>
      yl_135 (F := sc_fits K i) k25 (by simp only [List.length_cons]; omega) hgo hno (f20 x6 h6) (f21 x6 h6) (f23 x7 h7) f24 fo fp
    have t111 : ∀ x6 : Int32, (x6 = 0 ↔ ¬ K m = 19) → wY_look_111 post J (nI ((b, m) :: r).length) x2 (nI i) (nI (K i)) (nI m) x6 f_lines f_known f_wrong f_place f_blocks f_steps f_dropped f_on f_next f_again f_depth a_ops a_as a_bs a_cs a_blockOf a_opener a_around a_other a_end a_open a_varied a_loose a_variedVariable a_stands a_number a_isConst a_needed a_inputs a_values a_variables a_cells a_outs a_was a_rest a_line := by
      intro x6 h6
      refine br_f (nI_pos (by omega)) ⟨im, ?_⟩
      rw [cm, km.1]
      exact pk_eq (K m) 22 (fun h => fin x6 1 h6 ⟨fun h => absurd h (by decide), fun h' => absurd h h'⟩) (fun h => fin x6 0 h6 ⟨fun _ => h, fun _ => rfl⟩)
    refine br_f (nI_pos (by omega)) ⟨im, ?_⟩
    rw [cm, km.1]
    exact pk_eq (K m) 19 (fun h => t111 1 ⟨fun h => absurd h (by decide), fun h' => absurd h h'⟩) (fun h => t111 0 ⟨fun _ => h, fun _ => rfl⟩)
/-- where something is wrong of 1 to 3 -/
theorem yl_end {post : SY → Prop} {x1 : Int32} {c : Nat} (hc : 0 < c) (hc4 : c < 4) (h : post (f_lines, f_known, nI c, f_place, f_blocks, f_steps, f_dropped, f_on, f_next, f_again, f_depth, a_ops, a_as, a_bs, a_cs, a_blockOf, a_opener, a_around, a_other, a_end, a_open, a_varied, a_loose, a_variedVariable, a_stands, a_number, a_isConst, a_needed, a_inputs, a_values, a_variables, a_cells, a_outs, a_was, a_rest, a_line)) : wY_look_457 post x1 f_lines f_known (nI c) f_place f_blocks f_steps f_dropped f_on f_next f_again f_depth a_ops a_as a_bs a_cs a_blockOf a_opener a_around a_other a_end a_open a_varied a_loose a_variedVariable a_stands a_number a_isConst a_needed a_inputs a_values a_variables a_cells a_outs a_was a_rest a_line :=
  br_f (nI_ne0 hc (by omega)) (br_f (nI_nle hc (by omega)) h)
theorem yl_loopBad {post : SY → Prop} {x1 x2 x3 : Int32} {d c : Nat} (hc : 0 < c) (hc4 : c < 4) (h : post (f_lines, f_known, nI c, f_place, f_blocks, f_steps, f_dropped, f_on, f_next, f_again, f_depth, a_ops, a_as, a_bs, a_cs, a_blockOf, a_opener, a_around, a_other, a_end, a_open, a_varied, a_loose, a_variedVariable, a_stands, a_number, a_isConst, a_needed, a_inputs, a_values, a_variables, a_cells, a_outs, a_was, a_rest, a_line)) : wY_look_48 post (d + 1) x1 x2 x3 f_lines f_known (nI c) f_place f_blocks f_steps f_dropped f_on f_next f_again f_depth a_ops a_as a_bs a_cs a_blockOf a_opener a_around a_other a_end a_open a_varied a_loose a_variedVariable a_stands a_number a_isConst a_needed a_inputs a_values a_variables a_cells a_outs a_was a_rest a_line :=
  br_c (fun _ => yl_end hc hc4 h) (fun _ => br_f (nI_ne0 hc (by omega)) (yl_end hc hc4 h))
theorem yl_290bad {post : SY → Prop} {J : Int32 → Int32 → Int32 → Int32 → Int32 → Int32 → Int32 → Int32 → Int32 → Int32 → Int32 → Int32 → Int32 → Int32 → (Nat → Int32) → (Nat → Int32) → (Nat → Int32) → (Nat → Int32) → (Nat → Int32) → (Nat → Int32) → (Nat → Int32) → (Nat → Int32) → (Nat → Int32) → (Nat → Int32) → (Nat → Int32) → (Nat → Int32) → (Nat → Int32) → (Nat → Int32) → (Nat → Int32) → (Nat → Int32) → (Nat → Int32) → (Nat → Int32) → (Nat → Int32) → (Nat → Int32) → (Nat → Int32) → (Nat → Int32) → (Nat → Int32) → (Nat → Int32) → (Nat → Int32) → Prop} {x1 x2 x4 x5 : Int32} {i c : Nat} (hc : 0 < c) (hc4 : c < 4) (h : J x1 x2 (nI (i + 1)) f_lines f_known (nI c) (nI i) f_blocks f_steps f_dropped f_on f_next f_again f_depth a_ops a_as a_bs a_cs a_blockOf a_opener a_around a_other a_end a_open a_varied a_loose a_variedVariable a_stands a_number a_isConst a_needed a_inputs a_values a_variables a_cells a_outs a_was a_rest a_line) : wY_look_290 post J x1 x2 (nI i) x4 x5 f_lines f_known (nI c) f_place f_blocks f_steps f_dropped f_on f_next f_again f_depth a_ops a_as a_bs a_cs a_blockOf a_opener a_around a_other a_end a_open a_varied a_loose a_variedVariable a_stands a_number a_isConst a_needed a_inputs a_values a_variables a_cells a_outs a_was a_rest a_line :=
  br_f (nI_nle hc (by omega)) (br_f (nI_nle hc (by omega)) (nm_r (nI_1 i) h))
theorem yl_217 {post : SY → Prop} {J : Int32 → Int32 → Int32 → Int32 → Int32 → Int32 → Int32 → Int32 → Int32 → Int32 → Int32 → Int32 → Int32 → Int32 → (Nat → Int32) → (Nat → Int32) → (Nat → Int32) → (Nat → Int32) → (Nat → Int32) → (Nat → Int32) → (Nat → Int32) → (Nat → Int32) → (Nat → Int32) → (Nat → Int32) → (Nat → Int32) → (Nat → Int32) → (Nat → Int32) → (Nat → Int32) → (Nat → Int32) → (Nat → Int32) → (Nat → Int32) → (Nat → Int32) → (Nat → Int32) → (Nat → Int32) → (Nat → Int32) → (Nat → Int32) → (Nat → Int32) → (Nat → Int32) → (Nat → Int32) → Prop} {x1 x2 x5 : Int32} {i k : Nat} (hi : i < 48) (hk : k ≤ 25) (h : ∀ bo, J x1 x2 (nI (i + 1)) f_lines f_known 1 (nI i) f_blocks f_steps f_dropped f_on f_next f_again f_depth a_ops a_as a_bs a_cs bo a_opener a_around a_other a_end a_open a_varied a_loose a_variedVariable a_stands a_number a_isConst a_needed a_inputs a_values a_variables a_cells a_outs a_was a_rest a_line) : wY_look_217 post J x1 x2 (nI i) (nI k) x5 f_lines f_known f_wrong f_place f_blocks f_steps f_dropped f_on f_next f_again f_depth a_ops a_as a_bs a_cs a_blockOf a_opener a_around a_other a_end a_open a_varied a_loose a_variedVariable a_stands a_number a_isConst a_needed a_inputs a_values a_variables a_cells a_outs a_was a_rest a_line := by
  have t261 : wY_look_261 post J x1 x2 (nI i) (nI k) x5 1 f_lines f_known f_wrong f_place f_blocks f_steps f_dropped f_on f_next f_again f_depth a_ops a_as a_bs a_cs a_blockOf a_opener a_around a_other a_end a_open a_varied a_loose a_variedVariable a_stands a_number a_isConst a_needed a_inputs a_values a_variables a_cells a_outs a_was a_rest a_line := ⟨vp_in_nI (by omega) (by omega), nm_e (br_f (by decide) (yl_290bad (c := 1) (by omega) (by omega) (h _)))⟩
  have t245 : wY_look_245 post J x1 x2 (nI i) (nI k) x5 1 f_lines f_known f_wrong f_place f_blocks f_steps f_dropped f_on f_next f_again f_depth a_ops a_as a_bs a_cs a_blockOf a_opener a_around a_other a_end a_open a_varied a_loose a_variedVariable a_stands a_number a_isConst a_needed a_inputs a_values a_variables a_cells a_outs a_was a_rest a_line := br_f (by decide) t261
  exact pk_eq k 20 (fun _ => t245) (fun _ => pk_eq k 21 (fun _ => t245) (fun _ => pk_eq k 23 (fun _ => t245) (fun _ => t261)))
/-- the line is all right: Y's marks for it -/
theorem yl_290 (hn : n ≤ 48) {post : SY → Prop} {J : Int32 → Int32 → Int32 → Int32 → Int32 → Int32 → Int32 → Int32 → Int32 → Int32 → Int32 → Int32 → Int32 → Int32 → (Nat → Int32) → (Nat → Int32) → (Nat → Int32) → (Nat → Int32) → (Nat → Int32) → (Nat → Int32) → (Nat → Int32) → (Nat → Int32) → (Nat → Int32) → (Nat → Int32) → (Nat → Int32) → (Nat → Int32) → (Nat → Int32) → (Nat → Int32) → (Nat → Int32) → (Nat → Int32) → (Nat → Int32) → (Nat → Int32) → (Nat → Int32) → (Nat → Int32) → (Nat → Int32) → (Nat → Int32) → (Nat → Int32) → (Nat → Int32) → (Nat → Int32) → Prop} {i : Nat} (hi : i < n) (k25 : K i ≤ 25) (hg : sc_good K i) (hf : sc_fits K i)
    (h : J (nI (sc_fr K (i + 1)).length) (nI (sc_cnt K (sc_hd (sc_fr K (i + 1))))) (nI (i + 1)) f_lines f_known 0 f_place (nI (sc_cnt K (i + 1) + 1)) f_steps f_dropped f_on f_next f_again f_depth a_ops a_as a_bs a_cs a_blockOf (ys_or K i a_opener) (ys_ar K i a_around) (ys_ot K i a_other) (ys_en K i a_end) (ys_on K i a_open) a_varied a_loose a_variedVariable a_stands a_number a_isConst a_needed a_inputs a_values a_variables a_cells a_outs a_was a_rest a_line) :
    wY_look_290 post J (nI (sc_fr K i).length) (nI (sc_cnt K (sc_hd (sc_lf K i)))) (nI i) (nI (K i)) (yl_top (sc_fr K i)) f_lines f_known 0 f_place (nI (sc_cnt K i + 1)) f_steps f_dropped f_on f_next f_again f_depth a_ops a_as a_bs a_cs a_blockOf a_opener a_around a_other a_end a_open a_varied a_loose a_variedVariable a_stands a_number a_isConst a_needed a_inputs a_values a_variables a_cells a_outs a_was a_rest a_line := by
  have len := sc_len i hg
  have ci : (nI i).toNatClampNeg = i := nI_clamp (by omega)
  have hin : vp_in (nI i) 48 := vp_in_nI (by omega) (by omega)
  have cc := sc_cnt_le (K := K) i
  have ib : vp_in (nI (sc_cnt K i + 1)) 97 := vp_in_nI (by omega) (by omega)
  have cb : (nI (sc_cnt K i + 1)).toNatClampNeg = sc_cnt K i + 1 := nI_clamp (by omega)
  refine br_t (by decide) (br_t (by decide) ?_)
  by_cases ho : K i = 19 ∨ K i = 22
  · have ho3 : K i = 19 ∨ K i = 20 ∨ K i = 22 := by omega
    have nc : ¬ (K i = 20 ∨ K i = 21 ∨ K i = 23) := by omega
    have l4 := hf.1 ho
    rw [sc_s_open ho, sc_hd_cons, sc_cnt_op ho3, ys_or, if_pos ho3, ys_ar, if_pos ho3, ys_ot, if_pos ho, ys_en, if_neg (by omega), ys_on, if_pos ho, sc_mt_n nc] at h
    have t432 : wY_look_432 post J (nI ((i + 1, i) :: sc_fr K i).length) (nI (sc_cnt K (sc_hd (sc_lf K i)))) (nI i) (nI (K i)) (yl_top (sc_fr K i)) f_lines f_known 0 f_place (nI (sc_cnt K i + 1)) f_steps f_dropped f_on f_next f_again f_depth a_ops a_as a_bs a_cs a_blockOf a_opener a_around (upd a_other i (-1)) a_end (upd a_open (sc_fr K i).length (nI i)) a_varied a_loose a_variedVariable a_stands a_number a_isConst a_needed a_inputs a_values a_variables a_cells a_outs a_was a_rest a_line :=
      pk_eq (K i) 20 (fun h' => absurd h' (by omega)) (fun _ => ⟨ib, nm_r (by rw [cb]) ⟨ib, nm_r (by rw [cb]) (nm_r (nI_1 _) (nm_r (nI_1 i) h))⟩⟩)
    have t411 : wY_look_411 post J (nI ((i + 1, i) :: sc_fr K i).length) (nI (sc_cnt K (sc_hd (sc_lf K i)))) (nI i) (nI (K i)) (yl_top (sc_fr K i)) f_lines f_known 0 f_place (nI (sc_cnt K i + 1)) f_steps f_dropped f_on f_next f_again f_depth a_ops a_as a_bs a_cs a_blockOf a_opener a_around (upd a_other i (-1)) a_end (upd a_open (sc_fr K i).length (nI i)) a_varied a_loose a_variedVariable a_stands a_number a_isConst a_needed a_inputs a_values a_variables a_cells a_outs a_was a_rest a_line :=
      pk_eq (K i) 19 (fun _ => t432) (fun _ => pk_eq (K i) 22 (fun _ => t432) (fun h' => absurd ho (by omega)))
    have t357 : wY_look_357 post J (nI ((i + 1, i) :: sc_fr K i).length) (nI (sc_cnt K (sc_hd (sc_lf K i)))) (nI i) (nI (K i)) (yl_top (sc_fr K i)) f_lines f_known 0 f_place (nI (sc_cnt K i + 1)) f_steps f_dropped f_on f_next f_again f_depth a_ops a_as a_bs a_cs a_blockOf a_opener a_around (upd a_other i (-1)) a_end (upd a_open (sc_fr K i).length (nI i)) a_varied a_loose a_variedVariable a_stands a_number a_isConst a_needed a_inputs a_values a_variables a_cells a_outs a_was a_rest a_line :=
      pk_eq (K i) 20 (fun h' => absurd h' (by omega)) (fun _ => pk_eq (K i) 21 (fun h' => absurd h' (by omega)) (fun _ => pk_eq (K i) 23 (fun h' => absurd h' (by omega)) (fun _ => pk_eq (K i) 21 (fun h' => absurd h' (by omega)) (fun _ => pk_eq (K i) 23 (fun h' => absurd h' (by omega)) (fun _ => t411)))))
    have t350 : wY_look_350 post J (nI ((i + 1, i) :: sc_fr K i).length) (nI (sc_cnt K (sc_hd (sc_lf K i)))) (nI i) (nI (K i)) (yl_top (sc_fr K i)) f_lines f_known 0 f_place (nI (sc_cnt K i + 1)) f_steps f_dropped f_on f_next f_again f_depth a_ops a_as a_bs a_cs a_blockOf a_opener a_around a_other a_end (upd a_open (sc_fr K i).length (nI i)) a_varied a_loose a_variedVariable a_stands a_number a_isConst a_needed a_inputs a_values a_variables a_cells a_outs a_was a_rest a_line :=
      ⟨hin, nm_r (by rw [ci]) t357⟩
    have t326 : wY_look_326 post J (nI (sc_fr K i).length) (nI (sc_cnt K (sc_hd (sc_lf K i)))) (nI i) (nI (K i)) (yl_top (sc_fr K i)) f_lines f_known 0 f_place (nI (sc_cnt K i + 1)) f_steps f_dropped f_on f_next f_again f_depth a_ops a_as a_bs a_cs a_blockOf a_opener a_around a_other a_end a_open a_varied a_loose a_variedVariable a_stands a_number a_isConst a_needed a_inputs a_values a_variables a_cells a_outs a_was a_rest a_line :=
      nm_r (e' := nI ((i + 1, i) :: sc_fr K i).length) (nI_1 _) ⟨vp_in_nI (by omega) (by omega), nm_r (by rw [nI_clamp (by omega)]) (pk_eq (K i) 19 (fun _ => t350) (fun _ => pk_eq (K i) 22 (fun _ => t350) (fun h' => absurd ho (by omega))))⟩
    exact pk_eq (K i) 19 (fun _ => t326) (fun _ => pk_eq (K i) 22 (fun _ => t326) (fun h' => absurd ho (by omega)))
  refine pk_eq (K i) 19 (fun h' => absurd (Or.inl h') ho) (fun _ => pk_eq (K i) 22 (fun h' => absurd (Or.inr h') ho) (fun _ => pk_eq (K i) 19 (fun h' => absurd (Or.inl h') ho) (fun _ => pk_eq (K i) 22 (fun h' => absurd (Or.inr h') ho) (fun _ => ?_))))
  by_cases h20 : K i = 20
  · have ho3 : K i = 19 ∨ K i = 20 ∨ K i = 22 := by omega
    obtain ⟨m, r, e, km⟩ := hf.2.1 h20
    have T := sc_top i hg _ _ _ e
    have tb := T.2.1
    have em : sc_mt K i = m := by rw [sc_mt_cl (by omega), e]; rfl
    have el : sc_lf K i = r := by rw [sc_lf_cl (by omega), e]; rfl
    rw [sc_s_else h20, sc_hd_cons, sc_cnt_op ho3, ys_or, if_pos ho3, ys_ar, if_pos ho3, ys_ot, if_neg (by omega), if_pos h20, ys_en, if_neg (by omega), ys_on, if_neg (by omega), em] at h
    have eq : nI ((i + 1, ((sc_fr K i).headD (0, 0)).2) :: (sc_fr K i).tail).length = nI (sc_fr K i).length := by rw [e]; rfl
    rw [eq] at h
    have et : yl_top (sc_fr K i) = nI m := by rw [e]; rfl
    rw [et]
    have im : vp_in (nI m) 48 := vp_in_nI (by omega) (by omega)
    have cm : (nI m).toNatClampNeg = m := nI_clamp (by omega)
    refine pk_eq (K i) 20 (fun _ => ⟨im, nm_r (e' := upd a_other m (nI i)) (by rw [cm]) ?_⟩) (fun h' => absurd h20 h')
    refine pk_eq (K i) 21 (fun h' => absurd h' (by omega)) (fun _ => pk_eq (K i) 23 (fun h' => absurd h' (by omega)) (fun _ => pk_eq (K i) 21 (fun h' => absurd h' (by omega)) (fun _ => pk_eq (K i) 23 (fun h' => absurd h' (by omega)) (fun _ => ?_))))
    refine pk_eq (K i) 19 (fun h' => absurd h' (by omega)) (fun _ => pk_eq (K i) 22 (fun h' => absurd h' (by omega)) (fun _ => pk_eq (K i) 20 (fun _ => ?_) (fun h' => absurd h20 h')))
    exact pk_eq (K i) 20 (fun _ => ⟨ib, nm_r (by rw [cb]) ⟨ib, nm_r (by rw [cb]) (nm_r (nI_1 _) (nm_r (nI_1 i) h))⟩⟩) (fun h' => absurd h20 h')
  refine pk_eq (K i) 20 (fun h' => absurd h' h20) (fun _ => ?_)
  have no3 : ¬ (K i = 19 ∨ K i = 20 ∨ K i = 22) := by omega
  by_cases h21 : K i = 21 ∨ K i = 23
  · obtain ⟨b, r, e, _, el⟩ := sc_clTop hf (by omega)
    have T := sc_top i hg _ _ _ e
    have tb := T.2.1
    have tm := T.2.2.1
    rw [sc_s_end h21, sc_cnt_n no3, ys_or, if_neg no3, ys_ar, if_neg no3, ys_ot, if_neg ho, if_neg h20, ys_en, if_pos h21, ys_on, if_neg ho] at h
    have eq1 : (sc_fr K i).tail = sc_lf K i := (sc_lf_cl (by omega)).symm
    rw [eq1] at h
    generalize em : sc_mt K i = m at *
    have et : yl_top (sc_fr K i) = nI m := by rw [e]; rfl
    have im : vp_in (nI m) 48 := vp_in_nI (by omega) (by omega)
    have cm : (nI m).toNatClampNeg = m := nI_clamp (by omega)
    have elen : nI (sc_fr K i).length + (-1) = nI (sc_lf K i).length := by
      rw [e, el]; exact pk_m1 _
    rw [et]
    have t411 : wY_look_411 post J (nI (sc_lf K i).length) (nI (sc_cnt K (sc_hd (sc_lf K i)))) (nI i) (nI (K i)) (nI m) f_lines f_known 0 f_place (nI (sc_cnt K i + 1)) f_steps f_dropped f_on f_next f_again f_depth a_ops a_as a_bs a_cs a_blockOf a_opener a_around a_other (upd a_end m (nI i)) a_open a_varied a_loose a_variedVariable a_stands a_number a_isConst a_needed a_inputs a_values a_variables a_cells a_outs a_was a_rest a_line :=
      pk_eq (K i) 19 (fun h' => absurd (Or.inl h') ho) (fun _ => pk_eq (K i) 22 (fun h' => absurd (Or.inr h') ho) (fun _ => pk_eq (K i) 20 (fun h' => absurd h' h20) (fun _ => nm_r (nI_1 i) h)))
    have t408 : wY_look_408 post J (nI (sc_fr K i).length) (nI (sc_cnt K (sc_hd (sc_lf K i)))) (nI i) (nI (K i)) (nI m) f_lines f_known 0 f_place (nI (sc_cnt K i + 1)) f_steps f_dropped f_on f_next f_again f_depth a_ops a_as a_bs a_cs a_blockOf a_opener a_around a_other (upd a_end m (nI i)) a_open a_varied a_loose a_variedVariable a_stands a_number a_isConst a_needed a_inputs a_values a_variables a_cells a_outs a_was a_rest a_line := nm_r elen t411
    have t386 : wY_look_386 post J (nI (sc_fr K i).length) (nI (sc_cnt K (sc_hd (sc_lf K i)))) (nI i) (nI (K i)) (nI m) f_lines f_known 0 f_place (nI (sc_cnt K i + 1)) f_steps f_dropped f_on f_next f_again f_depth a_ops a_as a_bs a_cs a_blockOf a_opener a_around a_other a_end a_open a_varied a_loose a_variedVariable a_stands a_number a_isConst a_needed a_inputs a_values a_variables a_cells a_outs a_was a_rest a_line :=
      ⟨im, nm_r (by rw [cm]) (pk_eq (K i) 21 (fun _ => t408) (fun _ => pk_eq (K i) 23 (fun _ => t408) (fun h' => absurd h21 (by omega))))⟩
    exact pk_eq (K i) 21 (fun _ => t386) (fun _ => pk_eq (K i) 23 (fun _ => t386) (fun h' => absurd h21 (by omega)))
  rw [sc_s_plain (by omega), sc_cnt_n no3, ys_or, if_neg no3, ys_ar, if_neg no3, ys_ot, if_neg ho, if_neg h20, ys_en, if_neg h21, ys_on, if_neg ho] at h
  rw [sc_lf_n (by omega)]
  refine pk_eq (K i) 21 (fun h' => absurd h' (by omega)) (fun _ => pk_eq (K i) 23 (fun h' => absurd h' (by omega)) (fun _ => pk_eq (K i) 21 (fun h' => absurd h' (by omega)) (fun _ => pk_eq (K i) 23 (fun h' => absurd h' (by omega)) (fun _ => ?_))))
  exact pk_eq (K i) 19 (fun h' => absurd (Or.inl h') ho) (fun _ => pk_eq (K i) 22 (fun h' => absurd (Or.inr h') ho) (fun _ => pk_eq (K i) 20 (fun h' => absurd h' h20) (fun _ => nm_r (nI_1 i) h)))
end
