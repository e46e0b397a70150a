section
theorem ez_23 (x : Int32) : 2 < x ↔ 3 ≤ x := by
  rw [Int32.lt_iff_toInt_lt, Int32.le_iff_toInt_le]
  have : (2 : Int32).toInt = 2 := by decide
  have : (3 : Int32).toInt = 3 := by decide
  omega
theorem rl_w : ∀ c, c < 4 → c ≠ 0 → (¬ nI c = 0 ∧ ¬ nI c = 4 ∧ ¬ nI c ≤ 0 ∧ nI c < 4 ∧ ¬ 4 ≤ nI c) := by decide +kernel
theorem rl_lt {x : Int32} {n : Nat} (hn : n < 2 ^ 31) (h : nI n ≤ x) : ¬ x < 0 := by
  rw [Int32.lt_iff_toInt_lt, Int32.toInt_zero]
  rw [Int32.le_iff_toInt_le, nI_toInt hn] at h
  omega
end
section
variable {K : Nat → Nat} {n : Nat}
variable {f_lines f_known f_wrong f_place f_blocks f_steps f_dropped f_on f_next f_again f_depth : Int32} {a_ops a_as a_bs a_cs a_blockOf a_opener a_around a_other a_end a_open a_varied a_loose a_variedVariable a_stands a_number a_isConst a_needed a_inputs a_values a_variables a_cells a_outs a_was a_rest a_line : Nat → Int32}
theorem ly_68 (hn : n ≤ 48) (hg : sc_good K n) (hA : ∀ j, j < n → (K j = 19 ∨ K j = 20 ∨ K j = 22) → a_around (sc_cnt K (j + 1)) = nI (sc_cnt K (sc_hd (sc_lf K j)))) {post : Int32 → SY → Prop} {x1 x2 : Int32} :
    ∀ (l : List (Nat × Nat)) (j c : Nat), j ≤ n → sc_fr K j = l → (((x2 = 0 → (vp_in x1 48 ∧ ((((a_varied x1.toNatClampNeg) = 0 → (post 0 (f_lines, f_known, f_wrong, f_place, f_blocks, f_steps, f_dropped, f_on, f_next, f_again, f_depth, a_ops, a_as, a_bs, a_cs, a_blockOf, a_opener, a_around, a_other, a_end, a_open, a_varied, a_loose, a_variedVariable, a_stands, a_number, a_isConst, a_needed, a_inputs, a_values, a_variables, a_cells, a_outs, a_was, a_rest, a_line))) ∧ (¬ (a_varied x1.toNatClampNeg) = 0 → (post 1 (f_lines, f_known, f_wrong, f_place, f_blocks, f_steps, f_dropped, f_on, f_next, f_again, f_depth, a_ops, a_as, a_bs, a_cs, a_blockOf, a_opener, a_around, a_other, a_end, a_open, a_varied, a_loose, a_variedVariable, a_stands, a_number, a_isConst, a_needed, a_inputs, a_values, a_variables, a_cells, a_outs, a_was, a_rest, a_line))))))) ∧ (¬ x2 = 0 → (((x2 = 2 → (post (nI (c + l.length)) (f_lines, f_known, f_wrong, f_place, f_blocks, f_steps, f_dropped, f_on, f_next, f_again, f_depth, a_ops, a_as, a_bs, a_cs, a_blockOf, a_opener, a_around, a_other, a_end, a_open, a_varied, a_loose, a_variedVariable, a_stands, a_number, a_isConst, a_needed, a_inputs, a_values, a_variables, a_cells, a_outs, a_was, a_rest, a_line))) ∧ (¬ x2 = 2 → (vp_in x1 49 ∧ (vp_in (a_blockOf x1.toNatClampNeg) 97 ∧ ((((a_loose (a_blockOf x1.toNatClampNeg).toNatClampNeg) = 0 → (post 0 (f_lines, f_known, f_wrong, f_place, f_blocks, f_steps, f_dropped, f_on, f_next, f_again, f_depth, a_ops, a_as, a_bs, a_cs, a_blockOf, a_opener, a_around, a_other, a_end, a_open, a_varied, a_loose, a_variedVariable, a_stands, a_number, a_isConst, a_needed, a_inputs, a_values, a_variables, a_cells, a_outs, a_was, a_rest, a_line))) ∧ (¬ (a_loose (a_blockOf x1.toNatClampNeg).toNatClampNeg) = 0 → (post 1 (f_lines, f_known, f_wrong, f_place, f_blocks, f_steps, f_dropped, f_on, f_next, f_again, f_depth, a_ops, a_as, a_bs, a_cs, a_blockOf, a_opener, a_around, a_other, a_end, a_open, a_varied, a_loose, a_variedVariable, a_stands, a_number, a_isConst, a_needed, a_inputs, a_values, a_variables, a_cells, a_outs, a_was, a_rest, a_line))))))))))))) → ∀ d, l.length < d → wY_lanes_68 post x1 x2 f_lines f_known f_wrong f_place f_blocks f_steps f_dropped f_on f_next f_again f_depth a_ops a_as a_bs a_cs a_blockOf a_opener a_around a_other a_end a_open a_varied a_loose a_variedVariable a_stands a_number a_isConst a_needed a_inputs a_values a_variables a_cells a_outs a_was a_rest a_line d (nI c) (nI (sc_cnt K (sc_hd l))) := by
  intro l
  induction l with
  | nil =>
    intro j c hj e h d hd
    obtain ⟨d, rfl⟩ : ∃ e, d = e + 1 := ⟨d - 1, by simp at hd; omega⟩
    exact br_t (show nI 0 ≤ 0 by decide) h
  | cons f r ih =>
    obtain ⟨b, m⟩ := f
    intro j c hj e h d hd
    have T := sc_top j (sc_good_le hg hj) _ _ _ e
    simp only [List.length_cons] at hd
    obtain ⟨d, rfl⟩ : ∃ e, d = e + 1 := ⟨d - 1, by omega⟩
    have tb : b ≤ n := by have := T.2.1; omega
    have tb1 := T.1
    have tm := T.2.2.1
    obtain ⟨b', rfl⟩ : ∃ e, b = e + 1 := ⟨b - 1, by omega⟩
    have hop : K b' = 19 ∨ K b' = 20 ∨ K b' = 22 := T.2.2.2.2.2.2.2.1
    have har := hA b' (by omega) hop
    have hlf : sc_lf K b' = r := T.2.2.2.2.1
    rw [hlf] at har
    have hcnt := sc_cnt_op hop
    have hle := sc_cnt_le (K := K) (b' + 1)
    rw [sc_hd_cons]
    refine br_f (fun h' => ?_) (nm_r (nI_1 c) ⟨vp_in_nI (by omega) (by omega), nm_c (nI_clamp (by omega)) har (ih m (c + 1) (by omega) T.2.2.2.2.2.1 ?_ d (by omega))⟩)
    · exact nI_ge (a := 0) (b := sc_cnt K (b' + 1)) (by omega) (by omega) h'
    · rw [show c + 1 + r.length = c + (r.length + 1) by omega]
      exact h
theorem ly_31 (hn : n ≤ 48) (hK : ∀ j, j < n → a_ops j = nI (K j) ∧ K j ≤ 25) (hg : sc_good K n) (hA : ys_A K n a_blockOf a_opener a_around a_other a_end) {post : Int32 → SY → Prop} {j : Nat} (hj : j < n) {p1 : Int32}
    (am : (p1 < 0 ∨ 2 < p1) → post (-1) (f_lines, f_known, f_wrong, f_place, f_blocks, f_steps, f_dropped, f_on, f_next, f_again, f_depth, a_ops, a_as, a_bs, a_cs, a_blockOf, a_opener, a_around, a_other, a_end, a_open, a_varied, a_loose, a_variedVariable, a_stands, a_number, a_isConst, a_needed, a_inputs, a_values, a_variables, a_cells, a_outs, a_was, a_rest, a_line)) (a0n : p1 = 0 → ¬ K j ≤ 16 → post (-1) (f_lines, f_known, f_wrong, f_place, f_blocks, f_steps, f_dropped, f_on, f_next, f_again, f_depth, a_ops, a_as, a_bs, a_cs, a_blockOf, a_opener, a_around, a_other, a_end, a_open, a_varied, a_loose, a_variedVariable, a_stands, a_number, a_isConst, a_needed, a_inputs, a_values, a_variables, a_cells, a_outs, a_was, a_rest, a_line)) (a0 : p1 = 0 → K j ≤ 16 → ((a_varied j = 0 → post 0 (f_lines, f_known, f_wrong, f_place, f_blocks, f_steps, f_dropped, f_on, f_next, f_again, f_depth, a_ops, a_as, a_bs, a_cs, a_blockOf, a_opener, a_around, a_other, a_end, a_open, a_varied, a_loose, a_variedVariable, a_stands, a_number, a_isConst, a_needed, a_inputs, a_values, a_variables, a_cells, a_outs, a_was, a_rest, a_line)) ∧ (¬ a_varied j = 0 → post 1 (f_lines, f_known, f_wrong, f_place, f_blocks, f_steps, f_dropped, f_on, f_next, f_again, f_depth, a_ops, a_as, a_bs, a_cs, a_blockOf, a_opener, a_around, a_other, a_end, a_open, a_varied, a_loose, a_variedVariable, a_stands, a_number, a_isConst, a_needed, a_inputs, a_values, a_variables, a_cells, a_outs, a_was, a_rest, a_line))))
    (a1 : p1 = 1 → ((a_loose (sc_cnt K (sc_hd (sc_lf K j))) = 0 → post 0 (f_lines, f_known, f_wrong, f_place, f_blocks, f_steps, f_dropped, f_on, f_next, f_again, f_depth, a_ops, a_as, a_bs, a_cs, a_blockOf, a_opener, a_around, a_other, a_end, a_open, a_varied, a_loose, a_variedVariable, a_stands, a_number, a_isConst, a_needed, a_inputs, a_values, a_variables, a_cells, a_outs, a_was, a_rest, a_line)) ∧ (¬ a_loose (sc_cnt K (sc_hd (sc_lf K j))) = 0 → post 1 (f_lines, f_known, f_wrong, f_place, f_blocks, f_steps, f_dropped, f_on, f_next, f_again, f_depth, a_ops, a_as, a_bs, a_cs, a_blockOf, a_opener, a_around, a_other, a_end, a_open, a_varied, a_loose, a_variedVariable, a_stands, a_number, a_isConst, a_needed, a_inputs, a_values, a_variables, a_cells, a_outs, a_was, a_rest, a_line)))) (a2 : p1 = 2 → post (nI (sc_lf K j).length) (f_lines, f_known, f_wrong, f_place, f_blocks, f_steps, f_dropped, f_on, f_next, f_again, f_depth, a_ops, a_as, a_bs, a_cs, a_blockOf, a_opener, a_around, a_other, a_end, a_open, a_varied, a_loose, a_variedVariable, a_stands, a_number, a_isConst, a_needed, a_inputs, a_values, a_variables, a_cells, a_outs, a_was, a_rest, a_line)) : wY_lanes_31 post (nI j) p1 f_lines f_known f_wrong f_place f_blocks f_steps f_dropped f_on f_next f_again f_depth a_ops a_as a_bs a_cs a_blockOf a_opener a_around a_other a_end a_open a_varied a_loose a_variedVariable a_stands a_number a_isConst a_needed a_inputs a_values a_variables a_cells a_outs a_was a_rest a_line := by
  have cj : (nI j).toNatClampNeg = j := nI_clamp (by omega)
  have ij : vp_in (nI j) 48 := vp_in_nI (by omega) (by omega)
  have ij' : vp_in (nI j) 49 := vp_in_nI (by omega) (by omega)
  have gj : sc_good K (j + 1) := sc_good_le hg (by omega)
  have hb := (hA j hj).1
  have hle := sc_cnt_le (K := K) (sc_hd (sc_lf K j))
  have hhd := sc_hdl_le gj
  have kj := hK j hj
  obtain ⟨q, hq, eq⟩ := sc_lf_fr gj
  have len := sc_lf_len gj
  have lp : (((p1 = 0 → (vp_in (nI j) 48 ∧ ((((a_varied (nI j).toNatClampNeg) = 0 → (post 0 (f_lines, f_known, f_wrong, f_place, f_blocks, f_steps, f_dropped, f_on, f_next, f_again, f_depth, a_ops, a_as, a_bs, a_cs, a_blockOf, a_opener, a_around, a_other, a_end, a_open, a_varied, a_loose, a_variedVariable, a_stands, a_number, a_isConst, a_needed, a_inputs, a_values, a_variables, a_cells, a_outs, a_was, a_rest, a_line))) ∧ (¬ (a_varied (nI j).toNatClampNeg) = 0 → (post 1 (f_lines, f_known, f_wrong, f_place, f_blocks, f_steps, f_dropped, f_on, f_next, f_again, f_depth, a_ops, a_as, a_bs, a_cs, a_blockOf, a_opener, a_around, a_other, a_end, a_open, a_varied, a_loose, a_variedVariable, a_stands, a_number, a_isConst, a_needed, a_inputs, a_values, a_variables, a_cells, a_outs, a_was, a_rest, a_line))))))) ∧ (¬ p1 = 0 → (((p1 = 2 → (post (nI (0 + (sc_lf K j).length)) (f_lines, f_known, f_wrong, f_place, f_blocks, f_steps, f_dropped, f_on, f_next, f_again, f_depth, a_ops, a_as, a_bs, a_cs, a_blockOf, a_opener, a_around, a_other, a_end, a_open, a_varied, a_loose, a_variedVariable, a_stands, a_number, a_isConst, a_needed, a_inputs, a_values, a_variables, a_cells, a_outs, a_was, a_rest, a_line))) ∧ (¬ p1 = 2 → (vp_in (nI j) 49 ∧ (vp_in (a_blockOf (nI j).toNatClampNeg) 97 ∧ ((((a_loose (a_blockOf (nI j).toNatClampNeg).toNatClampNeg) = 0 → (post 0 (f_lines, f_known, f_wrong, f_place, f_blocks, f_steps, f_dropped, f_on, f_next, f_again, f_depth, a_ops, a_as, a_bs, a_cs, a_blockOf, a_opener, a_around, a_other, a_end, a_open, a_varied, a_loose, a_variedVariable, a_stands, a_number, a_isConst, a_needed, a_inputs, a_values, a_variables, a_cells, a_outs, a_was, a_rest, a_line))) ∧ (¬ (a_loose (a_blockOf (nI j).toNatClampNeg).toNatClampNeg) = 0 → (post 1 (f_lines, f_known, f_wrong, f_place, f_blocks, f_steps, f_dropped, f_on, f_next, f_again, f_depth, a_ops, a_as, a_bs, a_cs, a_blockOf, a_opener, a_around, a_other, a_end, a_open, a_varied, a_loose, a_variedVariable, a_stands, a_number, a_isConst, a_needed, a_inputs, a_values, a_variables, a_cells, a_outs, a_was, a_rest, a_line))))))))))))) → ∃ m, wY_lanes_68 post (nI j) p1 f_lines f_known f_wrong f_place f_blocks f_steps f_dropped f_on f_next f_again f_depth a_ops a_as a_bs a_cs a_blockOf a_opener a_around a_other a_end a_open a_varied a_loose a_variedVariable a_stands a_number a_isConst a_needed a_inputs a_values a_variables a_cells a_outs a_was a_rest a_line m 0 (nI (sc_cnt K (sc_hd (sc_lf K j)))) := fun h =>
    ⟨5, ly_68 (K := K) (n := n) hn hg (fun j hj ho => ((hA j hj).2.1 ho).1) (sc_lf K j) q 0 (by omega) eq h 5 (by omega)⟩
  rcases pk_ix p1 (show 3 < 2 ^ 31 by omega) with h | h | ⟨k, hk, rfl⟩
  · exact br_t h (am (Or.inl h))
  · exact br_f (rl_lt (by omega) h) (br_t ((ez_23 _).mpr h) (am (Or.inr ((ez_23 _).mpr h))))
  · have hk3 : k = 0 ∨ k = 1 ∨ k = 2 := by omega
    rcases hk3 with rfl | rfl | rfl
    · refine br_f (by decide) (br_f (by decide) (br_t rfl ⟨ij, ?_⟩))
      rw [cj, kj.1, hb]
      refine ys_gives kj.2 (fun h16 => br_f (by decide) ⟨ij', nm_e (lp ⟨fun _ => ⟨ij, ?_⟩, fun h => absurd rfl h⟩)⟩) (fun h16 => br_t rfl (a0n rfl h16))
      rw [cj]; exact a0 rfl h16
    · refine br_f (by decide) (br_f (by decide) (br_f (by decide) ⟨ij', nm_c cj hb (lp ⟨fun h => absurd h (by decide), fun _ => br_f (by decide) ⟨ij', ?_⟩⟩)⟩))
      rw [cj, hb, nI_clamp (by omega)]
      exact ⟨vp_in_nI (by omega) (by omega), a1 rfl⟩
    · refine br_f (by decide) (br_f (by decide) (br_f (by decide) ⟨ij', nm_c cj hb (lp ⟨fun h => absurd h (by decide), fun _ => br_t rfl ?_⟩)⟩))
      rw [Nat.zero_add]; exact a2 rfl
end
section
variable {u : SX} {v : SY}
theorem g_lanes {Q : Int32 → SX → Int32 → SY → Prop} (I : rl_R u v) (h : ∀ r u' v', rl_R u' v' → Q r u' r v') (v1 v2 : Int32) : wpX_lanes (fun r u' => wpY_lanes (fun r' v' => Q r u' r' v') v v1 v2) u v1 v2 := by
  obtain ⟨f_lines, f_studied, f_wrong, f_wrongAt, f_brief, f_on, f_dropped, f_steps, f_nextLine, f_repeats, a_kinds, a_firsts, a_seconds, a_thirds, a_inputs, a_home, a_depth, a_closer, a_mate, a_operands, a_varies, a_parted, a_variableVaries, a_same, a_fixed, a_worth, a_needed, a_variableNeeded, a_values, a_variables, a_outputs, a_cells, a_whole, a_waiting⟩ := u
  obtain ⟨yf_lines, yf_known, yf_wrong, yf_place, yf_blocks, yf_steps, yf_dropped, yf_on, yf_next, yf_again, yf_depth, ya_ops, ya_as, ya_bs, ya_cs, ya_blockOf, ya_opener, ya_around, ya_other, ya_end, ya_open, ya_varied, ya_loose, ya_variedVariable, ya_stands, ya_number, ya_isConst, ya_needed, ya_inputs, ya_values, ya_variables, ya_cells, ya_outs, ya_was, ya_rest, ya_line⟩ := v
  unfold wpX_lanes wpY_lanes
  refine rl_study I (fun K n u' hx hY => ?_)
  obtain ⟨zf_lines, zf_studied, zf_wrong, zf_wrongAt, zf_brief, zf_on, zf_dropped, zf_steps, zf_nextLine, zf_repeats, za_kinds, za_firsts, za_seconds, za_thirds, za_inputs, za_home, za_depth, za_closer, za_mate, za_operands, za_varies, za_parted, za_variableVaries, za_same, za_fixed, za_worth, za_needed, za_variableNeeded, za_values, za_variables, za_outputs, za_cells, za_whole, za_waiting⟩ := u'
  have hx' := hx
  obtain ⟨hW, el, es, hst⟩ := hx'
  have hn := hW.1
  rcases pk_ix v1 (show n < 2 ^ 31 by omega) with h0 | h1 | ⟨j, hj, rfl⟩
  · refine br_t h0 (hY _ (fun v' hy => ?_))
    obtain ⟨wf_lines, wf_known, wf_wrong, wf_place, wf_blocks, wf_steps, wf_dropped, wf_on, wf_next, wf_again, wf_depth, wa_ops, wa_as, wa_bs, wa_cs, wa_blockOf, wa_opener, wa_around, wa_other, wa_end, wa_open, wa_varied, wa_loose, wa_variedVariable, wa_stands, wa_number, wa_isConst, wa_needed, wa_inputs, wa_values, wa_variables, wa_cells, wa_outs, wa_was, wa_rest, wa_line⟩ := v'
    exact br_t h0 (h _ _ _ (rl_SR hx hy))
  · have h0 := rl_lt (by omega) h1
    refine br_f h0 (br_t (by rw [el]; exact h1) (hY _ (fun v' hy => ?_)))
    obtain ⟨wf_lines, wf_known, wf_wrong, wf_place, wf_blocks, wf_steps, wf_dropped, wf_on, wf_next, wf_again, wf_depth, wa_ops, wa_as, wa_bs, wa_cs, wa_blockOf, wa_opener, wa_around, wa_other, wa_end, wa_open, wa_varied, wa_loose, wa_variedVariable, wa_stands, wa_number, wa_isConst, wa_needed, wa_inputs, wa_values, wa_variables, wa_cells, wa_outs, wa_was, wa_rest, wa_line⟩ := v'
    have el' : wf_lines = nI n := hy.1
    exact br_f h0 (br_t (by rw [el']; exact h1) (h _ _ _ (rl_SR hx hy)))
  · have h0 : ¬ nI j < 0 := nI_pos (by omega)
    have h1 : ¬ zf_lines ≤ nI j := by rw [el]; exact nI_ge hj (by omega)
    have h2 : ∀ {x : Int32}, x = nI n → ¬ x ≤ nI j := fun e => by rw [e]; exact nI_ge hj (by omega)
    refine br_f h0 (br_f h1 ?_)
    rcases hst with hb | hg
    · obtain ⟨c, c0, c4, ec⟩ := pg_bad_w hb
      obtain ⟨w1, w2, w3, w4, w5⟩ := rl_w c c4 c0
      refine br_f (by rw [ec]; exact w1) (br_f (by rw [ec]; exact w2) (br_t rfl (hY _ (fun v' hy => ?_))))
      obtain ⟨wf_lines, wf_known, wf_wrong, wf_place, wf_blocks, wf_steps, wf_dropped, wf_on, wf_next, wf_again, wf_depth, wa_ops, wa_as, wa_bs, wa_cs, wa_blockOf, wa_opener, wa_around, wa_other, wa_end, wa_open, wa_varied, wa_loose, wa_variedVariable, wa_stands, wa_number, wa_isConst, wa_needed, wa_inputs, wa_values, wa_variables, wa_cells, wa_outs, wa_was, wa_rest, wa_line⟩ := v'
      have ew : wf_wrong = zf_wrong := hy.2.2.1
      rw [ec] at ew
      exact br_f h0 (br_f (h2 hy.1) (br_f (by rw [ew]; exact w3) (br_t (by rw [ew]; exact w4) (h _ _ _ (rl_SR hx hy)))))
    · have hw : zf_wrong = 0 ∨ zf_wrong = 4 := by
        rcases hg.2.2.2.2.2.1 with ⟨_, _, _, _, e, _⟩ | ⟨_, e, _⟩
        · exact Or.inr e
        · exact Or.inl e
      have hgd := sc_ok_good hg.1
      have gj : sc_good K (j + 1) := sc_good_le hgd (by omega)
      have hA := hg.2.2.1 j hj
      have hhd := sc_hdl_le gj
      have hop := sc_hdl_op gj
      have cj : (nI j).toNatClampNeg = j := nI_clamp (by omega)
      have ij : vp_in (nI j) 48 := vp_in_nI (by omega) (by omega)
      have shaped : ∀ P : Int32 → Prop, P 1 → wpX_isShaped P (zf_lines, zf_studied, zf_wrong, zf_wrongAt, zf_brief, zf_on, zf_dropped, zf_steps, zf_nextLine, zf_repeats, za_kinds, za_firsts, za_seconds, za_thirds, za_inputs, za_home, za_depth, za_closer, za_mate, za_operands, za_varies, za_parted, za_variableVaries, za_same, za_fixed, za_worth, za_needed, za_variableNeeded, za_values, za_variables, za_outputs, za_cells, za_whole, za_waiting) := fun P hp => by
        rcases hw with e | e
        · exact br_t e hp
        · exact br_f (by rw [e]; decide) (br_t e hp)
      have toY : ∀ (post : Int32 → SY → Prop) {wf_lines wf_known wf_wrong wf_place wf_blocks wf_steps wf_dropped wf_on wf_next wf_again wf_depth : Int32} {wa_ops wa_as wa_bs wa_cs wa_blockOf wa_opener wa_around wa_other wa_end wa_open wa_varied wa_loose wa_variedVariable wa_stands wa_number wa_isConst wa_needed wa_inputs wa_values wa_variables wa_cells wa_outs wa_was wa_rest wa_line : Nat → Int32}, ys_S K n (zf_lines, zf_studied, zf_wrong, zf_wrongAt, zf_brief, zf_on, zf_dropped, zf_steps, zf_nextLine, zf_repeats, za_kinds, za_firsts, za_seconds, za_thirds, za_inputs, za_home, za_depth, za_closer, za_mate, za_operands, za_varies, za_parted, za_variableVaries, za_same, za_fixed, za_worth, za_needed, za_variableNeeded, za_values, za_variables, za_outputs, za_cells, za_whole, za_waiting) (wf_lines, wf_known, wf_wrong, wf_place, wf_blocks, wf_steps, wf_dropped, wf_on, wf_next, wf_again, wf_depth, wa_ops, wa_as, wa_bs, wa_cs, wa_blockOf, wa_opener, wa_around, wa_other, wa_end, wa_open, wa_varied, wa_loose, wa_variedVariable, wa_stands, wa_number, wa_isConst, wa_needed, wa_inputs, wa_values, wa_variables, wa_cells, wa_outs, wa_was, wa_rest, wa_line) → wY_lanes_31 post (nI j) v2 wf_lines wf_known wf_wrong wf_place wf_blocks wf_steps wf_dropped wf_on wf_next wf_again wf_depth wa_ops wa_as wa_bs wa_cs wa_blockOf wa_opener wa_around wa_other wa_end wa_open wa_varied wa_loose wa_variedVariable wa_stands wa_number wa_isConst wa_needed wa_inputs wa_values wa_variables wa_cells wa_outs wa_was wa_rest wa_line → ((nI j < 0 → post (-1) (wf_lines, wf_known, wf_wrong, wf_place, wf_blocks, wf_steps, wf_dropped, wf_on, wf_next, wf_again, wf_depth, wa_ops, wa_as, wa_bs, wa_cs, wa_blockOf, wa_opener, wa_around, wa_other, wa_end, wa_open, wa_varied, wa_loose, wa_variedVariable, wa_stands, wa_number, wa_isConst, wa_needed, wa_inputs, wa_values, wa_variables, wa_cells, wa_outs, wa_was, wa_rest, wa_line)) ∧ (¬ nI j < 0 → ((wf_lines ≤ nI j → post (-1) (wf_lines, wf_known, wf_wrong, wf_place, wf_blocks, wf_steps, wf_dropped, wf_on, wf_next, wf_again, wf_depth, wa_ops, wa_as, wa_bs, wa_cs, wa_blockOf, wa_opener, wa_around, wa_other, wa_end, wa_open, wa_varied, wa_loose, wa_variedVariable, wa_stands, wa_number, wa_isConst, wa_needed, wa_inputs, wa_values, wa_variables, wa_cells, wa_outs, wa_was, wa_rest, wa_line)) ∧ (¬ wf_lines ≤ nI j → ((wf_wrong ≤ 0 → wY_lanes_31 post (nI j) v2 wf_lines wf_known wf_wrong wf_place wf_blocks wf_steps wf_dropped wf_on wf_next wf_again wf_depth wa_ops wa_as wa_bs wa_cs wa_blockOf wa_opener wa_around wa_other wa_end wa_open wa_varied wa_loose wa_variedVariable wa_stands wa_number wa_isConst wa_needed wa_inputs wa_values wa_variables wa_cells wa_outs wa_was wa_rest wa_line) ∧ (¬ wf_wrong ≤ 0 → ((wf_wrong < 4 → post (-1) (wf_lines, wf_known, wf_wrong, wf_place, wf_blocks, wf_steps, wf_dropped, wf_on, wf_next, wf_again, wf_depth, wa_ops, wa_as, wa_bs, wa_cs, wa_blockOf, wa_opener, wa_around, wa_other, wa_end, wa_open, wa_varied, wa_loose, wa_variedVariable, wa_stands, wa_number, wa_isConst, wa_needed, wa_inputs, wa_values, wa_variables, wa_cells, wa_outs, wa_was, wa_rest, wa_line)) ∧ (¬ wf_wrong < 4 → wY_lanes_31 post (nI j) v2 wf_lines wf_known wf_wrong wf_place wf_blocks wf_steps wf_dropped wf_on wf_next wf_again wf_depth wa_ops wa_as wa_bs wa_cs wa_blockOf wa_opener wa_around wa_other wa_end wa_open wa_varied wa_loose wa_variedVariable wa_stands wa_number wa_isConst wa_needed wa_inputs wa_values wa_variables wa_cells wa_outs wa_was wa_rest wa_line)))))))) := by
        intro post wf_lines wf_known wf_wrong wf_place wf_blocks wf_steps wf_dropped wf_on wf_next wf_again wf_depth wa_ops wa_as wa_bs wa_cs wa_blockOf wa_opener wa_around wa_other wa_end wa_open wa_varied wa_loose wa_variedVariable wa_stands wa_number wa_isConst wa_needed wa_inputs wa_values wa_variables wa_cells wa_outs wa_was wa_rest wa_line hy hp
        have ew : wf_wrong = zf_wrong := hy.2.2.1
        refine br_f h0 (br_f (h2 hy.1) ?_)
        rcases hw with e | e
        · exact br_t (by rw [ew, e]; decide) hp
        · exact br_f (by rw [ew, e]; decide) (br_f (by rw [ew, e]; decide) hp)
      have good : ∀ {wf_lines wf_known wf_wrong wf_place wf_blocks wf_steps wf_dropped wf_on wf_next wf_again wf_depth : Int32} {wa_ops wa_as wa_bs wa_cs wa_blockOf wa_opener wa_around wa_other wa_end wa_open wa_varied wa_loose wa_variedVariable wa_stands wa_number wa_isConst wa_needed wa_inputs wa_values wa_variables wa_cells wa_outs wa_was wa_rest wa_line : Nat → Int32}, ys_S K n (zf_lines, zf_studied, zf_wrong, zf_wrongAt, zf_brief, zf_on, zf_dropped, zf_steps, zf_nextLine, zf_repeats, za_kinds, za_firsts, za_seconds, za_thirds, za_inputs, za_home, za_depth, za_closer, za_mate, za_operands, za_varies, za_parted, za_variableVaries, za_same, za_fixed, za_worth, za_needed, za_variableNeeded, za_values, za_variables, za_outputs, za_cells, za_whole, za_waiting) (wf_lines, wf_known, wf_wrong, wf_place, wf_blocks, wf_steps, wf_dropped, wf_on, wf_next, wf_again, wf_depth, wa_ops, wa_as, wa_bs, wa_cs, wa_blockOf, wa_opener, wa_around, wa_other, wa_end, wa_open, wa_varied, wa_loose, wa_variedVariable, wa_stands, wa_number, wa_isConst, wa_needed, wa_inputs, wa_values, wa_variables, wa_cells, wa_outs, wa_was, wa_rest, wa_line) → (∀ j, j < n → wa_ops j = nI (K j) ∧ K j ≤ 25) ∧ ys_A K n wa_blockOf wa_opener wa_around wa_other wa_end ∧ (∀ i, i < n → (za_varies i ≠ 0 ↔ wa_varied i ≠ 0)) ∧ (∀ b, b ≤ n → (b = 0 ∨ sc_op (K (b - 1))) → (za_parted b ≠ 0 ↔ wa_loose (sc_cnt K b) ≠ 0)) := by
        intro wf_lines wf_known wf_wrong wf_place wf_blocks wf_steps wf_dropped wf_on wf_next wf_again wf_depth wa_ops wa_as wa_bs wa_cs wa_blockOf wa_opener wa_around wa_other wa_end wa_open wa_varied wa_loose wa_variedVariable wa_stands wa_number wa_isConst wa_needed wa_inputs wa_values wa_variables wa_cells wa_outs wa_was wa_rest wa_line hy
        obtain ⟨_, _, _, _, ⟨e1, _⟩, hd, _⟩ := hy
        rcases hd with hb | ⟨_, hg'⟩
        · exact (pg_bad_good hb hg.1 hg.2.1).elim
        · obtain ⟨_, v1, v2, _⟩ := pg_join hn hg hg'
          exact ⟨by rw [e1]; exact hW.2.1, hg'.2.2.1, v1, v2⟩
      refine shaped _ (br_f (by decide) ?_)
      rcases pk_ix v2 (show 3 < 2 ^ 31 by omega) with p0 | p3 | ⟨k, hk, rfl⟩
      · refine br_t p0 (hY _ (fun v' hy => ?_))
        obtain ⟨wf_lines, wf_known, wf_wrong, wf_place, wf_blocks, wf_steps, wf_dropped, wf_on, wf_next, wf_again, wf_depth, wa_ops, wa_as, wa_bs, wa_cs, wa_blockOf, wa_opener, wa_around, wa_other, wa_end, wa_open, wa_varied, wa_loose, wa_variedVariable, wa_stands, wa_number, wa_isConst, wa_needed, wa_inputs, wa_values, wa_variables, wa_cells, wa_outs, wa_was, wa_rest, wa_line⟩ := v'
        obtain ⟨gK, gA, gv, gl⟩ := good hy
        exact toY _ hy (ly_31 hn gK hgd gA hj (fun _ => h _ _ _ (rl_SR hx hy)) (fun e => absurd p0 (by rw [e]; decide)) (fun e => absurd p0 (by rw [e]; decide)) (fun e => absurd p0 (by rw [e]; decide)) (fun e => absurd p0 (by rw [e]; decide)))
      · refine br_f (rl_lt (by omega) p3) (br_t ((ez_23 _).mpr p3) (hY _ (fun v' hy => ?_)))
        obtain ⟨wf_lines, wf_known, wf_wrong, wf_place, wf_blocks, wf_steps, wf_dropped, wf_on, wf_next, wf_again, wf_depth, wa_ops, wa_as, wa_bs, wa_cs, wa_blockOf, wa_opener, wa_around, wa_other, wa_end, wa_open, wa_varied, wa_loose, wa_variedVariable, wa_stands, wa_number, wa_isConst, wa_needed, wa_inputs, wa_values, wa_variables, wa_cells, wa_outs, wa_was, wa_rest, wa_line⟩ := v'
        obtain ⟨gK, gA, gv, gl⟩ := good hy
        exact toY _ hy (ly_31 hn gK hgd gA hj (fun _ => h _ _ _ (rl_SR hx hy)) (fun e => absurd p3 (by rw [e]; decide)) (fun e => absurd p3 (by rw [e]; decide)) (fun e => absurd p3 (by rw [e]; decide)) (fun e => absurd p3 (by rw [e]; decide)))
      · have hk3 : k = 0 ∨ k = 1 ∨ k = 2 := by omega
        rcases hk3 with rfl | rfl | rfl
        · refine br_f (by decide) (br_f (by decide) (br_t rfl (xs_gives (K := K) (n := n) hW.2.1 hn hj (fun h16 => br_f (by decide) ⟨ij, ?_⟩) (fun h16 => br_t rfl (hY _ (fun v' hy => ?_))))))
          · rw [cj]
            refine br_c (fun hz => hY _ (fun v' hy => ?_)) (fun hz => hY _ (fun v' hy => ?_))
            · obtain ⟨wf_lines, wf_known, wf_wrong, wf_place, wf_blocks, wf_steps, wf_dropped, wf_on, wf_next, wf_again, wf_depth, wa_ops, wa_as, wa_bs, wa_cs, wa_blockOf, wa_opener, wa_around, wa_other, wa_end, wa_open, wa_varied, wa_loose, wa_variedVariable, wa_stands, wa_number, wa_isConst, wa_needed, wa_inputs, wa_values, wa_variables, wa_cells, wa_outs, wa_was, wa_rest, wa_line⟩ := v'
              obtain ⟨gK, gA, gv, gl⟩ := good hy
              refine toY _ hy (ly_31 hn gK hgd gA hj (fun e => absurd e (by decide)) (fun _ e => absurd h16 e) (fun _ _ => br_t ?_ (h _ _ _ (rl_SR hx hy))) (fun e => absurd e (by decide)) (fun e => absurd e (by decide)))
              exact Classical.byContradiction (fun h' => ((gv j hj).mpr h') hz)
            · obtain ⟨wf_lines, wf_known, wf_wrong, wf_place, wf_blocks, wf_steps, wf_dropped, wf_on, wf_next, wf_again, wf_depth, wa_ops, wa_as, wa_bs, wa_cs, wa_blockOf, wa_opener, wa_around, wa_other, wa_end, wa_open, wa_varied, wa_loose, wa_variedVariable, wa_stands, wa_number, wa_isConst, wa_needed, wa_inputs, wa_values, wa_variables, wa_cells, wa_outs, wa_was, wa_rest, wa_line⟩ := v'
              obtain ⟨gK, gA, gv, gl⟩ := good hy
              exact toY _ hy (ly_31 hn gK hgd gA hj (fun e => absurd e (by decide)) (fun _ e => absurd h16 e) (fun _ _ => br_f ((gv j hj).mp hz) (h _ _ _ (rl_SR hx hy))) (fun e => absurd e (by decide)) (fun e => absurd e (by decide)))
          · obtain ⟨wf_lines, wf_known, wf_wrong, wf_place, wf_blocks, wf_steps, wf_dropped, wf_on, wf_next, wf_again, wf_depth, wa_ops, wa_as, wa_bs, wa_cs, wa_blockOf, wa_opener, wa_around, wa_other, wa_end, wa_open, wa_varied, wa_loose, wa_variedVariable, wa_stands, wa_number, wa_isConst, wa_needed, wa_inputs, wa_values, wa_variables, wa_cells, wa_outs, wa_was, wa_rest, wa_line⟩ := v'
            obtain ⟨gK, gA, gv, gl⟩ := good hy
            exact toY _ hy (ly_31 hn gK hgd gA hj (fun e => absurd e (by decide)) (fun _ _ => h _ _ _ (rl_SR hx hy)) (fun _ e => absurd e h16) (fun e => absurd e (by decide)) (fun e => absurd e (by decide)))
        · refine br_f (by decide) (br_f (by decide) (br_f (by decide) (br_t rfl ⟨ij, ?_⟩)))
          rw [cj, hA.1, nI_clamp (by omega)]
          refine ⟨vp_in_nI (by omega) (by omega), br_c (fun hz => hY _ (fun v' hy => ?_)) (fun hz => hY _ (fun v' hy => ?_))⟩
          · obtain ⟨wf_lines, wf_known, wf_wrong, wf_place, wf_blocks, wf_steps, wf_dropped, wf_on, wf_next, wf_again, wf_depth, wa_ops, wa_as, wa_bs, wa_cs, wa_blockOf, wa_opener, wa_around, wa_other, wa_end, wa_open, wa_varied, wa_loose, wa_variedVariable, wa_stands, wa_number, wa_isConst, wa_needed, wa_inputs, wa_values, wa_variables, wa_cells, wa_outs, wa_was, wa_rest, wa_line⟩ := v'
            obtain ⟨gK, gA, gv, gl⟩ := good hy
            refine toY _ hy (ly_31 hn gK hgd gA hj (fun e => absurd e (by decide)) (fun e => absurd e (by decide)) (fun e => absurd e (by decide)) (fun _ => br_t ?_ (h _ _ _ (rl_SR hx hy))) (fun e => absurd e (by decide)))
            exact Classical.byContradiction (fun h' => ((gl _ (by omega) hop).mpr h') hz)
          · obtain ⟨wf_lines, wf_known, wf_wrong, wf_place, wf_blocks, wf_steps, wf_dropped, wf_on, wf_next, wf_again, wf_depth, wa_ops, wa_as, wa_bs, wa_cs, wa_blockOf, wa_opener, wa_around, wa_other, wa_end, wa_open, wa_varied, wa_loose, wa_variedVariable, wa_stands, wa_number, wa_isConst, wa_needed, wa_inputs, wa_values, wa_variables, wa_cells, wa_outs, wa_was, wa_rest, wa_line⟩ := v'
            obtain ⟨gK, gA, gv, gl⟩ := good hy
            exact toY _ hy (ly_31 hn gK hgd gA hj (fun e => absurd e (by decide)) (fun e => absurd e (by decide)) (fun e => absurd e (by decide)) (fun _ => br_f ((gl _ (by omega) hop).mp hz) (h _ _ _ (rl_SR hx hy))) (fun e => absurd e (by decide)))
        · refine br_f (by decide) (br_f (by decide) (br_f (by decide) (br_f (by decide) (br_t rfl ⟨ij, ?_⟩))))
          rw [cj, hA.2.1]
          refine hY _ (fun v' hy => ?_)
          obtain ⟨wf_lines, wf_known, wf_wrong, wf_place, wf_blocks, wf_steps, wf_dropped, wf_on, wf_next, wf_again, wf_depth, wa_ops, wa_as, wa_bs, wa_cs, wa_blockOf, wa_opener, wa_around, wa_other, wa_end, wa_open, wa_varied, wa_loose, wa_variedVariable, wa_stands, wa_number, wa_isConst, wa_needed, wa_inputs, wa_values, wa_variables, wa_cells, wa_outs, wa_was, wa_rest, wa_line⟩ := v'
          obtain ⟨gK, gA, gv, gl⟩ := good hy
          exact toY _ hy (ly_31 hn gK hgd gA hj (fun e => absurd e (by decide)) (fun e => absurd e (by decide)) (fun e => absurd e (by decide)) (fun e => absurd e (by decide)) (fun _ => h _ _ _ (rl_SR hx hy)))
end
