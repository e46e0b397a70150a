section
variable {f_lines f_studied f_wrong f_wrongAt f_brief f_on f_dropped f_steps f_nextLine f_repeats : Int32} {a_kinds a_firsts a_seconds a_thirds a_inputs a_home a_depth a_closer a_mate a_operands a_varies a_parted a_variableVaries a_same a_fixed a_worth a_needed a_variableNeeded a_values a_variables a_outputs a_cells a_whole a_waiting : Nat → Int32}
variable {yf_lines yf_known yf_wrong yf_place yf_blocks yf_steps yf_dropped yf_on yf_next yf_again yf_depth : Int32} {ya_ops ya_as ya_bs ya_cs ya_blockOf ya_opener ya_around ya_other ya_end ya_open ya_varied ya_loose ya_variedVariable ya_stands ya_number ya_isConst ya_needed ya_inputs ya_values ya_variables ya_cells ya_outs ya_was ya_rest ya_line : Nat → Int32}
theorem nm_c {f : Nat → Int32} {x y : Int32} {i : Nat} {P : Int32 → Prop} (hc : x.toNatClampNeg = i) (hf : f i = y) (h : P y) : ∀ z, z = f x.toNatClampNeg → P z := by
  intro z e; rw [e, hc, hf]; exact h
theorem ez_34 (x : Int32) : 3 < x ↔ 4 ≤ x := by
  rw [Int32.lt_iff_toInt_lt, Int32.le_iff_toInt_le]
  have h3 : (3 : Int32).toInt = 3 := by decide
  have h4 : (4 : Int32).toInt = 4 := by decide
  omega
theorem ez_78 (x : Int32) : 7 < x ↔ 8 ≤ x := by
  rw [Int32.lt_iff_toInt_lt, Int32.le_iff_toInt_le]
  have h3 : (7 : Int32).toInt = 7 := by decide
  have h4 : (8 : Int32).toInt = 8 := by decide
  omega
theorem ez_12 (x : Int32) : 1 < x ↔ 2 ≤ x := by
  rw [Int32.lt_iff_toInt_lt, Int32.le_iff_toInt_le]
  have h3 : (1 : Int32).toInt = 1 := by decide
  have h4 : (2 : Int32).toInt = 2 := by decide
  omega
/-- one of four or not -/
theorem ez_4 (x : Int32) : (x < 0 ∨ 4 ≤ x) ∨ ∃ j : Nat, j < 4 ∧ x = nI j := by
  rcases pk_ix x (n := 4) (by omega) with h | h | h
  · exact Or.inl (Or.inl h)
  · exact Or.inl (Or.inr h)
  · exact Or.inr h
theorem ez_n4 {j : Nat} (hj : j < 4) : ¬ nI j < 0 ∧ ¬ 4 ≤ nI j ∧ ¬ 3 < nI j ∧ nI j ≤ 3 :=
  ⟨nI_pos (by omega), nI_ge (b := 4) hj (by decide), nI_nlt (a := 3) (b := j) (by omega) (by decide), nI_le (b := 3) (by omega) (by decide)⟩
theorem ez_four {post : Int32 → Prop} {x : Int32} (hb : (x < 0 ∨ 4 ≤ x) → post 0) (hg : ∀ j : Nat, j < 4 → x = nI j → post 1) : wpX_isOneOfFour post x := by
  rcases ez_4 x with h | ⟨j, hj, rfl⟩
  · rcases h with h | h
    · exact br_t h (hb (Or.inl h))
    · exact br_c (fun h' => hb (Or.inl h')) (fun _ => br_t h (hb (Or.inr h)))
  · exact br_f (ez_n4 hj).1 (br_f (ez_n4 hj).2.1 (hg j hj rfl))
def ad_Bad (op a : Int32) : Prop := op < 0 ∨ 25 < op ∨ ((op = 1 ∨ op = 11 ∨ op = 16 ∨ op = 17 ∨ op = 18) ∧ (a < 0 ∨ 4 ≤ a))
theorem ad_X62 {post : Int32 → SX → Prop} {n : Nat} (h48 : n ≤ 48) (op a b c : Int32) (hf : n = 48 → post (-2) (nI n, f_studied, f_wrong, f_wrongAt, f_brief, f_on, f_dropped, f_steps, f_nextLine, f_repeats, a_kinds, a_firsts, a_seconds, a_thirds, a_inputs, a_home, a_depth, a_closer, a_mate, a_operands, a_varies, a_parted, a_variableVaries, a_same, a_fixed, a_worth, a_needed, a_variableNeeded, a_values, a_variables, a_outputs, a_cells, a_whole, a_waiting)) (hg : n < 48 → post (nI n) (nI (n+1), 0, f_wrong, f_wrongAt, f_brief, f_on, f_dropped, f_steps, f_nextLine, f_repeats, upd a_kinds n op, upd a_firsts n a, upd a_seconds n b, upd a_thirds n c, a_inputs, a_home, a_depth, a_closer, a_mate, a_operands, a_varies, a_parted, a_variableVaries, a_same, a_fixed, a_worth, a_needed, a_variableNeeded, a_values, a_variables, a_outputs, a_cells, a_whole, a_waiting)) : wX_add_62 post op a b c (nI n) f_studied f_wrong f_wrongAt f_brief f_on f_dropped f_steps f_nextLine f_repeats a_kinds a_firsts a_seconds a_thirds a_inputs a_home a_depth a_closer a_mate a_operands a_varies a_parted a_variableVaries a_same a_fixed a_worth a_needed a_variableNeeded a_values a_variables a_outputs a_cells a_whole a_waiting := by
  have hc : (nI n).toNatClampNeg = n := nI_clamp (by omega)
  refine pk_lt n 48 (fun h => ?_) (fun h => hf (by omega))
  have hi : vp_in (nI n) 48 := vp_in_nI h (by omega)
  refine ⟨hi, nm_r (by rw [hc]) ⟨hi, nm_r (by rw [hc]) ⟨hi, nm_r (by rw [hc]) ⟨hi, nm_r (by rw [hc]) (nm_r (nI_1 n) ?_)⟩⟩⟩⟩
  rw [nI_pred]
  exact hg h
theorem ad_X {post : Int32 → SX → Prop} {n : Nat} (h48 : n ≤ 48) (op a b c : Int32) (hb : ad_Bad op a → post (-1) (nI n, f_studied, f_wrong, f_wrongAt, f_brief, f_on, f_dropped, f_steps, f_nextLine, f_repeats, a_kinds, a_firsts, a_seconds, a_thirds, a_inputs, a_home, a_depth, a_closer, a_mate, a_operands, a_varies, a_parted, a_variableVaries, a_same, a_fixed, a_worth, a_needed, a_variableNeeded, a_values, a_variables, a_outputs, a_cells, a_whole, a_waiting)) (hf : ¬ ad_Bad op a → n = 48 → post (-2) (nI n, f_studied, f_wrong, f_wrongAt, f_brief, f_on, f_dropped, f_steps, f_nextLine, f_repeats, a_kinds, a_firsts, a_seconds, a_thirds, a_inputs, a_home, a_depth, a_closer, a_mate, a_operands, a_varies, a_parted, a_variableVaries, a_same, a_fixed, a_worth, a_needed, a_variableNeeded, a_values, a_variables, a_outputs, a_cells, a_whole, a_waiting)) (hg : ¬ ad_Bad op a → n < 48 → post (nI n) (nI (n+1), 0, f_wrong, f_wrongAt, f_brief, f_on, f_dropped, f_steps, f_nextLine, f_repeats, upd a_kinds n op, upd a_firsts n a, upd a_seconds n b, upd a_thirds n c, a_inputs, a_home, a_depth, a_closer, a_mate, a_operands, a_varies, a_parted, a_variableVaries, a_same, a_fixed, a_worth, a_needed, a_variableNeeded, a_values, a_variables, a_outputs, a_cells, a_whole, a_waiting)) : wpX_add post (nI n, f_studied, f_wrong, f_wrongAt, f_brief, f_on, f_dropped, f_steps, f_nextLine, f_repeats, a_kinds, a_firsts, a_seconds, a_thirds, a_inputs, a_home, a_depth, a_closer, a_mate, a_operands, a_varies, a_parted, a_variableVaries, a_same, a_fixed, a_worth, a_needed, a_variableNeeded, a_values, a_variables, a_outputs, a_cells, a_whole, a_waiting) op a b c := by
  have few : 0 ≤ op → op ≤ 25 → (op = 1 ∨ op = 11 ∨ op = 16 ∨ op = 17 ∨ op = 18) → wX_add_41 post op a b c (nI n) f_studied f_wrong f_wrongAt f_brief f_on f_dropped f_steps f_nextLine f_repeats a_kinds a_firsts a_seconds a_thirds a_inputs a_home a_depth a_closer a_mate a_operands a_varies a_parted a_variableVaries a_same a_fixed a_worth a_needed a_variableNeeded a_values a_variables a_outputs a_cells a_whole a_waiting := by
    intro h0 h25 hop
    refine br_f (by decide) ?_
    refine ez_four (fun h => br_t rfl (hb (Or.inr (Or.inr ⟨hop, h⟩)))) (fun j hj e => br_f (by decide) ?_)
    have nb : ¬ ad_Bad op a := by
      rintro (h | h | ⟨_, h | h⟩)
      · exact absurd h (Int32.not_lt.mpr h0)
      · exact absurd h (Int32.not_lt.mpr h25)
      · exact (ez_n4 hj).1 (e ▸ h)
      · exact (ez_n4 hj).2.1 (e ▸ h)
    exact ad_X62 h48 op a b c (hf nb) (hg nb)
  refine br_c (fun h => hb (Or.inl h)) (fun h0 => br_c (fun h25 => ?_) (fun h => hb (Or.inr (Or.inl (Int32.not_le.mp h)))))
  have h0' := Int32.not_lt.mp h0
  refine br_c (fun h => few h0' h25 (Or.inl h)) (fun h1 => br_c (fun h => few h0' h25 (Or.inr (Or.inl h))) (fun h11 => br_c (fun h => few h0' h25 (Or.inr (Or.inr (Or.inl h)))) (fun h16 => br_c (fun h => few h0' h25 (Or.inr (Or.inr (Or.inr (Or.inl h))))) (fun h17 => br_c (fun h => few h0' h25 (Or.inr (Or.inr (Or.inr (Or.inr h))))) (fun h18 => ?_)))))
  have nb : ¬ ad_Bad op a := by
    rintro (h | h | ⟨h | h | h | h | h, _⟩)
    · exact h0 h
    · exact absurd h (Int32.not_lt.mpr h25)
    · exact h1 h
    · exact h11 h
    · exact h16 h
    · exact h17 h
    · exact h18 h
  exact br_t rfl (ad_X62 h48 op a b c (hf nb) (hg nb))
theorem ad_Y62 {post : Int32 → SY → Prop} {n : Nat} (h48 : n ≤ 48) (op a b c : Int32) (hf : n = 48 → post (-2) (nI n, yf_known, yf_wrong, yf_place, yf_blocks, yf_steps, yf_dropped, yf_on, yf_next, yf_again, yf_depth, ya_ops, ya_as, ya_bs, ya_cs, ya_blockOf, ya_opener, ya_around, ya_other, ya_end, ya_open, ya_varied, ya_loose, ya_variedVariable, ya_stands, ya_number, ya_isConst, ya_needed, ya_inputs, ya_values, ya_variables, ya_cells, ya_outs, ya_was, ya_rest, ya_line)) (hg : n < 48 → post (nI n) (nI (n+1), 0, yf_wrong, yf_place, yf_blocks, yf_steps, yf_dropped, yf_on, yf_next, yf_again, yf_depth, upd ya_ops n op, upd ya_as n a, upd ya_bs n b, upd ya_cs n c, ya_blockOf, ya_opener, ya_around, ya_other, ya_end, ya_open, ya_varied, ya_loose, ya_variedVariable, ya_stands, ya_number, ya_isConst, ya_needed, ya_inputs, ya_values, ya_variables, ya_cells, ya_outs, ya_was, ya_rest, ya_line)) : wY_add_62 post op a b c (nI n) yf_known yf_wrong yf_place yf_blocks yf_steps yf_dropped yf_on yf_next yf_again yf_depth ya_ops ya_as ya_bs ya_cs ya_blockOf ya_opener ya_around ya_other ya_end ya_open ya_varied ya_loose ya_variedVariable ya_stands ya_number ya_isConst ya_needed ya_inputs ya_values ya_variables ya_cells ya_outs ya_was ya_rest ya_line := by
  have hc : (nI n).toNatClampNeg = n := nI_clamp (by omega)
  refine pk_eq n 48 (fun h => hf (by omega)) (fun h => ?_)
  have hi : vp_in (nI n) 48 := vp_in_nI (by omega) (by omega)
  exact ⟨hi, nm_r (by rw [hc]) ⟨hi, nm_r (by rw [hc]) ⟨hi, nm_r (by rw [hc]) ⟨hi, nm_r (by rw [hc]) (nm_r (nI_1 n) (hg (by omega)))⟩⟩⟩⟩
theorem ad_Y {post : Int32 → SY → Prop} {n : Nat} (h48 : n ≤ 48) (op a b c : Int32) (hb : ad_Bad op a → post (-1) (nI n, yf_known, yf_wrong, yf_place, yf_blocks, yf_steps, yf_dropped, yf_on, yf_next, yf_again, yf_depth, ya_ops, ya_as, ya_bs, ya_cs, ya_blockOf, ya_opener, ya_around, ya_other, ya_end, ya_open, ya_varied, ya_loose, ya_variedVariable, ya_stands, ya_number, ya_isConst, ya_needed, ya_inputs, ya_values, ya_variables, ya_cells, ya_outs, ya_was, ya_rest, ya_line)) (hf : ¬ ad_Bad op a → n = 48 → post (-2) (nI n, yf_known, yf_wrong, yf_place, yf_blocks, yf_steps, yf_dropped, yf_on, yf_next, yf_again, yf_depth, ya_ops, ya_as, ya_bs, ya_cs, ya_blockOf, ya_opener, ya_around, ya_other, ya_end, ya_open, ya_varied, ya_loose, ya_variedVariable, ya_stands, ya_number, ya_isConst, ya_needed, ya_inputs, ya_values, ya_variables, ya_cells, ya_outs, ya_was, ya_rest, ya_line)) (hg : ¬ ad_Bad op a → n < 48 → post (nI n) (nI (n+1), 0, yf_wrong, yf_place, yf_blocks, yf_steps, yf_dropped, yf_on, yf_next, yf_again, yf_depth, upd ya_ops n op, upd ya_as n a, upd ya_bs n b, upd ya_cs n c, ya_blockOf, ya_opener, ya_around, ya_other, ya_end, ya_open, ya_varied, ya_loose, ya_variedVariable, ya_stands, ya_number, ya_isConst, ya_needed, ya_inputs, ya_values, ya_variables, ya_cells, ya_outs, ya_was, ya_rest, ya_line)) : wpY_add post (nI n, yf_known, yf_wrong, yf_place, yf_blocks, yf_steps, yf_dropped, yf_on, yf_next, yf_again, yf_depth, ya_ops, ya_as, ya_bs, ya_cs, ya_blockOf, ya_opener, ya_around, ya_other, ya_end, ya_open, ya_varied, ya_loose, ya_variedVariable, ya_stands, ya_number, ya_isConst, ya_needed, ya_inputs, ya_values, ya_variables, ya_cells, ya_outs, ya_was, ya_rest, ya_line) op a b c := by
  have few : (op = 1 ∨ op = 11 ∨ op = 16 ∨ op = 17 ∨ op = 18) → wY_add_29 post op a b c (nI n) yf_known yf_wrong yf_place yf_blocks yf_steps yf_dropped yf_on yf_next yf_again yf_depth ya_ops ya_as ya_bs ya_cs ya_blockOf ya_opener ya_around ya_other ya_end ya_open ya_varied ya_loose ya_variedVariable ya_stands ya_number ya_isConst ya_needed ya_inputs ya_values ya_variables ya_cells ya_outs ya_was ya_rest ya_line := by
    intro hop
    refine br_c (fun h => hb (Or.inl h)) (fun h0 => br_c (fun h => hb (Or.inr (Or.inl h))) (fun h25 => br_f (by decide) (br_c (fun h => hb (Or.inr (Or.inr ⟨hop, Or.inl h⟩))) (fun ha0 => br_c (fun h3 => ?_) (fun h3 => hb (Or.inr (Or.inr ⟨hop, Or.inr ((ez_34 a).mp (Int32.not_le.mp h3))⟩)))))))
    have nb : ¬ ad_Bad op a := by
      rintro (h | h | ⟨_, h | h⟩)
      · exact h0 h
      · exact h25 h
      · exact ha0 h
      · exact absurd ((ez_34 a).mpr h) (Int32.not_lt.mpr h3)
    exact ad_Y62 h48 op a b c (hf nb) (hg nb)
  refine br_c (fun h => few (Or.inl h)) (fun h1 => br_c (fun h => few (Or.inr (Or.inl h))) (fun h11 => br_c (fun h => few (Or.inr (Or.inr (Or.inl h)))) (fun h16 => br_c (fun h => few (Or.inr (Or.inr (Or.inr (Or.inl h))))) (fun h17 => br_c (fun h => few (Or.inr (Or.inr (Or.inr (Or.inr h))))) (fun h18 => ?_)))))
  refine br_c (fun h => hb (Or.inl h)) (fun h0 => br_c (fun h => hb (Or.inr (Or.inl h))) (fun h25 => br_t rfl ?_))
  have nb : ¬ ad_Bad op a := by
    rintro (h | h | ⟨h | h | h | h | h, _⟩)
    · exact h0 h
    · exact h25 h
    · exact h1 h
    · exact h11 h
    · exact h16 h
    · exact h17 h
    · exact h18 h
  exact ad_Y62 h48 op a b c (hf nb) (hg nb)
/-- input -/
def in_val (a : Nat → Int32) (l k : Nat) (v : Int32) : Nat → Nat → Int32
  | 0 => a
  | i + 1 => if k < 2 ∨ i = l then upd (in_val a l k v i) (i * 4 + k) v else in_val a l k v i
theorem in_X19 {post : Int32 → SX → Prop} {l k : Nat} (hl : l < 4) (hk : k < 4) (v : Int32) (h : post 1 (f_lines, f_studied, f_wrong, f_wrongAt, f_brief, f_on, f_dropped, f_steps, f_nextLine, f_repeats, a_kinds, a_firsts, a_seconds, a_thirds, in_val a_inputs l k v 4, a_home, a_depth, a_closer, a_mate, a_operands, a_varies, a_parted, a_variableVaries, a_same, a_fixed, a_worth, a_needed, a_variableNeeded, a_values, a_variables, a_outputs, a_cells, a_whole, a_waiting)) : ∀ d i : Nat, i + d = 4 → wX_input_19 post (nI l) (nI k) v f_lines f_studied f_wrong f_wrongAt f_brief f_on f_dropped f_steps f_nextLine f_repeats (d + 1) (nI i) a_kinds a_firsts a_seconds a_thirds (in_val a_inputs l k v i) a_home a_depth a_closer a_mate a_operands a_varies a_parted a_variableVaries a_same a_fixed a_worth a_needed a_variableNeeded a_values a_variables a_outputs a_cells a_whole a_waiting := by
  intro d
  induction d with
  | zero => intro i hi; cases (show i = 4 by omega); exact br_t (by decide) h
  | succ d ih =>
    intro i hi
    have e4 : nI i * 4 + nI k = nI (i * 4 + k) := by
      rw [show (4 : Int32) = nI 4 from rfl, pk_mul, nI_add]
    have put : (k < 2 ∨ i = l) → wX_input_36 post (wX_input_19 post (nI l) (nI k) v f_lines f_studied f_wrong f_wrongAt f_brief f_on f_dropped f_steps f_nextLine f_repeats (d + 1)) (nI l) (nI k) v (nI i) f_lines f_studied f_wrong f_wrongAt f_brief f_on f_dropped f_steps f_nextLine f_repeats a_kinds a_firsts a_seconds a_thirds (in_val a_inputs l k v i) a_home a_depth a_closer a_mate a_operands a_varies a_parted a_variableVaries a_same a_fixed a_worth a_needed a_variableNeeded a_values a_variables a_outputs a_cells a_whole a_waiting := by
      intro hp
      have e : upd (in_val a_inputs l k v i) (nI i * 4 + nI k).toNatClampNeg v = in_val a_inputs l k v (i + 1) := by
        rw [e4, nI_clamp (by omega)]; exact (if_pos hp).symm
      exact ⟨by rw [e4]; exact vp_in_nI (by omega) (by omega), nm_r e (nm_r (nI_1 i) (ih (i + 1) (by omega)))⟩
    refine br_f (nI_ge (b := 4) (by omega) (by decide)) (pk_lt k 2 (fun h2 => put (Or.inl h2)) (fun h2 => pk_eq i l (fun h2 => put (Or.inr h2)) (fun h3 => ?_)))
    have e : in_val a_inputs l k v i = in_val a_inputs l k v (i + 1) := (if_neg (by omega)).symm
    rw [e]
    exact nm_r (nI_1 i) (ih (i + 1) (by omega))
theorem in_X {post : Int32 → SX → Prop} (p q v : Int32) (hb : ((p < 0 ∨ 4 ≤ p) ∨ (q < 0 ∨ 4 ≤ q)) → post 0 (f_lines, f_studied, f_wrong, f_wrongAt, f_brief, f_on, f_dropped, f_steps, f_nextLine, f_repeats, a_kinds, a_firsts, a_seconds, a_thirds, a_inputs, a_home, a_depth, a_closer, a_mate, a_operands, a_varies, a_parted, a_variableVaries, a_same, a_fixed, a_worth, a_needed, a_variableNeeded, a_values, a_variables, a_outputs, a_cells, a_whole, a_waiting)) (hg : ∀ l k : Nat, l < 4 → k < 4 → p = nI l → q = nI k → post 1 (f_lines, f_studied, f_wrong, f_wrongAt, f_brief, f_on, f_dropped, f_steps, f_nextLine, f_repeats, a_kinds, a_firsts, a_seconds, a_thirds, in_val a_inputs l k v 4, a_home, a_depth, a_closer, a_mate, a_operands, a_varies, a_parted, a_variableVaries, a_same, a_fixed, a_worth, a_needed, a_variableNeeded, a_values, a_variables, a_outputs, a_cells, a_whole, a_waiting)) : wpX_input post (f_lines, f_studied, f_wrong, f_wrongAt, f_brief, f_on, f_dropped, f_steps, f_nextLine, f_repeats, a_kinds, a_firsts, a_seconds, a_thirds, a_inputs, a_home, a_depth, a_closer, a_mate, a_operands, a_varies, a_parted, a_variableVaries, a_same, a_fixed, a_worth, a_needed, a_variableNeeded, a_values, a_variables, a_outputs, a_cells, a_whole, a_waiting) p q v := by
  unfold wpX_input
  refine ez_four (fun h => br_t rfl (hb (Or.inl h))) (fun l hl el => br_f (by decide) ?_)
  refine ez_four (fun h => br_t rfl (hb (Or.inr h))) (fun k hk ek => br_f (by decide) ?_)
  subst el ek
  exact ⟨5, in_X19 hl hk v (hg l k hl hk rfl rfl) 4 0 rfl⟩
theorem in_Y23 {post : Int32 → SY → Prop} {l k : Nat} (hl : l < 4) (hk : k < 4) (v : Int32) (h : post 1 (yf_lines, yf_known, yf_wrong, yf_place, yf_blocks, yf_steps, yf_dropped, yf_on, yf_next, yf_again, yf_depth, ya_ops, ya_as, ya_bs, ya_cs, ya_blockOf, ya_opener, ya_around, ya_other, ya_end, ya_open, ya_varied, ya_loose, ya_variedVariable, ya_stands, ya_number, ya_isConst, ya_needed, in_val ya_inputs l k v 4, ya_values, ya_variables, ya_cells, ya_outs, ya_was, ya_rest, ya_line)) : ∀ d i : Nat, i + d = 4 → wY_input_23 post (nI l) (nI k) v yf_lines yf_known yf_wrong yf_place yf_blocks yf_steps yf_dropped yf_on yf_next yf_again yf_depth (d + 1) (nI i) ya_ops ya_as ya_bs ya_cs ya_blockOf ya_opener ya_around ya_other ya_end ya_open ya_varied ya_loose ya_variedVariable ya_stands ya_number ya_isConst ya_needed (in_val ya_inputs l k v i) ya_values ya_variables ya_cells ya_outs ya_was ya_rest ya_line := by
  intro d
  induction d with
  | zero => intro i hi; cases (show i = 4 by omega); exact br_t (by decide) h
  | succ d ih =>
    intro i hi
    have e4 : 4 * nI i + nI k = nI (i * 4 + k) := by
      rw [show (4 : Int32) = nI 4 from rfl, pk_mul, nI_add, Nat.mul_comm]
    have put : (k < 2 ∨ i = l) → wY_input_40 post (wY_input_23 post (nI l) (nI k) v yf_lines yf_known yf_wrong yf_place yf_blocks yf_steps yf_dropped yf_on yf_next yf_again yf_depth (d + 1)) (nI l) (nI k) v (nI i) yf_lines yf_known yf_wrong yf_place yf_blocks yf_steps yf_dropped yf_on yf_next yf_again yf_depth ya_ops ya_as ya_bs ya_cs ya_blockOf ya_opener ya_around ya_other ya_end ya_open ya_varied ya_loose ya_variedVariable ya_stands ya_number ya_isConst ya_needed (in_val ya_inputs l k v i) ya_values ya_variables ya_cells ya_outs ya_was ya_rest ya_line := by
      intro hp
      have e : upd (in_val ya_inputs l k v i) (4 * nI i + nI k).toNatClampNeg v = in_val ya_inputs l k v (i + 1) := by
        rw [e4, nI_clamp (by omega)]; exact (if_pos hp).symm
      exact ⟨by rw [e4]; exact vp_in_nI (by omega) (by omega), nm_r e (nm_r (nI_1 i) (ih (i + 1) (by omega)))⟩
    refine br_f (nI_ge (b := 4) (by omega) (by decide)) (pk_eq i l (fun h2 => put (Or.inr h2)) (fun h3 => pk_le 2 k (fun h2 => ?_) (fun h2 => put (Or.inl h2))))
    have e : in_val ya_inputs l k v i = in_val ya_inputs l k v (i + 1) := (if_neg (by omega)).symm
    rw [e]
    exact nm_r (nI_1 i) (ih (i + 1) (by omega))
theorem in_Y {post : Int32 → SY → Prop} (p q v : Int32) (hb : ((p < 0 ∨ 4 ≤ p) ∨ (q < 0 ∨ 4 ≤ q)) → post 0 (yf_lines, yf_known, yf_wrong, yf_place, yf_blocks, yf_steps, yf_dropped, yf_on, yf_next, yf_again, yf_depth, ya_ops, ya_as, ya_bs, ya_cs, ya_blockOf, ya_opener, ya_around, ya_other, ya_end, ya_open, ya_varied, ya_loose, ya_variedVariable, ya_stands, ya_number, ya_isConst, ya_needed, ya_inputs, ya_values, ya_variables, ya_cells, ya_outs, ya_was, ya_rest, ya_line)) (hg : ∀ l k : Nat, l < 4 → k < 4 → p = nI l → q = nI k → post 1 (yf_lines, yf_known, yf_wrong, yf_place, yf_blocks, yf_steps, yf_dropped, yf_on, yf_next, yf_again, yf_depth, ya_ops, ya_as, ya_bs, ya_cs, ya_blockOf, ya_opener, ya_around, ya_other, ya_end, ya_open, ya_varied, ya_loose, ya_variedVariable, ya_stands, ya_number, ya_isConst, ya_needed, in_val ya_inputs l k v 4, ya_values, ya_variables, ya_cells, ya_outs, ya_was, ya_rest, ya_line)) : wpY_input post (yf_lines, yf_known, yf_wrong, yf_place, yf_blocks, yf_steps, yf_dropped, yf_on, yf_next, yf_again, yf_depth, ya_ops, ya_as, ya_bs, ya_cs, ya_blockOf, ya_opener, ya_around, ya_other, ya_end, ya_open, ya_varied, ya_loose, ya_variedVariable, ya_stands, ya_number, ya_isConst, ya_needed, ya_inputs, ya_values, ya_variables, ya_cells, ya_outs, ya_was, ya_rest, ya_line) p q v := by
  refine br_c (fun h => hb (Or.inl (Or.inl h))) (fun h0 => br_c (fun h => hb (Or.inl (Or.inr ((ez_34 _).mp h)))) (fun h3 => br_c (fun h => hb (Or.inr (Or.inl h))) (fun k0 => br_c (fun k3 => ?_) (fun h => hb (Or.inr (Or.inr ((ez_34 _).mp (Int32.not_le.mp h))))))))
  rcases ez_4 p with h | ⟨l, hl, rfl⟩
  · exact hb (Or.inl h) |> fun z => absurd h (by rw [← ez_34]; exact fun h => h.elim h0 h3)
  rcases ez_4 q with h | ⟨k, hk, rfl⟩
  · exact absurd h (by rw [← ez_34]; exact fun h => h.elim k0 (Int32.not_lt.mpr k3))
  exact ⟨5, in_Y23 hl hk v (hg l k hl hk rfl rfl) 4 0 rfl⟩
/-- out and kept -/
theorem ou_X {post : Int32 → Prop} (p q : Int32) (hb : ((p < 0 ∨ 4 ≤ p) ∨ (q < 0 ∨ 4 ≤ q)) → post 0) (hg : ∀ l k : Nat, l < 4 → k < 4 → p = nI l → q = nI k → post (a_outputs (l * 4 + k))) : wpX_out post (f_lines, f_studied, f_wrong, f_wrongAt, f_brief, f_on, f_dropped, f_steps, f_nextLine, f_repeats, a_kinds, a_firsts, a_seconds, a_thirds, a_inputs, a_home, a_depth, a_closer, a_mate, a_operands, a_varies, a_parted, a_variableVaries, a_same, a_fixed, a_worth, a_needed, a_variableNeeded, a_values, a_variables, a_outputs, a_cells, a_whole, a_waiting) p q := by
  unfold wpX_out
  refine ez_four (fun h => br_t rfl (hb (Or.inl h))) (fun l hl el => br_f (by decide) ?_)
  refine ez_four (fun h => br_t rfl (hb (Or.inr h))) (fun k hk ek => br_f (by decide) ?_)
  subst el ek
  have e4 : nI l * 4 + nI k = nI (l * 4 + k) := by
    rw [show (4 : Int32) = nI 4 from rfl, pk_mul, nI_add]
  rw [e4, nI_clamp (by omega)]
  exact ⟨vp_in_nI (by omega) (by omega), hg l k hl hk rfl rfl⟩
theorem ou_Y {post : Int32 → Prop} (p q : Int32) (hb : ((p < 0 ∨ 4 ≤ p) ∨ (q < 0 ∨ 4 ≤ q)) → post 0) (hg : ∀ l k : Nat, l < 4 → k < 4 → p = nI l → q = nI k → post (ya_outs (4 * k + l))) : wpY_out post (yf_lines, yf_known, yf_wrong, yf_place, yf_blocks, yf_steps, yf_dropped, yf_on, yf_next, yf_again, yf_depth, ya_ops, ya_as, ya_bs, ya_cs, ya_blockOf, ya_opener, ya_around, ya_other, ya_end, ya_open, ya_varied, ya_loose, ya_variedVariable, ya_stands, ya_number, ya_isConst, ya_needed, ya_inputs, ya_values, ya_variables, ya_cells, ya_outs, ya_was, ya_rest, ya_line) p q := by
  refine br_c (fun h => hb (Or.inl (Or.inl h))) (fun h0 => br_c (fun h => hb (Or.inl (Or.inr ((ez_34 _).mp h)))) (fun h3 => br_c (fun h => hb (Or.inr (Or.inl h))) (fun k0 => br_c (fun k3 => ?_) (fun h => hb (Or.inr (Or.inr ((ez_34 _).mp (Int32.not_le.mp h))))))))
  rcases ez_4 p with h | ⟨l, hl, rfl⟩
  · exact absurd h (by rw [← ez_34]; exact fun h => h.elim h0 h3)
  rcases ez_4 q with h | ⟨k, hk, rfl⟩
  · exact absurd h (by rw [← ez_34]; exact fun h => h.elim k0 (Int32.not_lt.mpr k3))
  have e4 : 4 * nI k + nI l = nI (4 * k + l) := by
    rw [show (4 : Int32) = nI 4 from rfl, pk_mul, nI_add]
  rw [e4, nI_clamp (by omega)]
  exact ⟨vp_in_nI (by omega) (by omega), hg l k hl hk rfl rfl⟩
theorem ke_X {post : Int32 → Prop} (p q : Int32) (hb : ((p < 0 ∨ 4 ≤ p) ∨ (q < 0 ∨ 8 ≤ q)) → post 0) (hg : ∀ l k : Nat, l < 4 → k < 4 → p = nI l → q = nI k → post (a_variables (l * 4 + k))) (hc : ∀ l k : Nat, l < 4 → k < 4 → p = nI l → q = nI (4 + k) → post (a_cells k)) : wpX_kept post (f_lines, f_studied, f_wrong, f_wrongAt, f_brief, f_on, f_dropped, f_steps, f_nextLine, f_repeats, a_kinds, a_firsts, a_seconds, a_thirds, a_inputs, a_home, a_depth, a_closer, a_mate, a_operands, a_varies, a_parted, a_variableVaries, a_same, a_fixed, a_worth, a_needed, a_variableNeeded, a_values, a_variables, a_outputs, a_cells, a_whole, a_waiting) p q := by
  unfold wpX_kept
  refine ez_four (fun h => br_t rfl (hb (Or.inl h))) (fun l hl el => br_f (by decide) ?_)
  refine ez_four (fun h => br_t rfl ?_) (fun k hk ek => br_f (by decide) ?_)
  · rcases h with h | h
    · exact br_c (fun _ => hb (Or.inr (Or.inl h))) (fun h' => absurd (Int32.lt_trans h (by decide)) h')
    · refine br_f (Int32.not_lt.mpr h) (br_c (fun h8 => hb (Or.inr (Or.inr h8))) (fun h8 => ?_))
      rcases pk_ix q (n := 8) (by omega) with z | z | ⟨j, hj, rfl⟩
      · exact absurd (Int32.lt_of_lt_of_le z (by decide : (0 : Int32) ≤ 4)) (Int32.not_lt.mpr h)
      · exact absurd z h8
      · rw [show (4 : Int32) = nI 4 from rfl, nI_leI (by omega) (by omega)] at h
        obtain ⟨k, rfl⟩ : ∃ k, j = 4 + k := ⟨j - 4, by omega⟩
        have e : nI (4 + k) - 4 = nI k := by
          rw [show (4 : Int32) = nI 4 from rfl, pk_sub (by omega)]; congr 1; omega
        rw [e, nI_clamp (by omega)]
        exact ⟨vp_in_nI (by omega) (by omega), hc l k hl (by omega) el rfl⟩
  · subst el ek
    have e4 : nI l * 4 + nI k = nI (l * 4 + k) := by
      rw [show (4 : Int32) = nI 4 from rfl, pk_mul, nI_add]
    rw [e4, nI_clamp (by omega)]
    exact ⟨vp_in_nI (by omega) (by omega), hg l k hl hk rfl rfl⟩
theorem ke_Y {post : Int32 → Prop} (p q : Int32) (hb : ((p < 0 ∨ 4 ≤ p) ∨ (q < 0 ∨ 8 ≤ q)) → post 0) (hg : ∀ l k : Nat, l < 4 → k < 4 → p = nI l → q = nI k → post (ya_variables (4 * k + l))) (hc : ∀ l k : Nat, l < 4 → k < 4 → p = nI l → q = nI (4 + k) → post (ya_cells k)) : wpY_kept post (yf_lines, yf_known, yf_wrong, yf_place, yf_blocks, yf_steps, yf_dropped, yf_on, yf_next, yf_again, yf_depth, ya_ops, ya_as, ya_bs, ya_cs, ya_blockOf, ya_opener, ya_around, ya_other, ya_end, ya_open, ya_varied, ya_loose, ya_variedVariable, ya_stands, ya_number, ya_isConst, ya_needed, ya_inputs, ya_values, ya_variables, ya_cells, ya_outs, ya_was, ya_rest, ya_line) p q := by
  refine br_c (fun h => hb (Or.inl (Or.inl h))) (fun h0 => br_c (fun h => hb (Or.inl (Or.inr ((ez_34 _).mp h)))) (fun h3 => br_c (fun h => hb (Or.inr (Or.inl h))) (fun k0 => br_c (fun k7 => ?_) (fun h => hb (Or.inr (Or.inr ((ez_78 _).mp (Int32.not_le.mp h))))))))
  rcases ez_4 p with h | ⟨l, hl, el⟩
  · exact absurd h (by rw [← ez_34]; exact fun h => h.elim h0 h3)
  rcases pk_ix q (n := 8) (by omega) with z | z | ⟨j, hj, rfl⟩
  · exact absurd z k0
  · exact absurd ((ez_78 _).mpr z) (Int32.not_lt.mpr k7)
  refine pk_le 4 j (fun h4 => ?_) (fun h4 => ?_)
  · obtain ⟨k, rfl⟩ : ∃ k, j = 4 + k := ⟨j - 4, by omega⟩
    have e : nI (4 + k) - 4 = nI k := by
      rw [show (4 : Int32) = nI 4 from rfl, pk_sub (by omega)]; congr 1; omega
    rw [e, nI_clamp (by omega)]
    exact ⟨vp_in_nI (by omega) (by omega), hc l k hl (by omega) el rfl⟩
  · subst el
    have e4 : 4 * nI j + nI l = nI (4 * j + l) := by
      rw [show (4 : Int32) = nI 4 from rfl, pk_mul, nI_add]
    rw [e4, nI_clamp (by omega)]
    exact ⟨vp_in_nI (by omega) (by omega), hg l j hl h4 rfl rfl⟩
/-- state: each side reads one of five fields -/
theorem sa_X {post : Int32 → Prop} (p : Int32) (hb : (p < 0 ∨ 4 < p) → post (-1)) (h0 : p = 0 → post f_steps) (h1 : p = 1 → post f_dropped) (h2 : p = 2 → post f_on) (h3 : p = 3 → post f_nextLine) (h4 : p = 4 → post f_repeats) : wpX_state post (f_lines, f_studied, f_wrong, f_wrongAt, f_brief, f_on, f_dropped, f_steps, f_nextLine, f_repeats, a_kinds, a_firsts, a_seconds, a_thirds, a_inputs, a_home, a_depth, a_closer, a_mate, a_operands, a_varies, a_parted, a_variableVaries, a_same, a_fixed, a_worth, a_needed, a_variableNeeded, a_values, a_variables, a_outputs, a_cells, a_whole, a_waiting) p :=
  br_c (fun h => hb (Or.inl h)) (fun _ => br_c (fun h => hb (Or.inr h)) (fun _ => br_c h0 (fun _ => br_c h1 (fun _ => br_c h2 (fun _ => br_c h3 (fun _ => br_c h4 (fun _ => trivial)))))))
theorem sa_Y {post : Int32 → Prop} (p : Int32) (hb : (p < 0 ∨ 4 < p) → post (-1)) (h0 : p = 0 → post yf_steps) (h1 : p = 1 → post yf_dropped) (h2 : p = 2 → post yf_on) (h3 : p = 3 → post yf_next) (h4 : p = 4 → post yf_again) : wpY_state post (yf_lines, yf_known, yf_wrong, yf_place, yf_blocks, yf_steps, yf_dropped, yf_on, yf_next, yf_again, yf_depth, ya_ops, ya_as, ya_bs, ya_cs, ya_blockOf, ya_opener, ya_around, ya_other, ya_end, ya_open, ya_varied, ya_loose, ya_variedVariable, ya_stands, ya_number, ya_isConst, ya_needed, ya_inputs, ya_values, ya_variables, ya_cells, ya_outs, ya_was, ya_rest, ya_line) p :=
  br_c (fun h => hb (Or.inl h)) (fun _ => br_c (fun h => hb (Or.inr h)) (fun _ => br_c h0 (fun _ => br_c h1 (fun _ => br_c h2 (fun _ => br_c h3 (fun _ => br_c h4 (fun _ => trivial)))))))
end
