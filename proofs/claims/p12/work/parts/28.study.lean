section
/-- a program as both sides hold it -/
def pg_W (K : Nat → Nat) (n : Nat) (kinds A : Nat → Int32) : Prop :=
  n ≤ 48 ∧ (∀ j, j < n → kinds j = nI (K j) ∧ K j ≤ 25) ∧ (∀ j, j < n → (K j = 1 ∨ K j = 11 ∨ K j = 16 ∨ K j = 17 ∨ K j = 18) → ∃ a, a < 4 ∧ A j = nI a)
/-- something is wrong of 1 to 3 -/
def pg_bad (K : Nat → Nat) (n : Nat) (A B C : Nat → Int32) (w p : Int32) : Prop :=
  (∃ i c, i < n ∧ sc_ok K A B C i ∧ sc_ck K A B C i c ∧ c ≠ 0 ∧ c < 4 ∧ w = nI c ∧ p = nI i) ∨ (sc_ok K A B C n ∧ sc_fr K n ≠ [] ∧ w = 1 ∧ p = nI n)
/-- the fourth sort, or nothing -/
def pg_4 (K : Nat → Nat) (n : Nat) (L : Nat → Prop) (w p : Int32) : Prop :=
  (∃ i, i < n ∧ xv_w4 K L i ∧ (∀ j, j < i → ¬ xv_w4 K L j) ∧ w = 4 ∧ p = nI i) ∨ ((∀ j, j < n → ¬ xv_w4 K L j) ∧ w = 0 ∧ p = -1)
def pg_X (K : Nat → Nat) (n : Nat) (A B C : Nat → Int32) (w p : Int32) (home depth closer mate operands va pa vv same fixed worth nd : Nat → Int32) : Prop :=
  sc_ok K A B C n ∧ sc_fr K n = [] ∧ xs_A K A B C n home depth closer mate operands ∧ closer 0 = nI n ∧ vr_least K A B C n (xv_V va) (xv_V pa) (xv_V vv) ∧ pg_4 K n (xv_V pa) w p ∧
  ∃ T, sh_R T n same fixed worth ∧ (∀ j, j < n → sh_good T j) ∧ (∀ j, j < n → sh_line K A B C T j (T j)) ∧ nd_least K A B C T n (fun j => nd j ≠ 0)
def pg_Y (K : Nat → Nat) (n : Nat) (A B C : Nat → Int32) (w p : Int32) (blockOf opener around other end_ va lo vv stands isc num nd : Nat → Int32) : Prop :=
  sc_ok K A B C n ∧ sc_fr K n = [] ∧ ys_A K n blockOf opener around other end_ ∧ vr_least K A B C n (xv_V va) (yv_L K lo) (xv_V vv) ∧ pg_4 K n (yv_L K lo) w p ∧
  ∃ T, sh_R T n stands isc num ∧ (∀ j, j < n → sh_good T j) ∧ (∀ j, j < n → sh_line K A B C T j (T j)) ∧ nd_least K A B C T n (fun j => nd j ≠ 0 ∧ (T j).2.1 = false)
end
section
variable {K : Nat → Nat} {n : Nat}
variable {f_lines f_studied f_wrong f_wrongAt f_brief f_on f_dropped f_steps f_nextLine f_repeats : Int32} {a_kinds a_firsts a_seconds a_thirds a_inputs a_home a_depth a_closer a_mate a_operands a_varies a_parted a_variableVaries a_same a_fixed a_worth a_needed a_variableNeeded a_values a_variables a_outputs a_cells a_whole a_waiting : Nat → Int32}
theorem pg_xvP (hW : pg_W K n a_kinds a_firsts) (hok : sc_ok K a_firsts a_seconds a_thirds n) (hA : xs_A K a_firsts a_seconds a_thirds n a_home a_depth a_closer a_mate a_operands) : xv_P K n a_kinds a_firsts a_seconds a_thirds a_home a_mate a_operands :=
  ⟨hW.1, hW.2.1, sc_ok_good hok, hW.2.2, fun j hj => (sc_ck0 (hok j hj)).2.1, fun j hj => ⟨(hA j hj).1, (hA j hj).2.2.1⟩, fun j hj => (hA j hj).2.2.2.2⟩
theorem pg_study (hW : pg_W K n a_kinds a_firsts) {post : SX → Prop}
    (hbad : ∀ w p home depth closer mate operands, pg_bad K n a_firsts a_seconds a_thirds w p → post (nI n, 1, w, p, f_brief, f_on, f_dropped, f_steps, f_nextLine, f_repeats, a_kinds, a_firsts, a_seconds, a_thirds, a_inputs, home, depth, closer, mate, operands, a_varies, a_parted, a_variableVaries, a_same, a_fixed, a_worth, a_needed, a_variableNeeded, a_values, a_variables, a_outputs, a_cells, a_whole, a_waiting))
    (hgood : ∀ w p home depth closer mate operands va pa vv same fixed worth nd vn, pg_X K n a_firsts a_seconds a_thirds w p home depth closer mate operands va pa vv same fixed worth nd → post (nI n, 1, w, p, f_brief, f_on, f_dropped, f_steps, f_nextLine, f_repeats, a_kinds, a_firsts, a_seconds, a_thirds, a_inputs, home, depth, closer, mate, operands, va, pa, vv, same, fixed, worth, nd, vn, a_values, a_variables, a_outputs, a_cells, a_whole, a_waiting)) : wpX_study post (nI n, 0, f_wrong, f_wrongAt, f_brief, f_on, f_dropped, f_steps, f_nextLine, f_repeats, a_kinds, a_firsts, a_seconds, a_thirds, a_inputs, a_home, a_depth, a_closer, a_mate, a_operands, a_varies, a_parted, a_variableVaries, a_same, a_fixed, a_worth, a_needed, a_variableNeeded, a_values, a_variables, a_outputs, a_cells, a_whole, a_waiting) := by
  have hn := hW.1
  refine br_t rfl ?_
  refine xs_findWrong (K := K) (n := n) hn hW.2.1 (fun i c home depth closer mate operands hi hok hck h0 h4 => ?_) (fun home depth closer mate operands hok hfr => ?_) (fun home depth closer mate operands hok hfr hA hc0 => ?_)
  · exact br_f (nI_ne0 (by omega) (by omega)) (hbad _ _ _ _ _ _ _ (Or.inl ⟨i, c, hi, hok, hck, h0, h4, rfl, rfl⟩))
  · exact br_f (by decide) (hbad _ _ _ _ _ _ _ (Or.inr ⟨hok, hfr, rfl, rfl⟩))
  · refine br_t rfl ?_
    have hP : xv_P K n a_kinds a_firsts a_seconds a_thirds home mate operands := pg_xvP hW hok hA
    refine xv_findVaried (K := K) (n := n) hP (fun va pa vv hl hb => ?_)
    have tail : ∀ (w p : Int32), pg_4 K n (xv_V pa) w p → wpX_shortenLines (fun u => match u with | (f_lines, f_studied, f_wrong, f_wrongAt, f_brief, f_on, f_dropped, f_steps, f_nextLine, f_repeats, a_kinds, a_firsts, a_seconds, a_thirds, a_inputs, a_home, a_depth, a_closer, a_mate, a_operands, a_varies, a_parted, a_variableVaries, a_same, a_fixed, a_worth, a_needed, a_variableNeeded, a_values, a_variables, a_outputs, a_cells, a_whole, a_waiting) => (wpX_findNeeded (fun u => match u with | (f_lines, f_studied, f_wrong, f_wrongAt, f_brief, f_on, f_dropped, f_steps, f_nextLine, f_repeats, a_kinds, a_firsts, a_seconds, a_thirds, a_inputs, a_home, a_depth, a_closer, a_mate, a_operands, a_varies, a_parted, a_variableVaries, a_same, a_fixed, a_worth, a_needed, a_variableNeeded, a_values, a_variables, a_outputs, a_cells, a_whole, a_waiting) => (post (f_lines, f_studied, f_wrong, f_wrongAt, f_brief, f_on, f_dropped, f_steps, f_nextLine, f_repeats, a_kinds, a_firsts, a_seconds, a_thirds, a_inputs, a_home, a_depth, a_closer, a_mate, a_operands, a_varies, a_parted, a_variableVaries, a_same, a_fixed, a_worth, a_needed, a_variableNeeded, a_values, a_variables, a_outputs, a_cells, a_whole, a_waiting))) (f_lines, f_studied, f_wrong, f_wrongAt, f_brief, f_on, f_dropped, f_steps, f_nextLine, f_repeats, a_kinds, a_firsts, a_seconds, a_thirds, a_inputs, a_home, a_depth, a_closer, a_mate, a_operands, a_varies, a_parted, a_variableVaries, a_same, a_fixed, a_worth, a_needed, a_variableNeeded, a_values, a_variables, a_outputs, a_cells, a_whole, a_waiting))) (nI n, 1, w, p, f_brief, f_on, f_dropped, f_steps, f_nextLine, f_repeats, a_kinds, a_firsts, a_seconds, a_thirds, a_inputs, home, depth, closer, mate, operands, va, pa, vv, a_same, a_fixed, a_worth, a_needed, a_variableNeeded, a_values, a_variables, a_outputs, a_cells, a_whole, a_waiting) := fun w p h4 =>
      sx_shorten (K := K) (n := n) hP (fun T same fixed worth hR hg hln => nx_need (K := K) (n := n) (T := T) hP hR hg (fun nd vn hnd => hgood _ _ _ _ _ _ _ _ _ _ _ _ _ _ _ ⟨hok, hfr, hA, hc0, hl, h4, T, hR, hg, hln, hnd⟩))
    refine xv_diff (K := K) (n := n) hn hW.2.1 (sc_ok_good hok) (fun j hj => (hA j hj).1) (fun i hi h4 hno => ?_) (fun hno => ?_)
    · exact tail 4 (nI i) (Or.inl ⟨i, hi, h4, hno, rfl, rfl⟩)
    · exact tail 0 (-1) (Or.inr ⟨hno, rfl, rfl⟩)
end
section
variable {K : Nat → Nat} {n : Nat}
variable {f_lines f_known f_wrong f_place f_blocks f_steps f_dropped f_on f_next f_again f_depth : Int32} {a_ops a_as a_bs a_cs a_blockOf a_opener a_around a_other a_end a_open a_varied a_loose a_variedVariable a_stands a_number a_isConst a_needed a_inputs a_values a_variables a_cells a_outs a_was a_rest a_line : Nat → Int32}
theorem pg_yvP (hW : pg_W K n a_ops a_as) (hok : sc_ok K a_as a_bs a_cs n) (hA : ys_A K n a_blockOf a_opener a_around a_other a_end) : yv_P K n a_ops a_as a_bs a_cs a_blockOf a_opener a_around :=
  ⟨hW.1, hW.2.1, sc_ok_good hok, hW.2.2, fun j hj => (sc_ck0 (hok j hj)).2.1, fun j hj => (hA j hj).1, fun j hj => (hA j hj).2.1⟩
theorem pg_look (hW : pg_W K n a_ops a_as) {post : SY → Prop}
    (hbad : ∀ w p bl blockOf opener around other end_ opn, pg_bad K n a_as a_bs a_cs w p → post (nI n, 1, w, p, bl, f_steps, f_dropped, f_on, f_next, f_again, f_depth, a_ops, a_as, a_bs, a_cs, blockOf, opener, around, other, end_, opn, a_varied, a_loose, a_variedVariable, a_stands, a_number, a_isConst, a_needed, a_inputs, a_values, a_variables, a_cells, a_outs, a_was, a_rest, a_line))
    (hgood : ∀ w p bl blockOf opener around other end_ opn va lo vv stands isc num nd, pg_Y K n a_as a_bs a_cs w p blockOf opener around other end_ va lo vv stands isc num nd → post (nI n, 1, w, p, bl, f_steps, f_dropped, f_on, f_next, f_again, f_depth, a_ops, a_as, a_bs, a_cs, blockOf, opener, around, other, end_, opn, va, lo, vv, stands, num, isc, nd, a_inputs, a_values, a_variables, a_cells, a_outs, a_was, a_rest, a_line)) : wpY_look post (nI n, 0, f_wrong, f_place, f_blocks, f_steps, f_dropped, f_on, f_next, f_again, f_depth, a_ops, a_as, a_bs, a_cs, a_blockOf, a_opener, a_around, a_other, a_end, a_open, a_varied, a_loose, a_variedVariable, a_stands, a_number, a_isConst, a_needed, a_inputs, a_values, a_variables, a_cells, a_outs, a_was, a_rest, a_line) := by
  have hn := hW.1
  refine yl_look (K := K) (n := n) hn hW.2.1 (fun i c bl blockOf opener around other end_ opn hi hok hck h0 h4 => hbad _ _ _ _ _ _ _ _ _ (Or.inl ⟨i, c, hi, hok, hck, h0, h4, rfl, rfl⟩)) (fun bl blockOf opener around other end_ opn hok hfr => hbad _ _ _ _ _ _ _ _ _ (Or.inr ⟨hok, hfr, rfl, rfl⟩)) (fun blockOf opener around other end_ opn hok hfr hA ha ho => ?_)
  have hP : yv_P K n a_ops a_as a_bs a_cs blockOf opener around := pg_yvP hW hok hA
  refine br_t (by decide) ?_
  refine yv_spread (K := K) (n := n) hP (fun va lo vv hl => ⟨n + 2, ?_⟩)
  have tail : ∀ (w p : Int32), pg_4 K n (yv_L K lo) w p → wY_look_565 post (nI n) 1 w p (nI (sc_cnt K n + 1)) f_steps f_dropped f_on f_next f_again f_depth a_ops a_as a_bs a_cs blockOf opener around other end_ opn va lo vv a_stands a_number a_isConst a_needed a_inputs a_values a_variables a_cells a_outs a_was a_rest a_line := fun w p h4 =>
    sy_shorten (K := K) (n := n) hP (fun T stands isc num nd hR hg hln hnd => hgood _ _ _ _ _ _ _ _ _ _ _ _ _ _ _ _ ⟨hok, hfr, hA, hl, h4, T, hR, hg, hln, hnd⟩)
  exact yv_495 (K := K) (n := n) hn hW.2.1 (sc_ok_good hok) (fun j hj => (hA j hj).1) (fun i hi h4 hno => tail 4 (nI i) (Or.inl ⟨i, hi, h4, hno, rfl, rfl⟩)) (fun hno => tail 0 (-1) (Or.inr ⟨hno, rfl, rfl⟩)) n 0 (by omega) (fun j hj => by omega)
end
section
variable {K : Nat → Nat} {n : Nat} {A B C : Nat → Int32}
theorem sc_ck_uniq {i c c' : Nat} (h : sc_ck K A B C i c) (h' : sc_ck K A B C i c') : c = c' := by
  rcases h with ⟨a, e⟩ | ⟨a, ⟨s, hs, hu, hv⟩, e⟩ | ⟨a, b, ⟨s, hs, hu, hv⟩, e⟩ | ⟨a, b, d, e⟩ <;>
  rcases h' with ⟨a', e'⟩ | ⟨a', ⟨s', hs', hu', hv'⟩, e'⟩ | ⟨a', b', ⟨s', hs', hu', hv'⟩, e'⟩ | ⟨a', b', d', e'⟩ <;>
  first
    | omega
    | exact absurd a' a
    | exact absurd a a'
    | exact absurd (b s' hs' hu') hv'
    | exact absurd (b' s hs hu) hv
    | exact absurd (d s' hs' hu') hv'
    | exact absurd (d' s hs hu) hv
theorem pg_bad_uniq {w p w' p' : Int32} (h : pg_bad K n A B C w p) (h' : pg_bad K n A B C w' p') : w = w' ∧ p = p' := by
  rcases h with ⟨i, c, hi, hok, hck, h0, h4, rfl, rfl⟩ | ⟨hok, hfr, rfl, rfl⟩ <;> rcases h' with ⟨i', c', hi', hok', hck', h0', h4', rfl, rfl⟩ | ⟨hok', hfr', rfl, rfl⟩
  · rcases Nat.lt_trichotomy i i' with l | l | l
    · exact absurd (sc_ck_uniq hck (hok' i l)) h0
    · subst l; rw [sc_ck_uniq hck hck']; exact ⟨rfl, rfl⟩
    · exact absurd (sc_ck_uniq hck' (hok i' l)) h0'
  · exact absurd (sc_ck_uniq hck (hok' i hi)) h0
  · exact absurd (sc_ck_uniq hck' (hok i' hi')) h0'
  · exact ⟨rfl, rfl⟩
theorem pg_bad_good {w p : Int32} (h : pg_bad K n A B C w p) (hok : sc_ok K A B C n) (hfr : sc_fr K n = []) : False := by
  rcases h with ⟨i, c, hi, _, hck, h0, _⟩ | ⟨_, h, _⟩
  · exact h0 (sc_ck_uniq hck (hok i hi))
  · exact h hfr
theorem pg_bad_w {w p : Int32} (h : pg_bad K n A B C w p) : ∃ c, c ≠ 0 ∧ c < 4 ∧ w = nI c := by
  rcases h with ⟨i, c, _, _, _, h0, h4, e, _⟩ | ⟨_, _, e, _⟩
  · exact ⟨c, h0, h4, e⟩
  · exact ⟨1, by omega, by omega, e⟩
theorem pg_4_uniq {L L' : Nat → Prop} {w p w' p' : Int32} (hg : sc_good K n) (hL : ∀ b, b ≤ n → (b = 0 ∨ sc_op (K (b - 1))) → (L b ↔ L' b)) (h : pg_4 K n L w p) (h' : pg_4 K n L' w' p') : w = w' ∧ p = p' := by
  have iff : ∀ j, j < n → (xv_w4 K L j ↔ xv_w4 K L' j) := fun j hj => by
    have gj : sc_good K (j + 1) := sc_good_le hg (by omega)
    have := hL _ (Nat.le_trans (sc_hdl_le gj) (by omega)) (sc_hdl_op gj)
    unfold xv_w4
    rw [this]
  rcases h with ⟨i, hi, h4, hno, rfl, rfl⟩ | ⟨hno, rfl, rfl⟩ <;> rcases h' with ⟨i', hi', h4', hno', rfl, rfl⟩ | ⟨hno', rfl, rfl⟩
  · rcases Nat.lt_trichotomy i i' with l | l | l
    · exact absurd ((iff i hi).mp h4) (hno' i l)
    · subst l; exact ⟨rfl, rfl⟩
    · exact absurd ((iff i' hi').mpr h4') (hno i' l)
  · exact absurd ((iff i hi).mp h4) (hno' i hi)
  · exact absurd ((iff i' hi').mpr h4') (hno i' hi')
  · exact ⟨rfl, rfl⟩
theorem nd_C_eq {T T' : Nat → Nat × Bool × Int32} {N : Nat → Prop} (hn : n < 2 ^ 31) (hov : ∀ j, j < n → ∀ s, s < 3 → sc_us (K j) s → sc_ov K A B C s j) (hg : ∀ j, j < n → (T j).1 ≤ j) (h : ∀ j, j < n → T j = T' j) (c : nd_C K A B C T n N) : nd_C K A B C T' n N := by
  intro i hi
  obtain ⟨a, b, d⟩ := c i hi
  refine ⟨a, b, fun ni s hs hu hc => ?_⟩
  have o := (sh_ov_lt (by omega) (hov i hi s hs hu)).1
  have g := hg _ (show sh_o A B C s i < n by omega)
  have e1 := h _ (show sh_o A B C s i < n by omega)
  have e2 := h _ (show (T (sh_o A B C s i)).1 < n by omega)
  have := d ni s hs hu
  rw [e2, e1] at this
  exact this hc
theorem nd_least_eq {T T' : Nat → Nat × Bool × Int32} {N : Nat → Prop} (hn : n < 2 ^ 31) (hov : ∀ j, j < n → ∀ s, s < 3 → sc_us (K j) s → sc_ov K A B C s j) (hg : ∀ j, j < n → (T j).1 ≤ j) (h : ∀ j, j < n → T j = T' j) (c : nd_least K A B C T n N) : nd_least K A B C T' n N :=
  ⟨nd_C_eq hn hov hg h c.1, fun N' hc => c.2 N' (nd_C_eq hn hov (fun j hj => by rw [← h j hj]; exact hg j hj) (fun j hj => (h j hj).symm) hc)⟩
/-- both sides together -/
theorem pg_join {w p w' p' : Int32} {home depth closer mate operands va pa vv same fixed worth nd blockOf opener around other end_ va' lo vv' stands isc num nd' : Nat → Int32} (hn : n ≤ 48)
    (hX : pg_X K n A B C w p home depth closer mate operands va pa vv same fixed worth nd) (hY : pg_Y K n A B C w' p' blockOf opener around other end_ va' lo vv' stands isc num nd') :
    (w = w' ∧ p = p') ∧ (∀ i, i < n → (va i ≠ 0 ↔ va' i ≠ 0)) ∧ (∀ b, b ≤ n → (b = 0 ∨ sc_op (K (b - 1))) → (pa b ≠ 0 ↔ lo (sc_cnt K b) ≠ 0)) ∧ (∀ v, v < 4 → (vv v ≠ 0 ↔ vv' v ≠ 0)) ∧
    ∃ T, sh_R T n same fixed worth ∧ sh_R T n stands isc num ∧ (∀ j, j < n → sh_good T j) ∧ (∀ j, j < n → sh_line K A B C T j (T j)) ∧ ∀ i, i < n → (nd i ≠ 0 ↔ nd' i ≠ 0 ∧ (T i).2.1 = false) := by
  obtain ⟨hok, hfr, hA, hc0, hl, h4, T, hR, hg, hln, hnd⟩ := hX
  obtain ⟨hok', hfr', hA', hl', h4', T', hR', hg', hln', hnd'⟩ := hY
  obtain ⟨u1, u2, u3⟩ := vr_uniq hl hl'
  have hov : ∀ j, j < n → ∀ s, s < 3 → sc_us (K j) s → sc_ov K A B C s j := fun j hj => (sc_ck0 (hok j hj)).2.1
  have eT : ∀ j, j < n → T j = T' j := sh_uniq (by omega) hov (fun j hj => (hg j hj).1) hln hln'
  have nd2 := nd_least_eq (by omega) hov (fun j hj => (hg' j hj).1) (fun j hj => (eT j hj).symm) hnd'
  refine ⟨pg_4_uniq (sc_ok_good hok) u2 h4 h4', u1, u2, u3, T, hR, fun j hj => by rw [eT j hj]; exact hR' j hj, hg, hln, fun i hi => ?_⟩
  have := nd_uniq hnd nd2 i hi
  rw [← eT i hi] at this
  exact this
end
