section
theorem mk_an : ∀ a, a < 16 → ∀ b, b < 16 → nI a &&& (nI b ^^^ (-1)) = nI (a &&& (15 ^^^ b)) := by decide +kernel
theorem mk_and : ∀ a, a < 16 → ∀ b, b < 16 → nI a &&& nI b = nI (a &&& b) := by decide +kernel
theorem mk_or : ∀ a, a < 16 → ∀ b, b < 16 → nI a ||| nI b = nI (a ||| b) := by decide +kernel
theorem mk_lt : ∀ a, a < 16 → ∀ b, b < 16 → a &&& (15 ^^^ b) < 16 ∧ a &&& b < 16 ∧ a ||| b < 16 := by decide +kernel
theorem mk_bit : ∀ a, a < 16 → ∀ l, l < 4 → (((nI a >>> (nI l &&& 31)) &&& 1 = 0 ↔ a.testBit l = false) ∧ ((nI a >>> (nI l &&& 31)) &&& 1 = 1 ↔ a.testBit l = true)) := by decide +kernel
theorem mk_set : ∀ a, a < 16 → ∀ l, l < 4 → nI a ||| ((1 : Int32) <<< (nI l &&& 31)) = nI (a ||| 2 ^ l) ∧ a ||| 2 ^ l < 16 := by decide +kernel
theorem mk_setb : ∀ a, a < 16 → ∀ l, l < 4 → ∀ q, q < 4 → (a ||| 2 ^ l).testBit q = (a.testBit q || decide (q = l)) := by decide +kernel
theorem mk_anb : ∀ a, a < 16 → ∀ b, b < 16 → ∀ l, l < 4 → (a &&& (15 ^^^ b)).testBit l = (a.testBit l && !b.testBit l) := by decide +kernel
theorem mk_ext : ∀ a, a < 16 → ∀ b, b < 16 → (∀ l, l < 4 → a.testBit l = b.testBit l) → a = b := by decide +kernel
theorem mk_zero : ∀ a, a < 16 → (∀ l, l < 4 → a.testBit l = false) → a = 0 := by decide +kernel
theorem mk_aa : ∀ a, a < 16 → ∀ b, b < 16 → a &&& (15 ^^^ (a &&& b)) = a &&& (15 ^^^ b) := by decide +kernel
theorem mk_a0 : ∀ a, a < 16 → ∀ b, b < 16 → a &&& b = 0 → a &&& (15 ^^^ b) = a := by decide +kernel
theorem mk_ne : ∀ a, a < 16 → (nI a = 0 ↔ a = 0) := by decide +kernel
theorem mk_pos : ∀ a, a < 16 → ¬ nI a < 0 := by decide +kernel
/-- the rows of masks: X's and Y's, and Y's lines -/
def st_R (K : Nat → Nat) (wh ws ln : Nat → Int32) : List (Nat × Nat) → Prop
  | [] => True
  | f :: r => ln r.length = nI f.2 ∧ ws r.length = wh r.length ∧ (∃ w, w < 16 ∧ wh r.length = nI w) ∧ (K f.2 = 22 → wh r.length ≠ 0) ∧ (wh r.length = 0 → ∃ g, g ∈ r ∧ K g.2 = 22) ∧ st_R K wh ws ln r
/-- those that wait for an ELSE -/
def st_W (K : Nat → Nat) (wt rs : Nat → Int32) : List (Nat × Nat) → Prop
  | [] => True
  | f :: r => (K f.2 = 19 → f.1 = f.2 + 1 → rs r.length = wt r.length ∧ ∃ w, w < 16 ∧ wt r.length = nI w) ∧ st_W K wt rs r
theorem st_R_upd {K : Nat → Nat} {wh ws ln : Nat → Int32} {x y z : Int32} : ∀ (l : List (Nat × Nat)) (k : Nat), l.length ≤ k → st_R K wh ws ln l → st_R K (upd wh k x) (upd ws k y) (upd ln k z) l := by
  intro l
  induction l with
  | nil => intro k _ _; trivial
  | cons f r ih =>
    intro k hk h
    simp only [List.length_cons] at hk
    obtain ⟨h1, h2, h3, h4, h5, h6⟩ := h
    unfold st_R
    rw [pk_un (by omega), pk_un (by omega), pk_un (by omega)]
    exact ⟨h1, h2, h3, h4, h5, ih k (by omega) h6⟩
theorem st_W_upd {K : Nat → Nat} {wt rs : Nat → Int32} {x y : Int32} : ∀ (l : List (Nat × Nat)) (k : Nat), l.length ≤ k → st_W K wt rs l → st_W K (upd wt k x) (upd rs k y) l := by
  intro l
  induction l with
  | nil => intro k _ _; trivial
  | cons f r ih =>
    intro k hk h
    simp only [List.length_cons] at hk
    obtain ⟨h1, h2⟩ := h
    unfold st_W
    rw [pk_un (by omega), pk_un (by omega)]
    exact ⟨h1, ih k (by omega) h2⟩
theorem st_W_updY {K : Nat → Nat} {wt rs : Nat → Int32} {y : Int32} : ∀ (l : List (Nat × Nat)) (k : Nat), l.length ≤ k → st_W K wt rs l → st_W K wt (upd rs k y) l := by
  intro l
  induction l with
  | nil => intro k _ _; trivial
  | cons f r ih =>
    intro k hk h
    simp only [List.length_cons] at hk
    obtain ⟨h1, h2⟩ := h
    unfold st_W
    rw [pk_un (by omega)]
    exact ⟨h1, ih k (by omega) h2⟩
/-- what does not change in a run -/
def rn_stat (K : Nat → Nat) (n : Nat) (T : Nat → Nat × Bool × Int32) (br : Int32) (f_lines f_brief : Int32) (a_kinds a_firsts a_seconds a_thirds a_inputs a_home a_depth a_closer a_mate a_operands a_same a_fixed a_worth a_needed : Nat → Int32) (yf_lines : Int32) (ya_ops ya_as ya_bs ya_cs ya_blockOf ya_opener ya_around ya_other ya_end ya_stands ya_number ya_isConst ya_needed ya_inputs : Nat → Int32) : Prop :=
  pg_W K n a_kinds a_firsts ∧ sc_ok K a_firsts a_seconds a_thirds n ∧ sc_fr K n = [] ∧ xs_A K a_firsts a_seconds a_thirds n a_home a_depth a_closer a_mate a_operands ∧ a_closer 0 = nI n ∧ ys_A K n ya_blockOf ya_opener ya_around ya_other ya_end ∧
    (ya_ops = a_kinds ∧ ya_as = a_firsts ∧ ya_bs = a_seconds ∧ ya_cs = a_thirds ∧ ya_inputs = a_inputs) ∧ (sh_R T n a_same a_fixed a_worth ∧ sh_R T n ya_stands ya_isConst ya_number ∧ (∀ j, j < n → sh_good T j) ∧ ∀ j, j < n → (T j).2.1 = true → K j ≤ 16) ∧
    (∀ i, i < n → (a_needed i ≠ 0 ↔ ya_needed i ≠ 0 ∧ (T i).2.1 = false)) ∧ (∀ i, i < n → a_needed i ≠ 0 → (T i).1 = i) ∧ (∀ i, i < n → 16 ≤ K i ∧ K i ≠ 17 → a_needed i ≠ 0) ∧
    f_brief = br ∧ (br = 0 ∨ br = 1) ∧ f_lines = nI n ∧ yf_lines = nI n
def rn_ST (K : Nat → Nat) (n : Nat) (T : Nat → Nat × Bool × Int32) (br : Int32) (u : SX) (v : SY) : Prop := match u, v with
  | (f_lines, f_studied, f_wrong, f_wrongAt, f_brief, f_on, f_dropped, f_steps, f_nextLine, f_repeats, a_kinds, a_firsts, a_seconds, a_thirds, a_inputs, a_home, a_depth, a_closer, a_mate, a_operands, a_varies, a_parted, a_variableVaries, a_same, a_fixed, a_worth, a_needed, a_variableNeeded, a_values, a_variables, a_outputs, a_cells, a_whole, a_waiting), (yf_lines, yf_known, yf_wrong, yf_place, yf_blocks, yf_steps, yf_dropped, yf_on, yf_next, yf_again, yf_depth, ya_ops, ya_as, ya_bs, ya_cs, ya_blockOf, ya_opener, ya_around, ya_other, ya_end, ya_open, ya_varied, ya_loose, ya_variedVariable, ya_stands, ya_number, ya_isConst, ya_needed, ya_inputs, ya_values, ya_variables, ya_cells, ya_outs, ya_was, ya_rest, ya_line) => rn_stat K n T br f_lines f_brief a_kinds a_firsts a_seconds a_thirds a_inputs a_home a_depth a_closer a_mate a_operands a_same a_fixed a_worth a_needed yf_lines ya_ops ya_as ya_bs ya_cs ya_blockOf ya_opener ya_around ya_other ya_end ya_stands ya_number ya_isConst ya_needed ya_inputs
/-- what the run tells -/
def rn_dyn (u : SX) (v : SY) : Prop := match u, v with
  | (f_lines, f_studied, f_wrong, f_wrongAt, f_brief, f_on, f_dropped, f_steps, f_nextLine, f_repeats, a_kinds, a_firsts, a_seconds, a_thirds, a_inputs, a_home, a_depth, a_closer, a_mate, a_operands, a_varies, a_parted, a_variableVaries, a_same, a_fixed, a_worth, a_needed, a_variableNeeded, a_values, a_variables, a_outputs, a_cells, a_whole, a_waiting), (yf_lines, yf_known, yf_wrong, yf_place, yf_blocks, yf_steps, yf_dropped, yf_on, yf_next, yf_again, yf_depth, ya_ops, ya_as, ya_bs, ya_cs, ya_blockOf, ya_opener, ya_around, ya_other, ya_end, ya_open, ya_varied, ya_loose, ya_variedVariable, ya_stands, ya_number, ya_isConst, ya_needed, ya_inputs, ya_values, ya_variables, ya_cells, ya_outs, ya_was, ya_rest, ya_line) => yf_dropped = f_dropped ∧ (∃ w, w < 16 ∧ f_dropped = nI w) ∧ yf_steps = f_steps ∧ yf_again = f_repeats ∧ (∀ q, q < 192 → a_values q = ya_values q) ∧
    (∀ l, l < 4 → ∀ k, k < 4 → a_variables (l * 4 + k) = ya_variables (4 * k + l)) ∧ (∀ l, l < 4 → ∀ k, k < 4 → a_outputs (l * 4 + k) = ya_outs (4 * k + l)) ∧ (∀ k, k < 4 → a_cells k = ya_cells k)
/-- ahead of line i: both alike, or X stands with none at an END whose part was left out -/
def rn_pos (K : Nat → Nat) (n i : Nat) (u : SX) (v : SY) : Prop := match u, v with
  | (f_lines, f_studied, f_wrong, f_wrongAt, f_brief, f_on, f_dropped, f_steps, f_nextLine, f_repeats, a_kinds, a_firsts, a_seconds, a_thirds, a_inputs, a_home, a_depth, a_closer, a_mate, a_operands, a_varies, a_parted, a_variableVaries, a_same, a_fixed, a_worth, a_needed, a_variableNeeded, a_values, a_variables, a_outputs, a_cells, a_whole, a_waiting), (yf_lines, yf_known, yf_wrong, yf_place, yf_blocks, yf_steps, yf_dropped, yf_on, yf_next, yf_again, yf_depth, ya_ops, ya_as, ya_bs, ya_cs, ya_blockOf, ya_opener, ya_around, ya_other, ya_end, ya_open, ya_varied, ya_loose, ya_variedVariable, ya_stands, ya_number, ya_isConst, ya_needed, ya_inputs, ya_values, ya_variables, ya_cells, ya_outs, ya_was, ya_rest, ya_line) => i ≤ n ∧ yf_next = nI i ∧ yf_depth = nI (sc_fr K i).length ∧ st_R K a_whole ya_was ya_line (sc_fr K i) ∧ (∃ w, w < 16 ∧ f_on = nI w) ∧
    ((yf_on = f_on ∧ (f_on = 0 → sc_fr K i ≠ []) ∧ st_W K a_waiting ya_rest (sc_fr K i)) ∨ (i < n ∧ K i = 21 ∧ f_on = 0 ∧ yf_on ≠ 0 ∧ st_W K a_waiting ya_rest (sc_fr K i).tail))
end
section
variable {K : Nat → Nat} {n : Nat}
/-- structure of a block's end -/
theorem rn_close {b m i : Nat} {r : List (Nat × Nat)} (hg : sc_good K n) (h0 : sc_fr K n = []) (hi : i ≤ n) (e : sc_fr K i = (b, m) :: r) : ∃ q, i ≤ q ∧ q < n ∧ (K q = 20 ∨ K q = 21 ∨ K q = 23) ∧ sc_fr K q = (b, m) :: r ∧ sc_mt K q = m := by
  obtain ⟨q, r', hq, hqn, hc, e'⟩ := sc_ends hg h0 (n - i) i (by omega) (show (b, m) ∈ sc_fr K i by rw [e]; exact List.mem_cons_self ..)
  have T := sc_top i (sc_good_le hg hi) _ _ _ e
  have T' := sc_top q (sc_good_le hg (by omega)) _ _ _ e'
  have : r' = r := by rw [← T.2.2.2.2.2.1, ← T'.2.2.2.2.2.1]
  subst this
  exact ⟨q, hq, hqn, hc, e', by rw [sc_mt_cl hc, e']; rfl⟩
/-- which line that is, by Y's marks -/
theorem rn_closeY {b m i q : Nat} {r : List (Nat × Nat)} {blockOf opener around other end_ : Nat → Int32} (hg : sc_good K n) (hi : i ≤ n) (e : sc_fr K i = (b, m) :: r) (hiq : i ≤ q) (hq : q < n) (hc : K q = 20 ∨ K q = 21 ∨ K q = 23) (eq : sc_fr K q = (b, m) :: r) (em : sc_mt K q = m) (hA : ys_A K n blockOf opener around other end_) :
    (K m = 22 → K q = 23 ∧ end_ m = nI q) ∧ (K m = 19 → b ≠ m + 1 → K q = 21 ∧ end_ m = nI q ∧ other m = nI (b - 1)) ∧ (K m = 19 → b = m + 1 → (K q = 20 ∧ other m = nI q) ∨ (K q = 21 ∧ other m = -1 ∧ end_ m = nI q)) := by
  have T := sc_top i (sc_good_le hg hi) _ _ _ e
  have tb1 := T.1
  have tb2 := T.2.1
  have fq := hg q hq
  have aq := hA q hq
  rw [em] at aq
  have k21 : K q = 21 → K m = 19 := fun h => by
    obtain ⟨b', m', r', e', km⟩ := fq.2.2.1 h
    rw [eq] at e'; simp only [List.cons.injEq, Prod.mk.injEq] at e'
    rw [e'.1.2]; exact km
  have k23 : K q = 23 → K m = 22 := fun h => by
    obtain ⟨b', m', r', e', km⟩ := fq.2.2.2.1 h
    rw [eq] at e'; simp only [List.cons.injEq, Prod.mk.injEq] at e'
    rw [e'.1.2]; exact km
  have k20 : K q = 20 → b = m + 1 ∧ K m = 19 := fun h => by
    obtain ⟨m', r', e', km⟩ := fq.2.1 h
    rw [eq] at e'; simp only [List.cons.injEq, Prod.mk.injEq] at e'
    exact ⟨by rw [e'.1.1, e'.1.2], by rw [e'.1.2]; exact km⟩
  refine ⟨fun h22 => ?_, fun h19 hb => ?_, fun h19 hb => ?_⟩
  · have : K q = 23 := by
      rcases hc with h | h | h
      · have := (k20 h).2; omega
      · have := k21 h; omega
      · exact h
    exact ⟨this, aq.2.2.2.2 (Or.inr this)⟩
  · have : K q = 21 := by
      rcases hc with h | h | h
      · exact absurd (k20 h).1 hb
      · exact h
      · have := k23 h; omega
    refine ⟨this, aq.2.2.2.2 (Or.inl this), ?_⟩
    rcases T.2.2.2.1 with ⟨h, _⟩ | ⟨h, _, _⟩
    · exact absurd h hb
    · have := (hA (b - 1) (by omega)).2.2.1 h
      rw [T.2.2.2.2.2.2.1] at this
      exact this
  · rcases hc with h | h | h
    · exact Or.inl ⟨h, aq.2.2.1 h⟩
    · refine Or.inr ⟨h, (hA m (by have := T.2.2.1; omega)).2.2.2.1 (Or.inl h19) (fun c hcn k20c => ?_), aq.2.2.2.2 (Or.inl h)⟩
      intro emc
      -- an ELSE of m would have closed block m + 1
      obtain ⟨m', r', e', km⟩ := (hg c hcn).2.1 k20c
      have : m' = m := by rw [← emc, sc_mt_cl (Or.inl k20c), e']; rfl
      subst this
      subst hb
      have := sc_uniqE hg hcn hq (b := m' + 1) ⟨Or.inl k20c, _, _, e'⟩ ⟨Or.inr (Or.inl h), _, _, eq⟩
      rw [this] at k20c; omega
    · have := k23 h; omega
end
