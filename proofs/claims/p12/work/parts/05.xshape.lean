section
theorem nb_m1 {b : Nat} (h : 1 ≤ b) : nI b - 1 = nI (b - 1) := by
  obtain ⟨c, rfl⟩ : ∃ c, b = c + 1 := ⟨b - 1, by omega⟩
  exact nI_pred c
theorem nb_34 {j s : Nat} : nI j * 3 + nI s = nI (3 * j + s) := by
  rw [show (3 : Int32) = nI 3 from rfl, pk_mul, nI_add, Nat.mul_comm]
theorem sc_hd_nil : sc_hd [] = 0 := rfl
theorem sc_hd_cons (b m : Nat) (r : List (Nat × Nat)) : sc_hd ((b, m) :: r) = b := rfl
/-- which slots hold an operand -/
def sc_us (k s : Nat) : Prop :=
  (s = 0 ∧ (3 ≤ k ∧ k ≤ 10 ∨ 12 ≤ k ∧ k ≤ 15 ∨ k = 19)) ∨ (s = 1 ∧ (3 ≤ k ∧ k ≤ 8 ∨ k = 10 ∨ 16 ≤ k ∧ k ≤ 18)) ∨ (s = 2 ∧ k = 10)
def sc_o3 (A B C : Nat → Int32) (s i : Nat) : Int32 := if s = 0 then A i else if s = 1 then B i else C i
/-- the blocks of a row of frames, and the whole program -/
def sc_in (b : Nat) (l : List (Nat × Nat)) : Prop := b = 0 ∨ ∃ m, (b, m) ∈ l
/-- operand s of line i is an earlier line with a value -/
def sc_ov (K : Nat → Nat) (A B C : Nat → Int32) (s i : Nat) : Prop := ∃ x, x < i ∧ sc_o3 A B C s i = nI x ∧ K x ≤ 16
/-- and it stands in a block that is open -/
def sc_oo (K : Nat → Nat) (A B C : Nat → Int32) (s i : Nat) : Prop := sc_in (sc_hd (sc_lf K (sc_o3 A B C s i).toNatClampNeg)) (sc_lf K i)
/-- what is wrong with line i -/
def sc_ck (K : Nat → Nat) (A B C : Nat → Int32) (i c : Nat) : Prop :=
  (¬ sc_fits K i ∧ c = 1) ∨
  (sc_fits K i ∧ (∃ s, s < 3 ∧ sc_us (K i) s ∧ ¬ sc_ov K A B C s i) ∧ c = 2) ∨
  (sc_fits K i ∧ (∀ s, s < 3 → sc_us (K i) s → sc_ov K A B C s i) ∧ (∃ s, s < 3 ∧ sc_us (K i) s ∧ ¬ sc_oo K A B C s i) ∧ c = 3) ∨
  (sc_fits K i ∧ (∀ s, s < 3 → sc_us (K i) s → sc_ov K A B C s i) ∧ (∀ s, s < 3 → sc_us (K i) s → sc_oo K A B C s i) ∧ c = 0)
def sc_ok (K : Nat → Nat) (A B C : Nat → Int32) (i : Nat) : Prop := ∀ j, j < i → sc_ck K A B C j 0
theorem sc_ck0 {K : Nat → Nat} {A B C : Nat → Int32} {i : Nat} (h : sc_ck K A B C i 0) : sc_fits K i ∧ (∀ s, s < 3 → sc_us (K i) s → sc_ov K A B C s i) ∧ (∀ s, s < 3 → sc_us (K i) s → sc_oo K A B C s i) := by
  rcases h with ⟨_, h⟩ | ⟨_, _, h⟩ | ⟨_, _, _, h⟩ | ⟨h1, h2, h3, _⟩
  · omega
  · omega
  · omega
  · exact ⟨h1, h2, h3⟩
theorem sc_ok_good {K : Nat → Nat} {A B C : Nat → Int32} {i : Nat} (h : sc_ok K A B C i) : sc_good K i := fun j hj => (sc_ck0 (h j hj)).1
/-- X's arrays of the first i lines -/
def xs_A (K : Nat → Nat) (A B C : Nat → Int32) (i : Nat) (home depth closer mate operands : Nat → Int32) : Prop :=
  ∀ j, j < i → home j = nI (sc_hd (sc_lf K j)) ∧ depth j = nI (sc_lf K j).length ∧ mate j = nI (sc_mt K j) ∧
    ((K j = 20 ∨ K j = 21 ∨ K j = 23) → closer (sc_hd (sc_fr K j)) = nI j) ∧
    ∀ s, s < 3 → (sc_us (K j) s → operands (3 * j + s) = sc_o3 A B C s j) ∧ (¬ sc_us (K j) s → operands (3 * j + s) = -1)
end
section
variable {K : Nat → Nat} {n : Nat}
variable {f_lines f_studied f_wrong f_wrongAt f_brief f_on f_dropped f_steps f_nextLine f_repeats : Int32} {a_kinds a_firsts a_seconds a_thirds a_inputs a_home a_depth a_closer a_mate a_operands a_varies a_parted a_variableVaries a_same a_fixed a_worth a_needed a_variableNeeded a_values a_variables a_outputs a_cells a_whole a_waiting : Nat → Int32}
/-- BREAK within a LOOP, by X's walk outwards -/
theorem xs_inLoop (hn : n ≤ 48) (hK : ∀ j, j < n → a_kinds j = nI (K j) ∧ K j ≤ 25) {post : Int32 → Prop} {w : Nat} (hw : w ≤ n) (hg : sc_good K w) (hA : ∀ j, j < w → a_home j = nI (sc_hd (sc_lf K j))) :
    ∀ (l : List (Nat × Nat)) (j t : Nat), j ≤ w → sc_fr K j = l → t + l.length ≤ 4 → ((∃ f, f ∈ l ∧ K f.2 = 22) → post 1) → ((¬ ∃ f, f ∈ l ∧ K f.2 = 22) → post 0) → ∀ d, l.length < d → wX_isInLoop_4 post f_lines f_studied f_wrong f_wrongAt f_brief f_on f_dropped f_steps f_nextLine f_repeats a_kinds a_firsts a_seconds a_thirds a_inputs a_home a_depth a_closer a_mate a_operands a_varies a_parted a_variableVaries a_same a_fixed a_worth a_needed a_variableNeeded a_values a_variables a_outputs a_cells a_whole a_waiting d (nI (sc_hd l)) (nI t) := by
  intro l
  induction l with
  | nil =>
    intro j t hj e ht h1 h0 d hd
    obtain ⟨d, rfl⟩ : ∃ e, d = e + 1 := ⟨d - 1, by simp at hd; omega⟩
    have h0' := h0 (by simp)
    exact br_c (fun _ => h0') (fun _ => br_t rfl h0')
  | cons f r ih =>
    obtain ⟨b, m⟩ := f
    intro j t hj e ht h1 h0 d hd
    have T := sc_top j (sc_good_le hg hj) _ _ _ e
    simp only [List.length_cons] at ht hd
    obtain ⟨d, rfl⟩ : ∃ e, d = e + 1 := ⟨d - 1, by omega⟩
    have tb : b ≤ w := by have := T.2.1; omega
    have tb1 := T.1
    have ei : nI b - 1 = nI (b - 1) := nb_m1 tb1
    have cl : (nI b - 1).toNatClampNeg = b - 1 := by rw [ei, nI_clamp (by omega)]
    have hin : vp_in (nI b - 1) 48 := by rw [ei]; exact vp_in_nI (by omega) (by omega)
    have kb := hK (b - 1) (by omega)
    have hb := hA (b - 1) (by omega)
    rw [sc_hd_cons]
    refine br_f (nI_ge (b := 4) (by omega) (by decide)) (br_f (nI_ne0 (by omega) (by omega)) ⟨hin, ?_⟩)
    rw [cl, kb.1, hb, T.2.2.2.2.1]
    refine pk_eq (K (b - 1)) 22 (fun h22 => ?_) (fun h22 => ⟨hin, nm_e (nm_r (nI_1 t) ?_)⟩)
    · refine h1 ⟨(b, m), List.mem_cons_self .., ?_⟩
      rcases T.2.2.2.1 with ⟨h, _⟩ | ⟨h, _⟩
      · rw [h, Nat.add_sub_cancel] at h22; exact h22
      · omega
    · have hm : K m ≠ 22 := by
        rcases T.2.2.2.1 with ⟨h, _⟩ | ⟨_, h, _⟩
        · rw [h, Nat.add_sub_cancel] at h22; exact h22
        · omega
      refine ih m (t + 1) (by have := T.2.2.1; omega) T.2.2.2.2.2.1 (by omega) (fun ⟨f, hf, k⟩ => h1 ⟨f, List.mem_cons_of_mem _ hf, k⟩) (fun hn => h0 ?_) d (by omega)
      rintro ⟨f, hf, k⟩
      rcases List.mem_cons.mp hf with h | h
      · rw [h] at k; exact hm k
      · exact hn ⟨f, h, k⟩
/-- X's walk outwards from line i's own block -/
theorem xs_open (hn : n ≤ 48) {post : Int32 → Prop} {w b0 : Nat} (hw : w ≤ n) (hg : sc_good K w) (hA : ∀ j, j < w → a_home j = nI (sc_hd (sc_lf K j))) (h48 : b0 ≤ 48) :
    ∀ (l : List (Nat × Nat)) (j t : Nat), j ≤ w → sc_fr K j = l → t + l.length ≤ 4 → (sc_in b0 l → post 1) → (¬ sc_in b0 l → post 0) → ∀ d, l.length < d → wX_isOpen_10 post (nI b0) f_lines f_studied f_wrong f_wrongAt f_brief f_on f_dropped f_steps f_nextLine f_repeats a_kinds a_firsts a_seconds a_thirds a_inputs a_home a_depth a_closer a_mate a_operands a_varies a_parted a_variableVaries a_same a_fixed a_worth a_needed a_variableNeeded a_values a_variables a_outputs a_cells a_whole a_waiting d (nI (sc_hd l)) (nI t) := by
  intro l
  induction l with
  | nil =>
    intro j t hj e ht h1 h0 d hd
    obtain ⟨d, rfl⟩ : ∃ e, d = e + 1 := ⟨d - 1, by simp at hd; omega⟩
    have key : wX_isOpen_40 post (nI b0) (nI (sc_hd [])) f_lines f_studied f_wrong f_wrongAt f_brief f_on f_dropped f_steps f_nextLine f_repeats a_kinds a_firsts a_seconds a_thirds a_inputs a_home a_depth a_closer a_mate a_operands a_varies a_parted a_variableVaries a_same a_fixed a_worth a_needed a_variableNeeded a_values a_variables a_outputs a_cells a_whole a_waiting := by
      refine pk_eq 0 b0 (fun h => h1 (Or.inl h.symm)) (fun h => h0 ?_)
      rintro (h' | ⟨m, h'⟩)
      · exact h h'.symm
      · cases h'
    exact br_c (fun _ => key) (fun _ => br_c (fun _ => key) (fun _ => br_t rfl key))
  | cons f r ih =>
    obtain ⟨b, m⟩ := f
    intro j t hj e ht h1 h0 d hd
    have T := sc_top j (sc_good_le hg hj) _ _ _ e
    simp only [List.length_cons] at ht hd
    obtain ⟨d, rfl⟩ : ∃ e, d = e + 1 := ⟨d - 1, by omega⟩
    have tb : b ≤ w := by have := T.2.1; omega
    have tb1 := T.1
    have ei : nI b - 1 = nI (b - 1) := nb_m1 tb1
    have cl : (nI b - 1).toNatClampNeg = b - 1 := by rw [ei, nI_clamp (by omega)]
    have hin : vp_in (nI b - 1) 48 := by rw [ei]; exact vp_in_nI (by omega) (by omega)
    have hb := hA (b - 1) (by omega)
    refine br_f (nI_ge (b := 4) (by omega) (by decide)) ?_
    rw [sc_hd_cons]
    refine pk_eq b b0 (fun h => ?_) (fun hne => br_f (nI_ne0 (by omega) (by omega)) ⟨hin, ?_⟩)
    · exact br_t (by rw [h]) (h1 (Or.inr ⟨m, by rw [h]; exact List.mem_cons_self ..⟩))
    · rw [cl, hb, T.2.2.2.2.1]
      refine nm_e (nm_r (nI_1 t) (ih m (t + 1) (by have := T.2.2.1; omega) T.2.2.2.2.2.1 (by omega) (fun h => h1 ?_) (fun h => h0 ?_) d (by omega)))
      · rcases h with h | ⟨m', h⟩
        · exact Or.inl h
        · exact Or.inr ⟨m', List.mem_cons_of_mem _ h⟩
      · rintro (h' | ⟨m', h'⟩)
        · exact h (Or.inl h')
        · rcases List.mem_cons.mp h' with h2 | h2
          · cases h2; exact hne rfl
          · exact h (Or.inr ⟨m', h2⟩)
/-- frames of line i itself are those ahead of some line -/
theorem sc_lf_fr {i : Nat} (hg : sc_good K (i + 1)) : ∃ j, j ≤ i ∧ sc_fr K j = sc_lf K i := by
  by_cases h : K i = 20 ∨ K i = 21 ∨ K i = 23
  · have hf := hg i (by omega)
    have : ∃ b m r, sc_fr K i = (b, m) :: r := by
      rcases h with h | h | h
      · obtain ⟨m, r, e, _⟩ := hf.2.1 h; exact ⟨_, _, _, e⟩
      · obtain ⟨b, m, r, e, _⟩ := hf.2.2.1 h; exact ⟨_, _, _, e⟩
      · obtain ⟨b, m, r, e, _⟩ := hf.2.2.2.1 h; exact ⟨_, _, _, e⟩
    obtain ⟨b, m, r, e⟩ := this
    have T := sc_top i (sc_good_le hg (by omega)) _ _ _ e
    refine ⟨m, by have := T.2.1; have := T.2.2.1; omega, ?_⟩
    rw [T.2.2.2.2.2.1, sc_lf_cl h, e]; rfl
  · exact ⟨i, Nat.le_refl _, (sc_lf_n h).symm⟩
theorem sc_lf_len {i : Nat} (hg : sc_good K (i + 1)) : (sc_lf K i).length ≤ 4 := by
  obtain ⟨j, hj, e⟩ := sc_lf_fr hg
  rw [← e]; exact sc_len j (sc_good_le hg (by omega))
theorem sc_hd_le {j : Nat} (hg : sc_good K j) : sc_hd (sc_fr K j) ≤ j := by
  cases e : sc_fr K j with
  | nil => simp [sc_hd_nil]
  | cons f r => obtain ⟨b, m⟩ := f; exact (sc_top j hg _ _ _ e).2.1
theorem sc_hdl_le {i : Nat} (hg : sc_good K (i + 1)) : sc_hd (sc_lf K i) ≤ i := by
  obtain ⟨j, hj, e⟩ := sc_lf_fr hg
  rw [← e]; exact Nat.le_trans (sc_hd_le (sc_good_le hg (by omega))) hj
theorem xs_isOpen (hn : n ≤ 48) {post : Int32 → Prop} {w b0 i : Nat} (hw : w ≤ n) (hg : sc_good K w) (hA : ∀ j, j < w → a_home j = nI (sc_hd (sc_lf K j))) (h48 : b0 ≤ 48) (hi : i < w) (h1 : sc_in b0 (sc_lf K i) → post 1) (h0 : ¬ sc_in b0 (sc_lf K i) → post 0) : wpX_isOpen post (f_lines, f_studied, f_wrong, f_wrongAt, f_brief, f_on, f_dropped, f_steps, f_nextLine, f_repeats, a_kinds, a_firsts, a_seconds, a_thirds, a_inputs, a_home, a_depth, a_closer, a_mate, a_operands, a_varies, a_parted, a_variableVaries, a_same, a_fixed, a_worth, a_needed, a_variableNeeded, a_values, a_variables, a_outputs, a_cells, a_whole, a_waiting) (nI b0) (nI i) := by
  have gi : sc_good K (i + 1) := sc_good_le hg (by omega)
  obtain ⟨j, hj, e⟩ := sc_lf_fr gi
  have l := sc_lf_len gi
  refine ⟨vp_in_nI (by omega) (by omega), nm_c (nI_clamp (by omega)) (hA i hi) ⟨5, ?_⟩⟩
  exact xs_open hn hw hg hA h48 (sc_lf K i) j 0 (by omega) e (by omega) h1 h0 5 (by omega)
end
