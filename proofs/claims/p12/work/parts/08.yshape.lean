section
/-- Y's row of open lines -/
def ys_O (opn : Nat → Int32) : List (Nat × Nat) → Prop
  | [] => True
  | f :: r => opn r.length = nI f.2 ∧ ys_O opn r
theorem ys_O_get {opn : Nat → Int32} : ∀ l : List (Nat × Nat), ys_O opn l → ∀ k, k < l.length → ∃ f, f ∈ l ∧ opn k = nI f.2 := by
  intro l
  induction l with
  | nil => intro _ k hk; simp at hk
  | cons f r ih =>
    intro h k hk
    simp only [List.length_cons] at hk
    by_cases e : k = r.length
    · exact ⟨f, List.mem_cons_self .., by rw [e]; exact h.1⟩
    · obtain ⟨g, hg, eg⟩ := ih h.2 k (by omega)
      exact ⟨g, List.mem_cons_of_mem _ hg, eg⟩
theorem ys_O_mem {opn : Nat → Int32} : ∀ l : List (Nat × Nat), ys_O opn l → ∀ f, f ∈ l → ∃ k, k < l.length ∧ opn k = nI f.2 := by
  intro l
  induction l with
  | nil => intro _ f hf; cases hf
  | cons g r ih =>
    intro h f hf
    rcases List.mem_cons.mp hf with e | e
    · exact ⟨r.length, by simp, by rw [e]; exact h.1⟩
    · obtain ⟨k, hk, ek⟩ := ih h.2 f e
      exact ⟨k, by simp only [List.length_cons]; omega, ek⟩
theorem ys_O_upd {opn : Nat → Int32} {x : Int32} : ∀ l : List (Nat × Nat), ∀ k, l.length ≤ k → ys_O opn l → ys_O (upd opn k x) l := by
  intro l
  induction l with
  | nil => intro k _ _; trivial
  | cons g r ih =>
    intro k hk h
    simp only [List.length_cons] at hk
    exact ⟨by rw [pk_un (by omega)]; exact h.1, ih k (by omega) h.2⟩
/-- Y's arrays of the first i lines -/
def ys_A (K : Nat → Nat) (i : Nat) (blockOf opener around other end_ : Nat → Int32) : Prop :=
  ∀ j, j < i → blockOf j = nI (sc_cnt K (sc_hd (sc_lf K j))) ∧
    ((K j = 19 ∨ K j = 20 ∨ K j = 22) → around (sc_cnt K (j + 1)) = nI (sc_cnt K (sc_hd (sc_lf K j))) ∧ opener (sc_cnt K (j + 1)) = nI (sc_mt K j)) ∧
    (K j = 20 → other (sc_mt K j) = nI j) ∧
    ((K j = 19 ∨ K j = 22) → (∀ e, e < i → K e = 20 → sc_mt K e ≠ j) → other j = -1) ∧
    ((K j = 21 ∨ K j = 23) → end_ (sc_mt K j) = nI j)
end
section
variable {K : Nat → Nat} {n : Nat}
variable {f_lines f_known f_wrong f_place f_blocks f_steps f_dropped f_on f_next f_again f_depth : Int32} {a_ops a_as a_bs a_cs a_blockOf a_opener a_around a_other a_end a_open a_varied a_loose a_variedVariable a_stands a_number a_isConst a_needed a_inputs a_values a_variables a_cells a_outs a_was a_rest a_line : Nat → Int32}
theorem ys_inLoop (hn : n ≤ 48) (hK : ∀ j, j < n → a_ops j = nI (K j) ∧ K j ≤ 25) {post : Int32 → Prop} {i : Nat} (hi : i ≤ n) (hg : sc_good K i) (hO : ys_O a_open (sc_fr K i)) (h1 : (∃ f, f ∈ sc_fr K i ∧ K f.2 = 22) → post 1) (h0 : (¬ ∃ f, f ∈ sc_fr K i ∧ K f.2 = 22) → post 0) : wpY_isInLoop post (f_lines, f_known, f_wrong, f_place, f_blocks, f_steps, f_dropped, f_on, f_next, f_again, f_depth, a_ops, a_as, a_bs, a_cs, a_blockOf, a_opener, a_around, a_other, a_end, a_open, a_varied, a_loose, a_variedVariable, a_stands, a_number, a_isConst, a_needed, a_inputs, a_values, a_variables, a_cells, a_outs, a_was, a_rest, a_line) (nI (sc_fr K i).length) := by
  have len := sc_len i hg
  have key : ∀ d k : Nat, k + d = (sc_fr K i).length → (∀ k', k' < k → ∀ f, f ∈ sc_fr K i → a_open k' = nI f.2 → K f.2 ≠ 22) → wY_isInLoop_2 post (nI (sc_fr K i).length) f_lines f_known f_wrong f_place f_blocks f_steps f_dropped f_on f_next f_again f_depth a_ops a_as a_bs a_cs a_blockOf a_opener a_around a_other a_end a_open a_varied a_loose a_variedVariable a_stands a_number a_isConst a_needed a_inputs a_values a_variables a_cells a_outs a_was a_rest a_line (d + 1) (nI k) := by
    intro d
    induction d with
    | zero =>
      intro k hk hall
      refine br_t (nI_le (by omega) (by omega)) (h0 ?_)
      rintro ⟨f, hf, k22⟩
      obtain ⟨k', hk', e⟩ := ys_O_mem _ hO f hf
      exact hall k' (by omega) f hf e k22
    | succ d ih =>
      intro k hk hall
      obtain ⟨f, hf, ef⟩ := ys_O_get _ hO k (by omega)
      obtain ⟨r, T⟩ := sc_memT (b := f.1) (m := f.2) hg hf
      have hm : f.2 < n := by have := T.2.1; have := T.2.2.1; omega
      have k25 := (hK f.2 hm).2
      refine br_f (nI_ge (by omega) (by omega)) ⟨vp_in_nI (by omega) (by omega), ?_⟩
      rw [nI_clamp (by omega), ef, nI_clamp (by omega), (hK f.2 hm).1]
      refine ⟨vp_in_nI (by omega) (by omega), pk_eq (K f.2) 22 (fun h => h1 ⟨f, hf, h⟩) (fun h => nm_r (nI_1 k) (ih (k + 1) (by omega) (fun k' hk' g hg2 eg => ?_)))⟩
      by_cases e : k' = k
      · rw [e, ef] at eg
        obtain ⟨r', T'⟩ := sc_memT (b := g.1) (m := g.2) hg hg2
        rw [nI_eq (by omega) (by have := T'.2.1; have := T'.2.2.1; omega)] at eg
        rw [← eg]; exact h
      · exact hall k' (by omega) g hg2 eg
  exact ⟨_, key (sc_fr K i).length 0 (by omega) (fun k' hk' => by omega)⟩
theorem ys_open (hn : n ≤ 48) {post : Int32 → Prop} {w b0 : Nat} (hw : w ≤ n) (hg : sc_good K w) (hA : ∀ j, j < w → (K j = 19 ∨ K j = 20 ∨ K j = 22) → a_around (sc_cnt K (j + 1)) = nI (sc_cnt K (sc_hd (sc_lf K j)))) (h48 : b0 ≤ 48) (hb0 : b0 = 0 ∨ sc_op (K (b0 - 1))) :
    ∀ (l : List (Nat × Nat)) (j : Nat), j ≤ w → sc_fr K j = l → (sc_in b0 l → post 1) → (¬ sc_in b0 l → post 0) → ∀ d, l.length < d → wY_isOpen_2 post (nI (sc_cnt K b0)) f_lines f_known f_wrong f_place f_blocks f_steps f_dropped f_on f_next f_again f_depth a_ops a_as a_bs a_cs a_blockOf a_opener a_around a_other a_end a_open a_varied a_loose a_variedVariable a_stands a_number a_isConst a_needed a_inputs a_values a_variables a_cells a_outs a_was a_rest a_line d (nI (sc_cnt K (sc_hd l))) := by
  intro l
  have c0 := sc_cnt_le (K := K) b0
  induction l with
  | nil =>
    intro j hj e h1 h0 d hd
    obtain ⟨d, rfl⟩ : ∃ e, d = e + 1 := ⟨d - 1, by simp at hd; omega⟩
    rw [sc_hd_nil, show sc_cnt K 0 = 0 from rfl]
    refine br_t (nI_le (by omega) (by omega)) (pk_eq 0 (sc_cnt K b0) (fun h => h1 (Or.inl ?_)) (fun h => h0 ?_))
    · exact (sc_cnt_inj (K := K) (b := 0) (c := b0) (Or.inl rfl) hb0 (by rw [← h]; rfl)).symm
    · rintro (h' | ⟨m, h'⟩)
      · rw [h'] at h; exact h rfl
      · cases h'
  | cons f r ih =>
    obtain ⟨b, m⟩ := f
    intro j hj e h1 h0 d hd
    have gj := sc_good_le hg hj
    have T := sc_top j gj _ _ _ e
    simp only [List.length_cons] at hd
    obtain ⟨d, rfl⟩ : ∃ e, d = e + 1 := ⟨d - 1, by omega⟩
    have tb : b ≤ w := by have := T.2.1; omega
    have tb1 := T.1
    have hop : sc_op (K (b - 1)) := T.2.2.2.2.2.2.2.1
    have cb := sc_cnt_le (K := K) b
    have eb : b - 1 + 1 = b := by omega
    rw [sc_hd_cons]
    refine pk_le (sc_cnt K b) (sc_cnt K b0) (fun hle => pk_eq (sc_cnt K b) (sc_cnt K b0) (fun h => h1 (Or.inr ⟨m, ?_⟩)) (fun h => h0 ?_)) (fun hlt => ⟨vp_in_nI (by omega) (by omega), nm_r (by rw [nI_clamp (by omega)]; have := hA (b - 1) (by omega) hop; rw [eb, T.2.2.2.2.1] at this; exact this) (ih m (by have := T.2.2.1; omega) T.2.2.2.2.2.1 (fun h => h1 ?_) (fun h => h0 ?_) d (by omega))⟩)
    · rw [← sc_cnt_inj (Or.inr hop) hb0 h]; exact List.mem_cons_self ..
    · have hgt : b < b0 := by
        rcases Nat.lt_or_ge b b0 with l | l
        · exact l
        · have := sc_cnt_mono (K := K) l; omega
      rintro (h' | ⟨m', h'⟩)
      · omega
      · rcases List.mem_cons.mp h' with h2 | h2
        · cases h2; omega
        · have := (sc_below gj e h2).1; have := T.2.2.1; omega
    · rcases h with h | ⟨m', h⟩
      · exact Or.inl h
      · exact Or.inr ⟨m', List.mem_cons_of_mem _ h⟩
    · rintro (h' | ⟨m', h'⟩)
      · exact h (Or.inl h')
      · rcases List.mem_cons.mp h' with h2 | h2
        · cases h2; omega
        · exact h (Or.inr ⟨m', h2⟩)
/-- a head of a row of frames is no block but the whole one, or is opened by a line -/
theorem sc_hd_op {j : Nat} (hg : sc_good K j) : sc_hd (sc_fr K j) = 0 ∨ sc_op (K (sc_hd (sc_fr K j) - 1)) := by
  cases e : sc_fr K j with
  | nil => exact Or.inl rfl
  | cons f r => obtain ⟨b, m⟩ := f; exact Or.inr (sc_top j hg _ _ _ e).2.2.2.2.2.2.2.1
theorem sc_hdl_op {i : Nat} (hg : sc_good K (i + 1)) : sc_hd (sc_lf K i) = 0 ∨ sc_op (K (sc_hd (sc_lf K i) - 1)) := by
  obtain ⟨j, hj, e⟩ := sc_lf_fr hg
  rw [← e]; exact sc_hd_op (sc_good_le hg (by omega))
theorem ys_isOpen (hn : n ≤ 48) {post : Int32 → Prop} {x i : Nat} (hi : i < n) (hg : sc_good K (i + 1)) (hA : ∀ j, j < i → (K j = 19 ∨ K j = 20 ∨ K j = 22) → a_around (sc_cnt K (j + 1)) = nI (sc_cnt K (sc_hd (sc_lf K j)))) (hx : x ≤ i) (h1 : sc_in (sc_hd (sc_lf K x)) (sc_lf K i) → post 1) (h0 : ¬ sc_in (sc_hd (sc_lf K x)) (sc_lf K i) → post 0) : wpY_isOpen post (f_lines, f_known, f_wrong, f_place, f_blocks, f_steps, f_dropped, f_on, f_next, f_again, f_depth, a_ops, a_as, a_bs, a_cs, a_blockOf, a_opener, a_around, a_other, a_end, a_open, a_varied, a_loose, a_variedVariable, a_stands, a_number, a_isConst, a_needed, a_inputs, a_values, a_variables, a_cells, a_outs, a_was, a_rest, a_line) (nI (sc_cnt K (sc_hd (sc_lf K x)))) (nI (sc_cnt K (sc_hd (sc_lf K i)))) := by
  have gx : sc_good K (x + 1) := sc_good_le hg (by omega)
  obtain ⟨j, hj, e⟩ := sc_lf_fr hg
  have l := sc_lf_len hg
  exact ⟨5, ys_open hn (w := i) (by omega) (sc_good_le hg (by omega)) hA (Nat.le_trans (sc_hdl_le gx) (by omega)) (sc_hdl_op gx) (sc_lf K i) j (by omega) e h1 h0 5 (by omega)⟩
theorem ys_uses {post : Int32 → Prop} (hn : n ≤ 48) (hK : ∀ j, j < n → a_ops j = nI (K j) ∧ K j ≤ 25) {i s : Nat} (hi : i < n) (hs : s < 3) (h1 : sc_us (K i) s → post 1) (h0 : ¬ sc_us (K i) s → post 0) : wpY_uses post (f_lines, f_known, f_wrong, f_place, f_blocks, f_steps, f_dropped, f_on, f_next, f_again, f_depth, a_ops, a_as, a_bs, a_cs, a_blockOf, a_opener, a_around, a_other, a_end, a_open, a_varied, a_loose, a_variedVariable, a_stands, a_number, a_isConst, a_needed, a_inputs, a_values, a_variables, a_cells, a_outs, a_was, a_rest, a_line) (nI i) (nI s) := by
  have ci : (nI i).toNatClampNeg = i := nI_clamp (by omega)
  have hin : vp_in (nI i) 48 := vp_in_nI (by omega) (by omega)
  have k := hK i hi
  generalize hk : K i = k' at *
  have g1 : sc_us k' s → narrow .boolean (.int 1) = .int 1 ∧ post 1 := fun h => ⟨xs_nb1, h1 h⟩
  have g0 : ¬ sc_us k' s → narrow .boolean (.int 0) = .int 0 ∧ post 0 := fun h => ⟨xs_nb0, h0 h⟩
  refine pk_eq s 0 (fun hs0 => ⟨hin, ?_⟩) (fun hs0 => pk_eq s 1 (fun hs1 => ⟨hin, ?_⟩) (fun hs1 => ⟨hin, ?_⟩))
  · rw [ci, k.1]
    have t23 : ¬ (3 ≤ k' ∧ k' ≤ 10) → ¬ (12 ≤ k' ∧ k' ≤ 15) → wY_usesA_23 (fun r_9 => (narrow .boolean (.int r_9) = .int r_9 ∧ (post r_9))) (nI k') := fun a b =>
      pk_eq k' 19 (fun h' => g1 (by unfold sc_us; omega)) (fun h' => g0 (by unfold sc_us; omega))
    have t11 : ¬ (3 ≤ k' ∧ k' ≤ 10) → wY_usesA_11 (fun r_9 => (narrow .boolean (.int r_9) = .int r_9 ∧ (post r_9))) (nI k') := fun a =>
      pk_lt k' 12 (fun h' => t23 a (by omega)) (fun h' => pk_le k' 15 (fun h'' => g1 (by unfold sc_us; omega)) (fun h'' => t23 a (by omega)))
    exact pk_lt k' 3 (fun h => t11 (by omega)) (fun h => pk_le k' 10 (fun h' => g1 (by unfold sc_us; omega)) (fun h' => t11 (by omega)))
  · rw [ci, k.1]
    have t11 : ¬ (3 ≤ k' ∧ k' ≤ 8) → wY_usesB_11 (fun r_9 => (narrow .boolean (.int r_9) = .int r_9 ∧ (post r_9))) (nI k') := fun a =>
      pk_eq k' 10 (fun h' => g1 (by unfold sc_us; omega)) (fun h' => pk_lt k' 16 (fun h'' => g0 (by unfold sc_us; omega)) (fun h'' => pk_lt 18 k' (fun h3 => g0 (by unfold sc_us; omega)) (fun h3 => g1 (by unfold sc_us; omega))))
    exact pk_lt k' 3 (fun h => t11 (by omega)) (fun h => pk_le k' 8 (fun h' => g1 (by unfold sc_us; omega)) (fun h' => t11 (by omega)))
  · rw [ci, k.1]
    exact pk_eq k' 10 (fun h => h1 (by unfold sc_us; omega)) (fun h => h0 (by unfold sc_us; omega))
theorem ys_operand {post : Int32 → Prop} (hn : n ≤ 48) {i s : Nat} (hi : i < n) (hs : s < 3) (h : post (sc_o3 a_as a_bs a_cs s i)) : wpY_operand post (f_lines, f_known, f_wrong, f_place, f_blocks, f_steps, f_dropped, f_on, f_next, f_again, f_depth, a_ops, a_as, a_bs, a_cs, a_blockOf, a_opener, a_around, a_other, a_end, a_open, a_varied, a_loose, a_variedVariable, a_stands, a_number, a_isConst, a_needed, a_inputs, a_values, a_variables, a_cells, a_outs, a_was, a_rest, a_line) (nI i) (nI s) := by
  have ci : (nI i).toNatClampNeg = i := nI_clamp (by omega)
  have hin : vp_in (nI i) 48 := vp_in_nI (by omega) (by omega)
  refine pk_eq s 0 (fun hs0 => ⟨hin, ?_⟩) (fun hs0 => pk_eq s 1 (fun hs1 => ⟨hin, ?_⟩) (fun hs1 => ⟨hin, ?_⟩))
  · rw [ci]; rw [hs0] at h; exact h
  · rw [ci]; rw [hs1] at h; exact h
  · rw [ci]; rw [show s = 2 by omega] at h; exact h
theorem ys_gives {post : Int32 → Prop} {k : Nat} (hk : k ≤ 25) (h1 : k ≤ 16 → post 1) (h0 : ¬ k ≤ 16 → post 0) : wpY_gives post (nI k) :=
  pk_lt 16 k (fun h => h0 (by omega)) (fun h => h1 (by omega))
theorem ys_operands4 (hn : n ≤ 48) (hK : ∀ j, j < n → a_ops j = nI (K j) ∧ K j ≤ 25) {post : Int32 → Prop} {i : Nat} (hi : i < n) (hg : sc_good K (i + 1)) (hA : ∀ j, j < i → (K j = 19 ∨ K j = 20 ∨ K j = 22) → a_around (sc_cnt K (j + 1)) = nI (sc_cnt K (sc_hd (sc_lf K j)))) (hB : ∀ j, j < i + 1 → a_blockOf j = nI (sc_cnt K (sc_hd (sc_lf K j))))
    (h2 : (∃ s, s < 3 ∧ sc_us (K i) s ∧ ¬ sc_ov K a_as a_bs a_cs s i) → post 2)
    (h3 : (∀ s, s < 3 → sc_us (K i) s → sc_ov K a_as a_bs a_cs s i) → (∃ s, s < 3 ∧ sc_us (K i) s ∧ ¬ sc_oo K a_as a_bs a_cs s i) → post 3)
    (h0 : (∀ s, s < 3 → sc_us (K i) s → sc_ov K a_as a_bs a_cs s i) → (∀ s, s < 3 → sc_us (K i) s → sc_oo K a_as a_bs a_cs s i) → post 0) :
    ∀ (d t : Nat) (w : Int32), t + d = 3 → (∀ s, s < t → sc_us (K i) s → sc_ov K a_as a_bs a_cs s i) → ((w = 3 ∧ ∃ s, s < t ∧ sc_us (K i) s ∧ ¬ sc_oo K a_as a_bs a_cs s i) ∨ (w = 0 ∧ ∀ s, s < t → sc_us (K i) s → sc_oo K a_as a_bs a_cs s i)) → wY_operands_4 post (nI i) f_lines f_known f_wrong f_place f_blocks f_steps f_dropped f_on f_next f_again f_depth a_ops a_as a_bs a_cs a_blockOf a_opener a_around a_other a_end a_open a_varied a_loose a_variedVariable a_stands a_number a_isConst a_needed a_inputs a_values a_variables a_cells a_outs a_was a_rest a_line (d + 1) w (nI t) := by
  intro d
  induction d with
  | zero =>
    intro t w ht hv ho
    cases (show t = 3 by omega)
    refine br_t (by decide) ?_
    rcases ho with ⟨rfl, ho⟩ | ⟨rfl, ho⟩
    · exact h3 hv ho
    · exact h0 hv ho
  | succ d ih =>
    intro t w ht hv ho
    have ci : (nI i).toNatClampNeg = i := nI_clamp (by omega)
    refine br_f (nI_ge (b := 3) (by omega) (by decide)) ?_
    refine ys_uses hn hK hi (by omega) (fun hu => br_f (by decide) ?_) (fun hu => br_t rfl (nm_r (nI_1 t) ?_))
    · refine ys_operand hn hi (by omega) ?_
      have no : ¬ sc_ov K a_as a_bs a_cs t i → wY_operands_57 post (wY_operands_4 post (nI i) f_lines f_known f_wrong f_place f_blocks f_steps f_dropped f_on f_next f_again f_depth a_ops a_as a_bs a_cs a_blockOf a_opener a_around a_other a_end a_open a_varied a_loose a_variedVariable a_stands a_number a_isConst a_needed a_inputs a_values a_variables a_cells a_outs a_was a_rest a_line (d + 1)) (nI i) w (nI t) (sc_o3 a_as a_bs a_cs t i) f_lines f_known f_wrong f_place f_blocks f_steps f_dropped f_on f_next f_again f_depth a_ops a_as a_bs a_cs a_blockOf a_opener a_around a_other a_end a_open a_varied a_loose a_variedVariable a_stands a_number a_isConst a_needed a_inputs a_values a_variables a_cells a_outs a_was a_rest a_line := fun h => br_t rfl (h2 ⟨t, by omega, hu, h⟩)
      generalize ez : sc_o3 a_as a_bs a_cs t i = z0 at *
      rcases pk_ix z0 (n := i) (by omega) with h | h | ⟨x, hx, rfl⟩
      · refine br_t h (no ?_)
        rintro ⟨x, hx, e, _⟩
        rw [ez] at e; rw [e] at h; exact nI_pos (by omega) h
      · refine br_c (fun h' => no ?_) (fun _ => br_t h (no ?_))
        · rintro ⟨x, hx, e, _⟩
          rw [ez] at e; rw [e] at h'; exact nI_pos (by omega) h'
        · rintro ⟨x, hx, e, _⟩
          rw [ez] at e; rw [e] at h; exact nI_ge hx (by omega) h
      · have kx := hK x (by omega)
        refine br_f (nI_pos (by omega)) (br_f (nI_ge hx (by omega)) ⟨vp_in_nI (by omega) (by omega), ?_⟩)
        rw [nI_clamp (by omega), kx.1]
        refine ys_gives kx.2 (fun hk => br_f (by decide) (br_f (by decide) ⟨vp_in_nI (by omega) (by omega), vp_in_nI (by omega) (by omega), ?_⟩)) (fun hk => br_t rfl (no ?_))
        · have hov : sc_ov K a_as a_bs a_cs t i := ⟨x, hx, ez, hk⟩
          have hv' : ∀ s, s < t + 1 → sc_us (K i) s → sc_ov K a_as a_bs a_cs s i := fun s hs hus => by
            by_cases h : s = t
            · rw [h]; exact hov
            · exact hv s (by omega) hus
          have eo : sc_oo K a_as a_bs a_cs t i ↔ sc_in (sc_hd (sc_lf K x)) (sc_lf K i) := by
            rw [sc_oo, ez, nI_clamp (by omega)]
          rw [nI_clamp (by omega), ci, hB x (by omega), hB i (by omega)]
          refine ys_isOpen hn hi hg hA (by omega) (fun hin1 => br_f (by decide) (nm_r (nI_1 t) (ih (t + 1) w (by omega) hv' ?_))) (fun hin0 => br_t rfl (nm_r (nI_1 t) (ih (t + 1) 3 (by omega) hv' (Or.inl ⟨rfl, t, by omega, hu, fun h => hin0 (eo.mp h)⟩))))
          rcases ho with ⟨rfl, s, hs, hus, hno⟩ | ⟨rfl, ho⟩
          · exact Or.inl ⟨rfl, s, by omega, hus, hno⟩
          · refine Or.inr ⟨rfl, fun s hs hus => ?_⟩
            by_cases h : s = t
            · rw [h]; exact eo.mpr hin1
            · exact ho s (by omega) hus
        · rintro ⟨x', hx', e, hk'⟩
          rw [ez] at e
          rw [nI_eq (by omega) (by omega)] at e
          rw [e] at hk; exact hk hk'
    · refine ih (t + 1) w (by omega) (fun s hs hus => ?_) ?_
      · by_cases h : s = t
        · rw [h] at hus; exact absurd hus hu
        · exact hv s (by omega) hus
      · rcases ho with ⟨rfl, s, hs, hus, hno⟩ | ⟨rfl, ho⟩
        · exact Or.inl ⟨rfl, s, by omega, hus, hno⟩
        · refine Or.inr ⟨rfl, fun s hs hus => ?_⟩
          by_cases h : s = t
          · rw [h] at hus; exact absurd hus hu
          · exact ho s (by omega) hus
end
