section
/-- NEEDED, as sets of lines -/
def nd_C (K : Nat → Nat) (A B C : Nat → Int32) (T : Nat → Nat × Bool × Int32) (n : Nat) (N : Nat → Prop) : Prop := ∀ i, i < n →
  (16 ≤ K i ∧ K i ≠ 17 → N i) ∧ (K i = 17 → (∃ j, j < n ∧ K j = 11 ∧ A j = A i ∧ N j) → N i) ∧
  (N i → ∀ s, s < 3 → sc_us (K i) s → (T (T (sh_o A B C s i)).1).2.1 = false → N (T (sh_o A B C s i)).1)
def nd_least (K : Nat → Nat) (A B C : Nat → Int32) (T : Nat → Nat × Bool × Int32) (n : Nat) (N : Nat → Prop) : Prop := nd_C K A B C T n N ∧ ∀ N', nd_C K A B C T n N' → ∀ i, i < n → N i → N' i
theorem nd_uniq {K : Nat → Nat} {A B C : Nat → Int32} {T : Nat → Nat × Bool × Int32} {n : Nat} {N N' : Nat → Prop} (h : nd_least K A B C T n N) (h' : nd_least K A B C T n N') : ∀ i, i < n → (N i ↔ N' i) :=
  fun i hi => ⟨h.2 _ h'.1 i hi, h'.2 _ h.1 i hi⟩
/-- X: what is marked is needed -/
def nx_S (K : Nat → Nat) (A B C : Nat → Int32) (T : Nat → Nat × Bool × Int32) (n : Nat) (nd vn : Nat → Int32) : Prop := (∀ j, j < n → 16 ≤ K j ∧ K j ≠ 17 → nd j ≠ 0) ∧ ∀ N, nd_C K A B C T n N → (∀ i, i < n → nd i ≠ 0 → N i) ∧ (∀ v, v < 4 → vn v ≠ 0 → ∃ j, j < n ∧ K j = 11 ∧ A j = nI v ∧ N j)
def nx_mu (nd vn : Nat → Int32) : Nat := cz nd 48 + cz vn 4
def nx_ops (K : Nat → Nat) (A B C : Nat → Int32) (T : Nat → Nat × Bool × Int32) (nd : Nat → Int32) (t i : Nat) : Prop := ∀ s, s < t → sc_us (K i) s → (T (T (sh_o A B C s i)).1).2.1 = false → nd (T (sh_o A B C s i)).1 ≠ 0
def nx_sat (K : Nat → Nat) (A B C : Nat → Int32) (T : Nat → Nat × Bool × Int32) (nd vn : Nat → Int32) (i : Nat) : Prop :=
  (K i = 17 → vn (A i).toNatClampNeg ≠ 0 → nd i ≠ 0) ∧ (nd i ≠ 0 → (K i = 11 → vn (A i).toNatClampNeg ≠ 0) ∧ nx_ops K A B C T nd 3 i)
end
section
variable {K : Nat → Nat} {n : Nat} {T : Nat → Nat × Bool × Int32}
variable {f_lines f_studied f_wrong f_wrongAt f_brief f_on f_dropped f_steps f_nextLine f_repeats : Int32} {a_kinds a_firsts a_seconds a_thirds a_inputs a_home a_depth a_closer a_mate a_operands a_varies a_parted a_variableVaries a_same a_fixed a_worth a_needed a_variableNeeded a_values a_variables a_outputs a_cells a_whole a_waiting : Nat → Int32}
theorem nx_mark {A B C nd vn : Nat → Int32} {i : Nat} (hs : nx_S K A B C T n nd vn) (h : ∀ N, nd_C K A B C T n N → (∀ i, i < n → nd i ≠ 0 → N i) → (∀ v, v < 4 → vn v ≠ 0 → ∃ j, j < n ∧ K j = 11 ∧ A j = nI v ∧ N j) → N i) : nx_S K A B C T n (upd nd i 1) vn := by
  refine ⟨fun j hj hk => ?_, fun N hc => ?_⟩
  · by_cases e : j = i
    · rw [e, pk_us]; decide
    · rw [pk_un e]; exact hs.1 j hj hk
  obtain ⟨a, b⟩ := hs.2 N hc
  refine ⟨fun j hj hm => ?_, b⟩
  by_cases e : j = i
  · rw [e]; exact h N hc a b
  · rw [pk_un e] at hm; exact a j hj hm
theorem nx_97 (hP : xv_P K n a_kinds a_firsts a_seconds a_thirds a_home a_mate a_operands) (hR : sh_R T n a_same a_fixed a_worth) (hg : ∀ j, j < n → sh_good T j) {post : Int32 → SX → Prop} {i M : Nat} {nd1 vn : Nat → Int32} {Z : Prop} (hi : i < n)
    (hend0 : Z → nx_ops K a_firsts a_seconds a_thirds T nd1 3 i → post 0 (f_lines, f_studied, f_wrong, f_wrongAt, f_brief, f_on, f_dropped, f_steps, f_nextLine, f_repeats, a_kinds, a_firsts, a_seconds, a_thirds, a_inputs, a_home, a_depth, a_closer, a_mate, a_operands, a_varies, a_parted, a_variableVaries, a_same, a_fixed, a_worth, nd1, vn, a_values, a_variables, a_outputs, a_cells, a_whole, a_waiting))
    (hend1 : ∀ nd, nx_S K a_firsts a_seconds a_thirds T n nd vn → nx_mu nd vn < M → post 1 (f_lines, f_studied, f_wrong, f_wrongAt, f_brief, f_on, f_dropped, f_steps, f_nextLine, f_repeats, a_kinds, a_firsts, a_seconds, a_thirds, a_inputs, a_home, a_depth, a_closer, a_mate, a_operands, a_varies, a_parted, a_variableVaries, a_same, a_fixed, a_worth, nd, vn, a_values, a_variables, a_outputs, a_cells, a_whole, a_waiting)) :
    ∀ (d t : Nat) (x2 : Int32) (nd : Nat → Int32), t + d = 3 → ((x2 = 0 ∧ Z ∧ nd = nd1 ∧ nx_mu nd vn ≤ M ∧ nx_ops K a_firsts a_seconds a_thirds T nd1 t i) ∨ (x2 = 1 ∧ nx_mu nd vn < M)) → nx_S K a_firsts a_seconds a_thirds T n nd vn → nd i ≠ 0 → wX_spreadNeed_97 post (nI i) f_lines f_studied f_wrong f_wrongAt f_brief f_on f_dropped f_steps f_nextLine f_repeats (d + 1) x2 (nI t) a_kinds a_firsts a_seconds a_thirds a_inputs a_home a_depth a_closer a_mate a_operands a_varies a_parted a_variableVaries a_same a_fixed a_worth nd vn a_values a_variables a_outputs a_cells a_whole a_waiting := by
  obtain ⟨hn, hK, hgd, h4, hok, hH, hO⟩ := hP
  intro d
  induction d with
  | zero =>
    intro t x2 nd ht hst hs hne
    cases (show t = 3 by omega)
    refine br_t (by decide) ?_
    rcases hst with ⟨rfl, hZ, rfl, _, ho⟩ | ⟨rfl, hmu⟩
    · exact ⟨xs_nb0, hend0 hZ ho⟩
    · exact ⟨xs_nb1, hend1 nd hs hmu⟩
  | succ d ih =>
    intro t x2 nd ht hst hs hne
    refine br_f (nI_ge (b := 3) (by omega) (by decide)) ?_
    have stay : (sc_us (K i) t → (T (T (sh_o a_firsts a_seconds a_thirds t i)).1).2.1 = false → nd (T (sh_o a_firsts a_seconds a_thirds t i)).1 ≠ 0) → wX_spreadNeed_97 post (nI i) f_lines f_studied f_wrong f_wrongAt f_brief f_on f_dropped f_steps f_nextLine f_repeats (d + 1) x2 (nI (t + 1)) a_kinds a_firsts a_seconds a_thirds a_inputs a_home a_depth a_closer a_mate a_operands a_varies a_parted a_variableVaries a_same a_fixed a_worth nd vn a_values a_variables a_outputs a_cells a_whole a_waiting := by
      intro hx
      refine ih (t + 1) x2 nd (by omega) ?_ hs hne
      rcases hst with ⟨e0, hZ, e1, hm, ho⟩ | h
      · refine Or.inl ⟨e0, hZ, e1, hm, fun s hs' hu hc => ?_⟩
        by_cases e : s = t
        · rw [e] at hu hc ⊢; rw [← e1]; exact hx hu hc
        · exact ho s (by omega) hu hc
      · exact Or.inr h
    refine sx_stands (K := K) (T := T) (w := n) hn hi (by omega) (by omega) (hO i hi) (hok i hi) (fun j hj => (hR j hj).1) ?_
    by_cases hu : sc_us (K i) t
    · obtain ⟨o, eo, _⟩ := sh_ov_lt (by omega) (hok i hi t (by omega) hu)
      have g := hg _ (show sh_o a_firsts a_seconds a_thirds t i < n by omega)
      have glt : (T (sh_o a_firsts a_seconds a_thirds t i)).1 < n := by have := g.1; omega
      rw [sh_v_u hu]
      generalize ex : (T (sh_o a_firsts a_seconds a_thirds t i)).1 = x at *
      have cx : (nI x).toNatClampNeg = x := nI_clamp (by omega)
      have ix : vp_in (nI x) 48 := vp_in_nI (by omega) (by omega)
      refine br_f (nI_m1ne (by omega)) ⟨ix, ?_⟩
      rw [cx, (hR x glt).2.1]
      refine br_c (fun hf => ⟨ix, br_c (fun hz => ⟨ix, nm_r (e' := upd nd x 1) (by rw [xv_nar1]) (nm_r (nI_1 t) (ih (t + 1) 1 _ (by omega) (Or.inr ⟨rfl, ?_⟩) (nx_mark hs (fun N hc a b => ?_)) ?_))⟩) (fun hz => nm_r (nI_1 t) (stay (fun _ _ => hz)))⟩) (fun hf => nm_r (nI_1 t) (stay (fun _ hc => by rw [sh_bI_n hf] at hc; cases hc)))
      · have := cz_lt (x := 1) hz (by decide) 48 (by omega)
        unfold nx_mu at hst ⊢
        rcases hst with ⟨_, _, _, h, _⟩ | ⟨_, h⟩ <;> omega
      · have := (hc i hi).2.2 (a i hi hne) t (by omega) hu
        rw [ex] at this
        exact this (sh_bI_0 hf)
      · by_cases e : i = x
        · rw [e, pk_us]; decide
        · rw [pk_un e]; exact hne
    · rw [sh_v_n hu]
      exact br_t rfl (nm_r (nI_1 t) (stay (fun h => absurd h hu)))
theorem nx_spread (hP : xv_P K n a_kinds a_firsts a_seconds a_thirds a_home a_mate a_operands) (hR : sh_R T n a_same a_fixed a_worth) (hg : ∀ j, j < n → sh_good T j) {post : Int32 → SX → Prop} {i : Nat} (hi : i < n) (hs : nx_S K a_firsts a_seconds a_thirds T n a_needed a_variableNeeded)
    (h0 : nx_sat K a_firsts a_seconds a_thirds T a_needed a_variableNeeded i → post 0 (f_lines, f_studied, f_wrong, f_wrongAt, f_brief, f_on, f_dropped, f_steps, f_nextLine, f_repeats, a_kinds, a_firsts, a_seconds, a_thirds, a_inputs, a_home, a_depth, a_closer, a_mate, a_operands, a_varies, a_parted, a_variableVaries, a_same, a_fixed, a_worth, a_needed, a_variableNeeded, a_values, a_variables, a_outputs, a_cells, a_whole, a_waiting))
    (h1 : ∀ nd vn, nx_S K a_firsts a_seconds a_thirds T n nd vn → nx_mu nd vn < nx_mu a_needed a_variableNeeded → post 1 (f_lines, f_studied, f_wrong, f_wrongAt, f_brief, f_on, f_dropped, f_steps, f_nextLine, f_repeats, a_kinds, a_firsts, a_seconds, a_thirds, a_inputs, a_home, a_depth, a_closer, a_mate, a_operands, a_varies, a_parted, a_variableVaries, a_same, a_fixed, a_worth, nd, vn, a_values, a_variables, a_outputs, a_cells, a_whole, a_waiting)) : wpX_spreadNeed post (f_lines, f_studied, f_wrong, f_wrongAt, f_brief, f_on, f_dropped, f_steps, f_nextLine, f_repeats, a_kinds, a_firsts, a_seconds, a_thirds, a_inputs, a_home, a_depth, a_closer, a_mate, a_operands, a_varies, a_parted, a_variableVaries, a_same, a_fixed, a_worth, a_needed, a_variableNeeded, a_values, a_variables, a_outputs, a_cells, a_whole, a_waiting) (nI i) := by
  have hP' := hP
  obtain ⟨hn, hK, hgd, h4, hok, hH, hO⟩ := hP'
  have ci : (nI i).toNatClampNeg = i := nI_clamp (by omega)
  have ii : vp_in (nI i) 48 := vp_in_nI (by omega) (by omega)
  have ki := hK i hi
  -- from here on: nothing changed so far, or something
  have t45 : ∀ (x2 : Int32) (nd : Nat → Int32), ((x2 = 0 ∧ nd = a_needed ∧ (K i = 17 → a_variableNeeded (a_firsts i).toNatClampNeg ≠ 0 → nd i ≠ 0)) ∨ (x2 = 1 ∧ K i = 17 ∧ nd i ≠ 0 ∧ nx_mu nd a_variableNeeded < nx_mu a_needed a_variableNeeded)) → nx_S K a_firsts a_seconds a_thirds T n nd a_variableNeeded → wX_spreadNeed_45 post (nI i) x2 f_lines f_studied f_wrong f_wrongAt f_brief f_on f_dropped f_steps f_nextLine f_repeats a_kinds a_firsts a_seconds a_thirds a_inputs a_home a_depth a_closer a_mate a_operands a_varies a_parted a_variableVaries a_same a_fixed a_worth nd a_variableNeeded a_values a_variables a_outputs a_cells a_whole a_waiting := by
    intro x2 nd hst hs'
    refine ⟨ii, ?_⟩
    rw [ci]
    refine br_c (fun hz => ?_) (fun hz => ⟨ii, ?_⟩)
    · rcases hst with ⟨_, e, hp⟩ | ⟨_, _, h, _⟩
      · subst e
        exact h0 ⟨hp, fun h => absurd hz h⟩
      · exact absurd hz h
    · rw [ki.1]
      have same : (K i = 11 → a_variableNeeded (a_firsts i).toNatClampNeg ≠ 0) → ∃ m, wX_spreadNeed_97 post (nI i) f_lines f_studied f_wrong f_wrongAt f_brief f_on f_dropped f_steps f_nextLine f_repeats m x2 0 a_kinds a_firsts a_seconds a_thirds a_inputs a_home a_depth a_closer a_mate a_operands a_varies a_parted a_variableVaries a_same a_fixed a_worth nd a_variableNeeded a_values a_variables a_outputs a_cells a_whole a_waiting := by
        intro h11
        refine ⟨4, ?_⟩
        rcases hst with ⟨rfl, e, hp⟩ | ⟨rfl, _, _, hmu⟩
        · subst e
          exact nx_97 (K := K) (n := n) (T := T) (nd1 := nd) (M := nx_mu nd a_variableNeeded) (Z := True) hP hR hg hi (fun _ ho => h0 ⟨hp, fun _ => ⟨h11, ho⟩⟩) (fun nd' hs2 hm => h1 nd' _ hs2 hm) 3 0 0 nd rfl (Or.inl ⟨rfl, trivial, rfl, Nat.le_refl _, fun s hs => by omega⟩) hs' hz
        · exact nx_97 (K := K) (n := n) (T := T) (nd1 := fun _ => 0) (M := nx_mu a_needed a_variableNeeded) (Z := False) hP hR hg hi (fun hZ => hZ.elim) (fun nd' hs2 hm => h1 nd' _ hs2 hm) 3 0 1 nd rfl (Or.inr ⟨rfl, hmu⟩) hs' hz
      refine pk_eq (K i) 11 (fun e11 => ⟨ii, ?_⟩) (fun e11 => same (fun h => absurd h e11))
      obtain ⟨a, ha, ea⟩ := h4 i hi (by omega)
      rw [ea, nI_clamp (by omega)] at same ⊢
      have ina : vp_in (nI a) 4 := vp_in_nI ha (by omega)
      refine ⟨ina, br_c (fun hv => ⟨ii, ina, nm_r (e' := upd a_variableNeeded a 1) (by rw [xv_nar1]) ⟨4, ?_⟩⟩) (fun hv => same (fun _ => hv))⟩
      refine nx_97 (K := K) (n := n) (T := T) (nd1 := fun _ => 0) (M := nx_mu a_needed a_variableNeeded) (Z := False) hP hR hg hi (fun hZ => hZ.elim) (fun nd' hs2 hm => h1 nd' _ hs2 hm) 3 0 1 nd rfl (Or.inr ⟨rfl, ?_⟩) ⟨hs'.1, fun N hc => ?_⟩ hz
      · have := cz_lt (x := 1) hv (by decide) 4 ha
        unfold nx_mu at hst ⊢
        rcases hst with ⟨_, e, _⟩ | ⟨_, _, _, h⟩
        · rw [e]; omega
        · omega
      · obtain ⟨p, q⟩ := hs'.2 N hc
        refine ⟨p, fun v hv' hm => ?_⟩
        by_cases e : v = a
        · rw [e]; exact ⟨i, hi, e11, ea, p i hi hz⟩
        · rw [pk_un e] at hm; exact q v hv' hm
  refine ⟨ii, ?_⟩
  rw [ci, ki.1]
  refine pk_eq (K i) 17 (fun e17 => ⟨ii, ?_⟩) (fun e17 => t45 0 a_needed (Or.inl ⟨rfl, rfl, fun h => absurd h e17⟩) hs)
  obtain ⟨a, ha, ea⟩ := h4 i hi (by omega)
  rw [ea, nI_clamp (by omega)] at t45 ⊢
  have ina : vp_in (nI a) 4 := vp_in_nI ha (by omega)
  refine ⟨ina, br_c (fun hv => t45 0 a_needed (Or.inl ⟨rfl, rfl, fun _ h => absurd hv h⟩) hs) (fun hv => ⟨ii, br_c (fun hz => ⟨ii, nm_r (e' := upd a_needed i 1) (by rw [xv_nar1]) (t45 1 _ (Or.inr ⟨rfl, e17, ?_, ?_⟩) (nx_mark hs (fun N hc p q => ?_)))⟩) (fun hz => t45 0 a_needed (Or.inl ⟨rfl, rfl, fun _ _ => hz⟩) hs)⟩)⟩
  · rw [pk_us]; decide
  · have := cz_lt (x := 1) hz (by decide) 48 (by omega)
    unfold nx_mu; omega
  · obtain ⟨j, hj, kj, ej, nj⟩ := q a ha hv
    exact (hc i hi).2.1 e17 ⟨j, hj, kj, by rw [ej, ea], nj⟩
theorem nx_93 (hP : xv_P K n a_kinds a_firsts a_seconds a_thirds a_home a_mate a_operands) (hR : sh_R T n a_same a_fixed a_worth) (hg : ∀ j, j < n → sh_good T j) {post : SX → Prop} {J : Int32 → Int32 → Int32 → Int32 → Int32 → Int32 → Int32 → Int32 → Int32 → Int32 → Int32 → Int32 → (Nat → Int32) → (Nat → Int32) → (Nat → Int32) → (Nat → Int32) → (Nat → Int32) → (Nat → Int32) → (Nat → Int32) → (Nat → Int32) → (Nat → Int32) → (Nat → Int32) → (Nat → Int32) → (Nat → Int32) → (Nat → Int32) → (Nat → Int32) → (Nat → Int32) → (Nat → Int32) → (Nat → Int32) → (Nat → Int32) → (Nat → Int32) → (Nat → Int32) → (Nat → Int32) → (Nat → Int32) → (Nat → Int32) → (Nat → Int32) → Prop} {x2 : Nat}
    (hend0 : (∀ j, j < n → nx_sat K a_firsts a_seconds a_thirds T a_needed a_variableNeeded j) → J 0 (nI (x2 + 1)) f_lines f_studied f_wrong f_wrongAt f_brief f_on f_dropped f_steps f_nextLine f_repeats a_kinds a_firsts a_seconds a_thirds a_inputs a_home a_depth a_closer a_mate a_operands a_varies a_parted a_variableVaries a_same a_fixed a_worth a_needed a_variableNeeded a_values a_variables a_outputs a_cells a_whole a_waiting)
    (hend1 : ∀ nd vn, nx_S K a_firsts a_seconds a_thirds T n nd vn → nx_mu nd vn < nx_mu a_needed a_variableNeeded → J 1 (nI (x2 + 1)) f_lines f_studied f_wrong f_wrongAt f_brief f_on f_dropped f_steps f_nextLine f_repeats a_kinds a_firsts a_seconds a_thirds a_inputs a_home a_depth a_closer a_mate a_operands a_varies a_parted a_variableVaries a_same a_fixed a_worth nd vn a_values a_variables a_outputs a_cells a_whole a_waiting) :
    ∀ (m : Nat) (x1 : Int32) (nd vn : Nat → Int32), m ≤ n → ((x1 = 0 ∧ nd = a_needed ∧ vn = a_variableNeeded ∧ ∀ j, m ≤ j → j < n → nx_sat K a_firsts a_seconds a_thirds T nd vn j) ∨ (x1 = 1 ∧ nx_mu nd vn < nx_mu a_needed a_variableNeeded)) → nx_S K a_firsts a_seconds a_thirds T n nd vn →
      wX_findNeeded_93 post J (nI x2) (m + 1) x1 (nI m + (-1)) f_lines f_studied f_wrong f_wrongAt f_brief f_on f_dropped f_steps f_nextLine f_repeats a_kinds a_firsts a_seconds a_thirds a_inputs a_home a_depth a_closer a_mate a_operands a_varies a_parted a_variableVaries a_same a_fixed a_worth nd vn a_values a_variables a_outputs a_cells a_whole a_waiting := by
  have hn := hP.1
  intro m
  induction m with
  | zero =>
    intro x1 nd vn hm hst hs
    refine br_t (by decide) (nm_r (nI_1 x2) ?_)
    rcases hst with ⟨rfl, rfl, rfl, hall⟩ | ⟨rfl, hmu⟩
    · exact hend0 (fun j hj => hall j (by omega) hj)
    · exact hend1 nd vn hs hmu
  | succ m ih =>
    intro x1 nd vn hm hst hs
    rw [pk_m1]
    refine br_f (nI_pos (by omega)) ?_
    refine nx_spread (K := K) (n := n) (T := T) hP hR hg (by omega) hs (fun hsat => ?_) (fun nd' vn' hs' hmu' => ?_)
    · rcases hst with ⟨rfl, e1, e2, hall⟩ | ⟨rfl, hmu⟩
      · refine br_t rfl (br_t rfl (nm_e (ih 0 nd vn (by omega) (Or.inl ⟨rfl, e1, e2, fun j hj hjn => ?_⟩) hs)))
        by_cases e : j = m
        · rw [e]; exact hsat
        · exact hall j (by omega) hjn
      · exact br_f (by decide) (nm_e (ih 1 nd vn (by omega) (Or.inr ⟨rfl, hmu⟩) hs))
    · have go : wX_findNeeded_93 post J (nI x2) (m + 1) 1 (nI m + (-1)) f_lines f_studied f_wrong f_wrongAt f_brief f_on f_dropped f_steps f_nextLine f_repeats a_kinds a_firsts a_seconds a_thirds a_inputs a_home a_depth a_closer a_mate a_operands a_varies a_parted a_variableVaries a_same a_fixed a_worth nd' vn' a_values a_variables a_outputs a_cells a_whole a_waiting := ih 1 nd' vn' (by omega) (Or.inr ⟨rfl, by
        rcases hst with ⟨_, rfl, rfl, _⟩ | ⟨_, h⟩
        · exact hmu'
        · omega⟩) hs'
      exact br_c (fun _ => br_f (by decide) (nm_e go)) (fun _ => nm_e go)
theorem nx_73 (hP : xv_P K n a_kinds a_firsts a_seconds a_thirds a_home a_mate a_operands) (hR : sh_R T n a_same a_fixed a_worth) (hg : ∀ j, j < n → sh_good T j) {post : SX → Prop}
    (hpost : ∀ nd vn, nx_S K a_firsts a_seconds a_thirds T n nd vn → (∀ j, j < n → nx_sat K a_firsts a_seconds a_thirds T nd vn j) → post (nI n, f_studied, f_wrong, f_wrongAt, f_brief, f_on, f_dropped, f_steps, f_nextLine, f_repeats, a_kinds, a_firsts, a_seconds, a_thirds, a_inputs, a_home, a_depth, a_closer, a_mate, a_operands, a_varies, a_parted, a_variableVaries, a_same, a_fixed, a_worth, nd, vn, a_values, a_variables, a_outputs, a_cells, a_whole, a_waiting)) :
    ∀ (M t : Nat) (nd vn : Nat → Int32), nx_mu nd vn ≤ M → t + M ≤ 101 → nx_S K a_firsts a_seconds a_thirds T n nd vn → wX_findNeeded_73 post (M + 2) 1 (nI t) (nI n) f_studied f_wrong f_wrongAt f_brief f_on f_dropped f_steps f_nextLine f_repeats a_kinds a_firsts a_seconds a_thirds a_inputs a_home a_depth a_closer a_mate a_operands a_varies a_parted a_variableVaries a_same a_fixed a_worth nd vn a_values a_variables a_outputs a_cells a_whole a_waiting := by
  intro M
  have hn := hP.1
  have e1 : nI n - 1 = nI n + (-1) := by rw [Int32.sub_eq_add_neg]
  induction M with
  | zero =>
    intro t nd vn hmu ht hs
    refine br_f (nI_ge (b := 256) (by omega) (by decide)) (br_f (by decide) (nm_r e1 ⟨n + 1, ?_⟩))
    refine nx_93 (K := K) (n := n) (T := T) (post := post) (J := wX_findNeeded_73 post 1) hP hR hg (fun hall => br_f (nI_ge (b := 256) (by omega) (by decide)) (br_t rfl (hpost nd vn hs hall))) (fun nd' vn' _ h => absurd h (by omega)) n 0 nd vn (Nat.le_refl _) (Or.inl ⟨rfl, rfl, rfl, fun j hj hjn => by omega⟩) hs
  | succ M ih =>
    intro t nd vn hmu ht hs
    refine br_f (nI_ge (b := 256) (by omega) (by decide)) (br_f (by decide) (nm_r e1 ⟨n + 1, ?_⟩))
    refine nx_93 (K := K) (n := n) (T := T) (post := post) (J := wX_findNeeded_73 post (M + 2)) hP hR hg (fun hall => br_f (nI_ge (b := 256) (by omega) (by decide)) (br_t rfl (hpost nd vn hs hall))) (fun nd' vn' hs' h => ih (t + 1) nd' vn' (by omega) (by omega) hs') n 0 nd vn (Nat.le_refl _) (Or.inl ⟨rfl, rfl, rfl, fun j hj hjn => by omega⟩) hs
theorem nx_51 {post : SX → Prop} (h : ∃ m, wX_findNeeded_73 post m 1 0 f_lines f_studied f_wrong f_wrongAt f_brief f_on f_dropped f_steps f_nextLine f_repeats a_kinds a_firsts a_seconds a_thirds a_inputs a_home a_depth a_closer a_mate a_operands a_varies a_parted a_variableVaries a_same a_fixed a_worth a_needed (cl_z 4 a_variableNeeded) a_values a_variables a_outputs a_cells a_whole a_waiting) : ∀ d i : Nat, i + d = 4 → wX_findNeeded_51 post f_lines f_studied f_wrong f_wrongAt f_brief f_on f_dropped f_steps f_nextLine f_repeats (d + 1) (nI i) a_kinds a_firsts a_seconds a_thirds a_inputs a_home a_depth a_closer a_mate a_operands a_varies a_parted a_variableVaries a_same a_fixed a_worth a_needed (cl_z i a_variableNeeded) a_values a_variables a_outputs a_cells a_whole a_waiting := by
  intro d
  induction d with
  | zero => intro i hi; cases (show i = 4 by omega); exact br_t (by decide) h
  | succ d ih =>
    intro i hi
    exact br_f (nI_ge (b := 4) (by omega) (by decide)) ⟨vp_in_nI (by omega) (by omega), nm_r (by rw [nI_clamp (by omega), xv_nar0]; exact cl_s i _) (nm_r (nI_1 i) (ih (i + 1) (by omega)))⟩
/-- X's first marks -/
def nx_i (K : Nat → Nat) (i : Nat) (nd : Nat → Int32) : Prop := ∀ j, j < i → (nd j ≠ 0 ↔ 16 ≤ K j ∧ K j ≠ 17)
theorem nx_2 (hn : n ≤ 48) (hK : ∀ j, j < n → a_kinds j = nI (K j) ∧ K j ≤ 25) {post : SX → Prop} (h : ∀ nd, nx_i K n nd → ∃ m, wX_findNeeded_73 post m 1 0 (nI n) f_studied f_wrong f_wrongAt f_brief f_on f_dropped f_steps f_nextLine f_repeats a_kinds a_firsts a_seconds a_thirds a_inputs a_home a_depth a_closer a_mate a_operands a_varies a_parted a_variableVaries a_same a_fixed a_worth nd (cl_z 4 a_variableNeeded) a_values a_variables a_outputs a_cells a_whole a_waiting) : ∀ (d i : Nat) (nd : Nat → Int32), i + d = n → nx_i K i nd → wX_findNeeded_2 post (nI n) f_studied f_wrong f_wrongAt f_brief f_on f_dropped f_steps f_nextLine f_repeats (d + 1) (nI i) a_kinds a_firsts a_seconds a_thirds a_inputs a_home a_depth a_closer a_mate a_operands a_varies a_parted a_variableVaries a_same a_fixed a_worth nd a_variableNeeded a_values a_variables a_outputs a_cells a_whole a_waiting := by
  intro d
  induction d with
  | zero =>
    intro i nd hi hnd
    cases (show i = n by omega)
    refine br_t (nI_le (Nat.le_refl _) (by omega)) ⟨5, ?_⟩
    rw [← cl_0 a_variableNeeded]
    exact nx_51 (h nd hnd) 4 0 rfl
  | succ d ih =>
    intro i nd hi hnd
    have ci : (nI i).toNatClampNeg = i := nI_clamp (by omega)
    have ii : vp_in (nI i) 48 := vp_in_nI (by omega) (by omega)
    have ki := hK i (by omega)
    have step : ∀ x : Int32, (x ≠ 0 ↔ 16 ≤ K i ∧ K i ≠ 17) → wX_findNeeded_2 post (nI n) f_studied f_wrong f_wrongAt f_brief f_on f_dropped f_steps f_nextLine f_repeats (d + 1) (nI (i + 1)) a_kinds a_firsts a_seconds a_thirds a_inputs a_home a_depth a_closer a_mate a_operands a_varies a_parted a_variableVaries a_same a_fixed a_worth (upd nd i x) a_variableNeeded a_values a_variables a_outputs a_cells a_whole a_waiting := fun x hx =>
      ih (i + 1) _ (by omega) (fun j hj => by
        by_cases e : j = i
        · rw [e, pk_us]; exact hx
        · rw [pk_un e]; exact hnd j (by omega))
    refine br_f (nI_ge (by omega) (by omega)) ⟨ii, ?_⟩
    rw [ci, ki.1]
    exact pk_lt (K i) 16 (fun h16 => ⟨ii, nm_r (by rw [xv_nar0]) (nm_r (nI_1 i) (step 0 ⟨fun h => absurd rfl h, fun h => by omega⟩))⟩) (fun h16 => ⟨ii, pk_eq (K i) 17 (fun h17 => ⟨ii, nm_r (by rw [xv_nar0]) (nm_r (nI_1 i) (step 0 ⟨fun h => absurd rfl h, fun h => by omega⟩))⟩) (fun h17 => ⟨ii, nm_r (by rw [xv_nar1]) (nm_r (nI_1 i) (step 1 ⟨fun _ => by omega, fun _ => by decide⟩))⟩)⟩)
theorem nx_need (hP : xv_P K n a_kinds a_firsts a_seconds a_thirds a_home a_mate a_operands) (hR : sh_R T n a_same a_fixed a_worth) (hg : ∀ j, j < n → sh_good T j) {post : SX → Prop}
    (hpost : ∀ nd vn, nd_least K a_firsts a_seconds a_thirds T n (fun j => nd j ≠ 0) → post (nI n, f_studied, f_wrong, f_wrongAt, f_brief, f_on, f_dropped, f_steps, f_nextLine, f_repeats, a_kinds, a_firsts, a_seconds, a_thirds, a_inputs, a_home, a_depth, a_closer, a_mate, a_operands, a_varies, a_parted, a_variableVaries, a_same, a_fixed, a_worth, nd, vn, a_values, a_variables, a_outputs, a_cells, a_whole, a_waiting)) : wpX_findNeeded post (nI n, f_studied, f_wrong, f_wrongAt, f_brief, f_on, f_dropped, f_steps, f_nextLine, f_repeats, a_kinds, a_firsts, a_seconds, a_thirds, a_inputs, a_home, a_depth, a_closer, a_mate, a_operands, a_varies, a_parted, a_variableVaries, a_same, a_fixed, a_worth, a_needed, a_variableNeeded, a_values, a_variables, a_outputs, a_cells, a_whole, a_waiting) := by
  have hP' := hP
  obtain ⟨hn, hK, hgd, h4, hok, hH, hO⟩ := hP'
  refine ⟨n + 1, nx_2 (K := K) (n := n) hn hK (fun nd hnd => ?_) n 0 a_needed (by omega) (fun j hj => by omega)⟩
  refine ⟨_, nx_73 (K := K) (n := n) (T := T) hP hR hg (fun nd' vn' hs hall => hpost nd' vn' ⟨fun i hi => ⟨hs.1 i hi, fun k17 ⟨j, hj, kj, ej, nj⟩ => ?_, fun ni s hs' hu hc => ((hall i hi).2 ni).2 s hs' hu hc⟩, fun N hc i hi h => (hs.2 N hc).1 i hi h⟩) 101 0 nd _ ?_ (by omega) ⟨fun j hj hk => (hnd j hj).mpr hk, fun N hc => ⟨fun i hi hm => (hc i hi).1 ((hnd i hi).mp hm), fun v hv hm => absurd (cl_lt _ hv) hm⟩⟩⟩
  · have := ((hall j hj).2 nj).1 kj
    rw [ej] at this
    exact (hall i hi).1 k17 this
  · have := cz_le nd 48
    have := cz_le (cl_z 4 a_variableNeeded) 4
    unfold nx_mu; omega
end
