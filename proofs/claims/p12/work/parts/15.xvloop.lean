section
variable {K : Nat → Nat} {n : Nat}
variable {f_lines f_studied f_wrong f_wrongAt f_brief f_on f_dropped f_steps f_nextLine f_repeats : Int32} {a_kinds a_firsts a_seconds a_thirds a_inputs a_home a_depth a_closer a_mate a_operands a_varies a_parted a_variableVaries a_same a_fixed a_worth a_needed a_variableNeeded a_values a_variables a_outputs a_cells a_whole a_waiting : Nat → Int32}
/-- what all of X's rounds know of the program -/
def xv_P (K : Nat → Nat) (n : Nat) (kinds A B C home mate operands : Nat → Int32) : Prop :=
  n ≤ 48 ∧ (∀ j, j < n → kinds j = nI (K j) ∧ K j ≤ 25) ∧ sc_good K n ∧ (∀ j, j < n → (K j = 1 ∨ K j = 11 ∨ K j = 16 ∨ K j = 17 ∨ K j = 18) → ∃ a, a < 4 ∧ A j = nI a) ∧
  (∀ j, j < n → ∀ s, s < 3 → sc_us (K j) s → sc_ov K A B C s j) ∧ (∀ j, j < n → home j = nI (sc_hd (sc_lf K j)) ∧ mate j = nI (sc_mt K j)) ∧
  (∀ j, j < n → ∀ s, s < 3 → (sc_us (K j) s → operands (3 * j + s) = sc_o3 A B C s j) ∧ (¬ sc_us (K j) s → operands (3 * j + s) = -1))
def xv_sat (K : Nat → Nat) (A B C va pa vv : Nat → Int32) (i : Nat) : Prop :=
  vr_s1 K A B C (xv_V va) (xv_V pa) (xv_V vv) i ∧ vr_s2 K A (xv_V va) (xv_V pa) i ∧ vr_s3 K A (xv_V va) (xv_V pa) i
theorem xv_78 (hP : xv_P K n a_kinds a_firsts a_seconds a_thirds a_home a_mate a_operands) {post : SX → Prop} {J : Int32 → Int32 → Int32 → Int32 → Int32 → Int32 → Int32 → Int32 → Int32 → Int32 → Int32 → Int32 → (Nat → Int32) → (Nat → Int32) → (Nat → Int32) → (Nat → Int32) → (Nat → Int32) → (Nat → Int32) → (Nat → Int32) → (Nat → Int32) → (Nat → Int32) → (Nat → Int32) → (Nat → Int32) → (Nat → Int32) → (Nat → Int32) → (Nat → Int32) → (Nat → Int32) → (Nat → Int32) → (Nat → Int32) → (Nat → Int32) → (Nat → Int32) → (Nat → Int32) → (Nat → Int32) → (Nat → Int32) → (Nat → Int32) → (Nat → Int32) → Prop} {x2 : Nat}
    (hend0 : (∀ j, j < n → xv_sat K a_firsts a_seconds a_thirds a_varies a_parted a_variableVaries j) → J 0 (nI (x2 + 1)) (nI n) f_studied f_wrong f_wrongAt f_brief f_on f_dropped f_steps f_nextLine f_repeats a_kinds a_firsts a_seconds a_thirds a_inputs a_home a_depth a_closer a_mate a_operands a_varies a_parted a_variableVaries a_same a_fixed a_worth a_needed a_variableNeeded a_values a_variables a_outputs a_cells a_whole a_waiting)
    (hend1 : ∀ va pa vv, vr_snd K a_firsts a_seconds a_thirds n (xv_V va) (xv_V pa) (xv_V vv) → (∀ v, v < 4 → vv v = 0 ∨ vv v = 1) → xv_mu va pa vv < xv_mu a_varies a_parted a_variableVaries → J 1 (nI (x2 + 1)) (nI n) f_studied f_wrong f_wrongAt f_brief f_on f_dropped f_steps f_nextLine f_repeats a_kinds a_firsts a_seconds a_thirds a_inputs a_home a_depth a_closer a_mate a_operands va pa vv a_same a_fixed a_worth a_needed a_variableNeeded a_values a_variables a_outputs a_cells a_whole a_waiting) :
    ∀ (d i : Nat) (x1 : Int32) (va pa vv : Nat → Int32), i + d = n → ((x1 = 0 ∧ va = a_varies ∧ pa = a_parted ∧ vv = a_variableVaries ∧ ∀ j, j < i → xv_sat K a_firsts a_seconds a_thirds va pa vv j) ∨ (x1 = 1 ∧ xv_mu va pa vv < xv_mu a_varies a_parted a_variableVaries)) → vr_snd K a_firsts a_seconds a_thirds n (xv_V va) (xv_V pa) (xv_V vv) → (∀ v, v < 4 → vv v = 0 ∨ vv v = 1) →
      wX_findVaried_78 post J (nI x2) (d + 1) x1 (nI i) (nI n) f_studied f_wrong f_wrongAt f_brief f_on f_dropped f_steps f_nextLine f_repeats a_kinds a_firsts a_seconds a_thirds a_inputs a_home a_depth a_closer a_mate a_operands va pa vv a_same a_fixed a_worth a_needed a_variableNeeded a_values a_variables a_outputs a_cells a_whole a_waiting := by
  obtain ⟨hn, hK, hg, h4, hok, hH, hO⟩ := hP
  intro d
  induction d with
  | zero =>
    intro i x1 va pa vv hi hst hs hb
    cases (show i = n by omega)
    refine br_t (nI_le (Nat.le_refl _) (by omega)) (nm_r (nI_1 x2) ?_)
    rcases hst with ⟨rfl, rfl, rfl, rfl, hall⟩ | ⟨rfl, hmu⟩
    · exact hend0 hall
    · exact hend1 va pa vv hs hb hmu
  | succ d ih =>
    intro i x1 va pa vv hi hst hs hb
    have next0 : xv_sat K a_firsts a_seconds a_thirds va pa vv i → wX_findVaried_107 post J (wX_findVaried_78 post J (nI x2) (d + 1)) x1 (nI x2) (nI i) 0 (nI n) f_studied f_wrong f_wrongAt f_brief f_on f_dropped f_steps f_nextLine f_repeats a_kinds a_firsts a_seconds a_thirds a_inputs a_home a_depth a_closer a_mate a_operands va pa vv a_same a_fixed a_worth a_needed a_variableNeeded a_values a_variables a_outputs a_cells a_whole a_waiting := by
      intro hsat
      rcases hst with ⟨rfl, e1, e2, e3, hall⟩ | ⟨rfl, hmu⟩
      · refine br_t rfl (br_t rfl (nm_r (nI_1 i) (ih (i + 1) 0 va pa vv (by omega) (Or.inl ⟨rfl, e1, e2, e3, fun j hj => ?_⟩) hs hb)))
        by_cases e : j = i
        · rw [e]; exact hsat
        · exact hall j (by omega)
      · exact br_f (by decide) (nm_r (nI_1 i) (ih (i + 1) 1 va pa vv (by omega) (Or.inr ⟨rfl, hmu⟩) hs hb))
    have next1 : ∀ va' pa' vv', xv_up K a_firsts a_seconds a_thirds n va pa vv va' pa' vv' → wX_findVaried_107 post J (wX_findVaried_78 post J (nI x2) (d + 1)) x1 (nI x2) (nI i) 1 (nI n) f_studied f_wrong f_wrongAt f_brief f_on f_dropped f_steps f_nextLine f_repeats a_kinds a_firsts a_seconds a_thirds a_inputs a_home a_depth a_closer a_mate a_operands va' pa' vv' a_same a_fixed a_worth a_needed a_variableNeeded a_values a_variables a_outputs a_cells a_whole a_waiting := by
      intro va' pa' vv' hu
      have hmu' : xv_mu va' pa' vv' < xv_mu a_varies a_parted a_variableVaries := by
        have := hu.2.1
        rcases hst with ⟨_, rfl, rfl, rfl, _⟩ | ⟨_, hmu⟩
        · exact this
        · omega
      have go := ih (i + 1) 1 va' pa' vv' (by omega) (Or.inr ⟨rfl, hmu'⟩) (hu.1 hs) (hu.2.2 hb)
      exact br_c (fun _ => br_f (by decide) (nm_r (nI_1 i) go)) (fun _ => nm_r (nI_1 i) go)
    refine br_f (nI_ge (by omega) (by omega)) ?_
    refine xs_gives hK hn (by omega) (fun h16 => br_f (by decide) ?_) (fun h16 => br_t rfl ?_)
    · refine xv_spreadValue (K := K) (n := n) hn hK h4 hb (by omega) (hO i (by omega)) (hok i (by omega)) h16 (fun h => next0 ⟨⟨fun _ => h, fun h' => absurd h' (by omega)⟩, fun h' => absurd h' (by omega), fun h' => absurd h' (by omega)⟩) next1
    · exact xv_spreadOther (K := K) (n := n) hn hK hg h4 hok hH (by omega) h16 next0 next1
theorem xv_63 (hP : xv_P K n a_kinds a_firsts a_seconds a_thirds a_home a_mate a_operands) {post : SX → Prop}
    (hpost : ∀ va pa vv, vr_least K a_firsts a_seconds a_thirds n (xv_V va) (xv_V pa) (xv_V vv) → (∀ v, v < 4 → vv v = 0 ∨ vv v = 1) → post (nI n, f_studied, f_wrong, f_wrongAt, f_brief, f_on, f_dropped, f_steps, f_nextLine, f_repeats, a_kinds, a_firsts, a_seconds, a_thirds, a_inputs, a_home, a_depth, a_closer, a_mate, a_operands, va, pa, vv, a_same, a_fixed, a_worth, a_needed, a_variableNeeded, a_values, a_variables, a_outputs, a_cells, a_whole, a_waiting)) :
    ∀ (M t : Nat) (va pa vv : Nat → Int32), xv_mu va pa vv ≤ M → t + M ≤ 101 → vr_snd K a_firsts a_seconds a_thirds n (xv_V va) (xv_V pa) (xv_V vv) → (∀ v, v < 4 → vv v = 0 ∨ vv v = 1) → wX_findVaried_63 post (M + 2) 1 (nI t) (nI n) f_studied f_wrong f_wrongAt f_brief f_on f_dropped f_steps f_nextLine f_repeats a_kinds a_firsts a_seconds a_thirds a_inputs a_home a_depth a_closer a_mate a_operands va pa vv a_same a_fixed a_worth a_needed a_variableNeeded a_values a_variables a_outputs a_cells a_whole a_waiting := by
  intro M
  induction M with
  | zero =>
    intro t va pa vv hmu ht hs hb
    refine br_f (nI_ge (b := 256) (by omega) (by decide)) (br_f (by decide) ⟨n + 1, ?_⟩)
    refine xv_78 (K := K) (n := n) (post := post) (J := wX_findVaried_63 post 1) hP (fun hall => br_f (nI_ge (b := 256) (by omega) (by decide)) (br_t rfl (hpost va pa vv ⟨fun j hj => hall j hj, hs⟩ hb))) (fun va' pa' vv' _ _ h => absurd h (by omega)) n 0 0 va pa vv (by omega) (Or.inl ⟨rfl, rfl, rfl, rfl, fun j hj => by omega⟩) hs hb
  | succ M ih =>
    intro t va pa vv hmu ht hs hb
    refine br_f (nI_ge (b := 256) (by omega) (by decide)) (br_f (by decide) ⟨n + 1, ?_⟩)
    refine xv_78 (K := K) (n := n) (post := post) (J := wX_findVaried_63 post (M + 2)) hP (fun hall => br_f (nI_ge (b := 256) (by omega) (by decide)) (br_t rfl (hpost va pa vv ⟨fun j hj => hall j hj, hs⟩ hb))) (fun va' pa' vv' hs' hb' h => ih (t + 1) va' pa' vv' (by omega) (by omega) hs' hb') n 0 0 va pa vv (by omega) (Or.inl ⟨rfl, rfl, rfl, rfl, fun j hj => by omega⟩) hs hb
theorem xv_41 {post : SX → Prop} (h : ∃ m, wX_findVaried_63 post m 1 0 f_lines f_studied f_wrong f_wrongAt f_brief f_on f_dropped f_steps f_nextLine f_repeats a_kinds a_firsts a_seconds a_thirds a_inputs a_home a_depth a_closer a_mate a_operands a_varies a_parted (cl_z 4 a_variableVaries) a_same a_fixed a_worth a_needed a_variableNeeded a_values a_variables a_outputs a_cells a_whole a_waiting) : ∀ d i : Nat, i + d = 4 → wX_findVaried_41 post f_lines f_studied f_wrong f_wrongAt f_brief f_on f_dropped f_steps f_nextLine f_repeats (d + 1) (nI i) a_kinds a_firsts a_seconds a_thirds a_inputs a_home a_depth a_closer a_mate a_operands a_varies a_parted (cl_z i a_variableVaries) a_same a_fixed a_worth a_needed a_variableNeeded a_values a_variables a_outputs a_cells a_whole a_waiting := by
  intro d
  induction d with
  | zero => intro i hi; cases (show i = 4 by omega); exact br_t (by decide) h
  | succ d ih =>
    intro i hi
    exact br_f (nI_ge (b := 4) (by omega) (by decide)) ⟨vp_in_nI (by omega) (by omega), nm_r (by rw [nI_clamp (by omega), xv_nar0]; exact cl_s i _) (nm_r (nI_1 i) (ih (i + 1) (by omega)))⟩
theorem xv_9 (hn : n ≤ 48) {post : SX → Prop} (h : ∃ m, wX_findVaried_63 post m 1 0 (nI n) f_studied f_wrong f_wrongAt f_brief f_on f_dropped f_steps f_nextLine f_repeats a_kinds a_firsts a_seconds a_thirds a_inputs a_home a_depth a_closer a_mate a_operands (cl_z n a_varies) (cl_z (n + 1) a_parted) (cl_z 4 a_variableVaries) a_same a_fixed a_worth a_needed a_variableNeeded a_values a_variables a_outputs a_cells a_whole a_waiting) : ∀ d i : Nat, i + d = n → wX_findVaried_9 post (nI n) f_studied f_wrong f_wrongAt f_brief f_on f_dropped f_steps f_nextLine f_repeats (d + 1) (nI i) a_kinds a_firsts a_seconds a_thirds a_inputs a_home a_depth a_closer a_mate a_operands (cl_z i a_varies) (cl_z (i + 1) a_parted) a_variableVaries a_same a_fixed a_worth a_needed a_variableNeeded a_values a_variables a_outputs a_cells a_whole a_waiting := by
  intro d
  induction d with
  | zero =>
    intro i hi
    cases (show i = n by omega)
    refine br_t (nI_le (Nat.le_refl _) (by omega)) ⟨5, ?_⟩
    rw [← cl_0 a_variableVaries]
    exact xv_41 h 4 0 rfl
  | succ d ih =>
    intro i hi
    exact br_f (nI_ge (by omega) (by omega)) ⟨vp_in_nI (by omega) (by omega), nm_r (by rw [nI_clamp (by omega), xv_nar0]; exact cl_s i _) ⟨by rw [nI_1]; exact vp_in_nI (by omega) (by omega), nm_r (by rw [nI_1, nI_clamp (by omega), xv_nar0]; exact cl_s (i + 1) _) (nm_r (nI_1 i) (ih (i + 1) (by omega)))⟩⟩
theorem xv_findVaried (hP : xv_P K n a_kinds a_firsts a_seconds a_thirds a_home a_mate a_operands) {post : SX → Prop}
    (hpost : ∀ va pa vv, vr_least K a_firsts a_seconds a_thirds n (xv_V va) (xv_V pa) (xv_V vv) → (∀ v, v < 4 → vv v = 0 ∨ vv v = 1) → post (nI n, f_studied, f_wrong, f_wrongAt, f_brief, f_on, f_dropped, f_steps, f_nextLine, f_repeats, a_kinds, a_firsts, a_seconds, a_thirds, a_inputs, a_home, a_depth, a_closer, a_mate, a_operands, va, pa, vv, a_same, a_fixed, a_worth, a_needed, a_variableNeeded, a_values, a_variables, a_outputs, a_cells, a_whole, a_waiting)) : wpX_findVaried post (nI n, f_studied, f_wrong, f_wrongAt, f_brief, f_on, f_dropped, f_steps, f_nextLine, f_repeats, a_kinds, a_firsts, a_seconds, a_thirds, a_inputs, a_home, a_depth, a_closer, a_mate, a_operands, a_varies, a_parted, a_variableVaries, a_same, a_fixed, a_worth, a_needed, a_variableNeeded, a_values, a_variables, a_outputs, a_cells, a_whole, a_waiting) := by
  have hn := hP.1
  refine nm_r (e' := cl_z 1 a_parted) (by rw [xv_nar0]; have := cl_s 0 a_parted; rw [cl_0] at this; exact this) ⟨n + 1, ?_⟩
  rw [← cl_0 a_varies]
  refine xv_9 hn ?_ n 0 (by omega)
  refine ⟨_, xv_63 (K := K) (n := n) hP hpost 101 0 _ _ _ ?_ (by omega) ?_ ?_⟩
  · have := cz_le (cl_z n a_varies) 48
    have := cz_le (cl_z (n + 1) a_parted) 49
    have := cz_le (cl_z 4 a_variableVaries) 4
    unfold xv_mu; omega
  · intro V L W _
    exact ⟨fun i hi h => absurd (cl_lt _ hi) h, fun b hb _ h => absurd (cl_lt _ (by omega)) h, fun v hv h => absurd (cl_lt _ hv) h⟩
  · intro v hv; exact Or.inl (cl_lt _ hv)
/-- the fourth sort -/
def xv_w4 (K : Nat → Nat) (L : Nat → Prop) (i : Nat) : Prop := (K i = 12 ∨ K i = 13) ∧ L (sc_hd (sc_lf K i))
theorem xv_diffEnd {post : SX → Prop} {x1 : Int32} {d : Nat} (hw : f_wrong ≠ 0) (h : post (f_lines, f_studied, f_wrong, f_wrongAt, f_brief, f_on, f_dropped, f_steps, f_nextLine, f_repeats, a_kinds, a_firsts, a_seconds, a_thirds, a_inputs, a_home, a_depth, a_closer, a_mate, a_operands, a_varies, a_parted, a_variableVaries, a_same, a_fixed, a_worth, a_needed, a_variableNeeded, a_values, a_variables, a_outputs, a_cells, a_whole, a_waiting)) : wX_findWrongDifference_2 post (d + 1) x1 f_lines f_studied f_wrong f_wrongAt f_brief f_on f_dropped f_steps f_nextLine f_repeats a_kinds a_firsts a_seconds a_thirds a_inputs a_home a_depth a_closer a_mate a_operands a_varies a_parted a_variableVaries a_same a_fixed a_worth a_needed a_variableNeeded a_values a_variables a_outputs a_cells a_whole a_waiting :=
  br_c (fun _ => h) (fun _ => br_f hw h)
theorem xv_diff2 (hn : n ≤ 48) (hK : ∀ j, j < n → a_kinds j = nI (K j) ∧ K j ≤ 25) (hg : sc_good K n) (hH : ∀ j, j < n → a_home j = nI (sc_hd (sc_lf K j))) {post : SX → Prop}
    (h4 : ∀ i, i < n → xv_w4 K (xv_V a_parted) i → (∀ j, j < i → ¬ xv_w4 K (xv_V a_parted) j) → post (nI n, f_studied, 4, nI i, f_brief, f_on, f_dropped, f_steps, f_nextLine, f_repeats, a_kinds, a_firsts, a_seconds, a_thirds, a_inputs, a_home, a_depth, a_closer, a_mate, a_operands, a_varies, a_parted, a_variableVaries, a_same, a_fixed, a_worth, a_needed, a_variableNeeded, a_values, a_variables, a_outputs, a_cells, a_whole, a_waiting))
    (h0 : (∀ j, j < n → ¬ xv_w4 K (xv_V a_parted) j) → post (nI n, f_studied, 0, f_wrongAt, f_brief, f_on, f_dropped, f_steps, f_nextLine, f_repeats, a_kinds, a_firsts, a_seconds, a_thirds, a_inputs, a_home, a_depth, a_closer, a_mate, a_operands, a_varies, a_parted, a_variableVaries, a_same, a_fixed, a_worth, a_needed, a_variableNeeded, a_values, a_variables, a_outputs, a_cells, a_whole, a_waiting)) :
    ∀ d i : Nat, i + d = n → (∀ j, j < i → ¬ xv_w4 K (xv_V a_parted) j) → wX_findWrongDifference_2 post (d + 2) (nI i) (nI n) f_studied 0 f_wrongAt f_brief f_on f_dropped f_steps f_nextLine f_repeats a_kinds a_firsts a_seconds a_thirds a_inputs a_home a_depth a_closer a_mate a_operands a_varies a_parted a_variableVaries a_same a_fixed a_worth a_needed a_variableNeeded a_values a_variables a_outputs a_cells a_whole a_waiting := by
  intro d
  induction d with
  | zero =>
    intro i hi hno
    cases (show i = n by omega)
    exact br_t (nI_le (Nat.le_refl _) (by omega)) (h0 hno)
  | succ d ih =>
    intro i hi hno
    have ci : (nI i).toNatClampNeg = i := nI_clamp (by omega)
    have hin : vp_in (nI i) 48 := vp_in_nI (by omega) (by omega)
    have ki := hK i (by omega)
    have gi : sc_good K (i + 1) := sc_good_le hg (by omega)
    have hle := sc_hdl_le gi
    have next : ¬ xv_w4 K (xv_V a_parted) i → wX_findWrongDifference_2 post (d + 2) (nI (i + 1)) (nI n) f_studied 0 f_wrongAt f_brief f_on f_dropped f_steps f_nextLine f_repeats a_kinds a_firsts a_seconds a_thirds a_inputs a_home a_depth a_closer a_mate a_operands a_varies a_parted a_variableVaries a_same a_fixed a_worth a_needed a_variableNeeded a_values a_variables a_outputs a_cells a_whole a_waiting := fun h =>
      ih (i + 1) (by omega) (fun j hj => by
        by_cases e : j = i
        · rw [e]; exact h
        · exact hno j (by omega))
    have t39 : (K i = 12 ∨ K i = 13) → wX_findWrongDifference_39 post (wX_findWrongDifference_2 post (d + 2)) (nI i) (nI n) f_studied 0 f_wrongAt f_brief f_on f_dropped f_steps f_nextLine f_repeats a_kinds a_firsts a_seconds a_thirds a_inputs a_home a_depth a_closer a_mate a_operands a_varies a_parted a_variableVaries a_same a_fixed a_worth a_needed a_variableNeeded a_values a_variables a_outputs a_cells a_whole a_waiting := by
      intro hk
      refine ⟨hin, ?_⟩
      rw [ci, hH i (by omega), nI_clamp (by omega)]
      exact ⟨vp_in_nI (by omega) (by omega), br_c (fun hz => nm_r (nI_1 i) (next (fun h => h.2 hz))) (fun hz => nm_e (xv_diffEnd (by decide) (h4 i (by omega) ⟨hk, hz⟩ hno)))⟩
    refine br_f (nI_ge (by omega) (by omega)) (br_t rfl ⟨hin, ?_⟩)
    rw [ci, ki.1]
    refine pk_eq (K i) 12 (fun h => t39 (Or.inl h)) (fun h12 => ⟨hin, pk_eq (K i) 13 (fun h => t39 (Or.inr h)) (fun h13 => nm_r (nI_1 i) (next (fun h => ?_)))⟩)
    have := h.1
    omega
theorem xv_diff (hn : n ≤ 48) (hK : ∀ j, j < n → a_kinds j = nI (K j) ∧ K j ≤ 25) (hg : sc_good K n) (hH : ∀ j, j < n → a_home j = nI (sc_hd (sc_lf K j))) {post : SX → Prop}
    (h4 : ∀ i, i < n → xv_w4 K (xv_V a_parted) i → (∀ j, j < i → ¬ xv_w4 K (xv_V a_parted) j) → post (nI n, f_studied, 4, nI i, f_brief, f_on, f_dropped, f_steps, f_nextLine, f_repeats, a_kinds, a_firsts, a_seconds, a_thirds, a_inputs, a_home, a_depth, a_closer, a_mate, a_operands, a_varies, a_parted, a_variableVaries, a_same, a_fixed, a_worth, a_needed, a_variableNeeded, a_values, a_variables, a_outputs, a_cells, a_whole, a_waiting))
    (h0 : (∀ j, j < n → ¬ xv_w4 K (xv_V a_parted) j) → post (nI n, f_studied, 0, f_wrongAt, f_brief, f_on, f_dropped, f_steps, f_nextLine, f_repeats, a_kinds, a_firsts, a_seconds, a_thirds, a_inputs, a_home, a_depth, a_closer, a_mate, a_operands, a_varies, a_parted, a_variableVaries, a_same, a_fixed, a_worth, a_needed, a_variableNeeded, a_values, a_variables, a_outputs, a_cells, a_whole, a_waiting)) : wpX_findWrongDifference post (nI n, f_studied, 0, f_wrongAt, f_brief, f_on, f_dropped, f_steps, f_nextLine, f_repeats, a_kinds, a_firsts, a_seconds, a_thirds, a_inputs, a_home, a_depth, a_closer, a_mate, a_operands, a_varies, a_parted, a_variableVaries, a_same, a_fixed, a_worth, a_needed, a_variableNeeded, a_values, a_variables, a_outputs, a_cells, a_whole, a_waiting) :=
  ⟨n + 2, xv_diff2 hn hK hg hH h4 h0 n 0 (by omega) (fun j hj => by omega)⟩
end
