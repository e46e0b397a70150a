section
variable {K : Nat → Nat} {n : Nat}
variable {f_lines f_studied f_wrong f_wrongAt f_brief f_on f_dropped f_steps f_nextLine f_repeats : Int32} {a_kinds a_firsts a_seconds a_thirds a_inputs a_home a_depth a_closer a_mate a_operands a_varies a_parted a_variableVaries a_same a_fixed a_worth a_needed a_variableNeeded a_values a_variables a_outputs a_cells a_whole a_waiting : Nat → Int32}
theorem xv_nar1 : vp_nar .boolean 1 = 1 := by decide
theorem xv_nar0 : vp_nar .boolean 0 = 0 := by decide
theorem xv_opv (hn : n ≤ 48) {post : Int32 → Prop} {i : Nat} (hi : i < n) (hP : ∀ s, s < 3 → (sc_us (K i) s → a_operands (3 * i + s) = sc_o3 a_firsts a_seconds a_thirds s i) ∧ (¬ sc_us (K i) s → a_operands (3 * i + s) = -1)) (hv : ∀ s, s < 3 → sc_us (K i) s → sc_ov K a_firsts a_seconds a_thirds s i)
    (h1 : (∃ s, s < 3 ∧ sc_us (K i) s ∧ a_varies (sc_o3 a_firsts a_seconds a_thirds s i).toNatClampNeg ≠ 0) → post 1) (h0 : (¬ ∃ s, s < 3 ∧ sc_us (K i) s ∧ a_varies (sc_o3 a_firsts a_seconds a_thirds s i).toNatClampNeg ≠ 0) → post 0) :
    ∀ d t : Nat, t + d = 3 → (∀ s, s < t → sc_us (K i) s → a_varies (sc_o3 a_firsts a_seconds a_thirds s i).toNatClampNeg = 0) → wX_operandVaries_2 post (nI i) f_lines f_studied f_wrong f_wrongAt f_brief f_on f_dropped f_steps f_nextLine f_repeats a_kinds a_firsts a_seconds a_thirds a_inputs a_home a_depth a_closer a_mate a_operands a_varies a_parted a_variableVaries a_same a_fixed a_worth a_needed a_variableNeeded a_values a_variables a_outputs a_cells a_whole a_waiting (d + 1) (nI t) := by
  intro d
  induction d with
  | zero =>
    intro t ht hall
    cases (show t = 3 by omega)
    refine br_t (by decide) (h0 ?_)
    rintro ⟨s, hs, hu, hne⟩
    exact hne (hall s hs hu)
  | succ d ih =>
    intro t ht hall
    have ea : nI i * 3 + nI t = nI (3 * i + t) := nb_34
    have ca : (nI i * 3 + nI t).toNatClampNeg = 3 * i + t := by rw [ea, nI_clamp (by omega)]
    refine br_f (nI_ge (b := 3) (by omega) (by decide)) ⟨by rw [ea]; exact vp_in_nI (by omega) (by omega), nm_e ?_⟩
    rw [ca]
    by_cases hu : sc_us (K i) t
    · obtain ⟨x, hx, ex, _⟩ := hv t (by omega) hu
      rw [(hP t (by omega)).1 hu, ex]
      refine br_f (fun h => ?_) ⟨vp_in_nI (by omega) (by omega), br_c (fun hz => nm_r (nI_1 t) (ih (t + 1) (by omega) (fun s hs hus => ?_))) (fun hz => h1 ⟨t, by omega, hu, by rw [ex]; exact hz⟩)⟩
      · have : (-1 : Int32) < 0 := by decide
        rw [← h] at this; exact nI_pos (by omega) this
      · by_cases e : s = t
        · rw [e, ex]; exact hz
        · exact hall s (by omega) hus
    · rw [(hP t (by omega)).2 hu]
      refine br_t rfl (nm_r (nI_1 t) (ih (t + 1) (by omega) (fun s hs hus => ?_)))
      by_cases e : s = t
      · rw [e] at hus; exact absurd hus hu
      · exact hall s (by omega) hus
theorem xv_valueVaries (hn : n ≤ 48) (hK : ∀ j, j < n → a_kinds j = nI (K j) ∧ K j ≤ 25) (h4 : ∀ j, j < n → (K j = 1 ∨ K j = 11 ∨ K j = 16 ∨ K j = 17 ∨ K j = 18) → ∃ a, a < 4 ∧ a_firsts j = nI a) (hb : ∀ v, v < 4 → a_variableVaries v = 0 ∨ a_variableVaries v = 1) {post : Int32 → Prop} {i : Nat} (hi : i < n) (hP : ∀ s, s < 3 → (sc_us (K i) s → a_operands (3 * i + s) = sc_o3 a_firsts a_seconds a_thirds s i) ∧ (¬ sc_us (K i) s → a_operands (3 * i + s) = -1)) (hv : ∀ s, s < 3 → sc_us (K i) s → sc_ov K a_firsts a_seconds a_thirds s i) (h16 : K i ≤ 16)
    (h1 : vr_need K a_firsts a_seconds a_thirds (fun j => a_varies j ≠ 0) (fun v => a_variableVaries v ≠ 0) i → post 1) (h0 : ¬ vr_need K a_firsts a_seconds a_thirds (fun j => a_varies j ≠ 0) (fun v => a_variableVaries v ≠ 0) i → post 0) : wpX_valueVaries post (f_lines, f_studied, f_wrong, f_wrongAt, f_brief, f_on, f_dropped, f_steps, f_nextLine, f_repeats, a_kinds, a_firsts, a_seconds, a_thirds, a_inputs, a_home, a_depth, a_closer, a_mate, a_operands, a_varies, a_parted, a_variableVaries, a_same, a_fixed, a_worth, a_needed, a_variableNeeded, a_values, a_variables, a_outputs, a_cells, a_whole, a_waiting) (nI i) := by
  have ci : (nI i).toNatClampNeg = i := nI_clamp (by omega)
  have hin : vp_in (nI i) 48 := vp_in_nI (by omega) (by omega)
  have ki := hK i hi
  have t120 : (3 ≤ K i ∧ K i ≤ 10 ∨ K i = 12 ∨ K i = 13) → wX_valueVaries_120 post (nI i) f_lines f_studied f_wrong f_wrongAt f_brief f_on f_dropped f_steps f_nextLine f_repeats a_kinds a_firsts a_seconds a_thirds a_inputs a_home a_depth a_closer a_mate a_operands a_varies a_parted a_variableVaries a_same a_fixed a_worth a_needed a_variableNeeded a_values a_variables a_outputs a_cells a_whole a_waiting := by
    intro hk
    refine ⟨4, xv_opv (K := K) (n := n) hn hi hP hv (fun h => ⟨xs_nb1, h1 (Or.inr (Or.inr (Or.inr (Or.inr ⟨hk, h⟩))))⟩) (fun h => ⟨xs_nb0, h0 ?_⟩) 3 0 rfl (fun s hs => by omega)⟩
    rintro (h' | h' | h' | h' | ⟨_, h'⟩)
    · omega
    · omega
    · omega
    · omega
    · exact h h'
  refine ⟨hin, nm_c ci ki.1 ?_⟩
  refine br_f (nI_pos (by omega)) (pk_lt 16 (K i) (fun h => absurd h (by omega)) (fun _ => ?_))
  refine pk_eq (K i) 0 (fun h => h0 (by unfold vr_need; omega)) (fun _ => pk_eq (K i) 1 (fun h => ⟨hin, ?_⟩) (fun n1 => pk_eq (K i) 2 (fun h => h1 (by unfold vr_need; omega)) (fun _ => pk_eq (K i) 3 (fun h => t120 (by omega)) (fun _ => pk_eq (K i) 4 (fun h => t120 (by omega)) (fun _ => pk_eq (K i) 5 (fun h => t120 (by omega)) (fun _ => pk_eq (K i) 6 (fun h => t120 (by omega)) (fun _ => pk_eq (K i) 7 (fun h => t120 (by omega)) (fun _ => pk_eq (K i) 8 (fun h => t120 (by omega)) (fun _ => pk_eq (K i) 9 (fun h => t120 (by omega)) (fun _ => pk_eq (K i) 10 (fun h => t120 (by omega)) (fun _ => pk_eq (K i) 11 (fun h => ⟨hin, ?_⟩) (fun n11 => pk_eq (K i) 12 (fun h => t120 (by omega)) (fun _ => pk_eq (K i) 13 (fun h => t120 (by omega)) (fun _ => pk_eq (K i) 14 (fun h => h0 (by unfold vr_need; omega)) (fun _ => pk_eq (K i) 15 (fun h => h0 (by unfold vr_need; omega)) (fun _ => pk_eq (K i) 16 (fun h => h1 (by unfold vr_need; omega)) (fun _ => trivial)))))))))))))))))
  · rw [ci]
    refine br_c (fun hlt => h0 ?_) (fun hge => h1 (Or.inl ⟨h, (ez_12 _).mpr (Int32.not_lt.mp hge)⟩))
    rintro (⟨_, h'⟩ | h' | h' | h' | h')
    · exact absurd hlt (Int32.not_lt.mpr ((ez_12 _).mp h'))
    all_goals omega
  · rw [ci]
    obtain ⟨a, ha, ea⟩ := h4 i hi (by omega)
    rw [ea, nI_clamp (by omega)]
    refine ⟨vp_in_nI ha (by omega), ?_⟩
    rcases hb a ha with e | e
    · rw [e]
      refine ⟨xs_nb0, h0 ?_⟩
      rintro (h' | h' | h' | ⟨_, h'⟩ | h')
      · omega
      · omega
      · omega
      · rw [ea, nI_clamp (by omega)] at h'; exact h' e
      · omega
    · rw [e]
      refine ⟨xs_nb1, h1 (Or.inr (Or.inr (Or.inr (Or.inl ⟨h, ?_⟩))))⟩
      rw [ea, nI_clamp (by omega)]
      show a_variableVaries a ≠ 0
      rw [e]; decide
/-- X's sets: what is marked -/
def xv_V (a : Nat → Int32) : Nat → Prop := fun j => a j ≠ 0
def xv_mu (va pa vv : Nat → Int32) : Nat := cz va 48 + cz pa 49 + cz vv 4
def xv_up (K : Nat → Nat) (A B C : Nat → Int32) (n : Nat) (va pa vv va' pa' vv' : Nat → Int32) : Prop :=
  (vr_snd K A B C n (xv_V va) (xv_V pa) (xv_V vv) → vr_snd K A B C n (xv_V va') (xv_V pa') (xv_V vv')) ∧ xv_mu va' pa' vv' < xv_mu va pa vv ∧ ((∀ v, v < 4 → vv v = 0 ∨ vv v = 1) → ∀ v, v < 4 → vv' v = 0 ∨ vv' v = 1)
theorem xv_upV {A B C va pa vv : Nat → Int32} {i : Nat} (hn : n ≤ 48) (hi : i < n) (h16 : K i ≤ 16) (hz : va i = 0) (hov : ∀ s, s < 3 → sc_us (K i) s → sc_ov K A B C s i) (hw4 : K i = 11 → ∃ a, a < 4 ∧ A i = nI a) (h : vr_need K A B C (xv_V va) (xv_V vv) i) : xv_up K A B C n va pa vv (upd va i 1) pa vv := by
  refine ⟨fun hs V L W hc => ?_, ?_, fun h => h⟩
  · have s := hs V L W hc
    refine ⟨fun j hj hv => ?_, s.2⟩
    by_cases e : j = i
    · rw [e]
      refine (hc i hi).1.1 h16 ?_
      rcases h with h | h | h | ⟨h, h'⟩ | ⟨h, s', hs', hu, hv'⟩
      · exact Or.inl h
      · exact Or.inr (Or.inl h)
      · exact Or.inr (Or.inr (Or.inl h))
      · obtain ⟨a, ha, ea⟩ := hw4 h
        refine Or.inr (Or.inr (Or.inr (Or.inl ⟨h, s.2.2 _ ?_ h'⟩)))
        rw [ea, nI_clamp (by omega)]; exact ha
      · obtain ⟨x, hx, ex, _⟩ := hov s' hs' hu
        refine Or.inr (Or.inr (Or.inr (Or.inr ⟨h, s', hs', hu, s.1 _ ?_ hv'⟩)))
        rw [ex, nI_clamp (by omega)]; omega
    · exact s.1 j hj (by unfold xv_V at hv ⊢; rw [pk_un e] at hv; exact hv)
  · have := cz_lt (x := 1) hz (by decide) 48 (by omega)
    unfold xv_mu; omega
theorem xv_spreadValue (hn : n ≤ 48) (hK : ∀ j, j < n → a_kinds j = nI (K j) ∧ K j ≤ 25) (h4 : ∀ j, j < n → (K j = 1 ∨ K j = 11 ∨ K j = 16 ∨ K j = 17 ∨ K j = 18) → ∃ a, a < 4 ∧ a_firsts j = nI a) (hb : ∀ v, v < 4 → a_variableVaries v = 0 ∨ a_variableVaries v = 1) {post : Int32 → SX → Prop} {i : Nat} (hi : i < n) (hP : ∀ s, s < 3 → (sc_us (K i) s → a_operands (3 * i + s) = sc_o3 a_firsts a_seconds a_thirds s i) ∧ (¬ sc_us (K i) s → a_operands (3 * i + s) = -1)) (hv : ∀ s, s < 3 → sc_us (K i) s → sc_ov K a_firsts a_seconds a_thirds s i) (h16 : K i ≤ 16)
    (h0 : (vr_need K a_firsts a_seconds a_thirds (xv_V a_varies) (xv_V a_variableVaries) i → a_varies i ≠ 0) → post 0 (f_lines, f_studied, f_wrong, f_wrongAt, f_brief, f_on, f_dropped, f_steps, f_nextLine, f_repeats, a_kinds, a_firsts, a_seconds, a_thirds, a_inputs, a_home, a_depth, a_closer, a_mate, a_operands, a_varies, a_parted, a_variableVaries, a_same, a_fixed, a_worth, a_needed, a_variableNeeded, a_values, a_variables, a_outputs, a_cells, a_whole, a_waiting))
    (h1 : ∀ va pa vv, xv_up K a_firsts a_seconds a_thirds n a_varies a_parted a_variableVaries va pa vv → post 1 (f_lines, f_studied, f_wrong, f_wrongAt, f_brief, f_on, f_dropped, f_steps, f_nextLine, f_repeats, a_kinds, a_firsts, a_seconds, a_thirds, a_inputs, a_home, a_depth, a_closer, a_mate, a_operands, va, pa, vv, a_same, a_fixed, a_worth, a_needed, a_variableNeeded, a_values, a_variables, a_outputs, a_cells, a_whole, a_waiting)) : wpX_spreadValue post (f_lines, f_studied, f_wrong, f_wrongAt, f_brief, f_on, f_dropped, f_steps, f_nextLine, f_repeats, a_kinds, a_firsts, a_seconds, a_thirds, a_inputs, a_home, a_depth, a_closer, a_mate, a_operands, a_varies, a_parted, a_variableVaries, a_same, a_fixed, a_worth, a_needed, a_variableNeeded, a_values, a_variables, a_outputs, a_cells, a_whole, a_waiting) (nI i) := by
  have ci : (nI i).toNatClampNeg = i := nI_clamp (by omega)
  have hin : vp_in (nI i) 48 := vp_in_nI (by omega) (by omega)
  refine ⟨hin, ?_⟩
  rw [ci]
  refine br_c (fun hz => ?_) (fun hz => h0 (fun _ => hz))
  refine xv_valueVaries hn hK h4 hb hi hP hv h16 (fun h => br_f (by decide) ⟨hin, nm_r (by rw [xv_nar1]) (h1 _ _ _ (xv_upV hn hi h16 hz hv (fun h11 => h4 i hi (by omega)) h))⟩) (fun h => br_t rfl (h0 (fun h' => absurd h' h)))
end
