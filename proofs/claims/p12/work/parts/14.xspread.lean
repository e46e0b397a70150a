section
variable {K : Nat → Nat} {n : Nat}
variable {f_lines f_studied f_wrong f_wrongAt f_brief f_on f_dropped f_steps f_nextLine f_repeats : Int32} {a_kinds a_firsts a_seconds a_thirds a_inputs a_home a_depth a_closer a_mate a_operands a_varies a_parted a_variableVaries a_same a_fixed a_worth a_needed a_variableNeeded a_values a_variables a_outputs a_cells a_whole a_waiting : Nat → Int32}
theorem xv_mark_ne {a : Nat → Int32} {i j : Nat} (h : xv_V (upd a i 1) j) : j = i ∨ xv_V a j := by
  by_cases e : j = i
  · exact Or.inl e
  · exact Or.inr (by unfold xv_V at h ⊢; rw [pk_un e] at h; exact h)
theorem xv_b01 {vv : Nat → Int32} {a : Nat} (hb : ∀ v, v < 4 → vv v = 0 ∨ vv v = 1) : ∀ v, v < 4 → upd vv a 1 v = 0 ∨ upd vv a 1 v = 1 := by
  intro v hv
  by_cases e : v = a
  · rw [e]; exact Or.inr pk_us
  · rw [pk_un e]; exact hb v hv
theorem xv_upW {A B C va pa vv : Nat → Int32} {i a : Nat} (hn : n ≤ 48) (hi : i < n) (hg : sc_good K n) (h17 : K i = 17) (ha : a < 4) (ea : A i = nI a) (hz : vv a = 0) (hov : sc_ov K A B C 1 i) (h : xv_V va (B i).toNatClampNeg ∨ xv_V pa (sc_hd (sc_lf K i))) : xv_up K A B C n va pa vv va pa (upd vv a 1) := by
  refine ⟨fun hs V L W hc => ?_, ?_, xv_b01⟩
  · have s := hs V L W hc
    have gi : sc_good K (i + 1) := sc_good_le hg (by omega)
    refine ⟨s.1, s.2.1, fun v hv hm => ?_⟩
    rcases xv_mark_ne hm with e | hm
    · have := (hc i hi).1.2 h17 (by
        rcases h with h | h
        · obtain ⟨x, hx, ex, _⟩ := hov
          refine Or.inl (s.1 _ ?_ h)
          rw [show B i = nI x from ex, nI_clamp (by omega)]; omega
        · exact Or.inr (s.2.1 _ (Nat.le_trans (sc_hdl_le gi) (by omega)) (sc_hdl_op gi) h))
      rw [ea, nI_clamp (by omega)] at this
      rw [e]; exact this
    · exact s.2.2 v hv hm
  · have := cz_lt (x := 1) hz (by decide) 4 ha
    unfold xv_mu; omega
/-- marking block b -/
theorem xv_upL {A B C va pa vv : Nat → Int32} {b : Nat} (hn : n ≤ 48) (hb : b ≤ n) (hz : pa b = 0) (h : ∀ V L W, vr_C K A B C n V L W → vr_sub K n (xv_V va) (xv_V pa) (xv_V vv) V L W → L b) : xv_up K A B C n va pa vv va (upd pa b 1) vv := by
  refine ⟨fun hs V L W hc => ?_, ?_, fun h => h⟩
  · have s := hs V L W hc
    refine ⟨s.1, fun c hc' ho hm => ?_, s.2.2⟩
    rcases xv_mark_ne hm with e | hm
    · rw [e]; exact h V L W hc s
    · exact s.2.1 c hc' ho hm
  · have := cz_lt (x := 1) hz (by decide) 49 (by omega)
    unfold xv_mu; omega
theorem xv_spreadPut (hn : n ≤ 48) (hg : sc_good K n) (h4 : ∀ j, j < n → (K j = 1 ∨ K j = 11 ∨ K j = 16 ∨ K j = 17 ∨ K j = 18) → ∃ a, a < 4 ∧ a_firsts j = nI a) (hH : ∀ j, j < n → a_home j = nI (sc_hd (sc_lf K j))) {post : Int32 → SX → Prop} {i : Nat} (hi : i < n) (h17 : K i = 17) (hv : sc_ov K a_firsts a_seconds a_thirds 1 i)
    (h0 : ((xv_V a_varies (a_seconds i).toNatClampNeg ∨ xv_V a_parted (sc_hd (sc_lf K i))) → xv_V a_variableVaries (a_firsts i).toNatClampNeg) → post 0 (f_lines, f_studied, f_wrong, f_wrongAt, f_brief, f_on, f_dropped, f_steps, f_nextLine, f_repeats, a_kinds, a_firsts, a_seconds, a_thirds, a_inputs, a_home, a_depth, a_closer, a_mate, a_operands, a_varies, a_parted, a_variableVaries, a_same, a_fixed, a_worth, a_needed, a_variableNeeded, a_values, a_variables, a_outputs, a_cells, a_whole, a_waiting))
    (h1 : ∀ va pa vv, xv_up K a_firsts a_seconds a_thirds n a_varies a_parted a_variableVaries va pa vv → post 1 (f_lines, f_studied, f_wrong, f_wrongAt, f_brief, f_on, f_dropped, f_steps, f_nextLine, f_repeats, a_kinds, a_firsts, a_seconds, a_thirds, a_inputs, a_home, a_depth, a_closer, a_mate, a_operands, va, pa, vv, a_same, a_fixed, a_worth, a_needed, a_variableNeeded, a_values, a_variables, a_outputs, a_cells, a_whole, a_waiting)) : wpX_spreadPut post (f_lines, f_studied, f_wrong, f_wrongAt, f_brief, f_on, f_dropped, f_steps, f_nextLine, f_repeats, a_kinds, a_firsts, a_seconds, a_thirds, a_inputs, a_home, a_depth, a_closer, a_mate, a_operands, a_varies, a_parted, a_variableVaries, a_same, a_fixed, a_worth, a_needed, a_variableNeeded, a_values, a_variables, a_outputs, a_cells, a_whole, a_waiting) (nI i) := by
  have ci : (nI i).toNatClampNeg = i := nI_clamp (by omega)
  have hin : vp_in (nI i) 48 := vp_in_nI (by omega) (by omega)
  obtain ⟨a, ha, ea⟩ := h4 i hi (by omega)
  obtain ⟨x, hx, ex, kx⟩ := hv
  have ex' : a_seconds i = nI x := ex
  have gi : sc_good K (i + 1) := sc_good_le hg (by omega)
  have hle := sc_hdl_le gi
  have ina : vp_in (nI a) 4 := vp_in_nI ha (by omega)
  have ca : (nI a).toNatClampNeg = a := nI_clamp (by omega)
  rw [ea, ca, ex', nI_clamp (by omega)] at h0
  have up : a_variableVaries a = 0 → (xv_V a_varies x ∨ xv_V a_parted (sc_hd (sc_lf K i))) → post 1 (f_lines, f_studied, f_wrong, f_wrongAt, f_brief, f_on, f_dropped, f_steps, f_nextLine, f_repeats, a_kinds, a_firsts, a_seconds, a_thirds, a_inputs, a_home, a_depth, a_closer, a_mate, a_operands, a_varies, a_parted, upd a_variableVaries a 1, a_same, a_fixed, a_worth, a_needed, a_variableNeeded, a_values, a_variables, a_outputs, a_cells, a_whole, a_waiting) := fun hz h =>
    h1 _ _ _ (xv_upW hn hi hg h17 ha ea hz ⟨x, hx, ex, kx⟩ (by rw [ex', nI_clamp (by omega)]; exact h))
  refine ⟨hin, nm_c ci ea ⟨ina, ?_⟩⟩
  rw [ca, ci, ex', nI_clamp (by omega), hH i hi, nI_clamp (by omega)]
  refine br_c (fun hz => ⟨hin, vp_in_nI (by omega) (by omega), br_c (fun hvz => ⟨hin, vp_in_nI (by omega) (by omega), br_c (fun hpz => h0 ?_) (fun hpz => ⟨ina, nm_r (by rw [xv_nar1]) (up hz (Or.inr hpz))⟩)⟩) (fun hvz => ⟨ina, nm_r (by rw [xv_nar1]) (up hz (Or.inl hvz))⟩)⟩) (fun hz => h0 (fun _ => hz))
  rintro (h | h)
  · exact absurd hvz h
  · exact absurd hpz h
theorem xv_spreadBlock (hn : n ≤ 48) (hg : sc_good K n) (hH : ∀ j, j < n → a_home j = nI (sc_hd (sc_lf K j))) {post : Int32 → SX → Prop} {i : Nat} (hi : i < n) {p1 : Int32}
    (h0 : ((xv_V a_parted (sc_hd (sc_lf K i)) ∨ p1 ≠ 0) → xv_V a_parted (i + 1)) → post 0 (f_lines, f_studied, f_wrong, f_wrongAt, f_brief, f_on, f_dropped, f_steps, f_nextLine, f_repeats, a_kinds, a_firsts, a_seconds, a_thirds, a_inputs, a_home, a_depth, a_closer, a_mate, a_operands, a_varies, a_parted, a_variableVaries, a_same, a_fixed, a_worth, a_needed, a_variableNeeded, a_values, a_variables, a_outputs, a_cells, a_whole, a_waiting))
    (h1 : a_parted (i + 1) = 0 → (xv_V a_parted (sc_hd (sc_lf K i)) ∨ p1 ≠ 0) → post 1 (f_lines, f_studied, f_wrong, f_wrongAt, f_brief, f_on, f_dropped, f_steps, f_nextLine, f_repeats, a_kinds, a_firsts, a_seconds, a_thirds, a_inputs, a_home, a_depth, a_closer, a_mate, a_operands, a_varies, upd a_parted (i + 1) 1, a_variableVaries, a_same, a_fixed, a_worth, a_needed, a_variableNeeded, a_values, a_variables, a_outputs, a_cells, a_whole, a_waiting)) : wpX_spreadBlock post (f_lines, f_studied, f_wrong, f_wrongAt, f_brief, f_on, f_dropped, f_steps, f_nextLine, f_repeats, a_kinds, a_firsts, a_seconds, a_thirds, a_inputs, a_home, a_depth, a_closer, a_mate, a_operands, a_varies, a_parted, a_variableVaries, a_same, a_fixed, a_worth, a_needed, a_variableNeeded, a_values, a_variables, a_outputs, a_cells, a_whole, a_waiting) (nI i) p1 := by
  have ci : (nI i).toNatClampNeg = i := nI_clamp (by omega)
  have hin : vp_in (nI i) 48 := vp_in_nI (by omega) (by omega)
  have gi : sc_good K (i + 1) := sc_good_le hg (by omega)
  have hle := sc_hdl_le gi
  have i1 : vp_in (nI i + 1) 49 := by rw [nI_1]; exact vp_in_nI (by omega) (by omega)
  have c1 : (nI i + 1).toNatClampNeg = i + 1 := by rw [nI_1, nI_clamp (by omega)]
  refine ⟨i1, ?_⟩
  rw [c1, ci, hH i hi, nI_clamp (by omega)]
  have up : a_parted (i + 1) = 0 → (xv_V a_parted (sc_hd (sc_lf K i)) ∨ p1 ≠ 0) → wX_spreadBlock_31 post (nI i) f_lines f_studied f_wrong f_wrongAt f_brief f_on f_dropped f_steps f_nextLine f_repeats a_kinds a_firsts a_seconds a_thirds a_inputs a_home a_depth a_closer a_mate a_operands a_varies a_parted a_variableVaries a_same a_fixed a_worth a_needed a_variableNeeded a_values a_variables a_outputs a_cells a_whole a_waiting := fun hz h =>
    ⟨i1, nm_r (by rw [c1, xv_nar1]) (h1 hz h)⟩
  refine br_c (fun hz => br_c (fun hp => ⟨hin, vp_in_nI (by omega) (by omega), br_c (fun hh => h0 ?_) (fun hh => up hz (Or.inl hh))⟩) (fun hp => up hz (Or.inr hp))) (fun hz => h0 (fun _ => hz))
  rintro (h | h)
  · exact absurd hh h
  · exact absurd hp h
theorem xv_break12 (hn : n ≤ 48) (hK : ∀ j, j < n → a_kinds j = nI (K j) ∧ K j ≤ 25) (hg : sc_good K n) (hok : ∀ j, j < n → ∀ s, s < 3 → sc_us (K j) s → sc_ov K a_firsts a_seconds a_thirds s j) (hH : ∀ j, j < n → a_home j = nI (sc_hd (sc_lf K j)) ∧ a_mate j = nI (sc_mt K j)) {post : Int32 → SX → Prop} :
    ∀ (l : List (Nat × Nat)) (j t : Nat) (p : Prop) (x2 : Int32), j ≤ n → sc_fr K j = l → t + l.length ≤ 4 → (x2 ≠ 0 ↔ p) →
      ((∀ b, vr_brk K a_firsts (xv_V a_varies) p l b → xv_V a_parted b) → post 0 (f_lines, f_studied, f_wrong, f_wrongAt, f_brief, f_on, f_dropped, f_steps, f_nextLine, f_repeats, a_kinds, a_firsts, a_seconds, a_thirds, a_inputs, a_home, a_depth, a_closer, a_mate, a_operands, a_varies, a_parted, a_variableVaries, a_same, a_fixed, a_worth, a_needed, a_variableNeeded, a_values, a_variables, a_outputs, a_cells, a_whole, a_waiting)) →
      (∀ b m, (b, m) ∈ l → K m = 22 → a_parted b = 0 → (vr_brk K a_firsts (xv_V a_varies) p l b ∨ xv_V a_parted (sc_hd (sc_lf K (b - 1)))) → post 1 (f_lines, f_studied, f_wrong, f_wrongAt, f_brief, f_on, f_dropped, f_steps, f_nextLine, f_repeats, a_kinds, a_firsts, a_seconds, a_thirds, a_inputs, a_home, a_depth, a_closer, a_mate, a_operands, a_varies, upd a_parted b 1, a_variableVaries, a_same, a_fixed, a_worth, a_needed, a_variableNeeded, a_values, a_variables, a_outputs, a_cells, a_whole, a_waiting)) →
      ∀ d, l.length < d → wX_spreadBreak_12 post f_lines f_studied f_wrong f_wrongAt f_brief f_on f_dropped f_steps f_nextLine f_repeats a_kinds a_firsts a_seconds a_thirds a_inputs a_home a_depth a_closer a_mate a_operands a_varies a_parted a_variableVaries a_same a_fixed a_worth a_needed a_variableNeeded a_values a_variables a_outputs a_cells a_whole a_waiting d x2 (nI (sc_hd l)) (nI t) := by
  intro l
  induction l with
  | nil =>
    intro j t p x2 hj e ht hp h0 h1 d hd
    obtain ⟨d, rfl⟩ : ∃ e, d = e + 1 := ⟨d - 1, by simp at hd; omega⟩
    have h0' : wX_spreadBreak_81 post x2 (nI (sc_hd [])) f_lines f_studied f_wrong f_wrongAt f_brief f_on f_dropped f_steps f_nextLine f_repeats a_kinds a_firsts a_seconds a_thirds a_inputs a_home a_depth a_closer a_mate a_operands a_varies a_parted a_variableVaries a_same a_fixed a_worth a_needed a_variableNeeded a_values a_variables a_outputs a_cells a_whole a_waiting := br_t rfl (h0 (fun b h => h.elim))
    exact br_c (fun _ => h0') (fun _ => br_t rfl h0')
  | cons f r ih =>
    obtain ⟨b, m⟩ := f
    intro j t p x2 hj e ht hp h0 h1 d hd
    have T := sc_top j (sc_good_le hg hj) _ _ _ e
    simp only [List.length_cons] at ht hd
    obtain ⟨d, rfl⟩ : ∃ e, d = e + 1 := ⟨d - 1, by omega⟩
    have tb : b ≤ n := by have := T.2.1; omega
    have tb1 := T.1
    have tm := T.2.2.1
    have ei : nI b - 1 = nI (b - 1) := nb_m1 tb1
    have cl : (nI b - 1).toNatClampNeg = b - 1 := by rw [ei, nI_clamp (by omega)]
    have hin : vp_in (nI b - 1) 48 := by rw [ei]; exact vp_in_nI (by omega) (by omega)
    have kb := hK (b - 1) (by omega)
    have hb := hH (b - 1) (by omega)
    rw [sc_hd_cons]
    refine br_f (nI_ge (b := 4) (by omega) (by decide)) (br_f (nI_ne0 (by omega) (by omega)) ⟨hin, ?_⟩)
    rw [cl, kb.1, hb.2, T.2.2.2.2.2.2.1]
    refine pk_eq (K (b - 1)) 22 (fun h22 => ?_) (fun h22 => ?_)
    · have km : K m = 22 := by
        rcases T.2.2.2.1 with ⟨h, _⟩ | ⟨h, _⟩
        · rw [h, Nat.add_sub_cancel] at h22; exact h22
        · omega
      have eb : b - 1 + 1 = b := by omega
      refine br_f (nI_ne0 (by omega) (by omega)) ?_
      rw [ei]
      refine xv_spreadBlock (K := K) hn hg (fun j hj => (hH j hj).1) (by omega) (fun h => br_t rfl (h0 ?_)) (fun hz h => br_f (by decide) ?_)
      · rw [eb] at h
        rintro b' (⟨_, hp', e'⟩ | ⟨h', _⟩)
        · rw [e']; exact h (Or.inr (hp.mpr hp'))
        · exact absurd km h'
      · rw [eb] at hz ⊢
        refine h1 b m (List.mem_cons_self ..) km hz ?_
        rcases h with h | h
        · exact Or.inr h
        · exact Or.inl (Or.inl ⟨km, hp.mp h, rfl⟩)
    · have km : K m = 19 := by
        rcases T.2.2.2.1 with ⟨h, h'⟩ | ⟨_, h, _⟩
        · rw [h, Nat.add_sub_cancel] at h22; omega
        · exact h
      have hmn : m < n := by omega
      obtain ⟨x, hx, ex, _⟩ := hok m hmn 0 (by omega) (by unfold sc_us; omega)
      have ex' : a_firsts m = nI x := ex
      have go : ∀ z0 : Int32, (z0 ≠ 0 ↔ (p ∨ xv_V a_varies (a_firsts m).toNatClampNeg)) → wX_spreadBreak_65 post (wX_spreadBreak_12 post f_lines f_studied f_wrong f_wrongAt f_brief f_on f_dropped f_steps f_nextLine f_repeats a_kinds a_firsts a_seconds a_thirds a_inputs a_home a_depth a_closer a_mate a_operands a_varies a_parted a_variableVaries a_same a_fixed a_worth a_needed a_variableNeeded a_values a_variables a_outputs a_cells a_whole a_waiting d) (nI b) (nI t) z0 f_lines f_studied f_wrong f_wrongAt f_brief f_on f_dropped f_steps f_nextLine f_repeats a_kinds a_firsts a_seconds a_thirds a_inputs a_home a_depth a_closer a_mate a_operands a_varies a_parted a_variableVaries a_same a_fixed a_worth a_needed a_variableNeeded a_values a_variables a_outputs a_cells a_whole a_waiting := by
        intro z0 hz0
        refine ⟨hin, nm_r (by rw [cl, hb.1, T.2.2.2.2.1]) (nm_r (nI_1 t) (ih m (t + 1) _ z0 (by omega) T.2.2.2.2.2.1 (by omega) hz0 (fun h => h0 ?_) (fun b' m' hm' k' hz' h => h1 b' m' (List.mem_cons_of_mem _ hm') k' hz' ?_) d (by omega)))⟩
        · rintro b' (⟨h', _⟩ | ⟨_, h'⟩)
          · rw [km] at h'; omega
          · exact h b' h'
        · rcases h with h | h
          · exact Or.inl (Or.inr ⟨by rw [km]; omega, h⟩)
          · exact Or.inr h
      have cm : (nI m).toNatClampNeg = m := nI_clamp (by omega)
      rw [cm, ex', nI_clamp (by omega)]
      rw [ex', nI_clamp (by omega)] at go
      refine br_c (fun hz => ⟨hin, vp_in_nI (by omega) (by omega), vp_in_nI (by omega) (by omega), br_c (fun hvz => go 0 ⟨fun h => absurd rfl h, fun h => ?_⟩) (fun hvz => go 1 ⟨fun _ => Or.inr hvz, fun _ => by decide⟩)⟩) (fun hz => go 1 ⟨fun _ => Or.inl (hp.mp hz), fun _ => by decide⟩)
      rcases h with h | h
      · exact absurd hz (hp.mpr h)
      · exact absurd hvz h
theorem xv_spreadOther (hn : n ≤ 48) (hK : ∀ j, j < n → a_kinds j = nI (K j) ∧ K j ≤ 25) (hg : sc_good K n) (h4 : ∀ j, j < n → (K j = 1 ∨ K j = 11 ∨ K j = 16 ∨ K j = 17 ∨ K j = 18) → ∃ a, a < 4 ∧ a_firsts j = nI a) (hok : ∀ j, j < n → ∀ s, s < 3 → sc_us (K j) s → sc_ov K a_firsts a_seconds a_thirds s j) (hH : ∀ j, j < n → a_home j = nI (sc_hd (sc_lf K j)) ∧ a_mate j = nI (sc_mt K j)) {post : Int32 → SX → Prop} {i : Nat} (hi : i < n) (h17 : ¬ K i ≤ 16)
    (h0 : (vr_s1 K a_firsts a_seconds a_thirds (xv_V a_varies) (xv_V a_parted) (xv_V a_variableVaries) i ∧ vr_s2 K a_firsts (xv_V a_varies) (xv_V a_parted) i ∧ vr_s3 K a_firsts (xv_V a_varies) (xv_V a_parted) i) → post 0 (f_lines, f_studied, f_wrong, f_wrongAt, f_brief, f_on, f_dropped, f_steps, f_nextLine, f_repeats, a_kinds, a_firsts, a_seconds, a_thirds, a_inputs, a_home, a_depth, a_closer, a_mate, a_operands, a_varies, a_parted, a_variableVaries, a_same, a_fixed, a_worth, a_needed, a_variableNeeded, a_values, a_variables, a_outputs, a_cells, a_whole, a_waiting))
    (h1 : ∀ va pa vv, xv_up K a_firsts a_seconds a_thirds n a_varies a_parted a_variableVaries va pa vv → post 1 (f_lines, f_studied, f_wrong, f_wrongAt, f_brief, f_on, f_dropped, f_steps, f_nextLine, f_repeats, a_kinds, a_firsts, a_seconds, a_thirds, a_inputs, a_home, a_depth, a_closer, a_mate, a_operands, va, pa, vv, a_same, a_fixed, a_worth, a_needed, a_variableNeeded, a_values, a_variables, a_outputs, a_cells, a_whole, a_waiting)) : wpX_spreadOther post (f_lines, f_studied, f_wrong, f_wrongAt, f_brief, f_on, f_dropped, f_steps, f_nextLine, f_repeats, a_kinds, a_firsts, a_seconds, a_thirds, a_inputs, a_home, a_depth, a_closer, a_mate, a_operands, a_varies, a_parted, a_variableVaries, a_same, a_fixed, a_worth, a_needed, a_variableNeeded, a_values, a_variables, a_outputs, a_cells, a_whole, a_waiting) (nI i) := by
  have ci : (nI i).toNatClampNeg = i := nI_clamp (by omega)
  have hin : vp_in (nI i) 48 := vp_in_nI (by omega) (by omega)
  have ki := hK i hi
  have gi : sc_good K (i + 1) := sc_good_le hg (by omega)
  have no : ¬ (K i = 17 ∨ K i = 19 ∨ K i = 20 ∨ K i = 22 ∨ K i = 24) → post 0 (f_lines, f_studied, f_wrong, f_wrongAt, f_brief, f_on, f_dropped, f_steps, f_nextLine, f_repeats, a_kinds, a_firsts, a_seconds, a_thirds, a_inputs, a_home, a_depth, a_closer, a_mate, a_operands, a_varies, a_parted, a_variableVaries, a_same, a_fixed, a_worth, a_needed, a_variableNeeded, a_values, a_variables, a_outputs, a_cells, a_whole, a_waiting) := fun h =>
    h0 ⟨⟨fun h' => absurd h' h17, fun h' => absurd h' (by omega)⟩, fun h' => absurd h' (by omega), fun h' => absurd h' (by omega)⟩
  have hsub : ∀ V L W, vr_C K a_firsts a_seconds a_thirds n V L W → vr_sub K n (xv_V a_varies) (xv_V a_parted) (xv_V a_variableVaries) V L W → xv_V a_parted (sc_hd (sc_lf K i)) → L (sc_hd (sc_lf K i)) := fun V L W hc s h =>
    s.2.1 _ (Nat.le_trans (sc_hdl_le gi) (by omega)) (sc_hdl_op gi) h
  have t58 : (K i = 19 ∨ K i = 20) → wX_spreadOther_58 post (nI i) f_lines f_studied f_wrong f_wrongAt f_brief f_on f_dropped f_steps f_nextLine f_repeats a_kinds a_firsts a_seconds a_thirds a_inputs a_home a_depth a_closer a_mate a_operands a_varies a_parted a_variableVaries a_same a_fixed a_worth a_needed a_variableNeeded a_values a_variables a_outputs a_cells a_whole a_waiting := by
    intro hk
    have mle := sc_mt_le gi
    have kmt : K (sc_mt K i) = 19 := by
      rcases hk with hk | hk
      · rw [sc_mt_n (by omega)]; exact hk
      · obtain ⟨m, r, e, km⟩ := (hg i hi).2.1 hk
        rw [sc_mt_cl (by omega), e]; exact km
    obtain ⟨x, hx, ex, _⟩ := hok (sc_mt K i) (by omega) 0 (by omega) (by unfold sc_us; omega)
    have ex' : a_firsts (sc_mt K i) = nI x := ex
    refine ⟨hin, ?_⟩
    rw [ci, (hH i hi).2, nI_clamp (by omega), ex', nI_clamp (by omega)]
    refine ⟨vp_in_nI (by omega) (by omega), vp_in_nI (by omega) (by omega), ?_⟩
    refine xv_spreadBlock (K := K) hn hg (fun j hj => (hH j hj).1) hi (fun h => ⟨xs_nb0, h0 ⟨⟨fun h' => absurd h' h17, fun h' => absurd h' (by omega)⟩, fun _ h' => h ?_, fun h' => absurd h' (by omega)⟩⟩) (fun hz h => ⟨xs_nb1, h1 _ _ _ (xv_upL hn (by omega) hz (fun V L W hc s => (hc i hi).2.1 (by omega) ?_))⟩)
    · rcases h' with h' | ⟨_, h'⟩
      · exact Or.inl h'
      · rw [ex', nI_clamp (by omega)] at h'; exact Or.inr h'
    · rcases h with h | h
      · exact Or.inl (hsub V L W hc s h)
      · refine Or.inr ⟨by omega, ?_⟩
        rw [ex', nI_clamp (by omega)]
        exact s.1 x (by omega) h
  refine ⟨hin, nm_c ci ki.1 ?_⟩
  refine pk_lt (K i) 17 (fun h => absurd h (by omega)) (fun _ => pk_lt 24 (K i) (fun h => no (by omega)) (fun _ => pk_eq (K i) 17 (fun h => ?_) (fun _ => pk_eq (K i) 18 (fun h => no (by omega)) (fun _ => pk_eq (K i) 19 (fun h => t58 (Or.inl h)) (fun _ => pk_eq (K i) 20 (fun h => t58 (Or.inr h)) (fun _ => pk_eq (K i) 21 (fun h => no (by omega)) (fun _ => pk_eq (K i) 22 (fun h => ?_) (fun _ => pk_eq (K i) 23 (fun h => no (by omega)) (fun _ => pk_eq (K i) 24 (fun h => ?_) (fun _ => trivial))))))))))
  · refine xv_spreadPut (K := K) hn hg h4 (fun j hj => (hH j hj).1) hi h (hok i hi 1 (by omega) (by unfold sc_us; omega)) (fun h' => ⟨xs_nb0, h0 ⟨⟨fun h'' => absurd h'' h17, fun _ => h'⟩, fun h' => absurd h' (by omega), fun h' => absurd h' (by omega)⟩⟩) (fun va pa vv hu => ⟨xs_nb1, h1 va pa vv hu⟩)
  · refine xv_spreadBlock (K := K) hn hg (fun j hj => (hH j hj).1) hi (fun h' => ⟨xs_nb0, h0 ⟨⟨fun h' => absurd h' h17, fun h' => absurd h' (by omega)⟩, fun _ h'' => h' ?_, fun h' => absurd h' (by omega)⟩⟩) (fun hz h' => ⟨xs_nb1, h1 _ _ _ (xv_upL hn (by omega) hz (fun V L W hc s => (hc i hi).2.1 (by omega) ?_))⟩)
    · rcases h'' with h'' | ⟨h'', _⟩
      · exact Or.inl h''
      · exact absurd h h''
    · rcases h' with h' | h'
      · exact Or.inl (hsub V L W hc s h')
      · exact absurd rfl h'
  · have el : sc_lf K i = sc_fr K i := sc_lf_n (by omega)
    have len := sc_len i (sc_good_le hg (by omega))
    refine ⟨hin, nm_c ci (hH i hi).1 ⟨5, ?_⟩⟩
    rw [el]
    refine xv_break12 (K := K) (n := n) (post := fun r_124 u => match u with | (f_lines, f_studied, f_wrong, f_wrongAt, f_brief, f_on, f_dropped, f_steps, f_nextLine, f_repeats, a_kinds, a_firsts, a_seconds, a_thirds, a_inputs, a_home, a_depth, a_closer, a_mate, a_operands, a_varies, a_parted, a_variableVaries, a_same, a_fixed, a_worth, a_needed, a_variableNeeded, a_values, a_variables, a_outputs, a_cells, a_whole, a_waiting) => (narrow .boolean (.int r_124) = .int r_124 ∧ (post r_124 (f_lines, f_studied, f_wrong, f_wrongAt, f_brief, f_on, f_dropped, f_steps, f_nextLine, f_repeats, a_kinds, a_firsts, a_seconds, a_thirds, a_inputs, a_home, a_depth, a_closer, a_mate, a_operands, a_varies, a_parted, a_variableVaries, a_same, a_fixed, a_worth, a_needed, a_variableNeeded, a_values, a_variables, a_outputs, a_cells, a_whole, a_waiting)))) hn hK hg hok hH (sc_fr K i) i 0 False 0 (by omega) rfl (by omega) ⟨fun h => absurd rfl h, fun h => h.elim⟩ (fun h' => ⟨xs_nb0, h0 ⟨⟨fun h' => absurd h' h17, fun h' => absurd h' (by omega)⟩, fun h' => absurd h' (by omega), fun _ => by rw [el]; exact h'⟩⟩) (fun b m hm km hz h' => ⟨xs_nb1, h1 _ _ _ (xv_upL hn ?_ hz (fun V L W hc s => ?_))⟩) 5 (by omega)
    · obtain ⟨r, T⟩ := sc_memT (sc_good_le hg (show i ≤ n by omega)) hm
      have := T.2.1; omega
    · obtain ⟨r, T⟩ := sc_memT (sc_good_le hg (show i ≤ n by omega)) hm
      have tb := T.2.1
      have tb1 := T.1
      rcases h' with h' | h'
      · refine (hc i hi).2.2 h b ?_
        rw [el]
        refine vr_brk_mono _ _ _ b (fun h => h) (fun f hf hV hk => s.1 _ ?_ hV) h'
        obtain ⟨r', T'⟩ := sc_memT (b := f.1) (m := f.2) (sc_good_le hg (show i ≤ n by omega)) hf
        have kf : K f.2 = 19 := by
          rcases T'.2.2.2.1 with ⟨_, h''⟩ | ⟨_, h'', _⟩
          · omega
          · exact h''
        have := T'.2.1
        have := T'.2.2.1
        obtain ⟨x, hx, ex, _⟩ := hok f.2 (by omega) 0 (by omega) (by unfold sc_us; omega)
        rw [show a_firsts f.2 = nI x from ex, nI_clamp (by omega)]; omega
      · have gb : sc_good K (b - 1 + 1) := sc_good_le hg (by omega)
        have := (hc (b - 1) (by omega)).2.1 T.2.2.2.2.2.2.2.1 (Or.inl (s.2.1 _ (Nat.le_trans (sc_hdl_le gb) (by omega)) (sc_hdl_op gb) h'))
        rw [show b - 1 + 1 = b by omega] at this
        exact this
end
