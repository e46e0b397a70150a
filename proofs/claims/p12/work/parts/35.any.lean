section
variable {K : Nat → Nat} {n : Nat} {T : Nat → Nat × Bool × Int32} {br : Int32}
variable {f_lines f_studied f_wrong f_wrongAt f_brief f_on f_dropped f_steps f_nextLine f_repeats : Int32} {a_kinds a_firsts a_seconds a_thirds a_inputs a_home a_depth a_closer a_mate a_operands a_varies a_parted a_variableVaries a_same a_fixed a_worth a_needed a_variableNeeded a_values a_variables a_outputs a_cells a_whole a_waiting : Nat → Int32}
theorem rx_any (hP : xv_P K n a_kinds a_firsts a_seconds a_thirds a_home a_mate a_operands) (hR : sh_R T n a_same a_fixed a_worth) (hgT : ∀ j, j < n → sh_good T j) {post : Int32 → Prop} {i w dw : Nat} (hi : i < n) (u0 : sc_us (K i) 0) (hw : w < 16) (eon : f_on = nI w) (hdw : dw < 16) (edr : f_dropped = nI dw)
    (h1 : (∃ l, l < 4 ∧ w.testBit l = true ∧ dw.testBit l = false ∧ rv f_brief T a_values (sh_o a_firsts a_seconds a_thirds 0 i) l ≠ 0) → post 1) (h0 : (¬ ∃ l, l < 4 ∧ w.testBit l = true ∧ dw.testBit l = false ∧ rv f_brief T a_values (sh_o a_firsts a_seconds a_thirds 0 i) l ≠ 0) → post 0) :
    ∀ d t : Nat, t + d = 4 → (∀ l, l < t → ¬ (w.testBit l = true ∧ dw.testBit l = false ∧ rv f_brief T a_values (sh_o a_firsts a_seconds a_thirds 0 i) l ≠ 0)) → wX_anyOf_2 post (nI i) f_lines f_studied f_wrong f_wrongAt f_brief f_on f_dropped f_steps f_nextLine f_repeats a_kinds a_firsts a_seconds a_thirds a_inputs a_home a_depth a_closer a_mate a_operands a_varies a_parted a_variableVaries a_same a_fixed a_worth a_needed a_variableNeeded a_values a_variables a_outputs a_cells a_whole a_waiting (d + 1) (nI t) := by
  intro d
  induction d with
  | zero =>
    intro t ht hno
    cases (show t = 4 by omega)
    exact br_t (by decide) (h0 (fun ⟨l, hl, h⟩ => hno l hl h))
  | succ d ih =>
    intro t ht hno
    have next : ¬ (w.testBit t = true ∧ dw.testBit t = false ∧ rv f_brief T a_values (sh_o a_firsts a_seconds a_thirds 0 i) t ≠ 0) → wX_anyOf_2 post (nI i) f_lines f_studied f_wrong f_wrongAt f_brief f_on f_dropped f_steps f_nextLine f_repeats a_kinds a_firsts a_seconds a_thirds a_inputs a_home a_depth a_closer a_mate a_operands a_varies a_parted a_variableVaries a_same a_fixed a_worth a_needed a_variableNeeded a_values a_variables a_outputs a_cells a_whole a_waiting (d + 1) (nI (t + 1)) := fun hn =>
      ih (t + 1) (by omega) (fun l hl => by
        by_cases e : l = t
        · rw [e]; exact hn
        · exact hno l (by omega))
    refine br_f (nI_ge (b := 4) (by omega) (by decide)) ?_
    refine rx_isOn hw (by omega) eon (fun ho => br_f (by decide) ?_) (fun ho => br_t rfl (nm_r (nI_1 t) (next (fun h => by rw [ho] at h; cases h.1))))
    refine rx_isDropped hdw (by omega) edr (fun hd => br_f (by decide) (nm_r (nI_1 t) (next (fun h => by rw [hd] at h; cases h.2.1)))) (fun hd => br_t rfl ?_)
    exact rx_read (K := K) (n := n) (T := T) (s := 0) hP hR hgT hi (by omega) (by omega) (fun _ => br_c (fun hz => nm_r (nI_1 t) (next (fun h => h.2.2 hz))) (fun hz => h1 ⟨t, by omega, ho, hd, hz⟩)) (fun h' => absurd u0 h')
theorem rx_first (hP : xv_P K n a_kinds a_firsts a_seconds a_thirds a_home a_mate a_operands) (hR : sh_R T n a_same a_fixed a_worth) (hgT : ∀ j, j < n → sh_good T j) {post : Int32 → Prop} {i w dw : Nat} (hi : i < n) (u0 : sc_us (K i) 0) (hw : w < 16) (eon : f_on = nI w) (hdw : dw < 16) (edr : f_dropped = nI dw)
    (h1 : ∀ l, l < 4 → (w.testBit l = true ∧ dw.testBit l = false) → (∀ q, q < l → ¬ (w.testBit q = true ∧ dw.testBit q = false)) → post (rv f_brief T a_values (sh_o a_firsts a_seconds a_thirds 0 i) l)) (h0 : (∀ q, q < 4 → ¬ (w.testBit q = true ∧ dw.testBit q = false)) → post 0) :
    ∀ d t : Nat, t + d = 4 → (∀ l, l < t → ¬ (w.testBit l = true ∧ dw.testBit l = false)) → wX_firstOf_2 post (nI i) f_lines f_studied f_wrong f_wrongAt f_brief f_on f_dropped f_steps f_nextLine f_repeats a_kinds a_firsts a_seconds a_thirds a_inputs a_home a_depth a_closer a_mate a_operands a_varies a_parted a_variableVaries a_same a_fixed a_worth a_needed a_variableNeeded a_values a_variables a_outputs a_cells a_whole a_waiting (d + 1) (nI t) := by
  intro d
  induction d with
  | zero =>
    intro t ht hno
    cases (show t = 4 by omega)
    exact br_t (by decide) (h0 hno)
  | succ d ih =>
    intro t ht hno
    have next : ¬ (w.testBit t = true ∧ dw.testBit t = false) → wX_firstOf_2 post (nI i) f_lines f_studied f_wrong f_wrongAt f_brief f_on f_dropped f_steps f_nextLine f_repeats a_kinds a_firsts a_seconds a_thirds a_inputs a_home a_depth a_closer a_mate a_operands a_varies a_parted a_variableVaries a_same a_fixed a_worth a_needed a_variableNeeded a_values a_variables a_outputs a_cells a_whole a_waiting (d + 1) (nI (t + 1)) := fun hn =>
      ih (t + 1) (by omega) (fun l hl => by
        by_cases e : l = t
        · rw [e]; exact hn
        · exact hno l (by omega))
    refine br_f (nI_ge (b := 4) (by omega) (by decide)) ?_
    refine rx_isOn hw (by omega) eon (fun ho => br_f (by decide) ?_) (fun ho => br_t rfl (nm_r (nI_1 t) (next (fun h => by rw [ho] at h; cases h.1))))
    refine rx_isDropped hdw (by omega) edr (fun hd => br_f (by decide) (nm_r (nI_1 t) (next (fun h => by rw [hd] at h; cases h.2)))) (fun hd => br_t rfl ?_)
    exact rx_read (K := K) (n := n) (T := T) (s := 0) hP hR hgT hi (by omega) (by omega) (fun _ => h1 t (by omega) ⟨ho, hd⟩ hno) (fun h' => absurd u0 h')
end
section
variable {K : Nat → Nat} {n : Nat} {T : Nat → Nat × Bool × Int32} {br : Int32}
variable {f_lines f_known f_wrong f_place f_blocks f_steps f_dropped f_on f_next f_again f_depth : Int32} {a_ops a_as a_bs a_cs a_blockOf a_opener a_around a_other a_end a_open a_varied a_loose a_variedVariable a_stands a_number a_isConst a_needed a_inputs a_values a_variables a_cells a_outs a_was a_rest a_line : Nat → Int32}
theorem ry_mask5 (hn : n ≤ 48) (hR : sh_R T n a_stands a_isConst a_number) (hgT : ∀ j, j < n → sh_good T j) {post : Int32 → Prop} {o : Nat} (ho : o < n) (h : ∀ m, m < 16 → (∀ l, l < 4 → m.testBit l = !(rv br T a_values o l == 0)) → post (nI m)) :
    ∀ d t m : Nat, t + d = 4 → m < 16 → (∀ l, l < 4 → m.testBit l = (decide (l < t) && !(rv br T a_values o l == 0))) → wY_mask_5 post (nI o) br f_lines f_known f_wrong f_place f_blocks f_steps f_dropped f_on f_next f_again f_depth a_ops a_as a_bs a_cs a_blockOf a_opener a_around a_other a_end a_open a_varied a_loose a_variedVariable a_stands a_number a_isConst a_needed a_inputs a_values a_variables a_cells a_outs a_was a_rest a_line (d + 1) (nI m) (nI t) := by
  intro d
  induction d with
  | zero =>
    intro t m ht hm hb
    cases (show t = 4 by omega)
    refine br_t (by decide) (h m hm (fun l hl => ?_))
    rw [hb l hl]; simp [hl]
  | succ d ih =>
    intro t m ht hm hb
    refine br_f (nI_ge (b := 4) (by omega) (by decide)) ?_
    refine ry_value (n := n) (T := T) hn hR hgT ho (by omega) ?_
    refine br_c (fun hz => nm_r (nI_1 t) (ih (t + 1) m (by omega) hm (fun l hl => ?_))) (fun hz => nm_r (mk_set m hm t (by omega)).1 (nm_r (nI_1 t) (ih (t + 1) (m ||| 2 ^ t) (by omega) (mk_set m hm t (by omega)).2 (fun l hl => ?_))))
    · rw [hb l hl]
      by_cases e : l = t
      · subst e; simp [hz]
      · have : decide (l < t) = decide (l < t + 1) := by
          have : (l < t) ↔ (l < t + 1) := by omega
          simp only [this]
        rw [this]
    · rw [mk_setb m hm t (by omega) l hl, hb l hl]
      by_cases e : l = t
      · subst e; simp [hz]
      · have h1 : decide (l < t) = decide (l < t + 1) := by
          have : (l < t) ↔ (l < t + 1) := by omega
          simp only [this]
        rw [h1]; simp [e]
theorem ry_mask (hn : n ≤ 48) (hR : sh_R T n a_stands a_isConst a_number) (hgT : ∀ j, j < n → sh_good T j) {post : Int32 → Prop} {o : Nat} (ho : o < n) (h : ∀ m, m < 16 → (∀ l, l < 4 → m.testBit l = !(rv br T a_values o l == 0)) → post (nI m)) : wpY_mask post (f_lines, f_known, f_wrong, f_place, f_blocks, f_steps, f_dropped, f_on, f_next, f_again, f_depth, a_ops, a_as, a_bs, a_cs, a_blockOf, a_opener, a_around, a_other, a_end, a_open, a_varied, a_loose, a_variedVariable, a_stands, a_number, a_isConst, a_needed, a_inputs, a_values, a_variables, a_cells, a_outs, a_was, a_rest, a_line) (nI o) br :=
  ⟨5, ry_mask5 (n := n) (T := T) hn hR hgT ho h 4 0 0 rfl (by omega) (fun l hl => by simp)⟩
theorem ry_first (hn : n ≤ 48) (hR : sh_R T n a_stands a_isConst a_number) (hgT : ∀ j, j < n → sh_good T j) {post : Int32 → Prop} {o w : Nat} (ho : o < n) (hw : w < 16)
    (h1 : ∀ l, l < 4 → w.testBit l = true → (∀ q, q < l → ¬ w.testBit q = true) → post (rv br T a_values o l)) (h0 : (∀ q, q < 4 → ¬ w.testBit q = true) → post 0) :
    ∀ d t : Nat, t + d = 4 → (∀ l, l < t → ¬ w.testBit l = true) → wY_result_236 post br (nI o) (nI w) f_lines f_known f_wrong f_place f_blocks f_steps f_dropped f_on f_next f_again f_depth a_ops a_as a_bs a_cs a_blockOf a_opener a_around a_other a_end a_open a_varied a_loose a_variedVariable a_stands a_number a_isConst a_needed a_inputs a_values a_variables a_cells a_outs a_was a_rest a_line (d + 1) (nI t) := by
  intro d
  induction d with
  | zero =>
    intro t ht hno
    cases (show t = 4 by omega)
    exact br_t (by decide) (br_t rfl (h0 hno))
  | succ d ih =>
    intro t ht hno
    refine br_f (nI_ge (b := 4) (by omega) (by decide)) ?_
    cases hb : w.testBit t with
    | false =>
      refine br_t ((mk_bit w hw t (by omega)).1.mpr hb) (nm_r (nI_1 t) (ih (t + 1) (by omega) (fun l hl => ?_)))
      by_cases e : l = t
      · rw [e, hb]; decide
      · exact hno l (by omega)
    | true =>
      refine br_f (fun h' => by have := (mk_bit w hw t (by omega)).1.mp h'; rw [hb] at this; cases this) (pk_eq t 4 (fun e => absurd e (by omega)) (fun _ => ?_))
      exact ry_value (n := n) (T := T) hn hR hgT ho (by omega) (h1 t (by omega) hb hno)
end
