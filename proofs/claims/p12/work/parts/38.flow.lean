section
variable {K : Nat → Nat} {n : Nat} {T : Nat → Nat × Bool × Int32} {br : Int32}
variable {f_lines f_studied f_wrong f_wrongAt f_brief f_on f_dropped f_steps f_nextLine f_repeats : Int32} {a_kinds a_firsts a_seconds a_thirds a_inputs a_home a_depth a_closer a_mate a_operands a_varies a_parted a_variableVaries a_same a_fixed a_worth a_needed a_variableNeeded a_values a_variables a_outputs a_cells a_whole a_waiting : Nat → Int32}
/-- X's switch over lines -/
theorem rx_do {post : Int32 → SX → Prop} {i k : Nat} (hi : i < 48) (ki : a_kinds i = nI k) (hk : k ≤ 25)
    (cv : k ≤ 16 → wpX_giveValue (fun u => match u with | (f_lines, f_studied, f_wrong, f_wrongAt, f_brief, f_on, f_dropped, f_steps, f_nextLine, f_repeats, a_kinds, a_firsts, a_seconds, a_thirds, a_inputs, a_home, a_depth, a_closer, a_mate, a_operands, a_varies, a_parted, a_variableVaries, a_same, a_fixed, a_worth, a_needed, a_variableNeeded, a_values, a_variables, a_outputs, a_cells, a_whole, a_waiting) => (post (nI (i + 1)) (f_lines, f_studied, f_wrong, f_wrongAt, f_brief, f_on, f_dropped, f_steps, f_nextLine, f_repeats, a_kinds, a_firsts, a_seconds, a_thirds, a_inputs, a_home, a_depth, a_closer, a_mate, a_operands, a_varies, a_parted, a_variableVaries, a_same, a_fixed, a_worth, a_needed, a_variableNeeded, a_values, a_variables, a_outputs, a_cells, a_whole, a_waiting))) (f_lines, f_studied, f_wrong, f_wrongAt, f_brief, f_on, f_dropped, f_steps, f_nextLine, f_repeats, a_kinds, a_firsts, a_seconds, a_thirds, a_inputs, a_home, a_depth, a_closer, a_mate, a_operands, a_varies, a_parted, a_variableVaries, a_same, a_fixed, a_worth, a_needed, a_variableNeeded, a_values, a_variables, a_outputs, a_cells, a_whole, a_waiting) (nI i)) (c17 : k = 17 → wpX_putVariable (fun u => match u with | (f_lines, f_studied, f_wrong, f_wrongAt, f_brief, f_on, f_dropped, f_steps, f_nextLine, f_repeats, a_kinds, a_firsts, a_seconds, a_thirds, a_inputs, a_home, a_depth, a_closer, a_mate, a_operands, a_varies, a_parted, a_variableVaries, a_same, a_fixed, a_worth, a_needed, a_variableNeeded, a_values, a_variables, a_outputs, a_cells, a_whole, a_waiting) => (post (nI (i + 1)) (f_lines, f_studied, f_wrong, f_wrongAt, f_brief, f_on, f_dropped, f_steps, f_nextLine, f_repeats, a_kinds, a_firsts, a_seconds, a_thirds, a_inputs, a_home, a_depth, a_closer, a_mate, a_operands, a_varies, a_parted, a_variableVaries, a_same, a_fixed, a_worth, a_needed, a_variableNeeded, a_values, a_variables, a_outputs, a_cells, a_whole, a_waiting))) (f_lines, f_studied, f_wrong, f_wrongAt, f_brief, f_on, f_dropped, f_steps, f_nextLine, f_repeats, a_kinds, a_firsts, a_seconds, a_thirds, a_inputs, a_home, a_depth, a_closer, a_mate, a_operands, a_varies, a_parted, a_variableVaries, a_same, a_fixed, a_worth, a_needed, a_variableNeeded, a_values, a_variables, a_outputs, a_cells, a_whole, a_waiting) (nI i)) (c18 : k = 18 → wpX_putOutput (fun u => match u with | (f_lines, f_studied, f_wrong, f_wrongAt, f_brief, f_on, f_dropped, f_steps, f_nextLine, f_repeats, a_kinds, a_firsts, a_seconds, a_thirds, a_inputs, a_home, a_depth, a_closer, a_mate, a_operands, a_varies, a_parted, a_variableVaries, a_same, a_fixed, a_worth, a_needed, a_variableNeeded, a_values, a_variables, a_outputs, a_cells, a_whole, a_waiting) => (post (nI (i + 1)) (f_lines, f_studied, f_wrong, f_wrongAt, f_brief, f_on, f_dropped, f_steps, f_nextLine, f_repeats, a_kinds, a_firsts, a_seconds, a_thirds, a_inputs, a_home, a_depth, a_closer, a_mate, a_operands, a_varies, a_parted, a_variableVaries, a_same, a_fixed, a_worth, a_needed, a_variableNeeded, a_values, a_variables, a_outputs, a_cells, a_whole, a_waiting))) (f_lines, f_studied, f_wrong, f_wrongAt, f_brief, f_on, f_dropped, f_steps, f_nextLine, f_repeats, a_kinds, a_firsts, a_seconds, a_thirds, a_inputs, a_home, a_depth, a_closer, a_mate, a_operands, a_varies, a_parted, a_variableVaries, a_same, a_fixed, a_worth, a_needed, a_variableNeeded, a_values, a_variables, a_outputs, a_cells, a_whole, a_waiting) (nI i))
    (c19 : k = 19 → wpX_enterFirstPart (fun r_148 u => match u with | (f_lines, f_studied, f_wrong, f_wrongAt, f_brief, f_on, f_dropped, f_steps, f_nextLine, f_repeats, a_kinds, a_firsts, a_seconds, a_thirds, a_inputs, a_home, a_depth, a_closer, a_mate, a_operands, a_varies, a_parted, a_variableVaries, a_same, a_fixed, a_worth, a_needed, a_variableNeeded, a_values, a_variables, a_outputs, a_cells, a_whole, a_waiting) => (post r_148 (f_lines, f_studied, f_wrong, f_wrongAt, f_brief, f_on, f_dropped, f_steps, f_nextLine, f_repeats, a_kinds, a_firsts, a_seconds, a_thirds, a_inputs, a_home, a_depth, a_closer, a_mate, a_operands, a_varies, a_parted, a_variableVaries, a_same, a_fixed, a_worth, a_needed, a_variableNeeded, a_values, a_variables, a_outputs, a_cells, a_whole, a_waiting))) (f_lines, f_studied, f_wrong, f_wrongAt, f_brief, f_on, f_dropped, f_steps, f_nextLine, f_repeats, a_kinds, a_firsts, a_seconds, a_thirds, a_inputs, a_home, a_depth, a_closer, a_mate, a_operands, a_varies, a_parted, a_variableVaries, a_same, a_fixed, a_worth, a_needed, a_variableNeeded, a_values, a_variables, a_outputs, a_cells, a_whole, a_waiting) (nI i)) (c20 : k = 20 → wpX_enterSecondPart (fun r_148 u => match u with | (f_lines, f_studied, f_wrong, f_wrongAt, f_brief, f_on, f_dropped, f_steps, f_nextLine, f_repeats, a_kinds, a_firsts, a_seconds, a_thirds, a_inputs, a_home, a_depth, a_closer, a_mate, a_operands, a_varies, a_parted, a_variableVaries, a_same, a_fixed, a_worth, a_needed, a_variableNeeded, a_values, a_variables, a_outputs, a_cells, a_whole, a_waiting) => (post r_148 (f_lines, f_studied, f_wrong, f_wrongAt, f_brief, f_on, f_dropped, f_steps, f_nextLine, f_repeats, a_kinds, a_firsts, a_seconds, a_thirds, a_inputs, a_home, a_depth, a_closer, a_mate, a_operands, a_varies, a_parted, a_variableVaries, a_same, a_fixed, a_worth, a_needed, a_variableNeeded, a_values, a_variables, a_outputs, a_cells, a_whole, a_waiting))) (f_lines, f_studied, f_wrong, f_wrongAt, f_brief, f_on, f_dropped, f_steps, f_nextLine, f_repeats, a_kinds, a_firsts, a_seconds, a_thirds, a_inputs, a_home, a_depth, a_closer, a_mate, a_operands, a_varies, a_parted, a_variableVaries, a_same, a_fixed, a_worth, a_needed, a_variableNeeded, a_values, a_variables, a_outputs, a_cells, a_whole, a_waiting) (nI i))
    (c21 : k = 21 → (vp_in (a_depth i) 4 ∧ (∀ f_on_222 : Int32, f_on_222 = a_whole (a_depth i).toNatClampNeg → (post (nI (i + 1)) (f_lines, f_studied, f_wrong, f_wrongAt, f_brief, f_on_222, f_dropped, f_steps, f_nextLine, f_repeats, a_kinds, a_firsts, a_seconds, a_thirds, a_inputs, a_home, a_depth, a_closer, a_mate, a_operands, a_varies, a_parted, a_variableVaries, a_same, a_fixed, a_worth, a_needed, a_variableNeeded, a_values, a_variables, a_outputs, a_cells, a_whole, a_waiting)))))
    (c22 : k = 22 → (vp_in (a_depth i) 4 ∧ (∀ a_whole_226 : Nat → Int32, a_whole_226 = upd a_whole (a_depth i).toNatClampNeg f_on → (post (nI (i + 1)) (f_lines, f_studied, f_wrong, f_wrongAt, f_brief, f_on, f_dropped, f_steps, f_nextLine, f_repeats, a_kinds, a_firsts, a_seconds, a_thirds, a_inputs, a_home, a_depth, a_closer, a_mate, a_operands, a_varies, a_parted, a_variableVaries, a_same, a_fixed, a_worth, a_needed, a_variableNeeded, a_values, a_variables, a_outputs, a_cells, a_whole_226, a_waiting)))))
    (c23 : k = 23 → wpX_endRound (fun r_148 u => match u with | (f_lines, f_studied, f_wrong, f_wrongAt, f_brief, f_on, f_dropped, f_steps, f_nextLine, f_repeats, a_kinds, a_firsts, a_seconds, a_thirds, a_inputs, a_home, a_depth, a_closer, a_mate, a_operands, a_varies, a_parted, a_variableVaries, a_same, a_fixed, a_worth, a_needed, a_variableNeeded, a_values, a_variables, a_outputs, a_cells, a_whole, a_waiting) => (post r_148 (f_lines, f_studied, f_wrong, f_wrongAt, f_brief, f_on, f_dropped, f_steps, f_nextLine, f_repeats, a_kinds, a_firsts, a_seconds, a_thirds, a_inputs, a_home, a_depth, a_closer, a_mate, a_operands, a_varies, a_parted, a_variableVaries, a_same, a_fixed, a_worth, a_needed, a_variableNeeded, a_values, a_variables, a_outputs, a_cells, a_whole, a_waiting))) (f_lines, f_studied, f_wrong, f_wrongAt, f_brief, f_on, f_dropped, f_steps, f_nextLine, f_repeats, a_kinds, a_firsts, a_seconds, a_thirds, a_inputs, a_home, a_depth, a_closer, a_mate, a_operands, a_varies, a_parted, a_variableVaries, a_same, a_fixed, a_worth, a_needed, a_variableNeeded, a_values, a_variables, a_outputs, a_cells, a_whole, a_waiting) (nI i)) (c24 : k = 24 → wpX_leaveLoop (fun u => match u with | (f_lines, f_studied, f_wrong, f_wrongAt, f_brief, f_on, f_dropped, f_steps, f_nextLine, f_repeats, a_kinds, a_firsts, a_seconds, a_thirds, a_inputs, a_home, a_depth, a_closer, a_mate, a_operands, a_varies, a_parted, a_variableVaries, a_same, a_fixed, a_worth, a_needed, a_variableNeeded, a_values, a_variables, a_outputs, a_cells, a_whole, a_waiting) => (post (nI (i + 1)) (f_lines, f_studied, f_wrong, f_wrongAt, f_brief, f_on, f_dropped, f_steps, f_nextLine, f_repeats, a_kinds, a_firsts, a_seconds, a_thirds, a_inputs, a_home, a_depth, a_closer, a_mate, a_operands, a_varies, a_parted, a_variableVaries, a_same, a_fixed, a_worth, a_needed, a_variableNeeded, a_values, a_variables, a_outputs, a_cells, a_whole, a_waiting))) (f_lines, f_studied, f_wrong, f_wrongAt, f_brief, f_on, f_dropped, f_steps, f_nextLine, f_repeats, a_kinds, a_firsts, a_seconds, a_thirds, a_inputs, a_home, a_depth, a_closer, a_mate, a_operands, a_varies, a_parted, a_variableVaries, a_same, a_fixed, a_worth, a_needed, a_variableNeeded, a_values, a_variables, a_outputs, a_cells, a_whole, a_waiting) (nI i))
    (c25 : k = 25 → post (nI (i + 1)) (f_lines, f_studied, f_wrong, f_wrongAt, f_brief, f_on, f_dropped ||| f_on, f_steps, f_nextLine, f_repeats, a_kinds, a_firsts, a_seconds, a_thirds, a_inputs, a_home, a_depth, a_closer, a_mate, a_operands, a_varies, a_parted, a_variableVaries, a_same, a_fixed, a_worth, a_needed, a_variableNeeded, a_values, a_variables, a_outputs, a_cells, a_whole, a_waiting)) : wpX_doLine post (f_lines, f_studied, f_wrong, f_wrongAt, f_brief, f_on, f_dropped, f_steps, f_nextLine, f_repeats, a_kinds, a_firsts, a_seconds, a_thirds, a_inputs, a_home, a_depth, a_closer, a_mate, a_operands, a_varies, a_parted, a_variableVaries, a_same, a_fixed, a_worth, a_needed, a_variableNeeded, a_values, a_variables, a_outputs, a_cells, a_whole, a_waiting) (nI i) := by
  have ci : (nI i).toNatClampNeg = i := nI_clamp (by omega)
  have ii : vp_in (nI i) 48 := vp_in_nI (by omega) (by omega)
  refine ⟨ii, nm_c ci ki ?_⟩
  rw [nI_1, ci]
  exact pk_lt k 17 (fun h => cv (by omega)) (fun h17 => pk_lt 25 k (fun h => absurd h (by omega)) (fun _ => pk_eq k 17 c17 (fun _ => pk_eq k 18 c18 (fun _ => pk_eq k 19 c19 (fun _ => pk_eq k 20 c20 (fun _ => pk_eq k 21 (fun h => ⟨ii, c21 h⟩) (fun _ => pk_eq k 22 (fun h => ⟨ii, c22 h⟩) (fun _ => pk_eq k 23 c23 (fun _ => pk_eq k 24 c24 (fun _ => pk_eq k 25 (fun h => nm_e (c25 h)) (fun _ => trivial)))))))))))
/-- X at an IF -/
theorem rx_if4 (hP : xv_P K n a_kinds a_firsts a_seconds a_thirds a_home a_mate a_operands) (hR : sh_R T n a_same a_fixed a_worth) (hgT : ∀ j, j < n → sh_good T j) {post : Int32 → SX → Prop} {i w tk L q : Nat} (hi : i < n) (k19 : K i = 19) (hw : w < 16) (htk : tk < 16) (hL : L < 4) (eD : a_depth i = nI L) (hq : q < n) (eC : a_closer (i + 1) = nI q)
    (hb : ∀ l, l < 4 → tk.testBit l = (w.testBit l && !(rv f_brief T a_values (sh_o a_firsts a_seconds a_thirds 0 i) l == 0)))
    (h1 : tk ≠ 0 → post (nI (i + 1)) (f_lines, f_studied, f_wrong, f_wrongAt, f_brief, nI tk, f_dropped, f_steps, f_nextLine, f_repeats, a_kinds, a_firsts, a_seconds, a_thirds, a_inputs, a_home, a_depth, a_closer, a_mate, a_operands, a_varies, a_parted, a_variableVaries, a_same, a_fixed, a_worth, a_needed, a_variableNeeded, a_values, a_variables, a_outputs, a_cells, upd a_whole L (nI w), upd a_waiting L (nI (w &&& (15 ^^^ tk)))))
    (h2 : tk = 0 → K q = 20 → post (nI (q + 1)) (f_lines, f_studied, f_wrong, f_wrongAt, f_brief, nI (w &&& (15 ^^^ tk)), f_dropped, f_steps, f_nextLine, f_repeats, a_kinds, a_firsts, a_seconds, a_thirds, a_inputs, a_home, a_depth, a_closer, a_mate, a_operands, a_varies, a_parted, a_variableVaries, a_same, a_fixed, a_worth, a_needed, a_variableNeeded, a_values, a_variables, a_outputs, a_cells, upd a_whole L (nI w), upd a_waiting L (nI (w &&& (15 ^^^ tk)))))
    (h3 : tk = 0 → K q ≠ 20 → post (nI q) (f_lines, f_studied, f_wrong, f_wrongAt, f_brief, 0, f_dropped, f_steps, f_nextLine, f_repeats, a_kinds, a_firsts, a_seconds, a_thirds, a_inputs, a_home, a_depth, a_closer, a_mate, a_operands, a_varies, a_parted, a_variableVaries, a_same, a_fixed, a_worth, a_needed, a_variableNeeded, a_values, a_variables, a_outputs, a_cells, upd a_whole L (nI w), upd a_waiting L (nI (w &&& (15 ^^^ tk))))) :
    ∀ d t m : Nat, t + d = 4 → m < 16 → (∀ l, l < 4 → m.testBit l = (decide (l < t) && (w.testBit l && !(rv f_brief T a_values (sh_o a_firsts a_seconds a_thirds 0 i) l == 0)))) → wX_enterFirstPart_4 post (nI i) f_lines f_studied f_wrong f_wrongAt f_brief (nI w) f_dropped f_steps f_nextLine f_repeats a_kinds a_firsts a_seconds a_thirds a_inputs a_home a_depth a_closer a_mate a_operands a_varies a_parted a_variableVaries a_same a_fixed a_worth a_needed a_variableNeeded a_values a_variables a_outputs a_cells a_whole a_waiting (d + 1) (nI m) (nI t) := by
  have hP' := hP
  obtain ⟨hn, hK, hgd, h4, hok, hH, hO⟩ := hP'
  have ci : (nI i).toNatClampNeg = i := nI_clamp (by omega)
  have ii : vp_in (nI i) 48 := vp_in_nI (by omega) (by omega)
  have iL : vp_in (nI L) 4 := vp_in_nI hL (by omega)
  have cL : (nI L).toNatClampNeg = L := nI_clamp (by omega)
  intro d
  induction d with
  | zero =>
    intro t m ht hm hbm
    cases (show t = 4 by omega)
    have em : m = tk := mk_ext m hm tk htk (fun l hl => by rw [hbm l hl, hb l hl]; simp [hl])
    subst em
    refine br_t (by decide) ⟨ii, ?_⟩
    rw [ci, eD, cL]
    refine ⟨iL, nm_e ⟨ii, iL, nm_r (e' := upd a_waiting L (nI (w &&& (15 ^^^ m)))) (by rw [mk_an w hw m hm]) ?_⟩⟩
    refine pk_eq m 0 (fun e0 => ⟨?_, ?_⟩) (fun e0 => ?_)
    · rw [nI_1]; exact vp_in_nI (by omega) (by omega)
    · rw [nI_1, nI_clamp (show i + 1 < 2 ^ 31 by omega), eC]
      refine nm_e ⟨vp_in_nI (by omega) (by omega), ?_⟩
      rw [nI_clamp (show q < 2 ^ 31 by omega), (hK q hq).1]
      have kq := (hK q hq).2
      refine pk_eq (K q) 20 (fun e => ⟨ii, iL, nm_r (e' := nI (w &&& (15 ^^^ m))) pk_us ?_⟩) (fun e => ?_)
      · rw [nI_1]; exact h2 e0 e
      · have := h3 e0 e
        subst e0
        exact this
    · rw [nI_1]; exact h1 e0
  | succ d ih =>
    intro t m ht hm hbm
    have stay : (w.testBit t && !(rv f_brief T a_values (sh_o a_firsts a_seconds a_thirds 0 i) t == 0)) = false → wX_enterFirstPart_4 post (nI i) f_lines f_studied f_wrong f_wrongAt f_brief (nI w) f_dropped f_steps f_nextLine f_repeats a_kinds a_firsts a_seconds a_thirds a_inputs a_home a_depth a_closer a_mate a_operands a_varies a_parted a_variableVaries a_same a_fixed a_worth a_needed a_variableNeeded a_values a_variables a_outputs a_cells a_whole a_waiting (d + 1) (nI m) (nI (t + 1)) := fun hf => ih (t + 1) m (by omega) hm (fun l hl => by
      rw [hbm l hl]
      by_cases e : l = t
      · subst e; rw [hf]; simp
      · have : decide (l < t) = decide (l < t + 1) := by
          have : (l < t) ↔ (l < t + 1) := by omega
          simp only [this]
        rw [this])
    refine br_f (nI_ge (b := 4) (by omega) (by decide)) ?_
    refine rx_isOn hw (by omega) rfl (fun ho => br_f (by decide) ?_) (fun ho => br_t rfl (nm_r (nI_1 t) (stay (by rw [ho]; rfl))))
    refine rx_read (K := K) (n := n) (T := T) (s := 0) hP hR hgT hi (by omega) (by omega) (fun _ => br_c (fun hz => nm_r (nI_1 t) (stay (by rw [hz]; simp))) (fun hz => nm_r (mk_set m hm t (by omega)).1 (nm_r (nI_1 t) (ih (t + 1) (m ||| 2 ^ t) (by omega) (mk_set m hm t (by omega)).2 (fun l hl => ?_))))) (fun h' => absurd (by unfold sc_us; omega) h')
    rw [mk_setb m hm t (by omega) l hl, hbm l hl]
    by_cases e : l = t
    · subst e; rw [ho]; simp [hz]
    · have h1 : decide (l < t) = decide (l < t + 1) := by
        have : (l < t) ↔ (l < t + 1) := by omega
        simp only [this]
      rw [h1]; simp [e]
/-- masks behind a BREAK -/
def bk (K : Nat → Nat) (on : Int32) : List (Nat × Nat) → (Nat → Int32) → Nat → Int32
  | [], wh => wh
  | f :: r, wh => if K f.2 = 22 then wh else bk K on r (upd wh r.length (wh r.length &&& (on ^^^ (-1))))
/-- X at a BREAK -/
theorem rx_break9 (hn : n ≤ 48) (hK : ∀ j, j < n → a_kinds j = nI (K j) ∧ K j ≤ 25) (hg : sc_good K n) (hA : ∀ j, j < n → a_home j = nI (sc_hd (sc_lf K j)) ∧ a_depth j = nI (sc_lf K j).length) {post : SX → Prop} :
    ∀ (l : List (Nat × Nat)) (j t : Nat) (wh : Nat → Int32), j ≤ n → sc_fr K j = l → t + l.length ≤ 4 → post (f_lines, f_studied, f_wrong, f_wrongAt, f_brief, 0, f_dropped, f_steps, f_nextLine, f_repeats, a_kinds, a_firsts, a_seconds, a_thirds, a_inputs, a_home, a_depth, a_closer, a_mate, a_operands, a_varies, a_parted, a_variableVaries, a_same, a_fixed, a_worth, a_needed, a_variableNeeded, a_values, a_variables, a_outputs, a_cells, bk K f_on l wh, a_waiting) → ∀ d, l.length < d → wX_leaveLoop_9 post f_lines f_studied f_wrong f_wrongAt f_brief f_on f_dropped f_steps f_nextLine f_repeats d (nI (sc_hd l)) (nI t) a_kinds a_firsts a_seconds a_thirds a_inputs a_home a_depth a_closer a_mate a_operands a_varies a_parted a_variableVaries a_same a_fixed a_worth a_needed a_variableNeeded a_values a_variables a_outputs a_cells wh a_waiting := by
  intro l
  induction l with
  | nil =>
    intro j t wh hj e ht h d hd
    obtain ⟨d, rfl⟩ : ∃ e, d = e + 1 := ⟨d - 1, by simp at hd; omega⟩
    exact br_c (fun _ => h) (fun _ => br_t rfl h)
  | cons f r ih =>
    obtain ⟨b, m⟩ := f
    intro j t wh hj e ht h d hd
    have T := sc_top j (sc_good_le hg hj) _ _ _ e
    simp only [List.length_cons] at ht hd
    obtain ⟨d, rfl⟩ : ∃ e, d = e + 1 := ⟨d - 1, by omega⟩
    have tb : b ≤ n := by have := T.2.1; omega
    have tb1 := T.1
    have tm := T.2.2.1
    have ei : nI b - 1 = nI (b - 1) := nb_m1 tb1
    have cl : (nI b - 1).toNatClampNeg = b - 1 := by rw [ei, nI_clamp (by omega)]
    have hin : vp_in (nI b - 1) 48 := by rw [ei]; exact vp_in_nI (by omega) (by omega)
    have kb := hK (b - 1) (by omega)
    have hb := hA (b - 1) (by omega)
    rw [sc_hd_cons]
    refine br_f (nI_ge (b := 4) (by omega) (by decide)) (br_f (nI_ne0 (by omega) (by omega)) ⟨hin, ?_⟩)
    rw [cl, kb.1, hb.1, hb.2, T.2.2.2.2.1, nI_clamp (show r.length < 2 ^ 31 by omega)]
    unfold bk at h
    refine pk_eq (K (b - 1)) 22 (fun h22 => ?_) (fun h22 => ⟨hin, vp_in_nI (by omega) (by omega), vp_in_nI (by omega) (by omega), nm_e ⟨hin, nm_e (nm_r (nI_1 t) (ih m (t + 1) _ (by omega) T.2.2.2.2.2.1 (by omega) ?_ d (by omega)))⟩⟩)
    · have km : K m = 22 := by
        rcases T.2.2.2.1 with ⟨h, _⟩ | ⟨h, _⟩
        · rw [h, Nat.add_sub_cancel] at h22; exact h22
        · omega
      rw [if_pos km] at h; exact h
    · have km : K m ≠ 22 := by
        rcases T.2.2.2.1 with ⟨h, _⟩ | ⟨_, h, _⟩
        · rw [h, Nat.add_sub_cancel] at h22; exact h22
        · omega
      rw [if_neg km] at h; exact h
end
section
variable {K : Nat → Nat} {n : Nat} {T : Nat → Nat × Bool × Int32} {br : Int32}
variable {f_lines f_known f_wrong f_place f_blocks f_steps f_dropped f_on f_next f_again f_depth : Int32} {a_ops a_as a_bs a_cs a_blockOf a_opener a_around a_other a_end a_open a_varied a_loose a_variedVariable a_stands a_number a_isConst a_needed a_inputs a_values a_variables a_cells a_outs a_was a_rest a_line : Nat → Int32}
theorem ry_do {post : SY → Prop} {i k : Nat} (hi : i < 48) (ki : a_ops i = nI k) (hk : k ≤ 25)
    (c16 : k = 16 → wpY_take (fun u => match u with | (f_lines, f_known, f_wrong, f_place, f_blocks, f_steps, f_dropped, f_on, f_next, f_again, f_depth, a_ops, a_as, a_bs, a_cs, a_blockOf, a_opener, a_around, a_other, a_end, a_open, a_varied, a_loose, a_variedVariable, a_stands, a_number, a_isConst, a_needed, a_inputs, a_values, a_variables, a_cells, a_outs, a_was, a_rest, a_line) => (post (f_lines, f_known, f_wrong, f_place, f_blocks, f_steps, f_dropped, f_on, f_next, f_again, f_depth, a_ops, a_as, a_bs, a_cs, a_blockOf, a_opener, a_around, a_other, a_end, a_open, a_varied, a_loose, a_variedVariable, a_stands, a_number, a_isConst, a_needed, a_inputs, a_values, a_variables, a_cells, a_outs, a_was, a_rest, a_line))) (f_lines, f_known, f_wrong, f_place, f_blocks, f_steps, f_dropped, f_on, nI (i + 1), f_again, f_depth, a_ops, a_as, a_bs, a_cs, a_blockOf, a_opener, a_around, a_other, a_end, a_open, a_varied, a_loose, a_variedVariable, a_stands, a_number, a_isConst, a_needed, a_inputs, a_values, a_variables, a_cells, a_outs, a_was, a_rest, a_line) (nI i) br) (cv : k ≤ 15 → ∃ m, wY_step_39 post (nI i) br f_lines f_known f_wrong f_place f_blocks f_steps f_dropped f_on (nI (i + 1)) f_again f_depth m 0 a_ops a_as a_bs a_cs a_blockOf a_opener a_around a_other a_end a_open a_varied a_loose a_variedVariable a_stands a_number a_isConst a_needed a_inputs a_values a_variables a_cells a_outs a_was a_rest a_line)
    (c17 : k = 17 → ∃ m, wY_step_101 post (nI i) br 17 f_lines f_known f_wrong f_place f_blocks f_steps f_dropped f_on (nI (i + 1)) f_again f_depth m 0 a_ops a_as a_bs a_cs a_blockOf a_opener a_around a_other a_end a_open a_varied a_loose a_variedVariable a_stands a_number a_isConst a_needed a_inputs a_values a_variables a_cells a_outs a_was a_rest a_line) (c18 : k = 18 → ∃ m, wY_step_101 post (nI i) br 18 f_lines f_known f_wrong f_place f_blocks f_steps f_dropped f_on (nI (i + 1)) f_again f_depth m 0 a_ops a_as a_bs a_cs a_blockOf a_opener a_around a_other a_end a_open a_varied a_loose a_variedVariable a_stands a_number a_isConst a_needed a_inputs a_values a_variables a_cells a_outs a_was a_rest a_line)
    (c25 : k = 25 → post (f_lines, f_known, f_wrong, f_place, f_blocks, f_steps, f_dropped ||| f_on, f_on, nI (i + 1), f_again, f_depth, a_ops, a_as, a_bs, a_cs, a_blockOf, a_opener, a_around, a_other, a_end, a_open, a_varied, a_loose, a_variedVariable, a_stands, a_number, a_isConst, a_needed, a_inputs, a_values, a_variables, a_cells, a_outs, a_was, a_rest, a_line)) (cf : 19 ≤ k → k ≤ 24 → wpY_flow (fun u => match u with | (f_lines, f_known, f_wrong, f_place, f_blocks, f_steps, f_dropped, f_on, f_next, f_again, f_depth, a_ops, a_as, a_bs, a_cs, a_blockOf, a_opener, a_around, a_other, a_end, a_open, a_varied, a_loose, a_variedVariable, a_stands, a_number, a_isConst, a_needed, a_inputs, a_values, a_variables, a_cells, a_outs, a_was, a_rest, a_line) => (post (f_lines, f_known, f_wrong, f_place, f_blocks, f_steps, f_dropped, f_on, f_next, f_again, f_depth, a_ops, a_as, a_bs, a_cs, a_blockOf, a_opener, a_around, a_other, a_end, a_open, a_varied, a_loose, a_variedVariable, a_stands, a_number, a_isConst, a_needed, a_inputs, a_values, a_variables, a_cells, a_outs, a_was, a_rest, a_line))) (f_lines, f_known, f_wrong, f_place, f_blocks, f_steps, f_dropped, f_on, nI (i + 1), f_again, f_depth, a_ops, a_as, a_bs, a_cs, a_blockOf, a_opener, a_around, a_other, a_end, a_open, a_varied, a_loose, a_variedVariable, a_stands, a_number, a_isConst, a_needed, a_inputs, a_values, a_variables, a_cells, a_outs, a_was, a_rest, a_line) (nI i) (nI k) br) : wpY_step post (f_lines, f_known, f_wrong, f_place, f_blocks, f_steps, f_dropped, f_on, f_next, f_again, f_depth, a_ops, a_as, a_bs, a_cs, a_blockOf, a_opener, a_around, a_other, a_end, a_open, a_varied, a_loose, a_variedVariable, a_stands, a_number, a_isConst, a_needed, a_inputs, a_values, a_variables, a_cells, a_outs, a_was, a_rest, a_line) (nI i) br := by
  have ci : (nI i).toNatClampNeg = i := nI_clamp (by omega)
  have ii : vp_in (nI i) 48 := vp_in_nI (by omega) (by omega)
  refine ⟨ii, nm_c ci ki (nm_r (nI_1 i) ?_)⟩
  refine pk_eq k 16 c16 (fun n16 => ?_)
  refine ys_gives hk (fun h16 => br_f (by decide) (cv (by omega))) (fun h16 => br_t rfl ?_)
  refine pk_eq k 17 (fun e => ?_) (fun n17 => pk_eq k 18 (fun e => ?_) (fun n18 => pk_eq k 25 (fun e => nm_e (c25 e)) (fun n25 => cf (by omega) (by omega))))
  · rw [e]; exact c17 e
  · rw [e]; exact c18 e
/-- Y at a BREAK -/
theorem ry_break7 (hn : n ≤ 48) (hK : ∀ j, j < n → a_ops j = nI (K j) ∧ K j ≤ 25) (hg : sc_good K n) {post : SY → Prop} :
    ∀ (l : List (Nat × Nat)) (j : Nat) (ws : Nat → Int32), j ≤ n → sc_fr K j = l → (∃ f, f ∈ l ∧ K f.2 = 22) → ys_O a_line l → post (f_lines, f_known, f_wrong, f_place, f_blocks, f_steps, f_dropped, 0, f_next, f_again, f_depth, a_ops, a_as, a_bs, a_cs, a_blockOf, a_opener, a_around, a_other, a_end, a_open, a_varied, a_loose, a_variedVariable, a_stands, a_number, a_isConst, a_needed, a_inputs, a_values, a_variables, a_cells, a_outs, bk K f_on l ws, a_rest, a_line) → ∀ d, l.length < d → wY_leave_7 post f_lines f_known f_wrong f_place f_blocks f_steps f_dropped f_on f_next f_again f_depth d (nI l.length + (-1)) a_ops a_as a_bs a_cs a_blockOf a_opener a_around a_other a_end a_open a_varied a_loose a_variedVariable a_stands a_number a_isConst a_needed a_inputs a_values a_variables a_cells a_outs ws a_rest a_line := by
  intro l
  induction l with
  | nil =>
    intro j ws hj e hl hO h d hd
    obtain ⟨f, hf, _⟩ := hl
    cases hf
  | cons f r ih =>
    obtain ⟨b, m⟩ := f
    intro j ws hj e hl hO h d hd
    have T := sc_top j (sc_good_le hg hj) _ _ _ e
    have len := sc_len j (sc_good_le hg hj)
    rw [e] at len
    simp only [List.length_cons] at hd len
    obtain ⟨d, rfl⟩ : ∃ e, d = e + 1 := ⟨d - 1, by omega⟩
    have tb : b ≤ n := by have := T.2.1; omega
    have tm := T.2.2.1
    have km := hK m (by omega)
    have el : nI ((b, m) :: r).length + (-1) = nI r.length := pk_m1 _
    have iL : vp_in (nI r.length) 4 := vp_in_nI (by omega) (by omega)
    have cL : (nI r.length).toNatClampNeg = r.length := nI_clamp (by omega)
    obtain ⟨o1, o2⟩ := hO
    rw [el]
    refine ⟨iL, ?_⟩
    rw [cL, show a_line r.length = nI m from o1, nI_clamp (show m < 2 ^ 31 by omega), km.1]
    unfold bk at h
    refine ⟨vp_in_nI (by omega) (by omega), pk_eq (K m) 19 (fun h19 => ⟨iL, iL, nm_e (nm_e (ih m _ (by omega) T.2.2.2.2.2.1 ?_ o2 ?_ d (by omega)))⟩) (fun h19 => ?_)⟩
    · obtain ⟨f, hf, kf⟩ := hl
      rcases List.mem_cons.mp hf with h' | h'
      · rw [h'] at kf; have kf' : K m = 22 := kf; omega
      · exact ⟨f, h', kf⟩
    · rw [if_neg (by show K m ≠ 22; omega)] at h; exact h
    · have k22 : K m = 22 := by
        rcases T.2.2.2.1 with ⟨_, h'⟩ | ⟨_, h', _⟩
        · omega
        · exact absurd h' h19
      rw [if_pos k22] at h; exact h
end
section
variable {K : Nat → Nat}
theorem st_O {wh ws ln : Nat → Int32} : ∀ l : List (Nat × Nat), st_R K wh ws ln l → ys_O ln l := by
  intro l
  induction l with
  | nil => intro _; trivial
  | cons f r ih => intro h; exact ⟨h.1, ih h.2.2.2.2.2⟩
theorem bk_ge {on : Int32} : ∀ (l : List (Nat × Nat)) (wh : Nat → Int32) (k : Nat), l.length ≤ k → bk K on l wh k = wh k := by
  intro l
  induction l with
  | nil => intro wh k _; rfl
  | cons f r ih =>
    intro wh k hk
    simp only [List.length_cons] at hk
    unfold bk
    split
    · rfl
    · rw [ih _ k (by omega), pk_un (by omega)]
/-- a BREAK keeps what holds of the masks -/
theorem bk_st {wo : Nat} (hwo : wo < 16) : ∀ (l : List (Nat × Nat)) (wh ws ln : Nat → Int32), (∃ f, f ∈ l ∧ K f.2 = 22) → st_R K wh ws ln l → st_R K (bk K (nI wo) l wh) (bk K (nI wo) l ws) ln l := by
  intro l
  induction l with
  | nil => intro wh ws ln _ _; trivial
  | cons f r ih =>
    intro wh ws ln hl h
    by_cases k22 : K f.2 = 22
    · have e1 : ∀ z, bk K (nI wo) (f :: r) z = z := fun z => by unfold bk; rw [if_pos k22]
      rw [e1, e1]; exact h
    · have e1 : ∀ z, bk K (nI wo) (f :: r) z = bk K (nI wo) r (upd z r.length (z r.length &&& (nI wo ^^^ (-1)))) := fun z => by
        show (if _ then _ else _) = _
        rw [if_neg k22]
      rw [e1, e1]
      have hl' : ∃ g, g ∈ r ∧ K g.2 = 22 := by
        obtain ⟨g, hg, kg⟩ := hl
        rcases List.mem_cons.mp hg with h' | h'
        · rw [h'] at kg; exact absurd kg k22
        · exact ⟨g, h', kg⟩
      obtain ⟨h1, h2, ⟨w, hw, ew⟩, h4, h5, h6⟩ := h
      refine ⟨h1, ?_, ?_, fun h' => absurd h' k22, fun _ => hl', ?_⟩
      · rw [bk_ge _ _ _ (Nat.le_refl _), bk_ge _ _ _ (Nat.le_refl _), pk_us, pk_us, h2]
      · rw [bk_ge _ _ _ (Nat.le_refl _), pk_us, ew, mk_an w hw wo hwo]
        exact ⟨_, (mk_lt w hw wo hwo).1, rfl⟩
      · refine ih _ _ ln hl' ?_
        have := st_R_upd (x := wh r.length &&& (nI wo ^^^ (-1))) (y := ws r.length &&& (nI wo ^^^ (-1))) (z := ln r.length) r r.length (Nat.le_refl _) h6
        rw [up_same (f := ln) rfl] at this
        exact this
end
