section
variable {K : Nat → Nat} {n : Nat} {T : Nat → Nat × Bool × Int32} {br : Int32}
variable {f_lines f_studied f_wrong f_wrongAt f_brief f_on f_dropped f_steps f_nextLine f_repeats : Int32} {a_kinds a_firsts a_seconds a_thirds a_inputs a_home a_depth a_closer a_mate a_operands a_varies a_parted a_variableVaries a_same a_fixed a_worth a_needed a_variableNeeded a_values a_variables a_outputs a_cells a_whole a_waiting : Nat → Int32}
variable {yf_lines yf_known yf_wrong yf_place yf_blocks yf_steps yf_dropped yf_on yf_next yf_again yf_depth : Int32} {ya_ops ya_as ya_bs ya_cs ya_blockOf ya_opener ya_around ya_other ya_end ya_open ya_varied ya_loose ya_variedVariable ya_stands ya_number ya_isConst ya_needed ya_inputs ya_values ya_variables ya_cells ya_outs ya_was ya_rest ya_line : Nat → Int32}
/-- from line i on to the next one that is done -/
def pa_R (br : Int32) (nd : Nat → Int32) (n i at_ : Nat) : Prop := i ≤ at_ ∧ at_ ≤ n ∧ (br = 0 → at_ = i) ∧ (br ≠ 0 → (∀ j, i ≤ j → j < at_ → nd j = 0) ∧ (at_ < n → nd at_ ≠ 0))
/-- the same, also where no lane is on: a function of X's state -/
def pa_q (K : Nat → Nat) (n : Nat) (br : Int32) (nd : Nat → Int32) (on : Int32) (i a : Nat) : Prop :=
  (on = 0 → a < n ∧ (K a = 20 ∨ K a = 21 ∨ K a = 23) ∧ ∃ b m r, sc_fr K i = (b, m) :: r ∧ sc_fr K a = (b, m) :: r) ∧ (on ≠ 0 → pa_R br nd n i a)
theorem pa_uniq {nd : Nat → Int32} {i a b : Nat} (h : pa_R br nd n i a) (h' : pa_R br nd n i b) : a = b := by
  by_cases e : br = 0
  · rw [h.2.2.1 e, h'.2.2.1 e]
  · obtain ⟨p, q⟩ := h.2.2.2 e
    obtain ⟨p', q'⟩ := h'.2.2.2 e
    rcases Nat.lt_trichotomy a b with l | l | l
    · exact absurd (p' a h.1 l) (q (by have := h'.2.1; omega))
    · exact l
    · exact absurd (p b h'.1 l) (q' (by have := h.2.1; omega))
theorem pa_q_uniq {nd : Nat → Int32} {on : Int32} {i a a' : Nat} (hg : sc_good K n) (h : pa_q K n br nd on i a) (h' : pa_q K n br nd on i a') : a = a' := by
  by_cases e : on = 0
  · obtain ⟨ha, hc, b, m, r, e1, e2⟩ := h.1 e
    obtain ⟨ha', hc', b', m', r', e1', e2'⟩ := h'.1 e
    rw [e1'] at e1
    rw [e1] at e2'
    exact sc_uniqE hg ha ha' ⟨hc, _, _, e2⟩ ⟨hc', _, _, e2'⟩
  · exact pa_uniq (h.2 e) (h'.2 e)
theorem pa_fr {nd : Nat → Int32} {i a : Nat} (hnd : ∀ i, i < n → 16 ≤ K i ∧ K i ≠ 17 → nd i ≠ 0) (h : pa_R br nd n i a) : sc_fr K a = sc_fr K i := by
  by_cases e : br = 0
  · rw [h.2.2.1 e]
  · have p := (h.2.2.2 e).1
    obtain ⟨d, rfl⟩ : ∃ d, a = i + d := ⟨a - i, by have := h.1; omega⟩
    have hle := h.2.1
    clear h
    induction d with
    | zero => rfl
    | succ d ih =>
      have z := p (i + d) (by omega) (by omega)
      rw [← Nat.add_assoc, sc_s_plain (fun hk => hnd (i + d) (by omega) (by omega) z)]
      exact ih (fun j h1 h2 => p j h1 (by omega)) (by omega)
theorem rx_85 {post : Int32 → Prop} {J : Int32 → Int32 → Prop} {i t : Nat} (hi : i < 48) (h1 : (f_brief = 0 ∨ a_needed i ≠ 0) → post (nI i)) (h0 : f_brief ≠ 0 → a_needed i = 0 → J (nI (i + 1)) (nI (t + 1))) : wX_nextStep_85 post J (nI i) (nI t) f_lines f_studied f_wrong f_wrongAt f_brief f_on f_dropped f_steps f_nextLine f_repeats a_kinds a_firsts a_seconds a_thirds a_inputs a_home a_depth a_closer a_mate a_operands a_varies a_parted a_variableVaries a_same a_fixed a_worth a_needed a_variableNeeded a_values a_variables a_outputs a_cells a_whole a_waiting := by
  have ci : (nI i).toNatClampNeg = i := nI_clamp (by omega)
  refine br_c (fun hb => h1 (Or.inl hb)) (fun hb => ⟨vp_in_nI hi (by omega), ?_⟩)
  rw [ci]
  exact br_c (fun hz => nm_r (nI_1 i) (nm_r (nI_1 t) (h0 hb hz))) (fun hz => h1 (Or.inr hz))
/-- one round of X's walk to the next step -/
theorem rx_round (hn : n ≤ 48) (hK : ∀ j, j < n → a_kinds j = nI (K j) ∧ K j ≤ 25) {post : Int32 → Prop} {i t d : Nat} (hi : i < n) (ht : t < 48) (h56 : ∀ z0 : Int32, (z0 = 1 ∧ (K i = 20 ∨ K i = 21 ∨ K i = 23) ∨ z0 = 0 ∧ ¬ (K i = 20 ∨ K i = 21 ∨ K i = 23)) → wX_nextStep_56 post (wX_nextStep_4 post (nI n) f_studied f_wrong f_wrongAt f_brief f_on f_dropped f_steps f_nextLine f_repeats a_kinds a_firsts a_seconds a_thirds a_inputs a_home a_depth a_closer a_mate a_operands a_varies a_parted a_variableVaries a_same a_fixed a_worth a_needed a_variableNeeded a_values a_variables a_outputs a_cells a_whole a_waiting d) (nI i) (nI t) z0 (nI n) f_studied f_wrong f_wrongAt f_brief f_on f_dropped f_steps f_nextLine f_repeats a_kinds a_firsts a_seconds a_thirds a_inputs a_home a_depth a_closer a_mate a_operands a_varies a_parted a_variableVaries a_same a_fixed a_worth a_needed a_variableNeeded a_values a_variables a_outputs a_cells a_whole a_waiting) : wX_nextStep_4 post (nI n) f_studied f_wrong f_wrongAt f_brief f_on f_dropped f_steps f_nextLine f_repeats a_kinds a_firsts a_seconds a_thirds a_inputs a_home a_depth a_closer a_mate a_operands a_varies a_parted a_variableVaries a_same a_fixed a_worth a_needed a_variableNeeded a_values a_variables a_outputs a_cells a_whole a_waiting (d + 1) (nI i) (nI t) := by
  have ci : (nI i).toNatClampNeg = i := nI_clamp (by omega)
  have ii : vp_in (nI i) 48 := vp_in_nI (by omega) (by omega)
  have ki := hK i hi
  refine br_f (nI_ge (b := 48) ht (by decide)) (br_f (nI_ge hi (by omega)) ⟨ii, ?_⟩)
  rw [ci, ki.1]
  exact pk_eq (K i) 20 (fun h => h56 1 (Or.inl ⟨rfl, by omega⟩)) (fun n20 => ⟨ii, pk_eq (K i) 21 (fun h => h56 1 (Or.inl ⟨rfl, by omega⟩)) (fun n21 => ⟨ii, pk_eq (K i) 23 (fun h => h56 1 (Or.inl ⟨rfl, by omega⟩)) (fun n23 => h56 0 (Or.inr ⟨rfl, by omega⟩))⟩)⟩)
theorem rx_on (hn : n ≤ 48) (hK : ∀ j, j < n → a_kinds j = nI (K j) ∧ K j ≤ 25) (hon : f_on ≠ 0) {post : Int32 → Prop} : ∀ d i t : Nat, i + d = n → t + n ≤ 48 + i → (∀ a, pa_R f_brief a_needed n i a → post (nI a)) → wX_nextStep_4 post (nI n) f_studied f_wrong f_wrongAt f_brief f_on f_dropped f_steps f_nextLine f_repeats a_kinds a_firsts a_seconds a_thirds a_inputs a_home a_depth a_closer a_mate a_operands a_varies a_parted a_variableVaries a_same a_fixed a_worth a_needed a_variableNeeded a_values a_variables a_outputs a_cells a_whole a_waiting (d + 1) (nI i) (nI t) := by
  intro d
  induction d with
  | zero =>
    intro i t hi ht h
    cases (show i = n by omega)
    have := h n ⟨Nat.le_refl _, Nat.le_refl _, fun _ => rfl, fun _ => ⟨fun j a b => by omega, fun a => by omega⟩⟩
    exact br_c (fun _ => this) (fun _ => br_t (nI_le (Nat.le_refl _) (by omega)) this)
  | succ d ih =>
    intro i t hi ht h
    refine rx_round hn hK (by omega) (by omega) (fun z0 hz => br_f hon (rx_85 (by omega) (fun h' => h i ⟨Nat.le_refl _, by omega, fun _ => rfl, fun hb => ⟨fun j a b => by omega, fun _ => h'.resolve_left hb⟩⟩) (fun hb hz' => ih (i + 1) (t + 1) (by omega) (by omega) (fun a ha => h a ?_))))
    obtain ⟨a1, a2, a3, a4⟩ := ha
    refine ⟨by omega, a2, fun hb' => absurd hb' hb, fun hb' => ⟨fun j h1 h2 => ?_, (a4 hb').2⟩⟩
    by_cases e : j = i
    · rw [e]; exact hz'
    · exact (a4 hb').1 j (by omega) h2
/-- X's way to the end of the part -/
theorem rx_off (hn : n ≤ 48) (hK : ∀ j, j < n → a_kinds j = nI (K j) ∧ K j ≤ 25) (hg : sc_good K n) (h0 : sc_fr K n = []) (hA : ∀ j, j < n → a_home j = nI (sc_hd (sc_lf K j)) ∧ ((K j = 20 ∨ K j = 21 ∨ K j = 23) → a_closer (sc_hd (sc_fr K j)) = nI j)) (hnd : ∀ i, i < n → 16 ≤ K i ∧ K i ≠ 17 → a_needed i ≠ 0) (hon : f_on = 0) {post : Int32 → Prop} {i q b m : Nat} {r : List (Nat × Nat)} (hi : i < n) (e : sc_fr K i = (b, m) :: r) (hiq : i ≤ q) (hq : q < n) (hc : K q = 20 ∨ K q = 21 ∨ K q = 23) (eq : sc_fr K q = (b, m) :: r) (h : post (nI q)) : wpX_nextStep post (nI n, f_studied, f_wrong, f_wrongAt, f_brief, f_on, f_dropped, f_steps, f_nextLine, f_repeats, a_kinds, a_firsts, a_seconds, a_thirds, a_inputs, a_home, a_depth, a_closer, a_mate, a_operands, a_varies, a_parted, a_variableVaries, a_same, a_fixed, a_worth, a_needed, a_variableNeeded, a_values, a_variables, a_outputs, a_cells, a_whole, a_waiting) (nI i) := by
  have T := sc_top i (sc_good_le hg (by omega)) _ _ _ e
  have tb2 := T.2.1
  have at_q : ∀ (t d : Nat), t < 48 → wX_nextStep_4 post (nI n) f_studied f_wrong f_wrongAt f_brief f_on f_dropped f_steps f_nextLine f_repeats a_kinds a_firsts a_seconds a_thirds a_inputs a_home a_depth a_closer a_mate a_operands a_varies a_parted a_variableVaries a_same a_fixed a_worth a_needed a_variableNeeded a_values a_variables a_outputs a_cells a_whole a_waiting (d + 1) (nI q) (nI t) := by
    intro t d ht
    refine rx_round hn hK hq ht (fun z0 hz => ?_)
    rcases hz with ⟨rfl, _⟩ | ⟨_, hz⟩
    · exact br_t hon (br_f (by decide) (rx_85 (by omega) (fun _ => h) (fun _ hz => absurd hz (hnd q hq (by omega)))))
    · exact absurd hc hz
  by_cases hci : K i = 20 ∨ K i = 21 ∨ K i = 23
  · have : i = q := sc_uniqE hg hi hq (b := b) ⟨hci, _, _, e⟩ ⟨hc, _, _, eq⟩
    subst this
    exact ⟨1, at_q 0 0 (by omega)⟩
  · refine ⟨2, rx_round (t := 0) hn hK hi (by omega) (fun z0 hz => ?_)⟩
    rcases hz with ⟨_, hz⟩ | ⟨rfl, _⟩
    · exact absurd hz hci
    · have hh := (hA i hi).1
      rw [sc_lf_n hci, e, sc_hd_cons] at hh
      have hcl := (hA q hq).2 hc
      rw [eq, sc_hd_cons] at hcl
      refine br_t hon (br_t rfl ⟨vp_in_nI (by omega) (by omega), ?_⟩)
      rw [nI_clamp (show i < 2 ^ 31 by omega), hh, nI_clamp (by omega), hcl]
      exact ⟨vp_in_nI (by omega) (by omega), nm_e (nm_r (nI_1 0) (at_q 1 0 (by omega)))⟩
/-- Y's way past what is not done -/
theorem ry_15 (hn : n ≤ 48) (hK : ∀ j, j < n → ya_ops j = nI (K j) ∧ K j ≤ 25) (hR : sh_R T n ya_stands ya_isConst ya_number) (hg : ∀ j, j < n → sh_good T j) (hc10 : ∀ j, j < n → (T j).2.1 = true → K j ≤ 16) {nd : Nat → Int32} (hnd : ∀ i, i < n → (nd i ≠ 0 ↔ ya_needed i ≠ 0 ∧ (T i).2.1 = false)) (hself : ∀ i, i < n → nd i ≠ 0 → (T i).1 = i) {post : SY → Prop} :
    ∀ d i : Nat, i + d = n → (∀ a, pa_R br nd n i a → post (nI n, yf_known, yf_wrong, yf_place, yf_blocks, yf_steps, yf_dropped, yf_on, nI a, yf_again, yf_depth, ya_ops, ya_as, ya_bs, ya_cs, ya_blockOf, ya_opener, ya_around, ya_other, ya_end, ya_open, ya_varied, ya_loose, ya_variedVariable, ya_stands, ya_number, ya_isConst, ya_needed, ya_inputs, ya_values, ya_variables, ya_cells, ya_outs, ya_was, ya_rest, ya_line)) → wY_pass_15 post br (nI n) yf_known yf_wrong yf_place yf_blocks yf_steps yf_dropped yf_on yf_again yf_depth ya_ops ya_as ya_bs ya_cs ya_blockOf ya_opener ya_around ya_other ya_end ya_open ya_varied ya_loose ya_variedVariable ya_stands ya_number ya_isConst ya_needed ya_inputs ya_values ya_variables ya_cells ya_outs ya_was ya_rest ya_line (d + 1) (nI i) := by
  intro d
  induction d with
  | zero =>
    intro i hi h
    cases (show i = n by omega)
    exact br_t (nI_le (Nat.le_refl _) (by omega)) (h n ⟨Nat.le_refl _, Nat.le_refl _, fun _ => rfl, fun _ => ⟨fun j a b => by omega, fun a => by omega⟩⟩)
  | succ d ih =>
    intro i hi h
    have ci : (nI i).toNatClampNeg = i := nI_clamp (by omega)
    have ii : vp_in (nI i) 48 := vp_in_nI (by omega) (by omega)
    have ki := hK i (by omega)
    obtain ⟨r1, r2, r3⟩ := hR i (by omega)
    have gi := hg i (by omega)
    have next : br ≠ 0 → nd i = 0 → wY_pass_15 post br (nI n) yf_known yf_wrong yf_place yf_blocks yf_steps yf_dropped yf_on yf_again yf_depth ya_ops ya_as ya_bs ya_cs ya_blockOf ya_opener ya_around ya_other ya_end ya_open ya_varied ya_loose ya_variedVariable ya_stands ya_number ya_isConst ya_needed ya_inputs ya_values ya_variables ya_cells ya_outs ya_was ya_rest ya_line (d + 1) (nI (i + 1)) := fun hb hz =>
      ih (i + 1) (by omega) (fun a ha => h a (by
        obtain ⟨a1, a2, a3, a4⟩ := ha
        refine ⟨by omega, a2, fun hb' => absurd hb' hb, fun hb' => ⟨fun j h1 h2 => ?_, (a4 hb').2⟩⟩
        by_cases e : j = i
        · rw [e]; exact hz
        · exact (a4 hb').1 j (by omega) h2))
    have zero : ¬ nd i ≠ 0 → nd i = 0 := fun hh => Classical.byContradiction hh
    refine br_f (nI_ge (by omega) (by omega)) (br_c (fun hb => h i ⟨Nat.le_refl _, by omega, fun _ => rfl, fun hb' => absurd hb hb'⟩) (fun hb => ⟨ii, ?_⟩))
    have t57 : (T i).2.1 = false → wY_pass_57 post (wY_pass_15 post br (nI n) yf_known yf_wrong yf_place yf_blocks yf_steps yf_dropped yf_on yf_again yf_depth ya_ops ya_as ya_bs ya_cs ya_blockOf ya_opener ya_around ya_other ya_end ya_open ya_varied ya_loose ya_variedVariable ya_stands ya_number ya_isConst ya_needed ya_inputs ya_values ya_variables ya_cells ya_outs ya_was ya_rest ya_line (d + 1)) br (nI n) yf_known yf_wrong yf_place yf_blocks yf_steps yf_dropped yf_on (nI i) yf_again yf_depth ya_ops ya_as ya_bs ya_cs ya_blockOf ya_opener ya_around ya_other ya_end ya_open ya_varied ya_loose ya_variedVariable ya_stands ya_number ya_isConst ya_needed ya_inputs ya_values ya_variables ya_cells ya_outs ya_was ya_rest ya_line := by
      intro hf
      refine ⟨ii, ?_⟩
      rw [ci, r1]
      refine pk_eq (T i).1 i (fun e => ⟨ii, br_c (fun hz => nm_r (nI_1 i) (next hb (zero (fun h' => ((hnd i (by omega)).mp h').1 hz)))) (fun hz => h i ⟨Nat.le_refl _, by omega, fun _ => rfl, fun _ => ⟨fun j a b => by omega, fun _ => (hnd i (by omega)).mpr ⟨hz, hf⟩⟩⟩)⟩) (fun e => nm_r (nI_1 i) (next hb (zero (fun h' => e (hself i (by omega) h'))))) (ha := by have := gi.1; omega)
    rw [ci, r2, ki.1]
    refine br_c (fun hz => t57 (sh_bI_0 hz)) (fun hz => ⟨ii, ?_⟩)
    have ht := sh_bI_n hz
    exact ys_gives ki.2 (fun h16 => br_f (by decide) (nm_r (nI_1 i) (next hb (zero (fun h' => by have := ((hnd i (by omega)).mp h').2; rw [ht] at this; cases this))))) (fun h16 => absurd (hc10 i (by omega) ht) h16)
/-- Y's end of the part -/
theorem ry_partEnd (hn : n ≤ 48) (hK : ∀ j, j < n → ya_ops j = nI (K j) ∧ K j ≤ 25) (hg : sc_good K n) (hA : ys_A K n ya_blockOf ya_opener ya_around ya_other ya_end) {post : Int32 → Prop} {i q b m : Nat} {r : List (Nat × Nat)} (hi : i ≤ n) (e : sc_fr K i = (b, m) :: r) (hiq : i ≤ q) (hq : q < n) (hc : K q = 20 ∨ K q = 21 ∨ K q = 23) (eq : sc_fr K q = (b, m) :: r) (em : sc_mt K q = m) (hln : ya_line r.length = nI m) (hrs : K m = 19 → b = m + 1 → ¬ ya_rest r.length < 0) (h : post (nI q)) : wpY_partEnd post (yf_lines, yf_known, yf_wrong, yf_place, yf_blocks, yf_steps, yf_dropped, yf_on, nI i, yf_again, nI ((b, m) :: r).length, ya_ops, ya_as, ya_bs, ya_cs, ya_blockOf, ya_opener, ya_around, ya_other, ya_end, ya_open, ya_varied, ya_loose, ya_variedVariable, ya_stands, ya_number, ya_isConst, ya_needed, ya_inputs, ya_values, ya_variables, ya_cells, ya_outs, ya_was, ya_rest, ya_line) := by
  have T := sc_top i (sc_good_le hg (by omega)) _ _ _ e
  have tb1 := T.1
  have tb2 := T.2.1
  have tm := T.2.2.1
  have len := sc_len i (sc_good_le hg (by omega))
  rw [e] at len
  simp only [List.length_cons] at len
  have ed : nI ((b, m) :: r).length - 1 = nI r.length := nI_pred _
  have cd : (nI ((b, m) :: r).length - 1).toNatClampNeg = r.length := by rw [ed, nI_clamp (by omega)]
  have id_ : vp_in (nI ((b, m) :: r).length - 1) 4 := by rw [ed]; exact vp_in_nI (by omega) (by omega)
  have cm : (nI m).toNatClampNeg = m := nI_clamp (by omega)
  have im : vp_in (nI m) 48 := vp_in_nI (by omega) (by omega)
  have km := hK m (by omega)
  obtain ⟨c1, c2, c3⟩ := rn_closeY hg hi e hiq hq hc eq em hA
  have mk : K m = 19 ∨ K m = 22 := by
    rcases T.2.2.2.1 with ⟨_, h⟩ | ⟨_, h, _⟩
    · exact h
    · exact Or.inl h
  refine ⟨id_, nm_c cd hln ⟨im, ?_⟩⟩
  rw [cm, km.1, cd]
  refine pk_eq (K m) 19 (fun h19 => ⟨im, ?_⟩) (fun h19 => ⟨im, ?_⟩)
  · have ei : nI i - 1 = nI (i - 1) := nb_m1 (by omega)
    rw [ei]
    by_cases hb : b = m + 1
    · rcases c3 h19 hb with ⟨k20, eo⟩ | ⟨k21, eo, ee⟩
      · rw [eo]
        exact pk_le q (i - 1) (fun hle => absurd hle (by omega)) (fun _ => ⟨id_, br_f (hrs h19 hb) ⟨im, h⟩⟩)
      · rw [eo, ee]
        refine br_t ?_ ⟨im, h⟩
        exact Int32.le_trans (by decide) (nI_pos' (n := i - 1) (by omega))
    · obtain ⟨k21, ee, eo⟩ := c2 h19 hb
      rw [eo, ee]
      exact pk_le (b - 1) (i - 1) (fun _ => ⟨im, h⟩) (fun hle => absurd hle (by omega))
  · obtain ⟨_, ee⟩ := c1 (by omega)
    rw [ee]; exact h
end
