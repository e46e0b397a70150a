section
variable {K : Nat → Nat} {n : Nat} {T : Nat → Nat × Bool × Int32} {br : Int32}
variable {f_lines f_studied f_wrong f_wrongAt f_brief f_on f_dropped f_steps f_nextLine f_repeats : Int32} {a_kinds a_firsts a_seconds a_thirds a_inputs a_home a_depth a_closer a_mate a_operands a_varies a_parted a_variableVaries a_same a_fixed a_worth a_needed a_variableNeeded a_values a_variables a_outputs a_cells a_whole a_waiting : Nat → Int32}
variable {yf_lines yf_known yf_wrong yf_place yf_blocks yf_steps yf_dropped yf_on yf_next yf_again yf_depth : Int32} {ya_ops ya_as ya_bs ya_cs ya_blockOf ya_opener ya_around ya_other ya_end ya_open ya_varied ya_loose ya_variedVariable ya_stands ya_number ya_isConst ya_needed ya_inputs ya_values ya_variables ya_cells ya_outs ya_was ya_rest ya_line : Nat → Int32}
/-- what is done for one lane that is on after the other -/
def la_f {σ : Type} (w : Nat) (g : Nat → σ → σ) : Nat → Nat → σ → σ
  | 0, _, s => s
  | d + 1, t, s => la_f w g d (t + 1) (if w.testBit t = true then g t s else s)
theorem la_t {σ : Type} {w d t : Nat} {g : Nat → σ → σ} {s : σ} (h : w.testBit t = true) : la_f w g (d + 1) t s = la_f w g d (t + 1) (g t s) := by
  show la_f w g d (t + 1) (if _ then _ else _) = _
  rw [if_pos h]
theorem la_n {σ : Type} {w d t : Nat} {g : Nat → σ → σ} {s : σ} (h : w.testBit t = false) : la_f w g (d + 1) t s = la_f w g d (t + 1) s := by
  show la_f w g d (t + 1) (if _ then _ else _) = _
  rw [if_neg (by rw [h]; decide)]
/-- turned tables -/
def va_R (x y : Nat → Int32) : Prop := ∀ l, l < 4 → ∀ k, k < 4 → x (l * 4 + k) = y (4 * k + l)
theorem va_upd {x y : Nat → Int32} {l k : Nat} {v : Int32} (hl : l < 4) (hk : k < 4) (h : va_R x y) : va_R (upd x (l * 4 + k) v) (upd y (4 * k + l) v) := by
  intro l' hl' k' hk'
  by_cases e : l' = l ∧ k' = k
  · rw [e.1, e.2, pk_us, pk_us]
  · rw [pk_un (by omega), pk_un (by omega)]; exact h l' hl' k' hk'
theorem e_4l {l k : Nat} : nI l * 4 + nI k = nI (l * 4 + k) := by
  rw [show (4 : Int32) = nI 4 from rfl, pk_mul, nI_add]
theorem rn_put (hS : rn_stat K n T br f_lines f_brief a_kinds a_firsts a_seconds a_thirds a_inputs a_home a_depth a_closer a_mate a_operands a_same a_fixed a_worth a_needed yf_lines ya_ops ya_as ya_bs ya_cs ya_blockOf ya_opener ya_around ya_other ya_end ya_stands ya_number ya_isConst ya_needed ya_inputs) {i w : Nat} (hi : i < n) (h17 : K i = 17) (hw : w < 16) (eon : f_on = nI w) (eyn : yf_on = f_on) (hv : ∀ q, q < 192 → a_values q = ya_values q) : ∀ (d t : Nat) (vx vy : Nat → Int32), t + d = 4 → va_R vx vy → ∃ vx' vy', va_R vx' vy' ∧ vx' = la_f w (fun t s => upd s (t * 4 + (a_firsts i).toNatClampNeg) (rv br T a_values (sh_o a_firsts a_seconds a_thirds 1 i) t)) d t vx ∧
    (∀ post : SX → Prop, post (f_lines, f_studied, f_wrong, f_wrongAt, f_brief, f_on, f_dropped, f_steps, f_nextLine, f_repeats, a_kinds, a_firsts, a_seconds, a_thirds, a_inputs, a_home, a_depth, a_closer, a_mate, a_operands, a_varies, a_parted, a_variableVaries, a_same, a_fixed, a_worth, a_needed, a_variableNeeded, a_values, vx', a_outputs, a_cells, a_whole, a_waiting) → wX_putVariable_2 post (nI i) f_lines f_studied f_wrong f_wrongAt f_brief f_on f_dropped f_steps f_nextLine f_repeats (d + 1) (nI t) a_kinds a_firsts a_seconds a_thirds a_inputs a_home a_depth a_closer a_mate a_operands a_varies a_parted a_variableVaries a_same a_fixed a_worth a_needed a_variableNeeded a_values vx a_outputs a_cells a_whole a_waiting) ∧ (∀ post : SY → Prop, post (yf_lines, yf_known, yf_wrong, yf_place, yf_blocks, yf_steps, yf_dropped, yf_on, yf_next, yf_again, yf_depth, ya_ops, ya_as, ya_bs, ya_cs, ya_blockOf, ya_opener, ya_around, ya_other, ya_end, ya_open, ya_varied, ya_loose, ya_variedVariable, ya_stands, ya_number, ya_isConst, ya_needed, ya_inputs, ya_values, vy', ya_cells, ya_outs, ya_was, ya_rest, ya_line) → wY_step_101 post (nI i) br 17 yf_lines yf_known yf_wrong yf_place yf_blocks yf_steps yf_dropped yf_on yf_next yf_again yf_depth (d + 1) (nI t) ya_ops ya_as ya_bs ya_cs ya_blockOf ya_opener ya_around ya_other ya_end ya_open ya_varied ya_loose ya_variedVariable ya_stands ya_number ya_isConst ya_needed ya_inputs ya_values vy ya_cells ya_outs ya_was ya_rest ya_line) := by
  obtain ⟨hW, hok, hfr, hA, hc0, hB, ⟨e1, e2, e3, e4, e5⟩, ⟨hR, hR', hgT, hc10⟩, hnd, hself, hini, eb, hbr, el, el'⟩ := hS
  have hP := pg_xvP hW hok hA
  have hn := hW.1
  have hov := (sc_ck0 (hok i hi)).2.1
  obtain ⟨a, ha, ea⟩ := hW.2.2 i hi (by omega)
  have u1 : sc_us (K i) 1 := by unfold sc_us; omega
  obtain ⟨o, eo, _⟩ := sh_ov_lt (by omega) (hov 1 (by omega) u1)
  have eo' : a_seconds i = nI (sh_o a_firsts a_seconds a_thirds 1 i) := eo
  have ci : (nI i).toNatClampNeg = i := nI_clamp (by omega)
  have ii : vp_in (nI i) 48 := vp_in_nI (by omega) (by omega)
  have ca : (a_firsts i).toNatClampNeg = a := by rw [ea, nI_clamp (by omega)]
  subst eb eyn eon
  intro d
  induction d with
  | zero =>
    intro t vx vy ht hR2
    cases (show t = 4 by omega)
    exact ⟨vx, vy, hR2, rfl, fun post h => br_t (by decide) h, fun post h => br_t (by decide) h⟩
  | succ d ih =>
    intro t vx vy ht hR2
    have t4 : ¬ (4 : Int32) ≤ nI t := nI_ge (b := 4) (by omega) (by decide)
    cases hb : w.testBit t with
    | false =>
      obtain ⟨vx', vy', h1, h0, h2, h3⟩ := ih (t + 1) vx vy (by omega) hR2
      refine ⟨vx', vy', h1, h0.trans (la_n hb).symm, fun post h => br_f t4 (rx_isOn hw (by omega) rfl (fun h' => by rw [hb] at h'; cases h') (fun _ => br_t rfl (nm_r (nI_1 t) (h2 post h)))), fun post h => br_f t4 (br_t ((mk_bit w hw t (by omega)).1.mpr hb) (nm_r (nI_1 t) (h3 post h)))⟩
    | true =>
      obtain ⟨vx', vy', h1, h0, h2, h3⟩ := ih (t + 1) (upd vx (t * 4 + a) (rv f_brief T a_values (sh_o a_firsts a_seconds a_thirds 1 i) t)) (upd vy (4 * a + t) (rv f_brief T a_values (sh_o a_firsts a_seconds a_thirds 1 i) t)) (by omega) (va_upd (by omega) ha hR2)
      refine ⟨vx', vy', h1, by rw [h0, la_t hb, ca], fun post h => br_f t4 (rx_isOn hw (by omega) rfl (fun _ => br_f (by decide) ⟨ii, ?_⟩) (fun h' => by rw [hb] at h'; cases h')), fun post h => br_f t4 (br_f (fun h' => by have := (mk_bit w hw t (by omega)).1.mp h'; rw [hb] at this; cases this) (br_f (by decide) (br_t rfl ⟨ii, ii, ?_⟩)))⟩
      · refine rx_read (K := K) (n := n) (T := T) (s := 1) hP hR hgT hi (by omega) (by omega) (fun _ => ?_) (fun h' => absurd u1 h')
        rw [ci, ea, e_4l, nI_clamp (by omega)]
        exact ⟨vp_in_nI (by omega) (by omega), nm_e (nm_r (nI_1 t) (h2 post h))⟩
      · rw [ci, e2, ea, e3, eo']
        have er : rv f_brief T ya_values (sh_o a_firsts a_seconds a_thirds 1 i) t = rv f_brief T a_values (sh_o a_firsts a_seconds a_thirds 1 i) t := rv_eq (hgT _ (by omega)).1 (fun q hq => (hv q (by omega)).symm)
        refine ry_value (n := n) (T := T) hn hR' hgT (by omega) (by omega) ?_
        rw [er, e_44, nI_clamp (by omega)]
        have h3' := h3 post h
        rw [e2, e3] at h3'
        exact ⟨vp_in_nI (by omega) (by omega), nm_e (nm_r (nI_1 t) h3')⟩
end
