section
variable {K : Nat → Nat} {A B C : Nat → Int32} {n : Nat}
theorem vr_sndV {V L W V' : Nat → Prop} {i : Nat} (hn : n ≤ 48) (hi : i < n) (h16 : K i ≤ 16) (hov : ∀ s, s < 3 → sc_us (K i) s → sc_ov K A B C s i) (hw4 : K i = 11 → ∃ a, a < 4 ∧ A i = nI a) (h : vr_need K A B C V W i) (hV : ∀ j, V' j → j = i ∨ V j) (hs : vr_snd K A B C n V L W) : vr_snd K A B C n V' L W := by
  intro V2 L2 W2 hc
  have s := hs V2 L2 W2 hc
  refine ⟨fun j hj hv => ?_, s.2⟩
  rcases hV j hv with e | hv
  · rw [e]
    refine (hc i hi).1.1 h16 ?_
    rcases h with h | h | h | ⟨h, h'⟩ | ⟨h, s', hs', hu, hv'⟩
    · exact Or.inl h
    · exact Or.inr (Or.inl h)
    · exact Or.inr (Or.inr (Or.inl h))
    · obtain ⟨a, ha, ea⟩ := hw4 h
      refine Or.inr (Or.inr (Or.inr (Or.inl ⟨h, s.2.2 _ ?_ h'⟩)))
      rw [ea, nI_clamp (by omega)]; exact ha
    · obtain ⟨x, hx, ex, _⟩ := hov s' hs' hu
      refine Or.inr (Or.inr (Or.inr (Or.inr ⟨h, s', hs', hu, s.1 _ ?_ hv'⟩)))
      rw [ex, nI_clamp (by omega)]; omega
  · exact s.1 j hj hv
theorem vr_sndW {V L W W' : Nat → Prop} {i a : Nat} (hn : n ≤ 48) (hi : i < n) (hg : sc_good K n) (h17 : K i = 17) (ha : a < 4) (ea : A i = nI a) (hov : sc_ov K A B C 1 i) (h : V (B i).toNatClampNeg ∨ L (sc_hd (sc_lf K i))) (hW : ∀ v, W' v → v = a ∨ W v) (hs : vr_snd K A B C n V L W) : vr_snd K A B C n V L W' := by
  intro V2 L2 W2 hc
  have s := hs V2 L2 W2 hc
  have gi : sc_good K (i + 1) := sc_good_le hg (by omega)
  refine ⟨s.1, s.2.1, fun v hv hm => ?_⟩
  rcases hW v hm with e | hm
  · have := (hc i hi).1.2 h17 (by
      rcases h with h | h
      · obtain ⟨x, hx, ex, _⟩ := hov
        refine Or.inl (s.1 _ ?_ h)
        rw [show B i = nI x from ex, nI_clamp (by omega)]; omega
      · exact Or.inr (s.2.1 _ (Nat.le_trans (sc_hdl_le gi) (by omega)) (sc_hdl_op gi) h))
    rw [ea, nI_clamp (by omega)] at this
    rw [e]; exact this
  · exact s.2.2 v hv hm
theorem vr_sndL {V L L' W : Nat → Prop} {b : Nat} (h : ∀ V2 L2 W2, vr_C K A B C n V2 L2 W2 → vr_sub K n V L W V2 L2 W2 → L2 b) (hL : ∀ c, (c = 0 ∨ sc_op (K (c - 1))) → L' c → c = b ∨ L c) (hs : vr_snd K A B C n V L W) : vr_snd K A B C n V L' W := by
  intro V2 L2 W2 hc
  have s := hs V2 L2 W2 hc
  refine ⟨s.1, fun c hc' ho hm => ?_, s.2.2⟩
  rcases hL c ho hm with e | hm
  · rw [e]; exact h V2 L2 W2 hc s
  · exact s.2.1 c hc' ho hm
/-- Y's loose blocks, by X's numbers -/
def yv_L (K : Nat → Nat) (lo : Nat → Int32) : Nat → Prop := fun b => lo (sc_cnt K b) ≠ 0
def yv_mu (va lo vv : Nat → Int32) : Nat := cz va 48 + cz lo 97 + cz vv 4
def yv_up (K : Nat → Nat) (A B C : Nat → Int32) (n : Nat) (va lo vv va' lo' vv' : Nat → Int32) : Prop :=
  (vr_snd K A B C n (xv_V va) (yv_L K lo) (xv_V vv) → vr_snd K A B C n (xv_V va') (yv_L K lo') (xv_V vv')) ∧ yv_mu va' lo' vv' < yv_mu va lo vv
theorem or_00 : (0 : Int32) ||| 0 = 0 := by decide
theorem or_10 : (1 : Int32) ||| 0 = 1 := by decide
theorem or_01 : (0 : Int32) ||| 1 = 1 := by decide
theorem or_11 : (1 : Int32) ||| 1 = 1 := by decide
end
section
variable {K : Nat → Nat} {n : Nat}
variable {f_lines f_known f_wrong f_place f_blocks f_steps f_dropped f_on f_next f_again f_depth : Int32} {a_ops a_as a_bs a_cs a_blockOf a_opener a_around a_other a_end a_open a_varied a_loose a_variedVariable a_stands a_number a_isConst a_needed a_inputs a_values a_variables a_cells a_outs a_was a_rest a_line : Nat → Int32}
theorem yv_214 (hn : n ≤ 48) {post : Int32 → SY → Prop} {i : Nat} (hi : i < n) {is pt : Int32} (hpt : pt = 0 ∨ pt = 1) (h0 : (is = 0 ∨ a_varied i ≠ 0) → post pt (f_lines, f_known, f_wrong, f_place, f_blocks, f_steps, f_dropped, f_on, f_next, f_again, f_depth, a_ops, a_as, a_bs, a_cs, a_blockOf, a_opener, a_around, a_other, a_end, a_open, a_varied, a_loose, a_variedVariable, a_stands, a_number, a_isConst, a_needed, a_inputs, a_values, a_variables, a_cells, a_outs, a_was, a_rest, a_line)) (h1 : is ≠ 0 → a_varied i = 0 → post 1 (f_lines, f_known, f_wrong, f_place, f_blocks, f_steps, f_dropped, f_on, f_next, f_again, f_depth, a_ops, a_as, a_bs, a_cs, a_blockOf, a_opener, a_around, a_other, a_end, a_open, upd a_varied i 1, a_loose, a_variedVariable, a_stands, a_number, a_isConst, a_needed, a_inputs, a_values, a_variables, a_cells, a_outs, a_was, a_rest, a_line)) : wY_vary_214 post (nI i) is pt f_lines f_known f_wrong f_place f_blocks f_steps f_dropped f_on f_next f_again f_depth a_ops a_as a_bs a_cs a_blockOf a_opener a_around a_other a_end a_open a_varied a_loose a_variedVariable a_stands a_number a_isConst a_needed a_inputs a_values a_variables a_cells a_outs a_was a_rest a_line := by
  have ci : (nI i).toNatClampNeg = i := nI_clamp (by omega)
  have hin : vp_in (nI i) 48 := vp_in_nI (by omega) (by omega)
  have np : narrow .boolean (.int pt) = .int pt := by
    rcases hpt with e | e
    · rw [e]; exact xs_nb0
    · rw [e]; exact xs_nb1
  refine br_c (fun h => ⟨np, h0 (Or.inl h)⟩) (fun h => ⟨hin, ?_⟩)
  rw [ci]
  exact br_c (fun hz => ⟨hin, nm_r (by rw [xv_nar1]) (h1 h hz)⟩) (fun hz => ⟨np, h0 (Or.inr hz)⟩)
theorem yv_opl (hn : n ≤ 48) (hK : ∀ j, j < n → a_ops j = nI (K j) ∧ K j ≤ 25) {post : Int32 → SY → Prop} {i : Nat} {x2 : Int32} (hi : i < n) (hv : ∀ s, s < 3 → sc_us (K i) s → sc_ov K a_as a_bs a_cs s i)
    (h1 : (∃ s, s < 3 ∧ sc_us (K i) s ∧ xv_V a_varied (sc_o3 a_as a_bs a_cs s i).toNatClampNeg) → wY_vary_142 post (nI i) x2 1 f_lines f_known f_wrong f_place f_blocks f_steps f_dropped f_on f_next f_again f_depth a_ops a_as a_bs a_cs a_blockOf a_opener a_around a_other a_end a_open a_varied a_loose a_variedVariable a_stands a_number a_isConst a_needed a_inputs a_values a_variables a_cells a_outs a_was a_rest a_line) (h0 : (¬ ∃ s, s < 3 ∧ sc_us (K i) s ∧ xv_V a_varied (sc_o3 a_as a_bs a_cs s i).toNatClampNeg) → wY_vary_142 post (nI i) x2 0 f_lines f_known f_wrong f_place f_blocks f_steps f_dropped f_on f_next f_again f_depth a_ops a_as a_bs a_cs a_blockOf a_opener a_around a_other a_end a_open a_varied a_loose a_variedVariable a_stands a_number a_isConst a_needed a_inputs a_values a_variables a_cells a_outs a_was a_rest a_line) :
    ∀ (d t : Nat) (x3 : Int32), t + d = 3 → ((x3 = 0 ∧ ∀ s, s < t → sc_us (K i) s → ¬ xv_V a_varied (sc_o3 a_as a_bs a_cs s i).toNatClampNeg) ∨ (x3 = 1 ∧ ∃ s, s < t ∧ sc_us (K i) s ∧ xv_V a_varied (sc_o3 a_as a_bs a_cs s i).toNatClampNeg)) → wY_vary_92 post (nI i) x2 1 f_lines f_known f_wrong f_place f_blocks f_steps f_dropped f_on f_next f_again f_depth a_ops a_as a_bs a_cs a_blockOf a_opener a_around a_other a_end a_open a_varied a_loose a_variedVariable a_stands a_number a_isConst a_needed a_inputs a_values a_variables a_cells a_outs a_was a_rest a_line (d + 1) x3 (nI t) := by
  intro d
  induction d with
  | zero =>
    intro t x3 ht hst
    cases (show t = 3 by omega)
    refine br_t (by decide) ?_
    rcases hst with ⟨rfl, hall⟩ | ⟨rfl, hex⟩
    · refine h0 ?_
      rintro ⟨s, hs, hu, h⟩
      exact hall s hs hu h
    · exact h1 hex
  | succ d ih =>
    intro t x3 ht hst
    refine br_f (nI_ge (b := 3) (by omega) (by decide)) (br_f (by decide) ?_)
    have stay : (sc_us (K i) t → ¬ xv_V a_varied (sc_o3 a_as a_bs a_cs t i).toNatClampNeg) → wY_vary_92 post (nI i) x2 1 f_lines f_known f_wrong f_place f_blocks f_steps f_dropped f_on f_next f_again f_depth a_ops a_as a_bs a_cs a_blockOf a_opener a_around a_other a_end a_open a_varied a_loose a_variedVariable a_stands a_number a_isConst a_needed a_inputs a_values a_variables a_cells a_outs a_was a_rest a_line (d + 1) (x3 ||| 0) (nI (t + 1)) := by
      intro hno
      rcases hst with ⟨rfl, hall⟩ | ⟨rfl, s, hs, hu, h⟩
      · rw [or_00]
        refine ih (t + 1) 0 (by omega) (Or.inl ⟨rfl, fun s hs hus => ?_⟩)
        by_cases e : s = t
        · rw [e] at hus ⊢; exact hno hus
        · exact hall s (by omega) hus
      · rw [or_10]
        exact ih (t + 1) 1 (by omega) (Or.inr ⟨rfl, s, by omega, hu, h⟩)
    refine ys_uses hn hK hi (by omega) (fun hu => br_f (by decide) ?_) (fun hu => br_t rfl (nm_e (nm_r (nI_1 t) (stay (fun h => absurd h hu)))))
    refine ys_operand hn hi (by omega) ?_
    obtain ⟨x, hx, ex, _⟩ := hv t (by omega) hu
    rw [ex] at stay ⊢
    rw [nI_clamp (by omega)] at stay ⊢
    refine ⟨vp_in_nI (by omega) (by omega), br_c (fun hz => nm_e (nm_r (nI_1 t) (stay (fun _ h => h hz)))) (fun hz => nm_r (e' := 1) ?_ (nm_r (nI_1 t) (ih (t + 1) 1 (by omega) (Or.inr ⟨rfl, t, by omega, hu, ?_⟩))))⟩
    · rcases hst with ⟨rfl, _⟩ | ⟨rfl, _⟩
      · exact or_01
      · exact or_11
    · rw [ex, nI_clamp (by omega)]; exact hz
theorem yv_vary (hn : n ≤ 48) (hK : ∀ j, j < n → a_ops j = nI (K j) ∧ K j ≤ 25) (hg : sc_good K n) (h4 : ∀ j, j < n → (K j = 1 ∨ K j = 11 ∨ K j = 16 ∨ K j = 17 ∨ K j = 18) → ∃ a, a < 4 ∧ a_as j = nI a) (hok : ∀ j, j < n → ∀ s, s < 3 → sc_us (K j) s → sc_ov K a_as a_bs a_cs s j) (hB : ∀ j, j < n → a_blockOf j = nI (sc_cnt K (sc_hd (sc_lf K j)))) {post : Int32 → SY → Prop} {i : Nat} (hi : i < n)
    (h0 : vr_s1 K a_as a_bs a_cs (xv_V a_varied) (yv_L K a_loose) (xv_V a_variedVariable) i → post 0 (f_lines, f_known, f_wrong, f_place, f_blocks, f_steps, f_dropped, f_on, f_next, f_again, f_depth, a_ops, a_as, a_bs, a_cs, a_blockOf, a_opener, a_around, a_other, a_end, a_open, a_varied, a_loose, a_variedVariable, a_stands, a_number, a_isConst, a_needed, a_inputs, a_values, a_variables, a_cells, a_outs, a_was, a_rest, a_line))
    (h1 : ∀ va vv, yv_up K a_as a_bs a_cs n a_varied a_loose a_variedVariable va a_loose vv → post 1 (f_lines, f_known, f_wrong, f_place, f_blocks, f_steps, f_dropped, f_on, f_next, f_again, f_depth, a_ops, a_as, a_bs, a_cs, a_blockOf, a_opener, a_around, a_other, a_end, a_open, va, a_loose, vv, a_stands, a_number, a_isConst, a_needed, a_inputs, a_values, a_variables, a_cells, a_outs, a_was, a_rest, a_line)) : wpY_vary post (f_lines, f_known, f_wrong, f_place, f_blocks, f_steps, f_dropped, f_on, f_next, f_again, f_depth, a_ops, a_as, a_bs, a_cs, a_blockOf, a_opener, a_around, a_other, a_end, a_open, a_varied, a_loose, a_variedVariable, a_stands, a_number, a_isConst, a_needed, a_inputs, a_values, a_variables, a_cells, a_outs, a_was, a_rest, a_line) (nI i) := by
  have ci : (nI i).toNatClampNeg = i := nI_clamp (by omega)
  have hin : vp_in (nI i) 48 := vp_in_nI (by omega) (by omega)
  have ki := hK i hi
  have gi : sc_good K (i + 1) := sc_good_le hg (by omega)
  -- a value
  have val : K i ≤ 16 → ∀ is : Int32, (is = 1 ∧ vr_need K a_as a_bs a_cs (xv_V a_varied) (xv_V a_variedVariable) i ∨ is = 0 ∧ ¬ vr_need K a_as a_bs a_cs (xv_V a_varied) (xv_V a_variedVariable) i) → wY_vary_142 post (nI i) (nI (K i)) is f_lines f_known f_wrong f_place f_blocks f_steps f_dropped f_on f_next f_again f_depth a_ops a_as a_bs a_cs a_blockOf a_opener a_around a_other a_end a_open a_varied a_loose a_variedVariable a_stands a_number a_isConst a_needed a_inputs a_values a_variables a_cells a_outs a_was a_rest a_line := by
    intro h16 is his
    refine pk_eq (K i) 17 (fun h => absurd h (by omega)) (fun _ => br_t rfl ?_)
    refine yv_214 hn hi (Or.inl rfl) (fun h => h0 ⟨fun _ hne => ?_, fun h => absurd h (by omega)⟩) (fun his' hz => h1 _ _ ⟨?_, ?_⟩)
    · rcases his with ⟨e, _⟩ | ⟨_, hno⟩
      · rcases h with h | h
        · rw [e] at h; exact absurd h (by decide)
        · exact h
      · exact absurd hne hno
    · rcases his with ⟨_, hne⟩ | ⟨e, _⟩
      · exact vr_sndV hn hi h16 (hok i hi) (fun h => h4 i hi (by omega)) hne (fun j h => xv_mark_ne h)
      · exact absurd e his'
    · have := cz_lt (x := 1) hz (by decide) 48 (by omega)
      unfold yv_mu; omega
  -- operands are looked at
  have opl : (3 ≤ K i ∧ K i ≤ 10 ∨ K i = 12 ∨ K i = 13) → ∃ m, wY_vary_92 post (nI i) (nI (K i)) 1 f_lines f_known f_wrong f_place f_blocks f_steps f_dropped f_on f_next f_again f_depth a_ops a_as a_bs a_cs a_blockOf a_opener a_around a_other a_end a_open a_varied a_loose a_variedVariable a_stands a_number a_isConst a_needed a_inputs a_values a_variables a_cells a_outs a_was a_rest a_line m 0 0 := by
    intro hk
    refine ⟨4, yv_opl (K := K) (n := n) hn hK hi (hok i hi) (fun h => val (by omega) 1 (Or.inl ⟨rfl, Or.inr (Or.inr (Or.inr (Or.inr ⟨hk, h⟩)))⟩)) (fun h => val (by omega) 0 (Or.inr ⟨rfl, ?_⟩)) 3 0 0 rfl (Or.inl ⟨rfl, fun s hs => by omega⟩)⟩
    rintro (h' | h' | h' | h' | ⟨_, h'⟩)
    · omega
    · omega
    · omega
    · omega
    · exact h h'
  have one : ¬ (3 ≤ K i ∧ K i ≤ 10 ∨ K i = 12 ∨ K i = 13) → ∀ is : Int32, wY_vary_142 post (nI i) (nI (K i)) is f_lines f_known f_wrong f_place f_blocks f_steps f_dropped f_on f_next f_again f_depth a_ops a_as a_bs a_cs a_blockOf a_opener a_around a_other a_end a_open a_varied a_loose a_variedVariable a_stands a_number a_isConst a_needed a_inputs a_values a_variables a_cells a_outs a_was a_rest a_line → wY_vary_58 post (nI i) (nI (K i)) is f_lines f_known f_wrong f_place f_blocks f_steps f_dropped f_on f_next f_again f_depth a_ops a_as a_bs a_cs a_blockOf a_opener a_around a_other a_end a_open a_varied a_loose a_variedVariable a_stands a_number a_isConst a_needed a_inputs a_values a_variables a_cells a_outs a_was a_rest a_line := by
    intro hk is h142
    have t92 : wY_vary_92 post (nI i) (nI (K i)) 0 f_lines f_known f_wrong f_place f_blocks f_steps f_dropped f_on f_next f_again f_depth a_ops a_as a_bs a_cs a_blockOf a_opener a_around a_other a_end a_open a_varied a_loose a_variedVariable a_stands a_number a_isConst a_needed a_inputs a_values a_variables a_cells a_outs a_was a_rest a_line 1 is 0 := br_f (by decide) (br_t rfl h142)
    have t70 : wY_vary_70 post (nI i) (nI (K i)) is f_lines f_known f_wrong f_place f_blocks f_steps f_dropped f_on f_next f_again f_depth a_ops a_as a_bs a_cs a_blockOf a_opener a_around a_other a_end a_open a_varied a_loose a_variedVariable a_stands a_number a_isConst a_needed a_inputs a_values a_variables a_cells a_outs a_was a_rest a_line := pk_eq (K i) 12 (fun h => absurd h (by omega)) (fun _ => pk_eq (K i) 13 (fun h => absurd h (by omega)) (fun _ => ⟨1, t92⟩))
    exact pk_lt (K i) 3 (fun _ => t70) (fun h3 => pk_le (K i) 10 (fun h => absurd h (by omega)) (fun _ => t70))
  have two : (3 ≤ K i ∧ K i ≤ 10 ∨ K i = 12 ∨ K i = 13) → wY_vary_58 post (nI i) (nI (K i)) 0 f_lines f_known f_wrong f_place f_blocks f_steps f_dropped f_on f_next f_again f_depth a_ops a_as a_bs a_cs a_blockOf a_opener a_around a_other a_end a_open a_varied a_loose a_variedVariable a_stands a_number a_isConst a_needed a_inputs a_values a_variables a_cells a_outs a_was a_rest a_line := by
    intro hk
    have t70 : (K i = 12 ∨ K i = 13) → wY_vary_70 post (nI i) (nI (K i)) 0 f_lines f_known f_wrong f_place f_blocks f_steps f_dropped f_on f_next f_again f_depth a_ops a_as a_bs a_cs a_blockOf a_opener a_around a_other a_end a_open a_varied a_loose a_variedVariable a_stands a_number a_isConst a_needed a_inputs a_values a_variables a_cells a_outs a_was a_rest a_line := fun hk' => pk_eq (K i) 12 (fun h => opl hk) (fun _ => pk_eq (K i) 13 (fun h => opl hk) (fun h => absurd hk' (by omega)))
    exact pk_lt (K i) 3 (fun _ => t70 (by omega)) (fun h3 => pk_le (K i) 10 (fun h => opl hk) (fun _ => t70 (by omega)))
  refine ⟨hin, nm_c ci ki.1 ?_⟩
  have t22 : ¬ (K i = 1 ∧ 1 < a_as i) → wY_vary_22 post (nI i) (nI (K i)) f_lines f_known f_wrong f_place f_blocks f_steps f_dropped f_on f_next f_again f_depth a_ops a_as a_bs a_cs a_blockOf a_opener a_around a_other a_end a_open a_varied a_loose a_variedVariable a_stands a_number a_isConst a_needed a_inputs a_values a_variables a_cells a_outs a_was a_rest a_line := by
    intro n1
    refine pk_eq (K i) 2 (fun h => one (by omega) 1 (val (by omega) 1 (Or.inl ⟨rfl, Or.inr (Or.inl h)⟩))) (fun n2 => pk_eq (K i) 16 (fun h => one (by omega) 1 (val (by omega) 1 (Or.inl ⟨rfl, Or.inr (Or.inr (Or.inl h))⟩))) (fun n16 => pk_eq (K i) 11 (fun h => ⟨hin, ?_⟩) (fun n11 => ?_)))
    · obtain ⟨a, ha, ea⟩ := h4 i hi (by omega)
      rw [ci, ea, nI_clamp (by omega)]
      refine ⟨vp_in_nI ha (by omega), br_c (fun hz => one (by omega) 0 (val (by omega) 0 (Or.inr ⟨rfl, ?_⟩))) (fun hz => one (by omega) 1 (val (by omega) 1 (Or.inl ⟨rfl, Or.inr (Or.inr (Or.inr (Or.inl ⟨h, ?_⟩)))⟩)))⟩
      · rintro (h' | h' | h' | ⟨_, h'⟩ | h')
        · omega
        · omega
        · omega
        · rw [ea, nI_clamp (by omega)] at h'; exact h' hz
        · omega
      · rw [ea, nI_clamp (by omega)]; exact hz
    · by_cases hk : (3 ≤ K i ∧ K i ≤ 10 ∨ K i = 12 ∨ K i = 13)
      · exact two hk
      · by_cases h16 : K i ≤ 16
        · refine one hk 0 (val h16 0 (Or.inr ⟨rfl, ?_⟩))
          rintro (h' | h' | h' | h' | h')
          · exact n1 h'
          · omega
          · omega
          · omega
          · exact hk h'.1
        · refine one hk 0 ?_
          have t194 : vr_s1 K a_as a_bs a_cs (xv_V a_varied) (yv_L K a_loose) (xv_V a_variedVariable) i → wY_vary_194 post (nI i) 0 f_lines f_known f_wrong f_place f_blocks f_steps f_dropped f_on f_next f_again f_depth a_ops a_as a_bs a_cs a_blockOf a_opener a_around a_other a_end a_open a_varied a_loose a_variedVariable a_stands a_number a_isConst a_needed a_inputs a_values a_variables a_cells a_outs a_was a_rest a_line := fun h => br_t rfl (yv_214 hn hi (Or.inl rfl) (fun _ => h0 h) (fun h' => absurd rfl h'))
          by_cases h17 : K i = 17
          · obtain ⟨a, ha, ea⟩ := h4 i hi (by omega)
            obtain ⟨x, hx, ex, kx⟩ := hok i hi 1 (by omega) (by unfold sc_us; omega)
            have ex' : a_bs i = nI x := ex
            have ina : vp_in (nI a) 4 := vp_in_nI ha (by omega)
            have ca : (nI a).toNatClampNeg = a := nI_clamp (by omega)
            have hle := sc_hdl_le gi
            have cle := sc_cnt_le (K := K) (sc_hd (sc_lf K i))
            have t176 : (xv_V a_varied x ∨ yv_L K a_loose (sc_hd (sc_lf K i))) → wY_vary_176 post (nI i) 0 f_lines f_known f_wrong f_place f_blocks f_steps f_dropped f_on f_next f_again f_depth a_ops a_as a_bs a_cs a_blockOf a_opener a_around a_other a_end a_open a_varied a_loose a_variedVariable a_stands a_number a_isConst a_needed a_inputs a_values a_variables a_cells a_outs a_was a_rest a_line := by
              intro hor
              refine ⟨hin, ?_⟩
              rw [ci, ea, ca]
              refine ⟨ina, br_c (fun hz => br_f (by decide) ⟨hin, ?_⟩) (fun hz => t194 ⟨fun h => absurd h h16, fun _ _ => by rw [ea, ca]; exact hz⟩)⟩
              rw [ci, ea, ca]
              refine ⟨ina, nm_r (by rw [xv_nar1]) (yv_214 hn hi (Or.inr rfl) (fun _ => h1 _ _ ⟨vr_sndW hn hi hg h17 ha ea ⟨x, hx, ex, kx⟩ (by rw [ex', nI_clamp (by omega)]; exact hor) (fun v h => xv_mark_ne h), ?_⟩) (fun h' => absurd rfl h'))⟩
              have := cz_lt (x := 1) hz (by decide) 4 ha
              unfold yv_mu; omega
            refine pk_eq (K i) 17 (fun _ => ⟨hin, ?_⟩) (fun h => absurd h17 h)
            rw [ci, ex', nI_clamp (by omega), hB i hi, nI_clamp (by omega)]
            refine ⟨vp_in_nI (by omega) (by omega), br_c (fun hz => ⟨vp_in_nI (by omega) (by omega), vp_in_nI (by omega) (by omega), br_c (fun hz' => t194 ⟨fun h => absurd h h16, fun _ h => ?_⟩) (fun hz' => t176 (Or.inr hz'))⟩) (fun hz => t176 (Or.inl hz))⟩
            rcases h with h | h
            · rw [ex', nI_clamp (by omega)] at h; exact absurd hz h
            · exact absurd hz' h
          · exact pk_eq (K i) 17 (fun h => absurd h h17) (fun _ => t194 ⟨fun h => absurd h h16, fun h => absurd h h17⟩)
  refine pk_eq (K i) 1 (fun h => ⟨hin, ?_⟩) (fun h => t22 (fun h' => h h'.1))
  rw [ci]
  exact br_c (fun hgt => one (by omega) 1 (val (by omega) 1 (Or.inl ⟨rfl, Or.inl ⟨h, hgt⟩⟩))) (fun hgt => t22 (fun h' => hgt h'.2))
end
