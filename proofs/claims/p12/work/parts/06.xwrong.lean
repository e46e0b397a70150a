section
variable {K : Nat → Nat} {n : Nat}
variable {f_lines f_studied f_wrong f_wrongAt f_brief f_on f_dropped f_steps f_nextLine f_repeats : Int32} {a_kinds a_firsts a_seconds a_thirds a_inputs a_home a_depth a_closer a_mate a_operands a_varies a_parted a_variableVaries a_same a_fixed a_worth a_needed a_variableNeeded a_values a_variables a_outputs a_cells a_whole a_waiting : Nat → Int32}
theorem xs_f16 {post : Int32 → Prop} {x2 z0 : Int32} (k : Nat) (hk : k ≤ 25) (hp : ¬ (k = 19 ∨ k = 20 ∨ k = 21 ∨ k = 22 ∨ k = 23 ∨ k = 24) → post 1) (ho : (k = 19 ∨ k = 22) → wX_fits_56 post x2 f_lines f_studied f_wrong f_wrongAt f_brief f_on f_dropped f_steps f_nextLine f_repeats a_kinds a_firsts a_seconds a_thirds a_inputs a_home a_depth a_closer a_mate a_operands a_varies a_parted a_variableVaries a_same a_fixed a_worth a_needed a_variableNeeded a_values a_variables a_outputs a_cells a_whole a_waiting) (he : k = 20 → ((z0 = 19 → post 1) ∧ (¬ z0 = 19 → post 0))) (hd : k = 21 → ((z0 = 19 → post 1) ∧ (¬ z0 = 19 → ((z0 = 20 → post 1) ∧ (¬ z0 = 20 → post 0))))) (ha : k = 23 → ((z0 = 22 → post 1) ∧ (¬ z0 = 22 → post 0))) (hb : k = 24 → wpX_isInLoop (fun r_18 => (narrow .boolean (.int r_18) = .int r_18 ∧ (post r_18))) (f_lines, f_studied, f_wrong, f_wrongAt, f_brief, f_on, f_dropped, f_steps, f_nextLine, f_repeats, a_kinds, a_firsts, a_seconds, a_thirds, a_inputs, a_home, a_depth, a_closer, a_mate, a_operands, a_varies, a_parted, a_variableVaries, a_same, a_fixed, a_worth, a_needed, a_variableNeeded, a_values, a_variables, a_outputs, a_cells, a_whole, a_waiting) x2) : wX_fits_16 post (nI k) x2 z0 f_lines f_studied f_wrong f_wrongAt f_brief f_on f_dropped f_steps f_nextLine f_repeats a_kinds a_firsts a_seconds a_thirds a_inputs a_home a_depth a_closer a_mate a_operands a_varies a_parted a_variableVaries a_same a_fixed a_worth a_needed a_variableNeeded a_values a_variables a_outputs a_cells a_whole a_waiting :=
  pk_lt k 19 (fun h => hp (by omega)) (fun _ => pk_lt 24 k (fun h => hp (by omega)) (fun _ => pk_eq k 19 (fun h => ho (Or.inl h)) (fun _ => pk_eq k 20 he (fun _ => pk_eq k 21 hd (fun _ => pk_eq k 22 (fun h => ho (Or.inr h)) (fun _ => pk_eq k 23 ha (fun _ => pk_eq k 24 hb (fun _ => trivial))))))))
theorem xs_nb1 : narrow .boolean (.int 1) = .int 1 := by decide
theorem xs_nb0 : narrow .boolean (.int 0) = .int 0 := by decide
theorem xs_fits (hn : n ≤ 48) (hK : ∀ j, j < n → a_kinds j = nI (K j) ∧ K j ≤ 25) {post : Int32 → Prop} {i : Nat} (hi : i < n) (hg : sc_good K i) (hA : ∀ j, j < i → a_home j = nI (sc_hd (sc_lf K j)) ∧ a_depth j = nI (sc_lf K j).length) (h1 : sc_fits K i → post 1) (h0 : ¬ sc_fits K i → post 0) : wpX_fits post (f_lines, f_studied, f_wrong, f_wrongAt, f_brief, f_on, f_dropped, f_steps, f_nextLine, f_repeats, a_kinds, a_firsts, a_seconds, a_thirds, a_inputs, a_home, a_depth, a_closer, a_mate, a_operands, a_varies, a_parted, a_variableVaries, a_same, a_fixed, a_worth, a_needed, a_variableNeeded, a_values, a_variables, a_outputs, a_cells, a_whole, a_waiting) (nI (K i)) (nI (sc_hd (sc_fr K i))) := by
  have k25 := (hK i hi).2
  cases e : sc_fr K i with
  | nil =>
    refine br_t rfl (xs_f16 (K i) k25 (fun h => h1 ⟨by omega, by omega, by omega, by omega, by omega⟩) (fun h => br_t rfl (h1 ⟨fun _ => by rw [e]; decide, by omega, by omega, by omega, by omega⟩)) (fun h => br_f (by decide) (h0 ?_)) (fun h => br_f (by decide) (br_f (by decide) (h0 ?_))) (fun h => br_f (by decide) (h0 ?_)) (fun h => ⟨1, br_f (by decide) (br_t rfl ⟨xs_nb0, h0 ?_⟩)⟩))
    · rintro ⟨_, f, _⟩; obtain ⟨m, r, e', _⟩ := f h; rw [e] at e'; cases e'
    · rintro ⟨_, _, f, _⟩; obtain ⟨b, m, r, e', _⟩ := f h; rw [e] at e'; cases e'
    · rintro ⟨_, _, _, f, _⟩; obtain ⟨b, m, r, e', _⟩ := f h; rw [e] at e'; cases e'
    · rintro ⟨_, _, _, _, f⟩; obtain ⟨b, hb, _⟩ := f h; rw [e] at hb; cases hb
  | cons f r =>
    obtain ⟨b, m⟩ := f
    have T := sc_top i hg _ _ _ e
    have tb1 := T.1
    have tb2 := T.2.1
    have ei : nI b - 1 = nI (b - 1) := nb_m1 tb1
    have cl : (nI b - 1).toNatClampNeg = b - 1 := by rw [ei, nI_clamp (by omega)]
    have hin : vp_in (nI b - 1) 48 := by rw [ei]; exact vp_in_nI (by omega) (by omega)
    have kb := hK (b - 1) (by omega)
    have hb := hA (b - 1) (by omega)
    have hl := sc_len i hg
    rw [e] at hl
    simp only [List.length_cons] at hl
    rw [sc_hd_cons]
    refine br_f (nI_ne0 (by omega) (by omega)) ⟨hin, ?_⟩
    rw [cl, kb.1]
    refine xs_f16 (K i) k25 (fun h => h1 ⟨by omega, by omega, by omega, by omega, by omega⟩) (fun h => br_f (nI_ne0 (by omega) (by omega)) ⟨hin, ?_⟩) (fun h => pk_eq (K (b - 1)) 19 (fun h19 => h1 ?_) (fun h19 => h0 ?_)) (fun h => pk_eq (K (b - 1)) 19 (fun h19 => h1 ?_) (fun h19 => pk_eq (K (b - 1)) 20 (fun h20 => h1 ?_) (fun h20 => h0 ?_))) (fun h => pk_eq (K (b - 1)) 22 (fun h22 => h1 ?_) (fun h22 => h0 ?_)) (fun h => ?_)
    · rw [cl, hb.2, T.2.2.2.2.1, nI_1]
      refine pk_le 4 (r.length + 1) (fun h4 => h0 ?_) (fun h4 => h1 ?_)
      · rintro ⟨f, _⟩; have := f h; rw [e] at this; simp only [List.length_cons] at this; omega
      · exact ⟨fun _ => by rw [e]; simp only [List.length_cons]; omega, by omega, by omega, by omega, by omega⟩
    · refine ⟨by omega, fun _ => ?_, by omega, by omega, by omega⟩
      rcases T.2.2.2.1 with ⟨h', _⟩ | ⟨h', _⟩
      · refine ⟨m, r, by rw [e, h'], ?_⟩; rw [h', Nat.add_sub_cancel] at h19; exact h19
      · omega
    · rintro ⟨_, f, _⟩; obtain ⟨m', r', e', k'⟩ := f h
      rw [e] at e'
      simp only [List.cons.injEq, Prod.mk.injEq] at e'
      apply h19; rw [e'.1.1, Nat.add_sub_cancel]; exact k'
    · refine ⟨by omega, by omega, fun _ => ⟨b, m, r, e, ?_⟩, by omega, by omega⟩
      rcases T.2.2.2.1 with ⟨h', _⟩ | ⟨h', _, _⟩
      · rw [h', Nat.add_sub_cancel] at h19; exact h19
      · omega
    · refine ⟨by omega, by omega, fun _ => ⟨b, m, r, e, ?_⟩, by omega, by omega⟩
      rcases T.2.2.2.1 with ⟨h', h''⟩ | ⟨_, h', _⟩
      · rw [h', Nat.add_sub_cancel] at h20; omega
      · exact h'
    · rintro ⟨_, _, f, _⟩; obtain ⟨b', m', r', e', k'⟩ := f h
      rw [e] at e'
      simp only [List.cons.injEq, Prod.mk.injEq] at e'
      rcases T.2.2.2.1 with ⟨h', h''⟩ | ⟨h', _⟩
      · apply h19; rw [h', Nat.add_sub_cancel, e'.1.2]; exact k'
      · exact h20 h'
    · refine ⟨by omega, by omega, by omega, fun _ => ⟨b, m, r, e, ?_⟩, by omega⟩
      rcases T.2.2.2.1 with ⟨h', _⟩ | ⟨h', _⟩
      · rw [h', Nat.add_sub_cancel] at h22; exact h22
      · omega
    · rintro ⟨_, _, _, f, _⟩; obtain ⟨b', m', r', e', k'⟩ := f h
      rw [e] at e'
      simp only [List.cons.injEq, Prod.mk.injEq] at e'
      rcases T.2.2.2.1 with ⟨h', h''⟩ | ⟨_, h', _⟩
      · apply h22; rw [h', Nat.add_sub_cancel, e'.1.2]; exact k'
      · rw [e'.1.2] at h'; omega
    · refine ⟨5, ?_⟩
      refine xs_inLoop (post := fun r_18 => (narrow .boolean (.int r_18) = .int r_18 ∧ (post r_18))) hn hK (show i ≤ n by omega) hg (fun j hj => (hA j hj).1) ((b, m) :: r) i 0 (Nat.le_refl _) e (by simp only [List.length_cons]; omega) (fun h2 => ⟨xs_nb1, h1 ⟨by omega, by omega, by omega, by omega, fun _ => by rw [e]; exact h2⟩⟩) (fun h2 => ⟨xs_nb0, h0 ?_⟩) 5 (by simp only [List.length_cons]; omega)
      rintro ⟨_, _, _, _, f⟩; have := f h; rw [e] at this; exact h2 this
def xs_cl (K : Nat → Nat) (i : Nat) (c : Nat → Int32) : Nat → Int32 := if K i = 20 ∨ K i = 21 ∨ K i = 23 then upd c (sc_hd (sc_fr K i)) (nI i) else c
theorem xs_settle (hn : n ≤ 48) (hK : ∀ j, j < n → a_kinds j = nI (K j) ∧ K j ≤ 25) {post : Int32 → SX → Prop} {i : Nat} (hi : i < n) (hg : sc_good K i) (hf : sc_fits K i) (hA : ∀ j, j < i → a_home j = nI (sc_hd (sc_lf K j)) ∧ a_depth j = nI (sc_lf K j).length ∧ a_mate j = nI (sc_mt K j))
    (h : post (nI (sc_hd (sc_fr K (i + 1)))) (f_lines, f_studied, f_wrong, f_wrongAt, f_brief, f_on, f_dropped, f_steps, f_nextLine, f_repeats, a_kinds, a_firsts, a_seconds, a_thirds, a_inputs, upd a_home i (nI (sc_hd (sc_lf K i))), upd a_depth i (nI (sc_lf K i).length), xs_cl K i a_closer, upd a_mate i (nI (sc_mt K i)), a_operands, a_varies, a_parted, a_variableVaries, a_same, a_fixed, a_worth, a_needed, a_variableNeeded, a_values, a_variables, a_outputs, a_cells, a_whole, a_waiting)) : wpX_settle post (f_lines, f_studied, f_wrong, f_wrongAt, f_brief, f_on, f_dropped, f_steps, f_nextLine, f_repeats, a_kinds, a_firsts, a_seconds, a_thirds, a_inputs, a_home, a_depth, a_closer, a_mate, a_operands, a_varies, a_parted, a_variableVaries, a_same, a_fixed, a_worth, a_needed, a_variableNeeded, a_values, a_variables, a_outputs, a_cells, a_whole, a_waiting) (nI i) (nI (sc_hd (sc_fr K i))) := by
  have ci : (nI i).toNatClampNeg = i := nI_clamp (by omega)
  have hin : vp_in (nI i) 48 := vp_in_nI (by omega) (by omega)
  have ki := hK i hi
  refine ⟨hin, nm_c ci ki.1 ?_⟩
  have closing : (K i = 20 ∨ K i = 21 ∨ K i = 23) → wX_settle_25 post (nI i) (nI (sc_hd (sc_fr K i))) (nI (K i)) f_lines f_studied f_wrong f_wrongAt f_brief f_on f_dropped f_steps f_nextLine f_repeats a_kinds a_firsts a_seconds a_thirds a_inputs a_home a_depth a_closer a_mate a_operands a_varies a_parted a_variableVaries a_same a_fixed a_worth a_needed a_variableNeeded a_values a_variables a_outputs a_cells a_whole a_waiting := by
    intro hc
    have : ∃ b m r, sc_fr K i = (b, m) :: r := by
      rcases hc with hc | hc | hc
      · obtain ⟨m, r, e, _⟩ := hf.2.1 hc; exact ⟨_, _, _, e⟩
      · obtain ⟨b, m, r, e, _⟩ := hf.2.2.1 hc; exact ⟨_, _, _, e⟩
      · obtain ⟨b, m, r, e, _⟩ := hf.2.2.2.1 hc; exact ⟨_, _, _, e⟩
    obtain ⟨b, m, r, e⟩ := this
    have T := sc_top i hg _ _ _ e
    have tb1 := T.1
    have tb2 := T.2.1
    have elf : sc_lf K i = r := by rw [sc_lf_cl hc, e]; rfl
    have emt : sc_mt K i = m := by rw [sc_mt_cl hc, e]; rfl
    have hb := hA (b - 1) (by omega)
    have inb : vp_in (nI (b - 1)) 48 := vp_in_nI (by omega) (by omega)
    have cb : (nI (b - 1)).toNatClampNeg = b - 1 := nI_clamp (by omega)
    rw [elf, emt, show xs_cl K i a_closer = upd a_closer b (nI i) from by rw [xs_cl, if_pos hc, e]; rfl] at h
    rw [e, sc_hd_cons]
    refine nm_r (nb_m1 tb1) ⟨vp_in_nI (by omega) (by omega), nm_r (e' := upd a_closer b (nI i)) (by rw [nI_clamp (by omega)]) ⟨inb, hin, nm_r (e' := upd a_home i (nI (sc_hd r))) (by rw [ci, cb, hb.1, T.2.2.2.2.1]) ⟨inb, hin, nm_r (e' := upd a_depth i (nI r.length)) (by rw [ci, cb, hb.2.1, T.2.2.2.2.1]) ⟨inb, hin, nm_r (e' := upd a_mate i (nI m)) (by rw [ci, cb, hb.2.2, T.2.2.2.2.2.2.1]) (pk_eq (K i) 20 (fun h20 => ?_) (fun h20 => ⟨hin, ?_⟩))⟩⟩⟩⟩
    · rw [sc_s_else h20, sc_hd_cons] at h
      rw [nI_1]; exact h
    · rw [sc_s_end (by omega), e] at h
      rw [ci, pk_us]; exact h
  refine pk_eq (K i) 20 (fun h20 => closing (Or.inl h20)) (fun h20 => pk_eq (K i) 21 (fun h21 => closing (Or.inr (Or.inl h21))) (fun h21 => pk_eq (K i) 23 (fun h23 => closing (Or.inr (Or.inr h23))) (fun h23 => ⟨hin, nm_r (e' := upd a_home i (nI (sc_hd (sc_fr K i)))) (by rw [ci]) ?_⟩)))
  have nc : ¬ (K i = 20 ∨ K i = 21 ∨ K i = 23) := by omega
  rw [sc_lf_n nc, sc_mt_n nc, show xs_cl K i a_closer = a_closer from if_neg nc] at h
  have tail : wX_settle_125 post (nI i) (nI (sc_hd (sc_fr K i))) (nI (K i)) (nI (sc_fr K i).length) (nI i) f_lines f_studied f_wrong f_wrongAt f_brief f_on f_dropped f_steps f_nextLine f_repeats a_kinds a_firsts a_seconds a_thirds a_inputs (upd a_home i (nI (sc_hd (sc_fr K i)))) a_depth a_closer a_mate a_operands a_varies a_parted a_variableVaries a_same a_fixed a_worth a_needed a_variableNeeded a_values a_variables a_outputs a_cells a_whole a_waiting := by
    refine ⟨hin, nm_r (e' := upd a_depth i (nI (sc_fr K i).length)) (by rw [ci]) ⟨hin, nm_r (e' := upd a_mate i (nI i)) (by rw [ci]) (pk_eq (K i) 19 (fun h19 => ?_) (fun h19 => pk_eq (K i) 22 (fun h22 => ?_) (fun h22 => ?_)))⟩⟩
    · rw [sc_s_open (Or.inl h19), sc_hd_cons] at h; rw [nI_1]; exact h
    · rw [sc_s_open (Or.inr h22), sc_hd_cons] at h; rw [nI_1]; exact h
    · rw [sc_s_plain (by omega)] at h; exact h
  cases e : sc_fr K i with
  | nil => rw [e] at tail; exact br_t rfl tail
  | cons f r =>
    obtain ⟨b, m⟩ := f
    have T := sc_top i hg _ _ _ e
    have tb1 := T.1
    have tb2 := T.2.1
    have ei : nI b - 1 = nI (b - 1) := nb_m1 tb1
    have cl : (nI b - 1).toNatClampNeg = b - 1 := by rw [ei, nI_clamp (by omega)]
    have hb := hA (b - 1) (by omega)
    rw [e] at tail
    rw [sc_hd_cons] at tail ⊢
    refine br_f (nI_ne0 (by omega) (by omega)) ⟨by rw [ei]; exact vp_in_nI (by omega) (by omega), ?_⟩
    rw [cl, hb.2.1, T.2.2.2.2.1, nI_1]
    exact tail
theorem xs_has {post : Int32 → Prop} (k s : Nat) (hk : k ≤ 25) (hs : s < 3) (h1 : sc_us k s → post 1) (h0 : ¬ sc_us k s → post 0) : wpX_hasOperand post (nI k) (nI s) := by
  have t27 : s = 0 → ¬ (3 ≤ k ∧ k ≤ 10) → ¬ (12 ≤ k ∧ k ≤ 15) → wX_hasOperand_27 post (nI k) := fun h a b =>
    pk_eq k 19 (fun h' => h1 (by unfold sc_us; omega)) (fun h' => h0 (by unfold sc_us; omega))
  have t15 : s = 0 → ¬ (3 ≤ k ∧ k ≤ 10) → wX_hasOperand_15 post (nI k) := fun h a =>
    pk_lt k 12 (fun h' => t27 h a (by omega)) (fun h' => pk_le k 15 (fun h'' => h1 (by unfold sc_us; omega)) (fun h'' => t27 h a (by omega)))
  have t55 : s = 1 → ¬ (3 ≤ k ∧ k ≤ 8) → wX_hasOperand_55 post (nI k) := fun h a =>
    pk_eq k 10 (fun h' => h1 (by unfold sc_us; omega)) (fun h' => pk_lt k 16 (fun h'' => h0 (by unfold sc_us; omega)) (fun h'' => pk_lt 18 k (fun h3 => h0 (by unfold sc_us; omega)) (fun h3 => h1 (by unfold sc_us; omega))))
  exact pk_eq s 0 (fun hs0 => pk_lt k 3 (fun h => t15 hs0 (by omega)) (fun h => pk_le k 10 (fun h' => h1 (by unfold sc_us; omega)) (fun h' => t15 hs0 (by omega)))) (fun hs0 => pk_eq s 1 (fun hs1 => pk_lt k 3 (fun h => t55 hs1 (by omega)) (fun h => pk_le k 8 (fun h' => h1 (by unfold sc_us; omega)) (fun h' => t55 hs1 (by omega)))) (fun hs1 => pk_eq k 10 (fun h => h1 (by unfold sc_us; omega)) (fun h => h0 (by unfold sc_us; omega))))
theorem xs_uu {f : Nat → Int32} {k : Nat} {x y : Int32} : upd (upd f k x) k y = upd f k y := by
  funext j; simp only [upd]; split <;> rfl
/-- operands of line i after t slots -/
noncomputable def xs_op (K : Nat → Nat) (A B C : Nat → Int32) (f : Nat → Int32) (i : Nat) : Nat → Nat → Int32
  | 0 => f
  | t + 1 => upd (xs_op K A B C f i t) (3 * i + t) (@ite _ (sc_us (K i) t) (Classical.propDecidable _) (sc_o3 A B C t i) (-1))
theorem xs_gives {post : Int32 → Prop} (hK : ∀ j, j < n → a_kinds j = nI (K j) ∧ K j ≤ 25) (hn : n ≤ 48) {x : Nat} (hx : x < n) (h1 : K x ≤ 16 → post 1) (h0 : ¬ K x ≤ 16 → post 0) : wpX_givesValue post (f_lines, f_studied, f_wrong, f_wrongAt, f_brief, f_on, f_dropped, f_steps, f_nextLine, f_repeats, a_kinds, a_firsts, a_seconds, a_thirds, a_inputs, a_home, a_depth, a_closer, a_mate, a_operands, a_varies, a_parted, a_variableVaries, a_same, a_fixed, a_worth, a_needed, a_variableNeeded, a_values, a_variables, a_outputs, a_cells, a_whole, a_waiting) (nI x) := by
  have k := hK x hx
  refine ⟨vp_in_nI (by omega) (by omega), ?_⟩
  rw [nI_clamp (by omega), k.1]
  exact pk_lt 16 (K x) (fun h => h0 (by omega)) (fun h => h1 (by omega))
theorem xs_wrongOperand4 (hn : n ≤ 48) (hK : ∀ j, j < n → a_kinds j = nI (K j) ∧ K j ≤ 25) {post : Int32 → SX → Prop} {i : Nat} (hi : i < n) (hg : sc_good K (i + 1)) (hA : ∀ j, j < i + 1 → a_home j = nI (sc_hd (sc_lf K j)))
    (h2 : ∀ ops', (∃ s, s < 3 ∧ sc_us (K i) s ∧ ¬ sc_ov K a_firsts a_seconds a_thirds s i) → post 2 (f_lines, f_studied, f_wrong, f_wrongAt, f_brief, f_on, f_dropped, f_steps, f_nextLine, f_repeats, a_kinds, a_firsts, a_seconds, a_thirds, a_inputs, a_home, a_depth, a_closer, a_mate, ops', a_varies, a_parted, a_variableVaries, a_same, a_fixed, a_worth, a_needed, a_variableNeeded, a_values, a_variables, a_outputs, a_cells, a_whole, a_waiting))
    (h3 : (∀ s, s < 3 → sc_us (K i) s → sc_ov K a_firsts a_seconds a_thirds s i) → (∃ s, s < 3 ∧ sc_us (K i) s ∧ ¬ sc_oo K a_firsts a_seconds a_thirds s i) → post 3 (f_lines, f_studied, f_wrong, f_wrongAt, f_brief, f_on, f_dropped, f_steps, f_nextLine, f_repeats, a_kinds, a_firsts, a_seconds, a_thirds, a_inputs, a_home, a_depth, a_closer, a_mate, xs_op K a_firsts a_seconds a_thirds a_operands i 3, a_varies, a_parted, a_variableVaries, a_same, a_fixed, a_worth, a_needed, a_variableNeeded, a_values, a_variables, a_outputs, a_cells, a_whole, a_waiting))
    (h0 : (∀ s, s < 3 → sc_us (K i) s → sc_ov K a_firsts a_seconds a_thirds s i) → (∀ s, s < 3 → sc_us (K i) s → sc_oo K a_firsts a_seconds a_thirds s i) → post 0 (f_lines, f_studied, f_wrong, f_wrongAt, f_brief, f_on, f_dropped, f_steps, f_nextLine, f_repeats, a_kinds, a_firsts, a_seconds, a_thirds, a_inputs, a_home, a_depth, a_closer, a_mate, xs_op K a_firsts a_seconds a_thirds a_operands i 3, a_varies, a_parted, a_variableVaries, a_same, a_fixed, a_worth, a_needed, a_variableNeeded, a_values, a_variables, a_outputs, a_cells, a_whole, a_waiting)) :
    ∀ (d t : Nat) (w : Int32), t + d = 3 → (∀ s, s < t → sc_us (K i) s → sc_ov K a_firsts a_seconds a_thirds s i) → ((w = 3 ∧ ∃ s, s < t ∧ sc_us (K i) s ∧ ¬ sc_oo K a_firsts a_seconds a_thirds s i) ∨ (w = 0 ∧ ∀ s, s < t → sc_us (K i) s → sc_oo K a_firsts a_seconds a_thirds s i)) → wX_wrongOperand_4 post (nI i) f_lines f_studied f_wrong f_wrongAt f_brief f_on f_dropped f_steps f_nextLine f_repeats (d + 1) w (nI t) a_kinds a_firsts a_seconds a_thirds a_inputs a_home a_depth a_closer a_mate (xs_op K a_firsts a_seconds a_thirds a_operands i t) a_varies a_parted a_variableVaries a_same a_fixed a_worth a_needed a_variableNeeded a_values a_variables a_outputs a_cells a_whole a_waiting := by
  intro d
  induction d with
  | zero =>
    intro t w ht hv ho
    cases (show t = 3 by omega)
    refine br_t (by decide) ?_
    rcases ho with ⟨rfl, ho⟩ | ⟨rfl, ho⟩
    · exact h3 hv ho
    · exact h0 hv ho
  | succ d ih =>
    intro t w ht hv ho
    have ci : (nI i).toNatClampNeg = i := nI_clamp (by omega)
    have hin : vp_in (nI i) 48 := vp_in_nI (by omega) (by omega)
    have ea : nI i * 3 + nI t = nI (3 * i + t) := nb_34
    have ca : (nI i * 3 + nI t).toNatClampNeg = 3 * i + t := by rw [ea, nI_clamp (by omega)]
    have ia : vp_in (nI i * 3 + nI t) 144 := by rw [ea]; exact vp_in_nI (by omega) (by omega)
    have ki := hK i hi
    refine br_f (nI_ge (b := 3) (by omega) (by decide)) ⟨ia, nm_r (by rw [ca]) ⟨hin, ?_⟩⟩
    rw [ci, ki.1]
    have key : sc_us (K i) t → ∀ z0 : Int32, z0 = sc_o3 a_firsts a_seconds a_thirds t i → wX_wrongOperand_66 post (wX_wrongOperand_4 post (nI i) f_lines f_studied f_wrong f_wrongAt f_brief f_on f_dropped f_steps f_nextLine f_repeats (d + 1)) (nI i) w (nI t) z0 f_lines f_studied f_wrong f_wrongAt f_brief f_on f_dropped f_steps f_nextLine f_repeats a_kinds a_firsts a_seconds a_thirds a_inputs a_home a_depth a_closer a_mate (upd (xs_op K a_firsts a_seconds a_thirds a_operands i t) (3 * i + t) (-1)) a_varies a_parted a_variableVaries a_same a_fixed a_worth a_needed a_variableNeeded a_values a_variables a_outputs a_cells a_whole a_waiting := by
      intro hu z0 ez
      have no : ¬ sc_ov K a_firsts a_seconds a_thirds t i → post 2 (f_lines, f_studied, f_wrong, f_wrongAt, f_brief, f_on, f_dropped, f_steps, f_nextLine, f_repeats, a_kinds, a_firsts, a_seconds, a_thirds, a_inputs, a_home, a_depth, a_closer, a_mate, upd (xs_op K a_firsts a_seconds a_thirds a_operands i t) (3 * i + t) (-1), a_varies, a_parted, a_variableVaries, a_same, a_fixed, a_worth, a_needed, a_variableNeeded, a_values, a_variables, a_outputs, a_cells, a_whole, a_waiting) := fun h => h2 _ ⟨t, by omega, hu, h⟩
      rcases pk_ix z0 (n := i) (by omega) with h | h | ⟨x, hx, rfl⟩
      · refine br_t h (no ?_)
        rintro ⟨x, hx, e, _⟩
        rw [ez, e] at h; exact nI_pos (by omega) h
      · refine br_c (fun h' => no ?_) (fun _ => br_t h (no ?_))
        · rintro ⟨x, hx, e, _⟩
          rw [ez, e] at h'; exact nI_pos (by omega) h'
        · rintro ⟨x, hx, e, _⟩
          rw [ez, e] at h; exact nI_ge hx (by omega) h
      · refine br_f (nI_pos (by omega)) (br_f (nI_ge hx (by omega)) (xs_gives hK hn (by omega) (fun hk => br_f (by decide) ⟨vp_in_nI (by omega) (by omega), ?_⟩) (fun hk => br_t rfl (no ?_))))
        · have hov : sc_ov K a_firsts a_seconds a_thirds t i := ⟨x, hx, ez.symm, hk⟩
          have hv' : ∀ s, s < t + 1 → sc_us (K i) s → sc_ov K a_firsts a_seconds a_thirds s i := fun s hs hus => by
            by_cases h : s = t
            · rw [h]; exact hov
            · exact hv s (by omega) hus
          have eo : sc_oo K a_firsts a_seconds a_thirds t i ↔ sc_in (sc_hd (sc_lf K x)) (sc_lf K i) := by
            rw [sc_oo, ← ez, nI_clamp (by omega)]
          have eop : upd (upd (xs_op K a_firsts a_seconds a_thirds a_operands i t) (3 * i + t) (-1)) (nI i * 3 + nI t).toNatClampNeg (nI x) = xs_op K a_firsts a_seconds a_thirds a_operands i (t + 1) := by
            rw [ca, xs_uu]
            show _ = upd _ _ _
            rw [if_pos hu, ez]
          rw [nI_clamp (by omega), hA x (by omega)]
          refine xs_isOpen (K := K) (w := i + 1) hn (by omega) hg hA (Nat.le_trans (sc_hdl_le (sc_good_le hg (by omega))) (by omega)) (by omega) (fun hin1 => br_f (by decide) ⟨ia, nm_r eop (nm_r (nI_1 t) (ih (t + 1) w (by omega) hv' ?_))⟩) (fun hin0 => br_t rfl ⟨ia, nm_r eop (nm_r (nI_1 t) (ih (t + 1) 3 (by omega) hv' (Or.inl ⟨rfl, t, by omega, hu, fun h => hin0 (eo.mp h)⟩)))⟩)
          rcases ho with ⟨rfl, s, hs, hus, hno⟩ | ⟨rfl, ho⟩
          · exact Or.inl ⟨rfl, s, by omega, hus, hno⟩
          · refine Or.inr ⟨rfl, fun s hs hus => ?_⟩
            by_cases h : s = t
            · rw [h]; exact eo.mpr hin1
            · exact ho s (by omega) hus
        · rintro ⟨x', hx', e, hk'⟩
          rw [← ez] at e
          rw [nI_eq (by omega) (by omega)] at e
          rw [e] at hk; exact hk hk'
    refine xs_has (K i) t ki.2 (by omega) (fun hu => br_f (by decide) ?_) (fun hu => br_t rfl (nm_r (nI_1 t) ?_))
    · refine pk_eq t 0 (fun h => ⟨hin, key hu _ ?_⟩) (fun h => pk_eq t 1 (fun h => ⟨hin, key hu _ ?_⟩) (fun h' => ⟨hin, key hu _ ?_⟩))
      · rw [h]; rfl
      · rw [h]; rfl
      · rw [show t = 2 by omega]; rfl
    · have eop : upd (xs_op K a_firsts a_seconds a_thirds a_operands i t) (3 * i + t) (-1) = xs_op K a_firsts a_seconds a_thirds a_operands i (t + 1) := by
        show _ = upd _ _ _
        rw [if_neg hu]
      rw [eop]
      refine ih (t + 1) w (by omega) (fun s hs hus => ?_) ?_
      · by_cases h : s = t
        · rw [h] at hus; exact absurd hus hu
        · exact hv s (by omega) hus
      · rcases ho with ⟨rfl, s, hs, hus, hno⟩ | ⟨rfl, ho⟩
        · exact Or.inl ⟨rfl, s, by omega, hus, hno⟩
        · refine Or.inr ⟨rfl, fun s hs hus => ?_⟩
          by_cases h : s = t
          · rw [h] at hus; exact absurd hus hu
          · exact ho s (by omega) hus
theorem xs_wrongOperand (hn : n ≤ 48) (hK : ∀ j, j < n → a_kinds j = nI (K j) ∧ K j ≤ 25) {post : Int32 → SX → Prop} {i : Nat} (hi : i < n) (hg : sc_good K (i + 1)) (hA : ∀ j, j < i + 1 → a_home j = nI (sc_hd (sc_lf K j)))
    (h2 : ∀ ops', (∃ s, s < 3 ∧ sc_us (K i) s ∧ ¬ sc_ov K a_firsts a_seconds a_thirds s i) → post 2 (f_lines, f_studied, f_wrong, f_wrongAt, f_brief, f_on, f_dropped, f_steps, f_nextLine, f_repeats, a_kinds, a_firsts, a_seconds, a_thirds, a_inputs, a_home, a_depth, a_closer, a_mate, ops', a_varies, a_parted, a_variableVaries, a_same, a_fixed, a_worth, a_needed, a_variableNeeded, a_values, a_variables, a_outputs, a_cells, a_whole, a_waiting))
    (h3 : (∀ s, s < 3 → sc_us (K i) s → sc_ov K a_firsts a_seconds a_thirds s i) → (∃ s, s < 3 ∧ sc_us (K i) s ∧ ¬ sc_oo K a_firsts a_seconds a_thirds s i) → post 3 (f_lines, f_studied, f_wrong, f_wrongAt, f_brief, f_on, f_dropped, f_steps, f_nextLine, f_repeats, a_kinds, a_firsts, a_seconds, a_thirds, a_inputs, a_home, a_depth, a_closer, a_mate, xs_op K a_firsts a_seconds a_thirds a_operands i 3, a_varies, a_parted, a_variableVaries, a_same, a_fixed, a_worth, a_needed, a_variableNeeded, a_values, a_variables, a_outputs, a_cells, a_whole, a_waiting))
    (h0 : (∀ s, s < 3 → sc_us (K i) s → sc_ov K a_firsts a_seconds a_thirds s i) → (∀ s, s < 3 → sc_us (K i) s → sc_oo K a_firsts a_seconds a_thirds s i) → post 0 (f_lines, f_studied, f_wrong, f_wrongAt, f_brief, f_on, f_dropped, f_steps, f_nextLine, f_repeats, a_kinds, a_firsts, a_seconds, a_thirds, a_inputs, a_home, a_depth, a_closer, a_mate, xs_op K a_firsts a_seconds a_thirds a_operands i 3, a_varies, a_parted, a_variableVaries, a_same, a_fixed, a_worth, a_needed, a_variableNeeded, a_values, a_variables, a_outputs, a_cells, a_whole, a_waiting)) : wpX_wrongOperand post (f_lines, f_studied, f_wrong, f_wrongAt, f_brief, f_on, f_dropped, f_steps, f_nextLine, f_repeats, a_kinds, a_firsts, a_seconds, a_thirds, a_inputs, a_home, a_depth, a_closer, a_mate, a_operands, a_varies, a_parted, a_variableVaries, a_same, a_fixed, a_worth, a_needed, a_variableNeeded, a_values, a_variables, a_outputs, a_cells, a_whole, a_waiting) (nI i) :=
  ⟨4, xs_wrongOperand4 hn hK hi hg hA h2 h3 h0 3 0 0 rfl (fun s hs => by omega) (Or.inr ⟨rfl, fun s hs => by omega⟩)⟩
end
