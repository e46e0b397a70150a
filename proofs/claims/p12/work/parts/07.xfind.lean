section
theorem xs_op_ne {K : Nat → Nat} {A B C f : Nat → Int32} {i q : Nat} (h : q < 3 * i) : ∀ t, xs_op K A B C f i t q = f q := by
  intro t
  induction t with
  | zero => rfl
  | succ t ih =>
    show upd _ _ _ q = _
    rw [pk_un (by omega)]; exact ih
theorem xs_op_later {K : Nat → Nat} {A B C f : Nat → Int32} {i s : Nat} : ∀ t, s < t → xs_op K A B C f i t (3 * i + s) = xs_op K A B C f i (s + 1) (3 * i + s) := by
  intro t
  induction t with
  | zero => intro h; omega
  | succ t ih =>
    intro h
    by_cases e : s = t
    · rw [e]
    · show upd _ _ _ _ = _
      rw [pk_un (by omega)]; exact ih (by omega)
theorem xs_op_at {K : Nat → Nat} {A B C f : Nat → Int32} {i s : Nat} (hs : s < 3) : (sc_us (K i) s → xs_op K A B C f i 3 (3 * i + s) = sc_o3 A B C s i) ∧ (¬ sc_us (K i) s → xs_op K A B C f i 3 (3 * i + s) = -1) := by
  rw [xs_op_later 3 hs]
  show (_ → upd _ _ _ _ = _) ∧ (_ → upd _ _ _ _ = _)
  rw [pk_us]
  exact ⟨fun h => if_pos h, fun h => if_neg h⟩
theorem xs_A_step {K : Nat → Nat} {A B C : Nat → Int32} {i : Nat} {home depth closer mate operands : Nat → Int32} (hg : sc_good K (i + 1)) (h : xs_A K A B C i home depth closer mate operands) :
    xs_A K A B C (i + 1) (upd home i (nI (sc_hd (sc_lf K i)))) (upd depth i (nI (sc_lf K i).length)) (xs_cl K i closer) (upd mate i (nI (sc_mt K i))) (xs_op K A B C operands i 3) := by
  intro j hj
  by_cases e : j = i
  · subst e
    refine ⟨pk_us, pk_us, pk_us, fun hc => ?_, fun s hs => xs_op_at hs⟩
    rw [xs_cl, if_pos hc]; exact pk_us
  · obtain ⟨h1, h2, h3, h4, h5⟩ := h j (by omega)
    refine ⟨by rw [pk_un e]; exact h1, by rw [pk_un e]; exact h2, by rw [pk_un e]; exact h3, fun hc => ?_, fun s hs => ?_⟩
    · rw [xs_cl]
      split
      · rename_i hci
        have fi := hg i (by omega)
        have fj := hg j (by omega)
        have ne : sc_hd (sc_fr K j) ≠ sc_hd (sc_fr K i) := by
          intro ee
          have top : ∀ q, sc_fits K q → (K q = 20 ∨ K q = 21 ∨ K q = 23) → ∃ m r, sc_fr K q = (sc_hd (sc_fr K q), m) :: r := by
            intro q f hq
            rcases hq with hq | hq | hq
            · obtain ⟨m, r, e, _⟩ := f.2.1 hq; exact ⟨m, r, by rw [e]; rfl⟩
            · obtain ⟨b, m, r, e, _⟩ := f.2.2.1 hq; exact ⟨m, r, by rw [e]; rfl⟩
            · obtain ⟨b, m, r, e, _⟩ := f.2.2.2.1 hq; exact ⟨m, r, by rw [e]; rfl⟩
          exact sc_uniq hg (show j < i by omega) ⟨hc, top j fj hc⟩ ⟨hci, by rw [ee]; exact top i fi hci⟩
        rw [pk_un ne]; exact h4 hc
      · exact h4 hc
    · rw [xs_op_ne (by omega)]; exact h5 s hs
end
section
variable {K : Nat → Nat} {n : Nat}
variable {f_lines f_studied f_wrong f_wrongAt f_brief f_on f_dropped f_steps f_nextLine f_repeats : Int32} {a_kinds a_firsts a_seconds a_thirds a_inputs a_home a_depth a_closer a_mate a_operands a_varies a_parted a_variableVaries a_same a_fixed a_worth a_needed a_variableNeeded a_values a_variables a_outputs a_cells a_whole a_waiting : Nat → Int32}
theorem xs_fw71 {post : SX → Prop} {x1 : Int32} (hw : f_wrong ≠ 0) (h : post (f_lines, f_studied, f_wrong, f_wrongAt, f_brief, f_on, f_dropped, f_steps, f_nextLine, f_repeats, a_kinds, a_firsts, a_seconds, a_thirds, a_inputs, a_home, a_depth, upd a_closer 0 f_lines, a_mate, a_operands, a_varies, a_parted, a_variableVaries, a_same, a_fixed, a_worth, a_needed, a_variableNeeded, a_values, a_variables, a_outputs, a_cells, a_whole, a_waiting)) : wX_findWrong_71 post x1 f_lines f_studied f_wrong f_wrongAt f_brief f_on f_dropped f_steps f_nextLine f_repeats a_kinds a_firsts a_seconds a_thirds a_inputs a_home a_depth a_closer a_mate a_operands a_varies a_parted a_variableVaries a_same a_fixed a_worth a_needed a_variableNeeded a_values a_variables a_outputs a_cells a_whole a_waiting :=
  br_f hw (nm_e h)
theorem xs_fwBad {post : SX → Prop} {x1 x2 : Int32} {d : Nat} (hw : f_wrong ≠ 0) (h : post (f_lines, f_studied, f_wrong, f_wrongAt, f_brief, f_on, f_dropped, f_steps, f_nextLine, f_repeats, a_kinds, a_firsts, a_seconds, a_thirds, a_inputs, a_home, a_depth, upd a_closer 0 f_lines, a_mate, a_operands, a_varies, a_parted, a_variableVaries, a_same, a_fixed, a_worth, a_needed, a_variableNeeded, a_values, a_variables, a_outputs, a_cells, a_whole, a_waiting)) : wX_findWrong_4 post (d + 1) x1 x2 f_lines f_studied f_wrong f_wrongAt f_brief f_on f_dropped f_steps f_nextLine f_repeats a_kinds a_firsts a_seconds a_thirds a_inputs a_home a_depth a_closer a_mate a_operands a_varies a_parted a_variableVaries a_same a_fixed a_worth a_needed a_variableNeeded a_values a_variables a_outputs a_cells a_whole a_waiting :=
  br_c (fun _ => xs_fw71 hw h) (fun _ => br_f hw (xs_fw71 hw h))
theorem xs_findWrong4 (hn : n ≤ 48) (hK : ∀ j, j < n → a_kinds j = nI (K j) ∧ K j ≤ 25) {post : SX → Prop}
    (hbad : ∀ (i c : Nat) (home depth closer mate operands : Nat → Int32), i < n → sc_ok K a_firsts a_seconds a_thirds i → sc_ck K a_firsts a_seconds a_thirds i c → c ≠ 0 → c < 4 → post (nI n, f_studied, nI c, nI i, f_brief, f_on, f_dropped, f_steps, f_nextLine, f_repeats, a_kinds, a_firsts, a_seconds, a_thirds, a_inputs, home, depth, closer, mate, operands, a_varies, a_parted, a_variableVaries, a_same, a_fixed, a_worth, a_needed, a_variableNeeded, a_values, a_variables, a_outputs, a_cells, a_whole, a_waiting))
    (hopen : ∀ (home depth closer mate operands : Nat → Int32), sc_ok K a_firsts a_seconds a_thirds n → sc_fr K n ≠ [] → post (nI n, f_studied, 1, nI n, f_brief, f_on, f_dropped, f_steps, f_nextLine, f_repeats, a_kinds, a_firsts, a_seconds, a_thirds, a_inputs, home, depth, closer, mate, operands, a_varies, a_parted, a_variableVaries, a_same, a_fixed, a_worth, a_needed, a_variableNeeded, a_values, a_variables, a_outputs, a_cells, a_whole, a_waiting))
    (hgood : ∀ (home depth closer mate operands : Nat → Int32), sc_ok K a_firsts a_seconds a_thirds n → sc_fr K n = [] → xs_A K a_firsts a_seconds a_thirds n home depth closer mate operands → closer 0 = nI n → post (nI n, f_studied, 0, f_wrongAt, f_brief, f_on, f_dropped, f_steps, f_nextLine, f_repeats, a_kinds, a_firsts, a_seconds, a_thirds, a_inputs, home, depth, closer, mate, operands, a_varies, a_parted, a_variableVaries, a_same, a_fixed, a_worth, a_needed, a_variableNeeded, a_values, a_variables, a_outputs, a_cells, a_whole, a_waiting)) :
    ∀ (d i : Nat) (home depth closer mate operands : Nat → Int32), i + d = n → sc_ok K a_firsts a_seconds a_thirds i → xs_A K a_firsts a_seconds a_thirds i home depth closer mate operands → wX_findWrong_4 post (d + 2) (nI (sc_hd (sc_fr K i))) (nI i) (nI n) f_studied 0 f_wrongAt f_brief f_on f_dropped f_steps f_nextLine f_repeats a_kinds a_firsts a_seconds a_thirds a_inputs home depth closer mate operands a_varies a_parted a_variableVaries a_same a_fixed a_worth a_needed a_variableNeeded a_values a_variables a_outputs a_cells a_whole a_waiting := by
  intro d
  induction d with
  | zero =>
    intro i home depth closer mate operands hi hok hA
    cases (show i = n by omega)
    refine br_t (nI_le (Nat.le_refl _) (by omega)) (br_t rfl ?_)
    have gn := sc_ok_good hok
    cases e : sc_fr K n with
    | nil =>
      refine br_t rfl (nm_e (hgood _ _ _ _ _ hok e ?_ pk_us))
      intro j hj
      obtain ⟨h1, h2, h3, h4, h5⟩ := hA j hj
      refine ⟨h1, h2, h3, fun hc => ?_, h5⟩
      have : sc_hd (sc_fr K j) ≠ 0 := by
        have f := gn j hj
        rcases hc with hq | hq | hq
        · obtain ⟨m, r, e, _⟩ := f.2.1 hq
          have := (sc_top j (sc_good_le gn (by omega)) _ _ _ e).1; rw [e, sc_hd_cons]; omega
        · obtain ⟨b, m, r, e, _⟩ := f.2.2.1 hq
          have := (sc_top j (sc_good_le gn (by omega)) _ _ _ e).1; rw [e, sc_hd_cons]; omega
        · obtain ⟨b, m, r, e, _⟩ := f.2.2.2.1 hq
          have := (sc_top j (sc_good_le gn (by omega)) _ _ _ e).1; rw [e, sc_hd_cons]; omega
      rw [pk_un this]; exact h4 hc
    | cons f r =>
      obtain ⟨b, m⟩ := f
      have T := sc_top n gn _ _ _ e
      have := T.1
      have := T.2.1
      rw [sc_hd_cons]
      exact br_f (nI_ne0 (by omega) (by omega)) (nm_e (hopen _ _ _ _ _ hok (by rw [e]; simp)))
  | succ d ih =>
    intro i home depth closer mate operands hi hok hA
    have hin : vp_in (nI i) 48 := vp_in_nI (by omega) (by omega)
    have ci : (nI i).toNatClampNeg = i := nI_clamp (by omega)
    have ki := hK i (by omega)
    have gi := sc_ok_good hok
    refine br_f (nI_ge (by omega) (by omega)) (br_t rfl ⟨hin, ?_⟩)
    rw [ci, ki.1]
    refine xs_fits hn hK (by omega) gi (fun j hj => ⟨(hA j hj).1, (hA j hj).2.1⟩) (fun hf => br_f (by decide) ?_) (fun hf => br_t rfl (nm_e (xs_fwBad (by decide) (hbad i 1 _ _ _ _ _ (by omega) hok (Or.inl ⟨hf, rfl⟩) (by omega) (by omega)))))
    have gi1 : sc_good K (i + 1) := fun j hj => by
      by_cases e : j = i
      · rw [e]; exact hf
      · exact gi j (by omega)
    have hA1 := xs_A_step gi1 hA
    refine xs_settle hn hK (by omega) gi hf (fun j hj => ⟨(hA j hj).1, (hA j hj).2.1, (hA j hj).2.2.1⟩) ?_
    refine xs_wrongOperand (K := K) (n := n) hn hK (i := i) (by omega) gi1 (fun j hj => (hA1 j hj).1) (fun ops' h2 => br_f (by decide) (nm_e (xs_fwBad (by decide) (hbad i 2 _ _ _ _ _ (by omega) hok (Or.inr (Or.inl ⟨hf, h2, rfl⟩)) (by omega) (by omega))))) (fun hv h3 => br_f (by decide) (nm_e (xs_fwBad (by decide) (hbad i 3 _ _ _ _ _ (by omega) hok (Or.inr (Or.inr (Or.inl ⟨hf, hv, h3, rfl⟩))) (by omega) (by omega))))) (fun hv h0 => br_t rfl (nm_r (nI_1 i) (ih (i + 1) _ _ _ _ _ (by omega) ?_ hA1)))
    intro j hj
    by_cases e : j = i
    · rw [e]; exact Or.inr (Or.inr (Or.inr ⟨hf, hv, h0, rfl⟩))
    · exact hok j (by omega)
theorem xs_findWrong (hn : n ≤ 48) (hK : ∀ j, j < n → a_kinds j = nI (K j) ∧ K j ≤ 25) {post : SX → Prop}
    (hbad : ∀ (i c : Nat) (home depth closer mate operands : Nat → Int32), i < n → sc_ok K a_firsts a_seconds a_thirds i → sc_ck K a_firsts a_seconds a_thirds i c → c ≠ 0 → c < 4 → post (nI n, f_studied, nI c, nI i, f_brief, f_on, f_dropped, f_steps, f_nextLine, f_repeats, a_kinds, a_firsts, a_seconds, a_thirds, a_inputs, home, depth, closer, mate, operands, a_varies, a_parted, a_variableVaries, a_same, a_fixed, a_worth, a_needed, a_variableNeeded, a_values, a_variables, a_outputs, a_cells, a_whole, a_waiting))
    (hopen : ∀ (home depth closer mate operands : Nat → Int32), sc_ok K a_firsts a_seconds a_thirds n → sc_fr K n ≠ [] → post (nI n, f_studied, 1, nI n, f_brief, f_on, f_dropped, f_steps, f_nextLine, f_repeats, a_kinds, a_firsts, a_seconds, a_thirds, a_inputs, home, depth, closer, mate, operands, a_varies, a_parted, a_variableVaries, a_same, a_fixed, a_worth, a_needed, a_variableNeeded, a_values, a_variables, a_outputs, a_cells, a_whole, a_waiting))
    (hgood : ∀ (home depth closer mate operands : Nat → Int32), sc_ok K a_firsts a_seconds a_thirds n → sc_fr K n = [] → xs_A K a_firsts a_seconds a_thirds n home depth closer mate operands → closer 0 = nI n → post (nI n, f_studied, 0, f_wrongAt, f_brief, f_on, f_dropped, f_steps, f_nextLine, f_repeats, a_kinds, a_firsts, a_seconds, a_thirds, a_inputs, home, depth, closer, mate, operands, a_varies, a_parted, a_variableVaries, a_same, a_fixed, a_worth, a_needed, a_variableNeeded, a_values, a_variables, a_outputs, a_cells, a_whole, a_waiting)) :
    wpX_findWrong post (nI n, f_studied, 0, f_wrongAt, f_brief, f_on, f_dropped, f_steps, f_nextLine, f_repeats, a_kinds, a_firsts, a_seconds, a_thirds, a_inputs, a_home, a_depth, a_closer, a_mate, a_operands, a_varies, a_parted, a_variableVaries, a_same, a_fixed, a_worth, a_needed, a_variableNeeded, a_values, a_variables, a_outputs, a_cells, a_whole, a_waiting) :=
  ⟨n + 2, xs_findWrong4 hn hK hbad hopen hgood n 0 _ _ _ _ _ (by omega) (fun j hj => by omega) (fun j hj => by omega)⟩
end
