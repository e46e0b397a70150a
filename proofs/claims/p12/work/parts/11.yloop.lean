section
variable {K : Nat → Nat} {n : Nat}
variable {f_lines f_known f_wrong f_place f_blocks f_steps f_dropped f_on f_next f_again f_depth : Int32} {a_ops a_as a_bs a_cs a_blockOf a_opener a_around a_other a_end a_open a_varied a_loose a_variedVariable a_stands a_number a_isConst a_needed a_inputs a_values a_variables a_cells a_outs a_was a_rest a_line : Nat → Int32}
theorem yl_221 (hn : n ≤ 48) (hK : ∀ j, j < n → a_ops j = nI (K j) ∧ K j ≤ 25) {post : SY → Prop} {J : Int32 → Int32 → Int32 → Int32 → Int32 → Int32 → Int32 → Int32 → Int32 → Int32 → Int32 → Int32 → Int32 → Int32 → (Nat → Int32) → (Nat → Int32) → (Nat → Int32) → (Nat → Int32) → (Nat → Int32) → (Nat → Int32) → (Nat → Int32) → (Nat → Int32) → (Nat → Int32) → (Nat → Int32) → (Nat → Int32) → (Nat → Int32) → (Nat → Int32) → (Nat → Int32) → (Nat → Int32) → (Nat → Int32) → (Nat → Int32) → (Nat → Int32) → (Nat → Int32) → (Nat → Int32) → (Nat → Int32) → (Nat → Int32) → (Nat → Int32) → (Nat → Int32) → (Nat → Int32) → Prop} {i : Nat} (hi : i < n) (hg : sc_good K i) (hf : sc_fits K i) (hA : ys_A K i a_blockOf a_opener a_around a_other a_end)
    (hbad : ∀ (c : Nat) (x2 : Int32) (bo : Nat → Int32), sc_ck K a_as a_bs a_cs i c → c ≠ 0 → c < 4 → J (nI (sc_fr K i).length) x2 (nI (i + 1)) f_lines f_known (nI c) (nI i) (nI (sc_cnt K i + 1)) f_steps f_dropped f_on f_next f_again f_depth a_ops a_as a_bs a_cs bo a_opener a_around a_other a_end a_open a_varied a_loose a_variedVariable a_stands a_number a_isConst a_needed a_inputs a_values a_variables a_cells a_outs a_was a_rest a_line)
    (h : sc_ck K a_as a_bs a_cs i 0 → J (nI (sc_fr K (i + 1)).length) (nI (sc_cnt K (sc_hd (sc_fr K (i + 1))))) (nI (i + 1)) f_lines f_known 0 f_place (nI (sc_cnt K (i + 1) + 1)) f_steps f_dropped f_on f_next f_again f_depth a_ops a_as a_bs a_cs (upd a_blockOf i (nI (sc_cnt K (sc_hd (sc_lf K i))))) (ys_or K i a_opener) (ys_ar K i a_around) (ys_ot K i a_other) (ys_en K i a_end) (ys_on K i a_open) a_varied a_loose a_variedVariable a_stands a_number a_isConst a_needed a_inputs a_values a_variables a_cells a_outs a_was a_rest a_line) :
    wY_look_221 post J (nI (sc_fr K i).length) (nI (sc_cnt K (sc_hd (sc_fr K i)))) (nI i) (nI (K i)) (yl_top (sc_fr K i)) f_lines f_known 0 f_place (nI (sc_cnt K i + 1)) f_steps f_dropped f_on f_next f_again f_depth a_ops a_as a_bs a_cs a_blockOf a_opener a_around a_other a_end a_open a_varied a_loose a_variedVariable a_stands a_number a_isConst a_needed a_inputs a_values a_variables a_cells a_outs a_was a_rest a_line := by
  have ci : (nI i).toNatClampNeg = i := nI_clamp (by omega)
  have k25 := (hK i hi).2
  have gi1 : sc_good K (i + 1) := fun j hj => by
    by_cases e : j = i
    · rw [e]; exact hf
    · exact hg j (by omega)
  have t261 : wY_look_261 post J (nI (sc_fr K i).length) (nI (sc_cnt K (sc_hd (sc_lf K i)))) (nI i) (nI (K i)) (yl_top (sc_fr K i)) 0 f_lines f_known 0 f_place (nI (sc_cnt K i + 1)) f_steps f_dropped f_on f_next f_again f_depth a_ops a_as a_bs a_cs a_blockOf a_opener a_around a_other a_end a_open a_varied a_loose a_variedVariable a_stands a_number a_isConst a_needed a_inputs a_values a_variables a_cells a_outs a_was a_rest a_line := by
    refine ⟨vp_in_nI (by omega) (by omega), nm_r (e' := upd a_blockOf i (nI (sc_cnt K (sc_hd (sc_lf K i))))) (by rw [ci]) (br_t rfl ⟨4, ?_⟩)⟩
    refine ys_operands4 (K := K) (n := n) hn hK hi gi1 (fun j hj ho => ((hA j hj).2.1 ho).1) (fun j hj => ?_) (fun h2 => yl_290bad (c := 2) (by omega) (by omega) (hbad 2 _ _ (Or.inr (Or.inl ⟨hf, h2, rfl⟩)) (by omega) (by omega))) (fun hv h3 => yl_290bad (c := 3) (by omega) (by omega) (hbad 3 _ _ (Or.inr (Or.inr (Or.inl ⟨hf, hv, h3, rfl⟩))) (by omega) (by omega))) (fun hv h0 => yl_290 hn hi (hK i hi).2 hg hf (h (Or.inr (Or.inr (Or.inr ⟨hf, hv, h0, rfl⟩))))) 3 0 0 rfl (fun s hs => by omega) (Or.inr ⟨rfl, fun s hs => by omega⟩)
    by_cases e : j = i
    · rw [e]; exact pk_us
    · rw [pk_un e]; exact (hA j (by omega)).1
  have closing : (K i = 20 ∨ K i = 21 ∨ K i = 23) → wY_look_245 post J (nI (sc_fr K i).length) (nI (sc_cnt K (sc_hd (sc_fr K i)))) (nI i) (nI (K i)) (yl_top (sc_fr K i)) 0 f_lines f_known 0 f_place (nI (sc_cnt K i + 1)) f_steps f_dropped f_on f_next f_again f_depth a_ops a_as a_bs a_cs a_blockOf a_opener a_around a_other a_end a_open a_varied a_loose a_variedVariable a_stands a_number a_isConst a_needed a_inputs a_values a_variables a_cells a_outs a_was a_rest a_line := by
    intro hc
    obtain ⟨b, r, e, eb, el⟩ := sc_clTop hf hc
    have T := sc_top i hg _ _ _ e
    have tb := T.2.1
    have tb1 := T.1
    have cb := sc_cnt_le (K := K) b
    have ha := ((hA (b - 1) (by omega)).2.1 T.2.2.2.2.2.2.2.1).1
    rw [show b - 1 + 1 = b by omega, T.2.2.2.2.1, ← el] at ha
    rw [eb]
    refine br_t rfl ⟨vp_in_nI (by omega) (by omega), ?_⟩
    rw [nI_clamp (by omega), ha]
    exact t261
  refine pk_eq (K i) 20 (fun h' => closing (Or.inl h')) (fun h20 => pk_eq (K i) 21 (fun h' => closing (Or.inr (Or.inl h'))) (fun h21 => pk_eq (K i) 23 (fun h' => closing (Or.inr (Or.inr h'))) (fun h23 => ?_)))
  rw [sc_lf_n (by omega)] at t261
  exact t261
theorem yl_look48 (hn : n ≤ 48) (hK : ∀ j, j < n → a_ops j = nI (K j) ∧ K j ≤ 25) {post : SY → Prop}
    (hbad : ∀ (i c : Nat) (bl : Int32) (blockOf opener around other end_ opn : Nat → Int32), i < n → sc_ok K a_as a_bs a_cs i → sc_ck K a_as a_bs a_cs i c → c ≠ 0 → c < 4 → post (nI n, f_known, nI c, nI i, bl, f_steps, f_dropped, f_on, f_next, f_again, f_depth, a_ops, a_as, a_bs, a_cs, blockOf, opener, around, other, end_, opn, a_varied, a_loose, a_variedVariable, a_stands, a_number, a_isConst, a_needed, a_inputs, a_values, a_variables, a_cells, a_outs, a_was, a_rest, a_line))
    (hopen : ∀ (bl : Int32) (blockOf opener around other end_ opn : Nat → Int32), sc_ok K a_as a_bs a_cs n → sc_fr K n ≠ [] → post (nI n, f_known, 1, nI n, bl, f_steps, f_dropped, f_on, f_next, f_again, f_depth, a_ops, a_as, a_bs, a_cs, blockOf, opener, around, other, end_, opn, a_varied, a_loose, a_variedVariable, a_stands, a_number, a_isConst, a_needed, a_inputs, a_values, a_variables, a_cells, a_outs, a_was, a_rest, a_line))
    (hgood : ∀ (blockOf opener around other end_ opn : Nat → Int32), sc_ok K a_as a_bs a_cs n → sc_fr K n = [] → ys_A K n blockOf opener around other end_ → around 0 = -1 → opener 0 = -1 → wY_look_481 post (nI n) f_known 0 f_place (nI (sc_cnt K n + 1)) f_steps f_dropped f_on f_next f_again f_depth a_ops a_as a_bs a_cs blockOf opener around other end_ opn a_varied a_loose a_variedVariable a_stands a_number a_isConst a_needed a_inputs a_values a_variables a_cells a_outs a_was a_rest a_line) :
    ∀ (d i : Nat) (blockOf opener around other end_ opn : Nat → Int32), i + d = n → sc_ok K a_as a_bs a_cs i → ys_A K i blockOf opener around other end_ → ys_O opn (sc_fr K i) → around 0 = -1 → opener 0 = -1 → wY_look_48 post (d + 2) (nI (sc_fr K i).length) (nI (sc_cnt K (sc_hd (sc_fr K i)))) (nI i) (nI n) f_known 0 f_place (nI (sc_cnt K i + 1)) f_steps f_dropped f_on f_next f_again f_depth a_ops a_as a_bs a_cs blockOf opener around other end_ opn a_varied a_loose a_variedVariable a_stands a_number a_isConst a_needed a_inputs a_values a_variables a_cells a_outs a_was a_rest a_line := by
  intro d
  induction d with
  | zero =>
    intro i blockOf opener around other end_ opn hi hok hA hO ha ho
    cases (show i = n by omega)
    have gn := sc_ok_good hok
    have len := sc_len n gn
    refine br_t (nI_le (Nat.le_refl _) (by omega)) (br_t rfl ?_)
    refine pk_le (sc_fr K n).length 0 (fun h => hgood _ _ _ _ _ _ hok (List.length_eq_zero_iff.mp (by omega)) hA ha ho) (fun h => br_f (by decide) (hopen _ _ _ _ _ _ _ hok ?_))
    intro e; rw [e] at h; simp at h
  | succ d ih =>
    intro i blockOf opener around other end_ opn hi hok hA hO ha ho
    have gi := sc_ok_good hok
    have hin : vp_in (nI i) 48 := vp_in_nI (by omega) (by omega)
    have ci : (nI i).toNatClampNeg = i := nI_clamp (by omega)
    have ki := hK i (by omega)
    refine br_f (nI_ge (by omega) (by omega)) (br_t rfl ⟨hin, nm_c ci ki.1 ?_⟩)
    refine yl_head hn hK (by omega) gi hO hA (fun hf => ?_) (fun hf => yl_217 (by omega) ki.2 (fun bo => yl_loopBad (c := 1) (by omega) (by omega) (hbad i 1 _ _ _ _ _ _ _ (by omega) hok (Or.inl ⟨hf, rfl⟩) (by omega) (by omega))))
    have gi1 : sc_good K (i + 1) := fun j hj => by
      by_cases e : j = i
      · rw [e]; exact hf
      · exact gi j (by omega)
    refine yl_221 hn hK (by omega) gi hf hA (fun c x2 bo hc c0 c4 => yl_loopBad (by omega) (by omega) (hbad i c _ _ _ _ _ _ _ (by omega) hok hc c0 c4)) (fun hc0 => ih (i + 1) _ _ _ _ _ _ (by omega) ?_ (ys_A_step gi1 hA) (ys_O_step gi1 hO) ?_ ?_)
    · intro j hj
      by_cases e : j = i
      · rw [e]; exact hc0
      · exact hok j (by omega)
    · rw [ys_ar]; split
      · rw [pk_un (by omega)]; exact ha
      · exact ha
    · rw [ys_or]; split
      · rw [pk_un (by omega)]; exact ho
      · exact ho
theorem yl_look (hn : n ≤ 48) (hK : ∀ j, j < n → a_ops j = nI (K j) ∧ K j ≤ 25) {post : SY → Prop}
    (hbad : ∀ (i c : Nat) (bl : Int32) (blockOf opener around other end_ opn : Nat → Int32), i < n → sc_ok K a_as a_bs a_cs i → sc_ck K a_as a_bs a_cs i c → c ≠ 0 → c < 4 → post (nI n, 1, nI c, nI i, bl, f_steps, f_dropped, f_on, f_next, f_again, f_depth, a_ops, a_as, a_bs, a_cs, blockOf, opener, around, other, end_, opn, a_varied, a_loose, a_variedVariable, a_stands, a_number, a_isConst, a_needed, a_inputs, a_values, a_variables, a_cells, a_outs, a_was, a_rest, a_line))
    (hopen : ∀ (bl : Int32) (blockOf opener around other end_ opn : Nat → Int32), sc_ok K a_as a_bs a_cs n → sc_fr K n ≠ [] → post (nI n, 1, 1, nI n, bl, f_steps, f_dropped, f_on, f_next, f_again, f_depth, a_ops, a_as, a_bs, a_cs, blockOf, opener, around, other, end_, opn, a_varied, a_loose, a_variedVariable, a_stands, a_number, a_isConst, a_needed, a_inputs, a_values, a_variables, a_cells, a_outs, a_was, a_rest, a_line))
    (hgood : ∀ (blockOf opener around other end_ opn : Nat → Int32), sc_ok K a_as a_bs a_cs n → sc_fr K n = [] → ys_A K n blockOf opener around other end_ → around 0 = -1 → opener 0 = -1 → wY_look_481 post (nI n) 1 0 (-1) (nI (sc_cnt K n + 1)) f_steps f_dropped f_on f_next f_again f_depth a_ops a_as a_bs a_cs blockOf opener around other end_ opn a_varied a_loose a_variedVariable a_stands a_number a_isConst a_needed a_inputs a_values a_variables a_cells a_outs a_was a_rest a_line) :
    wpY_look post (nI n, 0, f_wrong, f_place, f_blocks, f_steps, f_dropped, f_on, f_next, f_again, f_depth, a_ops, a_as, a_bs, a_cs, a_blockOf, a_opener, a_around, a_other, a_end, a_open, a_varied, a_loose, a_variedVariable, a_stands, a_number, a_isConst, a_needed, a_inputs, a_values, a_variables, a_cells, a_outs, a_was, a_rest, a_line) :=
  br_t rfl (nm_e (nm_e ⟨n + 2, yl_look48 hn hK hbad hopen hgood n 0 _ _ _ _ _ _ (by omega) (fun j hj => by omega) (fun j hj => by omega) trivial pk_us pk_us⟩))
end
