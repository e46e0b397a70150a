section
variable {K : Nat → Nat} {n : Nat} {T : Nat → Nat × Bool × Int32}
variable {f_lines f_known f_wrong f_place f_blocks f_steps f_dropped f_on f_next f_again f_depth : Int32} {a_ops a_as a_bs a_cs a_blockOf a_opener a_around a_other a_end a_open a_varied a_loose a_variedVariable a_stands a_number a_isConst a_needed a_inputs a_values a_variables a_cells a_outs a_was a_rest a_line : Nat → Int32}
def ny_S (K : Nat → Nat) (A B C : Nat → Int32) (T : Nat → Nat × Bool × Int32) (n : Nat) (nd : Nat → Int32) : Prop := (∀ j, j < n → 16 ≤ K j ∧ K j ≠ 17 → nd j ≠ 0) ∧ (∀ j, j < n → nd j = 0 ∨ nd j = 1) ∧ ∀ N, nd_C K A B C T n N → ∀ i, i < n → nd i ≠ 0 → N i ∨ (T i).2.1 = true
def ny_sat (K : Nat → Nat) (A B C : Nat → Int32) (T : Nat → Nat × Bool × Int32) (n : Nat) (nd : Nat → Int32) (i : Nat) : Prop :=
  nd i ≠ 0 → (T i).2.1 = false → (∀ s, s < 3 → sc_us (K i) s → nd (T (sh_o A B C s i)).1 ≠ 0) ∧ (K i = 11 → ∀ j, j < n → K j = 17 → A j = A i → nd j ≠ 0)
theorem ny_mark {A B C nd : Nat → Int32} {i : Nat} (hs : ny_S K A B C T n nd) (h : ∀ N, nd_C K A B C T n N → (∀ i, i < n → nd i ≠ 0 → N i ∨ (T i).2.1 = true) → N i ∨ (T i).2.1 = true) : ny_S K A B C T n (upd nd i 1) := by
  refine ⟨fun j hj hk => ?_, fun j hj => ?_, fun N hc j hj hm => ?_⟩
  · by_cases e : j = i
    · rw [e, pk_us]; decide
    · rw [pk_un e]; exact hs.1 j hj hk
  · by_cases e : j = i
    · rw [e, pk_us]; exact Or.inr rfl
    · rw [pk_un e]; exact hs.2.1 j hj
  · by_cases e : j = i
    · rw [e]; exact h N hc (hs.2.2 N hc)
    · rw [pk_un e] at hm; exact hs.2.2 N hc j hj hm
theorem ny_100 (hP : yv_P K n a_ops a_as a_bs a_cs a_blockOf a_opener a_around) {post : Int32 → SY → Prop} {i M : Nat} {nd0 : Nat → Int32} (hi : i < n) (hcf : (T i).2.1 = false)
    (hend0 : (K i = 11 → ∀ j, j < n → K j = 17 → a_as j = a_as i → nd0 j ≠ 0) → (∀ s, s < 3 → sc_us (K i) s → nd0 (T (sh_o a_as a_bs a_cs s i)).1 ≠ 0) → post 0 (nI n, f_known, f_wrong, f_place, f_blocks, f_steps, f_dropped, f_on, f_next, f_again, f_depth, a_ops, a_as, a_bs, a_cs, a_blockOf, a_opener, a_around, a_other, a_end, a_open, a_varied, a_loose, a_variedVariable, a_stands, a_number, a_isConst, nd0, a_inputs, a_values, a_variables, a_cells, a_outs, a_was, a_rest, a_line))
    (hend1 : ∀ nd, ny_S K a_as a_bs a_cs T n nd → cz nd 48 < M → post 1 (nI n, f_known, f_wrong, f_place, f_blocks, f_steps, f_dropped, f_on, f_next, f_again, f_depth, a_ops, a_as, a_bs, a_cs, a_blockOf, a_opener, a_around, a_other, a_end, a_open, a_varied, a_loose, a_variedVariable, a_stands, a_number, a_isConst, nd, a_inputs, a_values, a_variables, a_cells, a_outs, a_was, a_rest, a_line)) :
    ∀ (d q : Nat) (x2 : Int32) (nd : Nat → Int32), q + d = n → ((x2 = 0 ∧ nd = nd0 ∧ cz nd 48 ≤ M ∧ (∀ s, s < 3 → sc_us (K i) s → nd0 (T (sh_o a_as a_bs a_cs s i)).1 ≠ 0) ∧ (K i = 11 → ∀ j, j < q → K j = 17 → a_as j = a_as i → nd0 j ≠ 0)) ∨ (x2 = 1 ∧ cz nd 48 < M)) → ny_S K a_as a_bs a_cs T n nd → nd i ≠ 0 →
      wY_need_100 post (nI i) (nI n) f_known f_wrong f_place f_blocks f_steps f_dropped f_on f_next f_again f_depth (d + 1) x2 (nI q) a_ops a_as a_bs a_cs a_blockOf a_opener a_around a_other a_end a_open a_varied a_loose a_variedVariable a_stands a_number a_isConst nd a_inputs a_values a_variables a_cells a_outs a_was a_rest a_line := by
  obtain ⟨hn, hK, hgd, h4, hok, hB, hA⟩ := hP
  have ci : (nI i).toNatClampNeg = i := nI_clamp (by omega)
  have ii : vp_in (nI i) 48 := vp_in_nI (by omega) (by omega)
  have ki := hK i hi
  have fin : ∀ (x2 : Int32) (nd : Nat → Int32), ((x2 = 0 ∧ nd = nd0 ∧ cz nd 48 ≤ M ∧ (∀ s, s < 3 → sc_us (K i) s → nd0 (T (sh_o a_as a_bs a_cs s i)).1 ≠ 0) ∧ (K i = 11 → ∀ j, j < n → K j = 17 → a_as j = a_as i → nd0 j ≠ 0)) ∨ (x2 = 1 ∧ cz nd 48 < M)) → ny_S K a_as a_bs a_cs T n nd → narrow .boolean (.int x2) = .int x2 ∧ post x2 (nI n, f_known, f_wrong, f_place, f_blocks, f_steps, f_dropped, f_on, f_next, f_again, f_depth, a_ops, a_as, a_bs, a_cs, a_blockOf, a_opener, a_around, a_other, a_end, a_open, a_varied, a_loose, a_variedVariable, a_stands, a_number, a_isConst, nd, a_inputs, a_values, a_variables, a_cells, a_outs, a_was, a_rest, a_line) := by
    intro x2 nd hst hs
    rcases hst with ⟨rfl, rfl, _, h1, h2⟩ | ⟨rfl, hmu⟩
    · exact ⟨xs_nb0, hend0 h2 h1⟩
    · exact ⟨xs_nb1, hend1 nd hs hmu⟩
  intro d
  induction d with
  | zero =>
    intro q x2 nd hq hst hs hne
    cases (show q = n by omega)
    exact br_t (nI_le (Nat.le_refl _) (by omega)) (fin x2 nd hst hs)
  | succ d ih =>
    intro q x2 nd hq hst hs hne
    have cq : (nI q).toNatClampNeg = q := nI_clamp (by omega)
    have iq : vp_in (nI q) 48 := vp_in_nI (by omega) (by omega)
    have kq := hK q (by omega)
    refine br_f (nI_ge (by omega) (by omega)) ⟨ii, ?_⟩
    rw [ci, cq, ki.1, kq.1]
    have next : (K i = 11 → K q = 17 → a_as q = a_as i → nd q ≠ 0) → wY_need_100 post (nI i) (nI n) f_known f_wrong f_place f_blocks f_steps f_dropped f_on f_next f_again f_depth (d + 1) x2 (nI (q + 1)) a_ops a_as a_bs a_cs a_blockOf a_opener a_around a_other a_end a_open a_varied a_loose a_variedVariable a_stands a_number a_isConst nd a_inputs a_values a_variables a_cells a_outs a_was a_rest a_line := by
      intro hx
      refine ih (q + 1) x2 nd (by omega) ?_ hs hne
      rcases hst with ⟨e0, e1, hm, h1, h2⟩ | h
      · refine Or.inl ⟨e0, e1, hm, h1, fun k11 j hj k17 ea => ?_⟩
        by_cases e : j = q
        · rw [e] at k17 ea ⊢; rw [← e1]; exact hx k11 k17 ea
        · exact h2 k11 j (by omega) k17 ea
      · exact Or.inr h
    refine pk_eq (K i) 11 (fun k11 => ⟨iq, pk_eq (K q) 17 (fun k17 => ⟨iq, ii, br_c (fun ea => ⟨iq, br_c (fun hz => ⟨iq, nm_r (e' := upd nd q 1) (by rw [xv_nar1]) (nm_r (nI_1 q) (ih (q + 1) 1 _ (by omega) (Or.inr ⟨rfl, ?_⟩) (ny_mark hs (fun N hc hN => Or.inl ?_)) ?_))⟩) (fun hz => nm_r (nI_1 q) (next (fun _ _ _ => hz)))⟩) (fun ea => nm_r (nI_1 q) (next (fun _ _ h => absurd h ea)))⟩) (fun k17 => nm_r (nI_1 q) (next (fun _ h => absurd h k17)))⟩) (fun k11 => fin x2 nd ?_ hs)
    · have := cz_lt (x := 1) hz (by decide) 48 (by omega)
      rcases hst with ⟨_, _, h, _⟩ | ⟨_, h⟩ <;> omega
    · refine (hc q (by omega)).2.1 k17 ⟨i, hi, k11, ea.symm, ?_⟩
      rcases hN i hi hne with h | h
      · exact h
      · rw [hcf] at h; cases h
    · by_cases e : i = q
      · rw [e, pk_us]; decide
      · rw [pk_un e]; exact hne
    · rcases hst with ⟨e0, e1, hm, h1, h2⟩ | h
      · exact Or.inl ⟨e0, e1, hm, h1, fun h => absurd h k11⟩
      · exact Or.inr h
theorem ny_36 (hP : yv_P K n a_ops a_as a_bs a_cs a_blockOf a_opener a_around) (hR : sh_R T n a_stands a_isConst a_number) (hg : ∀ j, j < n → sh_good T j) {post : Int32 → SY → Prop} {i M : Nat} {nd0 : Nat → Int32} (hi : i < n) (hcf : (T i).2.1 = false)
    (hend0 : (K i = 11 → ∀ j, j < n → K j = 17 → a_as j = a_as i → nd0 j ≠ 0) → (∀ s, s < 3 → sc_us (K i) s → nd0 (T (sh_o a_as a_bs a_cs s i)).1 ≠ 0) → post 0 (nI n, f_known, f_wrong, f_place, f_blocks, f_steps, f_dropped, f_on, f_next, f_again, f_depth, a_ops, a_as, a_bs, a_cs, a_blockOf, a_opener, a_around, a_other, a_end, a_open, a_varied, a_loose, a_variedVariable, a_stands, a_number, a_isConst, nd0, a_inputs, a_values, a_variables, a_cells, a_outs, a_was, a_rest, a_line))
    (hend1 : ∀ nd, ny_S K a_as a_bs a_cs T n nd → cz nd 48 < M → post 1 (nI n, f_known, f_wrong, f_place, f_blocks, f_steps, f_dropped, f_on, f_next, f_again, f_depth, a_ops, a_as, a_bs, a_cs, a_blockOf, a_opener, a_around, a_other, a_end, a_open, a_varied, a_loose, a_variedVariable, a_stands, a_number, a_isConst, nd, a_inputs, a_values, a_variables, a_cells, a_outs, a_was, a_rest, a_line)) :
    ∀ (d t : Nat) (x2 : Int32) (nd : Nat → Int32), t + d = 3 → ((x2 = 0 ∧ nd = nd0 ∧ cz nd 48 ≤ M ∧ (∀ s, s < t → sc_us (K i) s → nd0 (T (sh_o a_as a_bs a_cs s i)).1 ≠ 0)) ∨ (x2 = 1 ∧ cz nd 48 < M)) → ny_S K a_as a_bs a_cs T n nd → nd i ≠ 0 →
      wY_need_36 post (nI i) (nI n) f_known f_wrong f_place f_blocks f_steps f_dropped f_on f_next f_again f_depth (d + 1) x2 (nI t) a_ops a_as a_bs a_cs a_blockOf a_opener a_around a_other a_end a_open a_varied a_loose a_variedVariable a_stands a_number a_isConst nd a_inputs a_values a_variables a_cells a_outs a_was a_rest a_line := by
  have hP' := hP
  obtain ⟨hn, hK, hgd, h4, hok, hB, hA⟩ := hP'
  intro d
  induction d with
  | zero =>
    intro t x2 nd ht hst hs hne
    cases (show t = 3 by omega)
    refine br_t (by decide) ⟨n + 1, ny_100 (K := K) (n := n) (T := T) hP hi hcf hend0 hend1 n 0 x2 nd (by omega) ?_ hs hne⟩
    rcases hst with ⟨e0, e1, hm, h1⟩ | h
    · exact Or.inl ⟨e0, e1, hm, h1, fun _ j hj => by omega⟩
    · exact Or.inr h
  | succ d ih =>
    intro t x2 nd ht hst hs hne
    refine br_f (nI_ge (b := 3) (by omega) (by decide)) ?_
    have next : (sc_us (K i) t → nd (T (sh_o a_as a_bs a_cs t i)).1 ≠ 0) → wY_need_36 post (nI i) (nI n) f_known f_wrong f_place f_blocks f_steps f_dropped f_on f_next f_again f_depth (d + 1) x2 (nI (t + 1)) a_ops a_as a_bs a_cs a_blockOf a_opener a_around a_other a_end a_open a_varied a_loose a_variedVariable a_stands a_number a_isConst nd a_inputs a_values a_variables a_cells a_outs a_was a_rest a_line := by
      intro hx
      refine ih (t + 1) x2 nd (by omega) ?_ hs hne
      rcases hst with ⟨e0, e1, hm, h1⟩ | h
      · refine Or.inl ⟨e0, e1, hm, fun s hs' hu => ?_⟩
        by_cases e : s = t
        · rw [e] at hu ⊢; rw [← e1]; exact hx hu
        · exact h1 s (by omega) hu
      · exact Or.inr h
    refine ys_uses hn hK hi (by omega) (fun hu => br_f (by decide) ?_) (fun hu => br_t rfl (nm_r (nI_1 t) (next (fun h => absurd h hu))))
    obtain ⟨o, eo, _⟩ := sh_ov_lt (by omega) (hok i hi t (by omega) hu)
    have g := hg _ (show sh_o a_as a_bs a_cs t i < n by omega)
    have glt : (T (sh_o a_as a_bs a_cs t i)).1 < n := by have := g.1; omega
    refine ys_operand hn hi (by omega) ?_
    rw [eo]
    refine ⟨vp_in_nI (by omega) (by omega), nm_c (nI_clamp (by omega)) (hR _ (by omega)).1 ?_⟩
    generalize ex : (T (sh_o a_as a_bs a_cs t i)).1 = x at *
    have cx : (nI x).toNatClampNeg = x := nI_clamp (by omega)
    have ix : vp_in (nI x) 48 := vp_in_nI (by omega) (by omega)
    refine ⟨ix, ?_⟩
    rw [cx]
    refine br_c (fun hz => nm_r (e' := 1) ?_ ⟨ix, nm_r (e' := upd nd x 1) (by rw [cx, xv_nar1]) (nm_r (nI_1 t) (ih (t + 1) 1 _ (by omega) (Or.inr ⟨rfl, ?_⟩) (ny_mark hs (fun N hc hN => ?_)) ?_))⟩) (fun hz => nm_r (e' := x2) ?_ ⟨ix, nm_r (e' := nd) ?_ (nm_r (nI_1 t) (next (fun _ => hz)))⟩)
    · rcases hst with ⟨rfl, _⟩ | ⟨rfl, _⟩
      · exact or_01
      · exact or_11
    · have := cz_lt (x := 1) hz (by decide) 48 (by omega)
      rcases hst with ⟨_, _, h, _⟩ | ⟨_, h⟩ <;> omega
    · cases hc2 : (T x).2.1 with
      | true => exact Or.inr rfl
      | false =>
        refine Or.inl ?_
        have hNi : N i := by
          rcases hN i hi hne with h | h
          · exact h
          · rw [hcf] at h; cases h
        have := (hc i hi).2.2 hNi t (by omega) hu
        rw [ex] at this
        exact this hc2
    · by_cases e : i = x
      · rw [e, pk_us]; decide
      · rw [pk_un e]; exact hne
    · rcases hst with ⟨rfl, _⟩ | ⟨rfl, _⟩
      · exact or_00
      · exact or_10
    · rw [cx, xv_nar1]
      exact up_same ((hs.2.1 x (by omega)).resolve_left hz)
theorem ny_need (hP : yv_P K n a_ops a_as a_bs a_cs a_blockOf a_opener a_around) (hR : sh_R T n a_stands a_isConst a_number) (hg : ∀ j, j < n → sh_good T j) (hl : ∀ j, j < n → sh_line K a_as a_bs a_cs T j (T j)) {post : Int32 → SY → Prop} {i : Nat} (hi : i < n) (hs : ny_S K a_as a_bs a_cs T n a_needed)
    (h0 : ny_sat K a_as a_bs a_cs T n a_needed i → post 0 (nI n, f_known, f_wrong, f_place, f_blocks, f_steps, f_dropped, f_on, f_next, f_again, f_depth, a_ops, a_as, a_bs, a_cs, a_blockOf, a_opener, a_around, a_other, a_end, a_open, a_varied, a_loose, a_variedVariable, a_stands, a_number, a_isConst, a_needed, a_inputs, a_values, a_variables, a_cells, a_outs, a_was, a_rest, a_line))
    (h1 : ∀ nd, ny_S K a_as a_bs a_cs T n nd → cz nd 48 < cz a_needed 48 → post 1 (nI n, f_known, f_wrong, f_place, f_blocks, f_steps, f_dropped, f_on, f_next, f_again, f_depth, a_ops, a_as, a_bs, a_cs, a_blockOf, a_opener, a_around, a_other, a_end, a_open, a_varied, a_loose, a_variedVariable, a_stands, a_number, a_isConst, nd, a_inputs, a_values, a_variables, a_cells, a_outs, a_was, a_rest, a_line)) : wpY_need post (nI n, f_known, f_wrong, f_place, f_blocks, f_steps, f_dropped, f_on, f_next, f_again, f_depth, a_ops, a_as, a_bs, a_cs, a_blockOf, a_opener, a_around, a_other, a_end, a_open, a_varied, a_loose, a_variedVariable, a_stands, a_number, a_isConst, a_needed, a_inputs, a_values, a_variables, a_cells, a_outs, a_was, a_rest, a_line) (nI i) := by
  have hP' := hP
  obtain ⟨hn, hK, hgd, h4, hok, hB, hA⟩ := hP'
  have ci : (nI i).toNatClampNeg = i := nI_clamp (by omega)
  have ii : vp_in (nI i) 48 := vp_in_nI (by omega) (by omega)
  have ki := hK i hi
  refine ⟨ii, ?_⟩
  rw [ci, (hR i hi).2.1]
  refine br_c (fun hz => h0 (fun h => absurd hz h)) (fun hz => ⟨ii, br_c (fun hf => ⟨4, ?_⟩) (fun hf => ⟨ii, ?_⟩)⟩)
  · exact ny_36 (K := K) (n := n) (T := T) (M := cz a_needed 48) (nd0 := a_needed) hP hR hg hi (sh_bI_0 hf) (fun a b => h0 (fun _ _ => ⟨b, a⟩)) h1 3 0 0 a_needed rfl (Or.inl ⟨rfl, rfl, Nat.le_refl _, fun s hs => by omega⟩) hs hz
  · have hcn := sh_bI_n hf
    have k10 := sh_const (hl i hi) hcn
    rw [ki.1]
    exact ys_gives ki.2 (fun h16 => br_f (by decide) (h0 (fun _ h => by rw [hcn] at h; cases h))) (fun h16 => absurd (show K i ≤ 16 by omega) h16)
theorem ny_209 (hP : yv_P K n a_ops a_as a_bs a_cs a_blockOf a_opener a_around) (hR : sh_R T n a_stands a_isConst a_number) (hg : ∀ j, j < n → sh_good T j) (hl : ∀ j, j < n → sh_line K a_as a_bs a_cs T j (T j)) {post : SY → Prop} {J : Int32 → Int32 → Int32 → Int32 → Int32 → Int32 → Int32 → Int32 → Int32 → Int32 → Int32 → Int32 → (Nat → Int32) → (Nat → Int32) → (Nat → Int32) → (Nat → Int32) → (Nat → Int32) → (Nat → Int32) → (Nat → Int32) → (Nat → Int32) → (Nat → Int32) → (Nat → Int32) → (Nat → Int32) → (Nat → Int32) → (Nat → Int32) → (Nat → Int32) → (Nat → Int32) → (Nat → Int32) → (Nat → Int32) → (Nat → Int32) → (Nat → Int32) → (Nat → Int32) → (Nat → Int32) → (Nat → Int32) → (Nat → Int32) → (Nat → Int32) → (Nat → Int32) → Prop}
    (hend0 : (∀ j, j < n → ny_sat K a_as a_bs a_cs T n a_needed j) → J 0 (nI n) f_known f_wrong f_place f_blocks f_steps f_dropped f_on f_next f_again f_depth a_ops a_as a_bs a_cs a_blockOf a_opener a_around a_other a_end a_open a_varied a_loose a_variedVariable a_stands a_number a_isConst a_needed a_inputs a_values a_variables a_cells a_outs a_was a_rest a_line)
    (hend1 : ∀ nd, ny_S K a_as a_bs a_cs T n nd → cz nd 48 < cz a_needed 48 → J 1 (nI n) f_known f_wrong f_place f_blocks f_steps f_dropped f_on f_next f_again f_depth a_ops a_as a_bs a_cs a_blockOf a_opener a_around a_other a_end a_open a_varied a_loose a_variedVariable a_stands a_number a_isConst nd a_inputs a_values a_variables a_cells a_outs a_was a_rest a_line) :
    ∀ (d i : Nat) (x1 : Int32) (nd : Nat → Int32), i + d = n → ((x1 = 0 ∧ nd = a_needed ∧ ∀ j, j < i → ny_sat K a_as a_bs a_cs T n nd j) ∨ (x1 = 1 ∧ cz nd 48 < cz a_needed 48)) → ny_S K a_as a_bs a_cs T n nd →
      wY_shorten_209 post J (d + 1) x1 (nI i) (nI n) f_known f_wrong f_place f_blocks f_steps f_dropped f_on f_next f_again f_depth a_ops a_as a_bs a_cs a_blockOf a_opener a_around a_other a_end a_open a_varied a_loose a_variedVariable a_stands a_number a_isConst nd a_inputs a_values a_variables a_cells a_outs a_was a_rest a_line := by
  have hn := hP.1
  intro d
  induction d with
  | zero =>
    intro i x1 nd hi hst hs
    cases (show i = n by omega)
    refine br_t (nI_le (Nat.le_refl _) (by omega)) ?_
    rcases hst with ⟨rfl, rfl, hall⟩ | ⟨rfl, hmu⟩
    · exact hend0 hall
    · exact hend1 nd hs hmu
  | succ d ih =>
    intro i x1 nd hi hst hs
    refine br_f (nI_ge (by omega) (by omega)) ?_
    refine ny_need (K := K) (n := n) (T := T) hP hR hg hl (by omega) hs (fun hsat => ?_) (fun nd' hs' hmu' => ?_)
    · refine nm_r (e' := x1) ?_ (nm_r (nI_1 i) (ih (i + 1) x1 nd (by omega) ?_ hs))
      · rcases hst with ⟨rfl, _⟩ | ⟨rfl, _⟩
        · exact or_00
        · exact or_10
      · rcases hst with ⟨e0, e1, hall⟩ | h
        · refine Or.inl ⟨e0, e1, fun j hj => ?_⟩
          by_cases e : j = i
          · rw [e]; exact hsat
          · exact hall j (by omega)
        · exact Or.inr h
    · refine nm_r (e' := 1) ?_ (nm_r (nI_1 i) (ih (i + 1) 1 nd' (by omega) (Or.inr ⟨rfl, ?_⟩) hs'))
      · rcases hst with ⟨rfl, _⟩ | ⟨rfl, _⟩
        · exact or_01
        · exact or_11
      · rcases hst with ⟨_, rfl, _⟩ | ⟨_, h⟩
        · exact hmu'
        · omega
theorem ny_201 (hP : yv_P K n a_ops a_as a_bs a_cs a_blockOf a_opener a_around) (hR : sh_R T n a_stands a_isConst a_number) (hg : ∀ j, j < n → sh_good T j) (hl : ∀ j, j < n → sh_line K a_as a_bs a_cs T j (T j)) {post : SY → Prop}
    (hpost : ∀ nd, ny_S K a_as a_bs a_cs T n nd → (∀ j, j < n → ny_sat K a_as a_bs a_cs T n nd j) → post (nI n, f_known, f_wrong, f_place, f_blocks, f_steps, f_dropped, f_on, f_next, f_again, f_depth, a_ops, a_as, a_bs, a_cs, a_blockOf, a_opener, a_around, a_other, a_end, a_open, a_varied, a_loose, a_variedVariable, a_stands, a_number, a_isConst, nd, a_inputs, a_values, a_variables, a_cells, a_outs, a_was, a_rest, a_line)) :
    ∀ (M : Nat) (nd : Nat → Int32), cz nd 48 ≤ M → ny_S K a_as a_bs a_cs T n nd → wY_shorten_201 post (M + 2) 1 (nI n) f_known f_wrong f_place f_blocks f_steps f_dropped f_on f_next f_again f_depth a_ops a_as a_bs a_cs a_blockOf a_opener a_around a_other a_end a_open a_varied a_loose a_variedVariable a_stands a_number a_isConst nd a_inputs a_values a_variables a_cells a_outs a_was a_rest a_line := by
  intro M
  have hn := hP.1
  induction M with
  | zero =>
    intro nd hmu hs
    refine br_f (by decide) ⟨n + 1, ?_⟩
    exact ny_209 (K := K) (n := n) (T := T) (post := post) (J := wY_shorten_201 post 1) hP hR hg hl (fun hall => br_t rfl (hpost nd hs hall)) (fun nd' _ h => absurd h (by omega)) n 0 0 nd (by omega) (Or.inl ⟨rfl, rfl, fun j hj => by omega⟩) hs
  | succ M ih =>
    intro nd hmu hs
    refine br_f (by decide) ⟨n + 1, ?_⟩
    exact ny_209 (K := K) (n := n) (T := T) (post := post) (J := wY_shorten_201 post (M + 2)) hP hR hg hl (fun hall => br_t rfl (hpost nd hs hall)) (fun nd' hs' h => ih nd' (by omega) hs') n 0 0 nd (by omega) (Or.inl ⟨rfl, rfl, fun j hj => by omega⟩) hs
theorem sy_shorten (hP : yv_P K n a_ops a_as a_bs a_cs a_blockOf a_opener a_around) {post : SY → Prop}
    (h : ∀ T stands isc num nd, sh_R T n stands isc num → (∀ j, j < n → sh_good T j) → (∀ j, j < n → sh_line K a_as a_bs a_cs T j (T j)) → nd_least K a_as a_bs a_cs T n (fun j => nd j ≠ 0 ∧ (T j).2.1 = false) → post (nI n, f_known, f_wrong, f_place, f_blocks, f_steps, f_dropped, f_on, f_next, f_again, f_depth, a_ops, a_as, a_bs, a_cs, a_blockOf, a_opener, a_around, a_other, a_end, a_open, a_varied, a_loose, a_variedVariable, stands, num, isc, nd, a_inputs, a_values, a_variables, a_cells, a_outs, a_was, a_rest, a_line)) : wpY_shorten post (nI n, f_known, f_wrong, f_place, f_blocks, f_steps, f_dropped, f_on, f_next, f_again, f_depth, a_ops, a_as, a_bs, a_cs, a_blockOf, a_opener, a_around, a_other, a_end, a_open, a_varied, a_loose, a_variedVariable, a_stands, a_number, a_isConst, a_needed, a_inputs, a_values, a_variables, a_cells, a_outs, a_was, a_rest, a_line) := by
  have hP' := hP
  obtain ⟨hn, hK, hgd, h4, hok, hB, hA⟩ := hP'
  refine ⟨n + 1, sy_loop (K := K) (n := n) hP (fun T stands isc num nd hR hg hl hnd => ⟨48 + 2, ?_⟩) n 0 (fun _ => (0, false, 0)) _ _ _ _ (by omega) (fun j hj => by omega) (fun j hj => by omega) (fun j hj => by omega) (fun j hj => by omega)⟩
  have hcl : ∀ j, j < n → 16 ≤ K j → (T j).2.1 = false := fun j hj h16 => by
    cases e : (T j).2.1 with
    | false => rfl
    | true => have := sh_const (hl j hj) e; omega
  refine ny_201 (K := K) (n := n) (T := T) hP hR hg hl (fun nd' hs hall => h T stands isc num nd' hR hg hl ⟨fun i hi => ⟨fun hk => ⟨hs.1 i hi hk, hcl i hi hk.1⟩, fun k17 ⟨j, hj, kj, ej, nj⟩ => ⟨?_, hcl i hi (by omega)⟩, fun ni s hs' hu hc => ⟨((hall i hi) ni.1 ni.2).1 s hs' hu, hc⟩⟩, fun N hc i hi hm => ?_⟩) 48 nd (cz_le nd 48) ⟨fun j hj hk => ?_, fun j hj => ?_, fun N hc i hi hm => Or.inl ?_⟩
  · exact ((hall j hj) nj.1 nj.2).2 kj i hi k17 ej.symm
  · rcases hs.2.2 N hc i hi hm.1 with h' | h'
    · exact h'
    · rw [hm.2] at h'; cases h'
  · rw [hnd j hj, if_pos (by omega)]; decide
  · rw [hnd j hj]; split
    · exact Or.inr rfl
    · exact Or.inl rfl
  · refine (hc i hi).1 ?_
    have e := hnd i hi
    rw [e] at hm
    split at hm
    · omega
    · exact absurd rfl hm
end
