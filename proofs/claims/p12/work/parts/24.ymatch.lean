section
variable {K : Nat → Nat} {n : Nat} {T : Nat → Nat × Bool × Int32}
variable {f_lines f_known f_wrong f_place f_blocks f_steps f_dropped f_on f_next f_again f_depth : Int32} {a_ops a_as a_bs a_cs a_blockOf a_opener a_around a_other a_end a_open a_varied a_loose a_variedVariable a_stands a_number a_isConst a_needed a_inputs a_values a_variables a_cells a_outs a_was a_rest a_line : Nat → Int32}
theorem an_11 : (1 : Int32) &&& 1 = 1 := by decide
theorem an_10 : (1 : Int32) &&& 0 = 0 := by decide
theorem an_01 : (0 : Int32) &&& 1 = 0 := by decide
theorem an_00 : (0 : Int32) &&& 0 = 0 := by decide
theorem sy_al39 (hP : yv_P K n a_ops a_as a_bs a_cs a_blockOf a_opener a_around) {post : Int32 → Prop} {i j : Nat} (hi : i < n) (hj : j < i) (hk : K i = K j) (hS : ∀ j, j < i → a_stands j = nI (T j).1) (hg : ∀ j, j < i → (T j).1 ≤ j)
    (h1 : sh_al K a_as a_bs a_cs T i j → post 1) (h0 : ¬ sh_al K a_as a_bs a_cs T i j → post 0) :
    ∀ (d t : Nat) (x4 : Int32), t + d = 3 → ((x4 = 1 ∧ ∀ s, s < t → sc_us (K i) s → (T (sh_o a_as a_bs a_cs s i)).1 = (T (sh_o a_as a_bs a_cs s j)).1) ∨ (x4 = 0 ∧ ∃ s, s < t ∧ sc_us (K i) s ∧ (T (sh_o a_as a_bs a_cs s i)).1 ≠ (T (sh_o a_as a_bs a_cs s j)).1)) → wY_alike_39 post (nI i) (nI j) (nI (K i)) f_lines f_known f_wrong f_place f_blocks f_steps f_dropped f_on f_next f_again f_depth a_ops a_as a_bs a_cs a_blockOf a_opener a_around a_other a_end a_open a_varied a_loose a_variedVariable a_stands a_number a_isConst a_needed a_inputs a_values a_variables a_cells a_outs a_was a_rest a_line (d + 1) x4 (nI t) := by
  have hP' := hP
  obtain ⟨hn, hK, hgd, h4, hok, hB, hA⟩ := hP'
  have ki := (hK i hi).2
  have ci : (nI i).toNatClampNeg = i := nI_clamp (by omega)
  have cj : (nI j).toNatClampNeg = j := nI_clamp (by omega)
  have ii : vp_in (nI i) 48 := vp_in_nI (by omega) (by omega)
  have ij : vp_in (nI j) 48 := vp_in_nI (by omega) (by omega)
  have sv : ∀ s, s < 3 → sc_us (K i) s → sh_o a_as a_bs a_cs s i < i ∧ sc_o3 a_as a_bs a_cs s i = nI (sh_o a_as a_bs a_cs s i) ∧ sh_o a_as a_bs a_cs s j < i ∧ sc_o3 a_as a_bs a_cs s j = nI (sh_o a_as a_bs a_cs s j) := fun s hs hu => by
    obtain ⟨a, b, _⟩ := sh_ov_lt (by omega) (hok i hi s hs hu)
    obtain ⟨c, d, _⟩ := sh_ov_lt (by omega) (hok j (by omega) s hs (by rw [← hk]; exact hu))
    exact ⟨a, b, by omega, d⟩
  intro d
  induction d with
  | zero =>
    intro t x4 ht hst
    cases (show t = 3 by omega)
    have t125 : ∀ z : Int32, (z = 1 ∧ (K i = 3 ∨ K i = 5 ∨ K i = 7 ∨ K i = 8) ∨ z = 0 ∧ ¬ (K i = 3 ∨ K i = 5 ∨ K i = 7 ∨ K i = 8)) → wY_alike_125 post (nI i) (nI j) x4 z f_lines f_known f_wrong f_place f_blocks f_steps f_dropped f_on f_next f_again f_depth a_ops a_as a_bs a_cs a_blockOf a_opener a_around a_other a_end a_open a_varied a_loose a_variedVariable a_stands a_number a_isConst a_needed a_inputs a_values a_variables a_cells a_outs a_was a_rest a_line := by
      intro z hz
      rcases hst with ⟨rfl, hall⟩ | ⟨rfl, s, hs, hu, hne⟩
      · exact br_f (by decide) (h1 (Or.inl hall))
      · refine br_t rfl ?_
        have nall : ¬ ∀ s, s < 3 → sc_us (K i) s → (T (sh_o a_as a_bs a_cs s i)).1 = (T (sh_o a_as a_bs a_cs s j)).1 := fun h => hne (h s hs hu)
        rcases hz with ⟨rfl, hk3⟩ | ⟨rfl, hk3⟩
        · obtain ⟨a0, b0, c0, d0⟩ := sv 0 (by omega) (by unfold sc_us; omega)
          obtain ⟨a1, b1, c1, d1⟩ := sv 1 (by omega) (by unfold sc_us; omega)
          have b0' : a_as i = nI (sh_o a_as a_bs a_cs 0 i) := b0
          have b1' : a_bs i = nI (sh_o a_as a_bs a_cs 1 i) := b1
          have d0' : a_as j = nI (sh_o a_as a_bs a_cs 0 j) := d0
          have d1' : a_bs j = nI (sh_o a_as a_bs a_cs 1 j) := d1
          have ga0 := hg _ a0
          have ga1 := hg _ a1
          have gc0 := hg _ c0
          have gc1 := hg _ c1
          refine br_f (by decide) ⟨ii, ?_⟩
          rw [ci, cj, b0', b1', d0', d1']
          generalize ep0 : sh_o a_as a_bs a_cs 0 i = p0 at *
          generalize ep1 : sh_o a_as a_bs a_cs 1 i = p1 at *
          generalize eq0 : sh_o a_as a_bs a_cs 0 j = q0 at *
          generalize eq1 : sh_o a_as a_bs a_cs 1 j = q1 at *
          rw [nI_clamp (show p0 < 2 ^ 31 by omega), nI_clamp (show p1 < 2 ^ 31 by omega), nI_clamp (show q0 < 2 ^ 31 by omega), nI_clamp (show q1 < 2 ^ 31 by omega), hS p0 a0, hS p1 a1, hS q0 c0, hS q1 c1]
          refine ⟨vp_in_nI (by omega) (by omega), ij, vp_in_nI (by omega) (by omega), pk_eq (T p0).1 (T q1).1 (fun e1 => ⟨ii, vp_in_nI (by omega) (by omega), ij, vp_in_nI (by omega) (by omega), pk_eq (T p1).1 (T q0).1 (fun e2 => h1 (Or.inr ⟨hk3, by rw [ep0, eq1]; exact e1, by rw [ep1, eq0]; exact e2⟩)) (fun e2 => h0 ?_)⟩) (fun e1 => h0 ?_)⟩
          · rintro (h | ⟨_, _, h⟩)
            · exact nall h
            · rw [ep1, eq0] at h; exact e2 h
          · rintro (h | ⟨_, h, _⟩)
            · exact nall h
            · rw [ep0, eq1] at h; exact e1 h
        · refine br_t rfl (h0 ?_)
          rintro (h | ⟨h, _⟩)
          · exact nall h
          · exact hk3 h
    exact br_t (by decide) (pk_eq (K i) 3 (fun h => t125 1 (Or.inl ⟨rfl, by omega⟩)) (fun n3 => pk_eq (K i) 5 (fun h => t125 1 (Or.inl ⟨rfl, by omega⟩)) (fun n5 => pk_eq (K i) 7 (fun h => t125 1 (Or.inl ⟨rfl, by omega⟩)) (fun n7 => pk_eq (K i) 8 (fun h => t125 1 (Or.inl ⟨rfl, by omega⟩)) (fun n8 => t125 0 (Or.inr ⟨rfl, by omega⟩))))))
  | succ d ih =>
    intro t x4 ht hst
    refine br_f (nI_ge (b := 3) (by omega) (by decide)) ?_
    have keep : (sc_us (K i) t → (T (sh_o a_as a_bs a_cs t i)).1 = (T (sh_o a_as a_bs a_cs t j)).1) → wY_alike_39 post (nI i) (nI j) (nI (K i)) f_lines f_known f_wrong f_place f_blocks f_steps f_dropped f_on f_next f_again f_depth a_ops a_as a_bs a_cs a_blockOf a_opener a_around a_other a_end a_open a_varied a_loose a_variedVariable a_stands a_number a_isConst a_needed a_inputs a_values a_variables a_cells a_outs a_was a_rest a_line (d + 1) (x4 &&& 1) (nI (t + 1)) := by
      intro he
      rcases hst with ⟨rfl, hall⟩ | ⟨rfl, s, hs, hu, hne⟩
      · rw [an_11]
        refine ih (t + 1) 1 (by omega) (Or.inl ⟨rfl, fun s hs hus => ?_⟩)
        by_cases e : s = t
        · rw [e] at hus ⊢; exact he hus
        · exact hall s (by omega) hus
      · rw [an_01]; exact ih (t + 1) 0 (by omega) (Or.inr ⟨rfl, s, by omega, hu, hne⟩)
    refine ys_uses hn hK hi (by omega) (fun hu => br_f (by decide) ?_) (fun hu => br_t rfl (nm_e (nm_r (nI_1 t) (keep (fun h => absurd h hu)))))
    obtain ⟨a, b, c, d'⟩ := sv t (by omega) hu
    have ga := hg _ a
    have gc := hg _ c
    refine ys_operand hn hi (by omega) ?_
    rw [b]
    refine ⟨vp_in_nI (by omega) (by omega), ?_⟩
    refine ys_operand hn (show j < n by omega) (by omega) ?_
    rw [d']
    refine ⟨vp_in_nI (by omega) (by omega), ?_⟩
    rw [nI_clamp (by omega), nI_clamp (by omega), hS _ a, hS _ c]
    refine pk_eq _ _ (fun e => nm_e (nm_r (nI_1 t) (keep (fun _ => e)))) (fun e => nm_r (e' := 0) ?_ (nm_r (nI_1 t) (ih (t + 1) 0 (by omega) (Or.inr ⟨rfl, t, by omega, hu, e⟩))))
    rcases hst with ⟨rfl, _⟩ | ⟨rfl, _⟩
    · exact an_10
    · exact an_00
theorem sy_alike (hP : yv_P K n a_ops a_as a_bs a_cs a_blockOf a_opener a_around) {post : Int32 → Prop} {i j : Nat} (hi : i < n) (hj : j < i) (hk : K i = K j) (hS : ∀ j, j < i → a_stands j = nI (T j).1) (hg : ∀ j, j < i → (T j).1 ≤ j)
    (h1 : ((K i = 1 ∧ a_as i = a_as j) ∨ (K i ≠ 1 ∧ sh_al K a_as a_bs a_cs T i j)) → post 1) (h0 : ¬ ((K i = 1 ∧ a_as i = a_as j) ∨ (K i ≠ 1 ∧ sh_al K a_as a_bs a_cs T i j)) → post 0) : wpY_alike post (f_lines, f_known, f_wrong, f_place, f_blocks, f_steps, f_dropped, f_on, f_next, f_again, f_depth, a_ops, a_as, a_bs, a_cs, a_blockOf, a_opener, a_around, a_other, a_end, a_open, a_varied, a_loose, a_variedVariable, a_stands, a_number, a_isConst, a_needed, a_inputs, a_values, a_variables, a_cells, a_outs, a_was, a_rest, a_line) (nI i) (nI j) := by
  have hn := hP.1
  have hK := hP.2.1
  have ki := hK i hi
  have ci : (nI i).toNatClampNeg = i := nI_clamp (by omega)
  have cj : (nI j).toNatClampNeg = j := nI_clamp (by omega)
  have ii : vp_in (nI i) 48 := vp_in_nI (by omega) (by omega)
  have ij : vp_in (nI j) 48 := vp_in_nI (by omega) (by omega)
  refine ⟨ii, nm_c ci ki.1 (pk_eq (K i) 1 (fun e1 => ⟨ii, ij, ?_⟩) (fun e1 => ⟨4, ?_⟩))⟩
  · rw [ci, cj]
    refine br_c (fun e => h1 (Or.inl ⟨e1, e⟩)) (fun e => h0 ?_)
    rintro (⟨_, h⟩ | ⟨h, _⟩)
    · exact e h
    · exact h e1
  · refine sy_al39 (K := K) (n := n) (T := T) hP hi hj hk hS hg (fun h => h1 (Or.inr ⟨e1, h⟩)) (fun h => h0 ?_) 3 0 1 rfl (Or.inl ⟨rfl, fun s hs => by omega⟩)
    rintro (⟨h', _⟩ | ⟨_, h'⟩)
    · exact e1 h'
    · exact h h'
theorem sh_const {A B C : Nat → Int32} {j : Nat} {o : Nat × Bool × Int32} (l : sh_line K A B C T j o) (h : o.2.1 = true) : K j ≤ 10 := by
  have : (sh_1 K A B C T j).2.1 = true := by
    rcases l with ⟨_, e⟩ | ⟨_, r, _, e⟩
    · rw [e] at h; exact h
    · rw [e] at h; exact h
  unfold sh_1 at this
  split at this
  · omega
  · split at this
    · omega
    · split at this
      · omega
      · cases this
/-- Y's search for the first line that is alike -/
theorem sy_match2 (hP : yv_P K n a_ops a_as a_bs a_cs a_blockOf a_opener a_around) {post : SY → Prop} {i : Nat} {f : Bool} {v : Int32} (hi : i < n) (hcmp : sh_cmp (K i)) (hR : ∀ j, j < i → a_stands j = nI (T j).1 ∧ a_isConst j = sh_bI (T j).2.1 ∧ a_number j = (T j).2.2) (hg : ∀ j, j < i → (T j).1 ≤ j) (hl : ∀ j, j < i → sh_line K a_as a_bs a_cs T j (T j)) (hs : a_stands i = nI i) (hf : a_isConst i = sh_bI f) (hw : a_number i = v)
    (h : ∀ r, sh_F (sh_P K a_as a_bs a_cs T i f v) i r → post (f_lines, f_known, f_wrong, f_place, f_blocks, f_steps, f_dropped, f_on, f_next, f_again, f_depth, a_ops, a_as, a_bs, a_cs, a_blockOf, a_opener, a_around, a_other, a_end, a_open, a_varied, a_loose, a_variedVariable, upd a_stands i (nI r), a_number, a_isConst, a_needed, a_inputs, a_values, a_variables, a_cells, a_outs, a_was, a_rest, a_line)) : ∀ d t : Nat, t + d = i → (∀ j, j < t → ¬ sh_P K a_as a_bs a_cs T i f v j) → wY_match_2 post (nI i) f_lines f_known f_wrong f_place f_blocks f_steps f_dropped f_on f_next f_again f_depth (d + 2) (nI t) a_ops a_as a_bs a_cs a_blockOf a_opener a_around a_other a_end a_open a_varied a_loose a_variedVariable a_stands a_number a_isConst a_needed a_inputs a_values a_variables a_cells a_outs a_was a_rest a_line := by
  have hP' := hP
  obtain ⟨hn, hK, hgd, h4, hok, hB, hA⟩ := hP'
  have ci : (nI i).toNatClampNeg = i := nI_clamp (by omega)
  have ii : vp_in (nI i) 48 := vp_in_nI (by omega) (by omega)
  have ki := hK i hi
  intro d
  induction d with
  | zero =>
    intro t ht hno
    cases (show t = i by omega)
    have := h i (Or.inl ⟨rfl, hno⟩)
    rw [up_same hs] at this
    exact br_t (nI_le (Nat.le_refl _) (by omega)) this
  | succ d ih =>
    intro t ht hno
    have ct : (nI t).toNatClampNeg = t := nI_clamp (by omega)
    have it : vp_in (nI t) 48 := vp_in_nI (by omega) (by omega)
    obtain ⟨r1, r2, r3⟩ := hR t (by omega)
    have kt := hK t (by omega)
    have gt := hg t (by omega)
    have next : ¬ sh_P K a_as a_bs a_cs T i f v t → wY_match_2 post (nI i) f_lines f_known f_wrong f_place f_blocks f_steps f_dropped f_on f_next f_again f_depth (d + 2) (nI (t + 1)) a_ops a_as a_bs a_cs a_blockOf a_opener a_around a_other a_end a_open a_varied a_loose a_variedVariable a_stands a_number a_isConst a_needed a_inputs a_values a_variables a_cells a_outs a_was a_rest a_line := fun hn' =>
      ih (t + 1) (by omega) (fun j hj => by
        by_cases e : j = t
        · rw [e]; exact hn'
        · exact hno j (by omega))
    have no : ¬ sh_P K a_as a_bs a_cs T i f v t → wY_match_139 post (wY_match_2 post (nI i) f_lines f_known f_wrong f_place f_blocks f_steps f_dropped f_on f_next f_again f_depth (d + 2)) (nI i) (nI t) 0 f_lines f_known f_wrong f_place f_blocks f_steps f_dropped f_on f_next f_again f_depth a_ops a_as a_bs a_cs a_blockOf a_opener a_around a_other a_end a_open a_varied a_loose a_variedVariable a_stands a_number a_isConst a_needed a_inputs a_values a_variables a_cells a_outs a_was a_rest a_line := fun hn' => br_t rfl (nm_r (nI_1 t) (next hn'))
    have yes : sh_P K a_as a_bs a_cs T i f v t → wY_match_139 post (wY_match_2 post (nI i) f_lines f_known f_wrong f_place f_blocks f_steps f_dropped f_on f_next f_again f_depth (d + 2)) (nI i) (nI t) 1 f_lines f_known f_wrong f_place f_blocks f_steps f_dropped f_on f_next f_again f_depth a_ops a_as a_bs a_cs a_blockOf a_opener a_around a_other a_end a_open a_varied a_loose a_variedVariable a_stands a_number a_isConst a_needed a_inputs a_values a_variables a_cells a_outs a_was a_rest a_line := fun hp => by
      have fin := h t (Or.inr ⟨by omega, hp, hno⟩)
      refine br_f (by decide) ⟨ii, nm_r (e' := upd a_stands i (nI t)) (by rw [ci]) (nm_r (nI_1 t) ?_)⟩
      refine br_c (fun _ => fin) (fun _ => ⟨ii, ?_⟩)
      rw [ci, pk_us]
      exact pk_eq t i (fun e => absurd e (by omega)) (fun _ => fin)
    refine br_f (nI_ge (by omega) (by omega)) ⟨ii, ?_⟩
    rw [ci, hs]
    refine br_t rfl ⟨it, ?_⟩
    rw [ct, r1]
    refine pk_eq (T t).1 t (fun es => ⟨it, ?_⟩) (fun es => nm_r (nI_1 t) (next (fun hp => es hp.1)))
    rw [kt.1]
    refine ys_gives kt.2 (fun h16 => br_f (by decide) ⟨vp_in_nI (by omega) (by omega), vp_in_nI (by omega) (by omega), ?_⟩) (fun h16 => br_t rfl (nm_r (nI_1 t) (next (fun hp => ?_))))
    · rw [hB t (by omega), hB i hi]
      refine ys_isOpen (K := K) hn hi (sc_good_le hgd (by omega)) (fun j hj ho => (hA j (by omega) ho).1) (by omega) (fun hin => br_f (by decide) ⟨ii, ?_⟩) (fun hin => br_t rfl (nm_r (nI_1 t) (next (fun hp => hin hp.2.1))))
      rw [hf, r2]
      have t79 : (f = true ∨ (T t).2.1 = true) → wY_match_79 post (wY_match_2 post (nI i) f_lines f_known f_wrong f_place f_blocks f_steps f_dropped f_on f_next f_again f_depth (d + 2)) (nI i) (nI t) f_lines f_known f_wrong f_place f_blocks f_steps f_dropped f_on f_next f_again f_depth a_ops a_as a_bs a_cs a_blockOf a_opener a_around a_other a_end a_open a_varied a_loose a_variedVariable a_stands a_number a_isConst a_needed a_inputs a_values a_variables a_cells a_outs a_was a_rest a_line := by
        intro hor
        refine ⟨ii, ?_⟩
        rw [ci, hf, hw]
        refine br_c (fun hz => no (fun hp => ?_)) (fun hz => ⟨ii, ?_⟩)
        · have e := sh_bI_0 hz
          rcases hp.2.2 with ⟨a, _⟩ | ⟨_, b, _⟩
          · rw [e] at a; cases a
          · rcases hor with h' | h'
            · rw [e] at h'; cases h'
            · rw [b] at h'; cases h'
        · have e := sh_bI_n hz
          refine sy_is (T := T) (by omega) r2 r3 (fun h' => br_f (by decide) (yes ⟨es, hin, Or.inl ⟨e, sh_is_F h', ?_⟩⟩)) (fun h' => br_t rfl (no (fun hp => ?_)))
          · unfold sh_is at h'; simp only [Bool.and_eq_true, beq_iff_eq] at h'; exact h'.2.symm
          · rcases hp.2.2 with ⟨_, b, c⟩ | ⟨a, _⟩
            · unfold sh_is at h'; rw [b, c] at h'; simp at h'
            · rw [e] at a; cases a
      refine br_c (fun hz => ⟨it, br_c (fun hz2 => ⟨ii, it, ?_⟩) (fun hz2 => t79 (Or.inr (sh_bI_n hz2)))⟩) (fun hz => t79 (Or.inl (sh_bI_n hz)))
      have ef := sh_bI_0 hz
      have eF := sh_bI_0 hz2
      rw [ki.1]
      refine pk_eq (K i) (K t) (fun hk => ?_) (fun hk => no (fun hp => ?_))
      · refine sy_alike (K := K) (n := n) (T := T) hP hi (by omega) hk (fun j hj => (hR j hj).1) hg (fun ha => br_f (by decide) (yes ⟨es, hin, Or.inr ⟨ef, eF, hk, ha⟩⟩)) (fun ha => br_t rfl (no (fun hp => ?_)))
        rcases hp.2.2 with ⟨a, _⟩ | ⟨_, _, _, d⟩
        · rw [ef] at a; cases a
        · exact ha d
      · rcases hp.2.2 with ⟨a, _⟩ | ⟨_, _, c, _⟩
        · rw [ef] at a; cases a
        · exact hk c
    · rcases hp.2.2 with ⟨_, b, _⟩ | ⟨_, _, c, _⟩
      · have := sh_const (hl t (by omega)) b; omega
      · unfold sh_cmp at hcmp; omega
end
