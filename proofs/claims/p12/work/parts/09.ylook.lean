section
variable {K : Nat → Nat}
theorem sc_mt_le {j : Nat} (hg : sc_good K (j + 1)) : sc_mt K j ≤ j := by
  by_cases h : K j = 20 ∨ K j = 21 ∨ K j = 23
  · cases e : sc_fr K j with
    | nil => rw [sc_mt_cl h, e]; exact Nat.zero_le _
    | cons f r =>
      obtain ⟨b, m⟩ := f
      have T := sc_top j (sc_good_le hg (by omega)) _ _ _ e
      rw [sc_mt_cl h, e]
      have := T.2.1; have := T.2.2.1
      show m ≤ j
      omega
  · rw [sc_mt_n h]; exact Nat.le_refl _
theorem sc_clTop {q : Nat} (f : sc_fits K q) (hq : K q = 20 ∨ K q = 21 ∨ K q = 23) : ∃ b r, sc_fr K q = (b, sc_mt K q) :: r ∧ sc_hd (sc_fr K q) = b ∧ sc_lf K q = r := by
  have : ∃ b m r, sc_fr K q = (b, m) :: r := by
    rcases hq with h | h | h
    · obtain ⟨m, r, e, _⟩ := f.2.1 h; exact ⟨_, _, _, e⟩
    · obtain ⟨b, m, r, e, _⟩ := f.2.2.1 h; exact ⟨_, _, _, e⟩
    · obtain ⟨b, m, r, e, _⟩ := f.2.2.2.1 h; exact ⟨_, _, _, e⟩
  obtain ⟨b, m, r, e⟩ := this
  have em : sc_mt K q = m := by rw [sc_mt_cl hq, e]; rfl
  exact ⟨b, r, by rw [em]; exact e, by rw [e]; rfl, by rw [sc_lf_cl hq, e]; rfl⟩
theorem sc_noElse {i m : Nat} {r : List (Nat × Nat)} (hg : sc_good K i) (e : sc_fr K i = (m + 1, m) :: r) : ∀ q, q < i → K q = 20 → sc_mt K q ≠ m := by
  intro q hq k20 em
  obtain ⟨m', r', e', _⟩ := (hg q hq).2.1 k20
  have : m' = m := by rw [← em, sc_mt_cl (Or.inl k20), e']; rfl
  subst this
  have T := sc_top q (sc_good_le hg (by omega)) _ _ _ e'
  have h := sc_stay (b := m' + 1) (m := m') i (q + 1) hg (by omega) (by have := T.2.1; omega) (by rw [e]; exact List.mem_cons_self ..)
  exact sc_after (sc_good_le hg (by omega)) (Or.inl k20) e' m' h
/-- Y's arrays behind line i -/
def ys_ar (K : Nat → Nat) (i : Nat) (f : Nat → Int32) : Nat → Int32 := if K i = 19 ∨ K i = 20 ∨ K i = 22 then upd f (sc_cnt K i + 1) (nI (sc_cnt K (sc_hd (sc_lf K i)))) else f
def ys_or (K : Nat → Nat) (i : Nat) (f : Nat → Int32) : Nat → Int32 := if K i = 19 ∨ K i = 20 ∨ K i = 22 then upd f (sc_cnt K i + 1) (nI (sc_mt K i)) else f
def ys_ot (K : Nat → Nat) (i : Nat) (f : Nat → Int32) : Nat → Int32 := if K i = 19 ∨ K i = 22 then upd f i (-1) else if K i = 20 then upd f (sc_mt K i) (nI i) else f
def ys_en (K : Nat → Nat) (i : Nat) (f : Nat → Int32) : Nat → Int32 := if K i = 21 ∨ K i = 23 then upd f (sc_mt K i) (nI i) else f
def ys_on (K : Nat → Nat) (i : Nat) (f : Nat → Int32) : Nat → Int32 := if K i = 19 ∨ K i = 22 then upd f (sc_fr K i).length (nI i) else f
theorem ys_A_step {i : Nat} {blockOf opener around other end_ : Nat → Int32} (hg : sc_good K (i + 1)) (h : ys_A K i blockOf opener around other end_) :
    ys_A K (i + 1) (upd blockOf i (nI (sc_cnt K (sc_hd (sc_lf K i))))) (ys_or K i opener) (ys_ar K i around) (ys_ot K i other) (ys_en K i end_) := by
  intro j hj
  by_cases e : j = i
  · subst e
    refine ⟨pk_us, fun ho => ?_, fun h20 => ?_, fun ho hno => ?_, fun he => ?_⟩
    · rw [sc_cnt_op ho, ys_ar, if_pos ho, ys_or, if_pos ho]; exact ⟨pk_us, pk_us⟩
    · rw [ys_ot, if_neg (by omega), if_pos h20]; exact pk_us
    · rw [ys_ot, if_pos ho]; exact pk_us
    · rw [ys_en, if_pos he]; exact pk_us
  · have hji : j < i := by omega
    obtain ⟨h1, h2, h3, h4, h5⟩ := h j hji
    have gj : sc_good K (j + 1) := sc_good_le hg (by omega)
    have mj := sc_mt_le gj
    refine ⟨by rw [pk_un e]; exact h1, fun ho => ?_, fun h20 => ?_, fun ho hno => ?_, fun he => ?_⟩
    · have := sc_cnt_mono (K := K) (show j + 1 ≤ i by omega)
      obtain ⟨a1, a2⟩ := h2 ho
      rw [ys_ar, ys_or]
      split
      · rw [pk_un (by omega), pk_un (by omega)]; exact ⟨a1, a2⟩
      · exact ⟨a1, a2⟩
    · rw [ys_ot]
      split
      · rw [pk_un (by omega)]; exact h3 h20
      · split
        · rename_i k20
          have ne : sc_mt K j ≠ sc_mt K i := by
            intro ee
            obtain ⟨m, r, ei, _⟩ := (hg i (by omega)).2.1 k20
            have emi : sc_mt K i = m := by rw [sc_mt_cl (Or.inl k20), ei]; rfl
            exact sc_noElse (sc_good_le hg (by omega)) ei j hji h20 (by rw [ee, emi])
          rw [pk_un ne]; exact h3 h20
        · exact h3 h20
    · have h4' := h4 ho (fun q hq k20 => hno q (by omega) k20)
      rw [ys_ot]
      split
      · rw [pk_un e]; exact h4'
      · split
        · rename_i k20
          rw [pk_un (fun ee => hno i (by omega) k20 ee.symm)]; exact h4'
        · exact h4'
    · rw [ys_en]
      split
      · rename_i k21
        have ne : sc_mt K j ≠ sc_mt K i := by
          intro ee
          obtain ⟨b, r, ej, _⟩ := sc_clTop (hg j (by omega)) (by omega)
          obtain ⟨b', r', ei, _⟩ := sc_clTop (hg i (by omega)) (by omega)
          rw [← ee] at ei
          exact sc_uniqM hg hji he ej ei
        rw [pk_un ne]; exact h5 he
      · exact h5 he
theorem ys_O_step {i : Nat} {opn : Nat → Int32} (hg : sc_good K (i + 1)) (h : ys_O opn (sc_fr K i)) : ys_O (ys_on K i opn) (sc_fr K (i + 1)) := by
  have hf := hg i (by omega)
  by_cases h1 : K i = 19 ∨ K i = 22
  · rw [sc_s_open h1, ys_on, if_pos h1]
    exact ⟨pk_us, ys_O_upd _ _ (Nat.le_refl _) h⟩
  · rw [ys_on, if_neg h1]
    by_cases h2 : K i = 20
    · obtain ⟨m, r, e, _⟩ := hf.2.1 h2
      rw [sc_s_else h2, e]
      rw [e] at h
      exact h
    · by_cases h3 : K i = 21 ∨ K i = 23
      · obtain ⟨b, r, e, _⟩ := sc_clTop hf (by omega)
        rw [sc_s_end h3, e]
        rw [e] at h
        exact h.2
      · rw [sc_s_plain (by omega)]; exact h
end
section
variable {K : Nat → Nat} {n : Nat}
variable {f_lines f_known f_wrong f_place f_blocks f_steps f_dropped f_on f_next f_again f_depth : Int32} {a_ops a_as a_bs a_cs a_blockOf a_opener a_around a_other a_end a_open a_varied a_loose a_variedVariable a_stands a_number a_isConst a_needed a_inputs a_values a_variables a_cells a_outs a_was a_rest a_line : Nat → Int32}
def yl_top (l : List (Nat × Nat)) : Int32 := match l with | [] => -1 | f :: _ => nI f.2
theorem yl_135 {post : SY → Prop} {J : Int32 → Int32 → Int32 → Int32 → Int32 → Int32 → Int32 → Int32 → Int32 → Int32 → Int32 → Int32 → Int32 → Int32 → (Nat → Int32) → (Nat → Int32) → (Nat → Int32) → (Nat → Int32) → (Nat → Int32) → (Nat → Int32) → (Nat → Int32) → (Nat → Int32) → (Nat → Int32) → (Nat → Int32) → (Nat → Int32) → (Nat → Int32) → (Nat → Int32) → (Nat → Int32) → (Nat → Int32) → (Nat → Int32) → (Nat → Int32) → (Nat → Int32) → (Nat → Int32) → (Nat → Int32) → (Nat → Int32) → (Nat → Int32) → (Nat → Int32) → (Nat → Int32) → (Nat → Int32) → Prop} {x2 x3 x5 x6 x7 : Int32} {len k : Nat} {F : Prop} (hk : k ≤ 25) (hl : len ≤ 4)
    (hgo : F → wY_look_221 post J (nI len) x2 x3 (nI k) x5 f_lines f_known f_wrong f_place f_blocks f_steps f_dropped f_on f_next f_again f_depth a_ops a_as a_bs a_cs a_blockOf a_opener a_around a_other a_end a_open a_varied a_loose a_variedVariable a_stands a_number a_isConst a_needed a_inputs a_values a_variables a_cells a_outs a_was a_rest a_line) (hno : ¬ F → wY_look_217 post J (nI len) x2 x3 (nI k) x5 f_lines f_known f_wrong f_place f_blocks f_steps f_dropped f_on f_next f_again f_depth a_ops a_as a_bs a_cs a_blockOf a_opener a_around a_other a_end a_open a_varied a_loose a_variedVariable a_stands a_number a_isConst a_needed a_inputs a_values a_variables a_cells a_outs a_was a_rest a_line)
    (f20 : k = 20 → (x6 = 0 ∧ ¬ F) ∨ (¬ x6 = 0 ∧ vp_in x5 48 ∧ (0 ≤ a_other x5.toNatClampNeg ∧ ¬ F ∨ ¬ 0 ≤ a_other x5.toNatClampNeg ∧ F)))
    (f21 : k = 21 → (x6 = 0 ∧ ¬ F) ∨ (¬ x6 = 0 ∧ F)) (f23 : k = 23 → (x7 = 0 ∧ ¬ F) ∨ (¬ x7 = 0 ∧ F))
    (f24 : k = 24 → ∀ p : Int32 → Prop, (F → p 1) → (¬ F → p 0) → wpY_isInLoop p (f_lines, f_known, f_wrong, f_place, f_blocks, f_steps, f_dropped, f_on, f_next, f_again, f_depth, a_ops, a_as, a_bs, a_cs, a_blockOf, a_opener, a_around, a_other, a_end, a_open, a_varied, a_loose, a_variedVariable, a_stands, a_number, a_isConst, a_needed, a_inputs, a_values, a_variables, a_cells, a_outs, a_was, a_rest, a_line) (nI len))
    (fo : (k = 19 ∨ k = 22) → (F ↔ len < 4)) (fp : ¬ (k = 19 ∨ k = 20 ∨ k = 21 ∨ k = 22 ∨ k = 23 ∨ k = 24) → F) :
    wY_look_135 post J (nI len) x2 x3 (nI k) x5 x6 x7 f_lines f_known f_wrong f_place f_blocks f_steps f_dropped f_on f_next f_again f_depth a_ops a_as a_bs a_cs a_blockOf a_opener a_around a_other a_end a_open a_varied a_loose a_variedVariable a_stands a_number a_isConst a_needed a_inputs a_values a_variables a_cells a_outs a_was a_rest a_line := by
  have t212 : (k = 19 ∨ k = 22) → wY_look_212 post J (nI len) x2 x3 (nI k) x5 f_lines f_known f_wrong f_place f_blocks f_steps f_dropped f_on f_next f_again f_depth a_ops a_as a_bs a_cs a_blockOf a_opener a_around a_other a_end a_open a_varied a_loose a_variedVariable a_stands a_number a_isConst a_needed a_inputs a_values a_variables a_cells a_outs a_was a_rest a_line := fun h =>
    pk_eq len 4 (fun h4 => hno (fun f => by have := (fo h).mp f; omega)) (fun h4 => hgo ((fo h).mpr (by omega)))
  have t198 : F ∨ (k = 19 ∨ k = 22) → wY_look_198 post J (nI len) x2 x3 (nI k) x5 f_lines f_known f_wrong f_place f_blocks f_steps f_dropped f_on f_next f_again f_depth a_ops a_as a_bs a_cs a_blockOf a_opener a_around a_other a_end a_open a_varied a_loose a_variedVariable a_stands a_number a_isConst a_needed a_inputs a_values a_variables a_cells a_outs a_was a_rest a_line := fun h =>
    pk_eq k 19 (fun h' => t212 (Or.inl h')) (fun h19 => pk_eq k 22 (fun h' => t212 (Or.inr h')) (fun h22 => hgo (h.resolve_right (by omega))))
  have t183 : k ≠ 24 → F ∨ (k = 19 ∨ k = 22) → wY_look_183 post J (nI len) x2 x3 (nI k) x5 f_lines f_known f_wrong f_place f_blocks f_steps f_dropped f_on f_next f_again f_depth a_ops a_as a_bs a_cs a_blockOf a_opener a_around a_other a_end a_open a_varied a_loose a_variedVariable a_stands a_number a_isConst a_needed a_inputs a_values a_variables a_cells a_outs a_was a_rest a_line := fun hk h =>
    pk_eq k 24 (fun h' => absurd h' hk) (fun _ => t198 h)
  have t171 : k ≠ 23 → k ≠ 24 → F ∨ (k = 19 ∨ k = 22) → wY_look_171 post J (nI len) x2 x3 (nI k) x5 x7 f_lines f_known f_wrong f_place f_blocks f_steps f_dropped f_on f_next f_again f_depth a_ops a_as a_bs a_cs a_blockOf a_opener a_around a_other a_end a_open a_varied a_loose a_variedVariable a_stands a_number a_isConst a_needed a_inputs a_values a_variables a_cells a_outs a_was a_rest a_line := fun hk hk' h =>
    pk_eq k 23 (fun h' => absurd h' hk) (fun _ => t183 hk' h)
  have t159 : k ≠ 21 → k ≠ 23 → k ≠ 24 → F ∨ (k = 19 ∨ k = 22) → wY_look_159 post J (nI len) x2 x3 (nI k) x5 x6 x7 f_lines f_known f_wrong f_place f_blocks f_steps f_dropped f_on f_next f_again f_depth a_ops a_as a_bs a_cs a_blockOf a_opener a_around a_other a_end a_open a_varied a_loose a_variedVariable a_stands a_number a_isConst a_needed a_inputs a_values a_variables a_cells a_outs a_was a_rest a_line := fun a b c h =>
    pk_eq k 21 (fun h' => absurd h' a) (fun _ => t171 b c h)
  refine pk_eq k 20 (fun h => ?_) (fun n20 => pk_eq k 21 (fun h => ?_) (fun n21 => pk_eq k 23 (fun h => ?_) (fun n23 => pk_eq k 24 (fun h => ?_) (fun n24 => t198 ?_))))
  · rcases f20 h with ⟨a, b⟩ | ⟨a, b, c⟩
    · exact br_t a (hno b)
    · refine br_f a ⟨b, ?_⟩
      rcases c with ⟨c, d⟩ | ⟨c, d⟩
      · exact br_t c (hno d)
      · exact br_f c (t159 (by omega) (by omega) (by omega) (Or.inl d))
  · rcases f21 h with ⟨a, b⟩ | ⟨a, b⟩
    · exact br_t a (hno b)
    · exact br_f a (t171 (by omega) (by omega) (Or.inl b))
  · rcases f23 h with ⟨a, b⟩ | ⟨a, b⟩
    · exact br_t a (hno b)
    · exact br_f a (t183 (by omega) (Or.inl b))
  · exact f24 h _ (fun f => br_f (by decide) (t198 (Or.inl f))) (fun f => br_t rfl (hno f))
  · by_cases h : k = 19 ∨ k = 22
    · exact Or.inr h
    · exact Or.inl (fp (by omega))
end
