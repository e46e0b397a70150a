section
variable {K : Nat → Nat} {n : Nat}
variable {f_lines f_known f_wrong f_place f_blocks f_steps f_dropped f_on f_next f_again f_depth : Int32} {a_ops a_as a_bs a_cs a_blockOf a_opener a_around a_other a_end a_open a_varied a_loose a_variedVariable a_stands a_number a_isConst a_needed a_inputs a_values a_variables a_cells a_outs a_was a_rest a_line : Nat → Int32}
/-- what all of Y's rounds know of the program -/
def yv_P (K : Nat → Nat) (n : Nat) (ops A B C blockOf opener around : Nat → Int32) : Prop :=
  n ≤ 48 ∧ (∀ j, j < n → ops j = nI (K j) ∧ K j ≤ 25) ∧ sc_good K n ∧ (∀ j, j < n → (K j = 1 ∨ K j = 11 ∨ K j = 16 ∨ K j = 17 ∨ K j = 18) → ∃ a, a < 4 ∧ A j = nI a) ∧
  (∀ j, j < n → ∀ s, s < 3 → sc_us (K j) s → sc_ov K A B C s j) ∧ (∀ j, j < n → blockOf j = nI (sc_cnt K (sc_hd (sc_lf K j)))) ∧
  (∀ j, j < n → (K j = 19 ∨ K j = 20 ∨ K j = 22) → around (sc_cnt K (j + 1)) = nI (sc_cnt K (sc_hd (sc_lf K j))) ∧ opener (sc_cnt K (j + 1)) = nI (sc_mt K j))
/-- the IF or LOOP of an opening line -/
theorem sc_mtK {j : Nat} (hf : sc_fits K j) (ho : K j = 19 ∨ K j = 20 ∨ K j = 22) : (K j = 22 → K (sc_mt K j) = 22) ∧ (K j ≠ 22 → K (sc_mt K j) = 19) := by
  by_cases h : K j = 20
  · obtain ⟨m, r, e, km⟩ := hf.2.1 h
    have : sc_mt K j = m := by rw [sc_mt_cl (by omega), e]; rfl
    rw [this]
    exact ⟨fun h' => by omega, fun _ => km⟩
  · have : sc_mt K j = j := sc_mt_n (by omega)
    rw [this]
    exact ⟨fun h' => h', fun h' => by omega⟩
theorem yv_split (hP : yv_P K n a_ops a_as a_bs a_cs a_blockOf a_opener a_around) {post : Int32 → Prop} {j : Nat} (hj : j < n) (ho : K j = 19 ∨ K j = 20 ∨ K j = 22)
    (h1 : K j ≠ 22 → xv_V a_varied (a_as (sc_mt K j)).toNatClampNeg → post 1) (h0 : (K j ≠ 22 → ¬ xv_V a_varied (a_as (sc_mt K j)).toNatClampNeg) → post 0) : wpY_isSplit post (f_lines, f_known, f_wrong, f_place, f_blocks, f_steps, f_dropped, f_on, f_next, f_again, f_depth, a_ops, a_as, a_bs, a_cs, a_blockOf, a_opener, a_around, a_other, a_end, a_open, a_varied, a_loose, a_variedVariable, a_stands, a_number, a_isConst, a_needed, a_inputs, a_values, a_variables, a_cells, a_outs, a_was, a_rest, a_line) (nI (sc_cnt K (j + 1))) := by
  obtain ⟨hn, hK, hg, h4, hok, hB, hA⟩ := hP
  have cle := sc_cnt_le (K := K) (j + 1)
  have mle := sc_mt_le (sc_good_le hg (show j + 1 ≤ n by omega))
  have mk := sc_mtK (hg j hj) ho
  have ib : vp_in (nI (sc_cnt K (j + 1))) 97 := vp_in_nI (by omega) (by omega)
  have k25 := (hK (sc_mt K j) (by omega)).2
  have im : vp_in (nI (sc_mt K j)) 48 := vp_in_nI (by omega) (by omega)
  have cm : (nI (sc_mt K j)).toNatClampNeg = sc_mt K j := nI_clamp (by omega)
  refine ⟨ib, ?_⟩
  rw [nI_clamp (by omega), (hA j hj ho).2, cm]
  refine br_f (nI_pos (by omega)) ⟨ib, im, ?_⟩
  rw [(hK (sc_mt K j) (by omega)).1]
  refine pk_eq (K (sc_mt K j)) 19 (fun h19 => ⟨ib, im, ?_⟩) (fun h19 => h0 (fun h => absurd (mk.2 h) h19))
  obtain ⟨x, hx, ex, _⟩ := hok (sc_mt K j) (by omega) 0 (by omega) (by unfold sc_us; omega)
  have ex' : a_as (sc_mt K j) = nI x := ex
  rw [ex', nI_clamp (by omega)] at h1 h0 ⊢
  exact ⟨vp_in_nI (by omega) (by omega), br_c (fun hz => h0 (fun _ h => h hz)) (fun hz => h1 (fun h => by have := mk.1 h; omega) hz)⟩
theorem yv_leaves10 (hP : yv_P K n a_ops a_as a_bs a_cs a_blockOf a_opener a_around) {post : Int32 → Prop} {b0 : Nat} (hb0 : sc_op (K (b0 - 1))) (h1b : 1 ≤ b0) (hbn : b0 ≤ n) :
    ∀ (l : List (Nat × Nat)) (j : Nat) (p : Prop) (x3 : Int32), j ≤ n → sc_fr K j = l → (x3 = 1 ∧ p ∨ x3 = 0 ∧ ¬ p) → (vr_brk K a_as (xv_V a_varied) p l b0 → post 1) → (¬ vr_brk K a_as (xv_V a_varied) p l b0 → post 0) → ∀ d, l.length < d → wY_leaves_10 post (nI (sc_cnt K b0)) f_lines f_known f_wrong f_place f_blocks f_steps f_dropped f_on f_next f_again f_depth a_ops a_as a_bs a_cs a_blockOf a_opener a_around a_other a_end a_open a_varied a_loose a_variedVariable a_stands a_number a_isConst a_needed a_inputs a_values a_variables a_cells a_outs a_was a_rest a_line d x3 (nI (sc_cnt K (sc_hd l))) := by
  have hP' := hP
  obtain ⟨hn, hK, hg, h4, hok, hB, hA⟩ := hP'
  have c0 := sc_cnt_le (K := K) b0
  intro l
  induction l with
  | nil =>
    intro j p x3 hj e hx h1 h0 d hd
    obtain ⟨d, rfl⟩ : ∃ e, d = e + 1 := ⟨d - 1, by simp at hd; omega⟩
    have : 0 < sc_cnt K b0 := by have := sc_cnt_lt (K := K) (b := 0) (c := b0) (by omega) hb0; omega
    rw [sc_hd_nil, show sc_cnt K 0 = 0 from rfl]
    exact br_t (by decide) (pk_eq 0 (sc_cnt K b0) (fun h => absurd h (by omega)) (fun _ => h0 (fun h => h)))
  | cons f r ih =>
    obtain ⟨b, m⟩ := f
    intro j p x3 hj e hx h1 h0 d hd
    have T := sc_top j (sc_good_le hg hj) _ _ _ e
    simp only [List.length_cons] at hd
    obtain ⟨d, rfl⟩ : ∃ e, d = e + 1 := ⟨d - 1, by omega⟩
    have tb : b ≤ n := by have := T.2.1; omega
    have tb1 := T.1
    have tm := T.2.2.1
    have hop : sc_op (K (b - 1)) := T.2.2.2.2.2.2.2.1
    have cb := sc_cnt_le (K := K) b
    have cpos : 0 < sc_cnt K b := by have := sc_cnt_lt (K := K) (b := 0) (c := b) (by omega) hop; omega
    have eb : b - 1 + 1 = b := by omega
    have hAb := hA (b - 1) (by omega) hop
    rw [eb, T.2.2.2.2.1, T.2.2.2.2.2.2.1] at hAb
    have ib : vp_in (nI (sc_cnt K b)) 97 := vp_in_nI (by omega) (by omega)
    have cc : (nI (sc_cnt K b)).toNatClampNeg = sc_cnt K b := nI_clamp (by omega)
    have cm : (nI m).toNatClampNeg = m := nI_clamp (by omega)
    have k25 := (hK m (by omega)).2
    rw [sc_hd_cons]
    refine br_f (nI_nle cpos (by omega)) ⟨ib, ?_⟩
    rw [cc, hAb.2, cm, (hK m (by omega)).1]
    refine ⟨vp_in_nI (by omega) (by omega), pk_eq (K m) 22 (fun h22 => ?_) (fun h22 => ?_)⟩
    · refine pk_eq (sc_cnt K b) (sc_cnt K b0) (fun h => ?_) (fun h => h0 ?_)
      · have ebb := sc_cnt_inj (Or.inr hop) (Or.inr hb0) h
        rcases hx with ⟨e1, hp⟩ | ⟨e1, hp⟩
        · rw [e1]; exact br_f (by decide) (h1 (Or.inl ⟨h22, hp, ebb.symm⟩))
        · rw [e1]
          refine br_t rfl (h0 ?_)
          rintro (⟨_, h', _⟩ | ⟨h', _⟩)
          · exact hp h'
          · exact h' h22
      · rintro (⟨_, _, h'⟩ | ⟨h', _⟩)
        · have h'' : b0 = b := h'
          rw [h''] at h; exact h rfl
        · exact h' h22
    · have kb : K (b - 1) ≠ 22 := by
        rcases T.2.2.2.1 with ⟨h, _⟩ | ⟨h, _⟩
        · rw [h, Nat.add_sub_cancel]; exact h22
        · omega
      have go : ∀ q : Int32, (q = 1 ∧ xv_V a_varied (a_as m).toNatClampNeg ∨ q = 0 ∧ ¬ xv_V a_varied (a_as m).toNatClampNeg) → ∀ x3' : Int32, x3' = x3 ||| q → (vp_in (nI (sc_cnt K b)) 97 ∧ ∀ x4 : Int32, x4 = a_around (sc_cnt K b) → wY_leaves_10 post (nI (sc_cnt K b0)) f_lines f_known f_wrong f_place f_blocks f_steps f_dropped f_on f_next f_again f_depth a_ops a_as a_bs a_cs a_blockOf a_opener a_around a_other a_end a_open a_varied a_loose a_variedVariable a_stands a_number a_isConst a_needed a_inputs a_values a_variables a_cells a_outs a_was a_rest a_line d x3' x4) := by
        intro q hq x3' ex
        refine ⟨ib, nm_r hAb.1 (ih m (p ∨ xv_V a_varied (a_as m).toNatClampNeg) x3' (by omega) T.2.2.2.2.2.1 ?_ (fun h => h1 (Or.inr ⟨h22, h⟩)) (fun h => h0 ?_) d (by omega))⟩
        · rcases hx with ⟨e1, hp⟩ | ⟨e1, hp⟩ <;> rcases hq with ⟨e2, hv⟩ | ⟨e2, hv⟩
          · exact Or.inl ⟨by rw [ex, e1, e2]; exact or_11, Or.inl hp⟩
          · exact Or.inl ⟨by rw [ex, e1, e2]; exact or_10, Or.inl hp⟩
          · exact Or.inl ⟨by rw [ex, e1, e2]; exact or_01, Or.inr hv⟩
          · exact Or.inr ⟨by rw [ex, e1, e2]; exact or_00, fun h => h.elim hp hv⟩
        · rintro (⟨h', _⟩ | ⟨_, h'⟩)
          · exact h22 h'
          · exact h h'
      have sp : wpY_isSplit (fun q => ∀ x3' : Int32, x3' = x3 ||| q → (vp_in (nI (sc_cnt K b)) 97 ∧ ∀ x4 : Int32, x4 = a_around (sc_cnt K b) → wY_leaves_10 post (nI (sc_cnt K b0)) f_lines f_known f_wrong f_place f_blocks f_steps f_dropped f_on f_next f_again f_depth a_ops a_as a_bs a_cs a_blockOf a_opener a_around a_other a_end a_open a_varied a_loose a_variedVariable a_stands a_number a_isConst a_needed a_inputs a_values a_variables a_cells a_outs a_was a_rest a_line d x3' x4)) (f_lines, f_known, f_wrong, f_place, f_blocks, f_steps, f_dropped, f_on, f_next, f_again, f_depth, a_ops, a_as, a_bs, a_cs, a_blockOf, a_opener, a_around, a_other, a_end, a_open, a_varied, a_loose, a_variedVariable, a_stands, a_number, a_isConst, a_needed, a_inputs, a_values, a_variables, a_cells, a_outs, a_was, a_rest, a_line) (nI (sc_cnt K (b - 1 + 1))) := yv_split (K := K) (n := n) hP (j := b - 1) (by omega) hop (fun _ hv => go 1 (Or.inl ⟨rfl, by rw [T.2.2.2.2.2.2.1] at hv; exact hv⟩)) (fun hv => go 0 (Or.inr ⟨rfl, by have := hv kb; rw [T.2.2.2.2.2.2.1] at this; exact this⟩))
      rw [eb] at sp
      exact sp
theorem yv_leaves (hP : yv_P K n a_ops a_as a_bs a_cs a_blockOf a_opener a_around) {post : Int32 → Prop} {i j : Nat} (hi : i < n) (hj : j < n) (ho : K j = 19 ∨ K j = 20 ∨ K j = 22) (h24 : K i = 24) (h1 : vr_brk K a_as (xv_V a_varied) False (sc_lf K i) (j + 1) → post 1) (h0 : ¬ vr_brk K a_as (xv_V a_varied) False (sc_lf K i) (j + 1) → post 0) : wpY_leaves post (f_lines, f_known, f_wrong, f_place, f_blocks, f_steps, f_dropped, f_on, f_next, f_again, f_depth, a_ops, a_as, a_bs, a_cs, a_blockOf, a_opener, a_around, a_other, a_end, a_open, a_varied, a_loose, a_variedVariable, a_stands, a_number, a_isConst, a_needed, a_inputs, a_values, a_variables, a_cells, a_outs, a_was, a_rest, a_line) (nI i) (nI (sc_cnt K (j + 1))) := by
  have hP' := hP
  obtain ⟨hn, hK, hg, h4, hok, hB, hA⟩ := hP'
  have el : sc_lf K i = sc_fr K i := sc_lf_n (by omega)
  have len := sc_len i (sc_good_le hg (by omega))
  refine ⟨vp_in_nI (by omega) (by omega), nm_c (nI_clamp (by omega)) (hB i hi) ⟨5, ?_⟩⟩
  rw [el] at h1 h0 ⊢
  exact yv_leaves10 (K := K) (n := n) hP (b0 := j + 1) (by rw [Nat.add_sub_cancel]; exact ho) (by omega) (by omega) (sc_fr K i) i False 0 (by omega) rfl (Or.inr ⟨rfl, fun h => h⟩) h1 h0 5 (by omega)
/-- a LOOP's block from outside -/
theorem vr_brk_loop {A : Nat → Int32} {V : Nat → Prop} {i j : Nat} (hg : sc_good K n) (hi : i < n) (hk : K i = 24) (h : vr_brk K A V False (sc_lf K i) (j + 1)) : K j = 22 := by
  have el : sc_lf K i = sc_fr K i := sc_lf_n (by omega)
  rw [el] at h
  obtain ⟨m, hm, km⟩ := vr_brk_mem _ _ _ h
  obtain ⟨r, T⟩ := sc_memT (sc_good_le hg (show i ≤ n by omega)) hm
  rcases T.2.2.2.1 with ⟨h', _⟩ | ⟨_, h', _⟩
  · have : j = m := by omega
    rw [this]; exact km
  · omega
theorem up_same {f : Nat → Int32} {k : Nat} {x : Int32} (h : f k = x) : upd f k x = f := by
  funext j; simp only [upd]; split
  · rename_i e; rw [e, h]
  · rfl
theorem yv_loosen41 (hP : yv_P K n a_ops a_as a_bs a_cs a_blockOf a_opener a_around) {post : Int32 → SY → Prop} {j : Nat} (hj : j < n) (ho : K j = 19 ∨ K j = 20 ∨ K j = 22) (hz : a_loose (sc_cnt K (j + 1)) = 0) {F : Prop}
    (h0 : ¬ F → (∀ i, i < n → K i = 24 → ¬ vr_brk K a_as (xv_V a_varied) False (sc_lf K i) (j + 1)) → post 0 (nI n, f_known, f_wrong, f_place, f_blocks, f_steps, f_dropped, f_on, f_next, f_again, f_depth, a_ops, a_as, a_bs, a_cs, a_blockOf, a_opener, a_around, a_other, a_end, a_open, a_varied, a_loose, a_variedVariable, a_stands, a_number, a_isConst, a_needed, a_inputs, a_values, a_variables, a_cells, a_outs, a_was, a_rest, a_line))
    (h1 : (F ∨ ∃ i, i < n ∧ K i = 24 ∧ vr_brk K a_as (xv_V a_varied) False (sc_lf K i) (j + 1)) → post 1 (nI n, f_known, f_wrong, f_place, f_blocks, f_steps, f_dropped, f_on, f_next, f_again, f_depth, a_ops, a_as, a_bs, a_cs, a_blockOf, a_opener, a_around, a_other, a_end, a_open, a_varied, upd a_loose (sc_cnt K (j + 1)) 1, a_variedVariable, a_stands, a_number, a_isConst, a_needed, a_inputs, a_values, a_variables, a_cells, a_outs, a_was, a_rest, a_line)) :
    ∀ (d i : Nat) (x2 : Int32), i + d = n → ((x2 = 0 ∧ ¬ F ∧ ∀ q, q < i → K q = 24 → ¬ vr_brk K a_as (xv_V a_varied) False (sc_lf K q) (j + 1)) ∨ (x2 = 1 ∧ (F ∨ ∃ q, q < n ∧ K q = 24 ∧ vr_brk K a_as (xv_V a_varied) False (sc_lf K q) (j + 1)))) → wY_loosen_41 post (nI (sc_cnt K (j + 1))) (nI n) f_known f_wrong f_place f_blocks f_steps f_dropped f_on f_next f_again f_depth a_ops a_as a_bs a_cs a_blockOf a_opener a_around a_other a_end a_open a_varied a_loose a_variedVariable a_stands a_number a_isConst a_needed a_inputs a_values a_variables a_cells a_outs a_was a_rest a_line (d + 1) x2 (nI i) := by
  have hP' := hP
  obtain ⟨hn, hK, hg, h4, hok, hB, hA⟩ := hP'
  have cle := sc_cnt_le (K := K) (j + 1)
  have ib : vp_in (nI (sc_cnt K (j + 1))) 97 := vp_in_nI (by omega) (by omega)
  have cc : (nI (sc_cnt K (j + 1))).toNatClampNeg = sc_cnt K (j + 1) := nI_clamp (by omega)
  have mle := sc_mt_le (sc_good_le hg (show j + 1 ≤ n by omega))
  have mk := sc_mtK (hg j hj) ho
  have cm : (nI (sc_mt K j)).toNatClampNeg = sc_mt K j := nI_clamp (by omega)
  have k25m := (hK (sc_mt K j) (by omega)).2
  have fin : ∀ x2 : Int32, ((x2 = 0 ∧ ¬ F ∧ ∀ q, q < n → K q = 24 → ¬ vr_brk K a_as (xv_V a_varied) False (sc_lf K q) (j + 1)) ∨ (x2 = 1 ∧ (F ∨ ∃ q, q < n ∧ K q = 24 ∧ vr_brk K a_as (xv_V a_varied) False (sc_lf K q) (j + 1)))) → (vp_in (nI (sc_cnt K (j + 1))) 97 ∧ ∀ lo : Nat → Int32, lo = upd a_loose (nI (sc_cnt K (j + 1))).toNatClampNeg (vp_nar .boolean x2) → (narrow .boolean (.int x2) = .int x2 ∧ post x2 (nI n, f_known, f_wrong, f_place, f_blocks, f_steps, f_dropped, f_on, f_next, f_again, f_depth, a_ops, a_as, a_bs, a_cs, a_blockOf, a_opener, a_around, a_other, a_end, a_open, a_varied, lo, a_variedVariable, a_stands, a_number, a_isConst, a_needed, a_inputs, a_values, a_variables, a_cells, a_outs, a_was, a_rest, a_line))) := by
    intro x2 h
    refine ⟨ib, ?_⟩
    rw [cc]
    rcases h with ⟨e, hF, hall⟩ | ⟨e, h⟩
    · rw [e]
      refine nm_r (e' := a_loose) (by rw [xv_nar0]; exact up_same hz) ⟨xs_nb0, h0 hF hall⟩
    · rw [e]
      exact nm_r (by rw [xv_nar1]) ⟨xs_nb1, h1 h⟩
  intro d
  induction d with
  | zero =>
    intro i x2 hi hst
    cases (show i = n by omega)
    exact br_t (nI_le (Nat.le_refl _) (by omega)) (fin x2 hst)
  | succ d ih =>
    intro i x2 hi hst
    have ci : (nI i).toNatClampNeg = i := nI_clamp (by omega)
    have k25 := (hK i (by omega)).2
    refine br_f (nI_ge (by omega) (by omega)) ⟨ib, ?_⟩
    rw [cc, (hA j hj ho).2, cm, (hK (sc_mt K j) (by omega)).1]
    refine ⟨vp_in_nI (by omega) (by omega), pk_eq (K (sc_mt K j)) 22 (fun h22 => ⟨vp_in_nI (by omega) (by omega), ?_⟩) (fun h22 => ?_)⟩
    · have keep : (K i = 24 → ¬ vr_brk K a_as (xv_V a_varied) False (sc_lf K i) (j + 1)) → wY_loosen_41 post (nI (sc_cnt K (j + 1))) (nI n) f_known f_wrong f_place f_blocks f_steps f_dropped f_on f_next f_again f_depth a_ops a_as a_bs a_cs a_blockOf a_opener a_around a_other a_end a_open a_varied a_loose a_variedVariable a_stands a_number a_isConst a_needed a_inputs a_values a_variables a_cells a_outs a_was a_rest a_line (d + 1) (x2 ||| 0) (nI (i + 1)) := by
        intro hno
        rcases hst with ⟨e, hF, hall⟩ | ⟨e, h⟩
        · rw [e, or_00]
          refine ih (i + 1) 0 (by omega) (Or.inl ⟨rfl, hF, fun q hq hk => ?_⟩)
          by_cases e' : q = i
          · rw [e'] at hk ⊢; exact hno hk
          · exact hall q (by omega) hk
        · rw [e, or_10]; exact ih (i + 1) 1 (by omega) (Or.inr ⟨rfl, h⟩)
      rw [ci, (hK i (by omega)).1]
      refine pk_eq (K i) 24 (fun h24 => ?_) (fun h24 => nm_e (nm_r (nI_1 i) (keep (fun h => absurd h h24))))
      refine yv_leaves (K := K) (n := n) hP (by omega) hj ho h24 (fun hbr => br_f (by decide) (nm_r (e' := 1) ?_ (nm_r (nI_1 i) (ih (i + 1) 1 (by omega) (Or.inr ⟨rfl, Or.inr ⟨i, by omega, h24, hbr⟩⟩))))) (fun hbr => br_t rfl (nm_e (nm_r (nI_1 i) (keep (fun _ => hbr)))))
      rcases hst with ⟨e, _⟩ | ⟨e, _⟩
      · rw [e]; exact or_01
      · rw [e]; exact or_11
    · have h := fin x2 (by
        rcases hst with ⟨e, hF, hall⟩ | h
        · refine Or.inl ⟨e, hF, fun q hq hk hb => ?_⟩
          have := vr_brk_loop hg hq hk hb
          exact h22 (mk.1 this)
        · exact Or.inr h)
      rw [cc] at h
      exact h
theorem yv_loosen (hP : yv_P K n a_ops a_as a_bs a_cs a_blockOf a_opener a_around) {post : Int32 → SY → Prop} {j : Nat} (hj : j < n) (ho : K j = 19 ∨ K j = 20 ∨ K j = 22)
    (h0 : vr_s2 K a_as (xv_V a_varied) (yv_L K a_loose) j → (∀ i, i < n → K i = 24 → vr_brk K a_as (xv_V a_varied) False (sc_lf K i) (j + 1) → yv_L K a_loose (j + 1)) → post 0 (nI n, f_known, f_wrong, f_place, f_blocks, f_steps, f_dropped, f_on, f_next, f_again, f_depth, a_ops, a_as, a_bs, a_cs, a_blockOf, a_opener, a_around, a_other, a_end, a_open, a_varied, a_loose, a_variedVariable, a_stands, a_number, a_isConst, a_needed, a_inputs, a_values, a_variables, a_cells, a_outs, a_was, a_rest, a_line))
    (h1 : ∀ lo, yv_up K a_as a_bs a_cs n a_varied a_loose a_variedVariable a_varied lo a_variedVariable → post 1 (nI n, f_known, f_wrong, f_place, f_blocks, f_steps, f_dropped, f_on, f_next, f_again, f_depth, a_ops, a_as, a_bs, a_cs, a_blockOf, a_opener, a_around, a_other, a_end, a_open, a_varied, lo, a_variedVariable, a_stands, a_number, a_isConst, a_needed, a_inputs, a_values, a_variables, a_cells, a_outs, a_was, a_rest, a_line)) : wpY_loosen post (nI n, f_known, f_wrong, f_place, f_blocks, f_steps, f_dropped, f_on, f_next, f_again, f_depth, a_ops, a_as, a_bs, a_cs, a_blockOf, a_opener, a_around, a_other, a_end, a_open, a_varied, a_loose, a_variedVariable, a_stands, a_number, a_isConst, a_needed, a_inputs, a_values, a_variables, a_cells, a_outs, a_was, a_rest, a_line) (nI (sc_cnt K (j + 1))) := by
  have hP' := hP
  obtain ⟨hn, hK, hg, h4, hok, hB, hA⟩ := hP'
  have cle := sc_cnt_le (K := K) (j + 1)
  have ib : vp_in (nI (sc_cnt K (j + 1))) 97 := vp_in_nI (by omega) (by omega)
  have cc : (nI (sc_cnt K (j + 1))).toNatClampNeg = sc_cnt K (j + 1) := nI_clamp (by omega)
  have gj : sc_good K (j + 1) := sc_good_le hg (by omega)
  have hle := sc_hdl_le gj
  have cle2 := sc_cnt_le (K := K) (sc_hd (sc_lf K j))
  have ex41 : a_loose (sc_cnt K (j + 1)) = 0 → ∀ (x2 : Int32) (F : Prop), (F ↔ (yv_L K a_loose (sc_hd (sc_lf K j)) ∨ (K j ≠ 22 ∧ xv_V a_varied (a_as (sc_mt K j)).toNatClampNeg))) → (x2 = 0 ∧ ¬ F ∨ x2 = 1 ∧ F) → ∃ m, wY_loosen_41 post (nI (sc_cnt K (j + 1))) (nI n) f_known f_wrong f_place f_blocks f_steps f_dropped f_on f_next f_again f_depth a_ops a_as a_bs a_cs a_blockOf a_opener a_around a_other a_end a_open a_varied a_loose a_variedVariable a_stands a_number a_isConst a_needed a_inputs a_values a_variables a_cells a_outs a_was a_rest a_line m x2 0 := by
    intro hz x2 F hF hx
    refine ⟨n + 1, yv_loosen41 (K := K) (n := n) hP hj ho hz (F := F) (fun nF hall => h0 (fun _ h => absurd (hF.mpr h) nF) (fun i hi hk hb => absurd hb (hall i hi hk))) (fun h => h1 _ ⟨?_, ?_⟩) n 0 x2 (by omega) ?_⟩
    · refine vr_sndL (b := j + 1) (fun V L W hc s => ?_) (fun c hco hm => ?_)
      · rcases h with h | ⟨i, hi, hk, hb⟩
        · refine (hc j hj).2.1 ho ?_
          rcases hF.mp h with h | ⟨hk, h⟩
          · exact Or.inl (s.2.1 _ (by omega) (sc_hdl_op gj) h)
          · refine Or.inr ⟨hk, s.1 _ ?_ h⟩
            have mle := sc_mt_le gj
            have mk := sc_mtK (hg j hj) ho
            have := mk.2 hk
            obtain ⟨x, hx, ex, _⟩ := hok (sc_mt K j) (by omega) 0 (by omega) (by unfold sc_us; omega)
            rw [show a_as (sc_mt K j) = nI x from ex, nI_clamp (by omega)]; omega
        · refine (hc i hi).2.2 hk (j + 1) ?_
          have el : sc_lf K i = sc_fr K i := sc_lf_n (by omega)
          rw [el] at hb ⊢
          refine vr_brk_mono _ _ _ _ (fun h => h) (fun f hf hV hk' => s.1 _ ?_ hV) hb
          obtain ⟨r', T'⟩ := sc_memT (b := f.1) (m := f.2) (sc_good_le hg (show i ≤ n by omega)) hf
          have kf : K f.2 = 19 := by
            rcases T'.2.2.2.1 with ⟨_, h''⟩ | ⟨_, h'', _⟩
            · omega
            · exact h''
          have := T'.2.1
          have := T'.2.2.1
          obtain ⟨x, hx, ex, _⟩ := hok f.2 (by omega) 0 (by omega) (by unfold sc_us; omega)
          rw [show a_as f.2 = nI x from ex, nI_clamp (by omega)]; omega
      · unfold yv_L at hm ⊢
        by_cases e : sc_cnt K c = sc_cnt K (j + 1)
        · exact Or.inl (sc_cnt_inj hco (Or.inr (by rw [Nat.add_sub_cancel]; exact ho)) e)
        · rw [pk_un e] at hm; exact Or.inr hm
    · have := cz_lt (x := 1) hz (by decide) 97 (by omega)
      unfold yv_mu; omega
    · rcases hx with ⟨e, h⟩ | ⟨e, h⟩
      · exact Or.inl ⟨e, h, fun q hq => by omega⟩
      · exact Or.inr ⟨e, Or.inl h⟩
  refine ⟨ib, ?_⟩
  rw [cc, (hA j hj ho).1, nI_clamp (by omega)]
  refine br_c (fun hz => ⟨ib, vp_in_nI (by omega) (by omega), br_c (fun hzz => ?_) (fun hzz => ex41 hz 1 _ Iff.rfl (Or.inr ⟨rfl, Or.inl hzz⟩))⟩) (fun hz => h0 (fun _ _ => hz) (fun _ _ _ _ => hz))
  refine yv_split (K := K) (n := n) hP hj ho (fun hk hv => br_f (by decide) (ex41 hz 1 _ Iff.rfl (Or.inr ⟨rfl, Or.inr ⟨hk, hv⟩⟩))) (fun hno => br_t rfl (ex41 hz 0 _ Iff.rfl (Or.inl ⟨rfl, ?_⟩)))
  rintro (h | ⟨hk, h⟩)
  · exact h hzz
  · exact hno hk h
end
