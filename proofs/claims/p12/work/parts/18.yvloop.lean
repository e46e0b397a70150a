section
variable {K : Nat → Nat} {n : Nat}
variable {f_lines f_known f_wrong f_place f_blocks f_steps f_dropped f_on f_next f_again f_depth : Int32} {a_ops a_as a_bs a_cs a_blockOf a_opener a_around a_other a_end a_open a_varied a_loose a_variedVariable a_stands a_number a_isConst a_needed a_inputs a_values a_variables a_cells a_outs a_was a_rest a_line : Nat → Int32}
theorem sc_cnt_surj : ∀ n b : Nat, 1 ≤ b → b ≤ sc_cnt K n → ∃ j, j < n ∧ (K j = 19 ∨ K j = 20 ∨ K j = 22) ∧ sc_cnt K (j + 1) = b := by
  intro n
  induction n with
  | zero => intro b h1 h2; simp only [sc_cnt] at h2; omega
  | succ n ih =>
    intro b h1 h2
    by_cases ho : K n = 19 ∨ K n = 20 ∨ K n = 22
    · rw [sc_cnt_op ho] at h2
      by_cases e : b = sc_cnt K n + 1
      · exact ⟨n, by omega, ho, by rw [sc_cnt_op ho, e]⟩
      · obtain ⟨j, hj, h⟩ := ih b h1 (by omega)
        exact ⟨j, by omega, h⟩
    · rw [sc_cnt_n ho] at h2
      obtain ⟨j, hj, h⟩ := ih b h1 h2
      exact ⟨j, by omega, h⟩
def yv_st (K : Nat → Nat) (A B C va lo vv : Nat → Int32) (n i b : Nat) : Prop :=
  (∀ q, q < i → vr_s1 K A B C (xv_V va) (yv_L K lo) (xv_V vv) q) ∧
  (∀ j, j < n → (K j = 19 ∨ K j = 20 ∨ K j = 22) → sc_cnt K (j + 1) < b → vr_s2 K A (xv_V va) (yv_L K lo) j ∧ ∀ q, q < n → K q = 24 → vr_brk K A (xv_V va) False (sc_lf K q) (j + 1) → yv_L K lo (j + 1))
theorem yv_96 (hP : yv_P K n a_ops a_as a_bs a_cs a_blockOf a_opener a_around) {post : SY → Prop} {J : Int32 → Int32 → Int32 → Int32 → Int32 → Int32 → Int32 → Int32 → Int32 → Int32 → Int32 → Int32 → (Nat → Int32) → (Nat → Int32) → (Nat → Int32) → (Nat → Int32) → (Nat → Int32) → (Nat → Int32) → (Nat → Int32) → (Nat → Int32) → (Nat → Int32) → (Nat → Int32) → (Nat → Int32) → (Nat → Int32) → (Nat → Int32) → (Nat → Int32) → (Nat → Int32) → (Nat → Int32) → (Nat → Int32) → (Nat → Int32) → (Nat → Int32) → (Nat → Int32) → (Nat → Int32) → (Nat → Int32) → (Nat → Int32) → (Nat → Int32) → (Nat → Int32) → Prop}
    (hend0 : yv_st K a_as a_bs a_cs a_varied a_loose a_variedVariable n n (sc_cnt K n + 1) → J 0 (nI n) f_known f_wrong f_place (nI (sc_cnt K n + 1)) f_steps f_dropped f_on f_next f_again f_depth a_ops a_as a_bs a_cs a_blockOf a_opener a_around a_other a_end a_open a_varied a_loose a_variedVariable a_stands a_number a_isConst a_needed a_inputs a_values a_variables a_cells a_outs a_was a_rest a_line)
    (hend1 : ∀ va lo vv, vr_snd K a_as a_bs a_cs n (xv_V va) (yv_L K lo) (xv_V vv) → yv_mu va lo vv < yv_mu a_varied a_loose a_variedVariable → J 1 (nI n) f_known f_wrong f_place (nI (sc_cnt K n + 1)) f_steps f_dropped f_on f_next f_again f_depth a_ops a_as a_bs a_cs a_blockOf a_opener a_around a_other a_end a_open va lo vv a_stands a_number a_isConst a_needed a_inputs a_values a_variables a_cells a_outs a_was a_rest a_line) :
    ∀ (d b : Nat) (x1 : Int32) (va lo vv : Nat → Int32), 1 ≤ b → b + d = sc_cnt K n + 1 → ((x1 = 0 ∧ va = a_varied ∧ lo = a_loose ∧ vv = a_variedVariable ∧ yv_st K a_as a_bs a_cs va lo vv n n b) ∨ (x1 = 1 ∧ yv_mu va lo vv < yv_mu a_varied a_loose a_variedVariable)) → vr_snd K a_as a_bs a_cs n (xv_V va) (yv_L K lo) (xv_V vv) →
      wY_spread_96 post J (d + 1) x1 (nI b) (nI n) f_known f_wrong f_place (nI (sc_cnt K n + 1)) f_steps f_dropped f_on f_next f_again f_depth a_ops a_as a_bs a_cs a_blockOf a_opener a_around a_other a_end a_open va lo vv a_stands a_number a_isConst a_needed a_inputs a_values a_variables a_cells a_outs a_was a_rest a_line := by
  have hn := hP.1
  have cn := sc_cnt_le (K := K) n
  intro d
  induction d with
  | zero =>
    intro b x1 va lo vv hb1 hb hst hs
    have eb : b = sc_cnt K n + 1 := by omega
    subst eb
    refine br_t (nI_le (Nat.le_refl _) (by omega)) ?_
    rcases hst with ⟨rfl, rfl, rfl, rfl, hall⟩ | ⟨rfl, hmu⟩
    · exact hend0 hall
    · exact hend1 va lo vv hs hmu
  | succ d ih =>
    intro b x1 va lo vv hb1 hb hst hs
    obtain ⟨j, hj, ho, ej⟩ := sc_cnt_surj (K := K) n b hb1 (by omega)
    refine br_f (nI_ge (by omega) (by omega)) ?_
    rw [← ej]
    refine yv_loosen (K := K) (n := n) hP hj ho (fun hs2 hs3 => ?_) (fun lo' hu => ?_)
    · refine nm_r (e' := x1) ?_ (nm_r (by rw [ej]; exact nI_1 b) (ih (b + 1) x1 va lo vv (by omega) (by omega) ?_ hs))
      · rcases hst with ⟨rfl, _⟩ | ⟨rfl, _⟩
        · exact or_00
        · exact or_10
      · rcases hst with ⟨e0, e1, e2, e3, hall⟩ | h
        · refine Or.inl ⟨e0, e1, e2, e3, hall.1, fun j' hj' ho' hlt => ?_⟩
          by_cases e : sc_cnt K (j' + 1) = b
          · have : j' + 1 = j + 1 := sc_cnt_inj (Or.inr (by rw [Nat.add_sub_cancel]; exact ho')) (Or.inr (by rw [Nat.add_sub_cancel]; exact ho)) (by rw [e, ej])
            have : j' = j := by omega
            subst this
            exact ⟨hs2, hs3⟩
          · exact hall.2 j' hj' ho' (by omega)
        · exact Or.inr h
    · refine nm_r (e' := 1) ?_ (nm_r (by rw [ej]; exact nI_1 b) (ih (b + 1) 1 va lo' vv (by omega) (by omega) (Or.inr ⟨rfl, ?_⟩) (hu.1 hs)))
      · rcases hst with ⟨rfl, _⟩ | ⟨rfl, _⟩
        · exact or_01
        · exact or_11
      · have := hu.2
        rcases hst with ⟨_, rfl, rfl, rfl, _⟩ | ⟨_, h⟩
        · exact this
        · omega
theorem yv_72 (hP : yv_P K n a_ops a_as a_bs a_cs a_blockOf a_opener a_around) {post : SY → Prop} {J : Int32 → Int32 → Int32 → Int32 → Int32 → Int32 → Int32 → Int32 → Int32 → Int32 → Int32 → Int32 → (Nat → Int32) → (Nat → Int32) → (Nat → Int32) → (Nat → Int32) → (Nat → Int32) → (Nat → Int32) → (Nat → Int32) → (Nat → Int32) → (Nat → Int32) → (Nat → Int32) → (Nat → Int32) → (Nat → Int32) → (Nat → Int32) → (Nat → Int32) → (Nat → Int32) → (Nat → Int32) → (Nat → Int32) → (Nat → Int32) → (Nat → Int32) → (Nat → Int32) → (Nat → Int32) → (Nat → Int32) → (Nat → Int32) → (Nat → Int32) → (Nat → Int32) → Prop}
    (hend0 : yv_st K a_as a_bs a_cs a_varied a_loose a_variedVariable n n (sc_cnt K n + 1) → J 0 (nI n) f_known f_wrong f_place (nI (sc_cnt K n + 1)) f_steps f_dropped f_on f_next f_again f_depth a_ops a_as a_bs a_cs a_blockOf a_opener a_around a_other a_end a_open a_varied a_loose a_variedVariable a_stands a_number a_isConst a_needed a_inputs a_values a_variables a_cells a_outs a_was a_rest a_line)
    (hend1 : ∀ va lo vv, vr_snd K a_as a_bs a_cs n (xv_V va) (yv_L K lo) (xv_V vv) → yv_mu va lo vv < yv_mu a_varied a_loose a_variedVariable → J 1 (nI n) f_known f_wrong f_place (nI (sc_cnt K n + 1)) f_steps f_dropped f_on f_next f_again f_depth a_ops a_as a_bs a_cs a_blockOf a_opener a_around a_other a_end a_open va lo vv a_stands a_number a_isConst a_needed a_inputs a_values a_variables a_cells a_outs a_was a_rest a_line) :
    ∀ (d i : Nat) (x1 : Int32) (va vv : Nat → Int32), i + d = n → ((x1 = 0 ∧ va = a_varied ∧ vv = a_variedVariable ∧ ∀ q, q < i → vr_s1 K a_as a_bs a_cs (xv_V va) (yv_L K a_loose) (xv_V vv) q) ∨ (x1 = 1 ∧ yv_mu va a_loose vv < yv_mu a_varied a_loose a_variedVariable)) → vr_snd K a_as a_bs a_cs n (xv_V va) (yv_L K a_loose) (xv_V vv) →
      wY_spread_72 post J (d + 1) x1 (nI i) (nI n) f_known f_wrong f_place (nI (sc_cnt K n + 1)) f_steps f_dropped f_on f_next f_again f_depth a_ops a_as a_bs a_cs a_blockOf a_opener a_around a_other a_end a_open va a_loose vv a_stands a_number a_isConst a_needed a_inputs a_values a_variables a_cells a_outs a_was a_rest a_line := by
  have hP' := hP
  obtain ⟨hn, hK, hg, h4, hok, hB, hA⟩ := hP'
  intro d
  induction d with
  | zero =>
    intro i x1 va vv hi hst hs
    cases (show i = n by omega)
    refine br_t (nI_le (Nat.le_refl _) (by omega)) ⟨sc_cnt K n + 1, ?_⟩
    refine yv_96 (K := K) (n := n) (post := post) (J := J) (a_varied := a_varied) (a_variedVariable := a_variedVariable) hP hend0 hend1 (sc_cnt K n) 1 x1 va a_loose vv (by omega) (by omega) ?_ hs
    rcases hst with ⟨e0, e1, e3, hall⟩ | h
    · refine Or.inl ⟨e0, e1, rfl, e3, hall, fun j hj ho hlt => ?_⟩
      rw [sc_cnt_op ho] at hlt; omega
    · exact Or.inr h
  | succ d ih =>
    intro i x1 va vv hi hst hs
    refine br_f (nI_ge (by omega) (by omega)) ?_
    refine yv_vary (K := K) (n := n) hn hK hg h4 hok hB (by omega) (fun hs1 => ?_) (fun va' vv' hu => ?_)
    · refine nm_r (e' := x1) ?_ (nm_r (nI_1 i) (ih (i + 1) x1 va vv (by omega) ?_ hs))
      · rcases hst with ⟨rfl, _⟩ | ⟨rfl, _⟩
        · exact or_00
        · exact or_10
      · rcases hst with ⟨e0, e1, e3, hall⟩ | h
        · refine Or.inl ⟨e0, e1, e3, fun q hq => ?_⟩
          by_cases e : q = i
          · rw [e]; exact hs1
          · exact hall q (by omega)
        · exact Or.inr h
    · refine nm_r (e' := 1) ?_ (nm_r (nI_1 i) (ih (i + 1) 1 va' vv' (by omega) (Or.inr ⟨rfl, ?_⟩) (hu.1 hs)))
      · rcases hst with ⟨rfl, _⟩ | ⟨rfl, _⟩
        · exact or_01
        · exact or_11
      · have := hu.2
        rcases hst with ⟨_, rfl, rfl, _⟩ | ⟨_, h⟩
        · exact this
        · omega
theorem yv_64 (hP : yv_P K n a_ops a_as a_bs a_cs a_blockOf a_opener a_around) {post : SY → Prop}
    (hpost : ∀ va lo vv, vr_least K a_as a_bs a_cs n (xv_V va) (yv_L K lo) (xv_V vv) → post (nI n, f_known, f_wrong, f_place, nI (sc_cnt K n + 1), f_steps, f_dropped, f_on, f_next, f_again, f_depth, a_ops, a_as, a_bs, a_cs, a_blockOf, a_opener, a_around, a_other, a_end, a_open, va, lo, vv, a_stands, a_number, a_isConst, a_needed, a_inputs, a_values, a_variables, a_cells, a_outs, a_was, a_rest, a_line)) :
    ∀ (M : Nat) (va lo vv : Nat → Int32), yv_mu va lo vv ≤ M → vr_snd K a_as a_bs a_cs n (xv_V va) (yv_L K lo) (xv_V vv) → wY_spread_64 post (M + 2) 1 (nI n) f_known f_wrong f_place (nI (sc_cnt K n + 1)) f_steps f_dropped f_on f_next f_again f_depth a_ops a_as a_bs a_cs a_blockOf a_opener a_around a_other a_end a_open va lo vv a_stands a_number a_isConst a_needed a_inputs a_values a_variables a_cells a_outs a_was a_rest a_line := by
  have hn := hP.1
  have hg := hP.2.2.1
  have fin : ∀ (m : Nat) (va lo vv : Nat → Int32), vr_snd K a_as a_bs a_cs n (xv_V va) (yv_L K lo) (xv_V vv) → yv_st K a_as a_bs a_cs va lo vv n n (sc_cnt K n + 1) → wY_spread_64 post (m + 1) 0 (nI n) f_known f_wrong f_place (nI (sc_cnt K n + 1)) f_steps f_dropped f_on f_next f_again f_depth a_ops a_as a_bs a_cs a_blockOf a_opener a_around a_other a_end a_open va lo vv a_stands a_number a_isConst a_needed a_inputs a_values a_variables a_cells a_outs a_was a_rest a_line := by
    intro m va lo vv hs hst
    refine br_t rfl (hpost va lo vv ⟨fun i hi => ⟨hst.1 i hi, fun ho h => ?_, fun hk b hb => ?_⟩, hs⟩)
    · exact (hst.2 i hi ho (by have := sc_cnt_mono (K := K) (show i + 1 ≤ n by omega); omega)).1 ho h
    · have el : sc_lf K i = sc_fr K i := sc_lf_n (by omega)
      have hb' := hb
      rw [el] at hb'
      obtain ⟨m', hm, km⟩ := vr_brk_mem _ _ _ hb'
      obtain ⟨r, T⟩ := sc_memT (sc_good_le hg (show i ≤ n by omega)) hm
      have tb := T.2.1
      have tb1 := T.1
      have eb : b - 1 + 1 = b := by omega
      have := (hst.2 (b - 1) (by omega) T.2.2.2.2.2.2.2.1 (by have := sc_cnt_mono (K := K) (show b - 1 + 1 ≤ n by omega); omega)).2 i hi hk
      rw [eb] at this
      exact this hb
  intro M
  induction M with
  | zero =>
    intro va lo vv hmu hs
    refine br_f (by decide) ⟨n + 1, ?_⟩
    exact yv_72 (K := K) (n := n) (post := post) (J := wY_spread_64 post 1) hP (fun hst => fin 0 va lo vv hs hst) (fun va' lo' vv' _ h => absurd h (by omega)) n 0 0 va vv (by omega) (Or.inl ⟨rfl, rfl, rfl, fun q hq => by omega⟩) hs
  | succ M ih =>
    intro va lo vv hmu hs
    refine br_f (by decide) ⟨n + 1, ?_⟩
    exact yv_72 (K := K) (n := n) (post := post) (J := wY_spread_64 post (M + 2)) hP (fun hst => fin (M + 1) va lo vv hs hst) (fun va' lo' vv' hs' h => ih va' lo' vv' (by omega) hs') n 0 0 va vv (by omega) (Or.inl ⟨rfl, rfl, rfl, fun q hq => by omega⟩) hs
theorem yv_44 {post : SY → Prop} (h : ∃ m, wY_spread_64 post m 1 f_lines f_known f_wrong f_place f_blocks f_steps f_dropped f_on f_next f_again f_depth a_ops a_as a_bs a_cs a_blockOf a_opener a_around a_other a_end a_open a_varied a_loose (cl_z 4 a_variedVariable) a_stands a_number a_isConst a_needed a_inputs a_values a_variables a_cells a_outs a_was a_rest a_line) : ∀ d i : Nat, i + d = 4 → wY_spread_44 post f_lines f_known f_wrong f_place f_blocks f_steps f_dropped f_on f_next f_again f_depth (d + 1) (nI i) a_ops a_as a_bs a_cs a_blockOf a_opener a_around a_other a_end a_open a_varied a_loose (cl_z i a_variedVariable) a_stands a_number a_isConst a_needed a_inputs a_values a_variables a_cells a_outs a_was a_rest a_line := by
  intro d
  induction d with
  | zero => intro i hi; cases (show i = 4 by omega); exact br_t (by decide) h
  | succ d ih =>
    intro i hi
    exact br_f (nI_ge (b := 4) (by omega) (by decide)) ⟨vp_in_nI (by omega) (by omega), nm_r (by rw [nI_clamp (by omega), xv_nar0]; exact cl_s i _) (nm_r (nI_1 i) (ih (i + 1) (by omega)))⟩
theorem yv_23 {post : SY → Prop} (h : ∃ m, wY_spread_64 post m 1 f_lines f_known f_wrong f_place f_blocks f_steps f_dropped f_on f_next f_again f_depth a_ops a_as a_bs a_cs a_blockOf a_opener a_around a_other a_end a_open a_varied (cl_z 97 a_loose) (cl_z 4 a_variedVariable) a_stands a_number a_isConst a_needed a_inputs a_values a_variables a_cells a_outs a_was a_rest a_line) : ∀ d i : Nat, i + d = 97 → wY_spread_23 post f_lines f_known f_wrong f_place f_blocks f_steps f_dropped f_on f_next f_again f_depth (d + 1) (nI i) a_ops a_as a_bs a_cs a_blockOf a_opener a_around a_other a_end a_open a_varied (cl_z i a_loose) a_variedVariable a_stands a_number a_isConst a_needed a_inputs a_values a_variables a_cells a_outs a_was a_rest a_line := by
  intro d
  induction d with
  | zero =>
    intro i hi
    cases (show i = 97 by omega)
    refine br_t (by decide) ⟨5, ?_⟩
    rw [← cl_0 a_variedVariable]
    exact yv_44 h 4 0 rfl
  | succ d ih =>
    intro i hi
    exact br_f (nI_ge (b := 97) (by omega) (by decide)) ⟨vp_in_nI (by omega) (by omega), nm_r (by rw [nI_clamp (by omega), xv_nar0]; exact cl_s i _) (nm_r (nI_1 i) (ih (i + 1) (by omega)))⟩
theorem yv_2 {post : SY → Prop} (h : ∃ m, wY_spread_64 post m 1 f_lines f_known f_wrong f_place f_blocks f_steps f_dropped f_on f_next f_again f_depth a_ops a_as a_bs a_cs a_blockOf a_opener a_around a_other a_end a_open (cl_z 48 a_varied) (cl_z 97 a_loose) (cl_z 4 a_variedVariable) a_stands a_number a_isConst a_needed a_inputs a_values a_variables a_cells a_outs a_was a_rest a_line) : ∀ d i : Nat, i + d = 48 → wY_spread_2 post f_lines f_known f_wrong f_place f_blocks f_steps f_dropped f_on f_next f_again f_depth (d + 1) (nI i) a_ops a_as a_bs a_cs a_blockOf a_opener a_around a_other a_end a_open (cl_z i a_varied) a_loose a_variedVariable a_stands a_number a_isConst a_needed a_inputs a_values a_variables a_cells a_outs a_was a_rest a_line := by
  intro d
  induction d with
  | zero =>
    intro i hi
    cases (show i = 48 by omega)
    refine br_t (by decide) ⟨98, ?_⟩
    rw [← cl_0 a_loose]
    exact yv_23 h 97 0 rfl
  | succ d ih =>
    intro i hi
    exact br_f (nI_ge (b := 48) (by omega) (by decide)) ⟨vp_in_nI (by omega) (by omega), nm_r (by rw [nI_clamp (by omega), xv_nar0]; exact cl_s i _) (nm_r (nI_1 i) (ih (i + 1) (by omega)))⟩
theorem yv_spread (hP : yv_P K n a_ops a_as a_bs a_cs a_blockOf a_opener a_around) {post : SY → Prop}
    (hpost : ∀ va lo vv, vr_least K a_as a_bs a_cs n (xv_V va) (yv_L K lo) (xv_V vv) → post (nI n, f_known, f_wrong, f_place, nI (sc_cnt K n + 1), f_steps, f_dropped, f_on, f_next, f_again, f_depth, a_ops, a_as, a_bs, a_cs, a_blockOf, a_opener, a_around, a_other, a_end, a_open, va, lo, vv, a_stands, a_number, a_isConst, a_needed, a_inputs, a_values, a_variables, a_cells, a_outs, a_was, a_rest, a_line)) : wpY_spread post (nI n, f_known, f_wrong, f_place, nI (sc_cnt K n + 1), f_steps, f_dropped, f_on, f_next, f_again, f_depth, a_ops, a_as, a_bs, a_cs, a_blockOf, a_opener, a_around, a_other, a_end, a_open, a_varied, a_loose, a_variedVariable, a_stands, a_number, a_isConst, a_needed, a_inputs, a_values, a_variables, a_cells, a_outs, a_was, a_rest, a_line) := by
  refine ⟨49, ?_⟩
  rw [← cl_0 a_varied]
  refine yv_2 ?_ 48 0 rfl
  refine ⟨_, yv_64 (K := K) (n := n) hP hpost 149 _ _ _ ?_ ?_⟩
  · have := cz_le (cl_z 48 a_varied) 48
    have := cz_le (cl_z 97 a_loose) 97
    have := cz_le (cl_z 4 a_variedVariable) 4
    unfold yv_mu; omega
  · intro V L W _
    have hn := hP.1
    refine ⟨fun i hi h => absurd (cl_lt _ (by omega)) h, fun b hb _ h => absurd (cl_lt _ ?_) h, fun v hv h => absurd (cl_lt _ hv) h⟩
    have := sc_cnt_le (K := K) b; omega
/-- Y's look for the fourth sort -/
theorem yv_495End {post : SY → Prop} {x3 w p : Int32} {d : Nat} (hw : w ≠ 0) (h : wY_look_565 post f_lines f_known w p f_blocks f_steps f_dropped f_on f_next f_again f_depth a_ops a_as a_bs a_cs a_blockOf a_opener a_around a_other a_end a_open a_varied a_loose a_variedVariable a_stands a_number a_isConst a_needed a_inputs a_values a_variables a_cells a_outs a_was a_rest a_line) : wY_look_495 post f_lines f_known f_blocks f_steps f_dropped f_on f_next f_again f_depth a_ops a_as a_bs a_cs a_blockOf a_opener a_around a_other a_end a_open a_varied a_loose a_variedVariable a_stands a_number a_isConst a_needed a_inputs a_values a_variables a_cells a_outs a_was a_rest a_line (d + 1) x3 w p :=
  br_c (fun _ => h) (fun _ => br_f hw h)
theorem yv_495 (hn : n ≤ 48) (hK : ∀ j, j < n → a_ops j = nI (K j) ∧ K j ≤ 25) (hg : sc_good K n) (hB : ∀ j, j < n → a_blockOf j = nI (sc_cnt K (sc_hd (sc_lf K j)))) {post : SY → Prop} {p : Int32}
    (h4 : ∀ i, i < n → xv_w4 K (yv_L K a_loose) i → (∀ j, j < i → ¬ xv_w4 K (yv_L K a_loose) j) → wY_look_565 post (nI n) f_known 4 (nI i) f_blocks f_steps f_dropped f_on f_next f_again f_depth a_ops a_as a_bs a_cs a_blockOf a_opener a_around a_other a_end a_open a_varied a_loose a_variedVariable a_stands a_number a_isConst a_needed a_inputs a_values a_variables a_cells a_outs a_was a_rest a_line)
    (h0 : (∀ j, j < n → ¬ xv_w4 K (yv_L K a_loose) j) → wY_look_565 post (nI n) f_known 0 p f_blocks f_steps f_dropped f_on f_next f_again f_depth a_ops a_as a_bs a_cs a_blockOf a_opener a_around a_other a_end a_open a_varied a_loose a_variedVariable a_stands a_number a_isConst a_needed a_inputs a_values a_variables a_cells a_outs a_was a_rest a_line) :
    ∀ d i : Nat, i + d = n → (∀ j, j < i → ¬ xv_w4 K (yv_L K a_loose) j) → wY_look_495 post (nI n) f_known f_blocks f_steps f_dropped f_on f_next f_again f_depth a_ops a_as a_bs a_cs a_blockOf a_opener a_around a_other a_end a_open a_varied a_loose a_variedVariable a_stands a_number a_isConst a_needed a_inputs a_values a_variables a_cells a_outs a_was a_rest a_line (d + 2) (nI i) 0 p := by
  intro d
  induction d with
  | zero =>
    intro i hi hno
    cases (show i = n by omega)
    exact br_t (nI_le (Nat.le_refl _) (by omega)) (h0 hno)
  | succ d ih =>
    intro i hi hno
    have ci : (nI i).toNatClampNeg = i := nI_clamp (by omega)
    have hin : vp_in (nI i) 48 := vp_in_nI (by omega) (by omega)
    have ki := hK i (by omega)
    have gi : sc_good K (i + 1) := sc_good_le hg (by omega)
    have hle := sc_hdl_le gi
    have cle := sc_cnt_le (K := K) (sc_hd (sc_lf K i))
    have next : ¬ xv_w4 K (yv_L K a_loose) i → wY_look_495 post (nI n) f_known f_blocks f_steps f_dropped f_on f_next f_again f_depth a_ops a_as a_bs a_cs a_blockOf a_opener a_around a_other a_end a_open a_varied a_loose a_variedVariable a_stands a_number a_isConst a_needed a_inputs a_values a_variables a_cells a_outs a_was a_rest a_line (d + 2) (nI (i + 1)) 0 p := fun h =>
      ih (i + 1) (by omega) (fun j hj => by
        by_cases e : j = i
        · rw [e]; exact h
        · exact hno j (by omega))
    have t532 : (K i = 12 ∨ K i = 13) → wY_look_532 post (wY_look_495 post (nI n) f_known f_blocks f_steps f_dropped f_on f_next f_again f_depth a_ops a_as a_bs a_cs a_blockOf a_opener a_around a_other a_end a_open a_varied a_loose a_variedVariable a_stands a_number a_isConst a_needed a_inputs a_values a_variables a_cells a_outs a_was a_rest a_line (d + 2)) (nI i) (nI n) f_known 0 p f_blocks f_steps f_dropped f_on f_next f_again f_depth a_ops a_as a_bs a_cs a_blockOf a_opener a_around a_other a_end a_open a_varied a_loose a_variedVariable a_stands a_number a_isConst a_needed a_inputs a_values a_variables a_cells a_outs a_was a_rest a_line := by
      intro hk
      refine ⟨vp_in_nI (by omega) (by omega), ?_⟩
      rw [ci, hB i (by omega), nI_clamp (by omega)]
      exact ⟨vp_in_nI (by omega) (by omega), br_c (fun hz => nm_r (nI_1 i) (next (fun h => h.2 hz))) (fun hz => nm_e (yv_495End (by decide) (h4 i (by omega) ⟨hk, hz⟩ hno)))⟩
    refine br_f (nI_ge (by omega) (by omega)) (br_t rfl ⟨hin, ?_⟩)
    rw [ci, ki.1]
    refine pk_eq (K i) 12 (fun h => t532 (Or.inl h)) (fun h12 => ⟨hin, pk_eq (K i) 13 (fun h => t532 (Or.inr h)) (fun h13 => nm_r (nI_1 i) (next (fun h => ?_)))⟩)
    have := h.1
    omega
end
