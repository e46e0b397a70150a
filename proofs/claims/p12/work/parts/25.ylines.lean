section
variable {K : Nat → Nat} {n : Nat} {T : Nat → Nat × Bool × Int32}
variable {f_lines f_known f_wrong f_place f_blocks f_steps f_dropped f_on f_next f_again f_depth : Int32} {a_ops a_as a_bs a_cs a_blockOf a_opener a_around a_other a_end a_open a_varied a_loose a_variedVariable a_stands a_number a_isConst a_needed a_inputs a_values a_variables a_cells a_outs a_was a_rest a_line : Nat → Int32}
/-- what Y holds as needed to begin with -/
def ny_0 (K : Nat → Nat) (i : Nat) (nd : Nat → Int32) : Prop := ∀ j, j < i → nd j = if 18 ≤ K j ∨ K j = 16 then 1 else 0
def sy_out (K : Nat → Nat) (A B C : Nat → Int32) (T : Nat → Nat × Bool × Int32) (i : Nat) (stands isc num stands' isc' num' : Nat → Int32) : Prop :=
  (∀ j, j < i → stands' j = stands j ∧ isc' j = isc j ∧ num' j = num j) ∧ ∃ o, sh_line K A B C T i o ∧ stands' i = nI o.1 ∧ isc' i = sh_bI o.2.1 ∧ num' i = o.2.2
theorem sy_136 (hP : yv_P K n a_ops a_as a_bs a_cs a_blockOf a_opener a_around) {post : SY → Prop} {J : Int32 → Int32 → Int32 → Int32 → Int32 → Int32 → Int32 → Int32 → Int32 → Int32 → Int32 → Int32 → (Nat → Int32) → (Nat → Int32) → (Nat → Int32) → (Nat → Int32) → (Nat → Int32) → (Nat → Int32) → (Nat → Int32) → (Nat → Int32) → (Nat → Int32) → (Nat → Int32) → (Nat → Int32) → (Nat → Int32) → (Nat → Int32) → (Nat → Int32) → (Nat → Int32) → (Nat → Int32) → (Nat → Int32) → (Nat → Int32) → (Nat → Int32) → (Nat → Int32) → (Nat → Int32) → (Nat → Int32) → (Nat → Int32) → (Nat → Int32) → (Nat → Int32) → Prop} {i : Nat} (hi : i < n) (hR : ∀ j, j < i → a_stands j = nI (T j).1 ∧ a_isConst j = sh_bI (T j).2.1 ∧ a_number j = (T j).2.2) (hg : ∀ j, j < i → (T j).1 ≤ j) (hl : ∀ j, j < i → sh_line K a_as a_bs a_cs T j (T j)) (hc10 : (sh_1 K a_as a_bs a_cs T i).2.1 = true → K i ≤ 10)
    (es : a_stands i = nI (sh_1 K a_as a_bs a_cs T i).1) (hle : (sh_1 K a_as a_bs a_cs T i).1 ≤ i) (ef : a_isConst i = sh_bI (sh_1 K a_as a_bs a_cs T i).2.1) (ew : a_number i = (sh_1 K a_as a_bs a_cs T i).2.2)
    (h : ∀ stands' isc' num', sy_out K a_as a_bs a_cs T i a_stands a_isConst a_number stands' isc' num' → J (nI (i + 1)) f_lines f_known f_wrong f_place f_blocks f_steps f_dropped f_on f_next f_again f_depth a_ops a_as a_bs a_cs a_blockOf a_opener a_around a_other a_end a_open a_varied a_loose a_variedVariable stands' num' isc' a_needed a_inputs a_values a_variables a_cells a_outs a_was a_rest a_line) : wY_shorten_136 post J (nI i) f_lines f_known f_wrong f_place f_blocks f_steps f_dropped f_on f_next f_again f_depth a_ops a_as a_bs a_cs a_blockOf a_opener a_around a_other a_end a_open a_varied a_loose a_variedVariable a_stands a_number a_isConst a_needed a_inputs a_values a_variables a_cells a_outs a_was a_rest a_line := by
  have hP' := hP
  obtain ⟨hn, hK, hgd, h4, hok, hB, hA⟩ := hP'
  have ci : (nI i).toNatClampNeg = i := nI_clamp (by omega)
  have ii : vp_in (nI i) 48 := vp_in_nI (by omega) (by omega)
  have ki := hK i hi
  have stay : ¬ ((sh_1 K a_as a_bs a_cs T i).1 = i ∧ sh_cmp (K i)) → J (nI (i + 1)) f_lines f_known f_wrong f_place f_blocks f_steps f_dropped f_on f_next f_again f_depth a_ops a_as a_bs a_cs a_blockOf a_opener a_around a_other a_end a_open a_varied a_loose a_variedVariable a_stands a_number a_isConst a_needed a_inputs a_values a_variables a_cells a_outs a_was a_rest a_line := fun hno =>
    h a_stands a_isConst a_number ⟨fun j hj => ⟨rfl, rfl, rfl⟩, _, Or.inl ⟨hno, rfl⟩, es, ef, ew⟩
  refine ⟨ii, ?_⟩
  rw [ci, es]
  refine pk_eq (sh_1 K a_as a_bs a_cs T i).1 i (fun eq => ⟨ii, ?_⟩) (fun ne => nm_r (nI_1 i) (stay (fun h => ne h.1)))
  have t188 : sh_cmp (K i) → wY_shorten_188 post J (nI i) f_lines f_known f_wrong f_place f_blocks f_steps f_dropped f_on f_next f_again f_depth a_ops a_as a_bs a_cs a_blockOf a_opener a_around a_other a_end a_open a_varied a_loose a_variedVariable a_stands a_number a_isConst a_needed a_inputs a_values a_variables a_cells a_outs a_was a_rest a_line := fun hc =>
    ⟨i + 2, sy_match2 (K := K) (n := n) (T := T) hP hi hc hR hg hl (by rw [es, eq]) ef ew (fun r hr => nm_r (nI_1 i) (h _ _ _ ⟨fun j hj => ⟨pk_un (by omega), rfl, rfl⟩, _, Or.inr ⟨⟨eq, hc⟩, r, hr, rfl⟩, pk_us, ef, ew⟩)) i 0 (by omega) (fun j hj => by omega)⟩
  rw [ef, ki.1]
  refine br_c (fun hz => ⟨ii, pk_lt (K i) 11 (fun h11 => t188 (by unfold sh_cmp; omega)) (fun h11 => ⟨ii, pk_eq (K i) 12 (fun h12 => t188 (by unfold sh_cmp; omega)) (fun h12 => ⟨ii, pk_eq (K i) 13 (fun h13 => t188 (by unfold sh_cmp; omega)) (fun h13 => nm_r (nI_1 i) (stay (fun h => ?_)))⟩)⟩)⟩) (fun hz => t188 (by have := hc10 (sh_bI_n hz); unfold sh_cmp; omega))
  have := h.2
  unfold sh_cmp at this
  omega
theorem sy_line (hP : yv_P K n a_ops a_as a_bs a_cs a_blockOf a_opener a_around) {post : SY → Prop} {i d : Nat} (hi : i < n) (hR : sh_R T i a_stands a_isConst a_number) (hgT : ∀ j, j < i → sh_good T j) (hl : ∀ j, j < i → sh_line K a_as a_bs a_cs T j (T j))
    (h : ∀ stands' isc' num', sy_out K a_as a_bs a_cs T i a_stands a_isConst a_number stands' isc' num' → wY_shorten_2 post d (nI (i + 1)) (nI n) f_known f_wrong f_place f_blocks f_steps f_dropped f_on f_next f_again f_depth a_ops a_as a_bs a_cs a_blockOf a_opener a_around a_other a_end a_open a_varied a_loose a_variedVariable stands' num' isc' (upd a_needed i (if 18 ≤ K i ∨ K i = 16 then 1 else 0)) a_inputs a_values a_variables a_cells a_outs a_was a_rest a_line) : wY_shorten_2 post (d + 1) (nI i) (nI n) f_known f_wrong f_place f_blocks f_steps f_dropped f_on f_next f_again f_depth a_ops a_as a_bs a_cs a_blockOf a_opener a_around a_other a_end a_open a_varied a_loose a_variedVariable a_stands a_number a_isConst a_needed a_inputs a_values a_variables a_cells a_outs a_was a_rest a_line := by
  have hP' := hP
  obtain ⟨hn, hK, hgd, h4, hok, hB, hA⟩ := hP'
  have ci : (nI i).toNatClampNeg = i := nI_clamp (by omega)
  have ii : vp_in (nI i) 48 := vp_in_nI (by omega) (by omega)
  have ki := hK i hi
  have hg1 : ∀ j, j < i → (T j).1 ≤ j := fun j hj => (hgT j hj).1
  have un : ∀ {f : Nat → Int32} {x : Int32} {j : Nat}, j < i → upd f i x j = f j := fun hj => pk_un (by omega)
  have s1 := sh_1_good (K := K) (A := a_as) (B := a_bs) (C := a_cs) (T := T) (by omega) (hok i hi) hgT
  have sle : (sh_1 K a_as a_bs a_cs T i).1 ≤ i := by
    rcases s1 with ⟨a, _⟩ | ⟨a, _⟩ <;> omega
  have hc10 : (sh_1 K a_as a_bs a_cs T i).2.1 = true → K i ≤ 10 := fun hb => by
    unfold sh_1 at hb
    split at hb
    · omega
    · split at hb
      · omega
      · split at hb
        · omega
        · cases hb
  have fin : ∀ s0 f0 w0, (∀ j, j < i → s0 j = a_stands j ∧ f0 j = a_isConst j ∧ w0 j = a_number j) → s0 i = nI (sh_1 K a_as a_bs a_cs T i).1 → f0 i = sh_bI (sh_1 K a_as a_bs a_cs T i).2.1 → w0 i = (sh_1 K a_as a_bs a_cs T i).2.2 → wY_shorten_136 post (wY_shorten_2 post d) (nI i) (nI n) f_known f_wrong f_place f_blocks f_steps f_dropped f_on f_next f_again f_depth a_ops a_as a_bs a_cs a_blockOf a_opener a_around a_other a_end a_open a_varied a_loose a_variedVariable s0 w0 f0 (upd a_needed i (if 18 ≤ K i ∨ K i = 16 then 1 else 0)) a_inputs a_values a_variables a_cells a_outs a_was a_rest a_line := fun s0 f0 w0 hs e1 e2 e3 =>
    sy_136 (K := K) (n := n) (T := T) hP hi (fun j hj => by obtain ⟨a, b, c⟩ := hs j hj; rw [a, b, c]; exact hR j hj) hg1 hl hc10 e1 sle e2 e3 (fun stands' isc' num' ho => h stands' isc' num' ⟨fun j hj => by
      obtain ⟨a, b, c⟩ := ho.1 j hj
      obtain ⟨a', b', c'⟩ := hs j hj
      exact ⟨a.trans a', b.trans b', c.trans c'⟩, ho.2⟩)
  -- isConst, number and needed of the line itself
  have t94 : ∀ (f0 : Bool) (v0 : Int32), (K i = 0 → f0 = true ∧ v0 = a_as i) → (K i ≠ 0 → f0 = false ∧ v0 = 0) → ∀ z0 : Int32, z0 = (if 18 ≤ K i ∨ K i = 16 then 1 else 0) → wY_shorten_94 post (wY_shorten_2 post d) (nI i) z0 (nI i) (nI n) f_known f_wrong f_place f_blocks f_steps f_dropped f_on f_next f_again f_depth a_ops a_as a_bs a_cs a_blockOf a_opener a_around a_other a_end a_open a_varied a_loose a_variedVariable (upd a_stands i (nI i)) (upd a_number i v0) (upd a_isConst i (sh_bI f0)) a_needed a_inputs a_values a_variables a_cells a_outs a_was a_rest a_line := by
    intro f0 v0 hf0 hf1 z0 ez
    have nz : vp_nar .boolean z0 = z0 := by rw [ez]; split <;> decide
    refine ⟨ii, nm_r (e' := upd a_needed i (if 18 ≤ K i ∨ K i = 16 then 1 else 0)) (by rw [ci, nz, ez]) ⟨ii, ?_⟩⟩
    rw [ci, ki.1]
    have plain : sh_1 K a_as a_bs a_cs T i = (i, f0, v0) → wY_shorten_136 post (wY_shorten_2 post d) (nI i) (nI n) f_known f_wrong f_place f_blocks f_steps f_dropped f_on f_next f_again f_depth a_ops a_as a_bs a_cs a_blockOf a_opener a_around a_other a_end a_open a_varied a_loose a_variedVariable (upd a_stands i (nI i)) (upd a_number i v0) (upd a_isConst i (sh_bI f0)) (upd a_needed i (if 18 ≤ K i ∨ K i = 16 then 1 else 0)) a_inputs a_values a_variables a_cells a_outs a_was a_rest a_line := fun e =>
      fin _ _ _ (fun j hj => ⟨un hj, un hj, un hj⟩) (by rw [pk_us, e]) (by rw [pk_us, e]) (by rw [pk_us, e])
    refine ys_gives ki.2 (fun h16 => br_f (by decide) ⟨ii, pk_lt (K i) 3 (fun h3 => plain ?_) (fun h3 => ⟨ii, pk_lt 10 (K i) (fun h10 => plain ?_) (fun h10 => ?_)⟩)⟩) (fun h16 => br_t rfl (nm_r (nI_1 i) (h _ _ _ ⟨fun j hj => ⟨un hj, un hj, un hj⟩, (i, false, 0), ?_, pk_us, ?_, ?_⟩)))
    · by_cases h0 : K i = 0
      · obtain ⟨a, b⟩ := hf0 h0
        unfold sh_1; rw [if_pos h0, a, b]
      · obtain ⟨a, b⟩ := hf1 h0
        unfold sh_1; rw [if_neg h0, if_neg (by omega), if_neg (by omega), a, b]
    · obtain ⟨a, b⟩ := hf1 (by omega)
      unfold sh_1; rw [if_neg (by omega), if_neg (by omega), if_neg (by omega), a, b]
    · obtain ⟨a, b⟩ := hf1 (by omega)
      subst a b
      refine sy_simplify (K := K) (n := n) (T := T) hP hi h3 h10 (fun j hj => by rw [un hj, un hj, un hj]; exact hR j hj) hg1 (fun t ht e => ?_) (fun v e => ?_) (fun e => plain e)
      · refine fin _ _ _ (fun j hj => ⟨by rw [un (f := upd a_stands i (nI i)) hj, un hj], by rw [un (f := upd a_isConst i (sh_bI false)) hj, un hj], by rw [un (f := upd a_number i 0) hj, un hj]⟩) ?_ ?_ ?_
        · rw [pk_us, e]
        · rw [pk_us, e]
        · rw [pk_us, e]
      · refine fin _ _ _ (fun j hj => ⟨un hj, by rw [un (f := upd a_isConst i (sh_bI false)) hj, un hj], by rw [un (f := upd a_number i 0) hj, un hj]⟩) ?_ ?_ ?_
        · rw [pk_us, e]
        · rw [pk_us, e]; rfl
        · rw [pk_us, e]
    · refine Or.inl ⟨fun h => ?_, ?_⟩
      · have := h.2; unfold sh_cmp at this; omega
      · unfold sh_1; rw [if_neg (by omega), if_neg (by omega), if_neg (by omega)]
    · obtain ⟨a, b⟩ := hf1 (by omega); rw [pk_us, a]
    · obtain ⟨a, b⟩ := hf1 (by omega); rw [pk_us, b]
  have t61 : ∀ (f0 : Bool) (v0 : Int32), (K i = 0 → f0 = true ∧ v0 = a_as i) → (K i ≠ 0 → f0 = false ∧ v0 = 0) → wY_shorten_61 post (wY_shorten_2 post d) (nI i) v0 (nI i) (nI n) f_known f_wrong f_place f_blocks f_steps f_dropped f_on f_next f_again f_depth a_ops a_as a_bs a_cs a_blockOf a_opener a_around a_other a_end a_open a_varied a_loose a_variedVariable (upd a_stands i (nI i)) a_number (upd a_isConst i (sh_bI f0)) a_needed a_inputs a_values a_variables a_cells a_outs a_was a_rest a_line := by
    intro f0 v0 hf0 hf1
    refine ⟨ii, nm_r (e' := upd a_number i v0) (by rw [ci]) ⟨ii, ?_⟩⟩
    rw [ci, ki.1]
    exact pk_le 18 (K i) (fun h18 => t94 f0 v0 hf0 hf1 1 (by rw [if_pos (Or.inl h18)])) (fun h18 => ⟨ii, pk_eq (K i) 16 (fun h16 => t94 f0 v0 hf0 hf1 1 (by rw [if_pos (Or.inr h16)])) (fun h16 => t94 f0 v0 hf0 hf1 0 (by rw [if_neg (by omega)]))⟩)
  refine br_f (nI_ge (by omega) (by omega)) ⟨ii, nm_r (e' := upd a_stands i (nI i)) (by rw [ci]) ⟨ii, ?_⟩⟩
  rw [ci, ki.1]
  refine pk_eq (K i) 0 (fun h0 => ⟨ii, nm_r (e' := upd a_isConst i (sh_bI true)) (by rw [ci, xv_nar1]; rfl) ⟨ii, ?_⟩⟩) (fun h0 => ⟨ii, nm_r (e' := upd a_isConst i (sh_bI false)) (by rw [ci, xv_nar0]; rfl) ⟨ii, ?_⟩⟩)
  · rw [ci, ki.1]
    exact pk_eq (K i) 0 (fun _ => ⟨ii, t61 true (a_as i) (fun _ => ⟨rfl, rfl⟩) (fun h => absurd h0 h)⟩) (fun h => absurd h0 h)
  · rw [ci, ki.1]
    exact pk_eq (K i) 0 (fun h => absurd h h0) (fun _ => t61 false 0 (fun h => absurd h h0) (fun _ => ⟨rfl, rfl⟩))
theorem sy_loop (hP : yv_P K n a_ops a_as a_bs a_cs a_blockOf a_opener a_around) {post : SY → Prop}
    (h : ∀ T stands isc num nd, sh_R T n stands isc num → (∀ j, j < n → sh_good T j) → (∀ j, j < n → sh_line K a_as a_bs a_cs T j (T j)) → ny_0 K n nd → ∃ m, wY_shorten_201 post m 1 (nI n) f_known f_wrong f_place f_blocks f_steps f_dropped f_on f_next f_again f_depth a_ops a_as a_bs a_cs a_blockOf a_opener a_around a_other a_end a_open a_varied a_loose a_variedVariable stands num isc nd a_inputs a_values a_variables a_cells a_outs a_was a_rest a_line) :
    ∀ (d i : Nat) (T : Nat → Nat × Bool × Int32) (stands isc num nd : Nat → Int32), i + d = n → sh_R T i stands isc num → (∀ j, j < i → sh_good T j) → (∀ j, j < i → sh_line K a_as a_bs a_cs T j (T j)) → ny_0 K i nd → wY_shorten_2 post (d + 1) (nI i) (nI n) f_known f_wrong f_place f_blocks f_steps f_dropped f_on f_next f_again f_depth a_ops a_as a_bs a_cs a_blockOf a_opener a_around a_other a_end a_open a_varied a_loose a_variedVariable stands num isc nd a_inputs a_values a_variables a_cells a_outs a_was a_rest a_line := by
  have hP' := hP
  obtain ⟨hn, hK, hgd, h4, hok, hB, hA⟩ := hP'
  intro d
  induction d with
  | zero =>
    intro i T stands isc num nd hi hR hg hl hnd
    cases (show i = n by omega)
    exact br_t (nI_le (Nat.le_refl _) (by omega)) (h T stands isc num nd hR hg hl hnd)
  | succ d ih =>
    intro i T stands isc num nd hi hR hg hl hnd
    refine sy_line (K := K) (n := n) (T := T) hP (by omega) hR hg hl (fun stands' isc' num' ho => ?_)
    obtain ⟨hk, o, lo, o1, o2, o3⟩ := ho
    have agree : ∀ j, j < i → T j = sh_up T i o j := fun j hj => (sh_up_n (by omega)).symm
    have hg1 : ∀ j, j < i → (T j).1 ≤ j := fun j hj => (hg j hj).1
    have hg' : ∀ j, j < i → sh_good (sh_up T i o) j := fun j hj => sh_good_eq (fun q hq => agree q (by omega)) (hg j hj)
    have li : sh_line K a_as a_bs a_cs (sh_up T i o) i (sh_up T i o i) := by
      rw [sh_up_s]
      exact sh_line_eq (by omega) (fun j hj => hok j (by omega)) hg1 agree lo
    refine ih (i + 1) (sh_up T i o) stands' isc' num' _ (by omega) (fun j hj => ?_) (fun j hj => ?_) (fun j hj => ?_) (fun j hj => ?_)
    · by_cases e : j = i
      · rw [e, sh_up_s]; exact ⟨o1, o2, o3⟩
      · obtain ⟨a, b, c⟩ := hk j (by omega)
        rw [a, b, c, sh_up_n e]; exact hR j (by omega)
    · by_cases e : j = i
      · rw [e]; exact sh_line_good (by omega) (hok i (by omega)) hg' li
      · exact hg' j (by omega)
    · by_cases e : j = i
      · rw [e]; exact li
      · rw [sh_up_n e]
        exact sh_line_eq (by omega) (fun q hq => hok q (by omega)) (fun q hq => hg1 q (by omega)) (fun q hq => agree q (by omega)) (hl j (by omega))
    · by_cases e : j = i
      · rw [e, pk_us]
      · rw [pk_un e]; exact hnd j (by omega)
end
