section
variable {K : Nat → Nat} {n : Nat} {T : Nat → Nat × Bool × Int32}
variable {f_lines f_studied f_wrong f_wrongAt f_brief f_on f_dropped f_steps f_nextLine f_repeats : Int32} {a_kinds a_firsts a_seconds a_thirds a_inputs a_home a_depth a_closer a_mate a_operands a_varies a_parted a_variableVaries a_same a_fixed a_worth a_needed a_variableNeeded a_values a_variables a_outputs a_cells a_whole a_waiting : Nat → Int32}
/-- what comes of line i -/
def sx_out (K : Nat → Nat) (A B C : Nat → Int32) (T : Nat → Nat × Bool × Int32) (i : Nat) (same fixed worth same' fixed' worth' : Nat → Int32) : Prop :=
  (∀ j, j < i → same' j = same j ∧ fixed' j = fixed j ∧ worth' j = worth j) ∧ ∃ o, sh_line K A B C T i o ∧ same' i = nI o.1 ∧ fixed' i = sh_bI o.2.1 ∧ worth' i = o.2.2
theorem sx_120 (hn : n ≤ 48) {post : SX → Prop} {J : Int32 → Int32 → Int32 → Int32 → Int32 → Int32 → Int32 → Int32 → Int32 → Int32 → Int32 → (Nat → Int32) → (Nat → Int32) → (Nat → Int32) → (Nat → Int32) → (Nat → Int32) → (Nat → Int32) → (Nat → Int32) → (Nat → Int32) → (Nat → Int32) → (Nat → Int32) → (Nat → Int32) → (Nat → Int32) → (Nat → Int32) → (Nat → Int32) → (Nat → Int32) → (Nat → Int32) → (Nat → Int32) → (Nat → Int32) → (Nat → Int32) → (Nat → Int32) → (Nat → Int32) → (Nat → Int32) → (Nat → Int32) → (Nat → Int32) → Prop} {i r : Nat} (hi : i < n) (hr : r ≤ i) (es : a_same i = nI r) {F : Bool} (ef : a_fixed r = sh_bI F)
    (h0 : F = false → J (nI (i + 1)) f_lines f_studied f_wrong f_wrongAt f_brief f_on f_dropped f_steps f_nextLine f_repeats a_kinds a_firsts a_seconds a_thirds a_inputs a_home a_depth a_closer a_mate a_operands a_varies a_parted a_variableVaries a_same a_fixed a_worth a_needed a_variableNeeded a_values a_variables a_outputs a_cells a_whole a_waiting) (h1 : F = true → J (nI (i + 1)) f_lines f_studied f_wrong f_wrongAt f_brief f_on f_dropped f_steps f_nextLine f_repeats a_kinds a_firsts a_seconds a_thirds a_inputs a_home a_depth a_closer a_mate a_operands a_varies a_parted a_variableVaries a_same (upd a_fixed i 1) (upd a_worth i (a_worth r)) a_needed a_variableNeeded a_values a_variables a_outputs a_cells a_whole a_waiting) : wX_shortenLines_120 post J (nI i) f_lines f_studied f_wrong f_wrongAt f_brief f_on f_dropped f_steps f_nextLine f_repeats a_kinds a_firsts a_seconds a_thirds a_inputs a_home a_depth a_closer a_mate a_operands a_varies a_parted a_variableVaries a_same a_fixed a_worth a_needed a_variableNeeded a_values a_variables a_outputs a_cells a_whole a_waiting := by
  have ci : (nI i).toNatClampNeg = i := nI_clamp (by omega)
  have ii : vp_in (nI i) 48 := vp_in_nI (by omega) (by omega)
  have ir : vp_in (nI r) 48 := vp_in_nI (by omega) (by omega)
  refine ⟨ii, ?_⟩
  rw [ci, es, nI_clamp (by omega), ef]
  exact ⟨ir, br_c (fun h => nm_r (nI_1 i) (h0 (sh_bI_0 h))) (fun h => ⟨ii, ir, sx_fix (by omega) (nm_r (nI_1 i) (h1 (sh_bI_n h)))⟩)⟩
theorem sx_99 (hP : xv_P K n a_kinds a_firsts a_seconds a_thirds a_home a_mate a_operands) {post : SX → Prop} {J : Int32 → Int32 → Int32 → Int32 → Int32 → Int32 → Int32 → Int32 → Int32 → Int32 → Int32 → (Nat → Int32) → (Nat → Int32) → (Nat → Int32) → (Nat → Int32) → (Nat → Int32) → (Nat → Int32) → (Nat → Int32) → (Nat → Int32) → (Nat → Int32) → (Nat → Int32) → (Nat → Int32) → (Nat → Int32) → (Nat → Int32) → (Nat → Int32) → (Nat → Int32) → (Nat → Int32) → (Nat → Int32) → (Nat → Int32) → (Nat → Int32) → (Nat → Int32) → (Nat → Int32) → (Nat → Int32) → (Nat → Int32) → (Nat → Int32) → Prop} {i : Nat} (hi : i < n) (hR : ∀ j, j < i → a_same j = nI (T j).1 ∧ a_fixed j = sh_bI (T j).2.1 ∧ a_worth j = (T j).2.2) (hgT : ∀ j, j < i → sh_good T j)
    (es : a_same i = nI (sh_1 K a_firsts a_seconds a_thirds T i).1) (e1 : (sh_1 K a_firsts a_seconds a_thirds T i).1 = i → a_fixed i = sh_bI (sh_1 K a_firsts a_seconds a_thirds T i).2.1 ∧ a_worth i = (sh_1 K a_firsts a_seconds a_thirds T i).2.2) (e2 : (sh_1 K a_firsts a_seconds a_thirds T i).1 ≠ i → a_fixed i = 0 ∧ a_worth i = 0)
    (h : ∀ same' fixed' worth', sx_out K a_firsts a_seconds a_thirds T i a_same a_fixed a_worth same' fixed' worth' → J (nI (i + 1)) f_lines f_studied f_wrong f_wrongAt f_brief f_on f_dropped f_steps f_nextLine f_repeats a_kinds a_firsts a_seconds a_thirds a_inputs a_home a_depth a_closer a_mate a_operands a_varies a_parted a_variableVaries same' fixed' worth' a_needed a_variableNeeded a_values a_variables a_outputs a_cells a_whole a_waiting) : wX_shortenLines_99 post J (nI i) f_lines f_studied f_wrong f_wrongAt f_brief f_on f_dropped f_steps f_nextLine f_repeats a_kinds a_firsts a_seconds a_thirds a_inputs a_home a_depth a_closer a_mate a_operands a_varies a_parted a_variableVaries a_same a_fixed a_worth a_needed a_variableNeeded a_values a_variables a_outputs a_cells a_whole a_waiting := by
  have hP' := hP
  obtain ⟨hn, hK, hgd, h4, hok, hH, hO⟩ := hP'
  have ci : (nI i).toNatClampNeg = i := nI_clamp (by omega)
  have ii : vp_in (nI i) 48 := vp_in_nI (by omega) (by omega)
  have hg1 : ∀ j, j < i → (T j).1 ≤ j := fun j hj => (hgT j hj).1
  have s1 := sh_1_good (K := K) (A := a_firsts) (B := a_seconds) (C := a_thirds) (T := T) (by omega) (hok i hi) hgT
  refine ⟨ii, ?_⟩
  rw [ci, es]
  by_cases eq : (sh_1 K a_firsts a_seconds a_thirds T i).1 = i
  · obtain ⟨f1, w1⟩ := e1 eq
    refine br_t (by rw [eq]) ?_
    have keep : ∀ r, (∀ j, j < i → upd a_same i (nI r) j = a_same j ∧ a_fixed j = a_fixed j ∧ a_worth j = a_worth j) := fun r j hj => ⟨pk_un (by omega), rfl, rfl⟩
    have keep2 : ∀ r v, (∀ j, j < i → upd a_same i (nI r) j = a_same j ∧ upd a_fixed i 1 j = a_fixed j ∧ upd a_worth i v j = a_worth j) := fun r v j hj => ⟨pk_un (by omega), pk_un (by omega), pk_un (by omega)⟩
    refine sx_first (K := K) (n := n) (T := T) hP hi hR hg1 f1 w1 (fun hc r hr => ⟨ii, nm_r (e' := upd a_same i (nI r)) rfl ?_⟩) (fun hc => ⟨ii, nm_r (e' := upd a_same i (nI i)) rfl ?_⟩)
    · have line : sh_line K a_firsts a_seconds a_thirds T i (r, (sh_1 K a_firsts a_seconds a_thirds T i).2) := Or.inr ⟨⟨eq, hc⟩, r, hr, rfl⟩
      rcases hr with ⟨er, _⟩ | ⟨lr, ⟨p1, p2, p3⟩, _⟩
      · subst er
        refine sx_120 (n := n) hn hi (Nat.le_refl _) pk_us f1 (fun hF => h _ _ _ ⟨keep _, _, line, pk_us, f1, w1⟩) (fun hF => h _ _ _ ⟨keep2 _ _, _, line, pk_us, ?_, ?_⟩)
        · rw [pk_us, hF]; rfl
        · rw [pk_us]; exact w1
      · obtain ⟨_, fr, wr⟩ := hR r lr
        refine sx_120 (n := n) hn hi (by omega) pk_us fr (fun hF => h _ _ _ ⟨keep _, _, line, pk_us, f1, w1⟩) (fun hF => h _ _ _ ⟨keep2 _ _, _, line, pk_us, ?_, ?_⟩)
        · rcases p3 with ⟨a, _⟩ | ⟨_, b, _⟩
          · rw [pk_us, a]; rfl
          · rw [b] at hF; cases hF
        · rcases p3 with ⟨_, _, c⟩ | ⟨_, b, _⟩
          · rw [pk_us, wr]; exact c.symm
          · rw [b] at hF; cases hF
    · have line : sh_line K a_firsts a_seconds a_thirds T i (sh_1 K a_firsts a_seconds a_thirds T i) := Or.inl ⟨fun h => hc h.2, rfl⟩
      refine sx_120 (n := n) hn hi (Nat.le_refl _) pk_us f1 (fun hF => h _ _ _ ⟨keep _, _, line, by rw [pk_us, eq], f1, w1⟩) (fun hF => h _ _ _ ⟨keep2 _ _, _, line, by rw [pk_us, eq], ?_, ?_⟩)
      · rw [pk_us, hF]; rfl
      · rw [pk_us]; exact w1
  · obtain ⟨f0, w0⟩ := e2 eq
    rcases s1 with ⟨s1, _⟩ | ⟨lt, s2, s3⟩
    · exact absurd s1 eq
    obtain ⟨_, fr, wr⟩ := hR _ lt
    have line : sh_line K a_firsts a_seconds a_thirds T i (sh_1 K a_firsts a_seconds a_thirds T i) := Or.inl ⟨fun h => eq h.1, rfl⟩
    refine pk_eq (sh_1 K a_firsts a_seconds a_thirds T i).1 i (fun e => absurd e eq) (fun _ => ?_)
    refine sx_120 (n := n) hn hi (by omega) es fr (fun hF => h _ _ _ ⟨fun j hj => ⟨rfl, rfl, rfl⟩, _, line, es, ?_, ?_⟩) (fun hF => h _ _ _ ⟨fun j hj => ⟨rfl, pk_un (by omega), pk_un (by omega)⟩, _, line, es, ?_, ?_⟩)
    · rw [f0, s3, hF]; rfl
    · rw [w0, s3]; exact ((hgT _ lt).2.2.2 hF).symm
    · rw [pk_us, s3, hF]; rfl
    · rw [pk_us, s3, wr]
theorem sx_line (hP : xv_P K n a_kinds a_firsts a_seconds a_thirds a_home a_mate a_operands) {post : SX → Prop} {i d : Nat} (hi : i < n) (hR : sh_R T i a_same a_fixed a_worth) (hgT : ∀ j, j < i → sh_good T j)
    (h : ∀ same' fixed' worth', sx_out K a_firsts a_seconds a_thirds T i a_same a_fixed a_worth same' fixed' worth' → wX_shortenLines_2 post d (nI (i + 1)) (nI n) f_studied f_wrong f_wrongAt f_brief f_on f_dropped f_steps f_nextLine f_repeats a_kinds a_firsts a_seconds a_thirds a_inputs a_home a_depth a_closer a_mate a_operands a_varies a_parted a_variableVaries same' fixed' worth' a_needed a_variableNeeded a_values a_variables a_outputs a_cells a_whole a_waiting) : wX_shortenLines_2 post (d + 1) (nI i) (nI n) f_studied f_wrong f_wrongAt f_brief f_on f_dropped f_steps f_nextLine f_repeats a_kinds a_firsts a_seconds a_thirds a_inputs a_home a_depth a_closer a_mate a_operands a_varies a_parted a_variableVaries a_same a_fixed a_worth a_needed a_variableNeeded a_values a_variables a_outputs a_cells a_whole a_waiting := by
  have hP' := hP
  obtain ⟨hn, hK, hgd, h4, hok, hH, hO⟩ := hP'
  have ci : (nI i).toNatClampNeg = i := nI_clamp (by omega)
  have ii : vp_in (nI i) 48 := vp_in_nI (by omega) (by omega)
  have ki := hK i hi
  have hg1 : ∀ j, j < i → (T j).1 ≤ j := fun j hj => (hgT j hj).1
  have hR' : ∀ j, j < i → upd a_same i (nI i) j = nI (T j).1 ∧ upd a_fixed i 0 j = sh_bI (T j).2.1 ∧ upd a_worth i 0 j = (T j).2.2 := fun j hj => by
    rw [pk_un (by omega), pk_un (by omega), pk_un (by omega)]; exact hR j hj
  have h' : ∀ s0 f0 w0, (∀ j, j < i → s0 j = a_same j ∧ f0 j = a_fixed j ∧ w0 j = a_worth j) → ∀ same' fixed' worth', sx_out K a_firsts a_seconds a_thirds T i s0 f0 w0 same' fixed' worth' → wX_shortenLines_2 post d (nI (i + 1)) (nI n) f_studied f_wrong f_wrongAt f_brief f_on f_dropped f_steps f_nextLine f_repeats a_kinds a_firsts a_seconds a_thirds a_inputs a_home a_depth a_closer a_mate a_operands a_varies a_parted a_variableVaries same' fixed' worth' a_needed a_variableNeeded a_values a_variables a_outputs a_cells a_whole a_waiting := fun s0 f0 w0 hs same' fixed' worth' ho =>
    h same' fixed' worth' ⟨fun j hj => by
      obtain ⟨a, b, c⟩ := ho.1 j hj
      obtain ⟨a', b', c'⟩ := hs j hj
      exact ⟨a.trans a', b.trans b', c.trans c'⟩, ho.2⟩
  have un : ∀ {f : Nat → Int32} {x : Int32} {j : Nat}, j < i → upd f i x j = f j := fun hj => pk_un (by omega)
  have plain : sh_1 K a_firsts a_seconds a_thirds T i = (i, false, 0) → wX_shortenLines_99 post (wX_shortenLines_2 post d) (nI i) (nI n) f_studied f_wrong f_wrongAt f_brief f_on f_dropped f_steps f_nextLine f_repeats a_kinds a_firsts a_seconds a_thirds a_inputs a_home a_depth a_closer a_mate a_operands a_varies a_parted a_variableVaries (upd a_same i (nI i)) (upd a_fixed i 0) (upd a_worth i 0) a_needed a_variableNeeded a_values a_variables a_outputs a_cells a_whole a_waiting := fun e =>
    sx_99 (K := K) (n := n) (T := T) hP hi hR' hgT (by rw [pk_us, e]) (fun _ => ⟨by rw [pk_us, e]; rfl, by rw [pk_us, e]⟩) (fun h => absurd (by rw [e]) h) (h' _ _ _ (fun j hj => ⟨un hj, un hj, un hj⟩))
  have made : ∀ v, sh_1 K a_firsts a_seconds a_thirds T i = (i, true, v) → wX_shortenLines_99 post (wX_shortenLines_2 post d) (nI i) (nI n) f_studied f_wrong f_wrongAt f_brief f_on f_dropped f_steps f_nextLine f_repeats a_kinds a_firsts a_seconds a_thirds a_inputs a_home a_depth a_closer a_mate a_operands a_varies a_parted a_variableVaries (upd a_same i (nI i)) (upd (upd a_fixed i 0) i 1) (upd (upd a_worth i 0) i v) a_needed a_variableNeeded a_values a_variables a_outputs a_cells a_whole a_waiting := fun v e =>
    sx_99 (K := K) (n := n) (T := T) hP hi (fun j hj => by rw [un hj, un (f := upd a_fixed i 0) hj, un (f := upd a_worth i 0) hj, un hj, un hj]; exact hR j hj) hgT (by rw [pk_us, e]) (fun _ => ⟨by rw [pk_us, e]; rfl, by rw [pk_us, e]⟩) (fun h => absurd (by rw [e]) h) (h' _ _ _ (fun j hj => ⟨un hj, by rw [un (f := upd a_fixed i 0) hj, un hj], by rw [un (f := upd a_worth i 0) hj, un hj]⟩))
  have copy : ∀ t, t < i → sh_1 K a_firsts a_seconds a_thirds T i = (t, (T t).2) → wX_shortenLines_99 post (wX_shortenLines_2 post d) (nI i) (nI n) f_studied f_wrong f_wrongAt f_brief f_on f_dropped f_steps f_nextLine f_repeats a_kinds a_firsts a_seconds a_thirds a_inputs a_home a_depth a_closer a_mate a_operands a_varies a_parted a_variableVaries (upd (upd a_same i (nI i)) i (nI t)) (upd a_fixed i 0) (upd a_worth i 0) a_needed a_variableNeeded a_values a_variables a_outputs a_cells a_whole a_waiting := fun t ht e =>
    sx_99 (K := K) (n := n) (T := T) hP hi (fun j hj => by rw [un (f := upd a_same i (nI i)) hj, un hj, un hj, un hj]; exact hR j hj) hgT (by rw [pk_us, e]) (fun h => absurd h (by rw [e]; show ¬ t = i; omega)) (fun _ => ⟨pk_us, pk_us⟩) (h' _ _ _ (fun j hj => ⟨by rw [un (f := upd a_same i (nI i)) hj, un hj], un hj, un hj⟩))
  refine br_f (nI_ge (by omega) (by omega)) ⟨ii, nm_r (e' := upd a_same i (nI i)) (by rw [ci]) ⟨ii, nm_r (e' := upd a_fixed i 0) (by rw [ci, xv_nar0]) ⟨ii, nm_r (e' := upd a_worth i 0) (by rw [ci]) ⟨ii, ?_⟩⟩⟩⟩
  rw [ci, ki.1]
  refine pk_eq (K i) 0 (fun h0 => ⟨ii, ?_⟩) (fun n0 => ⟨ii, pk_eq (K i) 10 (fun h10 => ?_) (fun n10 => ⟨ii, pk_lt (K i) 3 (fun h3 => plain ?_) (fun h3 => ⟨ii, pk_lt 9 (K i) (fun h9 => plain ?_) (fun h9 => ?_)⟩)⟩)⟩)
  · exact sx_fix (by omega) (made _ (by unfold sh_1; rw [if_pos h0]))
  · exact sx_pick (K := K) (n := n) (T := T) hP hi h10 hR' hg1 copy plain
  · unfold sh_1; rw [if_neg n0, if_neg n10, if_neg (by omega)]
  · unfold sh_1; rw [if_neg n0, if_neg n10, if_neg (by omega)]
  · exact sx_sum (K := K) (n := n) (T := T) hP hi h3 h9 hR' hg1 copy made plain
theorem sx_loop (hP : xv_P K n a_kinds a_firsts a_seconds a_thirds a_home a_mate a_operands) {post : SX → Prop}
    (h : ∀ T same fixed worth, sh_R T n same fixed worth → (∀ j, j < n → sh_good T j) → (∀ j, j < n → sh_line K a_firsts a_seconds a_thirds T j (T j)) → post (nI n, f_studied, f_wrong, f_wrongAt, f_brief, f_on, f_dropped, f_steps, f_nextLine, f_repeats, a_kinds, a_firsts, a_seconds, a_thirds, a_inputs, a_home, a_depth, a_closer, a_mate, a_operands, a_varies, a_parted, a_variableVaries, same, fixed, worth, a_needed, a_variableNeeded, a_values, a_variables, a_outputs, a_cells, a_whole, a_waiting)) :
    ∀ (d i : Nat) (T : Nat → Nat × Bool × Int32) (same fixed worth : Nat → Int32), i + d = n → sh_R T i same fixed worth → (∀ j, j < i → sh_good T j) → (∀ j, j < i → sh_line K a_firsts a_seconds a_thirds T j (T j)) → wX_shortenLines_2 post (d + 1) (nI i) (nI n) f_studied f_wrong f_wrongAt f_brief f_on f_dropped f_steps f_nextLine f_repeats a_kinds a_firsts a_seconds a_thirds a_inputs a_home a_depth a_closer a_mate a_operands a_varies a_parted a_variableVaries same fixed worth a_needed a_variableNeeded a_values a_variables a_outputs a_cells a_whole a_waiting := by
  have hP' := hP
  obtain ⟨hn, hK, hgd, h4, hok, hH, hO⟩ := hP'
  intro d
  induction d with
  | zero =>
    intro i T same fixed worth hi hR hg hl
    cases (show i = n by omega)
    exact br_t (nI_le (Nat.le_refl _) (by omega)) (h T same fixed worth hR hg hl)
  | succ d ih =>
    intro i T same fixed worth hi hR hg hl
    refine sx_line (K := K) (n := n) (T := T) hP (by omega) hR hg (fun same' fixed' worth' ho => ?_)
    obtain ⟨hk, o, lo, o1, o2, o3⟩ := ho
    have agree : ∀ j, j < i → T j = sh_up T i o j := fun j hj => (sh_up_n (by omega)).symm
    have hg1 : ∀ j, j < i → (T j).1 ≤ j := fun j hj => (hg j hj).1
    have hg' : ∀ j, j < i → sh_good (sh_up T i o) j := fun j hj => sh_good_eq (fun q hq => agree q (by omega)) (hg j hj)
    have li : sh_line K a_firsts a_seconds a_thirds (sh_up T i o) i (sh_up T i o i) := by
      rw [sh_up_s]
      exact sh_line_eq (by omega) (fun j hj => hok j (by omega)) hg1 agree lo
    refine ih (i + 1) (sh_up T i o) same' fixed' worth' (by omega) (fun j hj => ?_) (fun j hj => ?_) (fun j hj => ?_)
    · by_cases e : j = i
      · rw [e, sh_up_s]; exact ⟨o1, o2, o3⟩
      · obtain ⟨a, b, c⟩ := hk j (by omega)
        rw [a, b, c, sh_up_n e]; exact hR j (by omega)
    · by_cases e : j = i
      · rw [e]; exact sh_line_good (by omega) (hok i (by omega)) hg' li
      · exact hg' j (by omega)
    · by_cases e : j = i
      · rw [e]; exact li
      · rw [sh_up_n e]
        exact sh_line_eq (by omega) (fun q hq => hok q (by omega)) (fun q hq => hg1 q (by omega)) (fun q hq => agree q (by omega)) (hl j (by omega))
theorem sx_shorten (hP : xv_P K n a_kinds a_firsts a_seconds a_thirds a_home a_mate a_operands) {post : SX → Prop}
    (h : ∀ T same fixed worth, sh_R T n same fixed worth → (∀ j, j < n → sh_good T j) → (∀ j, j < n → sh_line K a_firsts a_seconds a_thirds T j (T j)) → post (nI n, f_studied, f_wrong, f_wrongAt, f_brief, f_on, f_dropped, f_steps, f_nextLine, f_repeats, a_kinds, a_firsts, a_seconds, a_thirds, a_inputs, a_home, a_depth, a_closer, a_mate, a_operands, a_varies, a_parted, a_variableVaries, same, fixed, worth, a_needed, a_variableNeeded, a_values, a_variables, a_outputs, a_cells, a_whole, a_waiting)) : wpX_shortenLines post (nI n, f_studied, f_wrong, f_wrongAt, f_brief, f_on, f_dropped, f_steps, f_nextLine, f_repeats, a_kinds, a_firsts, a_seconds, a_thirds, a_inputs, a_home, a_depth, a_closer, a_mate, a_operands, a_varies, a_parted, a_variableVaries, a_same, a_fixed, a_worth, a_needed, a_variableNeeded, a_values, a_variables, a_outputs, a_cells, a_whole, a_waiting) :=
  ⟨n + 1, sx_loop (K := K) (n := n) hP h n 0 (fun _ => (0, false, 0)) _ _ _ (by omega) (fun j hj => by omega) (fun j hj => by omega) (fun j hj => by omega)⟩
end
