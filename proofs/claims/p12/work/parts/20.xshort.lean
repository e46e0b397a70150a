section
variable {K : Nat → Nat} {A B C : Nat → Int32} {T : Nat → Nat × Bool × Int32}
theorem sh_line_eq {T' : Nat → Nat × Bool × Int32} {i : Nat} {o : Nat × Bool × Int32} (hi : i < 2 ^ 31) (hov : ∀ j, j ≤ i → ∀ s, s < 3 → sc_us (K j) s → sc_ov K A B C s j) (hg : ∀ j, j < i → (T j).1 ≤ j) (h : ∀ j, j < i → T j = T' j) (l : sh_line K A B C T i o) : sh_line K A B C T' i o := by
  have e1 := sh_1_eq hi (hov i (Nat.le_refl _)) hg h
  unfold sh_line at l ⊢
  rw [← e1]
  rcases l with l | ⟨c, r, hr, e⟩
  · exact Or.inl l
  · refine Or.inr ⟨c, r, ?_, e⟩
    have iff : ∀ j, j < i → (sh_P K A B C T i (sh_1 K A B C T i).2.1 (sh_1 K A B C T i).2.2 j ↔ sh_P K A B C T' i (sh_1 K A B C T i).2.1 (sh_1 K A B C T i).2.2 j) := fun j hj =>
      ⟨sh_P_eq hi hj (hov i (Nat.le_refl _)) (hov j (by omega)) h, sh_P_eq hi hj (hov i (Nat.le_refl _)) (hov j (by omega)) (fun q hq => (h q hq).symm)⟩
    rcases hr with ⟨a, b⟩ | ⟨a, b, c⟩
    · exact Or.inl ⟨a, fun j hj hp => b j hj ((iff j hj).mpr hp)⟩
    · exact Or.inr ⟨a, (iff r a).mp b, fun j hj hp => c j hj ((iff j (by omega)).mpr hp)⟩
def sh_up (T : Nat → Nat × Bool × Int32) (i : Nat) (o : Nat × Bool × Int32) : Nat → Nat × Bool × Int32 := fun j => if j = i then o else T j
theorem sh_up_s {i : Nat} {o : Nat × Bool × Int32} : sh_up T i o i = o := if_pos rfl
theorem sh_up_n {i j : Nat} {o : Nat × Bool × Int32} (h : j ≠ i) : sh_up T i o j = T j := if_neg h
/-- arrays hold the table's first i lines -/
def sh_R (T : Nat → Nat × Bool × Int32) (i : Nat) (same fixed worth : Nat → Int32) : Prop := ∀ j, j < i → same j = nI (T j).1 ∧ fixed j = sh_bI (T j).2.1 ∧ worth j = (T j).2.2
theorem sh_bI_0 {b : Bool} (h : sh_bI b = 0) : b = false := by cases b <;> simp_all [sh_bI]
theorem sh_bI_n {b : Bool} (h : ¬ sh_bI b = 0) : b = true := by cases b <;> simp_all [sh_bI]
theorem sh_bIf : sh_bI false = 0 := rfl
theorem sh_bIt : sh_bI true = 1 := rfl
/-- what a slot stands for -/
noncomputable def sh_v (K : Nat → Nat) (A B C : Nat → Int32) (T : Nat → Nat × Bool × Int32) (s i : Nat) : Int32 := @ite _ (sc_us (K i) s) (Classical.propDecidable _) (nI (T (sh_o A B C s i)).1) (-1)
theorem sh_v_u {s i : Nat} (h : sc_us (K i) s) : sh_v K A B C T s i = nI (T (sh_o A B C s i)).1 := if_pos h
theorem sh_v_n {s i : Nat} (h : ¬ sc_us (K i) s) : sh_v K A B C T s i = -1 := if_neg h
theorem nI_m1ne {x : Nat} (h : x < 2 ^ 31) : ¬ nI x = -1 := fun e => by
  have : (-1 : Int32) < 0 := by decide
  rw [← e] at this; exact nI_pos h this
end
section
variable {K : Nat → Nat} {n : Nat} {T : Nat → Nat × Bool × Int32}
variable {f_lines f_studied f_wrong f_wrongAt f_brief f_on f_dropped f_steps f_nextLine f_repeats : Int32} {a_kinds a_firsts a_seconds a_thirds a_inputs a_home a_depth a_closer a_mate a_operands a_varies a_parted a_variableVaries a_same a_fixed a_worth a_needed a_variableNeeded a_values a_variables a_outputs a_cells a_whole a_waiting : Nat → Int32}
theorem sx_stands (hn : n ≤ 48) {post : Int32 → Prop} {i w s : Nat} (hi : i < n) (hw : i ≤ w) (hs : s < 3) (hO : ∀ s, s < 3 → (sc_us (K i) s → a_operands (3 * i + s) = sc_o3 a_firsts a_seconds a_thirds s i) ∧ (¬ sc_us (K i) s → a_operands (3 * i + s) = -1)) (hv : ∀ s, s < 3 → sc_us (K i) s → sc_ov K a_firsts a_seconds a_thirds s i) (hS : ∀ j, j < w → a_same j = nI (T j).1) (h : post (sh_v K a_firsts a_seconds a_thirds T s i)) : wpX_standsFor post (f_lines, f_studied, f_wrong, f_wrongAt, f_brief, f_on, f_dropped, f_steps, f_nextLine, f_repeats, a_kinds, a_firsts, a_seconds, a_thirds, a_inputs, a_home, a_depth, a_closer, a_mate, a_operands, a_varies, a_parted, a_variableVaries, a_same, a_fixed, a_worth, a_needed, a_variableNeeded, a_values, a_variables, a_outputs, a_cells, a_whole, a_waiting) (nI i) (nI s) := by
  have ea : nI i * 3 + nI s = nI (3 * i + s) := nb_34
  have ca : (nI i * 3 + nI s).toNatClampNeg = 3 * i + s := by rw [ea, nI_clamp (by omega)]
  refine ⟨by rw [ea]; exact vp_in_nI (by omega) (by omega), ?_⟩
  rw [ca]
  by_cases hu : sc_us (K i) s
  · obtain ⟨hlt, eo, _⟩ := sh_ov_lt (by omega) (hv s hs hu)
    rw [(hO s hs).1 hu, eo]
    refine nm_e (br_f (nI_m1ne (by omega)) ⟨vp_in_nI (by omega) (by omega), ?_⟩)
    rw [nI_clamp (by omega), hS _ (by omega)]
    rw [sh_v_u hu] at h
    exact h
  · rw [(hO s hs).2 hu]
    rw [sh_v_n hu] at h
    exact nm_e (br_t rfl h)
theorem sh_v_eq {A B C : Nat → Int32} {s i j : Nat} (hs : s < 3) (hi : i < 48) (hj : j < i) (hk : K i = K j) (hvi : ∀ s, s < 3 → sc_us (K i) s → sc_ov K A B C s i) (hvj : ∀ s, s < 3 → sc_us (K j) s → sc_ov K A B C s j) (hg : ∀ j, j < i → (T j).1 ≤ j) : sh_v K A B C T s i = sh_v K A B C T s j ↔ (sc_us (K i) s → (T (sh_o A B C s i)).1 = (T (sh_o A B C s j)).1) := by
  by_cases hu : sc_us (K i) s
  · have hu' : sc_us (K j) s := by rw [← hk]; exact hu
    rw [sh_v_u hu, sh_v_u hu']
    have a := (sh_ov_lt (by omega) (hvi s hs hu)).1
    have b := (sh_ov_lt (by omega) (hvj s hs hu')).1
    have ga := hg _ a
    have gb := hg (sh_o A B C s j) (by omega)
    rw [nI_eq (by omega) (by omega)]
    exact ⟨fun h _ => h, fun h => h hu⟩
  · have hu' : ¬ sc_us (K j) s := by rw [← hk]; exact hu
    rw [sh_v_n hu, sh_v_n hu']
    exact ⟨fun _ h => absurd h hu, fun _ => rfl⟩
theorem sx_alike (hP : xv_P K n a_kinds a_firsts a_seconds a_thirds a_home a_mate a_operands) {post : Int32 → Prop} {i j : Nat} {f : Bool} {v : Int32} (hi : i < n) (hj : j < i) (hR : ∀ j, j < i → a_same j = nI (T j).1 ∧ a_fixed j = sh_bI (T j).2.1 ∧ a_worth j = (T j).2.2) (hg : ∀ j, j < i → (T j).1 ≤ j) (hf : a_fixed i = sh_bI f) (hw : a_worth i = v)
    (h1 : ((f = true ∧ (T j).2.1 = true ∧ v = (T j).2.2) ∨ (f = false ∧ (T j).2.1 = false ∧ K i = K j ∧ ((K i = 1 ∧ a_firsts i = a_firsts j) ∨ (K i ≠ 1 ∧ sh_al K a_firsts a_seconds a_thirds T i j)))) → post 1)
    (h0 : ¬ ((f = true ∧ (T j).2.1 = true ∧ v = (T j).2.2) ∨ (f = false ∧ (T j).2.1 = false ∧ K i = K j ∧ ((K i = 1 ∧ a_firsts i = a_firsts j) ∨ (K i ≠ 1 ∧ sh_al K a_firsts a_seconds a_thirds T i j)))) → post 0) : wpX_alike post (f_lines, f_studied, f_wrong, f_wrongAt, f_brief, f_on, f_dropped, f_steps, f_nextLine, f_repeats, a_kinds, a_firsts, a_seconds, a_thirds, a_inputs, a_home, a_depth, a_closer, a_mate, a_operands, a_varies, a_parted, a_variableVaries, a_same, a_fixed, a_worth, a_needed, a_variableNeeded, a_values, a_variables, a_outputs, a_cells, a_whole, a_waiting) (nI i) (nI j) := by
  obtain ⟨hn, hK, hgd, h4, hok, hH, hO⟩ := hP
  have ci : (nI i).toNatClampNeg = i := nI_clamp (by omega)
  have cj : (nI j).toNatClampNeg = j := nI_clamp (by omega)
  have ii : vp_in (nI i) 48 := vp_in_nI (by omega) (by omega)
  have ij : vp_in (nI j) 48 := vp_in_nI (by omega) (by omega)
  obtain ⟨r1, r2, r3⟩ := hR j hj
  have ki := hK i hi
  have kj := hK j (by omega)
  have t18 : (f = true ∨ (T j).2.1 = true) → wX_alike_18 post (nI i) (nI j) f_lines f_studied f_wrong f_wrongAt f_brief f_on f_dropped f_steps f_nextLine f_repeats a_kinds a_firsts a_seconds a_thirds a_inputs a_home a_depth a_closer a_mate a_operands a_varies a_parted a_variableVaries a_same a_fixed a_worth a_needed a_variableNeeded a_values a_variables a_outputs a_cells a_whole a_waiting := by
    intro hor
    refine ⟨ii, ?_⟩
    rw [ci, cj, hf, r2, hw, r3]
    refine br_c (fun hz => h0 ?_) (fun hz => ⟨ij, br_c (fun hz' => h0 ?_) (fun hz' => ⟨ii, ij, br_c (fun he => h1 (Or.inl ⟨sh_bI_n hz, sh_bI_n hz', he⟩)) (fun he => h0 ?_)⟩)⟩)
    · have := sh_bI_0 hz
      rintro (⟨a, _⟩ | ⟨_, b, _⟩)
      · rw [this] at a; cases a
      · rcases hor with h | h
        · rw [this] at h; cases h
        · rw [b] at h; cases h
    · have := sh_bI_0 hz'
      have t := sh_bI_n hz
      rintro (⟨_, a, _⟩ | ⟨b, _⟩)
      · rw [this] at a; cases a
      · rw [b] at t; cases t
    · have t := sh_bI_n hz
      rintro (⟨_, _, a⟩ | ⟨b, _⟩)
      · exact he a
      · rw [b] at t; cases t
  refine ⟨ii, ?_⟩
  rw [ci, cj, hf, r2]
  refine br_c (fun hz => ⟨ij, br_c (fun hz' => ⟨ii, ?_⟩) (fun hz' => t18 (Or.inr (sh_bI_n hz')))⟩) (fun hz => t18 (Or.inl (sh_bI_n hz)))
  have ef := sh_bI_0 hz
  have eF := sh_bI_0 hz'
  have only : (K i = K j ∧ ((K i = 1 ∧ a_firsts i = a_firsts j) ∨ (K i ≠ 1 ∧ sh_al K a_firsts a_seconds a_thirds T i j)) → post 1) ∧ (¬ (K i = K j ∧ ((K i = 1 ∧ a_firsts i = a_firsts j) ∨ (K i ≠ 1 ∧ sh_al K a_firsts a_seconds a_thirds T i j))) → post 0) := by
    refine ⟨fun h => h1 (Or.inr ⟨ef, eF, h⟩), fun h => h0 ?_⟩
    rintro (⟨a, _⟩ | ⟨_, _, b⟩)
    · rw [ef] at a; cases a
    · exact h b
  rw [ki.1]
  refine nm_e ⟨ij, ?_⟩
  rw [kj.1]
  refine pk_eq (K i) (K j) (fun hk => pk_eq (K i) 1 (fun h11 => ⟨ii, ij, br_c (fun he => only.1 ⟨hk, Or.inl ⟨h11, he⟩⟩) (fun he => only.2 ?_)⟩) (fun h11 => ?_)) (fun hk => only.2 (fun h => hk h.1))
  · rintro ⟨_, ⟨_, h⟩ | ⟨h, _⟩⟩
    · exact he h
    · exact h h11
  · have yes : sh_al K a_firsts a_seconds a_thirds T i j → post 1 := fun h => only.1 ⟨hk, Or.inr ⟨h11, h⟩⟩
    have no : ¬ sh_al K a_firsts a_seconds a_thirds T i j → post 0 := fun h => only.2 (by
      rintro ⟨_, ⟨h', _⟩ | ⟨_, h'⟩⟩
      · exact h11 h'
      · exact h h')
    have S : ∀ j, j < i → a_same j = nI (T j).1 := fun j hj => (hR j hj).1
    have ve : ∀ s, s < 3 → (sh_v K a_firsts a_seconds a_thirds T s i = sh_v K a_firsts a_seconds a_thirds T s j ↔ (sc_us (K i) s → (T (sh_o a_firsts a_seconds a_thirds s i)).1 = (T (sh_o a_firsts a_seconds a_thirds s j)).1)) := fun s hs => sh_v_eq hs (by omega) hj hk (hok i hi) (hok j (by omega)) hg
    refine sx_stands (K := K) (T := T) (s := 0) hn hi (Nat.le_refl _) (by omega) (hO i hi) (hok i hi) S ?_
    refine sx_stands (K := K) (T := T) (s := 1) hn hi (Nat.le_refl _) (by omega) (hO i hi) (hok i hi) S ?_
    refine sx_stands (K := K) (T := T) (s := 2) hn hi (Nat.le_refl _) (by omega) (hO i hi) (hok i hi) S ?_
    refine sx_stands (K := K) (T := T) (s := 0) (w := i) hn (show j < n by omega) (by omega) (by omega) (hO j (by omega)) (hok j (by omega)) S ?_
    refine sx_stands (K := K) (T := T) (s := 1) (w := i) hn (show j < n by omega) (by omega) (by omega) (hO j (by omega)) (hok j (by omega)) S ?_
    refine sx_stands (K := K) (T := T) (s := 2) (w := i) hn (show j < n by omega) (by omega) (by omega) (hO j (by omega)) (hok j (by omega)) S ?_
    have t200 : ∀ z : Int32, (z = 1 ∧ (K i = 3 ∨ K i = 5 ∨ K i = 7 ∨ K i = 8) ∨ z = 0 ∧ ¬ (K i = 3 ∨ K i = 5 ∨ K i = 7 ∨ K i = 8)) → (¬ ∀ s, s < 3 → sh_v K a_firsts a_seconds a_thirds T s i = sh_v K a_firsts a_seconds a_thirds T s j) → wX_alike_200 post (sh_v K a_firsts a_seconds a_thirds T 0 i) (sh_v K a_firsts a_seconds a_thirds T 1 i) (sh_v K a_firsts a_seconds a_thirds T 0 j) (sh_v K a_firsts a_seconds a_thirds T 1 j) z f_lines f_studied f_wrong f_wrongAt f_brief f_on f_dropped f_steps f_nextLine f_repeats a_kinds a_firsts a_seconds a_thirds a_inputs a_home a_depth a_closer a_mate a_operands a_varies a_parted a_variableVaries a_same a_fixed a_worth a_needed a_variableNeeded a_values a_variables a_outputs a_cells a_whole a_waiting := by
      intro z hz hne
      have ne1 : ¬ ∀ s, s < 3 → sc_us (K i) s → (T (sh_o a_firsts a_seconds a_thirds s i)).1 = (T (sh_o a_firsts a_seconds a_thirds s j)).1 := fun h => hne (fun s hs => (ve s hs).mpr (h s hs))
      rcases hz with ⟨rfl, ht⟩ | ⟨rfl, ht⟩
      · have u0 : sc_us (K i) 0 := by unfold sc_us; omega
        have u1 : sc_us (K i) 1 := by unfold sc_us; omega
        have u0' : sc_us (K j) 0 := by rw [← hk]; exact u0
        have u1' : sc_us (K j) 1 := by rw [← hk]; exact u1
        rw [sh_v_u u0, sh_v_u u1, sh_v_u u0', sh_v_u u1']
        have a0 := (sh_ov_lt (by omega) (hok i hi 0 (by omega) u0)).1
        have a1 := (sh_ov_lt (by omega) (hok i hi 1 (by omega) u1)).1
        have b0 := (sh_ov_lt (by omega) (hok j (by omega) 0 (by omega) u0')).1
        have b1 := (sh_ov_lt (by omega) (hok j (by omega) 1 (by omega) u1')).1
        have ga0 := hg _ a0
        have ga1 := hg _ a1
        have gb0 := hg (sh_o a_firsts a_seconds a_thirds 0 j) (by omega)
        have gb1 := hg (sh_o a_firsts a_seconds a_thirds 1 j) (by omega)
        refine br_f (by decide) (pk_eq (T (sh_o a_firsts a_seconds a_thirds 0 i)).1 (T (sh_o a_firsts a_seconds a_thirds 1 j)).1 (fun e1 => pk_eq (T (sh_o a_firsts a_seconds a_thirds 1 i)).1 (T (sh_o a_firsts a_seconds a_thirds 0 j)).1 (fun e2 => yes (Or.inr ⟨ht, e1, e2⟩)) (fun e2 => no ?_)) (fun e1 => no ?_))
        · rintro (h | ⟨_, _, h⟩)
          · exact ne1 h
          · exact e2 h
        · rintro (h | ⟨_, h, _⟩)
          · exact ne1 h
          · exact e1 h
      · refine br_t rfl (no ?_)
        rintro (h | ⟨h, _⟩)
        · exact ne1 h
        · exact ht h
    have t177 : ∀ z : Int32, (z = 1 ∧ (K i = 3 ∨ K i = 5 ∨ K i = 7 ∨ K i = 8) ∨ z = 0 ∧ ¬ (K i = 3 ∨ K i = 5 ∨ K i = 7 ∨ K i = 8)) → wX_alike_177 post (sh_v K a_firsts a_seconds a_thirds T 0 i) (sh_v K a_firsts a_seconds a_thirds T 1 i) (sh_v K a_firsts a_seconds a_thirds T 2 i) (sh_v K a_firsts a_seconds a_thirds T 0 j) (sh_v K a_firsts a_seconds a_thirds T 1 j) (sh_v K a_firsts a_seconds a_thirds T 2 j) z f_lines f_studied f_wrong f_wrongAt f_brief f_on f_dropped f_steps f_nextLine f_repeats a_kinds a_firsts a_seconds a_thirds a_inputs a_home a_depth a_closer a_mate a_operands a_varies a_parted a_variableVaries a_same a_fixed a_worth a_needed a_variableNeeded a_values a_variables a_outputs a_cells a_whole a_waiting := by
      intro z hz
      refine br_c (fun e0 => br_c (fun e1 => br_c (fun e2 => yes (Or.inl (fun s hs hu => ?_))) (fun e2 => t200 z hz (fun h => e2 (h 2 (by omega))))) (fun e1 => t200 z hz (fun h => e1 (h 1 (by omega))))) (fun e0 => t200 z hz (fun h => e0 (h 0 (by omega))))
      have : s = 0 ∨ s = 1 ∨ s = 2 := by omega
      rcases this with rfl | rfl | rfl
      · exact (ve 0 (by omega)).mp e0 hu
      · exact (ve 1 (by omega)).mp e1 hu
      · exact (ve 2 (by omega)).mp e2 hu
    exact pk_eq (K i) 3 (fun h => t177 1 (Or.inl ⟨rfl, by omega⟩)) (fun n3 => pk_eq (K i) 5 (fun h => t177 1 (Or.inl ⟨rfl, by omega⟩)) (fun n5 => pk_eq (K i) 7 (fun h => t177 1 (Or.inl ⟨rfl, by omega⟩)) (fun n7 => pk_eq (K i) 8 (fun h => t177 1 (Or.inl ⟨rfl, by omega⟩)) (fun n8 => t177 0 (Or.inr ⟨rfl, by omega⟩)))))
theorem sx_first41 (hP : xv_P K n a_kinds a_firsts a_seconds a_thirds a_home a_mate a_operands) {post : Int32 → Prop} {i : Nat} {f : Bool} {v : Int32} (hi : i < n) (hR : ∀ j, j < i → a_same j = nI (T j).1 ∧ a_fixed j = sh_bI (T j).2.1 ∧ a_worth j = (T j).2.2) (hg : ∀ j, j < i → (T j).1 ≤ j) (hf : a_fixed i = sh_bI f) (hw : a_worth i = v)
    (h : ∀ r, sh_F (sh_P K a_firsts a_seconds a_thirds T i f v) i r → post (nI r)) : ∀ d t : Nat, t + d = i → (∀ j, j < t → ¬ sh_P K a_firsts a_seconds a_thirds T i f v j) → wX_firstAlike_41 post (nI i) 1 f_lines f_studied f_wrong f_wrongAt f_brief f_on f_dropped f_steps f_nextLine f_repeats a_kinds a_firsts a_seconds a_thirds a_inputs a_home a_depth a_closer a_mate a_operands a_varies a_parted a_variableVaries a_same a_fixed a_worth a_needed a_variableNeeded a_values a_variables a_outputs a_cells a_whole a_waiting (d + 1) (nI t) := by
  have hP' := hP
  obtain ⟨hn, hK, hgd, h4, hok, hH, hO⟩ := hP'
  intro d
  induction d with
  | zero =>
    intro t ht hno
    cases (show t = i by omega)
    exact br_t (nI_le (Nat.le_refl _) (by omega)) (h i (Or.inl ⟨rfl, hno⟩))
  | succ d ih =>
    intro t ht hno
    have ct : (nI t).toNatClampNeg = t := nI_clamp (by omega)
    have it : vp_in (nI t) 48 := vp_in_nI (by omega) (by omega)
    have gt := hg t (by omega)
    have next : ¬ sh_P K a_firsts a_seconds a_thirds T i f v t → wX_firstAlike_41 post (nI i) 1 f_lines f_studied f_wrong f_wrongAt f_brief f_on f_dropped f_steps f_nextLine f_repeats a_kinds a_firsts a_seconds a_thirds a_inputs a_home a_depth a_closer a_mate a_operands a_varies a_parted a_variableVaries a_same a_fixed a_worth a_needed a_variableNeeded a_values a_variables a_outputs a_cells a_whole a_waiting (d + 1) (nI (t + 1)) := fun hn' =>
      ih (t + 1) (by omega) (fun j hj => by
        by_cases e : j = t
        · rw [e]; exact hn'
        · exact hno j (by omega))
    refine br_f (nI_ge (by omega) (by omega)) (br_f (by decide) ⟨it, ?_⟩)
    rw [ct, (hR t (by omega)).1]
    refine pk_eq (T t).1 t (fun es => ?_) (fun es => nm_r (nI_1 t) (next (fun hp => es hp.1)))
    refine sx_alike (K := K) (n := n) (T := T) hP hi (by omega) hR hg hf hw (fun ha => br_f (by decide) ⟨it, ?_⟩) (fun ha => br_t rfl (nm_r (nI_1 t) (next (fun hp => ha hp.2.2))))
    have gt1 : sc_good K (t + 1) := sc_good_le hgd (by omega)
    have hle := sc_hdl_le gt1
    rw [(hH t (by omega)).1]
    exact xs_isOpen (K := K) hn (Nat.le_refl n) hgd (fun j hj => (hH j hj).1) (by omega) hi (fun ho => br_f (by decide) (h t (Or.inr ⟨by omega, ⟨es, ho, ha⟩, hno⟩))) (fun ho => br_t rfl (nm_r (nI_1 t) (next (fun hp => ho hp.2.1))))
theorem sx_first (hP : xv_P K n a_kinds a_firsts a_seconds a_thirds a_home a_mate a_operands) {post : Int32 → Prop} {i : Nat} {f : Bool} {v : Int32} (hi : i < n) (hR : ∀ j, j < i → a_same j = nI (T j).1 ∧ a_fixed j = sh_bI (T j).2.1 ∧ a_worth j = (T j).2.2) (hg : ∀ j, j < i → (T j).1 ≤ j) (hf : a_fixed i = sh_bI f) (hw : a_worth i = v)
    (h : sh_cmp (K i) → ∀ r, sh_F (sh_P K a_firsts a_seconds a_thirds T i f v) i r → post (nI r)) (h' : ¬ sh_cmp (K i) → post (nI i)) : wpX_firstAlike post (f_lines, f_studied, f_wrong, f_wrongAt, f_brief, f_on, f_dropped, f_steps, f_nextLine, f_repeats, a_kinds, a_firsts, a_seconds, a_thirds, a_inputs, a_home, a_depth, a_closer, a_mate, a_operands, a_varies, a_parted, a_variableVaries, a_same, a_fixed, a_worth, a_needed, a_variableNeeded, a_values, a_variables, a_outputs, a_cells, a_whole, a_waiting) (nI i) := by
  have hP' := hP
  obtain ⟨hn, hK, hgd, h4, hok, hH, hO⟩ := hP'
  have ci : (nI i).toNatClampNeg = i := nI_clamp (by omega)
  have ii : vp_in (nI i) 48 := vp_in_nI (by omega) (by omega)
  have ki := hK i hi
  have go : sh_cmp (K i) → ∃ m, wX_firstAlike_41 post (nI i) 1 f_lines f_studied f_wrong f_wrongAt f_brief f_on f_dropped f_steps f_nextLine f_repeats a_kinds a_firsts a_seconds a_thirds a_inputs a_home a_depth a_closer a_mate a_operands a_varies a_parted a_variableVaries a_same a_fixed a_worth a_needed a_variableNeeded a_values a_variables a_outputs a_cells a_whole a_waiting m 0 := fun hc =>
    ⟨i + 1, sx_first41 (K := K) (n := n) (T := T) hP hi hR hg hf hw (h hc) i 0 (by omega) (fun j hj => by omega)⟩
  refine ⟨ii, ?_⟩
  rw [ci, ki.1]
  refine pk_le (K i) 10 (fun h10 => go (Or.inl h10)) (fun h10 => ⟨ii, pk_eq (K i) 12 (fun h12 => go (Or.inr (Or.inl h12))) (fun h12 => ⟨ii, pk_eq (K i) 13 (fun h13 => go (Or.inr (Or.inr h13))) (fun h13 => ⟨1, ?_⟩)⟩)⟩)
  have hp := h' (by unfold sh_cmp; omega)
  exact br_c (fun _ => hp) (fun _ => br_t rfl hp)
end
