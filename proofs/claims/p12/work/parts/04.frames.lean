section
variable (K : Nat → Nat)
/-- frames open ahead of line i, innermost first: (number of its current block: opening line + 1, its IF or LOOP) -/
def sc_fr : Nat → List (Nat × Nat)
  | 0 => []
  | i + 1 => if K i = 19 ∨ K i = 22 then (i + 1, i) :: sc_fr i
      else if K i = 20 then (i + 1, ((sc_fr i).headD (0, 0)).2) :: (sc_fr i).tail
      else if K i = 21 ∨ K i = 23 then (sc_fr i).tail else sc_fr i
def sc_cl (k : Nat) : Prop := k = 20 ∨ k = 21 ∨ k = 23
def sc_op (k : Nat) : Prop := k = 19 ∨ k = 20 ∨ k = 22
/-- frames around line i itself -/
def sc_lf (i : Nat) : List (Nat × Nat) := if K i = 20 ∨ K i = 21 ∨ K i = 23 then (sc_fr K i).tail else sc_fr K i
def sc_hd (l : List (Nat × Nat)) : Nat := (l.headD (0, 0)).1
def sc_mt (i : Nat) : Nat := if K i = 20 ∨ K i = 21 ∨ K i = 23 then ((sc_fr K i).headD (0, 0)).2 else i
def sc_fits (i : Nat) : Prop :=
  ((K i = 19 ∨ K i = 22) → (sc_fr K i).length < 4) ∧
  (K i = 20 → ∃ m r, sc_fr K i = (m + 1, m) :: r ∧ K m = 19) ∧
  (K i = 21 → ∃ b m r, sc_fr K i = (b, m) :: r ∧ K m = 19) ∧
  (K i = 23 → ∃ b m r, sc_fr K i = (b, m) :: r ∧ K m = 22) ∧
  (K i = 24 → ∃ f, f ∈ sc_fr K i ∧ K f.2 = 22)
def sc_good (i : Nat) : Prop := ∀ j, j < i → sc_fits K j
variable {K}
theorem sc_good_le {i j : Nat} (h : sc_good K i) (hj : j ≤ i) : sc_good K j := fun q hq => h q (by omega)
theorem sc_s_open {i : Nat} (h : K i = 19 ∨ K i = 22) : sc_fr K (i + 1) = (i + 1, i) :: sc_fr K i := by
  simp only [sc_fr, if_pos h]
theorem sc_s_else {i : Nat} (h : K i = 20) : sc_fr K (i + 1) = (i + 1, ((sc_fr K i).headD (0, 0)).2) :: (sc_fr K i).tail := by
  simp only [sc_fr]
  rw [if_neg (by omega), if_pos h]
theorem sc_s_end {i : Nat} (h : K i = 21 ∨ K i = 23) : sc_fr K (i + 1) = (sc_fr K i).tail := by
  simp only [sc_fr]
  rw [if_neg (by omega), if_neg (by omega), if_pos h]
theorem sc_s_plain {i : Nat} (h : ¬ (K i = 19 ∨ K i = 20 ∨ K i = 21 ∨ K i = 22 ∨ K i = 23)) : sc_fr K (i + 1) = sc_fr K i := by
  simp only [sc_fr]
  rw [if_neg (by omega), if_neg (by omega), if_neg (by omega)]
theorem sc_lf_cl {i : Nat} (h : K i = 20 ∨ K i = 21 ∨ K i = 23) : sc_lf K i = (sc_fr K i).tail := if_pos h
theorem sc_lf_n {i : Nat} (h : ¬ (K i = 20 ∨ K i = 21 ∨ K i = 23)) : sc_lf K i = sc_fr K i := if_neg h
theorem sc_mt_cl {i : Nat} (h : K i = 20 ∨ K i = 21 ∨ K i = 23) : sc_mt K i = ((sc_fr K i).headD (0, 0)).2 := if_pos h
theorem sc_mt_n {i : Nat} (h : ¬ (K i = 20 ∨ K i = 21 ∨ K i = 23)) : sc_mt K i = i := if_neg h
/-- what is known of the innermost frame -/
def sc_T (K : Nat → Nat) (i b m : Nat) (r : List (Nat × Nat)) : Prop :=
  1 ≤ b ∧ b ≤ i ∧ m < b ∧ ((b = m + 1 ∧ (K m = 19 ∨ K m = 22)) ∨ (K (b - 1) = 20 ∧ K m = 19 ∧ m + 1 < b)) ∧ sc_lf K (b - 1) = r ∧ sc_fr K m = r ∧ sc_mt K (b - 1) = m ∧ sc_op (K (b - 1)) ∧ sc_fr K b = (b, m) :: r
theorem sc_T_le {i j b m : Nat} {r : List (Nat × Nat)} (h : sc_T K i b m r) (hj : i ≤ j) : sc_T K j b m r := by
  obtain ⟨h1, h2, h3⟩ := h
  exact ⟨h1, by omega, h3⟩
theorem sc_top : ∀ i : Nat, sc_good K i → ∀ b m r, sc_fr K i = (b, m) :: r → sc_T K i b m r := by
  intro i
  induction i using Nat.strongRecOn with
  | _ i ih =>
    intro hg b m r e
    cases i with
    | zero => simp [sc_fr] at e
    | succ i =>
      have hf := hg i (by omega)
      have gi : sc_good K i := sc_good_le hg (by omega)
      by_cases h1 : K i = 19 ∨ K i = 22
      · have e0 := e
        rw [sc_s_open h1] at e
        simp only [List.cons.injEq, Prod.mk.injEq] at e
        obtain ⟨⟨rfl, rfl⟩, rfl⟩ := e
        refine ⟨by omega, by omega, by omega, Or.inl ⟨rfl, h1⟩, ?_, rfl, ?_, ?_, e0⟩
        · exact sc_lf_n (by simp only [Nat.add_sub_cancel]; omega)
        · exact sc_mt_n (by simp only [Nat.add_sub_cancel]; omega)
        · simp only [Nat.add_sub_cancel, sc_op]; omega
      · by_cases h2 : K i = 20
        · have e0 := e
          obtain ⟨m0, r0, e2, hm⟩ := hf.2.1 h2
          rw [sc_s_else h2, e2] at e
          simp only [List.headD_cons, List.tail_cons, List.cons.injEq, Prod.mk.injEq] at e
          obtain ⟨⟨rfl, rfl⟩, rfl⟩ := e
          have t := ih i (by omega) gi _ _ _ e2
          refine ⟨by omega, by omega, by have := t.2.1; omega, Or.inr ⟨h2, hm, by have := t.2.1; omega⟩, ?_, t.2.2.2.2.2.1, ?_, ?_, e0⟩
          · rw [show i + 1 - 1 = i from rfl, sc_lf_cl (by omega), e2]; rfl
          · rw [show i + 1 - 1 = i from rfl, sc_mt_cl (by omega), e2]; rfl
          · simp only [Nat.add_sub_cancel, sc_op]; omega
        · by_cases h3 : K i = 21 ∨ K i = 23
          · have : ∃ b' m' r', sc_fr K i = (b', m') :: r' := by
              rcases h3 with h3 | h3
              · obtain ⟨b', m', r', e', _⟩ := hf.2.2.1 h3; exact ⟨b', m', r', e'⟩
              · obtain ⟨b', m', r', e', _⟩ := hf.2.2.2.1 h3; exact ⟨b', m', r', e'⟩
            obtain ⟨b', m', r', e'⟩ := this
            have t := ih i (by omega) gi _ _ _ e'
            rw [sc_s_end h3, e'] at e
            simp only [List.tail_cons] at e
            have hm : m' < i := by have := t.2.1; have := t.2.2.1; omega
            exact sc_T_le (ih m' (by omega) (sc_good_le gi (by omega)) b m r (by rw [t.2.2.2.2.2.1]; exact e)) (by omega)
          · rw [sc_s_plain (by omega)] at e
            exact sc_T_le (ih i (by omega) gi _ _ _ e) (by omega)
theorem sc_len : ∀ i : Nat, sc_good K i → (sc_fr K i).length ≤ 4 := by
  intro i
  induction i with
  | zero => intro _; simp [sc_fr]
  | succ i ih =>
    intro hg
    have hf := hg i (by omega)
    have l := ih (sc_good_le hg (by omega))
    by_cases h1 : K i = 19 ∨ K i = 22
    · rw [sc_s_open h1]; have := hf.1 h1; simp only [List.length_cons]; omega
    · by_cases h2 : K i = 20
      · obtain ⟨m0, r0, e2, _⟩ := hf.2.1 h2
        rw [sc_s_else h2, e2]
        rw [e2] at l
        simpa using l
      · by_cases h3 : K i = 21 ∨ K i = 23
        · rw [sc_s_end h3]; simp only [List.length_tail]; omega
        · rw [sc_s_plain (by omega)]; exact l
/-- a frame anywhere in the row was once the innermost one -/
theorem sc_mem {b m : Nat} : ∀ i : Nat, sc_good K i → (b, m) ∈ sc_fr K i → ∃ j r, j ≤ i ∧ sc_fr K j = (b, m) :: r ∧ sc_T K j b m r := by
  intro i
  induction i using Nat.strongRecOn with
  | _ i ih =>
    intro hg hm
    cases e : sc_fr K i with
    | nil => rw [e] at hm; cases hm
    | cons f r =>
      obtain ⟨b', m'⟩ := f
      have t := sc_top i hg _ _ _ e
      rw [e] at hm
      rcases List.mem_cons.mp hm with h | h
      · cases h; exact ⟨i, r, Nat.le_refl _, e, t⟩
      · have l : m' < i := by have := t.2.1; have := t.2.2.1; omega
        rw [← t.2.2.2.2.2.1] at h
        obtain ⟨j, r', hj, e', t'⟩ := ih m' l (sc_good_le hg (by omega)) h
        exact ⟨j, r', by omega, e', t'⟩
theorem sc_memT {i b m : Nat} (hg : sc_good K i) (h : (b, m) ∈ sc_fr K i) : ∃ r, sc_T K i b m r := by
  obtain ⟨j, r, hj, _, t⟩ := sc_mem i hg h
  exact ⟨r, sc_T_le t hj⟩
/-- what is open at j and was opened ahead of i is open at i -/
theorem sc_stay {b m : Nat} : ∀ j i : Nat, sc_good K j → i ≤ j → b ≤ i → (b, m) ∈ sc_fr K j → (b, m) ∈ sc_fr K i := by
  intro j
  induction j with
  | zero => intro i _ hi _ h; rw [show i = 0 by omega]; exact h
  | succ j ih =>
    intro i hg hi hb h
    by_cases hij : i = j + 1
    · rw [hij]; exact h
    refine ih i (sc_good_le hg (by omega)) (by omega) hb ?_
    have hf := hg j (by omega)
    by_cases h1 : K j = 19 ∨ K j = 22
    · rw [sc_s_open h1] at h
      rcases List.mem_cons.mp h with h | h
      · cases h; omega
      · exact h
    · by_cases h2 : K j = 20
      · rw [sc_s_else h2] at h
        rcases List.mem_cons.mp h with h | h
        · simp only [Prod.mk.injEq] at h; omega
        · exact List.mem_of_mem_tail h
      · by_cases h3 : K j = 21 ∨ K j = 23
        · rw [sc_s_end h3] at h; exact List.mem_of_mem_tail h
        · rw [sc_s_plain (by omega)] at h; exact h
/-- the same by the IF or LOOP -/
theorem sc_stayM {m : Nat} : ∀ j i : Nat, sc_good K j → i ≤ j → m < i → (∃ b, (b, m) ∈ sc_fr K j) → ∃ b, (b, m) ∈ sc_fr K i := by
  intro j
  induction j with
  | zero => intro i _ hi hm; omega
  | succ j ih =>
    intro i hg hi hm h
    by_cases hij : i = j + 1
    · rw [hij]; exact h
    refine ih i (sc_good_le hg (by omega)) (by omega) hm ?_
    obtain ⟨b, h⟩ := h
    have hf := hg j (by omega)
    by_cases h1 : K j = 19 ∨ K j = 22
    · rw [sc_s_open h1] at h
      rcases List.mem_cons.mp h with h | h
      · cases h; omega
      · exact ⟨b, h⟩
    · by_cases h2 : K j = 20
      · obtain ⟨m0, r0, e2, _⟩ := hf.2.1 h2
        rw [sc_s_else h2, e2] at h
        rcases List.mem_cons.mp h with h | h
        · simp only [List.headD_cons, Prod.mk.injEq] at h
          rw [e2, h.2]; exact ⟨m0 + 1, List.mem_cons_self ..⟩
        · rw [e2]; exact ⟨b, List.mem_cons_of_mem _ h⟩
      · by_cases h3 : K j = 21 ∨ K j = 23
        · rw [sc_s_end h3] at h; exact ⟨b, List.mem_of_mem_tail h⟩
        · rw [sc_s_plain (by omega)] at h; exact ⟨b, h⟩
/-- numbers of blocks fall from the innermost outwards -/
theorem sc_below {i b m b' m' : Nat} {r : List (Nat × Nat)} (hg : sc_good K i) (e : sc_fr K i = (b, m) :: r) (h : (b', m') ∈ r) : b' ≤ m ∧ m' < m := by
  have t := sc_top i hg _ _ _ e
  rw [← t.2.2.2.2.2.1] at h
  obtain ⟨r', t'⟩ := sc_memT (sc_good_le hg (by have := t.2.1; have := t.2.2.1; omega)) h
  exact ⟨t'.2.1, by have := t'.2.2.1; have := t'.2.1; omega⟩
/-- line q closes block b -/
def sc_closes (K : Nat → Nat) (q b : Nat) : Prop := (K q = 20 ∨ K q = 21 ∨ K q = 23) ∧ ∃ m r, sc_fr K q = (b, m) :: r
theorem sc_after {q b m : Nat} {r : List (Nat × Nat)} (hg : sc_good K (q + 1)) (hc : K q = 20 ∨ K q = 21 ∨ K q = 23) (e : sc_fr K q = (b, m) :: r) : ∀ m', (b, m') ∉ sc_fr K (q + 1) := by
  intro m' h
  have gq := sc_good_le hg (show q ≤ q + 1 by omega)
  have t := sc_top q gq _ _ _ e
  have : (b, m') ∈ r := by
    rcases hc with hc | hc
    · rw [sc_s_else hc, e] at h
      rcases List.mem_cons.mp h with h | h
      · have := t.2.1; simp only [Prod.mk.injEq] at h; omega
      · exact h
    · rw [sc_s_end hc, e] at h; exact h
  have := sc_below gq e this
  have := t.2.2.1
  omega
theorem sc_uniq {q q' b : Nat} (hg : sc_good K (q' + 1)) (hq : q < q') (h : sc_closes K q b) (h' : sc_closes K q' b) : False := by
  obtain ⟨hc, m, r, e⟩ := h
  obtain ⟨_, m', r', e'⟩ := h'
  have t := sc_top q (sc_good_le hg (by omega)) _ _ _ e
  have : (b, m') ∈ sc_fr K (q + 1) := sc_stay q' (q + 1) (sc_good_le hg (by omega)) (by omega) (by have := t.2.1; omega) (by rw [e']; exact List.mem_cons_self ..)
  exact sc_after (sc_good_le hg (by omega)) hc e m' this
theorem sc_uniqE {q q' b : Nat} {n : Nat} (hg : sc_good K n) (hq : q < n) (hq' : q' < n) (h : sc_closes K q b) (h' : sc_closes K q' b) : q = q' := by
  rcases Nat.lt_trichotomy q q' with l | l | l
  · exact (sc_uniq (sc_good_le hg (by omega)) l h h').elim
  · exact l
  · exact (sc_uniq (sc_good_le hg (by omega)) l h' h).elim
/-- END and AGAIN of one IF or LOOP -/
theorem sc_uniqM {q q' b b' m : Nat} {r r' : List (Nat × Nat)} (hg : sc_good K (q' + 1)) (hq : q < q') (h : K q = 21 ∨ K q = 23) (e : sc_fr K q = (b, m) :: r) (e' : sc_fr K q' = (b', m) :: r') : False := by
  have t := sc_top q (sc_good_le hg (by omega)) _ _ _ e
  obtain ⟨b2, h2⟩ := sc_stayM (m := m) q' (q + 1) (sc_good_le hg (by omega)) (by omega) (by have := t.2.1; have := t.2.2.1; omega) ⟨b', by rw [e']; exact List.mem_cons_self ..⟩
  rw [sc_s_end h, e] at h2
  have := sc_below (sc_good_le hg (by omega)) e h2
  omega
/-- every frame that is open is closed by and by -/
theorem sc_ends {n b m : Nat} (hg : sc_good K n) (h0 : sc_fr K n = []) : ∀ d i : Nat, i + d = n → (b, m) ∈ sc_fr K i → ∃ q r, i ≤ q ∧ q < n ∧ (K q = 20 ∨ K q = 21 ∨ K q = 23) ∧ sc_fr K q = (b, m) :: r := by
  intro d
  induction d with
  | zero => intro i hi h; rw [show i = n by omega, h0] at h; cases h
  | succ d ih =>
    intro i hi h
    have hf := hg i (by omega)
    have next : (b, m) ∈ sc_fr K (i + 1) → ∃ q r, i ≤ q ∧ q < n ∧ (K q = 20 ∨ K q = 21 ∨ K q = 23) ∧ sc_fr K q = (b, m) :: r := by
      intro h
      obtain ⟨q, r, hq, hn, hc, e⟩ := ih (i + 1) (by omega) h
      exact ⟨q, r, by omega, hn, hc, e⟩
    by_cases h1 : K i = 19 ∨ K i = 22
    · exact next (by rw [sc_s_open h1]; exact List.mem_cons_of_mem _ h)
    · by_cases h2 : K i = 20 ∨ K i = 21 ∨ K i = 23
      · cases e : sc_fr K i with
        | nil => rw [e] at h; cases h
        | cons f r =>
          rw [e] at h
          rcases List.mem_cons.mp h with h | h
          · exact ⟨i, r, Nat.le_refl _, by omega, h2, by rw [e, h]⟩
          · refine next ?_
            rcases h2 with h2 | h2
            · rw [sc_s_else h2, e]; exact List.mem_cons_of_mem _ h
            · rw [sc_s_end h2, e]; exact h
      · exact next (by rw [sc_s_plain (by omega)]; exact h)
/-- how many blocks were opened ahead of i -/
def sc_cnt (K : Nat → Nat) : Nat → Nat
  | 0 => 0
  | i + 1 => sc_cnt K i + (if K i = 19 ∨ K i = 20 ∨ K i = 22 then 1 else 0)
theorem sc_cnt_op {i : Nat} (h : K i = 19 ∨ K i = 20 ∨ K i = 22) : sc_cnt K (i + 1) = sc_cnt K i + 1 := by simp only [sc_cnt, if_pos h]
theorem sc_cnt_n {i : Nat} (h : ¬ (K i = 19 ∨ K i = 20 ∨ K i = 22)) : sc_cnt K (i + 1) = sc_cnt K i := by simp only [sc_cnt, if_neg h, Nat.add_zero]
theorem sc_cnt_mono {i j : Nat} (h : i ≤ j) : sc_cnt K i ≤ sc_cnt K j := by
  obtain ⟨d, rfl⟩ : ∃ d, j = i + d := ⟨j - i, by omega⟩
  clear h
  induction d with
  | zero => exact Nat.le_refl _
  | succ d ih => rw [← Nat.add_assoc]; simp only [sc_cnt]; omega
theorem sc_cnt_le (i : Nat) : sc_cnt K i ≤ i := by
  induction i with
  | zero => simp [sc_cnt]
  | succ i ih => simp only [sc_cnt]; split <;> omega
/-- strictly more behind an opening line -/
theorem sc_cnt_lt {b c : Nat} (h : b < c) (ho : sc_op (K (c - 1))) : sc_cnt K b < sc_cnt K c := by
  obtain ⟨d, rfl⟩ : ∃ d, c = d + 1 := ⟨c - 1, by omega⟩
  rw [Nat.add_sub_cancel] at ho
  rw [sc_cnt_op ho]
  have := sc_cnt_mono (K := K) (show b ≤ d by omega)
  omega
theorem sc_cnt_inj {b c : Nat} (hb : b = 0 ∨ sc_op (K (b - 1))) (hc : c = 0 ∨ sc_op (K (c - 1))) (e : sc_cnt K b = sc_cnt K c) : b = c := by
  rcases Nat.lt_trichotomy b c with l | l | l
  · rcases hc with hc | hc
    · omega
    · have := sc_cnt_lt l hc; omega
  · exact l
  · rcases hb with hb | hb
    · omega
    · have := sc_cnt_lt l hb; omega
end
