section
/-- a function by a relation -/
theorem cn_fun {P : Nat → Nat → Prop} (F : Nat → Int32) (z : Int32) (hu : ∀ c j j', P c j → P c j' → j = j') : ∃ f : Nat → Int32, (∀ c j, P c j → f c = F j) ∧ (∀ c, (¬ ∃ j, P c j) → f c = z) := by
  refine ⟨fun c => @dite _ (∃ j, P c j) (Classical.propDecidable _) (fun h => F (Classical.choose h)) (fun _ => z), fun c j h => ?_, fun c h => dif_neg h⟩
  dsimp only
  have hex : ∃ j, P c j := ⟨j, h⟩
  rw [dif_pos hex, hu c _ j (Classical.choose_spec hex) h]
variable {K : Nat → Nat} {n : Nat}
/-- there are marks such as Y makes -/
theorem cn_A (hg : sc_good K n) : ∃ blockOf opener around other end_, ys_A K n blockOf opener around other end_ := by
  have u1 : ∀ c j j' : Nat, (j < n ∧ (K j = 19 ∨ K j = 20 ∨ K j = 22) ∧ sc_cnt K (j + 1) = c) → (j' < n ∧ (K j' = 19 ∨ K j' = 20 ∨ K j' = 22) ∧ sc_cnt K (j' + 1) = c) → j = j' := by
    rintro c j j' ⟨_, k, e⟩ ⟨_, k', e'⟩
    have := sc_cnt_inj (K := K) (b := j + 1) (c := j' + 1) (Or.inr (by rw [Nat.add_sub_cancel]; exact k)) (Or.inr (by rw [Nat.add_sub_cancel]; exact k')) (e.trans e'.symm)
    omega
  obtain ⟨around, ar, _⟩ := cn_fun (fun j => nI (sc_cnt K (sc_hd (sc_lf K j)))) 0 u1
  obtain ⟨opener, op, _⟩ := cn_fun (fun j => nI (sc_mt K j)) 0 u1
  obtain ⟨other, ot, ot'⟩ := cn_fun (P := fun c j => j < n ∧ K j = 20 ∧ sc_mt K j = c) nI (-1) (by
    rintro c j j' ⟨hj, k, e⟩ ⟨hj', k', e'⟩
    obtain ⟨m, r, f, _⟩ := (hg j hj).2.1 k
    obtain ⟨m', r', f', _⟩ := (hg j' hj').2.1 k'
    have em : m = c := by rw [← e, sc_mt_cl (Or.inl k), f]; rfl
    have em' : m' = c := by rw [← e', sc_mt_cl (Or.inl k'), f']; rfl
    subst em
    subst em'
    exact sc_uniqE hg hj hj' ⟨Or.inl k, _, _, f⟩ ⟨Or.inl k', _, _, f'⟩)
  obtain ⟨end_, en, _⟩ := cn_fun (P := fun c j => j < n ∧ (K j = 21 ∨ K j = 23) ∧ sc_mt K j = c) nI 0 (by
    rintro c j j' ⟨hj, k, e⟩ ⟨hj', k', e'⟩
    obtain ⟨b, r, f, _⟩ := sc_clTop (hg j hj) (Or.inr k)
    obtain ⟨b', r', f', _⟩ := sc_clTop (hg j' hj') (Or.inr k')
    rw [e] at f
    rw [e'] at f'
    rcases Nat.lt_trichotomy j j' with l | l | l
    · exact (sc_uniqM (sc_good_le hg (by omega)) l k f f').elim
    · exact l
    · exact (sc_uniqM (sc_good_le hg (by omega)) l k' f' f).elim)
  refine ⟨fun j => nI (sc_cnt K (sc_hd (sc_lf K j))), opener, around, other, end_, fun j hj => ⟨rfl, fun k => ⟨ar _ j ⟨hj, k, rfl⟩, op _ j ⟨hj, k, rfl⟩⟩, fun k => ot _ j ⟨hj, k, rfl⟩, fun _ h => ot' j ?_, fun k => en _ j ⟨hj, k, rfl⟩⟩⟩
  rintro ⟨e, he, k, em⟩
  exact h e he k em
variable {A B C : Nat → Int32} {T : Nat → Nat × Bool × Int32}
/-- what stands for itself -/
theorem cn_T {j : Nat} (hl : sh_line K A B C T j (T j)) (h : 10 < K j) (h' : K j ≠ 12 ∧ K j ≠ 13) : T j = (j, false, 0) := by
  have e1 : sh_1 K A B C T j = (j, false, 0) := by unfold sh_1; rw [if_neg (by omega), if_neg (by omega), if_neg (by omega)]
  rcases hl with ⟨_, e⟩ | ⟨⟨_, hc⟩, _⟩
  · rw [e, e1]
  · unfold sh_cmp at hc; omega
theorem cn_need {N : Nat → Prop} (hn : n < 2 ^ 31) (hov : ∀ j, j < n → ∀ s, s < 3 → sc_us (K j) s → sc_ov K A B C s j) (hgT : ∀ j, j < n → sh_good T j) (hl : ∀ j, j < n → sh_line K A B C T j (T j)) (h : nd_least K A B C T n N) : ∀ i, i < n → N i → (T i).2.1 = false ∧ (T i).1 = i := by
  intro i hi ni
  have := h.2 (fun j => N j ∧ (T j).2.1 = false ∧ (T j).1 = j) (fun i hi => ?_) i hi ni
  · exact this.2
  obtain ⟨a, b, c⟩ := h.1 i hi
  refine ⟨fun k => ?_, fun k hx => ?_, fun hN s hs hu hc => ?_⟩
  · have e := cn_T (hl i hi) (by omega) (by omega)
    exact ⟨a k, by rw [e], by rw [e]⟩
  · have e := cn_T (hl i hi) (by omega) (by omega)
    obtain ⟨j, hj, kj, ej, nj⟩ := hx
    exact ⟨b k ⟨j, hj, kj, ej, nj.1⟩, by rw [e], by rw [e]⟩
  · have o := (sh_ov_lt (by omega) (hov i hi s hs hu)).1
    exact ⟨c hN.1 s hs hu hc, hc, (hgT _ (by omega)).2.1⟩
end
section
variable {K : Nat → Nat} {n : Nat} {T : Nat → Nat × Bool × Int32} {br : Int32}
variable {f_lines f_studied f_wrong f_wrongAt f_brief f_on f_dropped f_steps f_nextLine f_repeats : Int32} {a_kinds a_firsts a_seconds a_thirds a_inputs a_home a_depth a_closer a_mate a_operands a_varies a_parted a_variableVaries a_same a_fixed a_worth a_needed a_variableNeeded a_values a_variables a_outputs a_cells a_whole a_waiting : Nat → Int32}
variable {yf_lines yf_known yf_wrong yf_place yf_blocks yf_steps yf_dropped yf_on yf_next yf_again yf_depth : Int32} {ya_ops ya_as ya_bs ya_cs ya_blockOf ya_opener ya_around ya_other ya_end ya_open ya_varied ya_loose ya_variedVariable ya_stands ya_number ya_isConst ya_needed ya_inputs ya_values ya_variables ya_cells ya_outs ya_was ya_rest ya_line : Nat → Int32}
/-- what holds of X's marks for the run -/
def rn_xm (K : Nat → Nat) (n : Nat) (T : Nat → Nat × Bool × Int32) (A B C home depth closer mate operands same fixed worth nd : Nat → Int32) : Prop :=
  sc_ok K A B C n ∧ sc_fr K n = [] ∧ xs_A K A B C n home depth closer mate operands ∧ closer 0 = nI n ∧ sh_R T n same fixed worth ∧ (∀ j, j < n → sh_good T j) ∧ (∀ j, j < n → sh_line K A B C T j (T j)) ∧ nd_least K A B C T n (fun j => nd j ≠ 0)
theorem rn_stX (hW : pg_W K n a_kinds a_firsts) (hx : rn_xm K n T a_firsts a_seconds a_thirds a_home a_depth a_closer a_mate a_operands a_same a_fixed a_worth a_needed) (eb : f_brief = br) (hbr : br = 0 ∨ br = 1) (el : f_lines = nI n) (el' : yf_lines = nI n)
    (e1 : ya_ops = a_kinds) (e2 : ya_as = a_firsts) (e3 : ya_bs = a_seconds) (e4 : ya_cs = a_thirds) (e5 : ya_inputs = a_inputs) (hB : ys_A K n ya_blockOf ya_opener ya_around ya_other ya_end) (hR' : sh_R T n ya_stands ya_isConst ya_number) (hnd : ∀ i, i < n → (a_needed i ≠ 0 ↔ ya_needed i ≠ 0 ∧ (T i).2.1 = false)) : rn_stat K n T br f_lines f_brief a_kinds a_firsts a_seconds a_thirds a_inputs a_home a_depth a_closer a_mate a_operands a_same a_fixed a_worth a_needed yf_lines ya_ops ya_as ya_bs ya_cs ya_blockOf ya_opener ya_around ya_other ya_end ya_stands ya_number ya_isConst ya_needed ya_inputs := by
  obtain ⟨hok, hfr, hA, hc0, hR, hg, hl, hnl⟩ := hx
  have hn := hW.1
  have hov : ∀ j, j < n → ∀ s, s < 3 → sc_us (K j) s → sc_ov K a_firsts a_seconds a_thirds s j := fun j hj => (sc_ck0 (hok j hj)).2.1
  refine ⟨hW, hok, hfr, hA, hc0, hB, ⟨e1, e2, e3, e4, e5⟩, ⟨hR, hR', hg, fun j hj h => ?_⟩, hnd, fun i hi h => (cn_need (by omega) hov hg hl hnl i hi h).2, fun i hi h => (hnl.1 i hi).1 h, eb, hbr, el, el'⟩
  rcases Nat.lt_or_ge 16 (K j) with h' | h'
  · rw [cn_T (hl j hj) (by omega) (by omega)] at h; cases h
  · exact h'
/-- there is a Y that X's state fits to -/
theorem rn_stC (hW : pg_W K n a_kinds a_firsts) (hx : rn_xm K n T a_firsts a_seconds a_thirds a_home a_depth a_closer a_mate a_operands a_same a_fixed a_worth a_needed) (eb : f_brief = br) (hbr : br = 0 ∨ br = 1) (el : f_lines = nI n) :
    ∃ blockOf opener around other end_, rn_stat K n T br f_lines f_brief a_kinds a_firsts a_seconds a_thirds a_inputs a_home a_depth a_closer a_mate a_operands a_same a_fixed a_worth a_needed (nI n) a_kinds a_firsts a_seconds a_thirds blockOf opener around other end_ a_same a_worth a_fixed a_needed a_inputs := by
  have hx' := hx
  obtain ⟨hok, hfr, hA, hc0, hR, hg, hl, hnl⟩ := hx'
  have hn := hW.1
  have hov : ∀ j, j < n → ∀ s, s < 3 → sc_us (K j) s → sc_ov K a_firsts a_seconds a_thirds s j := fun j hj => (sc_ck0 (hok j hj)).2.1
  obtain ⟨blockOf, opener, around, other, end_, hB⟩ := cn_A (sc_ok_good hok)
  exact ⟨blockOf, opener, around, other, end_, rn_stX hW hx eb hbr el rfl rfl rfl rfl rfl rfl hB hR (fun i hi => ⟨fun h => ⟨h, (cn_need (by omega) hov hg hl hnl i hi h).1⟩, fun h => h.1⟩)⟩
/-- the Y that has looked fits to it -/
theorem rn_stY {w p : Int32} {va lo vv : Nat → Int32} (hW : pg_W K n a_kinds a_firsts) (hx : rn_xm K n T a_firsts a_seconds a_thirds a_home a_depth a_closer a_mate a_operands a_same a_fixed a_worth a_needed) (eb : f_brief = br) (hbr : br = 0 ∨ br = 1) (el : f_lines = nI n) (el' : yf_lines = nI n)
    (e1 : ya_ops = a_kinds) (e2 : ya_as = a_firsts) (e3 : ya_bs = a_seconds) (e4 : ya_cs = a_thirds) (e5 : ya_inputs = a_inputs) (hY : pg_Y K n a_firsts a_seconds a_thirds w p ya_blockOf ya_opener ya_around ya_other ya_end va lo vv ya_stands ya_isConst ya_number ya_needed) : rn_stat K n T br f_lines f_brief a_kinds a_firsts a_seconds a_thirds a_inputs a_home a_depth a_closer a_mate a_operands a_same a_fixed a_worth a_needed yf_lines ya_ops ya_as ya_bs ya_cs ya_blockOf ya_opener ya_around ya_other ya_end ya_stands ya_number ya_isConst ya_needed ya_inputs := by
  have hx' := hx
  obtain ⟨hok, hfr, hA, hc0, hR, hg, hl, hnl⟩ := hx'
  obtain ⟨hok', hfr', hA', hl', h4', T', hR', hg', hln', hnd'⟩ := hY
  have hn := hW.1
  have hov : ∀ j, j < n → ∀ s, s < 3 → sc_us (K j) s → sc_ov K a_firsts a_seconds a_thirds s j := fun j hj => (sc_ck0 (hok j hj)).2.1
  have eT : ∀ j, j < n → T j = T' j := sh_uniq (by omega) hov (fun j hj => (hg j hj).1) hl hln'
  have nd2 := nd_least_eq (by omega) hov (fun j hj => (hg' j hj).1) (fun j hj => (eT j hj).symm) hnd'
  refine rn_stX hW hx eb hbr el el' e1 e2 e3 e4 e5 hA' (fun j hj => by rw [eT j hj]; exact hR' j hj) (fun i hi => ?_)
  have := nd_uniq hnl nd2 i hi
  rw [← eT i hi] at this
  exact this
end
