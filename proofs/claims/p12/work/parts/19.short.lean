section
/-- a table: what a line is the same as, whether it is a constant, which -/
def sh_bI (b : Bool) : Int32 := if b then 1 else 0
def sh_T (same fixed worth : Nat → Int32) : Nat → Nat × Bool × Int32 := fun j => ((same j).toNatClampNeg, !(fixed j == 0), worth j)
def sh_rk (k : Nat) (x y : Int32) : Int32 :=
  if k = 3 then x + y else if k = 4 then x - y else if k = 5 then x * y else if k = 6 then (if y ≤ x then 0 else 1) else if k = 7 then (if x = y then 1 else 0) else if k = 8 then (if x = 0 then 0 else if y = 0 then 0 else 1) else (if x = 0 then 1 else 0)
variable (K : Nat → Nat) (A B C : Nat → Int32) (T : Nat → Nat × Bool × Int32)
def sh_o (s i : Nat) : Nat := (sc_o3 A B C s i).toNatClampNeg
/-- the constant v -/
def sh_is (x : Nat) (v : Int32) : Bool := (T x).2.1 && (T x).2.2 == v
def sh_sum (i x y : Nat) : Nat × Bool × Int32 :=
  if (T x).2.1 = true ∧ (T y).2.1 = true then (i, true, sh_rk (K i) (T x).2.2 (T y).2.2)
  else if (K i = 3 ∧ sh_is T x 0 = true) ∨ (K i = 5 ∧ sh_is T x 1 = true) then (y, (T y).2)
  else if ((K i = 3 ∨ K i = 4) ∧ sh_is T y 0 = true) ∨ (K i = 5 ∧ sh_is T y 1 = true) then (x, (T x).2)
  else if (K i = 5 ∧ (sh_is T x 0 = true ∨ sh_is T y 0 = true)) ∨ (x = y ∧ (K i = 4 ∨ K i = 6)) then (i, true, 0)
  else if x = y ∧ K i = 7 then (i, true, 1) else (i, false, 0)
def sh_pick (i x y z : Nat) : Nat × Bool × Int32 :=
  if (T x).2.1 = true then (if (T x).2.2 = 0 then (z, (T z).2) else (y, (T y).2)) else if y = z then (y, (T y).2) else (i, false, 0)
def sh_1 (i : Nat) : Nat × Bool × Int32 :=
  if K i = 0 then (i, true, A i)
  else if K i = 10 then sh_pick T i (T (sh_o A B C 0 i)).1 (T (sh_o A B C 1 i)).1 (T (sh_o A B C 2 i)).1
  else if 3 ≤ K i ∧ K i ≤ 9 then sh_sum K T i (T (sh_o A B C 0 i)).1 (if K i = 9 then (T (sh_o A B C 0 i)).1 else (T (sh_o A B C 1 i)).1)
  else (i, false, 0)
def sh_cmp (k : Nat) : Prop := k ≤ 10 ∨ k = 12 ∨ k = 13
/-- same operands -/
def sh_al (i j : Nat) : Prop := (∀ s, s < 3 → sc_us (K i) s → (T (sh_o A B C s i)).1 = (T (sh_o A B C s j)).1) ∨ ((K i = 3 ∨ K i = 5 ∨ K i = 7 ∨ K i = 8) ∧ (T (sh_o A B C 0 i)).1 = (T (sh_o A B C 1 j)).1 ∧ (T (sh_o A B C 1 i)).1 = (T (sh_o A B C 0 j)).1)
/-- line j may stand for line i -/
def sh_P (i : Nat) (f : Bool) (v : Int32) (j : Nat) : Prop :=
  (T j).1 = j ∧ sc_in (sc_hd (sc_lf K j)) (sc_lf K i) ∧
  ((f = true ∧ (T j).2.1 = true ∧ v = (T j).2.2) ∨ (f = false ∧ (T j).2.1 = false ∧ K i = K j ∧ ((K i = 1 ∧ A i = A j) ∨ (K i ≠ 1 ∧ sh_al K A B C T i j))))
def sh_F (P : Nat → Prop) (i r : Nat) : Prop := (r = i ∧ ∀ j, j < i → ¬ P j) ∨ (r < i ∧ P r ∧ ∀ j, j < r → ¬ P j)
def sh_line (i : Nat) (out : Nat × Bool × Int32) : Prop :=
  ((¬ ((sh_1 K A B C T i).1 = i ∧ sh_cmp (K i))) ∧ out = sh_1 K A B C T i) ∨
  (((sh_1 K A B C T i).1 = i ∧ sh_cmp (K i)) ∧ ∃ r, sh_F (sh_P K A B C T i (sh_1 K A B C T i).2.1 (sh_1 K A B C T i).2.2) i r ∧ out = (r, (sh_1 K A B C T i).2))
/-- what holds of the table's first lines -/
def sh_good (T : Nat → Nat × Bool × Int32) (j : Nat) : Prop := (T j).1 ≤ j ∧ (T (T j).1).1 = (T j).1 ∧ (T (T j).1).2 = (T j).2 ∧ ((T j).2.1 = false → (T j).2.2 = 0)
variable {K A B C T}
theorem sh_good_eq {T T' : Nat → Nat × Bool × Int32} {j : Nat} (h : ∀ q, q ≤ j → T q = T' q) (g : sh_good T j) : sh_good T' j := by
  obtain ⟨g1, g2, g3, g4⟩ := g
  have ej := h j (Nat.le_refl _)
  have e1 := h (T j).1 g1
  rw [ej] at g1 g2 g3 g4 e1
  rw [e1] at g2 g3
  exact ⟨g1, g2, g3, g4⟩
theorem sh_sum_eq {T' : Nat → Nat × Bool × Int32} {i x y : Nat} (hx : T x = T' x) (hy : T y = T' y) : sh_sum K T i x y = sh_sum K T' i x y := by
  unfold sh_sum sh_is; rw [hx, hy]
theorem sh_pick_eq {T' : Nat → Nat × Bool × Int32} {i x y z : Nat} (hx : T x = T' x) (hy : T y = T' y) (hz : T z = T' z) : sh_pick T i x y z = sh_pick T' i x y z := by
  unfold sh_pick; rw [hx, hy, hz]
theorem sh_ov_lt {s i : Nat} (hi : i < 2 ^ 31) (h : sc_ov K A B C s i) : sh_o A B C s i < i ∧ sc_o3 A B C s i = nI (sh_o A B C s i) ∧ K (sh_o A B C s i) ≤ 16 := by
  obtain ⟨x, hx, ex, k⟩ := h
  have : sh_o A B C s i = x := by unfold sh_o; rw [ex, nI_clamp (by omega)]
  rw [this]; exact ⟨hx, ex, k⟩
theorem sh_1_eq {T' : Nat → Nat × Bool × Int32} {i : Nat} (hi : i < 2 ^ 31) (hov : ∀ s, s < 3 → sc_us (K i) s → sc_ov K A B C s i) (hg : ∀ j, j < i → (T j).1 ≤ j) (h : ∀ j, j < i → T j = T' j) : sh_1 K A B C T i = sh_1 K A B C T' i := by
  unfold sh_1
  split
  · rfl
  · split
    · rename_i h10
      have o0 := sh_ov_lt hi (hov 0 (by omega) (by unfold sc_us; omega))
      have o1 := sh_ov_lt hi (hov 1 (by omega) (by unfold sc_us; omega))
      have o2 := sh_ov_lt hi (hov 2 (by omega) (by unfold sc_us; omega))
      rw [← h _ o0.1, ← h _ o1.1, ← h _ o2.1]
      exact sh_pick_eq (h _ (by have := hg _ o0.1; omega)) (h _ (by have := hg _ o1.1; omega)) (h _ (by have := hg _ o2.1; omega))
    · split
      · rename_i h39
        have o0 := sh_ov_lt hi (hov 0 (by omega) (by unfold sc_us; omega))
        have t0 := h _ (show (T (sh_o A B C 0 i)).1 < i by have := hg _ o0.1; omega)
        by_cases h9 : K i = 9
        · rw [if_pos h9, if_pos h9, ← h _ o0.1]
          exact sh_sum_eq t0 t0
        · have o1 := sh_ov_lt hi (hov 1 (by omega) (by unfold sc_us; omega))
          rw [if_neg h9, if_neg h9, ← h _ o0.1, ← h _ o1.1]
          exact sh_sum_eq t0 (h _ (by have := hg _ o1.1; omega))
      · rfl
theorem sh_F_uniq {P P' : Nat → Prop} {i r r' : Nat} (hP : ∀ j, j < i → (P j ↔ P' j)) (h : sh_F P i r) (h' : sh_F P' i r') : r = r' := by
  rcases h with ⟨e, h⟩ | ⟨l, p, h⟩ <;> rcases h' with ⟨e', h'⟩ | ⟨l', p', h'⟩
  · omega
  · exact absurd ((hP r' l').mpr p') (h r' l')
  · exact absurd ((hP r l).mp p) (h' r l)
  · rcases Nat.lt_trichotomy r r' with z | z | z
    · exact absurd ((hP r l).mp p) (h' r z)
    · exact z
    · exact absurd ((hP r' l').mpr p') (h r' z)
theorem sh_al_eq {T' : Nat → Nat × Bool × Int32} {i j : Nat} (hi : i < 2 ^ 31) (hj : j < i) (hk : K i = K j) (hov : ∀ s, s < 3 → sc_us (K i) s → sc_ov K A B C s i) (hovj : ∀ s, s < 3 → sc_us (K j) s → sc_ov K A B C s j) (h : ∀ j, j < i → T j = T' j) (g : sh_al K A B C T i j) : sh_al K A B C T' i j := by
  rcases g with g | ⟨k, g1, g2⟩
  · refine Or.inl (fun s hs hu => ?_)
    have a := (sh_ov_lt hi (hov s hs hu)).1
    have b := (sh_ov_lt (by omega) (hovj s hs (by rw [← hk]; exact hu))).1
    rw [← h _ a, ← h _ (by omega)]; exact g s hs hu
  · have u0 : sc_us (K i) 0 := by unfold sc_us; omega
    have u1 : sc_us (K i) 1 := by unfold sc_us; omega
    have a0 := (sh_ov_lt hi (hov 0 (by omega) u0)).1
    have a1 := (sh_ov_lt hi (hov 1 (by omega) u1)).1
    have b0 := (sh_ov_lt (by omega) (hovj 0 (by omega) (by rw [← hk]; exact u0))).1
    have b1 := (sh_ov_lt (by omega) (hovj 1 (by omega) (by rw [← hk]; exact u1))).1
    refine Or.inr ⟨k, ?_, ?_⟩
    · rw [← h _ a0, ← h _ (by omega)]; exact g1
    · rw [← h _ a1, ← h _ (by omega)]; exact g2
theorem sh_P_eq {T' : Nat → Nat × Bool × Int32} {i j : Nat} {f : Bool} {v : Int32} (hi : i < 2 ^ 31) (hj : j < i) (hov : ∀ s, s < 3 → sc_us (K i) s → sc_ov K A B C s i) (hovj : ∀ s, s < 3 → sc_us (K j) s → sc_ov K A B C s j) (h : ∀ j, j < i → T j = T' j) (g : sh_P K A B C T i f v j) : sh_P K A B C T' i f v j := by
  obtain ⟨g1, g2, g3⟩ := g
  have ej := h j hj
  refine ⟨by rw [← ej]; exact g1, g2, ?_⟩
  rcases g3 with g3 | ⟨a, b, c, d⟩
  · exact Or.inl (by rw [← ej]; exact g3)
  · refine Or.inr ⟨a, by rw [← ej]; exact b, c, ?_⟩
    rcases d with d | ⟨d1, d2⟩
    · exact Or.inl d
    · exact Or.inr ⟨d1, sh_al_eq hi hj c hov hovj h d2⟩
/-- a line's outcome hangs on the lines ahead of it alone -/
theorem sh_line_uniq {T' : Nat → Nat × Bool × Int32} {i : Nat} {o o' : Nat × Bool × Int32} (hi : i < 2 ^ 31) (hov : ∀ j, j ≤ i → ∀ s, s < 3 → sc_us (K j) s → sc_ov K A B C s j) (hg : ∀ j, j < i → (T j).1 ≤ j) (h : ∀ j, j < i → T j = T' j) (l : sh_line K A B C T i o) (l' : sh_line K A B C T' i o') : o = o' := by
  have e1 := sh_1_eq hi (hov i (Nat.le_refl _)) hg h
  unfold sh_line at l l'
  rw [← e1] at l'
  have iff : ∀ j, j < i → (sh_P K A B C T i (sh_1 K A B C T i).2.1 (sh_1 K A B C T i).2.2 j ↔ sh_P K A B C T' i (sh_1 K A B C T i).2.1 (sh_1 K A B C T i).2.2 j) := fun j hj =>
    ⟨sh_P_eq hi hj (hov i (Nat.le_refl _)) (hov j (by omega)) h, sh_P_eq hi hj (hov i (Nat.le_refl _)) (hov j (by omega)) (fun q hq => (h q hq).symm)⟩
  rcases l with ⟨c, e⟩ | ⟨c, r, hr, e⟩ <;> rcases l' with ⟨c', e'⟩ | ⟨c', r', hr', e'⟩
  · rw [e, e']
  · exact absurd c' c
  · exact absurd c c'
  · rw [e, e', sh_F_uniq iff hr hr']
theorem sh_uniq {T' : Nat → Nat × Bool × Int32} {n : Nat} (hn : n < 2 ^ 31) (hov : ∀ j, j < n → ∀ s, s < 3 → sc_us (K j) s → sc_ov K A B C s j) (hg : ∀ j, j < n → (T j).1 ≤ j) (l : ∀ j, j < n → sh_line K A B C T j (T j)) (l' : ∀ j, j < n → sh_line K A B C T' j (T' j)) : ∀ j, j < n → T j = T' j := by
  intro j
  induction j using Nat.strongRecOn with
  | _ j ih =>
    intro hj
    exact sh_line_uniq (by omega) (fun q hq => hov q (by omega)) (fun q hq => hg q (by omega)) (fun q hq => ih q hq (by omega)) (l j hj) (l' j hj)
/-- stage one keeps what holds -/
theorem sh_1_good {i : Nat} (hi : i < 2 ^ 31) (hov : ∀ s, s < 3 → sc_us (K i) s → sc_ov K A B C s i) (hg : ∀ j, j < i → sh_good T j) :
    ((sh_1 K A B C T i).1 = i ∧ ((sh_1 K A B C T i).2.1 = false → (sh_1 K A B C T i).2.2 = 0)) ∨ ((sh_1 K A B C T i).1 < i ∧ (T (sh_1 K A B C T i).1).1 = (sh_1 K A B C T i).1 ∧ (sh_1 K A B C T i).2 = (T (sh_1 K A B C T i).1).2) := by
  have top : ∀ s, s < 3 → sc_us (K i) s → (T (sh_o A B C s i)).1 < i ∧ (T (T (sh_o A B C s i)).1).1 = (T (sh_o A B C s i)).1 := by
    intro s hs hu
    have o := (sh_ov_lt hi (hov s hs hu)).1
    have g := hg _ o
    exact ⟨by have := g.1; omega, g.2.1⟩
  unfold sh_1
  split
  · exact Or.inl ⟨rfl, fun h => by cases h⟩
  · split
    · rename_i h10
      have t0 := top 0 (by omega) (by unfold sc_us; omega)
      have t1 := top 1 (by omega) (by unfold sc_us; omega)
      have t2 := top 2 (by omega) (by unfold sc_us; omega)
      unfold sh_pick
      split
      · split
        · exact Or.inr ⟨t2.1, t2.2, rfl⟩
        · exact Or.inr ⟨t1.1, t1.2, rfl⟩
      · split
        · exact Or.inr ⟨t1.1, t1.2, rfl⟩
        · exact Or.inl ⟨rfl, fun _ => rfl⟩
    · split
      · rename_i h39
        have t0 := top 0 (by omega) (by unfold sc_us; omega)
        have ty : (if K i = 9 then (T (sh_o A B C 0 i)).1 else (T (sh_o A B C 1 i)).1) < i ∧ (T (if K i = 9 then (T (sh_o A B C 0 i)).1 else (T (sh_o A B C 1 i)).1)).1 = (if K i = 9 then (T (sh_o A B C 0 i)).1 else (T (sh_o A B C 1 i)).1) := by
          split
          · exact t0
          · exact top 1 (by omega) (by unfold sc_us; omega)
        generalize (if K i = 9 then (T (sh_o A B C 0 i)).1 else (T (sh_o A B C 1 i)).1) = y at *
        unfold sh_sum
        split
        · exact Or.inl ⟨rfl, fun h => by cases h⟩
        · split
          · exact Or.inr ⟨ty.1, ty.2, rfl⟩
          · split
            · exact Or.inr ⟨t0.1, t0.2, rfl⟩
            · split
              · exact Or.inl ⟨rfl, fun h => by cases h⟩
              · split
                · exact Or.inl ⟨rfl, fun h => by cases h⟩
                · exact Or.inl ⟨rfl, fun _ => rfl⟩
      · exact Or.inl ⟨rfl, fun _ => rfl⟩
theorem sh_line_good {i : Nat} (hi : i < 2 ^ 31) (hov : ∀ s, s < 3 → sc_us (K i) s → sc_ov K A B C s i) (hg : ∀ j, j < i → sh_good T j) (l : sh_line K A B C T i (T i)) : sh_good T i := by
  have s := sh_1_good hi hov hg
  unfold sh_good
  rcases l with ⟨c, e⟩ | ⟨c, r, hr, e⟩
  · rw [e]
    rcases s with ⟨s1, s2⟩ | ⟨s1, s2, s3⟩
    · refine ⟨by omega, ?_, ?_, s2⟩
      · rw [s1, e, s1]
      · rw [s1, e]
    · refine ⟨by omega, s2, s3.symm, fun h => ?_⟩
      rw [s3] at h ⊢
      exact (hg _ s1).2.2.2 h
  · rw [e]
    have s2 : (sh_1 K A B C T i).2.1 = false → (sh_1 K A B C T i).2.2 = 0 := by
      rcases s with ⟨_, s2⟩ | ⟨s1, _⟩
      · exact s2
      · exact absurd c.1 (by omega)
    show r ≤ i ∧ (T r).1 = r ∧ (T r).2 = (sh_1 K A B C T i).2 ∧ _
    rcases hr with ⟨hr, _⟩ | ⟨hr, ⟨p1, _, p3⟩, _⟩
    · subst hr
      exact ⟨Nat.le_refl _, by rw [e], by rw [e], s2⟩
    · refine ⟨by omega, p1, ?_, s2⟩
      rcases p3 with ⟨f, b, c'⟩ | ⟨f, b, _⟩
      · exact Prod.ext (by rw [b, f]) c'.symm
      · refine Prod.ext (by rw [b, f]) ?_
        rw [s2 f]; exact (hg r hr).2.2.2 b
end
