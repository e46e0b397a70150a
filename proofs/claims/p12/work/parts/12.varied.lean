section
variable (K : Nat → Nat) (A B C : Nat → Int32) (n : Nat)
/-- from a row of frames outwards: the innermost LOOP's block b, with an IF in between that is split -/
def vr_brk (V : Nat → Prop) : Prop → List (Nat × Nat) → Nat → Prop
  | _, [], _ => False
  | p, f :: r, b => (K f.2 = 22 ∧ p ∧ b = f.1) ∨ (K f.2 ≠ 22 ∧ vr_brk V (p ∨ V (A f.2).toNatClampNeg) r b)
def vr_need (V W : Nat → Prop) (i : Nat) : Prop :=
  (K i = 1 ∧ 1 < A i) ∨ K i = 2 ∨ K i = 16 ∨ (K i = 11 ∧ W (A i).toNatClampNeg) ∨ ((3 ≤ K i ∧ K i ≤ 10 ∨ K i = 12 ∨ K i = 13) ∧ ∃ s, s < 3 ∧ sc_us (K i) s ∧ V (sc_o3 A B C s i).toNatClampNeg)
def vr_s1 (V L W : Nat → Prop) (i : Nat) : Prop :=
  (K i ≤ 16 → vr_need K A B C V W i → V i) ∧ (K i = 17 → (V (B i).toNatClampNeg ∨ L (sc_hd (sc_lf K i))) → W (A i).toNatClampNeg)
def vr_s2 (V L : Nat → Prop) (i : Nat) : Prop :=
  (K i = 19 ∨ K i = 20 ∨ K i = 22) → (L (sc_hd (sc_lf K i)) ∨ (K i ≠ 22 ∧ V (A (sc_mt K i)).toNatClampNeg)) → L (i + 1)
def vr_s3 (V L : Nat → Prop) (i : Nat) : Prop := K i = 24 → ∀ b, vr_brk K A V False (sc_lf K i) b → L b
def vr_C (V L W : Nat → Prop) : Prop := ∀ i, i < n → vr_s1 K A B C V L W i ∧ vr_s2 K A V L i ∧ vr_s3 K A V L i
def vr_sub (V L W V' L' W' : Nat → Prop) : Prop := (∀ i, i < n → V i → V' i) ∧ (∀ b, b ≤ n → (b = 0 ∨ sc_op (K (b - 1))) → L b → L' b) ∧ (∀ v, v < 4 → W v → W' v)
def vr_snd (V L W : Nat → Prop) : Prop := ∀ V' L' W', vr_C K A B C n V' L' W' → vr_sub K n V L W V' L' W'
def vr_least (V L W : Nat → Prop) : Prop := vr_C K A B C n V L W ∧ vr_snd K A B C n V L W
variable {K A B C n}
theorem vr_uniq {V L W V' L' W' : Nat → Prop} (h : vr_least K A B C n V L W) (h' : vr_least K A B C n V' L' W') : (∀ i, i < n → (V i ↔ V' i)) ∧ (∀ b, b ≤ n → (b = 0 ∨ sc_op (K (b - 1))) → (L b ↔ L' b)) ∧ (∀ v, v < 4 → (W v ↔ W' v)) := by
  have a := h.2 _ _ _ h'.1
  have b := h'.2 _ _ _ h.1
  exact ⟨fun i hi => ⟨a.1 i hi, b.1 i hi⟩, fun i hi ho => ⟨a.2.1 i hi ho, b.2.1 i hi ho⟩, fun i hi => ⟨a.2.2 i hi, b.2.2 i hi⟩⟩
theorem vr_brk_mono {V V' : Nat → Prop} : ∀ (l : List (Nat × Nat)) (p p' : Prop) (b : Nat), (p → p') → (∀ f, f ∈ l → V (A f.2).toNatClampNeg → K f.2 ≠ 22 → V' (A f.2).toNatClampNeg) → vr_brk K A V p l b → vr_brk K A V' p' l b := by
  intro l
  induction l with
  | nil => intro p p' b _ _ h; exact h
  | cons f r ih =>
    intro p p' b hp hV h
    rcases h with ⟨h1, h2, h3⟩ | ⟨h1, h2⟩
    · exact Or.inl ⟨h1, hp h2, h3⟩
    · exact Or.inr ⟨h1, ih _ _ b (fun h => h.elim (fun h => Or.inl (hp h)) (fun h => Or.inr (hV f (List.mem_cons_self ..) h h1))) (fun g hg => hV g (List.mem_cons_of_mem _ hg)) h2⟩
theorem vr_brk_mem {V : Nat → Prop} : ∀ (l : List (Nat × Nat)) (p : Prop) (b : Nat), vr_brk K A V p l b → ∃ m, (b, m) ∈ l ∧ K m = 22 := by
  intro l
  induction l with
  | nil => intro p b h; exact h.elim
  | cons f r ih =>
    intro p b h
    rcases h with ⟨h1, h2, h3⟩ | ⟨h1, h2⟩
    · exact ⟨f.2, by rw [h3]; exact List.mem_cons_self .., h1⟩
    · obtain ⟨m, hm, k⟩ := ih _ b h2
      exact ⟨m, List.mem_cons_of_mem _ hm, k⟩
/-- how many cells below N hold 0 -/
def cz (a : Nat → Int32) : Nat → Nat
  | 0 => 0
  | N + 1 => cz a N + (if a N = 0 then 1 else 0)
theorem cz_le (a : Nat → Int32) (N : Nat) : cz a N ≤ N := by
  induction N with
  | zero => exact Nat.le_refl _
  | succ N ih => simp only [cz]; split <;> omega
theorem cz_ge {a : Nat → Int32} {j : Nat} {x : Int32} (h0 : a j = 0) : ∀ N, N ≤ j → cz (upd a j x) N = cz a N := by
  intro N
  induction N with
  | zero => intro _; rfl
  | succ N ih => intro h; simp only [cz]; rw [ih (by omega), pk_un (by omega)]
theorem cz_lt {a : Nat → Int32} {j : Nat} {x : Int32} (h0 : a j = 0) (hx : x ≠ 0) : ∀ N, j < N → cz (upd a j x) N < cz a N := by
  intro N
  induction N with
  | zero => intro h; omega
  | succ N ih =>
    intro h
    simp only [cz]
    by_cases e : j = N
    · rw [cz_ge h0 N (by omega), e, pk_us, if_neg hx, ← e, if_pos h0]; omega
    · rw [pk_un (by omega)]; have := ih (by omega); omega
end
