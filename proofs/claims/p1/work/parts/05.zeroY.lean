/-- Y's look at no lines -/
theorem zr_u1 (k : Nat) (P : Nat → Int32 → (Nat → Int32) → Prop) (N : Nat) (hN : N < 2 ^ 31) (hx : ∀ n, P (n + 1) (nI N) (fun _ => 0)) (hs : ∀ n i, i < N → P n (nI (i + 1)) (fun _ => 0) → P (n + 1) (nI i) (fun _ => 0)) : ∃ n, P n 0 (fun _ => 0) := by
  have key : ∀ d i, i + d = N → P (d + 1) (nI i) (fun _ => 0) := by
    intro d
    induction d with
    | zero => intro i hi; rw [show i = N by omega]; exact hx _
    | succ d ih => intro i hi; exact hs _ i (by omega) (ih (i + 1) (by omega))
  exact ⟨N + 1, key N 0 (by omega)⟩
theorem zr_spread (P : SY → Prop) (p o a : Nat → Int32) (h : P (0, 1, 0, (-1), 1, 0, 0, 0, 0, 0, 0, (fun _ => 0), (fun _ => 0), (fun _ => 0), (fun _ => 0), (fun _ => 0), o, a, (fun _ => 0), (fun _ => 0), (fun _ => 0), (fun _ => 0), (fun _ => 0), (fun _ => 0), (fun _ => 0), (fun _ => 0), (fun _ => 0), (fun _ => 0), (fun _ => 0), (fun _ => 0), (fun _ => 0), (fun _ => 0), (fun _ => 0), (fun _ => 0), (fun _ => 0), (fun _ => 0))) : wpY_spread P (0, 1, 0, (-1), 1, 0, 0, 0, 0, 0, 0, (fun _ => 0), (fun _ => 0), (fun _ => 0), (fun _ => 0), (fun _ => 0), o, a, (fun _ => 0), (fun _ => 0), (fun _ => 0), (fun _ => 0), (fun _ => 0), (fun _ => 0), (fun _ => 0), (fun _ => 0), (fun _ => 0), (fun _ => 0), (fun _ => 0), (fun _ => 0), (fun _ => 0), (fun _ => 0), (fun _ => 0), (fun _ => 0), (fun _ => 0), (fun _ => 0)) := by
  refine zr_u1 0 (fun n i s => wY_spread_2 P 0 1 0 (-1) 1 0 0 0 0 0 0 n i (fun _ => 0) (fun _ => 0) (fun _ => 0) (fun _ => 0) (fun _ => 0) o a (fun _ => 0) (fun _ => 0) (fun _ => 0) s (fun _ => 0) (fun _ => 0) (fun _ => 0) (fun _ => 0) (fun _ => 0) (fun _ => 0) (fun _ => 0) (fun _ => 0) (fun _ => 0) (fun _ => 0) (fun _ => 0) (fun _ => 0) (fun _ => 0) (fun _ => 0)) 48 (by omega) ?_ ?_
  · intro n
    refine br_t (by decide) ?_
    refine zr_u1 0 (fun n i s => wY_spread_23 P 0 1 0 (-1) 1 0 0 0 0 0 0 n i (fun _ => 0) (fun _ => 0) (fun _ => 0) (fun _ => 0) (fun _ => 0) o a (fun _ => 0) (fun _ => 0) (fun _ => 0) (fun _ => 0) s (fun _ => 0) (fun _ => 0) (fun _ => 0) (fun _ => 0) (fun _ => 0) (fun _ => 0) (fun _ => 0) (fun _ => 0) (fun _ => 0) (fun _ => 0) (fun _ => 0) (fun _ => 0) (fun _ => 0)) 97 (by omega) ?_ ?_
    · intro n
      refine br_t (by decide) ?_
      refine zr_u1 0 (fun n i s => wY_spread_44 P 0 1 0 (-1) 1 0 0 0 0 0 0 n i (fun _ => 0) (fun _ => 0) (fun _ => 0) (fun _ => 0) (fun _ => 0) o a (fun _ => 0) (fun _ => 0) (fun _ => 0) (fun _ => 0) (fun _ => 0) s (fun _ => 0) (fun _ => 0) (fun _ => 0) (fun _ => 0) (fun _ => 0) (fun _ => 0) (fun _ => 0) (fun _ => 0) (fun _ => 0) (fun _ => 0) (fun _ => 0) (fun _ => 0)) 4 (by omega) ?_ ?_
      · intro n
        refine br_t (by decide) ?_
        exact ⟨2, br_f (by decide) ⟨1, br_t (by decide) ⟨1, br_t (by decide) (br_t rfl h)⟩⟩⟩
      · intro n i hi H
        exact br_f (nI_ge (b := 4) hi (by decide)) ⟨vp_in_nI hi (by omega), nm_r (by rw [zr_b]; exact zr_u _) (nm_r (nI_1 i) H)⟩
    · intro n i hi H
      exact br_f (nI_ge (b := 97) hi (by decide)) ⟨vp_in_nI hi (by omega), nm_r (by rw [zr_b]; exact zr_u _) (nm_r (nI_1 i) H)⟩
  · intro n i hi H
    exact br_f (nI_ge (b := 48) hi (by decide)) ⟨vp_in_nI hi (by omega), nm_r (by rw [zr_b]; exact zr_u _) (nm_r (nI_1 i) H)⟩
theorem zr_shorten (P : SY → Prop) (o a : Nat → Int32) (h : P (0, 1, 0, (-1), 1, 0, 0, 0, 0, 0, 0, (fun _ => 0), (fun _ => 0), (fun _ => 0), (fun _ => 0), (fun _ => 0), o, a, (fun _ => 0), (fun _ => 0), (fun _ => 0), (fun _ => 0), (fun _ => 0), (fun _ => 0), (fun _ => 0), (fun _ => 0), (fun _ => 0), (fun _ => 0), (fun _ => 0), (fun _ => 0), (fun _ => 0), (fun _ => 0), (fun _ => 0), (fun _ => 0), (fun _ => 0), (fun _ => 0))) : wpY_shorten P (0, 1, 0, (-1), 1, 0, 0, 0, 0, 0, 0, (fun _ => 0), (fun _ => 0), (fun _ => 0), (fun _ => 0), (fun _ => 0), o, a, (fun _ => 0), (fun _ => 0), (fun _ => 0), (fun _ => 0), (fun _ => 0), (fun _ => 0), (fun _ => 0), (fun _ => 0), (fun _ => 0), (fun _ => 0), (fun _ => 0), (fun _ => 0), (fun _ => 0), (fun _ => 0), (fun _ => 0), (fun _ => 0), (fun _ => 0), (fun _ => 0)) :=
  ⟨1, br_t (by decide) ⟨2, br_f (by decide) ⟨1, br_t (by decide) (br_t rfl h)⟩⟩⟩
theorem zr_look (P : SY → Prop) (h : P (0, 1, 0, (-1), 1, 0, 0, 0, 0, 0, 0, (fun _ => 0), (fun _ => 0), (fun _ => 0), (fun _ => 0), (fun _ => 0), upd (fun _ => 0) 0 (-1), upd (fun _ => 0) 0 (-1), (fun _ => 0), (fun _ => 0), (fun _ => 0), (fun _ => 0), (fun _ => 0), (fun _ => 0), (fun _ => 0), (fun _ => 0), (fun _ => 0), (fun _ => 0), (fun _ => 0), (fun _ => 0), (fun _ => 0), (fun _ => 0), (fun _ => 0), (fun _ => 0), (fun _ => 0), (fun _ => 0))) : wpY_look P (0, 0, 0, 0, 0, 0, 0, 0, 0, 0, 0, (fun _ => 0), (fun _ => 0), (fun _ => 0), (fun _ => 0), (fun _ => 0), (fun _ => 0), (fun _ => 0), (fun _ => 0), (fun _ => 0), (fun _ => 0), (fun _ => 0), (fun _ => 0), (fun _ => 0), (fun _ => 0), (fun _ => 0), (fun _ => 0), (fun _ => 0), (fun _ => 0), (fun _ => 0), (fun _ => 0), (fun _ => 0), (fun _ => 0), (fun _ => 0), (fun _ => 0), (fun _ => 0)) :=
  br_t rfl (nm_e (nm_e ⟨1, br_t (by decide) (br_t rfl (br_t (by decide) (br_t (by decide) (zr_spread _ (fun _ => 0) _ _ ⟨1, br_t (by decide) (zr_shorten _ _ _ h)⟩))))⟩))
