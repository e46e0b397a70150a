section
theorem pk_us {f : Nat → Int32} {k : Nat} {x : Int32} : upd f k x k = x := if_pos rfl
theorem pk_un {f : Nat → Int32} {k j : Nat} {x : Int32} (h : j ≠ k) : upd f k x j = f j := if_neg h
theorem pk_sub {a b : Nat} (h : b ≤ a) : nI a - nI b = nI (a - b) := by
  obtain ⟨c, rfl⟩ : ∃ c, a = c + b := ⟨a - b, by omega⟩
  rw [← nI_add, Int32.add_sub_cancel, Nat.add_sub_cancel]
theorem pk_m1 (n : Nat) : nI (n + 1) + (-1) = nI n := by
  rw [← nI_1, Int32.add_assoc, show (1 : Int32) + (-1) = 0 from rfl, Int32.add_zero]
theorem pk_mul (a b : Nat) : nI a * nI b = nI (a * b) := (Int32.ofNat_mul a b).symm
theorem pk_div {a d : Nat} (ha : a < 2 ^ 31) (h0 : 0 < d) (hd : d < 2 ^ 31) : nI a / nI d = nI (a / d) := by
  apply Int32.toInt_inj.mp
  rw [lg_idiv_nonneg (by rw [nI_toInt ha]; omega) (by rw [nI_toInt hd]; omega), nI_toInt ha, nI_toInt hd, nI_toInt (Nat.lt_of_le_of_lt (Nat.div_le_self a d) ha)]
  first | rfl | exact (Int.natCast_ediv _ _).symm
theorem pk_rem {a d : Nat} (ha : a < 2 ^ 31) (h0 : 0 < d) (hd : d < 2 ^ 31) : nI a - nI a / nI d * nI d = nI (a % d) := by
  rw [pk_div ha h0 hd, pk_mul, pk_sub (Nat.div_mul_le_self a d)]
  exact congrArg nI (by have := Nat.div_add_mod' a d; omega)
theorem pk_sub_toInt {a b : Nat} (ha : a < 2 ^ 30) (hb : b < 2 ^ 30) : (nI a - nI b).toInt = (a : Int) - b := by
  rw [Int32.toInt_sub, nI_toInt (by omega), nI_toInt (by omega)]
  exact Int.bmod_eq_of_le (by omega) (by omega)
theorem pk_sneg {a b : Nat} (hb : b < 2 ^ 30) (h : a < b) : nI a - nI b < 0 := by
  rw [Int32.lt_iff_toInt_lt, pk_sub_toInt (by omega) hb, show (0 : Int32).toInt = 0 from by decide]
  omega
theorem pk_ix (x : Int32) {n : Nat} (hn : n < 2 ^ 31) : x < 0 ∨ nI n ≤ x ∨ ∃ j : Nat, j < n ∧ x = nI j := by
  by_cases h : x < 0
  · exact Or.inl h
  · obtain ⟨j, hj, rfl⟩ := nI_of h
    by_cases h2 : j < n
    · exact Or.inr (Or.inr ⟨j, h2, rfl⟩)
    · exact Or.inr (Or.inl (nI_le (by omega) hj))
theorem pk_le {x y : Int32} {A B : Prop} (a b : Nat) (f : a ≤ b → A) (g : b < a → B) (hx : x = nI a := by rfl) (hy : y = nI b := by rfl) (ha : a < 2 ^ 31 := by omega) (hb : b < 2 ^ 31 := by omega) : (x ≤ y → A) ∧ (¬ x ≤ y → B) := by
  subst hx hy
  rw [nI_leI ha hb]
  exact ⟨f, fun z => g (by omega)⟩
theorem pk_lt {x y : Int32} {A B : Prop} (a b : Nat) (f : a < b → A) (g : b ≤ a → B) (hx : x = nI a := by rfl) (hy : y = nI b := by rfl) (ha : a < 2 ^ 31 := by omega) (hb : b < 2 ^ 31 := by omega) : (x < y → A) ∧ (¬ x < y → B) := by
  subst hx hy
  rw [nI_ltI ha hb]
  exact ⟨f, fun z => g (by omega)⟩
theorem pk_eq {x y : Int32} {A B : Prop} (a b : Nat) (f : a = b → A) (g : a ≠ b → B) (hx : x = nI a := by rfl) (hy : y = nI b := by rfl) (ha : a < 2 ^ 31 := by omega) (hb : b < 2 ^ 31 := by omega) : (x = y → A) ∧ (¬ x = y → B) := by
  subst hx hy
  rw [nI_eq ha hb]
  exact ⟨f, g⟩
theorem pk_in {x : Int32} (n N : Nat) (h : n < N) (hx : x = nI n := by rfl) (hN : N < 2 ^ 31 := by omega) : vp_in x N := by
  subst hx
  exact vp_in_nI h hN
theorem pk_cl {x : Int32} (n : Nat) (hx : x = nI n := by rfl) (h : n < 2 ^ 31 := by omega) : x.toNatClampNeg = n := by
  subst hx
  exact nI_clamp h
theorem pk_tn {n : Nat} (h : n < 2 ^ 32) : (nI n).toBitVec.toNat = n := Nat.mod_eq_of_lt h
theorem pk_and (x : Int32) {m : Int32} (k : Nat) (hm : m.toBitVec.toNat = 2 ^ k - 1) : x &&& m = nI (x.toBitVec.toNat % 2 ^ k) := by
  apply Int32.toBitVec_inj.mp
  apply BitVec.eq_of_toNat_eq
  rw [Int32.toBitVec_and, BitVec.toNat_and, hm, Nat.and_two_pow_sub_one_eq_mod]
  show _ = (BitVec.ofNat 32 _).toNat
  rw [BitVec.toNat_ofNat]
  exact (Nat.mod_eq_of_lt (Nat.lt_of_le_of_lt (Nat.mod_le _ _) x.toBitVec.isLt)).symm
theorem pk_andN {n : Nat} (h : n < 2 ^ 32) {m : Int32} (k : Nat) (hm : m.toBitVec.toNat = 2 ^ k - 1) : nI n &&& m = nI (n % 2 ^ k) := by
  rw [pk_and _ k hm, pk_tn h]
theorem pk_andE (x : Int32) {m : Int32} (k : Nat) (hm : m.toBitVec.toNat = 2 ^ k - 1) : ∃ j : Nat, j < 2 ^ k ∧ x &&& m = nI j := ⟨_, Nat.mod_lt _ (Nat.two_pow_pos k), pk_and x k hm⟩
theorem pk_andIn (x : Int32) {m : Int32} (k : Nat) (hm : m.toBitVec.toNat = 2 ^ k - 1) (hk : k ≤ 30) : vp_in (x &&& m) (2 ^ k) := by
  obtain ⟨j, hj, e⟩ := pk_andE x k hm
  rw [e]
  exact vp_in_nI hj (Nat.lt_of_le_of_lt (Nat.pow_le_pow_right (by decide) hk) (by decide))
theorem pk_shl (a s : Int32) (k : Nat) (hs : (s.toBitVec.smod 32).toNat = k) : (a <<< s).toBitVec.toNat = a.toBitVec.toNat * 2 ^ k % 2 ^ 32 := by
  show (a.toBitVec <<< (s.toBitVec.smod 32).toNat).toNat = _
  rw [hs, BitVec.toNat_shiftLeft, Nat.shiftLeft_eq]
theorem pk_shlN {n : Nat} (s : Int32) (k : Nat) (hs : (s.toBitVec.smod 32).toNat = k) (h : n * 2 ^ k < 2 ^ 32) : nI n <<< s = nI (n * 2 ^ k) := by
  apply Int32.toBitVec_inj.mp
  apply BitVec.eq_of_toNat_eq
  have hn : n < 2 ^ 32 := Nat.lt_of_le_of_lt (Nat.le_mul_of_pos_right n (Nat.two_pow_pos k)) h
  rw [pk_shl _ _ k hs, pk_tn hn, pk_tn h, Nat.mod_eq_of_lt h]
theorem pk_shr (a s : Int32) (k : Nat) (hs : (s.toBitVec.smod 32).toNat = k) : (a >>> s).toInt = a.toInt >>> k := by
  show (a.toBitVec.sshiftRight (s.toBitVec.smod 32).toNat).toInt = _
  rw [hs, BitVec.toInt_sshiftRight]
  rfl
theorem pk_shrN {n : Nat} (h : n < 2 ^ 31) (s : Int32) (k : Nat) (hs : (s.toBitVec.smod 32).toNat = k) : nI n >>> s = nI (n / 2 ^ k) := by
  apply Int32.toInt_inj.mp
  have h2 : n / 2 ^ k ≤ n := Nat.div_le_self _ _
  rw [pk_shr _ _ k hs, nI_toInt h, nI_toInt (by omega), Int.shiftRight_eq_div_pow]
  rfl
theorem pk_ushr (x s : Int32) (k : Nat) (hs : ((s.toUInt32 &&& Int32.toUInt32 31).toBitVec % 32).toNat = k) : (x.toUInt32 >>> (s.toUInt32 &&& Int32.toUInt32 31)).toInt32.toBitVec.toNat = x.toBitVec.toNat / 2 ^ k := by
  have e : (x.toUInt32 >>> (s.toUInt32 &&& Int32.toUInt32 31)).toInt32.toBitVec = x.toBitVec >>> k := by
    rw [← hs]
    exact UInt32.toBitVec_shiftRight _ _
  rw [e, BitVec.toNat_ushiftRight, Nat.shiftRight_eq_div_pow]
theorem pk_ushrN {n : Nat} (hn : n < 2 ^ 32) (s : Int32) (k : Nat) (hs : ((s.toUInt32 &&& Int32.toUInt32 31).toBitVec % 32).toNat = k) : ((nI n).toUInt32 >>> (s.toUInt32 &&& Int32.toUInt32 31)).toInt32 = nI (n / 2 ^ k) := by
  apply Int32.toBitVec_inj.mp
  apply BitVec.eq_of_toNat_eq
  rw [pk_ushr _ s k hs, pk_tn hn, pk_tn (Nat.lt_of_le_of_lt (Nat.div_le_self _ _) hn)]
theorem pk_loop {σ : Type} (W : Nat → Nat → σ → Prop) (I : Nat → σ → Prop) (e i0 : Nat) (s : σ) (hi : i0 ≤ e) (h0 : I i0 s) (hx : ∀ n s, I e s → W (n + 1) e s)
    (hs : ∀ n i s, i < e → I i s → (∀ s', I (i + 1) s' → W n (i + 1) s') → W (n + 1) i s) : ∃ n, W n i0 s :=
  ⟨e + 1, loop_i W I e hx hs (e + 1) i0 s hi (by omega) h0⟩
theorem pk_loopD {σ : Type} (W : Nat → Nat → σ → Prop) (I : Nat → σ → Prop) (hx : ∀ n s, I 0 s → W (n + 1) 0 s)
    (hs : ∀ n i s, I (i + 1) s → (∀ s', I i s' → W n i s') → W (n + 1) (i + 1) s) : ∀ (e : Nat) (s : σ), I e s → W (e + 1) e s := by
  intro e
  induction e with
  | zero => exact fun s h => hx 0 s h
  | succ e ih => exact fun s h => hs (e + 1) e s h (fun s' h' => ih s' h')
theorem lp1 {A1 : Type} (W : Nat → A1 → Prop) (I : A1 → Prop) (μ : A1 → Nat) (hs : ∀ (n : Nat) (a1 : A1), I a1 → (∀ (b1 : A1), I b1 → μ b1 < μ a1 → W n b1) → W (n + 1) a1) (a1 : A1) (h : I a1) : ∃ n, W n a1 :=
  loop_m (σ := A1) (fun n s => W n s) (fun s => I s) (fun s => μ s) (fun n s hI hk => hs n s hI (fun b1 h9 hm => hk b1 h9 hm)) a1 h
theorem lp2 {A1 A2 : Type} (W : Nat → A1 → A2 → Prop) (I : A1 → A2 → Prop) (μ : A1 → A2 → Nat) (hs : ∀ (n : Nat) (a1 : A1) (a2 : A2), I a1 a2 → (∀ (b1 : A1) (b2 : A2), I b1 b2 → μ b1 b2 < μ a1 a2 → W n b1 b2) → W (n + 1) a1 a2) (a1 : A1) (a2 : A2) (h : I a1 a2) : ∃ n, W n a1 a2 :=
  loop_m (σ := A1 × A2) (fun n s => W n s.1 s.2) (fun s => I s.1 s.2) (fun s => μ s.1 s.2) (fun n s hI hk => hs n s.1 s.2 hI (fun b1 b2 h9 hm => hk (b1, b2) h9 hm)) (a1, a2) h
theorem lp3 {A1 A2 A3 : Type} (W : Nat → A1 → A2 → A3 → Prop) (I : A1 → A2 → A3 → Prop) (μ : A1 → A2 → A3 → Nat) (hs : ∀ (n : Nat) (a1 : A1) (a2 : A2) (a3 : A3), I a1 a2 a3 → (∀ (b1 : A1) (b2 : A2) (b3 : A3), I b1 b2 b3 → μ b1 b2 b3 < μ a1 a2 a3 → W n b1 b2 b3) → W (n + 1) a1 a2 a3) (a1 : A1) (a2 : A2) (a3 : A3) (h : I a1 a2 a3) : ∃ n, W n a1 a2 a3 :=
  loop_m (σ := A1 × A2 × A3) (fun n s => W n s.1 s.2.1 s.2.2) (fun s => I s.1 s.2.1 s.2.2) (fun s => μ s.1 s.2.1 s.2.2) (fun n s hI hk => hs n s.1 s.2.1 s.2.2 hI (fun b1 b2 b3 h9 hm => hk (b1, b2, b3) h9 hm)) (a1, a2, a3) h
theorem lp4 {A1 A2 A3 A4 : Type} (W : Nat → A1 → A2 → A3 → A4 → Prop) (I : A1 → A2 → A3 → A4 → Prop) (μ : A1 → A2 → A3 → A4 → Nat) (hs : ∀ (n : Nat) (a1 : A1) (a2 : A2) (a3 : A3) (a4 : A4), I a1 a2 a3 a4 → (∀ (b1 : A1) (b2 : A2) (b3 : A3) (b4 : A4), I b1 b2 b3 b4 → μ b1 b2 b3 b4 < μ a1 a2 a3 a4 → W n b1 b2 b3 b4) → W (n + 1) a1 a2 a3 a4) (a1 : A1) (a2 : A2) (a3 : A3) (a4 : A4) (h : I a1 a2 a3 a4) : ∃ n, W n a1 a2 a3 a4 :=
  loop_m (σ := A1 × A2 × A3 × A4) (fun n s => W n s.1 s.2.1 s.2.2.1 s.2.2.2) (fun s => I s.1 s.2.1 s.2.2.1 s.2.2.2) (fun s => μ s.1 s.2.1 s.2.2.1 s.2.2.2) (fun n s hI hk => hs n s.1 s.2.1 s.2.2.1 s.2.2.2 hI (fun b1 b2 b3 b4 h9 hm => hk (b1, b2, b3, b4) h9 hm)) (a1, a2, a3, a4) h
theorem lp5 {A1 A2 A3 A4 A5 : Type} (W : Nat → A1 → A2 → A3 → A4 → A5 → Prop) (I : A1 → A2 → A3 → A4 → A5 → Prop) (μ : A1 → A2 → A3 → A4 → A5 → Nat) (hs : ∀ (n : Nat) (a1 : A1) (a2 : A2) (a3 : A3) (a4 : A4) (a5 : A5), I a1 a2 a3 a4 a5 → (∀ (b1 : A1) (b2 : A2) (b3 : A3) (b4 : A4) (b5 : A5), I b1 b2 b3 b4 b5 → μ b1 b2 b3 b4 b5 < μ a1 a2 a3 a4 a5 → W n b1 b2 b3 b4 b5) → W (n + 1) a1 a2 a3 a4 a5) (a1 : A1) (a2 : A2) (a3 : A3) (a4 : A4) (a5 : A5) (h : I a1 a2 a3 a4 a5) : ∃ n, W n a1 a2 a3 a4 a5 :=
  loop_m (σ := A1 × A2 × A3 × A4 × A5) (fun n s => W n s.1 s.2.1 s.2.2.1 s.2.2.2.1 s.2.2.2.2) (fun s => I s.1 s.2.1 s.2.2.1 s.2.2.2.1 s.2.2.2.2) (fun s => μ s.1 s.2.1 s.2.2.1 s.2.2.2.1 s.2.2.2.2) (fun n s hI hk => hs n s.1 s.2.1 s.2.2.1 s.2.2.2.1 s.2.2.2.2 hI (fun b1 b2 b3 b4 b5 h9 hm => hk (b1, b2, b3, b4, b5) h9 hm)) (a1, a2, a3, a4, a5) h
theorem lp6 {A1 A2 A3 A4 A5 A6 : Type} (W : Nat → A1 → A2 → A3 → A4 → A5 → A6 → Prop) (I : A1 → A2 → A3 → A4 → A5 → A6 → Prop) (μ : A1 → A2 → A3 → A4 → A5 → A6 → Nat) (hs : ∀ (n : Nat) (a1 : A1) (a2 : A2) (a3 : A3) (a4 : A4) (a5 : A5) (a6 : A6), I a1 a2 a3 a4 a5 a6 → (∀ (b1 : A1) (b2 : A2) (b3 : A3) (b4 : A4) (b5 : A5) (b6 : A6), I b1 b2 b3 b4 b5 b6 → μ b1 b2 b3 b4 b5 b6 < μ a1 a2 a3 a4 a5 a6 → W n b1 b2 b3 b4 b5 b6) → W (n + 1) a1 a2 a3 a4 a5 a6) (a1 : A1) (a2 : A2) (a3 : A3) (a4 : A4) (a5 : A5) (a6 : A6) (h : I a1 a2 a3 a4 a5 a6) : ∃ n, W n a1 a2 a3 a4 a5 a6 :=
  loop_m (σ := A1 × A2 × A3 × A4 × A5 × A6) (fun n s => W n s.1 s.2.1 s.2.2.1 s.2.2.2.1 s.2.2.2.2.1 s.2.2.2.2.2) (fun s => I s.1 s.2.1 s.2.2.1 s.2.2.2.1 s.2.2.2.2.1 s.2.2.2.2.2) (fun s => μ s.1 s.2.1 s.2.2.1 s.2.2.2.1 s.2.2.2.2.1 s.2.2.2.2.2) (fun n s hI hk => hs n s.1 s.2.1 s.2.2.1 s.2.2.2.1 s.2.2.2.2.1 s.2.2.2.2.2 hI (fun b1 b2 b3 b4 b5 b6 h9 hm => hk (b1, b2, b3, b4, b5, b6) h9 hm)) (a1, a2, a3, a4, a5, a6) h
theorem lp7 {A1 A2 A3 A4 A5 A6 A7 : Type} (W : Nat → A1 → A2 → A3 → A4 → A5 → A6 → A7 → Prop) (I : A1 → A2 → A3 → A4 → A5 → A6 → A7 → Prop) (μ : A1 → A2 → A3 → A4 → A5 → A6 → A7 → Nat) (hs : ∀ (n : Nat) (a1 : A1) (a2 : A2) (a3 : A3) (a4 : A4) (a5 : A5) (a6 : A6) (a7 : A7), I a1 a2 a3 a4 a5 a6 a7 → (∀ (b1 : A1) (b2 : A2) (b3 : A3) (b4 : A4) (b5 : A5) (b6 : A6) (b7 : A7), I b1 b2 b3 b4 b5 b6 b7 → μ b1 b2 b3 b4 b5 b6 b7 < μ a1 a2 a3 a4 a5 a6 a7 → W n b1 b2 b3 b4 b5 b6 b7) → W (n + 1) a1 a2 a3 a4 a5 a6 a7) (a1 : A1) (a2 : A2) (a3 : A3) (a4 : A4) (a5 : A5) (a6 : A6) (a7 : A7) (h : I a1 a2 a3 a4 a5 a6 a7) : ∃ n, W n a1 a2 a3 a4 a5 a6 a7 :=
  loop_m (σ := A1 × A2 × A3 × A4 × A5 × A6 × A7) (fun n s => W n s.1 s.2.1 s.2.2.1 s.2.2.2.1 s.2.2.2.2.1 s.2.2.2.2.2.1 s.2.2.2.2.2.2) (fun s => I s.1 s.2.1 s.2.2.1 s.2.2.2.1 s.2.2.2.2.1 s.2.2.2.2.2.1 s.2.2.2.2.2.2) (fun s => μ s.1 s.2.1 s.2.2.1 s.2.2.2.1 s.2.2.2.2.1 s.2.2.2.2.2.1 s.2.2.2.2.2.2) (fun n s hI hk => hs n s.1 s.2.1 s.2.2.1 s.2.2.2.1 s.2.2.2.2.1 s.2.2.2.2.2.1 s.2.2.2.2.2.2 hI (fun b1 b2 b3 b4 b5 b6 b7 h9 hm => hk (b1, b2, b3, b4, b5, b6, b7) h9 hm)) (a1, a2, a3, a4, a5, a6, a7) h
theorem lp8 {A1 A2 A3 A4 A5 A6 A7 A8 : Type} (W : Nat → A1 → A2 → A3 → A4 → A5 → A6 → A7 → A8 → Prop) (I : A1 → A2 → A3 → A4 → A5 → A6 → A7 → A8 → Prop) (μ : A1 → A2 → A3 → A4 → A5 → A6 → A7 → A8 → Nat) (hs : ∀ (n : Nat) (a1 : A1) (a2 : A2) (a3 : A3) (a4 : A4) (a5 : A5) (a6 : A6) (a7 : A7) (a8 : A8), I a1 a2 a3 a4 a5 a6 a7 a8 → (∀ (b1 : A1) (b2 : A2) (b3 : A3) (b4 : A4) (b5 : A5) (b6 : A6) (b7 : A7) (b8 : A8), I b1 b2 b3 b4 b5 b6 b7 b8 → μ b1 b2 b3 b4 b5 b6 b7 b8 < μ a1 a2 a3 a4 a5 a6 a7 a8 → W n b1 b2 b3 b4 b5 b6 b7 b8) → W (n + 1) a1 a2 a3 a4 a5 a6 a7 a8) (a1 : A1) (a2 : A2) (a3 : A3) (a4 : A4) (a5 : A5) (a6 : A6) (a7 : A7) (a8 : A8) (h : I a1 a2 a3 a4 a5 a6 a7 a8) : ∃ n, W n a1 a2 a3 a4 a5 a6 a7 a8 :=
  loop_m (σ := A1 × A2 × A3 × A4 × A5 × A6 × A7 × A8) (fun n s => W n s.1 s.2.1 s.2.2.1 s.2.2.2.1 s.2.2.2.2.1 s.2.2.2.2.2.1 s.2.2.2.2.2.2.1 s.2.2.2.2.2.2.2) (fun s => I s.1 s.2.1 s.2.2.1 s.2.2.2.1 s.2.2.2.2.1 s.2.2.2.2.2.1 s.2.2.2.2.2.2.1 s.2.2.2.2.2.2.2) (fun s => μ s.1 s.2.1 s.2.2.1 s.2.2.2.1 s.2.2.2.2.1 s.2.2.2.2.2.1 s.2.2.2.2.2.2.1 s.2.2.2.2.2.2.2) (fun n s hI hk => hs n s.1 s.2.1 s.2.2.1 s.2.2.2.1 s.2.2.2.2.1 s.2.2.2.2.2.1 s.2.2.2.2.2.2.1 s.2.2.2.2.2.2.2 hI (fun b1 b2 b3 b4 b5 b6 b7 b8 h9 hm => hk (b1, b2, b3, b4, b5, b6, b7, b8) h9 hm)) (a1, a2, a3, a4, a5, a6, a7, a8) h
theorem pk_least (P : Nat → Prop) (h : ∃ k, P k) : ∃ k, P k ∧ ∀ j, j < k → ¬ P j := by
  obtain ⟨k, hk⟩ := h
  induction k using Nat.strongRecOn with
  | ind k ih =>
    by_cases e : ∃ j, j < k ∧ P j
    · obtain ⟨j, hj, pj⟩ := e
      exact ih j hj pj
    · exact ⟨k, hk, fun j hj pj => e ⟨j, hj, pj⟩⟩
end
section
section
variable {f_lines f_studied f_wrong f_wrongAt f_brief f_on f_dropped f_steps f_nextLine f_repeats : Int32} {a_kinds a_firsts a_seconds a_thirds a_inputs a_home a_depth a_closer a_mate a_operands a_varies a_parted a_variableVaries a_same a_fixed a_worth a_needed a_variableNeeded a_values a_variables a_outputs a_cells a_whole a_waiting : Nat → Int32}
variable {yf_lines yf_known yf_wrong yf_place yf_blocks yf_steps yf_dropped yf_on yf_next yf_again yf_depth : Int32} {ya_ops ya_as ya_bs ya_cs ya_blockOf ya_opener ya_around ya_other ya_end ya_open ya_varied ya_loose ya_variedVariable ya_stands ya_number ya_isConst ya_needed ya_inputs ya_values ya_variables ya_cells ya_outs ya_was ya_rest ya_line : Nat → Int32}
theorem ez_34 (x : Int32) : 3 < x ↔ 4 ≤ x := by
  rw [Int32.lt_iff_toInt_lt, Int32.le_iff_toInt_le]
  have h3 : (3 : Int32).toInt = 3 := by decide
  have h4 : (4 : Int32).toInt = 4 := by decide
  omega
theorem ez_78 (x : Int32) : 7 < x ↔ 8 ≤ x := by
  rw [Int32.lt_iff_toInt_lt, Int32.le_iff_toInt_le]
  have h3 : (7 : Int32).toInt = 7 := by decide
  have h4 : (8 : Int32).toInt = 8 := by decide
  omega
theorem ez_12 (x : Int32) : 1 < x ↔ 2 ≤ x := by
  rw [Int32.lt_iff_toInt_lt, Int32.le_iff_toInt_le]
  have h3 : (1 : Int32).toInt = 1 := by decide
  have h4 : (2 : Int32).toInt = 2 := by decide
  omega
/-- one of four or not -/
theorem ez_4 (x : Int32) : (x < 0 ∨ 4 ≤ x) ∨ ∃ j : Nat, j < 4 ∧ x = nI j := by
  rcases pk_ix x (n := 4) (by omega) with h | h | h
  · exact Or.inl (Or.inl h)
  · exact Or.inl (Or.inr h)
  · exact Or.inr h
theorem ez_n4 {j : Nat} (hj : j < 4) : ¬ nI j < 0 ∧ ¬ 4 ≤ nI j ∧ ¬ 3 < nI j ∧ nI j ≤ 3 :=
  ⟨nI_pos (by omega), nI_ge (b := 4) hj (by decide), nI_nlt (a := 3) (b := j) (by omega) (by decide), nI_le (b := 3) (by omega) (by decide)⟩
theorem ez_four {post : Int32 → Prop} {x : Int32} (hb : (x < 0 ∨ 4 ≤ x) → post 0) (hg : ∀ j : Nat, j < 4 → x = nI j → post 1) : wpX_isOneOfFour post x := by
  rcases ez_4 x with h | ⟨j, hj, rfl⟩
  · rcases h with h | h
    · exact br_t h (hb (Or.inl h))
    · exact br_c (fun h' => hb (Or.inl h')) (fun _ => br_t h (hb (Or.inr h)))
  · exact br_f (ez_n4 hj).1 (br_f (ez_n4 hj).2.1 (hg j hj rfl))
def ad_Bad (op a : Int32) : Prop := op < 0 ∨ 25 < op ∨ ((op = 1 ∨ op = 11 ∨ op = 16 ∨ op = 17 ∨ op = 18) ∧ (a < 0 ∨ 4 ≤ a))
theorem ad_X62 {post : Int32 → SX → Prop} {n : Nat} (h48 : n ≤ 48) (op a b c : Int32) (hf : n = 48 → post (-2) (nI n, f_studied, f_wrong, f_wrongAt, f_brief, f_on, f_dropped, f_steps, f_nextLine, f_repeats, a_kinds, a_firsts, a_seconds, a_thirds, a_inputs, a_home, a_depth, a_closer, a_mate, a_operands, a_varies, a_parted, a_variableVaries, a_same, a_fixed, a_worth, a_needed, a_variableNeeded, a_values, a_variables, a_outputs, a_cells, a_whole, a_waiting)) (hg : n < 48 → post (nI n) (nI (n+1), 0, f_wrong, f_wrongAt, f_brief, f_on, f_dropped, f_steps, f_nextLine, f_repeats, upd a_kinds n op, upd a_firsts n a, upd a_seconds n b, upd a_thirds n c, a_inputs, a_home, a_depth, a_closer, a_mate, a_operands, a_varies, a_parted, a_variableVaries, a_same, a_fixed, a_worth, a_needed, a_variableNeeded, a_values, a_variables, a_outputs, a_cells, a_whole, a_waiting)) : wX_add_62 post op a b c (nI n) f_studied f_wrong f_wrongAt f_brief f_on f_dropped f_steps f_nextLine f_repeats a_kinds a_firsts a_seconds a_thirds a_inputs a_home a_depth a_closer a_mate a_operands a_varies a_parted a_variableVaries a_same a_fixed a_worth a_needed a_variableNeeded a_values a_variables a_outputs a_cells a_whole a_waiting := by
  have hc : (nI n).toNatClampNeg = n := nI_clamp (by omega)
  refine pk_lt n 48 (fun h => ?_) (fun h => hf (by omega))
  have hi : vp_in (nI n) 48 := vp_in_nI h (by omega)
  refine ⟨hi, nm_r (by rw [hc]) ⟨hi, nm_r (by rw [hc]) ⟨hi, nm_r (by rw [hc]) ⟨hi, nm_r (by rw [hc]) (nm_r (nI_1 n) ?_)⟩⟩⟩⟩
  rw [nI_pred]
  exact hg h
theorem ad_X {post : Int32 → SX → Prop} {n : Nat} (h48 : n ≤ 48) (op a b c : Int32) (hb : ad_Bad op a → post (-1) (nI n, f_studied, f_wrong, f_wrongAt, f_brief, f_on, f_dropped, f_steps, f_nextLine, f_repeats, a_kinds, a_firsts, a_seconds, a_thirds, a_inputs, a_home, a_depth, a_closer, a_mate, a_operands, a_varies, a_parted, a_variableVaries, a_same, a_fixed, a_worth, a_needed, a_variableNeeded, a_values, a_variables, a_outputs, a_cells, a_whole, a_waiting)) (hf : ¬ ad_Bad op a → n = 48 → post (-2) (nI n, f_studied, f_wrong, f_wrongAt, f_brief, f_on, f_dropped, f_steps, f_nextLine, f_repeats, a_kinds, a_firsts, a_seconds, a_thirds, a_inputs, a_home, a_depth, a_closer, a_mate, a_operands, a_varies, a_parted, a_variableVaries, a_same, a_fixed, a_worth, a_needed, a_variableNeeded, a_values, a_variables, a_outputs, a_cells, a_whole, a_waiting)) (hg : ¬ ad_Bad op a → n < 48 → post (nI n) (nI (n+1), 0, f_wrong, f_wrongAt, f_brief, f_on, f_dropped, f_steps, f_nextLine, f_repeats, upd a_kinds n op, upd a_firsts n a, upd a_seconds n b, upd a_thirds n c, a_inputs, a_home, a_depth, a_closer, a_mate, a_operands, a_varies, a_parted, a_variableVaries, a_same, a_fixed, a_worth, a_needed, a_variableNeeded, a_values, a_variables, a_outputs, a_cells, a_whole, a_waiting)) : wpX_add post (nI n, f_studied, f_wrong, f_wrongAt, f_brief, f_on, f_dropped, f_steps, f_nextLine, f_repeats, a_kinds, a_firsts, a_seconds, a_thirds, a_inputs, a_home, a_depth, a_closer, a_mate, a_operands, a_varies, a_parted, a_variableVaries, a_same, a_fixed, a_worth, a_needed, a_variableNeeded, a_values, a_variables, a_outputs, a_cells, a_whole, a_waiting) op a b c := by
  have few : 0 ≤ op → op ≤ 25 → (op = 1 ∨ op = 11 ∨ op = 16 ∨ op = 17 ∨ op = 18) → wX_add_41 post op a b c (nI n) f_studied f_wrong f_wrongAt f_brief f_on f_dropped f_steps f_nextLine f_repeats a_kinds a_firsts a_seconds a_thirds a_inputs a_home a_depth a_closer a_mate a_operands a_varies a_parted a_variableVaries a_same a_fixed a_worth a_needed a_variableNeeded a_values a_variables a_outputs a_cells a_whole a_waiting := by
    intro h0 h25 hop
    refine br_f (by decide) ?_
    refine ez_four (fun h => br_t rfl (hb (Or.inr (Or.inr ⟨hop, h⟩)))) (fun j hj e => br_f (by decide) ?_)
    have nb : ¬ ad_Bad op a := by
      rintro (h | h | ⟨_, h | h⟩)
      · exact absurd h (Int32.not_lt.mpr h0)
      · exact absurd h (Int32.not_lt.mpr h25)
      · exact (ez_n4 hj).1 (e ▸ h)
      · exact (ez_n4 hj).2.1 (e ▸ h)
    exact ad_X62 h48 op a b c (hf nb) (hg nb)
  refine br_c (fun h => hb (Or.inl h)) (fun h0 => br_c (fun h25 => ?_) (fun h => hb (Or.inr (Or.inl (Int32.not_le.mp h)))))
  have h0' := Int32.not_lt.mp h0
  refine br_c (fun h => few h0' h25 (Or.inl h)) (fun h1 => br_c (fun h => few h0' h25 (Or.inr (Or.inl h))) (fun h11 => br_c (fun h => few h0' h25 (Or.inr (Or.inr (Or.inl h)))) (fun h16 => br_c (fun h => few h0' h25 (Or.inr (Or.inr (Or.inr (Or.inl h))))) (fun h17 => br_c (fun h => few h0' h25 (Or.inr (Or.inr (Or.inr (Or.inr h))))) (fun h18 => ?_)))))
  have nb : ¬ ad_Bad op a := by
    rintro (h | h | ⟨h | h | h | h | h, _⟩)
    · exact h0 h
    · exact absurd h (Int32.not_lt.mpr h25)
    · exact h1 h
    · exact h11 h
    · exact h16 h
    · exact h17 h
    · exact h18 h
  exact br_t rfl (ad_X62 h48 op a b c (hf nb) (hg nb))
theorem ad_Y62 {post : Int32 → SY → Prop} {n : Nat} (h48 : n ≤ 48) (op a b c : Int32) (hf : n = 48 → post (-2) (nI n, yf_known, yf_wrong, yf_place, yf_blocks, yf_steps, yf_dropped, yf_on, yf_next, yf_again, yf_depth, ya_ops, ya_as, ya_bs, ya_cs, ya_blockOf, ya_opener, ya_around, ya_other, ya_end, ya_open, ya_varied, ya_loose, ya_variedVariable, ya_stands, ya_number, ya_isConst, ya_needed, ya_inputs, ya_values, ya_variables, ya_cells, ya_outs, ya_was, ya_rest, ya_line)) (hg : n < 48 → post (nI n) (nI (n+1), 0, yf_wrong, yf_place, yf_blocks, yf_steps, yf_dropped, yf_on, yf_next, yf_again, yf_depth, upd ya_ops n op, upd ya_as n a, upd ya_bs n b, upd ya_cs n c, ya_blockOf, ya_opener, ya_around, ya_other, ya_end, ya_open, ya_varied, ya_loose, ya_variedVariable, ya_stands, ya_number, ya_isConst, ya_needed, ya_inputs, ya_values, ya_variables, ya_cells, ya_outs, ya_was, ya_rest, ya_line)) : wY_add_62 post op a b c (nI n) yf_known yf_wrong yf_place yf_blocks yf_steps yf_dropped yf_on yf_next yf_again yf_depth ya_ops ya_as ya_bs ya_cs ya_blockOf ya_opener ya_around ya_other ya_end ya_open ya_varied ya_loose ya_variedVariable ya_stands ya_number ya_isConst ya_needed ya_inputs ya_values ya_variables ya_cells ya_outs ya_was ya_rest ya_line := by
  have hc : (nI n).toNatClampNeg = n := nI_clamp (by omega)
  refine pk_eq n 48 (fun h => hf (by omega)) (fun h => ?_)
  have hi : vp_in (nI n) 48 := vp_in_nI (by omega) (by omega)
  exact ⟨hi, nm_r (by rw [hc]) ⟨hi, nm_r (by rw [hc]) ⟨hi, nm_r (by rw [hc]) ⟨hi, nm_r (by rw [hc]) (nm_r (nI_1 n) (hg (by omega)))⟩⟩⟩⟩
theorem ad_Y {post : Int32 → SY → Prop} {n : Nat} (h48 : n ≤ 48) (op a b c : Int32) (hb : ad_Bad op a → post (-1) (nI n, yf_known, yf_wrong, yf_place, yf_blocks, yf_steps, yf_dropped, yf_on, yf_next, yf_again, yf_depth, ya_ops, ya_as, ya_bs, ya_cs, ya_blockOf, ya_opener, ya_around, ya_other, ya_end, ya_open, ya_varied, ya_loose, ya_variedVariable, ya_stands, ya_number, ya_isConst, ya_needed, ya_inputs, ya_values, ya_variables, ya_cells, ya_outs, ya_was, ya_rest, ya_line)) (hf : ¬ ad_Bad op a → n = 48 → post (-2) (nI n, yf_known, yf_wrong, yf_place, yf_blocks, yf_steps, yf_dropped, yf_on, yf_next, yf_again, yf_depth, ya_ops, ya_as, ya_bs, ya_cs, ya_blockOf, ya_opener, ya_around, ya_other, ya_end, ya_open, ya_varied, ya_loose, ya_variedVariable, ya_stands, ya_number, ya_isConst, ya_needed, ya_inputs, ya_values, ya_variables, ya_cells, ya_outs, ya_was, ya_rest, ya_line)) (hg : ¬ ad_Bad op a → n < 48 → post (nI n) (nI (n+1), 0, yf_wrong, yf_place, yf_blocks, yf_steps, yf_dropped, yf_on, yf_next, yf_again, yf_depth, upd ya_ops n op, upd ya_as n a, upd ya_bs n b, upd ya_cs n c, ya_blockOf, ya_opener, ya_around, ya_other, ya_end, ya_open, ya_varied, ya_loose, ya_variedVariable, ya_stands, ya_number, ya_isConst, ya_needed, ya_inputs, ya_values, ya_variables, ya_cells, ya_outs, ya_was, ya_rest, ya_line)) : wpY_add post (nI n, yf_known, yf_wrong, yf_place, yf_blocks, yf_steps, yf_dropped, yf_on, yf_next, yf_again, yf_depth, ya_ops, ya_as, ya_bs, ya_cs, ya_blockOf, ya_opener, ya_around, ya_other, ya_end, ya_open, ya_varied, ya_loose, ya_variedVariable, ya_stands, ya_number, ya_isConst, ya_needed, ya_inputs, ya_values, ya_variables, ya_cells, ya_outs, ya_was, ya_rest, ya_line) op a b c := by
  have few : (op = 1 ∨ op = 11 ∨ op = 16 ∨ op = 17 ∨ op = 18) → wY_add_29 post op a b c (nI n) yf_known yf_wrong yf_place yf_blocks yf_steps yf_dropped yf_on yf_next yf_again yf_depth ya_ops ya_as ya_bs ya_cs ya_blockOf ya_opener ya_around ya_other ya_end ya_open ya_varied ya_loose ya_variedVariable ya_stands ya_number ya_isConst ya_needed ya_inputs ya_values ya_variables ya_cells ya_outs ya_was ya_rest ya_line := by
    intro hop
    refine br_c (fun h => hb (Or.inl h)) (fun h0 => br_c (fun h => hb (Or.inr (Or.inl h))) (fun h25 => br_f (by decide) (br_c (fun h => hb (Or.inr (Or.inr ⟨hop, Or.inl h⟩))) (fun ha0 => br_c (fun h3 => ?_) (fun h3 => hb (Or.inr (Or.inr ⟨hop, Or.inr ((ez_34 a).mp (Int32.not_le.mp h3))⟩)))))))
    have nb : ¬ ad_Bad op a := by
      rintro (h | h | ⟨_, h | h⟩)
      · exact h0 h
      · exact h25 h
      · exact ha0 h
      · exact absurd ((ez_34 a).mpr h) (Int32.not_lt.mpr h3)
    exact ad_Y62 h48 op a b c (hf nb) (hg nb)
  refine br_c (fun h => few (Or.inl h)) (fun h1 => br_c (fun h => few (Or.inr (Or.inl h))) (fun h11 => br_c (fun h => few (Or.inr (Or.inr (Or.inl h)))) (fun h16 => br_c (fun h => few (Or.inr (Or.inr (Or.inr (Or.inl h))))) (fun h17 => br_c (fun h => few (Or.inr (Or.inr (Or.inr (Or.inr h))))) (fun h18 => ?_)))))
  refine br_c (fun h => hb (Or.inl h)) (fun h0 => br_c (fun h => hb (Or.inr (Or.inl h))) (fun h25 => br_t rfl ?_))
  have nb : ¬ ad_Bad op a := by
    rintro (h | h | ⟨h | h | h | h | h, _⟩)
    · exact h0 h
    · exact h25 h
    · exact h1 h
    · exact h11 h
    · exact h16 h
    · exact h17 h
    · exact h18 h
  exact ad_Y62 h48 op a b c (hf nb) (hg nb)
/-- input -/
def in_val (a : Nat → Int32) (l k : Nat) (v : Int32) : Nat → Nat → Int32
  | 0 => a
  | i + 1 => if k < 2 ∨ i = l then upd (in_val a l k v i) (i * 4 + k) v else in_val a l k v i
theorem in_X19 {post : Int32 → SX → Prop} {l k : Nat} (hl : l < 4) (hk : k < 4) (v : Int32) (h : post 1 (f_lines, f_studied, f_wrong, f_wrongAt, f_brief, f_on, f_dropped, f_steps, f_nextLine, f_repeats, a_kinds, a_firsts, a_seconds, a_thirds, in_val a_inputs l k v 4, a_home, a_depth, a_closer, a_mate, a_operands, a_varies, a_parted, a_variableVaries, a_same, a_fixed, a_worth, a_needed, a_variableNeeded, a_values, a_variables, a_outputs, a_cells, a_whole, a_waiting)) : ∀ d i : Nat, i + d = 4 → wX_input_19 post (nI l) (nI k) v f_lines f_studied f_wrong f_wrongAt f_brief f_on f_dropped f_steps f_nextLine f_repeats (d + 1) (nI i) a_kinds a_firsts a_seconds a_thirds (in_val a_inputs l k v i) a_home a_depth a_closer a_mate a_operands a_varies a_parted a_variableVaries a_same a_fixed a_worth a_needed a_variableNeeded a_values a_variables a_outputs a_cells a_whole a_waiting := by
  intro d
  induction d with
  | zero => intro i hi; cases (show i = 4 by omega); exact br_t (by decide) h
  | succ d ih =>
    intro i hi
    have e4 : nI i * 4 + nI k = nI (i * 4 + k) := by
      rw [show (4 : Int32) = nI 4 from rfl, pk_mul, nI_add]
    have put : (k < 2 ∨ i = l) → wX_input_36 post (wX_input_19 post (nI l) (nI k) v f_lines f_studied f_wrong f_wrongAt f_brief f_on f_dropped f_steps f_nextLine f_repeats (d + 1)) (nI l) (nI k) v (nI i) f_lines f_studied f_wrong f_wrongAt f_brief f_on f_dropped f_steps f_nextLine f_repeats a_kinds a_firsts a_seconds a_thirds (in_val a_inputs l k v i) a_home a_depth a_closer a_mate a_operands a_varies a_parted a_variableVaries a_same a_fixed a_worth a_needed a_variableNeeded a_values a_variables a_outputs a_cells a_whole a_waiting := by
      intro hp
      have e : upd (in_val a_inputs l k v i) (nI i * 4 + nI k).toNatClampNeg v = in_val a_inputs l k v (i + 1) := by
        rw [e4, nI_clamp (by omega)]; exact (if_pos hp).symm
      exact ⟨by rw [e4]; exact vp_in_nI (by omega) (by omega), nm_r e (nm_r (nI_1 i) (ih (i + 1) (by omega)))⟩
    refine br_f (nI_ge (b := 4) (by omega) (by decide)) (pk_lt k 2 (fun h2 => put (Or.inl h2)) (fun h2 => pk_eq i l (fun h2 => put (Or.inr h2)) (fun h3 => ?_)))
    have e : in_val a_inputs l k v i = in_val a_inputs l k v (i + 1) := (if_neg (by omega)).symm
    rw [e]
    exact nm_r (nI_1 i) (ih (i + 1) (by omega))
theorem in_X {post : Int32 → SX → Prop} (p q v : Int32) (hb : ((p < 0 ∨ 4 ≤ p) ∨ (q < 0 ∨ 4 ≤ q)) → post 0 (f_lines, f_studied, f_wrong, f_wrongAt, f_brief, f_on, f_dropped, f_steps, f_nextLine, f_repeats, a_kinds, a_firsts, a_seconds, a_thirds, a_inputs, a_home, a_depth, a_closer, a_mate, a_operands, a_varies, a_parted, a_variableVaries, a_same, a_fixed, a_worth, a_needed, a_variableNeeded, a_values, a_variables, a_outputs, a_cells, a_whole, a_waiting)) (hg : ∀ l k : Nat, l < 4 → k < 4 → p = nI l → q = nI k → post 1 (f_lines, f_studied, f_wrong, f_wrongAt, f_brief, f_on, f_dropped, f_steps, f_nextLine, f_repeats, a_kinds, a_firsts, a_seconds, a_thirds, in_val a_inputs l k v 4, a_home, a_depth, a_closer, a_mate, a_operands, a_varies, a_parted, a_variableVaries, a_same, a_fixed, a_worth, a_needed, a_variableNeeded, a_values, a_variables, a_outputs, a_cells, a_whole, a_waiting)) : wpX_input post (f_lines, f_studied, f_wrong, f_wrongAt, f_brief, f_on, f_dropped, f_steps, f_nextLine, f_repeats, a_kinds, a_firsts, a_seconds, a_thirds, a_inputs, a_home, a_depth, a_closer, a_mate, a_operands, a_varies, a_parted, a_variableVaries, a_same, a_fixed, a_worth, a_needed, a_variableNeeded, a_values, a_variables, a_outputs, a_cells, a_whole, a_waiting) p q v := by
  unfold wpX_input
  refine ez_four (fun h => br_t rfl (hb (Or.inl h))) (fun l hl el => br_f (by decide) ?_)
  refine ez_four (fun h => br_t rfl (hb (Or.inr h))) (fun k hk ek => br_f (by decide) ?_)
  subst el ek
  exact ⟨5, in_X19 hl hk v (hg l k hl hk rfl rfl) 4 0 rfl⟩
theorem in_Y23 {post : Int32 → SY → Prop} {l k : Nat} (hl : l < 4) (hk : k < 4) (v : Int32) (h : post 1 (yf_lines, yf_known, yf_wrong, yf_place, yf_blocks, yf_steps, yf_dropped, yf_on, yf_next, yf_again, yf_depth, ya_ops, ya_as, ya_bs, ya_cs, ya_blockOf, ya_opener, ya_around, ya_other, ya_end, ya_open, ya_varied, ya_loose, ya_variedVariable, ya_stands, ya_number, ya_isConst, ya_needed, in_val ya_inputs l k v 4, ya_values, ya_variables, ya_cells, ya_outs, ya_was, ya_rest, ya_line)) : ∀ d i : Nat, i + d = 4 → wY_input_23 post (nI l) (nI k) v yf_lines yf_known yf_wrong yf_place yf_blocks yf_steps yf_dropped yf_on yf_next yf_again yf_depth (d + 1) (nI i) ya_ops ya_as ya_bs ya_cs ya_blockOf ya_opener ya_around ya_other ya_end ya_open ya_varied ya_loose ya_variedVariable ya_stands ya_number ya_isConst ya_needed (in_val ya_inputs l k v i) ya_values ya_variables ya_cells ya_outs ya_was ya_rest ya_line := by
  intro d
  induction d with
  | zero => intro i hi; cases (show i = 4 by omega); exact br_t (by decide) h
  | succ d ih =>
    intro i hi
    have e4 : 4 * nI i + nI k = nI (i * 4 + k) := by
      rw [show (4 : Int32) = nI 4 from rfl, pk_mul, nI_add, Nat.mul_comm]
    have put : (k < 2 ∨ i = l) → wY_input_40 post (wY_input_23 post (nI l) (nI k) v yf_lines yf_known yf_wrong yf_place yf_blocks yf_steps yf_dropped yf_on yf_next yf_again yf_depth (d + 1)) (nI l) (nI k) v (nI i) yf_lines yf_known yf_wrong yf_place yf_blocks yf_steps yf_dropped yf_on yf_next yf_again yf_depth ya_ops ya_as ya_bs ya_cs ya_blockOf ya_opener ya_around ya_other ya_end ya_open ya_varied ya_loose ya_variedVariable ya_stands ya_number ya_isConst ya_needed (in_val ya_inputs l k v i) ya_values ya_variables ya_cells ya_outs ya_was ya_rest ya_line := by
      intro hp
      have e : upd (in_val ya_inputs l k v i) (4 * nI i + nI k).toNatClampNeg v = in_val ya_inputs l k v (i + 1) := by
        rw [e4, nI_clamp (by omega)]; exact (if_pos hp).symm
      exact ⟨by rw [e4]; exact vp_in_nI (by omega) (by omega), nm_r e (nm_r (nI_1 i) (ih (i + 1) (by omega)))⟩
    refine br_f (nI_ge (b := 4) (by omega) (by decide)) (pk_eq i l (fun h2 => put (Or.inr h2)) (fun h3 => pk_le 2 k (fun h2 => ?_) (fun h2 => put (Or.inl h2))))
    have e : in_val ya_inputs l k v i = in_val ya_inputs l k v (i + 1) := (if_neg (by omega)).symm
    rw [e]
    exact nm_r (nI_1 i) (ih (i + 1) (by omega))
theorem in_Y {post : Int32 → SY → Prop} (p q v : Int32) (hb : ((p < 0 ∨ 4 ≤ p) ∨ (q < 0 ∨ 4 ≤ q)) → post 0 (yf_lines, yf_known, yf_wrong, yf_place, yf_blocks, yf_steps, yf_dropped, yf_on, yf_next, yf_again, yf_depth, ya_ops, ya_as, ya_bs, ya_cs, ya_blockOf, ya_opener, ya_around, ya_other, ya_end, ya_open, ya_varied, ya_loose, ya_variedVariable, ya_stands, ya_number, ya_isConst, ya_needed, ya_inputs, ya_values, ya_variables, ya_cells, ya_outs, ya_was, ya_rest, ya_line)) (hg : ∀ l k : Nat, l < 4 → k < 4 → p = nI l → q = nI k → post 1 (yf_lines, yf_known, yf_wrong, yf_place, yf_blocks, yf_steps, yf_dropped, yf_on, yf_next, yf_again, yf_depth, ya_ops, ya_as, ya_bs, ya_cs, ya_blockOf, ya_opener, ya_around, ya_other, ya_end, ya_open, ya_varied, ya_loose, ya_variedVariable, ya_stands, ya_number, ya_isConst, ya_needed, in_val ya_inputs l k v 4, ya_values, ya_variables, ya_cells, ya_outs, ya_was, ya_rest, ya_line)) : wpY_input post (yf_lines, yf_known, yf_wrong, yf_place, yf_blocks, yf_steps, yf_dropped, yf_on, yf_next, yf_again, yf_depth, ya_ops, ya_as, ya_bs, ya_cs, ya_blockOf, ya_opener, ya_around, ya_other, ya_end, ya_open, ya_varied, ya_loose, ya_variedVariable, ya_stands, ya_number, ya_isConst, ya_needed, ya_inputs, ya_values, ya_variables, ya_cells, ya_outs, ya_was, ya_rest, ya_line) p q v := by
  refine br_c (fun h => hb (Or.inl (Or.inl h))) (fun h0 => br_c (fun h => hb (Or.inl (Or.inr ((ez_34 _).mp h)))) (fun h3 => br_c (fun h => hb (Or.inr (Or.inl h))) (fun k0 => br_c (fun k3 => ?_) (fun h => hb (Or.inr (Or.inr ((ez_34 _).mp (Int32.not_le.mp h))))))))
  rcases ez_4 p with h | ⟨l, hl, rfl⟩
  · exact hb (Or.inl h) |> fun z => absurd h (by rw [← ez_34]; exact fun h => h.elim h0 h3)
  rcases ez_4 q with h | ⟨k, hk, rfl⟩
  · exact absurd h (by rw [← ez_34]; exact fun h => h.elim k0 (Int32.not_lt.mpr k3))
  exact ⟨5, in_Y23 hl hk v (hg l k hl hk rfl rfl) 4 0 rfl⟩
/-- out and kept -/
theorem ou_X {post : Int32 → Prop} (p q : Int32) (hb : ((p < 0 ∨ 4 ≤ p) ∨ (q < 0 ∨ 4 ≤ q)) → post 0) (hg : ∀ l k : Nat, l < 4 → k < 4 → p = nI l → q = nI k → post (a_outputs (l * 4 + k))) : wpX_out post (f_lines, f_studied, f_wrong, f_wrongAt, f_brief, f_on, f_dropped, f_steps, f_nextLine, f_repeats, a_kinds, a_firsts, a_seconds, a_thirds, a_inputs, a_home, a_depth, a_closer, a_mate, a_operands, a_varies, a_parted, a_variableVaries, a_same, a_fixed, a_worth, a_needed, a_variableNeeded, a_values, a_variables, a_outputs, a_cells, a_whole, a_waiting) p q := by
  unfold wpX_out
  refine ez_four (fun h => br_t rfl (hb (Or.inl h))) (fun l hl el => br_f (by decide) ?_)
  refine ez_four (fun h => br_t rfl (hb (Or.inr h))) (fun k hk ek => br_f (by decide) ?_)
  subst el ek
  have e4 : nI l * 4 + nI k = nI (l * 4 + k) := by
    rw [show (4 : Int32) = nI 4 from rfl, pk_mul, nI_add]
  rw [e4, nI_clamp (by omega)]
  exact ⟨vp_in_nI (by omega) (by omega), hg l k hl hk rfl rfl⟩
theorem ou_Y {post : Int32 → Prop} (p q : Int32) (hb : ((p < 0 ∨ 4 ≤ p) ∨ (q < 0 ∨ 4 ≤ q)) → post 0) (hg : ∀ l k : Nat, l < 4 → k < 4 → p = nI l → q = nI k → post (ya_outs (4 * k + l))) : wpY_out post (yf_lines, yf_known, yf_wrong, yf_place, yf_blocks, yf_steps, yf_dropped, yf_on, yf_next, yf_again, yf_depth, ya_ops, ya_as, ya_bs, ya_cs, ya_blockOf, ya_opener, ya_around, ya_other, ya_end, ya_open, ya_varied, ya_loose, ya_variedVariable, ya_stands, ya_number, ya_isConst, ya_needed, ya_inputs, ya_values, ya_variables, ya_cells, ya_outs, ya_was, ya_rest, ya_line) p q := by
  refine br_c (fun h => hb (Or.inl (Or.inl h))) (fun h0 => br_c (fun h => hb (Or.inl (Or.inr ((ez_34 _).mp h)))) (fun h3 => br_c (fun h => hb (Or.inr (Or.inl h))) (fun k0 => br_c (fun k3 => ?_) (fun h => hb (Or.inr (Or.inr ((ez_34 _).mp (Int32.not_le.mp h))))))))
  rcases ez_4 p with h | ⟨l, hl, rfl⟩
  · exact absurd h (by rw [← ez_34]; exact fun h => h.elim h0 h3)
  rcases ez_4 q with h | ⟨k, hk, rfl⟩
  · exact absurd h (by rw [← ez_34]; exact fun h => h.elim k0 (Int32.not_lt.mpr k3))
  have e4 : 4 * nI k + nI l = nI (4 * k + l) := by
    rw [show (4 : Int32) = nI 4 from rfl, pk_mul, nI_add]
  rw [e4, nI_clamp (by omega)]
  exact ⟨vp_in_nI (by omega) (by omega), hg l k hl hk rfl rfl⟩
theorem ke_X {post : Int32 → Prop} (p q : Int32) (hb : ((p < 0 ∨ 4 ≤ p) ∨ (q < 0 ∨ 8 ≤ q)) → post 0) (hg : ∀ l k : Nat, l < 4 → k < 4 → p = nI l → q = nI k → post (a_variables (l * 4 + k))) (hc : ∀ l k : Nat, l < 4 → k < 4 → p = nI l → q = nI (4 + k) → post (a_cells k)) : wpX_kept post (f_lines, f_studied, f_wrong, f_wrongAt, f_brief, f_on, f_dropped, f_steps, f_nextLine, f_repeats, a_kinds, a_firsts, a_seconds, a_thirds, a_inputs, a_home, a_depth, a_closer, a_mate, a_operands, a_varies, a_parted, a_variableVaries, a_same, a_fixed, a_worth, a_needed, a_variableNeeded, a_values, a_variables, a_outputs, a_cells, a_whole, a_waiting) p q := by
  unfold wpX_kept
  refine ez_four (fun h => br_t rfl (hb (Or.inl h))) (fun l hl el => br_f (by decide) ?_)
  refine ez_four (fun h => br_t rfl ?_) (fun k hk ek => br_f (by decide) ?_)
  · rcases h with h | h
    · exact br_c (fun _ => hb (Or.inr (Or.inl h))) (fun h' => absurd (Int32.lt_trans h (by decide)) h')
    · refine br_f (Int32.not_lt.mpr h) (br_c (fun h8 => hb (Or.inr (Or.inr h8))) (fun h8 => ?_))
      rcases pk_ix q (n := 8) (by omega) with z | z | ⟨j, hj, rfl⟩
      · exact absurd (Int32.lt_of_lt_of_le z (by decide : (0 : Int32) ≤ 4)) (Int32.not_lt.mpr h)
      · exact absurd z h8
      · rw [show (4 : Int32) = nI 4 from rfl, nI_leI (by omega) (by omega)] at h
        obtain ⟨k, rfl⟩ : ∃ k, j = 4 + k := ⟨j - 4, by omega⟩
        have e : nI (4 + k) - 4 = nI k := by
          rw [show (4 : Int32) = nI 4 from rfl, pk_sub (by omega)]; congr 1; omega
        rw [e, nI_clamp (by omega)]
        exact ⟨vp_in_nI (by omega) (by omega), hc l k hl (by omega) el rfl⟩
  · subst el ek
    have e4 : nI l * 4 + nI k = nI (l * 4 + k) := by
      rw [show (4 : Int32) = nI 4 from rfl, pk_mul, nI_add]
    rw [e4, nI_clamp (by omega)]
    exact ⟨vp_in_nI (by omega) (by omega), hg l k hl hk rfl rfl⟩
theorem ke_Y {post : Int32 → Prop} (p q : Int32) (hb : ((p < 0 ∨ 4 ≤ p) ∨ (q < 0 ∨ 8 ≤ q)) → post 0) (hg : ∀ l k : Nat, l < 4 → k < 4 → p = nI l → q = nI k → post (ya_variables (4 * k + l))) (hc : ∀ l k : Nat, l < 4 → k < 4 → p = nI l → q = nI (4 + k) → post (ya_cells k)) : wpY_kept post (yf_lines, yf_known, yf_wrong, yf_place, yf_blocks, yf_steps, yf_dropped, yf_on, yf_next, yf_again, yf_depth, ya_ops, ya_as, ya_bs, ya_cs, ya_blockOf, ya_opener, ya_around, ya_other, ya_end, ya_open, ya_varied, ya_loose, ya_variedVariable, ya_stands, ya_number, ya_isConst, ya_needed, ya_inputs, ya_values, ya_variables, ya_cells, ya_outs, ya_was, ya_rest, ya_line) p q := by
  refine br_c (fun h => hb (Or.inl (Or.inl h))) (fun h0 => br_c (fun h => hb (Or.inl (Or.inr ((ez_34 _).mp h)))) (fun h3 => br_c (fun h => hb (Or.inr (Or.inl h))) (fun k0 => br_c (fun k7 => ?_) (fun h => hb (Or.inr (Or.inr ((ez_78 _).mp (Int32.not_le.mp h))))))))
  rcases ez_4 p with h | ⟨l, hl, el⟩
  · exact absurd h (by rw [← ez_34]; exact fun h => h.elim h0 h3)
  rcases pk_ix q (n := 8) (by omega) with z | z | ⟨j, hj, rfl⟩
  · exact absurd z k0
  · exact absurd ((ez_78 _).mpr z) (Int32.not_lt.mpr k7)
  refine pk_le 4 j (fun h4 => ?_) (fun h4 => ?_)
  · obtain ⟨k, rfl⟩ : ∃ k, j = 4 + k := ⟨j - 4, by omega⟩
    have e : nI (4 + k) - 4 = nI k := by
      rw [show (4 : Int32) = nI 4 from rfl, pk_sub (by omega)]; congr 1; omega
    rw [e, nI_clamp (by omega)]
    exact ⟨vp_in_nI (by omega) (by omega), hc l k hl (by omega) el rfl⟩
  · subst el
    have e4 : 4 * nI j + nI l = nI (4 * j + l) := by
      rw [show (4 : Int32) = nI 4 from rfl, pk_mul, nI_add]
    rw [e4, nI_clamp (by omega)]
    exact ⟨vp_in_nI (by omega) (by omega), hg l j hl h4 rfl rfl⟩
/-- state: each side reads one of five fields -/
theorem sa_X {post : Int32 → Prop} (p : Int32) (hb : (p < 0 ∨ 4 < p) → post (-1)) (h0 : p = 0 → post f_steps) (h1 : p = 1 → post f_dropped) (h2 : p = 2 → post f_on) (h3 : p = 3 → post f_nextLine) (h4 : p = 4 → post f_repeats) : wpX_state post (f_lines, f_studied, f_wrong, f_wrongAt, f_brief, f_on, f_dropped, f_steps, f_nextLine, f_repeats, a_kinds, a_firsts, a_seconds, a_thirds, a_inputs, a_home, a_depth, a_closer, a_mate, a_operands, a_varies, a_parted, a_variableVaries, a_same, a_fixed, a_worth, a_needed, a_variableNeeded, a_values, a_variables, a_outputs, a_cells, a_whole, a_waiting) p :=
  br_c (fun h => hb (Or.inl h)) (fun _ => br_c (fun h => hb (Or.inr h)) (fun _ => br_c h0 (fun _ => br_c h1 (fun _ => br_c h2 (fun _ => br_c h3 (fun _ => br_c h4 (fun _ => trivial)))))))
theorem sa_Y {post : Int32 → Prop} (p : Int32) (hb : (p < 0 ∨ 4 < p) → post (-1)) (h0 : p = 0 → post yf_steps) (h1 : p = 1 → post yf_dropped) (h2 : p = 2 → post yf_on) (h3 : p = 3 → post yf_next) (h4 : p = 4 → post yf_again) : wpY_state post (yf_lines, yf_known, yf_wrong, yf_place, yf_blocks, yf_steps, yf_dropped, yf_on, yf_next, yf_again, yf_depth, ya_ops, ya_as, ya_bs, ya_cs, ya_blockOf, ya_opener, ya_around, ya_other, ya_end, ya_open, ya_varied, ya_loose, ya_variedVariable, ya_stands, ya_number, ya_isConst, ya_needed, ya_inputs, ya_values, ya_variables, ya_cells, ya_outs, ya_was, ya_rest, ya_line) p :=
  br_c (fun h => hb (Or.inl h)) (fun _ => br_c (fun h => hb (Or.inr h)) (fun _ => br_c h0 (fun _ => br_c h1 (fun _ => br_c h2 (fun _ => br_c h3 (fun _ => br_c h4 (fun _ => trivial)))))))
end
end
section
section
variable {f_lines f_studied f_wrong f_wrongAt f_brief f_on f_dropped f_steps f_nextLine f_repeats : Int32} {a_kinds a_firsts a_seconds a_thirds a_inputs a_home a_depth a_closer a_mate a_operands a_varies a_parted a_variableVaries a_same a_fixed a_worth a_needed a_variableNeeded a_values a_variables a_outputs a_cells a_whole a_waiting : Nat → Int32}
variable {yf_lines yf_known yf_wrong yf_place yf_blocks yf_steps yf_dropped yf_on yf_next yf_again yf_depth : Int32} {ya_ops ya_as ya_bs ya_cs ya_blockOf ya_opener ya_around ya_other ya_end ya_open ya_varied ya_loose ya_variedVariable ya_stands ya_number ya_isConst ya_needed ya_inputs ya_values ya_variables ya_cells ya_outs ya_was ya_rest ya_line : Nat → Int32}
/-- zero below N -/
def cl_z (N : Nat) (a : Nat → Int32) : Nat → Int32 := fun j => if j < N then 0 else a j
theorem cl_0 (a : Nat → Int32) : cl_z 0 a = a := by funext j; simp [cl_z]
theorem cl_s (i : Nat) (a : Nat → Int32) : upd (cl_z i a) i 0 = cl_z (i + 1) a := by
  funext j; simp only [upd, cl_z]
  by_cases h : j = i
  · simp [h]
  · by_cases h2 : j < i
    · simp [h2, show j < i + 1 by omega]
    · simp [h, h2, show ¬ j < i + 1 by omega]
theorem cl_k {i N : Nat} (h : i < N) (a : Nat → Int32) : upd (cl_z N a) i 0 = cl_z N a := by
  funext j; simp only [upd, cl_z]
  by_cases e : j = i
  · simp [e, h]
  · simp [e]
theorem cl_lt {j N : Nat} (a : Nat → Int32) (h : j < N) : cl_z N a j = 0 := if_pos h
theorem cr_X52 {post : SX → Prop} (h : post (f_lines, f_studied, f_wrong, f_wrongAt, f_brief, 15, 0, 0, f_nextLine, 0, a_kinds, a_firsts, a_seconds, a_thirds, a_inputs, a_home, a_depth, a_closer, a_mate, a_operands, a_varies, a_parted, a_variableVaries, a_same, a_fixed, a_worth, a_needed, a_variableNeeded, a_values, a_variables, a_outputs, cl_z 4 a_cells, a_whole, a_waiting)) : ∀ d i : Nat, i + d = 4 → wX_clearRun_52 post f_lines f_studied f_wrong f_wrongAt f_brief f_on f_dropped f_steps f_nextLine f_repeats (d + 1) (nI i) a_kinds a_firsts a_seconds a_thirds a_inputs a_home a_depth a_closer a_mate a_operands a_varies a_parted a_variableVaries a_same a_fixed a_worth a_needed a_variableNeeded a_values a_variables a_outputs (cl_z i a_cells) a_whole a_waiting := by
  intro d
  induction d with
  | zero => intro i hi; cases (show i = 4 by omega); exact br_t (by decide) h
  | succ d ih =>
    intro i hi
    exact br_f (nI_ge (b := 4) (by omega) (by decide)) ⟨vp_in_nI (by omega) (by omega), nm_r (by rw [nI_clamp (by omega)]; exact cl_s i _) (nm_r (nI_1 i) (ih (i + 1) (by omega)))⟩
theorem cr_X24 {post : SX → Prop} (h : post (f_lines, f_studied, f_wrong, f_wrongAt, f_brief, 15, 0, 0, f_nextLine, 0, a_kinds, a_firsts, a_seconds, a_thirds, a_inputs, a_home, a_depth, a_closer, a_mate, a_operands, a_varies, a_parted, a_variableVaries, a_same, a_fixed, a_worth, a_needed, a_variableNeeded, a_values, cl_z 16 a_variables, cl_z 16 a_outputs, cl_z 4 a_cells, a_whole, a_waiting)) : ∀ d i : Nat, i + d = 16 → wX_clearRun_24 post f_lines f_studied f_wrong f_wrongAt f_brief f_on f_dropped f_steps f_nextLine f_repeats (d + 1) (nI i) a_kinds a_firsts a_seconds a_thirds a_inputs a_home a_depth a_closer a_mate a_operands a_varies a_parted a_variableVaries a_same a_fixed a_worth a_needed a_variableNeeded a_values (cl_z i a_variables) (cl_z i a_outputs) a_cells a_whole a_waiting := by
  intro d
  induction d with
  | zero =>
    intro i hi
    cases (show i = 16 by omega)
    exact br_t (by decide) ⟨5, by rw [← cl_0 a_cells]; exact cr_X52 h 4 0 rfl⟩
  | succ d ih =>
    intro i hi
    exact br_f (nI_ge (b := 16) (by omega) (by decide)) ⟨vp_in_nI (by omega) (by omega), nm_r (by rw [nI_clamp (by omega)]; exact cl_s i _) ⟨vp_in_nI (by omega) (by omega), nm_r (by rw [nI_clamp (by omega)]; exact cl_s i _) (nm_r (nI_1 i) (ih (i + 1) (by omega)))⟩⟩
theorem cr_X2 {post : SX → Prop} (h : post (f_lines, f_studied, f_wrong, f_wrongAt, f_brief, 15, 0, 0, f_nextLine, 0, a_kinds, a_firsts, a_seconds, a_thirds, a_inputs, a_home, a_depth, a_closer, a_mate, a_operands, a_varies, a_parted, a_variableVaries, a_same, a_fixed, a_worth, a_needed, a_variableNeeded, cl_z 192 a_values, cl_z 16 a_variables, cl_z 16 a_outputs, cl_z 4 a_cells, a_whole, a_waiting)) : ∀ d i : Nat, i + d = 192 → wX_clearRun_2 post f_lines f_studied f_wrong f_wrongAt f_brief f_on f_dropped f_steps f_nextLine f_repeats (d + 1) (nI i) a_kinds a_firsts a_seconds a_thirds a_inputs a_home a_depth a_closer a_mate a_operands a_varies a_parted a_variableVaries a_same a_fixed a_worth a_needed a_variableNeeded (cl_z i a_values) a_variables a_outputs a_cells a_whole a_waiting := by
  intro d
  induction d with
  | zero =>
    intro i hi
    cases (show i = 192 by omega)
    exact br_t (by decide) ⟨17, by rw [← cl_0 a_variables, ← cl_0 a_outputs]; exact cr_X24 h 16 0 rfl⟩
  | succ d ih =>
    intro i hi
    exact br_f (nI_ge (b := 192) (by omega) (by decide)) ⟨vp_in_nI (by omega) (by omega), nm_r (by rw [nI_clamp (by omega)]; exact cl_s i _) (nm_r (nI_1 i) (ih (i + 1) (by omega)))⟩
theorem cr_X {post : SX → Prop} (h : post (f_lines, f_studied, f_wrong, f_wrongAt, f_brief, 15, 0, 0, f_nextLine, 0, a_kinds, a_firsts, a_seconds, a_thirds, a_inputs, a_home, a_depth, a_closer, a_mate, a_operands, a_varies, a_parted, a_variableVaries, a_same, a_fixed, a_worth, a_needed, a_variableNeeded, cl_z 192 a_values, cl_z 16 a_variables, cl_z 16 a_outputs, cl_z 4 a_cells, a_whole, a_waiting)) : wpX_clearRun post (f_lines, f_studied, f_wrong, f_wrongAt, f_brief, f_on, f_dropped, f_steps, f_nextLine, f_repeats, a_kinds, a_firsts, a_seconds, a_thirds, a_inputs, a_home, a_depth, a_closer, a_mate, a_operands, a_varies, a_parted, a_variableVaries, a_same, a_fixed, a_worth, a_needed, a_variableNeeded, a_values, a_variables, a_outputs, a_cells, a_whole, a_waiting) := by
  refine ⟨193, ?_⟩
  rw [← cl_0 a_values]
  exact cr_X2 h 192 0 rfl
theorem cr_Y37 {post : Int32 → SY → Prop} {x1 : Int32} (h : ∃ n, wY_run_103 post x1 n yf_lines yf_known yf_wrong yf_place yf_blocks 0 0 15 0 0 0 ya_ops ya_as ya_bs ya_cs ya_blockOf ya_opener ya_around ya_other ya_end ya_open ya_varied ya_loose ya_variedVariable ya_stands ya_number ya_isConst ya_needed ya_inputs ya_values (cl_z 16 ya_variables) (cl_z 4 ya_cells) (cl_z 16 ya_outs) ya_was ya_rest ya_line) : ∀ d i : Nat, i + d = 16 → wY_run_37 post x1 yf_lines yf_known yf_wrong yf_place yf_blocks yf_steps yf_dropped yf_on yf_next yf_again yf_depth (d + 1) (nI i) ya_ops ya_as ya_bs ya_cs ya_blockOf ya_opener ya_around ya_other ya_end ya_open ya_varied ya_loose ya_variedVariable ya_stands ya_number ya_isConst ya_needed ya_inputs ya_values (cl_z i ya_variables) (cl_z (min i 4) ya_cells) (cl_z i ya_outs) ya_was ya_rest ya_line := by
  intro d
  induction d with
  | zero =>
    intro i hi
    cases (show i = 16 by omega)
    exact br_t (by decide) h
  | succ d ih =>
    intro i hi
    have em : nI i - nI i / 4 * 4 = nI (i % 4) := pk_rem (d := 4) (by omega) (by omega) (by omega)
    have ec : upd (cl_z (min i 4) ya_cells) (nI i - nI i / 4 * 4).toNatClampNeg 0 = cl_z (min (i + 1) 4) ya_cells := by
      rw [em, nI_clamp (by omega)]
      by_cases h4 : i < 4
      · rw [show i % 4 = i by omega, show min i 4 = i by omega, show min (i + 1) 4 = i + 1 by omega]; exact cl_s i _
      · rw [show min i 4 = 4 by omega, show min (i + 1) 4 = 4 by omega]; exact cl_k (by omega) _
    exact br_f (nI_ge (b := 16) (by omega) (by decide)) ⟨vp_in_nI (by omega) (by omega), nm_r (by rw [nI_clamp (by omega)]; exact cl_s i _) ⟨vp_in_nI (by omega) (by omega), nm_r (by rw [nI_clamp (by omega)]; exact cl_s i _) ⟨by decide, by rw [em]; exact vp_in_nI (by omega) (by omega), nm_r ec (nm_r (nI_1 i) (ih (i + 1) (by omega)))⟩⟩⟩
theorem cr_Y15 {post : Int32 → SY → Prop} {x1 : Int32} (h : ∃ n, wY_run_103 post x1 n yf_lines yf_known yf_wrong yf_place yf_blocks 0 0 15 0 0 0 ya_ops ya_as ya_bs ya_cs ya_blockOf ya_opener ya_around ya_other ya_end ya_open ya_varied ya_loose ya_variedVariable ya_stands ya_number ya_isConst ya_needed ya_inputs (cl_z 192 ya_values) (cl_z 16 ya_variables) (cl_z 4 ya_cells) (cl_z 16 ya_outs) ya_was ya_rest ya_line) : ∀ d i : Nat, i + d = 192 → wY_run_15 post x1 yf_lines yf_known yf_wrong yf_place yf_blocks yf_steps yf_dropped yf_on yf_next yf_again yf_depth (d + 1) (nI i) ya_ops ya_as ya_bs ya_cs ya_blockOf ya_opener ya_around ya_other ya_end ya_open ya_varied ya_loose ya_variedVariable ya_stands ya_number ya_isConst ya_needed ya_inputs (cl_z i ya_values) ya_variables ya_cells ya_outs ya_was ya_rest ya_line := by
  intro d
  induction d with
  | zero =>
    intro i hi
    cases (show i = 192 by omega)
    refine br_t (by decide) ⟨17, ?_⟩
    rw [← cl_0 ya_variables, ← cl_0 ya_outs, ← cl_0 ya_cells]
    exact cr_Y37 h 16 0 rfl
  | succ d ih =>
    intro i hi
    exact br_f (nI_ge (b := 192) (by omega) (by decide)) ⟨vp_in_nI (by omega) (by omega), nm_r (by rw [nI_clamp (by omega)]; exact cl_s i _) (nm_r (nI_1 i) (ih (i + 1) (by omega)))⟩
theorem cr_Y {post : Int32 → SY → Prop} {x1 : Int32} (h : ∃ n, wY_run_103 post x1 n yf_lines yf_known yf_wrong yf_place yf_blocks 0 0 15 0 0 0 ya_ops ya_as ya_bs ya_cs ya_blockOf ya_opener ya_around ya_other ya_end ya_open ya_varied ya_loose ya_variedVariable ya_stands ya_number ya_isConst ya_needed ya_inputs (cl_z 192 ya_values) (cl_z 16 ya_variables) (cl_z 4 ya_cells) (cl_z 16 ya_outs) ya_was ya_rest ya_line) : ∃ n, wY_run_15 post x1 yf_lines yf_known yf_wrong yf_place yf_blocks yf_steps yf_dropped yf_on yf_next yf_again yf_depth n 0 ya_ops ya_as ya_bs ya_cs ya_blockOf ya_opener ya_around ya_other ya_end ya_open ya_varied ya_loose ya_variedVariable ya_stands ya_number ya_isConst ya_needed ya_inputs ya_values ya_variables ya_cells ya_outs ya_was ya_rest ya_line := by
  refine ⟨193, ?_⟩
  rw [← cl_0 ya_values]
  exact cr_Y15 h 192 0 rfl
end
end
section
theorem zr_u (k : Nat) : upd (fun _ => 0) k 0 = (fun _ => 0) := by
  funext j; simp [upd]
theorem zr_b : vp_nar .boolean 0 = 0 := by decide
def i_Rel (k : Nat) (u : SX) (v : SY) : Prop := k = 0 → (u = (0, 0, 0, 0, 0, 0, 0, 0, 0, 0, (fun _ => 0), (fun _ => 0), (fun _ => 0), (fun _ => 0), (fun _ => 0), (fun _ => 0), (fun _ => 0), (fun _ => 0), (fun _ => 0), (fun _ => 0), (fun _ => 0), (fun _ => 0), (fun _ => 0), (fun _ => 0), (fun _ => 0), (fun _ => 0), (fun _ => 0), (fun _ => 0), (fun _ => 0), (fun _ => 0), (fun _ => 0), (fun _ => 0), (fun _ => 0), (fun _ => 0)) ∧ v = (0, 0, 0, 0, 0, 0, 0, 0, 0, 0, 0, (fun _ => 0), (fun _ => 0), (fun _ => 0), (fun _ => 0), (fun _ => 0), (fun _ => 0), (fun _ => 0), (fun _ => 0), (fun _ => 0), (fun _ => 0), (fun _ => 0), (fun _ => 0), (fun _ => 0), (fun _ => 0), (fun _ => 0), (fun _ => 0), (fun _ => 0), (fun _ => 0), (fun _ => 0), (fun _ => 0), (fun _ => 0), (fun _ => 0), (fun _ => 0), (fun _ => 0), (fun _ => 0)))
theorem i_up {k : Nat} {u : SX} {v : SY} (h : i_Rel k u v) : i_Rel (k + 5) u v := fun h0 => absurd h0 (by omega)
theorem i_vc0 : wpX_init (fun u => wpY_init (fun v => i_Rel 0 u v)) := fun _ => ⟨rfl, rfl⟩
theorem zr_T {k : Nat} (u : SX) (v : SY) : i_Rel (k + 5) u v := fun h => absurd h (by omega)
/-- X's study of no lines -/
theorem zr_findWrong (P : SX → Prop) (h : P (0, 1, 0, (-1), 0, 0, 0, 0, 0, 0, (fun _ => 0), (fun _ => 0), (fun _ => 0), (fun _ => 0), (fun _ => 0), (fun _ => 0), (fun _ => 0), (fun _ => 0), (fun _ => 0), (fun _ => 0), (fun _ => 0), (fun _ => 0), (fun _ => 0), (fun _ => 0), (fun _ => 0), (fun _ => 0), (fun _ => 0), (fun _ => 0), (fun _ => 0), (fun _ => 0), (fun _ => 0), (fun _ => 0), (fun _ => 0), (fun _ => 0))) : wpX_findWrong P (0, 1, 0, (-1), 0, 0, 0, 0, 0, 0, (fun _ => 0), (fun _ => 0), (fun _ => 0), (fun _ => 0), (fun _ => 0), (fun _ => 0), (fun _ => 0), (fun _ => 0), (fun _ => 0), (fun _ => 0), (fun _ => 0), (fun _ => 0), (fun _ => 0), (fun _ => 0), (fun _ => 0), (fun _ => 0), (fun _ => 0), (fun _ => 0), (fun _ => 0), (fun _ => 0), (fun _ => 0), (fun _ => 0), (fun _ => 0), (fun _ => 0)) :=
  ⟨1, by simp only [wX_findWrong_4, wX_findWrong_71]; simpa [zr_u, zr_b] using h⟩
theorem zr_findVaried (P : SX → Prop) (h : P (0, 1, 0, (-1), 0, 0, 0, 0, 0, 0, (fun _ => 0), (fun _ => 0), (fun _ => 0), (fun _ => 0), (fun _ => 0), (fun _ => 0), (fun _ => 0), (fun _ => 0), (fun _ => 0), (fun _ => 0), (fun _ => 0), (fun _ => 0), (fun _ => 0), (fun _ => 0), (fun _ => 0), (fun _ => 0), (fun _ => 0), (fun _ => 0), (fun _ => 0), (fun _ => 0), (fun _ => 0), (fun _ => 0), (fun _ => 0), (fun _ => 0))) : wpX_findVaried P (0, 1, 0, (-1), 0, 0, 0, 0, 0, 0, (fun _ => 0), (fun _ => 0), (fun _ => 0), (fun _ => 0), (fun _ => 0), (fun _ => 0), (fun _ => 0), (fun _ => 0), (fun _ => 0), (fun _ => 0), (fun _ => 0), (fun _ => 0), (fun _ => 0), (fun _ => 0), (fun _ => 0), (fun _ => 0), (fun _ => 0), (fun _ => 0), (fun _ => 0), (fun _ => 0), (fun _ => 0), (fun _ => 0), (fun _ => 0), (fun _ => 0)) := by
  unfold wpX_findVaried
  intro a ea
  rw [zr_b, zr_u] at ea
  subst ea
  refine ⟨1, br_t (by decide) ⟨5, ?_⟩⟩
  simp only [wX_findVaried_41, zr_b]
  refine br_f (by decide) ⟨vp_in_iff.mpr (by decide), nm_r (zr_u _) (nm_e (br_f (by decide) ⟨vp_in_iff.mpr (by decide), nm_r (zr_u _) (nm_e (br_f (by decide) ⟨vp_in_iff.mpr (by decide), nm_r (zr_u _) (nm_e (br_f (by decide) ⟨vp_in_iff.mpr (by decide), nm_r (zr_u _) (nm_e (br_t (by decide) ?_))⟩))⟩))⟩))⟩
  exact ⟨2, br_f (by decide) (br_f (by decide) ⟨1, br_t (by decide) (nm_e (br_f (by decide) (br_t rfl h)))⟩)⟩
theorem zr_findWrongDifference (P : SX → Prop) (h : P (0, 1, 0, (-1), 0, 0, 0, 0, 0, 0, (fun _ => 0), (fun _ => 0), (fun _ => 0), (fun _ => 0), (fun _ => 0), (fun _ => 0), (fun _ => 0), (fun _ => 0), (fun _ => 0), (fun _ => 0), (fun _ => 0), (fun _ => 0), (fun _ => 0), (fun _ => 0), (fun _ => 0), (fun _ => 0), (fun _ => 0), (fun _ => 0), (fun _ => 0), (fun _ => 0), (fun _ => 0), (fun _ => 0), (fun _ => 0), (fun _ => 0))) : wpX_findWrongDifference P (0, 1, 0, (-1), 0, 0, 0, 0, 0, 0, (fun _ => 0), (fun _ => 0), (fun _ => 0), (fun _ => 0), (fun _ => 0), (fun _ => 0), (fun _ => 0), (fun _ => 0), (fun _ => 0), (fun _ => 0), (fun _ => 0), (fun _ => 0), (fun _ => 0), (fun _ => 0), (fun _ => 0), (fun _ => 0), (fun _ => 0), (fun _ => 0), (fun _ => 0), (fun _ => 0), (fun _ => 0), (fun _ => 0), (fun _ => 0), (fun _ => 0)) :=
  ⟨1, br_t (by decide) h⟩
theorem zr_shortenLines (P : SX → Prop) (h : P (0, 1, 0, (-1), 0, 0, 0, 0, 0, 0, (fun _ => 0), (fun _ => 0), (fun _ => 0), (fun _ => 0), (fun _ => 0), (fun _ => 0), (fun _ => 0), (fun _ => 0), (fun _ => 0), (fun _ => 0), (fun _ => 0), (fun _ => 0), (fun _ => 0), (fun _ => 0), (fun _ => 0), (fun _ => 0), (fun _ => 0), (fun _ => 0), (fun _ => 0), (fun _ => 0), (fun _ => 0), (fun _ => 0), (fun _ => 0), (fun _ => 0))) : wpX_shortenLines P (0, 1, 0, (-1), 0, 0, 0, 0, 0, 0, (fun _ => 0), (fun _ => 0), (fun _ => 0), (fun _ => 0), (fun _ => 0), (fun _ => 0), (fun _ => 0), (fun _ => 0), (fun _ => 0), (fun _ => 0), (fun _ => 0), (fun _ => 0), (fun _ => 0), (fun _ => 0), (fun _ => 0), (fun _ => 0), (fun _ => 0), (fun _ => 0), (fun _ => 0), (fun _ => 0), (fun _ => 0), (fun _ => 0), (fun _ => 0), (fun _ => 0)) :=
  ⟨1, br_t (by decide) h⟩
theorem zr_findNeeded (P : SX → Prop) (h : P (0, 1, 0, (-1), 0, 0, 0, 0, 0, 0, (fun _ => 0), (fun _ => 0), (fun _ => 0), (fun _ => 0), (fun _ => 0), (fun _ => 0), (fun _ => 0), (fun _ => 0), (fun _ => 0), (fun _ => 0), (fun _ => 0), (fun _ => 0), (fun _ => 0), (fun _ => 0), (fun _ => 0), (fun _ => 0), (fun _ => 0), (fun _ => 0), (fun _ => 0), (fun _ => 0), (fun _ => 0), (fun _ => 0), (fun _ => 0), (fun _ => 0))) : wpX_findNeeded P (0, 1, 0, (-1), 0, 0, 0, 0, 0, 0, (fun _ => 0), (fun _ => 0), (fun _ => 0), (fun _ => 0), (fun _ => 0), (fun _ => 0), (fun _ => 0), (fun _ => 0), (fun _ => 0), (fun _ => 0), (fun _ => 0), (fun _ => 0), (fun _ => 0), (fun _ => 0), (fun _ => 0), (fun _ => 0), (fun _ => 0), (fun _ => 0), (fun _ => 0), (fun _ => 0), (fun _ => 0), (fun _ => 0), (fun _ => 0), (fun _ => 0)) := by
  refine ⟨1, br_t (by decide) ⟨5, ?_⟩⟩
  simp only [wX_findNeeded_51, zr_b]
  refine br_f (by decide) ⟨vp_in_iff.mpr (by decide), nm_r (zr_u _) (nm_e (br_f (by decide) ⟨vp_in_iff.mpr (by decide), nm_r (zr_u _) (nm_e (br_f (by decide) ⟨vp_in_iff.mpr (by decide), nm_r (zr_u _) (nm_e (br_f (by decide) ⟨vp_in_iff.mpr (by decide), nm_r (zr_u _) (nm_e (br_t (by decide) ?_))⟩))⟩))⟩))⟩
  exact ⟨2, br_f (by decide) (br_f (by decide) (nm_e ⟨1, br_t (by decide) (nm_e (br_f (by decide) (br_t rfl h)))⟩))⟩
theorem zr_study (P : SX → Prop) (h : P (0, 1, 0, (-1), 0, 0, 0, 0, 0, 0, (fun _ => 0), (fun _ => 0), (fun _ => 0), (fun _ => 0), (fun _ => 0), (fun _ => 0), (fun _ => 0), (fun _ => 0), (fun _ => 0), (fun _ => 0), (fun _ => 0), (fun _ => 0), (fun _ => 0), (fun _ => 0), (fun _ => 0), (fun _ => 0), (fun _ => 0), (fun _ => 0), (fun _ => 0), (fun _ => 0), (fun _ => 0), (fun _ => 0), (fun _ => 0), (fun _ => 0))) : wpX_study P (0, 0, 0, 0, 0, 0, 0, 0, 0, 0, (fun _ => 0), (fun _ => 0), (fun _ => 0), (fun _ => 0), (fun _ => 0), (fun _ => 0), (fun _ => 0), (fun _ => 0), (fun _ => 0), (fun _ => 0), (fun _ => 0), (fun _ => 0), (fun _ => 0), (fun _ => 0), (fun _ => 0), (fun _ => 0), (fun _ => 0), (fun _ => 0), (fun _ => 0), (fun _ => 0), (fun _ => 0), (fun _ => 0), (fun _ => 0), (fun _ => 0)) :=
  br_t rfl (zr_findWrong _ (br_t rfl (zr_findVaried _ (zr_findWrongDifference _ (zr_shortenLines _ (zr_findNeeded _ h))))))
end
section
/-- Y's look at no lines -/
theorem zr_u1 (k : Nat) (P : Nat → Int32 → (Nat → Int32) → Prop) (N : Nat) (hN : N < 2 ^ 31) (hx : ∀ n, P (n + 1) (nI N) (fun _ => 0)) (hs : ∀ n i, i < N → P n (nI (i + 1)) (fun _ => 0) → P (n + 1) (nI i) (fun _ => 0)) : ∃ n, P n 0 (fun _ => 0) := by
  have key : ∀ d i, i + d = N → P (d + 1) (nI i) (fun _ => 0) := by
    intro d
    induction d with
    | zero => intro i hi; rw [show i = N by omega]; exact hx _
    | succ d ih => intro i hi; exact hs _ i (by omega) (ih (i + 1) (by omega))
  exact ⟨N + 1, key N 0 (by omega)⟩
theorem zr_spread (P : SY → Prop) (p o a : Nat → Int32) (h : P (0, 1, 0, (-1), 1, 0, 0, 0, 0, 0, 0, (fun _ => 0), (fun _ => 0), (fun _ => 0), (fun _ => 0), (fun _ => 0), o, a, (fun _ => 0), (fun _ => 0), (fun _ => 0), (fun _ => 0), (fun _ => 0), (fun _ => 0), (fun _ => 0), (fun _ => 0), (fun _ => 0), (fun _ => 0), (fun _ => 0), (fun _ => 0), (fun _ => 0), (fun _ => 0), (fun _ => 0), (fun _ => 0), (fun _ => 0), (fun _ => 0))) : wpY_spread P (0, 1, 0, (-1), 1, 0, 0, 0, 0, 0, 0, (fun _ => 0), (fun _ => 0), (fun _ => 0), (fun _ => 0), (fun _ => 0), o, a, (fun _ => 0), (fun _ => 0), (fun _ => 0), (fun _ => 0), (fun _ => 0), (fun _ => 0), (fun _ => 0), (fun _ => 0), (fun _ => 0), (fun _ => 0), (fun _ => 0), (fun _ => 0), (fun _ => 0), (fun _ => 0), (fun _ => 0), (fun _ => 0), (fun _ => 0), (fun _ => 0)) := by
  refine zr_u1 0 (fun n i s => wY_spread_2 P 0 1 0 (-1) 1 0 0 0 0 0 0 n i (fun _ => 0) (fun _ => 0) (fun _ => 0) (fun _ => 0) (fun _ => 0) o a (fun _ => 0) (fun _ => 0) (fun _ => 0) s (fun _ => 0) (fun _ => 0) (fun _ => 0) (fun _ => 0) (fun _ => 0) (fun _ => 0) (fun _ => 0) (fun _ => 0) (fun _ => 0) (fun _ => 0) (fun _ => 0) (fun _ => 0) (fun _ => 0) (fun _ => 0)) 48 (by omega) ?_ ?_
  · intro n
    refine br_t (by decide) ?_
    refine zr_u1 0 (fun n i s => wY_spread_23 P 0 1 0 (-1) 1 0 0 0 0 0 0 n i (fun _ => 0) (fun _ => 0) (fun _ => 0) (fun _ => 0) (fun _ => 0) o a (fun _ => 0) (fun _ => 0) (fun _ => 0) (fun _ => 0) s (fun _ => 0) (fun _ => 0) (fun _ => 0) (fun _ => 0) (fun _ => 0) (fun _ => 0) (fun _ => 0) (fun _ => 0) (fun _ => 0) (fun _ => 0) (fun _ => 0) (fun _ => 0) (fun _ => 0)) 97 (by omega) ?_ ?_
    · intro n
      refine br_t (by decide) ?_
      refine zr_u1 0 (fun n i s => wY_spread_44 P 0 1 0 (-1) 1 0 0 0 0 0 0 n i (fun _ => 0) (fun _ => 0) (fun _ => 0) (fun _ => 0) (fun _ => 0) o a (fun _ => 0) (fun _ => 0) (fun _ => 0) (fun _ => 0) (fun _ => 0) s (fun _ => 0) (fun _ => 0) (fun _ => 0) (fun _ => 0) (fun _ => 0) (fun _ => 0) (fun _ => 0) (fun _ => 0) (fun _ => 0) (fun _ => 0) (fun _ => 0) (fun _ => 0)) 4 (by omega) ?_ ?_
      · intro n
        refine br_t (by decide) ?_
        exact ⟨2, br_f (by decide) ⟨1, br_t (by decide) ⟨1, br_t (by decide) (br_t rfl h)⟩⟩⟩
      · intro n i hi H
        exact br_f (nI_ge (b := 4) hi (by decide)) ⟨vp_in_nI hi (by omega), nm_r (by rw [zr_b]; exact zr_u _) (nm_r (nI_1 i) H)⟩
    · intro n i hi H
      exact br_f (nI_ge (b := 97) hi (by decide)) ⟨vp_in_nI hi (by omega), nm_r (by rw [zr_b]; exact zr_u _) (nm_r (nI_1 i) H)⟩
  · intro n i hi H
    exact br_f (nI_ge (b := 48) hi (by decide)) ⟨vp_in_nI hi (by omega), nm_r (by rw [zr_b]; exact zr_u _) (nm_r (nI_1 i) H)⟩
theorem zr_shorten (P : SY → Prop) (o a : Nat → Int32) (h : P (0, 1, 0, (-1), 1, 0, 0, 0, 0, 0, 0, (fun _ => 0), (fun _ => 0), (fun _ => 0), (fun _ => 0), (fun _ => 0), o, a, (fun _ => 0), (fun _ => 0), (fun _ => 0), (fun _ => 0), (fun _ => 0), (fun _ => 0), (fun _ => 0), (fun _ => 0), (fun _ => 0), (fun _ => 0), (fun _ => 0), (fun _ => 0), (fun _ => 0), (fun _ => 0), (fun _ => 0), (fun _ => 0), (fun _ => 0), (fun _ => 0))) : wpY_shorten P (0, 1, 0, (-1), 1, 0, 0, 0, 0, 0, 0, (fun _ => 0), (fun _ => 0), (fun _ => 0), (fun _ => 0), (fun _ => 0), o, a, (fun _ => 0), (fun _ => 0), (fun _ => 0), (fun _ => 0), (fun _ => 0), (fun _ => 0), (fun _ => 0), (fun _ => 0), (fun _ => 0), (fun _ => 0), (fun _ => 0), (fun _ => 0), (fun _ => 0), (fun _ => 0), (fun _ => 0), (fun _ => 0), (fun _ => 0), (fun _ => 0)) :=
  ⟨1, br_t (by decide) ⟨2, br_f (by decide) ⟨1, br_t (by decide) (br_t rfl h)⟩⟩⟩
theorem zr_look (P : SY → Prop) (h : P (0, 1, 0, (-1), 1, 0, 0, 0, 0, 0, 0, (fun _ => 0), (fun _ => 0), (fun _ => 0), (fun _ => 0), (fun _ => 0), upd (fun _ => 0) 0 (-1), upd (fun _ => 0) 0 (-1), (fun _ => 0), (fun _ => 0), (fun _ => 0), (fun _ => 0), (fun _ => 0), (fun _ => 0), (fun _ => 0), (fun _ => 0), (fun _ => 0), (fun _ => 0), (fun _ => 0), (fun _ => 0), (fun _ => 0), (fun _ => 0), (fun _ => 0), (fun _ => 0), (fun _ => 0), (fun _ => 0))) : wpY_look P (0, 0, 0, 0, 0, 0, 0, 0, 0, 0, 0, (fun _ => 0), (fun _ => 0), (fun _ => 0), (fun _ => 0), (fun _ => 0), (fun _ => 0), (fun _ => 0), (fun _ => 0), (fun _ => 0), (fun _ => 0), (fun _ => 0), (fun _ => 0), (fun _ => 0), (fun _ => 0), (fun _ => 0), (fun _ => 0), (fun _ => 0), (fun _ => 0), (fun _ => 0), (fun _ => 0), (fun _ => 0), (fun _ => 0), (fun _ => 0), (fun _ => 0), (fun _ => 0)) :=
  br_t rfl (nm_e (nm_e ⟨1, br_t (by decide) (br_t rfl (br_t (by decide) (br_t (by decide) (zr_spread _ (fun _ => 0) _ _ ⟨1, br_t (by decide) (zr_shorten _ _ _ h)⟩))))⟩))
end
section
theorem i_vc_wipe {k : Nat} {u : SX} {v : SY} (I : i_Rel k u v) (hk : k + 5 ≤ 5) : wpX_wipe (fun r u' => wpY_wipe (fun r' v' => r' = r ∧ i_Rel (k + 5) u' v') v) u := by
  obtain ⟨rfl, rfl⟩ := I (by omega)
  exact ⟨rfl, zr_T _ _⟩
theorem i_vc_check {k : Nat} {u : SX} {v : SY} (I : i_Rel k u v) (hk : k + 5 ≤ 5) : wpX_check (fun r u' => wpY_check (fun r' v' => r' = r ∧ i_Rel (k + 5) u' v') v) u := by
  obtain ⟨rfl, rfl⟩ := I (by omega)
  unfold wpX_check wpY_check
  exact zr_study _ (zr_look _ ⟨rfl, zr_T _ _⟩)
theorem i_vc_place {k : Nat} {u : SX} {v : SY} (I : i_Rel k u v) (hk : k + 5 ≤ 5) : wpX_place (fun r u' => wpY_place (fun r' v' => r' = r ∧ i_Rel (k + 5) u' v') v) u := by
  obtain ⟨rfl, rfl⟩ := I (by omega)
  unfold wpX_place wpY_place
  exact zr_study _ (zr_look _ ⟨rfl, zr_T _ _⟩)
theorem i_vc_lanes {k : Nat} {u : SX} {v : SY} (I : i_Rel k u v) (hk : k + 5 ≤ 5) (v1 : Int32) (v2 : Int32) : wpX_lanes (fun r u' => wpY_lanes (fun r' v' => r' = r ∧ i_Rel (k + 5) u' v') v v1 v2) u v1 v2 := by
  obtain ⟨rfl, rfl⟩ := I (by omega)
  unfold wpX_lanes wpY_lanes
  refine zr_study _ (br_c (fun h => ?_) (fun h => br_t (Int32.not_lt.mp h) ?_))
  · exact zr_look _ (br_t h ⟨rfl, zr_T _ _⟩)
  · exact zr_look _ (br_f h (br_t (Int32.not_lt.mp h) ⟨rfl, zr_T _ _⟩))
theorem i_vc_shorter {k : Nat} {u : SX} {v : SY} (I : i_Rel k u v) (hk : k + 5 ≤ 5) (v1 : Int32) (v2 : Int32) : wpX_shorter (fun r u' => wpY_shorter (fun r' v' => r' = r ∧ i_Rel (k + 5) u' v') v v1 v2) u v1 v2 := by
  obtain ⟨rfl, rfl⟩ := I (by omega)
  unfold wpX_shorter wpY_shorter
  refine zr_study _ (br_c (fun h => ?_) (fun h => br_t (Int32.not_lt.mp h) ?_))
  · exact zr_look _ (br_t h ⟨rfl, zr_T _ _⟩)
  · exact zr_look _ (br_f h (br_t (Int32.not_lt.mp h) ⟨rfl, zr_T _ _⟩))
theorem zr_four (x : Int32) (h0 : ¬ x < 0) (h4 : ¬ 4 ≤ x) : vp_in x 4 := by
  obtain ⟨j, hj, rfl⟩ := nI_of h0
  rw [show (4 : Int32) = nI 4 from rfl, nI_leI (by omega) hj] at h4
  exact vp_in_nI (by omega) (by omega)
theorem i_vc_varied {k : Nat} {u : SX} {v : SY} (I : i_Rel k u v) (hk : k + 5 ≤ 5) (v1 : Int32) : wpX_varied (fun r u' => wpY_varied (fun r' v' => r' = r ∧ i_Rel (k + 5) u' v') v v1) u v1 := by
  obtain ⟨rfl, rfl⟩ := I (by omega)
  unfold wpX_varied wpY_varied
  refine zr_study _ (br_c (fun h => br_t rfl ?_) (fun h => br_c (fun h4 => br_t rfl ?_) (fun h4 => br_f (by decide) (br_t rfl (br_f (by decide) ⟨zr_four _ h h4, br_t rfl ?_⟩)))))
  · exact zr_look _ (br_t h ⟨rfl, zr_T _ _⟩)
  · exact zr_look _ (br_f h (br_t ((ez_34 _).mpr h4) ⟨rfl, zr_T _ _⟩))
  · exact zr_look _ (br_f h (br_f (fun h3 => h4 ((ez_34 _).mp h3)) (br_t (by decide) ⟨zr_four _ h h4, br_t rfl ⟨rfl, zr_T _ _⟩⟩)))
theorem i_vc_state {k : Nat} {u : SX} {v : SY} (I : i_Rel k u v) (hk : k + 5 ≤ 5) (v1 : Int32) : wpX_state (fun r => wpY_state (fun r' => r' = r ∧ i_Rel (k + 5) u v) v v1) u v1 := by
  obtain ⟨rfl, rfl⟩ := I (by omega)
  refine sa_X _ (fun h => ?_) (fun h => ?_) (fun h => ?_) (fun h => ?_) (fun h => ?_) (fun h => ?_)
  · refine sa_Y _ (fun _ => ⟨rfl, zr_T _ _⟩) ?_ ?_ ?_ ?_ ?_ <;> (intro e; subst e; exact absurd h (by decide))
  all_goals
    subst h
    refine sa_Y _ (fun h => absurd h (by decide)) ?_ ?_ ?_ ?_ ?_ <;> exact fun _ => ⟨rfl, zr_T _ _⟩
theorem i_vc_out {k : Nat} {u : SX} {v : SY} (I : i_Rel k u v) (hk : k + 5 ≤ 5) (v1 : Int32) (v2 : Int32) : wpX_out (fun r => wpY_out (fun r' => r' = r ∧ i_Rel (k + 5) u v) v v1 v2) u v1 v2 := by
  obtain ⟨rfl, rfl⟩ := I (by omega)
  refine ou_X _ _ (fun h => ?_) (fun l k hl hk e1 e2 => ?_)
  · exact ou_Y _ _ (fun _ => ⟨rfl, zr_T _ _⟩) (fun _ _ _ _ _ _ => ⟨rfl, zr_T _ _⟩)
  · exact ou_Y _ _ (fun _ => ⟨rfl, zr_T _ _⟩) (fun _ _ _ _ _ _ => ⟨rfl, zr_T _ _⟩)
theorem i_vc_kept {k : Nat} {u : SX} {v : SY} (I : i_Rel k u v) (hk : k + 5 ≤ 5) (v1 : Int32) (v2 : Int32) : wpX_kept (fun r => wpY_kept (fun r' => r' = r ∧ i_Rel (k + 5) u v) v v1 v2) u v1 v2 := by
  obtain ⟨rfl, rfl⟩ := I (by omega)
  refine ke_X _ _ (fun h => ?_) (fun l k hl hk e1 e2 => ?_) (fun l k hl hk e1 e2 => ?_) <;> exact ke_Y _ _ (fun _ => ⟨rfl, zr_T _ _⟩) (fun _ _ _ _ _ _ => ⟨rfl, zr_T _ _⟩) (fun _ _ _ _ _ _ => ⟨rfl, zr_T _ _⟩)
theorem i_vc_add {k : Nat} {u : SX} {v : SY} (I : i_Rel k u v) (hk : k + 5 ≤ 5) (v1 : Int32) (v2 : Int32) (v3 : Int32) (v4 : Int32) : wpX_add (fun r u' => wpY_add (fun r' v' => r' = r ∧ i_Rel (k + 5) u' v') v v1 v2 v3 v4) u v1 v2 v3 v4 := by
  obtain ⟨rfl, rfl⟩ := I (by omega)
  refine ad_X (n := 0) (by omega) v1 v2 v3 v4 (fun h => ?_) (fun h h2 => absurd h2 (by omega)) (fun h h2 => ?_)
  · exact ad_Y (n := 0) (by omega) v1 v2 v3 v4 (fun _ => ⟨rfl, zr_T _ _⟩) (fun h2 => absurd h h2) (fun h2 => absurd h h2)
  · exact ad_Y (n := 0) (by omega) v1 v2 v3 v4 (fun h2 => absurd h2 h) (fun _ h3 => absurd h3 (by omega)) (fun _ _ => ⟨rfl, zr_T _ _⟩)
theorem i_vc_input {k : Nat} {u : SX} {v : SY} (I : i_Rel k u v) (hk : k + 5 ≤ 5) (v1 : Int32) (v2 : Int32) (v3 : Int32) : wpX_input (fun r u' => wpY_input (fun r' v' => r' = r ∧ i_Rel (k + 5) u' v') v v1 v2 v3) u v1 v2 v3 := by
  obtain ⟨rfl, rfl⟩ := I (by omega)
  have no : ∀ {p : Int32} {l : Nat}, l < 4 → p = nI l → (p < 0 ∨ 4 ≤ p) → False := fun hl e h => by
    subst e; exact h.elim (ez_n4 hl).1 (ez_n4 hl).2.1
  refine in_X _ _ _ (fun h => ?_) (fun l k hl hk e1 e2 => ?_)
  · exact in_Y _ _ _ (fun _ => ⟨rfl, zr_T _ _⟩) (fun l k hl hk e1 e2 => absurd h (fun h => h.elim (no hl e1) (no hk e2)))
  · exact in_Y _ _ _ (fun h => absurd h (fun h => h.elim (no hl e1) (no hk e2))) (fun _ _ _ _ _ _ => ⟨rfl, zr_T _ _⟩)
theorem i_vc_run {k : Nat} {u : SX} {v : SY} (I : i_Rel k u v) (hk : k + 5 ≤ 5) (v1 : Int32) : wpX_run (fun r u' => wpY_run (fun r' v' => r' = r ∧ i_Rel (k + 5) u' v') v (lw_bz v1)) u (lw_bz v1) := by
  obtain ⟨rfl, rfl⟩ := I (by omega)
  unfold wpX_run wpY_run
  refine zr_study _ (br_t rfl (cr_X ⟨lw_bz_n _, ?_, ⟨1, br_f (by decide) (br_t (by decide) ⟨1, br_f (by decide) (br_t (by decide) (br_t (by decide) ?_))⟩)⟩⟩))
  · rcases lw_bz_01 v1 with h | h <;> rw [h] <;> decide
  · exact zr_look _ (br_t (by decide) (cr_Y ⟨1, br_f (by decide) ⟨1, br_t (by decide) (br_t rfl ⟨rfl, zr_T _ _⟩)⟩⟩))
end
