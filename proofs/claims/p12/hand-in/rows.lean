section
theorem pk_us {f : Nat → Int32} {k : Nat} {x : Int32} : upd f k x k = x := if_pos rfl
theorem pk_un {f : Nat → Int32} {k j : Nat} {x : Int32} (h : j ≠ k) : upd f k x j = f j := if_neg h
theorem pk_sub {a b : Nat} (h : b ≤ a) : nI a - nI b = nI (a - b) := by
  obtain ⟨c, rfl⟩ : ∃ c, a = c + b := ⟨a - b, by omega⟩
  rw [← nI_add, Int32.add_sub_cancel, Nat.add_sub_cancel]
theorem pk_m1 (n : Nat) : nI (n + 1) + (-1) = nI n := by
  rw [← nI_1, Int32.add_assoc, show (1 : Int32) + (-1) = 0 from rfl, Int32.add_zero]
theorem pk_mul (a b : Nat) : nI a * nI b = nI (a * b) := (Int32.ofNat_mul a b).symm
theorem pk_div {a d : Nat} (ha : a < 2 ^ 31) (h0 : 0 < d) (hd : d < 2 ^ 31) : nI a / nI d = nI (a / d) := by
  apply Int32.toInt_inj.mp
  rw [lg_idiv_nonneg (by rw [nI_toInt ha]; omega) (by rw [nI_toInt hd]; omega), nI_toInt ha, nI_toInt hd, nI_toInt (Nat.lt_of_le_of_lt (Nat.div_le_self a d) ha)]
  first | rfl | exact (Int.natCast_ediv _ _).symm
theorem pk_rem {a d : Nat} (ha : a < 2 ^ 31) (h0 : 0 < d) (hd : d < 2 ^ 31) : nI a - nI a / nI d * nI d = nI (a % d) := by
  rw [pk_div ha h0 hd, pk_mul, pk_sub (Nat.div_mul_le_self a d)]
  exact congrArg nI (by have := Nat.div_add_mod' a d; omega)
theorem pk_sub_toInt {a b : Nat} (ha : a < 2 ^ 30) (hb : b < 2 ^ 30) : (nI a - nI b).toInt = (a : Int) - b := by
  rw [Int32.toInt_sub, nI_toInt (by omega), nI_toInt (by omega)]
  exact Int.bmod_eq_of_le (by omega) (by omega)
theorem pk_sneg {a b : Nat} (hb : b < 2 ^ 30) (h : a < b) : nI a - nI b < 0 := by
  rw [Int32.lt_iff_toInt_lt, pk_sub_toInt (by omega) hb, show (0 : Int32).toInt = 0 from by decide]
  omega
theorem pk_ix (x : Int32) {n : Nat} (hn : n < 2 ^ 31) : x < 0 ∨ nI n ≤ x ∨ ∃ j : Nat, j < n ∧ x = nI j := by
  by_cases h : x < 0
  · exact Or.inl h
  · obtain ⟨j, hj, rfl⟩ := nI_of h
    by_cases h2 : j < n
    · exact Or.inr (Or.inr ⟨j, h2, rfl⟩)
    · exact Or.inr (Or.inl (nI_le (by omega) hj))
theorem pk_le {x y : Int32} {A B : Prop} (a b : Nat) (f : a ≤ b → A) (g : b < a → B) (hx : x = nI a := by rfl) (hy : y = nI b := by rfl) (ha : a < 2 ^ 31 := by omega) (hb : b < 2 ^ 31 := by omega) : (x ≤ y → A) ∧ (¬ x ≤ y → B) := by
  subst hx hy
  rw [nI_leI ha hb]
  exact ⟨f, fun z => g (by omega)⟩
theorem pk_lt {x y : Int32} {A B : Prop} (a b : Nat) (f : a < b → A) (g : b ≤ a → B) (hx : x = nI a := by rfl) (hy : y = nI b := by rfl) (ha : a < 2 ^ 31 := by omega) (hb : b < 2 ^ 31 := by omega) : (x < y → A) ∧ (¬ x < y → B) := by
  subst hx hy
  rw [nI_ltI ha hb]
  exact ⟨f, fun z => g (by omega)⟩
theorem pk_eq {x y : Int32} {A B : Prop} (a b : Nat) (f : a = b → A) (g : a ≠ b → B) (hx : x = nI a := by rfl) (hy : y = nI b := by rfl) (ha : a < 2 ^ 31 := by omega) (hb : b < 2 ^ 31 := by omega) : (x = y → A) ∧ (¬ x = y → B) := by
  subst hx hy
  rw [nI_eq ha hb]
  exact ⟨f, g⟩
theorem pk_in {x : Int32} (n N : Nat) (h : n < N) (hx : x = nI n := by rfl) (hN : N < 2 ^ 31 := by omega) : vp_in x N := by
  subst hx
  exact vp_in_nI h hN
theorem pk_cl {x : Int32} (n : Nat) (hx : x = nI n := by rfl) (h : n < 2 ^ 31 := by omega) : x.toNatClampNeg = n := by
  subst hx
  exact nI_clamp h
theorem pk_tn {n : Nat} (h : n < 2 ^ 32) : (nI n).toBitVec.toNat = n := Nat.mod_eq_of_lt h
theorem pk_and (x : Int32) {m : Int32} (k : Nat) (hm : m.toBitVec.toNat = 2 ^ k - 1) : x &&& m = nI (x.toBitVec.toNat % 2 ^ k) := by
  apply Int32.toBitVec_inj.mp
  apply BitVec.eq_of_toNat_eq
  rw [Int32.toBitVec_and, BitVec.toNat_and, hm, Nat.and_two_pow_sub_one_eq_mod]
  show _ = (BitVec.ofNat 32 _).toNat
  rw [BitVec.toNat_ofNat]
  exact (Nat.mod_eq_of_lt (Nat.lt_of_le_of_lt (Nat.mod_le _ _) x.toBitVec.isLt)).symm
theorem pk_andN {n : Nat} (h : n < 2 ^ 32) {m : Int32} (k : Nat) (hm : m.toBitVec.toNat = 2 ^ k - 1) : nI n &&& m = nI (n % 2 ^ k) := by
  rw [pk_and _ k hm, pk_tn h]
theorem pk_andE (x : Int32) {m : Int32} (k : Nat) (hm : m.toBitVec.toNat = 2 ^ k - 1) : ∃ j : Nat, j < 2 ^ k ∧ x &&& m = nI j := ⟨_, Nat.mod_lt _ (Nat.two_pow_pos k), pk_and x k hm⟩
theorem pk_andIn (x : Int32) {m : Int32} (k : Nat) (hm : m.toBitVec.toNat = 2 ^ k - 1) (hk : k ≤ 30) : vp_in (x &&& m) (2 ^ k) := by
  obtain ⟨j, hj, e⟩ := pk_andE x k hm
  rw [e]
  exact vp_in_nI hj (Nat.lt_of_le_of_lt (Nat.pow_le_pow_right (by decide) hk) (by decide))
theorem pk_shl (a s : Int32) (k : Nat) (hs : (s.toBitVec.smod 32).toNat = k) : (a <<< s).toBitVec.toNat = a.toBitVec.toNat * 2 ^ k % 2 ^ 32 := by
  show (a.toBitVec <<< (s.toBitVec.smod 32).toNat).toNat = _
  rw [hs, BitVec.toNat_shiftLeft, Nat.shiftLeft_eq]
theorem pk_shlN {n : Nat} (s : Int32) (k : Nat) (hs : (s.toBitVec.smod 32).toNat = k) (h : n * 2 ^ k < 2 ^ 32) : nI n <<< s = nI (n * 2 ^ k) := by
  apply Int32.toBitVec_inj.mp
  apply BitVec.eq_of_toNat_eq
  have hn : n < 2 ^ 32 := Nat.lt_of_le_of_lt (Nat.le_mul_of_pos_right n (Nat.two_pow_pos k)) h
  rw [pk_shl _ _ k hs, pk_tn hn, pk_tn h, Nat.mod_eq_of_lt h]
theorem pk_shr (a s : Int32) (k : Nat) (hs : (s.toBitVec.smod 32).toNat = k) : (a >>> s).toInt = a.toInt >>> k := by
  show (a.toBitVec.sshiftRight (s.toBitVec.smod 32).toNat).toInt = _
  rw [hs, BitVec.toInt_sshiftRight]
  rfl
theorem pk_shrN {n : Nat} (h : n < 2 ^ 31) (s : Int32) (k : Nat) (hs : (s.toBitVec.smod 32).toNat = k) : nI n >>> s = nI (n / 2 ^ k) := by
  apply Int32.toInt_inj.mp
  have h2 : n / 2 ^ k ≤ n := Nat.div_le_self _ _
  rw [pk_shr _ _ k hs, nI_toInt h, nI_toInt (by omega), Int.shiftRight_eq_div_pow]
  rfl
theorem pk_ushr (x s : Int32) (k : Nat) (hs : ((s.toUInt32 &&& Int32.toUInt32 31).toBitVec % 32).toNat = k) : (x.toUInt32 >>> (s.toUInt32 &&& Int32.toUInt32 31)).toInt32.toBitVec.toNat = x.toBitVec.toNat / 2 ^ k := by
  have e : (x.toUInt32 >>> (s.toUInt32 &&& Int32.toUInt32 31)).toInt32.toBitVec = x.toBitVec >>> k := by
    rw [← hs]
    exact UInt32.toBitVec_shiftRight _ _
  rw [e, BitVec.toNat_ushiftRight, Nat.shiftRight_eq_div_pow]
theorem pk_ushrN {n : Nat} (hn : n < 2 ^ 32) (s : Int32) (k : Nat) (hs : ((s.toUInt32 &&& Int32.toUInt32 31).toBitVec % 32).toNat = k) : ((nI n).toUInt32 >>> (s.toUInt32 &&& Int32.toUInt32 31)).toInt32 = nI (n / 2 ^ k) := by
  apply Int32.toBitVec_inj.mp
  apply BitVec.eq_of_toNat_eq
  rw [pk_ushr _ s k hs, pk_tn hn, pk_tn (Nat.lt_of_le_of_lt (Nat.div_le_self _ _) hn)]
theorem pk_loop {σ : Type} (W : Nat → Nat → σ → Prop) (I : Nat → σ → Prop) (e i0 : Nat) (s : σ) (hi : i0 ≤ e) (h0 : I i0 s) (hx : ∀ n s, I e s → W (n + 1) e s)
    (hs : ∀ n i s, i < e → I i s → (∀ s', I (i + 1) s' → W n (i + 1) s') → W (n + 1) i s) : ∃ n, W n i0 s :=
  ⟨e + 1, loop_i W I e hx hs (e + 1) i0 s hi (by omega) h0⟩
theorem pk_loopD {σ : Type} (W : Nat → Nat → σ → Prop) (I : Nat → σ → Prop) (hx : ∀ n s, I 0 s → W (n + 1) 0 s)
    (hs : ∀ n i s, I (i + 1) s → (∀ s', I i s' → W n i s') → W (n + 1) (i + 1) s) : ∀ (e : Nat) (s : σ), I e s → W (e + 1) e s := by
  intro e
  induction e with
  | zero => exact fun s h => hx 0 s h
  | succ e ih => exact fun s h => hs (e + 1) e s h (fun s' h' => ih s' h')
theorem lp1 {A1 : Type} (W : Nat → A1 → Prop) (I : A1 → Prop) (μ : A1 → Nat) (hs : ∀ (n : Nat) (a1 : A1), I a1 → (∀ (b1 : A1), I b1 → μ b1 < μ a1 → W n b1) → W (n + 1) a1) (a1 : A1) (h : I a1) : ∃ n, W n a1 :=
  loop_m (σ := A1) (fun n s => W n s) (fun s => I s) (fun s => μ s) (fun n s hI hk => hs n s hI (fun b1 h9 hm => hk b1 h9 hm)) a1 h
theorem lp2 {A1 A2 : Type} (W : Nat → A1 → A2 → Prop) (I : A1 → A2 → Prop) (μ : A1 → A2 → Nat) (hs : ∀ (n : Nat) (a1 : A1) (a2 : A2), I a1 a2 → (∀ (b1 : A1) (b2 : A2), I b1 b2 → μ b1 b2 < μ a1 a2 → W n b1 b2) → W (n + 1) a1 a2) (a1 : A1) (a2 : A2) (h : I a1 a2) : ∃ n, W n a1 a2 :=
  loop_m (σ := A1 × A2) (fun n s => W n s.1 s.2) (fun s => I s.1 s.2) (fun s => μ s.1 s.2) (fun n s hI hk => hs n s.1 s.2 hI (fun b1 b2 h9 hm => hk (b1, b2) h9 hm)) (a1, a2) h
theorem lp3 {A1 A2 A3 : Type} (W : Nat → A1 → A2 → A3 → Prop) (I : A1 → A2 → A3 → Prop) (μ : A1 → A2 → A3 → Nat) (hs : ∀ (n : Nat) (a1 : A1) (a2 : A2) (a3 : A3), I a1 a2 a3 → (∀ (b1 : A1) (b2 : A2) (b3 : A3), I b1 b2 b3 → μ b1 b2 b3 < μ a1 a2 a3 → W n b1 b2 b3) → W (n + 1) a1 a2 a3) (a1 : A1) (a2 : A2) (a3 : A3) (h : I a1 a2 a3) : ∃ n, W n a1 a2 a3 :=
  loop_m (σ := A1 × A2 × A3) (fun n s => W n s.1 s.2.1 s.2.2) (fun s => I s.1 s.2.1 s.2.2) (fun s => μ s.1 s.2.1 s.2.2) (fun n s hI hk => hs n s.1 s.2.1 s.2.2 hI (fun b1 b2 b3 h9 hm => hk (b1, b2, b3) h9 hm)) (a1, a2, a3) h
theorem lp4 {A1 A2 A3 A4 : Type} (W : Nat → A1 → A2 → A3 → A4 → Prop) (I : A1 → A2 → A3 → A4 → Prop) (μ : A1 → A2 → A3 → A4 → Nat) (hs : ∀ (n : Nat) (a1 : A1) (a2 : A2) (a3 : A3) (a4 : A4), I a1 a2 a3 a4 → (∀ (b1 : A1) (b2 : A2) (b3 : A3) (b4 : A4), I b1 b2 b3 b4 → μ b1 b2 b3 b4 < μ a1 a2 a3 a4 → W n b1 b2 b3 b4) → W (n + 1) a1 a2 a3 a4) (a1 : A1) (a2 : A2) (a3 : A3) (a4 : A4) (h : I a1 a2 a3 a4) : ∃ n, W n a1 a2 a3 a4 :=
  loop_m (σ := A1 × A2 × A3 × A4) (fun n s => W n s.1 s.2.1 s.2.2.1 s.2.2.2) (fun s => I s.1 s.2.1 s.2.2.1 s.2.2.2) (fun s => μ s.1 s.2.1 s.2.2.1 s.2.2.2) (fun n s hI hk => hs n s.1 s.2.1 s.2.2.1 s.2.2.2 hI (fun b1 b2 b3 b4 h9 hm => hk (b1, b2, b3, b4) h9 hm)) (a1, a2, a3, a4) h
theorem lp5 {A1 A2 A3 A4 A5 : Type} (W : Nat → A1 → A2 → A3 → A4 → A5 → Prop) (I : A1 → A2 → A3 → A4 → A5 → Prop) (μ : A1 → A2 → A3 → A4 → A5 → Nat) (hs : ∀ (n : Nat) (a1 : A1) (a2 : A2) (a3 : A3) (a4 : A4) (a5 : A5), I a1 a2 a3 a4 a5 → (∀ (b1 : A1) (b2 : A2) (b3 : A3) (b4 : A4) (b5 : A5), I b1 b2 b3 b4 b5 → μ b1 b2 b3 b4 b5 < μ a1 a2 a3 a4 a5 → W n b1 b2 b3 b4 b5) → W (n + 1) a1 a2 a3 a4 a5) (a1 : A1) (a2 : A2) (a3 : A3) (a4 : A4) (a5 : A5) (h : I a1 a2 a3 a4 a5) : ∃ n, W n a1 a2 a3 a4 a5 :=
  loop_m (σ := A1 × A2 × A3 × A4 × A5) (fun n s => W n s.1 s.2.1 s.2.2.1 s.2.2.2.1 s.2.2.2.2) (fun s => I s.1 s.2.1 s.2.2.1 s.2.2.2.1 s.2.2.2.2) (fun s => μ s.1 s.2.1 s.2.2.1 s.2.2.2.1 s.2.2.2.2) (fun n s hI hk => hs n s.1 s.2.1 s.2.2.1 s.2.2.2.1 s.2.2.2.2 hI (fun b1 b2 b3 b4 b5 h9 hm => hk (b1, b2, b3, b4, b5) h9 hm)) (a1, a2, a3, a4, a5) h
theorem lp6 {A1 A2 A3 A4 A5 A6 : Type} (W : Nat → A1 → A2 → A3 → A4 → A5 → A6 → Prop) (I : A1 → A2 → A3 → A4 → A5 → A6 → Prop) (μ : A1 → A2 → A3 → A4 → A5 → A6 → Nat) (hs : ∀ (n : Nat) (a1 : A1) (a2 : A2) (a3 : A3) (a4 : A4) (a5 : A5) (a6 : A6), I a1 a2 a3 a4 a5 a6 → (∀ (b1 : A1) (b2 : A2) (b3 : A3) (b4 : A4) (b5 : A5) (b6 : A6), I b1 b2 b3 b4 b5 b6 → μ b1 b2 b3 b4 b5 b6 < μ a1 a2 a3 a4 a5 a6 → W n b1 b2 b3 b4 b5 b6) → W (n + 1) a1 a2 a3 a4 a5 a6) (a1 : A1) (a2 : A2) (a3 : A3) (a4 : A4) (a5 : A5) (a6 : A6) (h : I a1 a2 a3 a4 a5 a6) : ∃ n, W n a1 a2 a3 a4 a5 a6 :=
  loop_m (σ := A1 × A2 × A3 × A4 × A5 × A6) (fun n s => W n s.1 s.2.1 s.2.2.1 s.2.2.2.1 s.2.2.2.2.1 s.2.2.2.2.2) (fun s => I s.1 s.2.1 s.2.2.1 s.2.2.2.1 s.2.2.2.2.1 s.2.2.2.2.2) (fun s => μ s.1 s.2.1 s.2.2.1 s.2.2.2.1 s.2.2.2.2.1 s.2.2.2.2.2) (fun n s hI hk => hs n s.1 s.2.1 s.2.2.1 s.2.2.2.1 s.2.2.2.2.1 s.2.2.2.2.2 hI (fun b1 b2 b3 b4 b5 b6 h9 hm => hk (b1, b2, b3, b4, b5, b6) h9 hm)) (a1, a2, a3, a4, a5, a6) h
theorem lp7 {A1 A2 A3 A4 A5 A6 A7 : Type} (W : Nat → A1 → A2 → A3 → A4 → A5 → A6 → A7 → Prop) (I : A1 → A2 → A3 → A4 → A5 → A6 → A7 → Prop) (μ : A1 → A2 → A3 → A4 → A5 → A6 → A7 → Nat) (hs : ∀ (n : Nat) (a1 : A1) (a2 : A2) (a3 : A3) (a4 : A4) (a5 : A5) (a6 : A6) (a7 : A7), I a1 a2 a3 a4 a5 a6 a7 → (∀ (b1 : A1) (b2 : A2) (b3 : A3) (b4 : A4) (b5 : A5) (b6 : A6) (b7 : A7), I b1 b2 b3 b4 b5 b6 b7 → μ b1 b2 b3 b4 b5 b6 b7 < μ a1 a2 a3 a4 a5 a6 a7 → W n b1 b2 b3 b4 b5 b6 b7) → W (n + 1) a1 a2 a3 a4 a5 a6 a7) (a1 : A1) (a2 : A2) (a3 : A3) (a4 : A4) (a5 : A5) (a6 : A6) (a7 : A7) (h : I a1 a2 a3 a4 a5 a6 a7) : ∃ n, W n a1 a2 a3 a4 a5 a6 a7 :=
  loop_m (σ := A1 × A2 × A3 × A4 × A5 × A6 × A7) (fun n s => W n s.1 s.2.1 s.2.2.1 s.2.2.2.1 s.2.2.2.2.1 s.2.2.2.2.2.1 s.2.2.2.2.2.2) (fun s => I s.1 s.2.1 s.2.2.1 s.2.2.2.1 s.2.2.2.2.1 s.2.2.2.2.2.1 s.2.2.2.2.2.2) (fun s => μ s.1 s.2.1 s.2.2.1 s.2.2.2.1 s.2.2.2.2.1 s.2.2.2.2.2.1 s.2.2.2.2.2.2) (fun n s hI hk => hs n s.1 s.2.1 s.2.2.1 s.2.2.2.1 s.2.2.2.2.1 s.2.2.2.2.2.1 s.2.2.2.2.2.2 hI (fun b1 b2 b3 b4 b5 b6 b7 h9 hm => hk (b1, b2, b3, b4, b5, b6, b7) h9 hm)) (a1, a2, a3, a4, a5, a6, a7) h
theorem lp8 {A1 A2 A3 A4 A5 A6 A7 A8 : Type} (W : Nat → A1 → A2 → A3 → A4 → A5 → A6 → A7 → A8 → Prop) (I : A1 → A2 → A3 → A4 → A5 → A6 → A7 → A8 → Prop) (μ : A1 → A2 → A3 → A4 → A5 → A6 → A7 → A8 → Nat) (hs : ∀ (n : Nat) (a1 : A1) (a2 : A2) (a3 : A3) (a4 : A4) (a5 : A5) (a6 : A6) (a7 : A7) (a8 : A8), I a1 a2 a3 a4 a5 a6 a7 a8 → (∀ (b1 : A1) (b2 : A2) (b3 : A3) (b4 : A4) (b5 : A5) (b6 : A6) (b7 : A7) (b8 : A8), I b1 b2 b3 b4 b5 b6 b7 b8 → μ b1 b2 b3 b4 b5 b6 b7 b8 < μ a1 a2 a3 a4 a5 a6 a7 a8 → W n b1 b2 b3 b4 b5 b6 b7 b8) → W (n + 1) a1 a2 a3 a4 a5 a6 a7 a8) (a1 : A1) (a2 : A2) (a3 : A3) (a4 : A4) (a5 : A5) (a6 : A6) (a7 : A7) (a8 : A8) (h : I a1 a2 a3 a4 a5 a6 a7 a8) : ∃ n, W n a1 a2 a3 a4 a5 a6 a7 a8 :=
  loop_m (σ := A1 × A2 × A3 × A4 × A5 × A6 × A7 × A8) (fun n s => W n s.1 s.2.1 s.2.2.1 s.2.2.2.1 s.2.2.2.2.1 s.2.2.2.2.2.1 s.2.2.2.2.2.2.1 s.2.2.2.2.2.2.2) (fun s => I s.1 s.2.1 s.2.2.1 s.2.2.2.1 s.2.2.2.2.1 s.2.2.2.2.2.1 s.2.2.2.2.2.2.1 s.2.2.2.2.2.2.2) (fun s => μ s.1 s.2.1 s.2.2.1 s.2.2.2.1 s.2.2.2.2.1 s.2.2.2.2.2.1 s.2.2.2.2.2.2.1 s.2.2.2.2.2.2.2) (fun n s hI hk => hs n s.1 s.2.1 s.2.2.1 s.2.2.2.1 s.2.2.2.2.1 s.2.2.2.2.2.1 s.2.2.2.2.2.2.1 s.2.2.2.2.2.2.2 hI (fun b1 b2 b3 b4 b5 b6 b7 b8 h9 hm => hk (b1, b2, b3, b4, b5, b6, b7, b8) h9 hm)) (a1, a2, a3, a4, a5, a6, a7, a8) h
theorem pk_least (P : Nat → Prop) (h : ∃ k, P k) : ∃ k, P k ∧ ∀ j, j < k → ¬ P j := by
  obtain ⟨k, hk⟩ := h
  induction k using Nat.strongRecOn with
  | ind k ih =>
    by_cases e : ∃ j, j < k ∧ P j
    · obtain ⟨j, hj, pj⟩ := e
      exact ih j hj pj
    · exact ⟨k, hk, fun j hj pj => e ⟨j, hj, pj⟩⟩
end
section
section
variable {f_lines f_studied f_wrong f_wrongAt f_brief f_on f_dropped f_steps f_nextLine f_repeats : Int32} {a_kinds a_firsts a_seconds a_thirds a_inputs a_home a_depth a_closer a_mate a_operands a_varies a_parted a_variableVaries a_same a_fixed a_worth a_needed a_variableNeeded a_values a_variables a_outputs a_cells a_whole a_waiting : Nat → Int32}
variable {yf_lines yf_known yf_wrong yf_place yf_blocks yf_steps yf_dropped yf_on yf_next yf_again yf_depth : Int32} {ya_ops ya_as ya_bs ya_cs ya_blockOf ya_opener ya_around ya_other ya_end ya_open ya_varied ya_loose ya_variedVariable ya_stands ya_number ya_isConst ya_needed ya_inputs ya_values ya_variables ya_cells ya_outs ya_was ya_rest ya_line : Nat → Int32}
theorem nm_c {f : Nat → Int32} {x y : Int32} {i : Nat} {P : Int32 → Prop} (hc : x.toNatClampNeg = i) (hf : f i = y) (h : P y) : ∀ z, z = f x.toNatClampNeg → P z := by
  intro z e; rw [e, hc, hf]; exact h
theorem ez_34 (x : Int32) : 3 < x ↔ 4 ≤ x := by
  rw [Int32.lt_iff_toInt_lt, Int32.le_iff_toInt_le]
  have h3 : (3 : Int32).toInt = 3 := by decide
  have h4 : (4 : Int32).toInt = 4 := by decide
  omega
theorem ez_78 (x : Int32) : 7 < x ↔ 8 ≤ x := by
  rw [Int32.lt_iff_toInt_lt, Int32.le_iff_toInt_le]
  have h3 : (7 : Int32).toInt = 7 := by decide
  have h4 : (8 : Int32).toInt = 8 := by decide
  omega
theorem ez_12 (x : Int32) : 1 < x ↔ 2 ≤ x := by
  rw [Int32.lt_iff_toInt_lt, Int32.le_iff_toInt_le]
  have h3 : (1 : Int32).toInt = 1 := by decide
  have h4 : (2 : Int32).toInt = 2 := by decide
  omega
/-- one of four or not -/
theorem ez_4 (x : Int32) : (x < 0 ∨ 4 ≤ x) ∨ ∃ j : Nat, j < 4 ∧ x = nI j := by
  rcases pk_ix x (n := 4) (by omega) with h | h | h
  · exact Or.inl (Or.inl h)
  · exact Or.inl (Or.inr h)
  · exact Or.inr h
theorem ez_n4 {j : Nat} (hj : j < 4) : ¬ nI j < 0 ∧ ¬ 4 ≤ nI j ∧ ¬ 3 < nI j ∧ nI j ≤ 3 :=
  ⟨nI_pos (by omega), nI_ge (b := 4) hj (by decide), nI_nlt (a := 3) (b := j) (by omega) (by decide), nI_le (b := 3) (by omega) (by decide)⟩
theorem ez_four {post : Int32 → Prop} {x : Int32} (hb : (x < 0 ∨ 4 ≤ x) → post 0) (hg : ∀ j : Nat, j < 4 → x = nI j → post 1) : wpX_isOneOfFour post x := by
  rcases ez_4 x with h | ⟨j, hj, rfl⟩
  · rcases h with h | h
    · exact br_t h (hb (Or.inl h))
    · exact br_c (fun h' => hb (Or.inl h')) (fun _ => br_t h (hb (Or.inr h)))
  · exact br_f (ez_n4 hj).1 (br_f (ez_n4 hj).2.1 (hg j hj rfl))
def ad_Bad (op a : Int32) : Prop := op < 0 ∨ 25 < op ∨ ((op = 1 ∨ op = 11 ∨ op = 16 ∨ op = 17 ∨ op = 18) ∧ (a < 0 ∨ 4 ≤ a))
theorem ad_X62 {post : Int32 → SX → Prop} {n : Nat} (h48 : n ≤ 48) (op a b c : Int32) (hf : n = 48 → post (-2) (nI n, f_studied, f_wrong, f_wrongAt, f_brief, f_on, f_dropped, f_steps, f_nextLine, f_repeats, a_kinds, a_firsts, a_seconds, a_thirds, a_inputs, a_home, a_depth, a_closer, a_mate, a_operands, a_varies, a_parted, a_variableVaries, a_same, a_fixed, a_worth, a_needed, a_variableNeeded, a_values, a_variables, a_outputs, a_cells, a_whole, a_waiting)) (hg : n < 48 → post (nI n) (nI (n+1), 0, f_wrong, f_wrongAt, f_brief, f_on, f_dropped, f_steps, f_nextLine, f_repeats, upd a_kinds n op, upd a_firsts n a, upd a_seconds n b, upd a_thirds n c, a_inputs, a_home, a_depth, a_closer, a_mate, a_operands, a_varies, a_parted, a_variableVaries, a_same, a_fixed, a_worth, a_needed, a_variableNeeded, a_values, a_variables, a_outputs, a_cells, a_whole, a_waiting)) : wX_add_62 post op a b c (nI n) f_studied f_wrong f_wrongAt f_brief f_on f_dropped f_steps f_nextLine f_repeats a_kinds a_firsts a_seconds a_thirds a_inputs a_home a_depth a_closer a_mate a_operands a_varies a_parted a_variableVaries a_same a_fixed a_worth a_needed a_variableNeeded a_values a_variables a_outputs a_cells a_whole a_waiting := by
  have hc : (nI n).toNatClampNeg = n := nI_clamp (by omega)
  refine pk_lt n 48 (fun h => ?_) (fun h => hf (by omega))
  have hi : vp_in (nI n) 48 := vp_in_nI h (by omega)
  refine ⟨hi, nm_r (by rw [hc]) ⟨hi, nm_r (by rw [hc]) ⟨hi, nm_r (by rw [hc]) ⟨hi, nm_r (by rw [hc]) (nm_r (nI_1 n) ?_)⟩⟩⟩⟩
  rw [nI_pred]
  exact hg h
theorem ad_X {post : Int32 → SX → Prop} {n : Nat} (h48 : n ≤ 48) (op a b c : Int32) (hb : ad_Bad op a → post (-1) (nI n, f_studied, f_wrong, f_wrongAt, f_brief, f_on, f_dropped, f_steps, f_nextLine, f_repeats, a_kinds, a_firsts, a_seconds, a_thirds, a_inputs, a_home, a_depth, a_closer, a_mate, a_operands, a_varies, a_parted, a_variableVaries, a_same, a_fixed, a_worth, a_needed, a_variableNeeded, a_values, a_variables, a_outputs, a_cells, a_whole, a_waiting)) (hf : ¬ ad_Bad op a → n = 48 → post (-2) (nI n, f_studied, f_wrong, f_wrongAt, f_brief, f_on, f_dropped, f_steps, f_nextLine, f_repeats, a_kinds, a_firsts, a_seconds, a_thirds, a_inputs, a_home, a_depth, a_closer, a_mate, a_operands, a_varies, a_parted, a_variableVaries, a_same, a_fixed, a_worth, a_needed, a_variableNeeded, a_values, a_variables, a_outputs, a_cells, a_whole, a_waiting)) (hg : ¬ ad_Bad op a → n < 48 → post (nI n) (nI (n+1), 0, f_wrong, f_wrongAt, f_brief, f_on, f_dropped, f_steps, f_nextLine, f_repeats, upd a_kinds n op, upd a_firsts n a, upd a_seconds n b, upd a_thirds n c, a_inputs, a_home, a_depth, a_closer, a_mate, a_operands, a_varies, a_parted, a_variableVaries, a_same, a_fixed, a_worth, a_needed, a_variableNeeded, a_values, a_variables, a_outputs, a_cells, a_whole, a_waiting)) : wpX_add post (nI n, f_studied, f_wrong, f_wrongAt, f_brief, f_on, f_dropped, f_steps, f_nextLine, f_repeats, a_kinds, a_firsts, a_seconds, a_thirds, a_inputs, a_home, a_depth, a_closer, a_mate, a_operands, a_varies, a_parted, a_variableVaries, a_same, a_fixed, a_worth, a_needed, a_variableNeeded, a_values, a_variables, a_outputs, a_cells, a_whole, a_waiting) op a b c := by
  have few : 0 ≤ op → op ≤ 25 → (op = 1 ∨ op = 11 ∨ op = 16 ∨ op = 17 ∨ op = 18) → wX_add_41 post op a b c (nI n) f_studied f_wrong f_wrongAt f_brief f_on f_dropped f_steps f_nextLine f_repeats a_kinds a_firsts a_seconds a_thirds a_inputs a_home a_depth a_closer a_mate a_operands a_varies a_parted a_variableVaries a_same a_fixed a_worth a_needed a_variableNeeded a_values a_variables a_outputs a_cells a_whole a_waiting := by
    intro h0 h25 hop
    refine br_f (by decide) ?_
    refine ez_four (fun h => br_t rfl (hb (Or.inr (Or.inr ⟨hop, h⟩)))) (fun j hj e => br_f (by decide) ?_)
    have nb : ¬ ad_Bad op a := by
      rintro (h | h | ⟨_, h | h⟩)
      · exact absurd h (Int32.not_lt.mpr h0)
      · exact absurd h (Int32.not_lt.mpr h25)
      · exact (ez_n4 hj).1 (e ▸ h)
      · exact (ez_n4 hj).2.1 (e ▸ h)
    exact ad_X62 h48 op a b c (hf nb) (hg nb)
  refine br_c (fun h => hb (Or.inl h)) (fun h0 => br_c (fun h25 => ?_) (fun h => hb (Or.inr (Or.inl (Int32.not_le.mp h)))))
  have h0' := Int32.not_lt.mp h0
  refine br_c (fun h => few h0' h25 (Or.inl h)) (fun h1 => br_c (fun h => few h0' h25 (Or.inr (Or.inl h))) (fun h11 => br_c (fun h => few h0' h25 (Or.inr (Or.inr (Or.inl h)))) (fun h16 => br_c (fun h => few h0' h25 (Or.inr (Or.inr (Or.inr (Or.inl h))))) (fun h17 => br_c (fun h => few h0' h25 (Or.inr (Or.inr (Or.inr (Or.inr h))))) (fun h18 => ?_)))))
  have nb : ¬ ad_Bad op a := by
    rintro (h | h | ⟨h | h | h | h | h, _⟩)
    · exact h0 h
    · exact absurd h (Int32.not_lt.mpr h25)
    · exact h1 h
    · exact h11 h
    · exact h16 h
    · exact h17 h
    · exact h18 h
  exact br_t rfl (ad_X62 h48 op a b c (hf nb) (hg nb))
theorem ad_Y62 {post : Int32 → SY → Prop} {n : Nat} (h48 : n ≤ 48) (op a b c : Int32) (hf : n = 48 → post (-2) (nI n, yf_known, yf_wrong, yf_place, yf_blocks, yf_steps, yf_dropped, yf_on, yf_next, yf_again, yf_depth, ya_ops, ya_as, ya_bs, ya_cs, ya_blockOf, ya_opener, ya_around, ya_other, ya_end, ya_open, ya_varied, ya_loose, ya_variedVariable, ya_stands, ya_number, ya_isConst, ya_needed, ya_inputs, ya_values, ya_variables, ya_cells, ya_outs, ya_was, ya_rest, ya_line)) (hg : n < 48 → post (nI n) (nI (n+1), 0, yf_wrong, yf_place, yf_blocks, yf_steps, yf_dropped, yf_on, yf_next, yf_again, yf_depth, upd ya_ops n op, upd ya_as n a, upd ya_bs n b, upd ya_cs n c, ya_blockOf, ya_opener, ya_around, ya_other, ya_end, ya_open, ya_varied, ya_loose, ya_variedVariable, ya_stands, ya_number, ya_isConst, ya_needed, ya_inputs, ya_values, ya_variables, ya_cells, ya_outs, ya_was, ya_rest, ya_line)) : wY_add_62 post op a b c (nI n) yf_known yf_wrong yf_place yf_blocks yf_steps yf_dropped yf_on yf_next yf_again yf_depth ya_ops ya_as ya_bs ya_cs ya_blockOf ya_opener ya_around ya_other ya_end ya_open ya_varied ya_loose ya_variedVariable ya_stands ya_number ya_isConst ya_needed ya_inputs ya_values ya_variables ya_cells ya_outs ya_was ya_rest ya_line := by
  have hc : (nI n).toNatClampNeg = n := nI_clamp (by omega)
  refine pk_eq n 48 (fun h => hf (by omega)) (fun h => ?_)
  have hi : vp_in (nI n) 48 := vp_in_nI (by omega) (by omega)
  exact ⟨hi, nm_r (by rw [hc]) ⟨hi, nm_r (by rw [hc]) ⟨hi, nm_r (by rw [hc]) ⟨hi, nm_r (by rw [hc]) (nm_r (nI_1 n) (hg (by omega)))⟩⟩⟩⟩
theorem ad_Y {post : Int32 → SY → Prop} {n : Nat} (h48 : n ≤ 48) (op a b c : Int32) (hb : ad_Bad op a → post (-1) (nI n, yf_known, yf_wrong, yf_place, yf_blocks, yf_steps, yf_dropped, yf_on, yf_next, yf_again, yf_depth, ya_ops, ya_as, ya_bs, ya_cs, ya_blockOf, ya_opener, ya_around, ya_other, ya_end, ya_open, ya_varied, ya_loose, ya_variedVariable, ya_stands, ya_number, ya_isConst, ya_needed, ya_inputs, ya_values, ya_variables, ya_cells, ya_outs, ya_was, ya_rest, ya_line)) (hf : ¬ ad_Bad op a → n = 48 → post (-2) (nI n, yf_known, yf_wrong, yf_place, yf_blocks, yf_steps, yf_dropped, yf_on, yf_next, yf_again, yf_depth, ya_ops, ya_as, ya_bs, ya_cs, ya_blockOf, ya_opener, ya_around, ya_other, ya_end, ya_open, ya_varied, ya_loose, ya_variedVariable, ya_stands, ya_number, ya_isConst, ya_needed, ya_inputs, ya_values, ya_variables, ya_cells, ya_outs, ya_was, ya_rest, ya_line)) (hg : ¬ ad_Bad op a → n < 48 → post (nI n) (nI (n+1), 0, yf_wrong, yf_place, yf_blocks, yf_steps, yf_dropped, yf_on, yf_next, yf_again, yf_depth, upd ya_ops n op, upd ya_as n a, upd ya_bs n b, upd ya_cs n c, ya_blockOf, ya_opener, ya_around, ya_other, ya_end, ya_open, ya_varied, ya_loose, ya_variedVariable, ya_stands, ya_number, ya_isConst, ya_needed, ya_inputs, ya_values, ya_variables, ya_cells, ya_outs, ya_was, ya_rest, ya_line)) : wpY_add post (nI n, yf_known, yf_wrong, yf_place, yf_blocks, yf_steps, yf_dropped, yf_on, yf_next, yf_again, yf_depth, ya_ops, ya_as, ya_bs, ya_cs, ya_blockOf, ya_opener, ya_around, ya_other, ya_end, ya_open, ya_varied, ya_loose, ya_variedVariable, ya_stands, ya_number, ya_isConst, ya_needed, ya_inputs, ya_values, ya_variables, ya_cells, ya_outs, ya_was, ya_rest, ya_line) op a b c := by
  have few : (op = 1 ∨ op = 11 ∨ op = 16 ∨ op = 17 ∨ op = 18) → wY_add_29 post op a b c (nI n) yf_known yf_wrong yf_place yf_blocks yf_steps yf_dropped yf_on yf_next yf_again yf_depth ya_ops ya_as ya_bs ya_cs ya_blockOf ya_opener ya_around ya_other ya_end ya_open ya_varied ya_loose ya_variedVariable ya_stands ya_number ya_isConst ya_needed ya_inputs ya_values ya_variables ya_cells ya_outs ya_was ya_rest ya_line := by
    intro hop
    refine br_c (fun h => hb (Or.inl h)) (fun h0 => br_c (fun h => hb (Or.inr (Or.inl h))) (fun h25 => br_f (by decide) (br_c (fun h => hb (Or.inr (Or.inr ⟨hop, Or.inl h⟩))) (fun ha0 => br_c (fun h3 => ?_) (fun h3 => hb (Or.inr (Or.inr ⟨hop, Or.inr ((ez_34 a).mp (Int32.not_le.mp h3))⟩)))))))
    have nb : ¬ ad_Bad op a := by
      rintro (h | h | ⟨_, h | h⟩)
      · exact h0 h
      · exact h25 h
      · exact ha0 h
      · exact absurd ((ez_34 a).mpr h) (Int32.not_lt.mpr h3)
    exact ad_Y62 h48 op a b c (hf nb) (hg nb)
  refine br_c (fun h => few (Or.inl h)) (fun h1 => br_c (fun h => few (Or.inr (Or.inl h))) (fun h11 => br_c (fun h => few (Or.inr (Or.inr (Or.inl h)))) (fun h16 => br_c (fun h => few (Or.inr (Or.inr (Or.inr (Or.inl h))))) (fun h17 => br_c (fun h => few (Or.inr (Or.inr (Or.inr (Or.inr h))))) (fun h18 => ?_)))))
  refine br_c (fun h => hb (Or.inl h)) (fun h0 => br_c (fun h => hb (Or.inr (Or.inl h))) (fun h25 => br_t rfl ?_))
  have nb : ¬ ad_Bad op a := by
    rintro (h | h | ⟨h | h | h | h | h, _⟩)
    · exact h0 h
    · exact h25 h
    · exact h1 h
    · exact h11 h
    · exact h16 h
    · exact h17 h
    · exact h18 h
  exact ad_Y62 h48 op a b c (hf nb) (hg nb)
/-- input -/
def in_val (a : Nat → Int32) (l k : Nat) (v : Int32) : Nat → Nat → Int32
  | 0 => a
  | i + 1 => if k < 2 ∨ i = l then upd (in_val a l k v i) (i * 4 + k) v else in_val a l k v i
theorem in_X19 {post : Int32 → SX → Prop} {l k : Nat} (hl : l < 4) (hk : k < 4) (v : Int32) (h : post 1 (f_lines, f_studied, f_wrong, f_wrongAt, f_brief, f_on, f_dropped, f_steps, f_nextLine, f_repeats, a_kinds, a_firsts, a_seconds, a_thirds, in_val a_inputs l k v 4, a_home, a_depth, a_closer, a_mate, a_operands, a_varies, a_parted, a_variableVaries, a_same, a_fixed, a_worth, a_needed, a_variableNeeded, a_values, a_variables, a_outputs, a_cells, a_whole, a_waiting)) : ∀ d i : Nat, i + d = 4 → wX_input_19 post (nI l) (nI k) v f_lines f_studied f_wrong f_wrongAt f_brief f_on f_dropped f_steps f_nextLine f_repeats (d + 1) (nI i) a_kinds a_firsts a_seconds a_thirds (in_val a_inputs l k v i) a_home a_depth a_closer a_mate a_operands a_varies a_parted a_variableVaries a_same a_fixed a_worth a_needed a_variableNeeded a_values a_variables a_outputs a_cells a_whole a_waiting := by
  intro d
  induction d with
  | zero => intro i hi; cases (show i = 4 by omega); exact br_t (by decide) h
  | succ d ih =>
    intro i hi
    have e4 : nI i * 4 + nI k = nI (i * 4 + k) := by
      rw [show (4 : Int32) = nI 4 from rfl, pk_mul, nI_add]
    have put : (k < 2 ∨ i = l) → wX_input_36 post (wX_input_19 post (nI l) (nI k) v f_lines f_studied f_wrong f_wrongAt f_brief f_on f_dropped f_steps f_nextLine f_repeats (d + 1)) (nI l) (nI k) v (nI i) f_lines f_studied f_wrong f_wrongAt f_brief f_on f_dropped f_steps f_nextLine f_repeats a_kinds a_firsts a_seconds a_thirds (in_val a_inputs l k v i) a_home a_depth a_closer a_mate a_operands a_varies a_parted a_variableVaries a_same a_fixed a_worth a_needed a_variableNeeded a_values a_variables a_outputs a_cells a_whole a_waiting := by
      intro hp
      have e : upd (in_val a_inputs l k v i) (nI i * 4 + nI k).toNatClampNeg v = in_val a_inputs l k v (i + 1) := by
        rw [e4, nI_clamp (by omega)]; exact (if_pos hp).symm
      exact ⟨by rw [e4]; exact vp_in_nI (by omega) (by omega), nm_r e (nm_r (nI_1 i) (ih (i + 1) (by omega)))⟩
    refine br_f (nI_ge (b := 4) (by omega) (by decide)) (pk_lt k 2 (fun h2 => put (Or.inl h2)) (fun h2 => pk_eq i l (fun h2 => put (Or.inr h2)) (fun h3 => ?_)))
    have e : in_val a_inputs l k v i = in_val a_inputs l k v (i + 1) := (if_neg (by omega)).symm
    rw [e]
    exact nm_r (nI_1 i) (ih (i + 1) (by omega))
theorem in_X {post : Int32 → SX → Prop} (p q v : Int32) (hb : ((p < 0 ∨ 4 ≤ p) ∨ (q < 0 ∨ 4 ≤ q)) → post 0 (f_lines, f_studied, f_wrong, f_wrongAt, f_brief, f_on, f_dropped, f_steps, f_nextLine, f_repeats, a_kinds, a_firsts, a_seconds, a_thirds, a_inputs, a_home, a_depth, a_closer, a_mate, a_operands, a_varies, a_parted, a_variableVaries, a_same, a_fixed, a_worth, a_needed, a_variableNeeded, a_values, a_variables, a_outputs, a_cells, a_whole, a_waiting)) (hg : ∀ l k : Nat, l < 4 → k < 4 → p = nI l → q = nI k → post 1 (f_lines, f_studied, f_wrong, f_wrongAt, f_brief, f_on, f_dropped, f_steps, f_nextLine, f_repeats, a_kinds, a_firsts, a_seconds, a_thirds, in_val a_inputs l k v 4, a_home, a_depth, a_closer, a_mate, a_operands, a_varies, a_parted, a_variableVaries, a_same, a_fixed, a_worth, a_needed, a_variableNeeded, a_values, a_variables, a_outputs, a_cells, a_whole, a_waiting)) : wpX_input post (f_lines, f_studied, f_wrong, f_wrongAt, f_brief, f_on, f_dropped, f_steps, f_nextLine, f_repeats, a_kinds, a_firsts, a_seconds, a_thirds, a_inputs, a_home, a_depth, a_closer, a_mate, a_operands, a_varies, a_parted, a_variableVaries, a_same, a_fixed, a_worth, a_needed, a_variableNeeded, a_values, a_variables, a_outputs, a_cells, a_whole, a_waiting) p q v := by
  unfold wpX_input
  refine ez_four (fun h => br_t rfl (hb (Or.inl h))) (fun l hl el => br_f (by decide) ?_)
  refine ez_four (fun h => br_t rfl (hb (Or.inr h))) (fun k hk ek => br_f (by decide) ?_)
  subst el ek
  exact ⟨5, in_X19 hl hk v (hg l k hl hk rfl rfl) 4 0 rfl⟩
theorem in_Y23 {post : Int32 → SY → Prop} {l k : Nat} (hl : l < 4) (hk : k < 4) (v : Int32) (h : post 1 (yf_lines, yf_known, yf_wrong, yf_place, yf_blocks, yf_steps, yf_dropped, yf_on, yf_next, yf_again, yf_depth, ya_ops, ya_as, ya_bs, ya_cs, ya_blockOf, ya_opener, ya_around, ya_other, ya_end, ya_open, ya_varied, ya_loose, ya_variedVariable, ya_stands, ya_number, ya_isConst, ya_needed, in_val ya_inputs l k v 4, ya_values, ya_variables, ya_cells, ya_outs, ya_was, ya_rest, ya_line)) : ∀ d i : Nat, i + d = 4 → wY_input_23 post (nI l) (nI k) v yf_lines yf_known yf_wrong yf_place yf_blocks yf_steps yf_dropped yf_on yf_next yf_again yf_depth (d + 1) (nI i) ya_ops ya_as ya_bs ya_cs ya_blockOf ya_opener ya_around ya_other ya_end ya_open ya_varied ya_loose ya_variedVariable ya_stands ya_number ya_isConst ya_needed (in_val ya_inputs l k v i) ya_values ya_variables ya_cells ya_outs ya_was ya_rest ya_line := by
  intro d
  induction d with
  | zero => intro i hi; cases (show i = 4 by omega); exact br_t (by decide) h
  | succ d ih =>
    intro i hi
    have e4 : 4 * nI i + nI k = nI (i * 4 + k) := by
      rw [show (4 : Int32) = nI 4 from rfl, pk_mul, nI_add, Nat.mul_comm]
    have put : (k < 2 ∨ i = l) → wY_input_40 post (wY_input_23 post (nI l) (nI k) v yf_lines yf_known yf_wrong yf_place yf_blocks yf_steps yf_dropped yf_on yf_next yf_again yf_depth (d + 1)) (nI l) (nI k) v (nI i) yf_lines yf_known yf_wrong yf_place yf_blocks yf_steps yf_dropped yf_on yf_next yf_again yf_depth ya_ops ya_as ya_bs ya_cs ya_blockOf ya_opener ya_around ya_other ya_end ya_open ya_varied ya_loose ya_variedVariable ya_stands ya_number ya_isConst ya_needed (in_val ya_inputs l k v i) ya_values ya_variables ya_cells ya_outs ya_was ya_rest ya_line := by
      intro hp
      have e : upd (in_val ya_inputs l k v i) (4 * nI i + nI k).toNatClampNeg v = in_val ya_inputs l k v (i + 1) := by
        rw [e4, nI_clamp (by omega)]; exact (if_pos hp).symm
      exact ⟨by rw [e4]; exact vp_in_nI (by omega) (by omega), nm_r e (nm_r (nI_1 i) (ih (i + 1) (by omega)))⟩
    refine br_f (nI_ge (b := 4) (by omega) (by decide)) (pk_eq i l (fun h2 => put (Or.inr h2)) (fun h3 => pk_le 2 k (fun h2 => ?_) (fun h2 => put (Or.inl h2))))
    have e : in_val ya_inputs l k v i = in_val ya_inputs l k v (i + 1) := (if_neg (by omega)).symm
    rw [e]
    exact nm_r (nI_1 i) (ih (i + 1) (by omega))
theorem in_Y {post : Int32 → SY → Prop} (p q v : Int32) (hb : ((p < 0 ∨ 4 ≤ p) ∨ (q < 0 ∨ 4 ≤ q)) → post 0 (yf_lines, yf_known, yf_wrong, yf_place, yf_blocks, yf_steps, yf_dropped, yf_on, yf_next, yf_again, yf_depth, ya_ops, ya_as, ya_bs, ya_cs, ya_blockOf, ya_opener, ya_around, ya_other, ya_end, ya_open, ya_varied, ya_loose, ya_variedVariable, ya_stands, ya_number, ya_isConst, ya_needed, ya_inputs, ya_values, ya_variables, ya_cells, ya_outs, ya_was, ya_rest, ya_line)) (hg : ∀ l k : Nat, l < 4 → k < 4 → p = nI l → q = nI k → post 1 (yf_lines, yf_known, yf_wrong, yf_place, yf_blocks, yf_steps, yf_dropped, yf_on, yf_next, yf_again, yf_depth, ya_ops, ya_as, ya_bs, ya_cs, ya_blockOf, ya_opener, ya_around, ya_other, ya_end, ya_open, ya_varied, ya_loose, ya_variedVariable, ya_stands, ya_number, ya_isConst, ya_needed, in_val ya_inputs l k v 4, ya_values, ya_variables, ya_cells, ya_outs, ya_was, ya_rest, ya_line)) : wpY_input post (yf_lines, yf_known, yf_wrong, yf_place, yf_blocks, yf_steps, yf_dropped, yf_on, yf_next, yf_again, yf_depth, ya_ops, ya_as, ya_bs, ya_cs, ya_blockOf, ya_opener, ya_around, ya_other, ya_end, ya_open, ya_varied, ya_loose, ya_variedVariable, ya_stands, ya_number, ya_isConst, ya_needed, ya_inputs, ya_values, ya_variables, ya_cells, ya_outs, ya_was, ya_rest, ya_line) p q v := by
  refine br_c (fun h => hb (Or.inl (Or.inl h))) (fun h0 => br_c (fun h => hb (Or.inl (Or.inr ((ez_34 _).mp h)))) (fun h3 => br_c (fun h => hb (Or.inr (Or.inl h))) (fun k0 => br_c (fun k3 => ?_) (fun h => hb (Or.inr (Or.inr ((ez_34 _).mp (Int32.not_le.mp h))))))))
  rcases ez_4 p with h | ⟨l, hl, rfl⟩
  · exact hb (Or.inl h) |> fun z => absurd h (by rw [← ez_34]; exact fun h => h.elim h0 h3)
  rcases ez_4 q with h | ⟨k, hk, rfl⟩
  · exact absurd h (by rw [← ez_34]; exact fun h => h.elim k0 (Int32.not_lt.mpr k3))
  exact ⟨5, in_Y23 hl hk v (hg l k hl hk rfl rfl) 4 0 rfl⟩
/-- out and kept -/
theorem ou_X {post : Int32 → Prop} (p q : Int32) (hb : ((p < 0 ∨ 4 ≤ p) ∨ (q < 0 ∨ 4 ≤ q)) → post 0) (hg : ∀ l k : Nat, l < 4 → k < 4 → p = nI l → q = nI k → post (a_outputs (l * 4 + k))) : wpX_out post (f_lines, f_studied, f_wrong, f_wrongAt, f_brief, f_on, f_dropped, f_steps, f_nextLine, f_repeats, a_kinds, a_firsts, a_seconds, a_thirds, a_inputs, a_home, a_depth, a_closer, a_mate, a_operands, a_varies, a_parted, a_variableVaries, a_same, a_fixed, a_worth, a_needed, a_variableNeeded, a_values, a_variables, a_outputs, a_cells, a_whole, a_waiting) p q := by
  unfold wpX_out
  refine ez_four (fun h => br_t rfl (hb (Or.inl h))) (fun l hl el => br_f (by decide) ?_)
  refine ez_four (fun h => br_t rfl (hb (Or.inr h))) (fun k hk ek => br_f (by decide) ?_)
  subst el ek
  have e4 : nI l * 4 + nI k = nI (l * 4 + k) := by
    rw [show (4 : Int32) = nI 4 from rfl, pk_mul, nI_add]
  rw [e4, nI_clamp (by omega)]
  exact ⟨vp_in_nI (by omega) (by omega), hg l k hl hk rfl rfl⟩
theorem ou_Y {post : Int32 → Prop} (p q : Int32) (hb : ((p < 0 ∨ 4 ≤ p) ∨ (q < 0 ∨ 4 ≤ q)) → post 0) (hg : ∀ l k : Nat, l < 4 → k < 4 → p = nI l → q = nI k → post (ya_outs (4 * k + l))) : wpY_out post (yf_lines, yf_known, yf_wrong, yf_place, yf_blocks, yf_steps, yf_dropped, yf_on, yf_next, yf_again, yf_depth, ya_ops, ya_as, ya_bs, ya_cs, ya_blockOf, ya_opener, ya_around, ya_other, ya_end, ya_open, ya_varied, ya_loose, ya_variedVariable, ya_stands, ya_number, ya_isConst, ya_needed, ya_inputs, ya_values, ya_variables, ya_cells, ya_outs, ya_was, ya_rest, ya_line) p q := by
  refine br_c (fun h => hb (Or.inl (Or.inl h))) (fun h0 => br_c (fun h => hb (Or.inl (Or.inr ((ez_34 _).mp h)))) (fun h3 => br_c (fun h => hb (Or.inr (Or.inl h))) (fun k0 => br_c (fun k3 => ?_) (fun h => hb (Or.inr (Or.inr ((ez_34 _).mp (Int32.not_le.mp h))))))))
  rcases ez_4 p with h | ⟨l, hl, rfl⟩
  · exact absurd h (by rw [← ez_34]; exact fun h => h.elim h0 h3)
  rcases ez_4 q with h | ⟨k, hk, rfl⟩
  · exact absurd h (by rw [← ez_34]; exact fun h => h.elim k0 (Int32.not_lt.mpr k3))
  have e4 : 4 * nI k + nI l = nI (4 * k + l) := by
    rw [show (4 : Int32) = nI 4 from rfl, pk_mul, nI_add]
  rw [e4, nI_clamp (by omega)]
  exact ⟨vp_in_nI (by omega) (by omega), hg l k hl hk rfl rfl⟩
theorem ke_X {post : Int32 → Prop} (p q : Int32) (hb : ((p < 0 ∨ 4 ≤ p) ∨ (q < 0 ∨ 8 ≤ q)) → post 0) (hg : ∀ l k : Nat, l < 4 → k < 4 → p = nI l → q = nI k → post (a_variables (l * 4 + k))) (hc : ∀ l k : Nat, l < 4 → k < 4 → p = nI l → q = nI (4 + k) → post (a_cells k)) : wpX_kept post (f_lines, f_studied, f_wrong, f_wrongAt, f_brief, f_on, f_dropped, f_steps, f_nextLine, f_repeats, a_kinds, a_firsts, a_seconds, a_thirds, a_inputs, a_home, a_depth, a_closer, a_mate, a_operands, a_varies, a_parted, a_variableVaries, a_same, a_fixed, a_worth, a_needed, a_variableNeeded, a_values, a_variables, a_outputs, a_cells, a_whole, a_waiting) p q := by
  unfold wpX_kept
  refine ez_four (fun h => br_t rfl (hb (Or.inl h))) (fun l hl el => br_f (by decide) ?_)
  refine ez_four (fun h => br_t rfl ?_) (fun k hk ek => br_f (by decide) ?_)
  · rcases h with h | h
    · exact br_c (fun _ => hb (Or.inr (Or.inl h))) (fun h' => absurd (Int32.lt_trans h (by decide)) h')
    · refine br_f (Int32.not_lt.mpr h) (br_c (fun h8 => hb (Or.inr (Or.inr h8))) (fun h8 => ?_))
      rcases pk_ix q (n := 8) (by omega) with z | z | ⟨j, hj, rfl⟩
      · exact absurd (Int32.lt_of_lt_of_le z (by decide : (0 : Int32) ≤ 4)) (Int32.not_lt.mpr h)
      · exact absurd z h8
      · rw [show (4 : Int32) = nI 4 from rfl, nI_leI (by omega) (by omega)] at h
        obtain ⟨k, rfl⟩ : ∃ k, j = 4 + k := ⟨j - 4, by omega⟩
        have e : nI (4 + k) - 4 = nI k := by
          rw [show (4 : Int32) = nI 4 from rfl, pk_sub (by omega)]; congr 1; omega
        rw [e, nI_clamp (by omega)]
        exact ⟨vp_in_nI (by omega) (by omega), hc l k hl (by omega) el rfl⟩
  · subst el ek
    have e4 : nI l * 4 + nI k = nI (l * 4 + k) := by
      rw [show (4 : Int32) = nI 4 from rfl, pk_mul, nI_add]
    rw [e4, nI_clamp (by omega)]
    exact ⟨vp_in_nI (by omega) (by omega), hg l k hl hk rfl rfl⟩
theorem ke_Y {post : Int32 → Prop} (p q : Int32) (hb : ((p < 0 ∨ 4 ≤ p) ∨ (q < 0 ∨ 8 ≤ q)) → post 0) (hg : ∀ l k : Nat, l < 4 → k < 4 → p = nI l → q = nI k → post (ya_variables (4 * k + l))) (hc : ∀ l k : Nat, l < 4 → k < 4 → p = nI l → q = nI (4 + k) → post (ya_cells k)) : wpY_kept post (yf_lines, yf_known, yf_wrong, yf_place, yf_blocks, yf_steps, yf_dropped, yf_on, yf_next, yf_again, yf_depth, ya_ops, ya_as, ya_bs, ya_cs, ya_blockOf, ya_opener, ya_around, ya_other, ya_end, ya_open, ya_varied, ya_loose, ya_variedVariable, ya_stands, ya_number, ya_isConst, ya_needed, ya_inputs, ya_values, ya_variables, ya_cells, ya_outs, ya_was, ya_rest, ya_line) p q := by
  refine br_c (fun h => hb (Or.inl (Or.inl h))) (fun h0 => br_c (fun h => hb (Or.inl (Or.inr ((ez_34 _).mp h)))) (fun h3 => br_c (fun h => hb (Or.inr (Or.inl h))) (fun k0 => br_c (fun k7 => ?_) (fun h => hb (Or.inr (Or.inr ((ez_78 _).mp (Int32.not_le.mp h))))))))
  rcases ez_4 p with h | ⟨l, hl, el⟩
  · exact absurd h (by rw [← ez_34]; exact fun h => h.elim h0 h3)
  rcases pk_ix q (n := 8) (by omega) with z | z | ⟨j, hj, rfl⟩
  · exact absurd z k0
  · exact absurd ((ez_78 _).mpr z) (Int32.not_lt.mpr k7)
  refine pk_le 4 j (fun h4 => ?_) (fun h4 => ?_)
  · obtain ⟨k, rfl⟩ : ∃ k, j = 4 + k := ⟨j - 4, by omega⟩
    have e : nI (4 + k) - 4 = nI k := by
      rw [show (4 : Int32) = nI 4 from rfl, pk_sub (by omega)]; congr 1; omega
    rw [e, nI_clamp (by omega)]
    exact ⟨vp_in_nI (by omega) (by omega), hc l k hl (by omega) el rfl⟩
  · subst el
    have e4 : 4 * nI j + nI l = nI (4 * j + l) := by
      rw [show (4 : Int32) = nI 4 from rfl, pk_mul, nI_add]
    rw [e4, nI_clamp (by omega)]
    exact ⟨vp_in_nI (by omega) (by omega), hg l j hl h4 rfl rfl⟩
/-- state: each side reads one of five fields -/
theorem sa_X {post : Int32 → Prop} (p : Int32) (hb : (p < 0 ∨ 4 < p) → post (-1)) (h0 : p = 0 → post f_steps) (h1 : p = 1 → post f_dropped) (h2 : p = 2 → post f_on) (h3 : p = 3 → post f_nextLine) (h4 : p = 4 → post f_repeats) : wpX_state post (f_lines, f_studied, f_wrong, f_wrongAt, f_brief, f_on, f_dropped, f_steps, f_nextLine, f_repeats, a_kinds, a_firsts, a_seconds, a_thirds, a_inputs, a_home, a_depth, a_closer, a_mate, a_operands, a_varies, a_parted, a_variableVaries, a_same, a_fixed, a_worth, a_needed, a_variableNeeded, a_values, a_variables, a_outputs, a_cells, a_whole, a_waiting) p :=
  br_c (fun h => hb (Or.inl h)) (fun _ => br_c (fun h => hb (Or.inr h)) (fun _ => br_c h0 (fun _ => br_c h1 (fun _ => br_c h2 (fun _ => br_c h3 (fun _ => br_c h4 (fun _ => trivial)))))))
theorem sa_Y {post : Int32 → Prop} (p : Int32) (hb : (p < 0 ∨ 4 < p) → post (-1)) (h0 : p = 0 → post yf_steps) (h1 : p = 1 → post yf_dropped) (h2 : p = 2 → post yf_on) (h3 : p = 3 → post yf_next) (h4 : p = 4 → post yf_again) : wpY_state post (yf_lines, yf_known, yf_wrong, yf_place, yf_blocks, yf_steps, yf_dropped, yf_on, yf_next, yf_again, yf_depth, ya_ops, ya_as, ya_bs, ya_cs, ya_blockOf, ya_opener, ya_around, ya_other, ya_end, ya_open, ya_varied, ya_loose, ya_variedVariable, ya_stands, ya_number, ya_isConst, ya_needed, ya_inputs, ya_values, ya_variables, ya_cells, ya_outs, ya_was, ya_rest, ya_line) p :=
  br_c (fun h => hb (Or.inl h)) (fun _ => br_c (fun h => hb (Or.inr h)) (fun _ => br_c h0 (fun _ => br_c h1 (fun _ => br_c h2 (fun _ => br_c h3 (fun _ => br_c h4 (fun _ => trivial)))))))
end
end
section
section
variable {f_lines f_studied f_wrong f_wrongAt f_brief f_on f_dropped f_steps f_nextLine f_repeats : Int32} {a_kinds a_firsts a_seconds a_thirds a_inputs a_home a_depth a_closer a_mate a_operands a_varies a_parted a_variableVaries a_same a_fixed a_worth a_needed a_variableNeeded a_values a_variables a_outputs a_cells a_whole a_waiting : Nat → Int32}
variable {yf_lines yf_known yf_wrong yf_place yf_blocks yf_steps yf_dropped yf_on yf_next yf_again yf_depth : Int32} {ya_ops ya_as ya_bs ya_cs ya_blockOf ya_opener ya_around ya_other ya_end ya_open ya_varied ya_loose ya_variedVariable ya_stands ya_number ya_isConst ya_needed ya_inputs ya_values ya_variables ya_cells ya_outs ya_was ya_rest ya_line : Nat → Int32}
/-- zero below N -/
def cl_z (N : Nat) (a : Nat → Int32) : Nat → Int32 := fun j => if j < N then 0 else a j
theorem cl_0 (a : Nat → Int32) : cl_z 0 a = a := by funext j; simp [cl_z]
theorem cl_s (i : Nat) (a : Nat → Int32) : upd (cl_z i a) i 0 = cl_z (i + 1) a := by
  funext j; simp only [upd, cl_z]
  by_cases h : j = i
  · simp [h]
  · by_cases h2 : j < i
    · simp [h2, show j < i + 1 by omega]
    · simp [h, h2, show ¬ j < i + 1 by omega]
theorem cl_k {i N : Nat} (h : i < N) (a : Nat → Int32) : upd (cl_z N a) i 0 = cl_z N a := by
  funext j; simp only [upd, cl_z]
  by_cases e : j = i
  · simp [e, h]
  · simp [e]
theorem cl_lt {j N : Nat} (a : Nat → Int32) (h : j < N) : cl_z N a j = 0 := if_pos h
theorem cr_X52 {post : SX → Prop} (h : post (f_lines, f_studied, f_wrong, f_wrongAt, f_brief, 15, 0, 0, f_nextLine, 0, a_kinds, a_firsts, a_seconds, a_thirds, a_inputs, a_home, a_depth, a_closer, a_mate, a_operands, a_varies, a_parted, a_variableVaries, a_same, a_fixed, a_worth, a_needed, a_variableNeeded, a_values, a_variables, a_outputs, cl_z 4 a_cells, a_whole, a_waiting)) : ∀ d i : Nat, i + d = 4 → wX_clearRun_52 post f_lines f_studied f_wrong f_wrongAt f_brief f_on f_dropped f_steps f_nextLine f_repeats (d + 1) (nI i) a_kinds a_firsts a_seconds a_thirds a_inputs a_home a_depth a_closer a_mate a_operands a_varies a_parted a_variableVaries a_same a_fixed a_worth a_needed a_variableNeeded a_values a_variables a_outputs (cl_z i a_cells) a_whole a_waiting := by
  intro d
  induction d with
  | zero => intro i hi; cases (show i = 4 by omega); exact br_t (by decide) h
  | succ d ih =>
    intro i hi
    exact br_f (nI_ge (b := 4) (by omega) (by decide)) ⟨vp_in_nI (by omega) (by omega), nm_r (by rw [nI_clamp (by omega)]; exact cl_s i _) (nm_r (nI_1 i) (ih (i + 1) (by omega)))⟩
theorem cr_X24 {post : SX → Prop} (h : post (f_lines, f_studied, f_wrong, f_wrongAt, f_brief, 15, 0, 0, f_nextLine, 0, a_kinds, a_firsts, a_seconds, a_thirds, a_inputs, a_home, a_depth, a_closer, a_mate, a_operands, a_varies, a_parted, a_variableVaries, a_same, a_fixed, a_worth, a_needed, a_variableNeeded, a_values, cl_z 16 a_variables, cl_z 16 a_outputs, cl_z 4 a_cells, a_whole, a_waiting)) : ∀ d i : Nat, i + d = 16 → wX_clearRun_24 post f_lines f_studied f_wrong f_wrongAt f_brief f_on f_dropped f_steps f_nextLine f_repeats (d + 1) (nI i) a_kinds a_firsts a_seconds a_thirds a_inputs a_home a_depth a_closer a_mate a_operands a_varies a_parted a_variableVaries a_same a_fixed a_worth a_needed a_variableNeeded a_values (cl_z i a_variables) (cl_z i a_outputs) a_cells a_whole a_waiting := by
  intro d
  induction d with
  | zero =>
    intro i hi
    cases (show i = 16 by omega)
    exact br_t (by decide) ⟨5, by rw [← cl_0 a_cells]; exact cr_X52 h 4 0 rfl⟩
  | succ d ih =>
    intro i hi
    exact br_f (nI_ge (b := 16) (by omega) (by decide)) ⟨vp_in_nI (by omega) (by omega), nm_r (by rw [nI_clamp (by omega)]; exact cl_s i _) ⟨vp_in_nI (by omega) (by omega), nm_r (by rw [nI_clamp (by omega)]; exact cl_s i _) (nm_r (nI_1 i) (ih (i + 1) (by omega)))⟩⟩
theorem cr_X2 {post : SX → Prop} (h : post (f_lines, f_studied, f_wrong, f_wrongAt, f_brief, 15, 0, 0, f_nextLine, 0, a_kinds, a_firsts, a_seconds, a_thirds, a_inputs, a_home, a_depth, a_closer, a_mate, a_operands, a_varies, a_parted, a_variableVaries, a_same, a_fixed, a_worth, a_needed, a_variableNeeded, cl_z 192 a_values, cl_z 16 a_variables, cl_z 16 a_outputs, cl_z 4 a_cells, a_whole, a_waiting)) : ∀ d i : Nat, i + d = 192 → wX_clearRun_2 post f_lines f_studied f_wrong f_wrongAt f_brief f_on f_dropped f_steps f_nextLine f_repeats (d + 1) (nI i) a_kinds a_firsts a_seconds a_thirds a_inputs a_home a_depth a_closer a_mate a_operands a_varies a_parted a_variableVaries a_same a_fixed a_worth a_needed a_variableNeeded (cl_z i a_values) a_variables a_outputs a_cells a_whole a_waiting := by
  intro d
  induction d with
  | zero =>
    intro i hi
    cases (show i = 192 by omega)
    exact br_t (by decide) ⟨17, by rw [← cl_0 a_variables, ← cl_0 a_outputs]; exact cr_X24 h 16 0 rfl⟩
  | succ d ih =>
    intro i hi
    exact br_f (nI_ge (b := 192) (by omega) (by decide)) ⟨vp_in_nI (by omega) (by omega), nm_r (by rw [nI_clamp (by omega)]; exact cl_s i _) (nm_r (nI_1 i) (ih (i + 1) (by omega)))⟩
theorem cr_X {post : SX → Prop} (h : post (f_lines, f_studied, f_wrong, f_wrongAt, f_brief, 15, 0, 0, f_nextLine, 0, a_kinds, a_firsts, a_seconds, a_thirds, a_inputs, a_home, a_depth, a_closer, a_mate, a_operands, a_varies, a_parted, a_variableVaries, a_same, a_fixed, a_worth, a_needed, a_variableNeeded, cl_z 192 a_values, cl_z 16 a_variables, cl_z 16 a_outputs, cl_z 4 a_cells, a_whole, a_waiting)) : wpX_clearRun post (f_lines, f_studied, f_wrong, f_wrongAt, f_brief, f_on, f_dropped, f_steps, f_nextLine, f_repeats, a_kinds, a_firsts, a_seconds, a_thirds, a_inputs, a_home, a_depth, a_closer, a_mate, a_operands, a_varies, a_parted, a_variableVaries, a_same, a_fixed, a_worth, a_needed, a_variableNeeded, a_values, a_variables, a_outputs, a_cells, a_whole, a_waiting) := by
  refine ⟨193, ?_⟩
  rw [← cl_0 a_values]
  exact cr_X2 h 192 0 rfl
theorem cr_Y37 {post : Int32 → SY → Prop} {x1 : Int32} (h : ∃ n, wY_run_103 post x1 n yf_lines yf_known yf_wrong yf_place yf_blocks 0 0 15 0 0 0 ya_ops ya_as ya_bs ya_cs ya_blockOf ya_opener ya_around ya_other ya_end ya_open ya_varied ya_loose ya_variedVariable ya_stands ya_number ya_isConst ya_needed ya_inputs ya_values (cl_z 16 ya_variables) (cl_z 4 ya_cells) (cl_z 16 ya_outs) ya_was ya_rest ya_line) : ∀ d i : Nat, i + d = 16 → wY_run_37 post x1 yf_lines yf_known yf_wrong yf_place yf_blocks yf_steps yf_dropped yf_on yf_next yf_again yf_depth (d + 1) (nI i) ya_ops ya_as ya_bs ya_cs ya_blockOf ya_opener ya_around ya_other ya_end ya_open ya_varied ya_loose ya_variedVariable ya_stands ya_number ya_isConst ya_needed ya_inputs ya_values (cl_z i ya_variables) (cl_z (min i 4) ya_cells) (cl_z i ya_outs) ya_was ya_rest ya_line := by
  intro d
  induction d with
  | zero =>
    intro i hi
    cases (show i = 16 by omega)
    exact br_t (by decide) h
  | succ d ih =>
    intro i hi
    have em : nI i - nI i / 4 * 4 = nI (i % 4) := pk_rem (d := 4) (by omega) (by omega) (by omega)
    have ec : upd (cl_z (min i 4) ya_cells) (nI i - nI i / 4 * 4).toNatClampNeg 0 = cl_z (min (i + 1) 4) ya_cells := by
      rw [em, nI_clamp (by omega)]
      by_cases h4 : i < 4
      · rw [show i % 4 = i by omega, show min i 4 = i by omega, show min (i + 1) 4 = i + 1 by omega]; exact cl_s i _
      · rw [show min i 4 = 4 by omega, show min (i + 1) 4 = 4 by omega]; exact cl_k (by omega) _
    exact br_f (nI_ge (b := 16) (by omega) (by decide)) ⟨vp_in_nI (by omega) (by omega), nm_r (by rw [nI_clamp (by omega)]; exact cl_s i _) ⟨vp_in_nI (by omega) (by omega), nm_r (by rw [nI_clamp (by omega)]; exact cl_s i _) ⟨by decide, by rw [em]; exact vp_in_nI (by omega) (by omega), nm_r ec (nm_r (nI_1 i) (ih (i + 1) (by omega)))⟩⟩⟩
theorem cr_Y15 {post : Int32 → SY → Prop} {x1 : Int32} (h : ∃ n, wY_run_103 post x1 n yf_lines yf_known yf_wrong yf_place yf_blocks 0 0 15 0 0 0 ya_ops ya_as ya_bs ya_cs ya_blockOf ya_opener ya_around ya_other ya_end ya_open ya_varied ya_loose ya_variedVariable ya_stands ya_number ya_isConst ya_needed ya_inputs (cl_z 192 ya_values) (cl_z 16 ya_variables) (cl_z 4 ya_cells) (cl_z 16 ya_outs) ya_was ya_rest ya_line) : ∀ d i : Nat, i + d = 192 → wY_run_15 post x1 yf_lines yf_known yf_wrong yf_place yf_blocks yf_steps yf_dropped yf_on yf_next yf_again yf_depth (d + 1) (nI i) ya_ops ya_as ya_bs ya_cs ya_blockOf ya_opener ya_around ya_other ya_end ya_open ya_varied ya_loose ya_variedVariable ya_stands ya_number ya_isConst ya_needed ya_inputs (cl_z i ya_values) ya_variables ya_cells ya_outs ya_was ya_rest ya_line := by
  intro d
  induction d with
  | zero =>
    intro i hi
    cases (show i = 192 by omega)
    refine br_t (by decide) ⟨17, ?_⟩
    rw [← cl_0 ya_variables, ← cl_0 ya_outs, ← cl_0 ya_cells]
    exact cr_Y37 h 16 0 rfl
  | succ d ih =>
    intro i hi
    exact br_f (nI_ge (b := 192) (by omega) (by decide)) ⟨vp_in_nI (by omega) (by omega), nm_r (by rw [nI_clamp (by omega)]; exact cl_s i _) (nm_r (nI_1 i) (ih (i + 1) (by omega)))⟩
theorem cr_Y {post : Int32 → SY → Prop} {x1 : Int32} (h : ∃ n, wY_run_103 post x1 n yf_lines yf_known yf_wrong yf_place yf_blocks 0 0 15 0 0 0 ya_ops ya_as ya_bs ya_cs ya_blockOf ya_opener ya_around ya_other ya_end ya_open ya_varied ya_loose ya_variedVariable ya_stands ya_number ya_isConst ya_needed ya_inputs (cl_z 192 ya_values) (cl_z 16 ya_variables) (cl_z 4 ya_cells) (cl_z 16 ya_outs) ya_was ya_rest ya_line) : ∃ n, wY_run_15 post x1 yf_lines yf_known yf_wrong yf_place yf_blocks yf_steps yf_dropped yf_on yf_next yf_again yf_depth n 0 ya_ops ya_as ya_bs ya_cs ya_blockOf ya_opener ya_around ya_other ya_end ya_open ya_varied ya_loose ya_variedVariable ya_stands ya_number ya_isConst ya_needed ya_inputs ya_values ya_variables ya_cells ya_outs ya_was ya_rest ya_line := by
  refine ⟨193, ?_⟩
  rw [← cl_0 ya_values]
  exact cr_Y15 h 192 0 rfl
end
end
section
section
variable (K : Nat → Nat)
/-- frames open ahead of line i, innermost first: (number of its current block: opening line + 1, its IF or LOOP) -/
def sc_fr : Nat → List (Nat × Nat)
  | 0 => []
  | i + 1 => if K i = 19 ∨ K i = 22 then (i + 1, i) :: sc_fr i
      else if K i = 20 then (i + 1, ((sc_fr i).headD (0, 0)).2) :: (sc_fr i).tail
      else if K i = 21 ∨ K i = 23 then (sc_fr i).tail else sc_fr i
def sc_cl (k : Nat) : Prop := k = 20 ∨ k = 21 ∨ k = 23
def sc_op (k : Nat) : Prop := k = 19 ∨ k = 20 ∨ k = 22
/-- frames around line i itself -/
def sc_lf (i : Nat) : List (Nat × Nat) := if K i = 20 ∨ K i = 21 ∨ K i = 23 then (sc_fr K i).tail else sc_fr K i
def sc_hd (l : List (Nat × Nat)) : Nat := (l.headD (0, 0)).1
def sc_mt (i : Nat) : Nat := if K i = 20 ∨ K i = 21 ∨ K i = 23 then ((sc_fr K i).headD (0, 0)).2 else i
def sc_fits (i : Nat) : Prop :=
  ((K i = 19 ∨ K i = 22) → (sc_fr K i).length < 4) ∧
  (K i = 20 → ∃ m r, sc_fr K i = (m + 1, m) :: r ∧ K m = 19) ∧
  (K i = 21 → ∃ b m r, sc_fr K i = (b, m) :: r ∧ K m = 19) ∧
  (K i = 23 → ∃ b m r, sc_fr K i = (b, m) :: r ∧ K m = 22) ∧
  (K i = 24 → ∃ f, f ∈ sc_fr K i ∧ K f.2 = 22)
def sc_good (i : Nat) : Prop := ∀ j, j < i → sc_fits K j
variable {K}
theorem sc_good_le {i j : Nat} (h : sc_good K i) (hj : j ≤ i) : sc_good K j := fun q hq => h q (by omega)
theorem sc_s_open {i : Nat} (h : K i = 19 ∨ K i = 22) : sc_fr K (i + 1) = (i + 1, i) :: sc_fr K i := by
  simp only [sc_fr, if_pos h]
theorem sc_s_else {i : Nat} (h : K i = 20) : sc_fr K (i + 1) = (i + 1, ((sc_fr K i).headD (0, 0)).2) :: (sc_fr K i).tail := by
  simp only [sc_fr]
  rw [if_neg (by omega), if_pos h]
theorem sc_s_end {i : Nat} (h : K i = 21 ∨ K i = 23) : sc_fr K (i + 1) = (sc_fr K i).tail := by
  simp only [sc_fr]
  rw [if_neg (by omega), if_neg (by omega), if_pos h]
theorem sc_s_plain {i : Nat} (h : ¬ (K i = 19 ∨ K i = 20 ∨ K i = 21 ∨ K i = 22 ∨ K i = 23)) : sc_fr K (i + 1) = sc_fr K i := by
  simp only [sc_fr]
  rw [if_neg (by omega), if_neg (by omega), if_neg (by omega)]
theorem sc_lf_cl {i : Nat} (h : K i = 20 ∨ K i = 21 ∨ K i = 23) : sc_lf K i = (sc_fr K i).tail := if_pos h
theorem sc_lf_n {i : Nat} (h : ¬ (K i = 20 ∨ K i = 21 ∨ K i = 23)) : sc_lf K i = sc_fr K i := if_neg h
theorem sc_mt_cl {i : Nat} (h : K i = 20 ∨ K i = 21 ∨ K i = 23) : sc_mt K i = ((sc_fr K i).headD (0, 0)).2 := if_pos h
theorem sc_mt_n {i : Nat} (h : ¬ (K i = 20 ∨ K i = 21 ∨ K i = 23)) : sc_mt K i = i := if_neg h
/-- what is known of the innermost frame -/
def sc_T (K : Nat → Nat) (i b m : Nat) (r : List (Nat × Nat)) : Prop :=
  1 ≤ b ∧ b ≤ i ∧ m < b ∧ ((b = m + 1 ∧ (K m = 19 ∨ K m = 22)) ∨ (K (b - 1) = 20 ∧ K m = 19 ∧ m + 1 < b)) ∧ sc_lf K (b - 1) = r ∧ sc_fr K m = r ∧ sc_mt K (b - 1) = m ∧ sc_op (K (b - 1)) ∧ sc_fr K b = (b, m) :: r
theorem sc_T_le {i j b m : Nat} {r : List (Nat × Nat)} (h : sc_T K i b m r) (hj : i ≤ j) : sc_T K j b m r := by
  obtain ⟨h1, h2, h3⟩ := h
  exact ⟨h1, by omega, h3⟩
theorem sc_top : ∀ i : Nat, sc_good K i → ∀ b m r, sc_fr K i = (b, m) :: r → sc_T K i b m r := by
  intro i
  induction i using Nat.strongRecOn with
  | _ i ih =>
    intro hg b m r e
    cases i with
    | zero => simp [sc_fr] at e
    | succ i =>
      have hf := hg i (by omega)
      have gi : sc_good K i := sc_good_le hg (by omega)
      by_cases h1 : K i = 19 ∨ K i = 22
      · have e0 := e
        rw [sc_s_open h1] at e
        simp only [List.cons.injEq, Prod.mk.injEq] at e
        obtain ⟨⟨rfl, rfl⟩, rfl⟩ := e
        refine ⟨by omega, by omega, by omega, Or.inl ⟨rfl, h1⟩, ?_, rfl, ?_, ?_, e0⟩
        · exact sc_lf_n (by simp only [Nat.add_sub_cancel]; omega)
        · exact sc_mt_n (by simp only [Nat.add_sub_cancel]; omega)
        · simp only [Nat.add_sub_cancel, sc_op]; omega
      · by_cases h2 : K i = 20
        · have e0 := e
          obtain ⟨m0, r0, e2, hm⟩ := hf.2.1 h2
          rw [sc_s_else h2, e2] at e
          simp only [List.headD_cons, List.tail_cons, List.cons.injEq, Prod.mk.injEq] at e
          obtain ⟨⟨rfl, rfl⟩, rfl⟩ := e
          have t := ih i (by omega) gi _ _ _ e2
          refine ⟨by omega, by omega, by have := t.2.1; omega, Or.inr ⟨h2, hm, by have := t.2.1; omega⟩, ?_, t.2.2.2.2.2.1, ?_, ?_, e0⟩
          · rw [show i + 1 - 1 = i from rfl, sc_lf_cl (by omega), e2]; rfl
          · rw [show i + 1 - 1 = i from rfl, sc_mt_cl (by omega), e2]; rfl
          · simp only [Nat.add_sub_cancel, sc_op]; omega
        · by_cases h3 : K i = 21 ∨ K i = 23
          · have : ∃ b' m' r', sc_fr K i = (b', m') :: r' := by
              rcases h3 with h3 | h3
              · obtain ⟨b', m', r', e', _⟩ := hf.2.2.1 h3; exact ⟨b', m', r', e'⟩
              · obtain ⟨b', m', r', e', _⟩ := hf.2.2.2.1 h3; exact ⟨b', m', r', e'⟩
            obtain ⟨b', m', r', e'⟩ := this
            have t := ih i (by omega) gi _ _ _ e'
            rw [sc_s_end h3, e'] at e
            simp only [List.tail_cons] at e
            have hm : m' < i := by have := t.2.1; have := t.2.2.1; omega
            exact sc_T_le (ih m' (by omega) (sc_good_le gi (by omega)) b m r (by rw [t.2.2.2.2.2.1]; exact e)) (by omega)
          · rw [sc_s_plain (by omega)] at e
            exact sc_T_le (ih i (by omega) gi _ _ _ e) (by omega)
theorem sc_len : ∀ i : Nat, sc_good K i → (sc_fr K i).length ≤ 4 := by
  intro i
  induction i with
  | zero => intro _; simp [sc_fr]
  | succ i ih =>
    intro hg
    have hf := hg i (by omega)
    have l := ih (sc_good_le hg (by omega))
    by_cases h1 : K i = 19 ∨ K i = 22
    · rw [sc_s_open h1]; have := hf.1 h1; simp only [List.length_cons]; omega
    · by_cases h2 : K i = 20
      · obtain ⟨m0, r0, e2, _⟩ := hf.2.1 h2
        rw [sc_s_else h2, e2]
        rw [e2] at l
        simpa using l
      · by_cases h3 : K i = 21 ∨ K i = 23
        · rw [sc_s_end h3]; simp only [List.length_tail]; omega
        · rw [sc_s_plain (by omega)]; exact l
/-- a frame anywhere in the row was once the innermost one -/
theorem sc_mem {b m : Nat} : ∀ i : Nat, sc_good K i → (b, m) ∈ sc_fr K i → ∃ j r, j ≤ i ∧ sc_fr K j = (b, m) :: r ∧ sc_T K j b m r := by
  intro i
  induction i using Nat.strongRecOn with
  | _ i ih =>
    intro hg hm
    cases e : sc_fr K i with
    | nil => rw [e] at hm; cases hm
    | cons f r =>
      obtain ⟨b', m'⟩ := f
      have t := sc_top i hg _ _ _ e
      rw [e] at hm
      rcases List.mem_cons.mp hm with h | h
      · cases h; exact ⟨i, r, Nat.le_refl _, e, t⟩
      · have l : m' < i := by have := t.2.1; have := t.2.2.1; omega
        rw [← t.2.2.2.2.2.1] at h
        obtain ⟨j, r', hj, e', t'⟩ := ih m' l (sc_good_le hg (by omega)) h
        exact ⟨j, r', by omega, e', t'⟩
theorem sc_memT {i b m : Nat} (hg : sc_good K i) (h : (b, m) ∈ sc_fr K i) : ∃ r, sc_T K i b m r := by
  obtain ⟨j, r, hj, _, t⟩ := sc_mem i hg h
  exact ⟨r, sc_T_le t hj⟩
/-- what is open at j and was opened ahead of i is open at i -/
theorem sc_stay {b m : Nat} : ∀ j i : Nat, sc_good K j → i ≤ j → b ≤ i → (b, m) ∈ sc_fr K j → (b, m) ∈ sc_fr K i := by
  intro j
  induction j with
  | zero => intro i _ hi _ h; rw [show i = 0 by omega]; exact h
  | succ j ih =>
    intro i hg hi hb h
    by_cases hij : i = j + 1
    · rw [hij]; exact h
    refine ih i (sc_good_le hg (by omega)) (by omega) hb ?_
    have hf := hg j (by omega)
    by_cases h1 : K j = 19 ∨ K j = 22
    · rw [sc_s_open h1] at h
      rcases List.mem_cons.mp h with h | h
      · cases h; omega
      · exact h
    · by_cases h2 : K j = 20
      · rw [sc_s_else h2] at h
        rcases List.mem_cons.mp h with h | h
        · simp only [Prod.mk.injEq] at h; omega
        · exact List.mem_of_mem_tail h
      · by_cases h3 : K j = 21 ∨ K j = 23
        · rw [sc_s_end h3] at h; exact List.mem_of_mem_tail h
        · rw [sc_s_plain (by omega)] at h; exact h
/-- the same by the IF or LOOP -/
theorem sc_stayM {m : Nat} : ∀ j i : Nat, sc_good K j → i ≤ j → m < i → (∃ b, (b, m) ∈ sc_fr K j) → ∃ b, (b, m) ∈ sc_fr K i := by
  intro j
  induction j with
  | zero => intro i _ hi hm; omega
  | succ j ih =>
    intro i hg hi hm h
    by_cases hij : i = j + 1
    · rw [hij]; exact h
    refine ih i (sc_good_le hg (by omega)) (by omega) hm ?_
    obtain ⟨b, h⟩ := h
    have hf := hg j (by omega)
    by_cases h1 : K j = 19 ∨ K j = 22
    · rw [sc_s_open h1] at h
      rcases List.mem_cons.mp h with h | h
      · cases h; omega
      · exact ⟨b, h⟩
    · by_cases h2 : K j = 20
      · obtain ⟨m0, r0, e2, _⟩ := hf.2.1 h2
        rw [sc_s_else h2, e2] at h
        rcases List.mem_cons.mp h with h | h
        · simp only [List.headD_cons, Prod.mk.injEq] at h
          rw [e2, h.2]; exact ⟨m0 + 1, List.mem_cons_self ..⟩
        · rw [e2]; exact ⟨b, List.mem_cons_of_mem _ h⟩
      · by_cases h3 : K j = 21 ∨ K j = 23
        · rw [sc_s_end h3] at h; exact ⟨b, List.mem_of_mem_tail h⟩
        · rw [sc_s_plain (by omega)] at h; exact ⟨b, h⟩
/-- numbers of blocks fall from the innermost outwards -/
theorem sc_below {i b m b' m' : Nat} {r : List (Nat × Nat)} (hg : sc_good K i) (e : sc_fr K i = (b, m) :: r) (h : (b', m') ∈ r) : b' ≤ m ∧ m' < m := by
  have t := sc_top i hg _ _ _ e
  rw [← t.2.2.2.2.2.1] at h
  obtain ⟨r', t'⟩ := sc_memT (sc_good_le hg (by have := t.2.1; have := t.2.2.1; omega)) h
  exact ⟨t'.2.1, by have := t'.2.2.1; have := t'.2.1; omega⟩
/-- line q closes block b -/
def sc_closes (K : Nat → Nat) (q b : Nat) : Prop := (K q = 20 ∨ K q = 21 ∨ K q = 23) ∧ ∃ m r, sc_fr K q = (b, m) :: r
theorem sc_after {q b m : Nat} {r : List (Nat × Nat)} (hg : sc_good K (q + 1)) (hc : K q = 20 ∨ K q = 21 ∨ K q = 23) (e : sc_fr K q = (b, m) :: r) : ∀ m', (b, m') ∉ sc_fr K (q + 1) := by
  intro m' h
  have gq := sc_good_le hg (show q ≤ q + 1 by omega)
  have t := sc_top q gq _ _ _ e
  have : (b, m') ∈ r := by
    rcases hc with hc | hc
    · rw [sc_s_else hc, e] at h
      rcases List.mem_cons.mp h with h | h
      · have := t.2.1; simp only [Prod.mk.injEq] at h; omega
      · exact h
    · rw [sc_s_end hc, e] at h; exact h
  have := sc_below gq e this
  have := t.2.2.1
  omega
theorem sc_uniq {q q' b : Nat} (hg : sc_good K (q' + 1)) (hq : q < q') (h : sc_closes K q b) (h' : sc_closes K q' b) : False := by
  obtain ⟨hc, m, r, e⟩ := h
  obtain ⟨_, m', r', e'⟩ := h'
  have t := sc_top q (sc_good_le hg (by omega)) _ _ _ e
  have : (b, m') ∈ sc_fr K (q + 1) := sc_stay q' (q + 1) (sc_good_le hg (by omega)) (by omega) (by have := t.2.1; omega) (by rw [e']; exact List.mem_cons_self ..)
  exact sc_after (sc_good_le hg (by omega)) hc e m' this
theorem sc_uniqE {q q' b : Nat} {n : Nat} (hg : sc_good K n) (hq : q < n) (hq' : q' < n) (h : sc_closes K q b) (h' : sc_closes K q' b) : q = q' := by
  rcases Nat.lt_trichotomy q q' with l | l | l
  · exact (sc_uniq (sc_good_le hg (by omega)) l h h').elim
  · exact l
  · exact (sc_uniq (sc_good_le hg (by omega)) l h' h).elim
/-- END and AGAIN of one IF or LOOP -/
theorem sc_uniqM {q q' b b' m : Nat} {r r' : List (Nat × Nat)} (hg : sc_good K (q' + 1)) (hq : q < q') (h : K q = 21 ∨ K q = 23) (e : sc_fr K q = (b, m) :: r) (e' : sc_fr K q' = (b', m) :: r') : False := by
  have t := sc_top q (sc_good_le hg (by omega)) _ _ _ e
  obtain ⟨b2, h2⟩ := sc_stayM (m := m) q' (q + 1) (sc_good_le hg (by omega)) (by omega) (by have := t.2.1; have := t.2.2.1; omega) ⟨b', by rw [e']; exact List.mem_cons_self ..⟩
  rw [sc_s_end h, e] at h2
  have := sc_below (sc_good_le hg (by omega)) e h2
  omega
/-- every frame that is open is closed by and by -/
theorem sc_ends {n b m : Nat} (hg : sc_good K n) (h0 : sc_fr K n = []) : ∀ d i : Nat, i + d = n → (b, m) ∈ sc_fr K i → ∃ q r, i ≤ q ∧ q < n ∧ (K q = 20 ∨ K q = 21 ∨ K q = 23) ∧ sc_fr K q = (b, m) :: r := by
  intro d
  induction d with
  | zero => intro i hi h; rw [show i = n by omega, h0] at h; cases h
  | succ d ih =>
    intro i hi h
    have hf := hg i (by omega)
    have next : (b, m) ∈ sc_fr K (i + 1) → ∃ q r, i ≤ q ∧ q < n ∧ (K q = 20 ∨ K q = 21 ∨ K q = 23) ∧ sc_fr K q = (b, m) :: r := by
      intro h
      obtain ⟨q, r, hq, hn, hc, e⟩ := ih (i + 1) (by omega) h
      exact ⟨q, r, by omega, hn, hc, e⟩
    by_cases h1 : K i = 19 ∨ K i = 22
    · exact next (by rw [sc_s_open h1]; exact List.mem_cons_of_mem _ h)
    · by_cases h2 : K i = 20 ∨ K i = 21 ∨ K i = 23
      · cases e : sc_fr K i with
        | nil => rw [e] at h; cases h
        | cons f r =>
          rw [e] at h
          rcases List.mem_cons.mp h with h | h
          · exact ⟨i, r, Nat.le_refl _, by omega, h2, by rw [e, h]⟩
          · refine next ?_
            rcases h2 with h2 | h2
            · rw [sc_s_else h2, e]; exact List.mem_cons_of_mem _ h
            · rw [sc_s_end h2, e]; exact h
      · exact next (by rw [sc_s_plain (by omega)]; exact h)
/-- how many blocks were opened ahead of i -/
def sc_cnt (K : Nat → Nat) : Nat → Nat
  | 0 => 0
  | i + 1 => sc_cnt K i + (if K i = 19 ∨ K i = 20 ∨ K i = 22 then 1 else 0)
theorem sc_cnt_op {i : Nat} (h : K i = 19 ∨ K i = 20 ∨ K i = 22) : sc_cnt K (i + 1) = sc_cnt K i + 1 := by simp only [sc_cnt, if_pos h]
theorem sc_cnt_n {i : Nat} (h : ¬ (K i = 19 ∨ K i = 20 ∨ K i = 22)) : sc_cnt K (i + 1) = sc_cnt K i := by simp only [sc_cnt, if_neg h, Nat.add_zero]
theorem sc_cnt_mono {i j : Nat} (h : i ≤ j) : sc_cnt K i ≤ sc_cnt K j := by
  obtain ⟨d, rfl⟩ : ∃ d, j = i + d := ⟨j - i, by omega⟩
  clear h
  induction d with
  | zero => exact Nat.le_refl _
  | succ d ih => rw [← Nat.add_assoc]; simp only [sc_cnt]; omega
theorem sc_cnt_le (i : Nat) : sc_cnt K i ≤ i := by
  induction i with
  | zero => simp [sc_cnt]
  | succ i ih => simp only [sc_cnt]; split <;> omega
/-- strictly more behind an opening line -/
theorem sc_cnt_lt {b c : Nat} (h : b < c) (ho : sc_op (K (c - 1))) : sc_cnt K b < sc_cnt K c := by
  obtain ⟨d, rfl⟩ : ∃ d, c = d + 1 := ⟨c - 1, by omega⟩
  rw [Nat.add_sub_cancel] at ho
  rw [sc_cnt_op ho]
  have := sc_cnt_mono (K := K) (show b ≤ d by omega)
  omega
theorem sc_cnt_inj {b c : Nat} (hb : b = 0 ∨ sc_op (K (b - 1))) (hc : c = 0 ∨ sc_op (K (c - 1))) (e : sc_cnt K b = sc_cnt K c) : b = c := by
  rcases Nat.lt_trichotomy b c with l | l | l
  · rcases hc with hc | hc
    · omega
    · have := sc_cnt_lt l hc; omega
  · exact l
  · rcases hb with hb | hb
    · omega
    · have := sc_cnt_lt l hb; omega
end
end
section
section
theorem nb_m1 {b : Nat} (h : 1 ≤ b) : nI b - 1 = nI (b - 1) := by
  obtain ⟨c, rfl⟩ : ∃ c, b = c + 1 := ⟨b - 1, by omega⟩
  exact nI_pred c
theorem nb_34 {j s : Nat} : nI j * 3 + nI s = nI (3 * j + s) := by
  rw [show (3 : Int32) = nI 3 from rfl, pk_mul, nI_add, Nat.mul_comm]
theorem sc_hd_nil : sc_hd [] = 0 := rfl
theorem sc_hd_cons (b m : Nat) (r : List (Nat × Nat)) : sc_hd ((b, m) :: r) = b := rfl
/-- which slots hold an operand -/
def sc_us (k s : Nat) : Prop :=
  (s = 0 ∧ (3 ≤ k ∧ k ≤ 10 ∨ 12 ≤ k ∧ k ≤ 15 ∨ k = 19)) ∨ (s = 1 ∧ (3 ≤ k ∧ k ≤ 8 ∨ k = 10 ∨ 16 ≤ k ∧ k ≤ 18)) ∨ (s = 2 ∧ k = 10)
def sc_o3 (A B C : Nat → Int32) (s i : Nat) : Int32 := if s = 0 then A i else if s = 1 then B i else C i
/-- the blocks of a row of frames, and the whole program -/
def sc_in (b : Nat) (l : List (Nat × Nat)) : Prop := b = 0 ∨ ∃ m, (b, m) ∈ l
/-- operand s of line i is an earlier line with a value -/
def sc_ov (K : Nat → Nat) (A B C : Nat → Int32) (s i : Nat) : Prop := ∃ x, x < i ∧ sc_o3 A B C s i = nI x ∧ K x ≤ 16
/-- and it stands in a block that is open -/
def sc_oo (K : Nat → Nat) (A B C : Nat → Int32) (s i : Nat) : Prop := sc_in (sc_hd (sc_lf K (sc_o3 A B C s i).toNatClampNeg)) (sc_lf K i)
/-- what is wrong with line i -/
def sc_ck (K : Nat → Nat) (A B C : Nat → Int32) (i c : Nat) : Prop :=
  (¬ sc_fits K i ∧ c = 1) ∨
  (sc_fits K i ∧ (∃ s, s < 3 ∧ sc_us (K i) s ∧ ¬ sc_ov K A B C s i) ∧ c = 2) ∨
  (sc_fits K i ∧ (∀ s, s < 3 → sc_us (K i) s → sc_ov K A B C s i) ∧ (∃ s, s < 3 ∧ sc_us (K i) s ∧ ¬ sc_oo K A B C s i) ∧ c = 3) ∨
  (sc_fits K i ∧ (∀ s, s < 3 → sc_us (K i) s → sc_ov K A B C s i) ∧ (∀ s, s < 3 → sc_us (K i) s → sc_oo K A B C s i) ∧ c = 0)
def sc_ok (K : Nat → Nat) (A B C : Nat → Int32) (i : Nat) : Prop := ∀ j, j < i → sc_ck K A B C j 0
theorem sc_ck0 {K : Nat → Nat} {A B C : Nat → Int32} {i : Nat} (h : sc_ck K A B C i 0) : sc_fits K i ∧ (∀ s, s < 3 → sc_us (K i) s → sc_ov K A B C s i) ∧ (∀ s, s < 3 → sc_us (K i) s → sc_oo K A B C s i) := by
  rcases h with ⟨_, h⟩ | ⟨_, _, h⟩ | ⟨_, _, _, h⟩ | ⟨h1, h2, h3, _⟩
  · omega
  · omega
  · omega
  · exact ⟨h1, h2, h3⟩
theorem sc_ok_good {K : Nat → Nat} {A B C : Nat → Int32} {i : Nat} (h : sc_ok K A B C i) : sc_good K i := fun j hj => (sc_ck0 (h j hj)).1
/-- X's arrays of the first i lines -/
def xs_A (K : Nat → Nat) (A B C : Nat → Int32) (i : Nat) (home depth closer mate operands : Nat → Int32) : Prop :=
  ∀ j, j < i → home j = nI (sc_hd (sc_lf K j)) ∧ depth j = nI (sc_lf K j).length ∧ mate j = nI (sc_mt K j) ∧
    ((K j = 20 ∨ K j = 21 ∨ K j = 23) → closer (sc_hd (sc_fr K j)) = nI j) ∧
    ∀ s, s < 3 → (sc_us (K j) s → operands (3 * j + s) = sc_o3 A B C s j) ∧ (¬ sc_us (K j) s → operands (3 * j + s) = -1)
end
section
variable {K : Nat → Nat} {n : Nat}
variable {f_lines f_studied f_wrong f_wrongAt f_brief f_on f_dropped f_steps f_nextLine f_repeats : Int32} {a_kinds a_firsts a_seconds a_thirds a_inputs a_home a_depth a_closer a_mate a_operands a_varies a_parted a_variableVaries a_same a_fixed a_worth a_needed a_variableNeeded a_values a_variables a_outputs a_cells a_whole a_waiting : Nat → Int32}
/-- BREAK within a LOOP, by X's walk outwards -/
theorem xs_inLoop (hn : n ≤ 48) (hK : ∀ j, j < n → a_kinds j = nI (K j) ∧ K j ≤ 25) {post : Int32 → Prop} {w : Nat} (hw : w ≤ n) (hg : sc_good K w) (hA : ∀ j, j < w → a_home j = nI (sc_hd (sc_lf K j))) :
    ∀ (l : List (Nat × Nat)) (j t : Nat), j ≤ w → sc_fr K j = l → t + l.length ≤ 4 → ((∃ f, f ∈ l ∧ K f.2 = 22) → post 1) → ((¬ ∃ f, f ∈ l ∧ K f.2 = 22) → post 0) → ∀ d, l.length < d → wX_isInLoop_4 post f_lines f_studied f_wrong f_wrongAt f_brief f_on f_dropped f_steps f_nextLine f_repeats a_kinds a_firsts a_seconds a_thirds a_inputs a_home a_depth a_closer a_mate a_operands a_varies a_parted a_variableVaries a_same a_fixed a_worth a_needed a_variableNeeded a_values a_variables a_outputs a_cells a_whole a_waiting d (nI (sc_hd l)) (nI t) := by
  intro l
  induction l with
  | nil =>
    intro j t hj e ht h1 h0 d hd
    obtain ⟨d, rfl⟩ : ∃ e, d = e + 1 := ⟨d - 1, by simp at hd; omega⟩
    have h0' := h0 (by simp)
    exact br_c (fun _ => h0') (fun _ => br_t rfl h0')
  | cons f r ih =>
    obtain ⟨b, m⟩ := f
    intro j t hj e ht h1 h0 d hd
    have T := sc_top j (sc_good_le hg hj) _ _ _ e
    simp only [List.length_cons] at ht hd
    obtain ⟨d, rfl⟩ : ∃ e, d = e + 1 := ⟨d - 1, by omega⟩
    have tb : b ≤ w := by have := T.2.1; omega
    have tb1 := T.1
    have ei : nI b - 1 = nI (b - 1) := nb_m1 tb1
    have cl : (nI b - 1).toNatClampNeg = b - 1 := by rw [ei, nI_clamp (by omega)]
    have hin : vp_in (nI b - 1) 48 := by rw [ei]; exact vp_in_nI (by omega) (by omega)
    have kb := hK (b - 1) (by omega)
    have hb := hA (b - 1) (by omega)
    rw [sc_hd_cons]
    refine br_f (nI_ge (b := 4) (by omega) (by decide)) (br_f (nI_ne0 (by omega) (by omega)) ⟨hin, ?_⟩)
    rw [cl, kb.1, hb, T.2.2.2.2.1]
    refine pk_eq (K (b - 1)) 22 (fun h22 => ?_) (fun h22 => ⟨hin, nm_e (nm_r (nI_1 t) ?_)⟩)
    · refine h1 ⟨(b, m), List.mem_cons_self .., ?_⟩
      rcases T.2.2.2.1 with ⟨h, _⟩ | ⟨h, _⟩
      · rw [h, Nat.add_sub_cancel] at h22; exact h22
      · omega
    · have hm : K m ≠ 22 := by
        rcases T.2.2.2.1 with ⟨h, _⟩ | ⟨_, h, _⟩
        · rw [h, Nat.add_sub_cancel] at h22; exact h22
        · omega
      refine ih m (t + 1) (by have := T.2.2.1; omega) T.2.2.2.2.2.1 (by omega) (fun ⟨f, hf, k⟩ => h1 ⟨f, List.mem_cons_of_mem _ hf, k⟩) (fun hn => h0 ?_) d (by omega)
      rintro ⟨f, hf, k⟩
      rcases List.mem_cons.mp hf with h | h
      · rw [h] at k; exact hm k
      · exact hn ⟨f, h, k⟩
/-- X's walk outwards from line i's own block -/
theorem xs_open (hn : n ≤ 48) {post : Int32 → Prop} {w b0 : Nat} (hw : w ≤ n) (hg : sc_good K w) (hA : ∀ j, j < w → a_home j = nI (sc_hd (sc_lf K j))) (h48 : b0 ≤ 48) :
    ∀ (l : List (Nat × Nat)) (j t : Nat), j ≤ w → sc_fr K j = l → t + l.length ≤ 4 → (sc_in b0 l → post 1) → (¬ sc_in b0 l → post 0) → ∀ d, l.length < d → wX_isOpen_10 post (nI b0) f_lines f_studied f_wrong f_wrongAt f_brief f_on f_dropped f_steps f_nextLine f_repeats a_kinds a_firsts a_seconds a_thirds a_inputs a_home a_depth a_closer a_mate a_operands a_varies a_parted a_variableVaries a_same a_fixed a_worth a_needed a_variableNeeded a_values a_variables a_outputs a_cells a_whole a_waiting d (nI (sc_hd l)) (nI t) := by
  intro l
  induction l with
  | nil =>
    intro j t hj e ht h1 h0 d hd
    obtain ⟨d, rfl⟩ : ∃ e, d = e + 1 := ⟨d - 1, by simp at hd; omega⟩
    have key : wX_isOpen_40 post (nI b0) (nI (sc_hd [])) f_lines f_studied f_wrong f_wrongAt f_brief f_on f_dropped f_steps f_nextLine f_repeats a_kinds a_firsts a_seconds a_thirds a_inputs a_home a_depth a_closer a_mate a_operands a_varies a_parted a_variableVaries a_same a_fixed a_worth a_needed a_variableNeeded a_values a_variables a_outputs a_cells a_whole a_waiting := by
      refine pk_eq 0 b0 (fun h => h1 (Or.inl h.symm)) (fun h => h0 ?_)
      rintro (h' | ⟨m, h'⟩)
      · exact h h'.symm
      · cases h'
    exact br_c (fun _ => key) (fun _ => br_c (fun _ => key) (fun _ => br_t rfl key))
  | cons f r ih =>
    obtain ⟨b, m⟩ := f
    intro j t hj e ht h1 h0 d hd
    have T := sc_top j (sc_good_le hg hj) _ _ _ e
    simp only [List.length_cons] at ht hd
    obtain ⟨d, rfl⟩ : ∃ e, d = e + 1 := ⟨d - 1, by omega⟩
    have tb : b ≤ w := by have := T.2.1; omega
    have tb1 := T.1
    have ei : nI b - 1 = nI (b - 1) := nb_m1 tb1
    have cl : (nI b - 1).toNatClampNeg = b - 1 := by rw [ei, nI_clamp (by omega)]
    have hin : vp_in (nI b - 1) 48 := by rw [ei]; exact vp_in_nI (by omega) (by omega)
    have hb := hA (b - 1) (by omega)
    refine br_f (nI_ge (b := 4) (by omega) (by decide)) ?_
    rw [sc_hd_cons]
    refine pk_eq b b0 (fun h => ?_) (fun hne => br_f (nI_ne0 (by omega) (by omega)) ⟨hin, ?_⟩)
    · exact br_t (by rw [h]) (h1 (Or.inr ⟨m, by rw [h]; exact List.mem_cons_self ..⟩))
    · rw [cl, hb, T.2.2.2.2.1]
      refine nm_e (nm_r (nI_1 t) (ih m (t + 1) (by have := T.2.2.1; omega) T.2.2.2.2.2.1 (by omega) (fun h => h1 ?_) (fun h => h0 ?_) d (by omega)))
      · rcases h with h | ⟨m', h⟩
        · exact Or.inl h
        · exact Or.inr ⟨m', List.mem_cons_of_mem _ h⟩
      · rintro (h' | ⟨m', h'⟩)
        · exact h (Or.inl h')
        · rcases List.mem_cons.mp h' with h2 | h2
          · cases h2; exact hne rfl
          · exact h (Or.inr ⟨m', h2⟩)
/-- frames of line i itself are those ahead of some line -/
theorem sc_lf_fr {i : Nat} (hg : sc_good K (i + 1)) : ∃ j, j ≤ i ∧ sc_fr K j = sc_lf K i := by
  by_cases h : K i = 20 ∨ K i = 21 ∨ K i = 23
  · have hf := hg i (by omega)
    have : ∃ b m r, sc_fr K i = (b, m) :: r := by
      rcases h with h | h | h
      · obtain ⟨m, r, e, _⟩ := hf.2.1 h; exact ⟨_, _, _, e⟩
      · obtain ⟨b, m, r, e, _⟩ := hf.2.2.1 h; exact ⟨_, _, _, e⟩
      · obtain ⟨b, m, r, e, _⟩ := hf.2.2.2.1 h; exact ⟨_, _, _, e⟩
    obtain ⟨b, m, r, e⟩ := this
    have T := sc_top i (sc_good_le hg (by omega)) _ _ _ e
    refine ⟨m, by have := T.2.1; have := T.2.2.1; omega, ?_⟩
    rw [T.2.2.2.2.2.1, sc_lf_cl h, e]; rfl
  · exact ⟨i, Nat.le_refl _, (sc_lf_n h).symm⟩
theorem sc_lf_len {i : Nat} (hg : sc_good K (i + 1)) : (sc_lf K i).length ≤ 4 := by
  obtain ⟨j, hj, e⟩ := sc_lf_fr hg
  rw [← e]; exact sc_len j (sc_good_le hg (by omega))
theorem sc_hd_le {j : Nat} (hg : sc_good K j) : sc_hd (sc_fr K j) ≤ j := by
  cases e : sc_fr K j with
  | nil => simp [sc_hd_nil]
  | cons f r => obtain ⟨b, m⟩ := f; exact (sc_top j hg _ _ _ e).2.1
theorem sc_hdl_le {i : Nat} (hg : sc_good K (i + 1)) : sc_hd (sc_lf K i) ≤ i := by
  obtain ⟨j, hj, e⟩ := sc_lf_fr hg
  rw [← e]; exact Nat.le_trans (sc_hd_le (sc_good_le hg (by omega))) hj
theorem xs_isOpen (hn : n ≤ 48) {post : Int32 → Prop} {w b0 i : Nat} (hw : w ≤ n) (hg : sc_good K w) (hA : ∀ j, j < w → a_home j = nI (sc_hd (sc_lf K j))) (h48 : b0 ≤ 48) (hi : i < w) (h1 : sc_in b0 (sc_lf K i) → post 1) (h0 : ¬ sc_in b0 (sc_lf K i) → post 0) : wpX_isOpen post (f_lines, f_studied, f_wrong, f_wrongAt, f_brief, f_on, f_dropped, f_steps, f_nextLine, f_repeats, a_kinds, a_firsts, a_seconds, a_thirds, a_inputs, a_home, a_depth, a_closer, a_mate, a_operands, a_varies, a_parted, a_variableVaries, a_same, a_fixed, a_worth, a_needed, a_variableNeeded, a_values, a_variables, a_outputs, a_cells, a_whole, a_waiting) (nI b0) (nI i) := by
  have gi : sc_good K (i + 1) := sc_good_le hg (by omega)
  obtain ⟨j, hj, e⟩ := sc_lf_fr gi
  have l := sc_lf_len gi
  refine ⟨vp_in_nI (by omega) (by omega), nm_c (nI_clamp (by omega)) (hA i hi) ⟨5, ?_⟩⟩
  exact xs_open hn hw hg hA h48 (sc_lf K i) j 0 (by omega) e (by omega) h1 h0 5 (by omega)
end
end
section
section
variable {K : Nat → Nat} {n : Nat}
variable {f_lines f_studied f_wrong f_wrongAt f_brief f_on f_dropped f_steps f_nextLine f_repeats : Int32} {a_kinds a_firsts a_seconds a_thirds a_inputs a_home a_depth a_closer a_mate a_operands a_varies a_parted a_variableVaries a_same a_fixed a_worth a_needed a_variableNeeded a_values a_variables a_outputs a_cells a_whole a_waiting : Nat → Int32}
theorem xs_f16 {post : Int32 → Prop} {x2 z0 : Int32} (k : Nat) (hk : k ≤ 25) (hp : ¬ (k = 19 ∨ k = 20 ∨ k = 21 ∨ k = 22 ∨ k = 23 ∨ k = 24) → post 1) (ho : (k = 19 ∨ k = 22) → wX_fits_56 post x2 f_lines f_studied f_wrong f_wrongAt f_brief f_on f_dropped f_steps f_nextLine f_repeats a_kinds a_firsts a_seconds a_thirds a_inputs a_home a_depth a_closer a_mate a_operands a_varies a_parted a_variableVaries a_same a_fixed a_worth a_needed a_variableNeeded a_values a_variables a_outputs a_cells a_whole a_waiting) (he : k = 20 → ((z0 = 19 → post 1) ∧ (¬ z0 = 19 → post 0))) (hd : k = 21 → ((z0 = 19 → post 1) ∧ (¬ z0 = 19 → ((z0 = 20 → post 1) ∧ (¬ z0 = 20 → post 0))))) (ha : k = 23 → ((z0 = 22 → post 1) ∧ (¬ z0 = 22 → post 0))) (hb : k = 24 → wpX_isInLoop (fun r_18 => (narrow .boolean (.int r_18) = .int r_18 ∧ (post r_18))) (f_lines, f_studied, f_wrong, f_wrongAt, f_brief, f_on, f_dropped, f_steps, f_nextLine, f_repeats, a_kinds, a_firsts, a_seconds, a_thirds, a_inputs, a_home, a_depth, a_closer, a_mate, a_operands, a_varies, a_parted, a_variableVaries, a_same, a_fixed, a_worth, a_needed, a_variableNeeded, a_values, a_variables, a_outputs, a_cells, a_whole, a_waiting) x2) : wX_fits_16 post (nI k) x2 z0 f_lines f_studied f_wrong f_wrongAt f_brief f_on f_dropped f_steps f_nextLine f_repeats a_kinds a_firsts a_seconds a_thirds a_inputs a_home a_depth a_closer a_mate a_operands a_varies a_parted a_variableVaries a_same a_fixed a_worth a_needed a_variableNeeded a_values a_variables a_outputs a_cells a_whole a_waiting :=
  pk_lt k 19 (fun h => hp (by omega)) (fun _ => pk_lt 24 k (fun h => hp (by omega)) (fun _ => pk_eq k 19 (fun h => ho (Or.inl h)) (fun _ => pk_eq k 20 he (fun _ => pk_eq k 21 hd (fun _ => pk_eq k 22 (fun h => ho (Or.inr h)) (fun _ => pk_eq k 23 ha (fun _ => pk_eq k 24 hb (fun _ => trivial))))))))
theorem xs_nb1 : narrow .boolean (.int 1) = .int 1 := by decide
theorem xs_nb0 : narrow .boolean (.int 0) = .int 0 := by decide
theorem xs_fits (hn : n ≤ 48) (hK : ∀ j, j < n → a_kinds j = nI (K j) ∧ K j ≤ 25) {post : Int32 → Prop} {i : Nat} (hi : i < n) (hg : sc_good K i) (hA : ∀ j, j < i → a_home j = nI (sc_hd (sc_lf K j)) ∧ a_depth j = nI (sc_lf K j).length) (h1 : sc_fits K i → post 1) (h0 : ¬ sc_fits K i → post 0) : wpX_fits post (f_lines, f_studied, f_wrong, f_wrongAt, f_brief, f_on, f_dropped, f_steps, f_nextLine, f_repeats, a_kinds, a_firsts, a_seconds, a_thirds, a_inputs, a_home, a_depth, a_closer, a_mate, a_operands, a_varies, a_parted, a_variableVaries, a_same, a_fixed, a_worth, a_needed, a_variableNeeded, a_values, a_variables, a_outputs, a_cells, a_whole, a_waiting) (nI (K i)) (nI (sc_hd (sc_fr K i))) := by
  have k25 := (hK i hi).2
  cases e : sc_fr K i with
  | nil =>
    refine br_t rfl (xs_f16 (K i) k25 (fun h => h1 ⟨by omega, by omega, by omega, by omega, by omega⟩) (fun h => br_t rfl (h1 ⟨fun _ => by rw [e]; decide, by omega, by omega, by omega, by omega⟩)) (fun h => br_f (by decide) (h0 ?_)) (fun h => br_f (by decide) (br_f (by decide) (h0 ?_))) (fun h => br_f (by decide) (h0 ?_)) (fun h => ⟨1, br_f (by decide) (br_t rfl ⟨xs_nb0, h0 ?_⟩)⟩))
    · rintro ⟨_, f, _⟩; obtain ⟨m, r, e', _⟩ := f h; rw [e] at e'; cases e'
    · rintro ⟨_, _, f, _⟩; obtain ⟨b, m, r, e', _⟩ := f h; rw [e] at e'; cases e'
    · rintro ⟨_, _, _, f, _⟩; obtain ⟨b, m, r, e', _⟩ := f h; rw [e] at e'; cases e'
    · rintro ⟨_, _, _, _, f⟩; obtain ⟨b, hb, _⟩ := f h; rw [e] at hb; cases hb
  | cons f r =>
    obtain ⟨b, m⟩ := f
    have T := sc_top i hg _ _ _ e
    have tb1 := T.1
    have tb2 := T.2.1
    have ei : nI b - 1 = nI (b - 1) := nb_m1 tb1
    have cl : (nI b - 1).toNatClampNeg = b - 1 := by rw [ei, nI_clamp (by omega)]
    have hin : vp_in (nI b - 1) 48 := by rw [ei]; exact vp_in_nI (by omega) (by omega)
    have kb := hK (b - 1) (by omega)
    have hb := hA (b - 1) (by omega)
    have hl := sc_len i hg
    rw [e] at hl
    simp only [List.length_cons] at hl
    rw [sc_hd_cons]
    refine br_f (nI_ne0 (by omega) (by omega)) ⟨hin, ?_⟩
    rw [cl, kb.1]
    refine xs_f16 (K i) k25 (fun h => h1 ⟨by omega, by omega, by omega, by omega, by omega⟩) (fun h => br_f (nI_ne0 (by omega) (by omega)) ⟨hin, ?_⟩) (fun h => pk_eq (K (b - 1)) 19 (fun h19 => h1 ?_) (fun h19 => h0 ?_)) (fun h => pk_eq (K (b - 1)) 19 (fun h19 => h1 ?_) (fun h19 => pk_eq (K (b - 1)) 20 (fun h20 => h1 ?_) (fun h20 => h0 ?_))) (fun h => pk_eq (K (b - 1)) 22 (fun h22 => h1 ?_) (fun h22 => h0 ?_)) (fun h => ?_)
    · rw [cl, hb.2, T.2.2.2.2.1, nI_1]
      refine pk_le 4 (r.length + 1) (fun h4 => h0 ?_) (fun h4 => h1 ?_)
      · rintro ⟨f, _⟩; have := f h; rw [e] at this; simp only [List.length_cons] at this; omega
      · exact ⟨fun _ => by rw [e]; simp only [List.length_cons]; omega, by omega, by omega, by omega, by omega⟩
    · refine ⟨by omega, fun _ => ?_, by omega, by omega, by omega⟩
      rcases T.2.2.2.1 with ⟨h', _⟩ | ⟨h', _⟩
      · refine ⟨m, r, by rw [e, h'], ?_⟩; rw [h', Nat.add_sub_cancel] at h19; exact h19
      · omega
    · rintro ⟨_, f, _⟩; obtain ⟨m', r', e', k'⟩ := f h
      rw [e] at e'
      simp only [List.cons.injEq, Prod.mk.injEq] at e'
      apply h19; rw [e'.1.1, Nat.add_sub_cancel]; exact k'
    · refine ⟨by omega, by omega, fun _ => ⟨b, m, r, e, ?_⟩, by omega, by omega⟩
      rcases T.2.2.2.1 with ⟨h', _⟩ | ⟨h', _, _⟩
      · rw [h', Nat.add_sub_cancel] at h19; exact h19
      · omega
    · refine ⟨by omega, by omega, fun _ => ⟨b, m, r, e, ?_⟩, by omega, by omega⟩
      rcases T.2.2.2.1 with ⟨h', h''⟩ | ⟨_, h', _⟩
      · rw [h', Nat.add_sub_cancel] at h20; omega
      · exact h'
    · rintro ⟨_, _, f, _⟩; obtain ⟨b', m', r', e', k'⟩ := f h
      rw [e] at e'
      simp only [List.cons.injEq, Prod.mk.injEq] at e'
      rcases T.2.2.2.1 with ⟨h', h''⟩ | ⟨h', _⟩
      · apply h19; rw [h', Nat.add_sub_cancel, e'.1.2]; exact k'
      · exact h20 h'
    · refine ⟨by omega, by omega, by omega, fun _ => ⟨b, m, r, e, ?_⟩, by omega⟩
      rcases T.2.2.2.1 with ⟨h', _⟩ | ⟨h', _⟩
      · rw [h', Nat.add_sub_cancel] at h22; exact h22
      · omega
    · rintro ⟨_, _, _, f, _⟩; obtain ⟨b', m', r', e', k'⟩ := f h
      rw [e] at e'
      simp only [List.cons.injEq, Prod.mk.injEq] at e'
      rcases T.2.2.2.1 with ⟨h', h''⟩ | ⟨_, h', _⟩
      · apply h22; rw [h', Nat.add_sub_cancel, e'.1.2]; exact k'
      · rw [e'.1.2] at h'; omega
    · refine ⟨5, ?_⟩
      refine xs_inLoop (post := fun r_18 => (narrow .boolean (.int r_18) = .int r_18 ∧ (post r_18))) hn hK (show i ≤ n by omega) hg (fun j hj => (hA j hj).1) ((b, m) :: r) i 0 (Nat.le_refl _) e (by simp only [List.length_cons]; omega) (fun h2 => ⟨xs_nb1, h1 ⟨by omega, by omega, by omega, by omega, fun _ => by rw [e]; exact h2⟩⟩) (fun h2 => ⟨xs_nb0, h0 ?_⟩) 5 (by simp only [List.length_cons]; omega)
      rintro ⟨_, _, _, _, f⟩; have := f h; rw [e] at this; exact h2 this
def xs_cl (K : Nat → Nat) (i : Nat) (c : Nat → Int32) : Nat → Int32 := if K i = 20 ∨ K i = 21 ∨ K i = 23 then upd c (sc_hd (sc_fr K i)) (nI i) else c
theorem xs_settle (hn : n ≤ 48) (hK : ∀ j, j < n → a_kinds j = nI (K j) ∧ K j ≤ 25) {post : Int32 → SX → Prop} {i : Nat} (hi : i < n) (hg : sc_good K i) (hf : sc_fits K i) (hA : ∀ j, j < i → a_home j = nI (sc_hd (sc_lf K j)) ∧ a_depth j = nI (sc_lf K j).length ∧ a_mate j = nI (sc_mt K j))
    (h : post (nI (sc_hd (sc_fr K (i + 1)))) (f_lines, f_studied, f_wrong, f_wrongAt, f_brief, f_on, f_dropped, f_steps, f_nextLine, f_repeats, a_kinds, a_firsts, a_seconds, a_thirds, a_inputs, upd a_home i (nI (sc_hd (sc_lf K i))), upd a_depth i (nI (sc_lf K i).length), xs_cl K i a_closer, upd a_mate i (nI (sc_mt K i)), a_operands, a_varies, a_parted, a_variableVaries, a_same, a_fixed, a_worth, a_needed, a_variableNeeded, a_values, a_variables, a_outputs, a_cells, a_whole, a_waiting)) : wpX_settle post (f_lines, f_studied, f_wrong, f_wrongAt, f_brief, f_on, f_dropped, f_steps, f_nextLine, f_repeats, a_kinds, a_firsts, a_seconds, a_thirds, a_inputs, a_home, a_depth, a_closer, a_mate, a_operands, a_varies, a_parted, a_variableVaries, a_same, a_fixed, a_worth, a_needed, a_variableNeeded, a_values, a_variables, a_outputs, a_cells, a_whole, a_waiting) (nI i) (nI (sc_hd (sc_fr K i))) := by
  have ci : (nI i).toNatClampNeg = i := nI_clamp (by omega)
  have hin : vp_in (nI i) 48 := vp_in_nI (by omega) (by omega)
  have ki := hK i hi
  refine ⟨hin, nm_c ci ki.1 ?_⟩
  have closing : (K i = 20 ∨ K i = 21 ∨ K i = 23) → wX_settle_25 post (nI i) (nI (sc_hd (sc_fr K i))) (nI (K i)) f_lines f_studied f_wrong f_wrongAt f_brief f_on f_dropped f_steps f_nextLine f_repeats a_kinds a_firsts a_seconds a_thirds a_inputs a_home a_depth a_closer a_mate a_operands a_varies a_parted a_variableVaries a_same a_fixed a_worth a_needed a_variableNeeded a_values a_variables a_outputs a_cells a_whole a_waiting := by
    intro hc
    have : ∃ b m r, sc_fr K i = (b, m) :: r := by
      rcases hc with hc | hc | hc
      · obtain ⟨m, r, e, _⟩ := hf.2.1 hc; exact ⟨_, _, _, e⟩
      · obtain ⟨b, m, r, e, _⟩ := hf.2.2.1 hc; exact ⟨_, _, _, e⟩
      · obtain ⟨b, m, r, e, _⟩ := hf.2.2.2.1 hc; exact ⟨_, _, _, e⟩
    obtain ⟨b, m, r, e⟩ := this
    have T := sc_top i hg _ _ _ e
    have tb1 := T.1
    have tb2 := T.2.1
    have elf : sc_lf K i = r := by rw [sc_lf_cl hc, e]; rfl
    have emt : sc_mt K i = m := by rw [sc_mt_cl hc, e]; rfl
    have hb := hA (b - 1) (by omega)
    have inb : vp_in (nI (b - 1)) 48 := vp_in_nI (by omega) (by omega)
    have cb : (nI (b - 1)).toNatClampNeg = b - 1 := nI_clamp (by omega)
    rw [elf, emt, show xs_cl K i a_closer = upd a_closer b (nI i) from by rw [xs_cl, if_pos hc, e]; rfl] at h
    rw [e, sc_hd_cons]
    refine nm_r (nb_m1 tb1) ⟨vp_in_nI (by omega) (by omega), nm_r (e' := upd a_closer b (nI i)) (by rw [nI_clamp (by omega)]) ⟨inb, hin, nm_r (e' := upd a_home i (nI (sc_hd r))) (by rw [ci, cb, hb.1, T.2.2.2.2.1]) ⟨inb, hin, nm_r (e' := upd a_depth i (nI r.length)) (by rw [ci, cb, hb.2.1, T.2.2.2.2.1]) ⟨inb, hin, nm_r (e' := upd a_mate i (nI m)) (by rw [ci, cb, hb.2.2, T.2.2.2.2.2.2.1]) (pk_eq (K i) 20 (fun h20 => ?_) (fun h20 => ⟨hin, ?_⟩))⟩⟩⟩⟩
    · rw [sc_s_else h20, sc_hd_cons] at h
      rw [nI_1]; exact h
    · rw [sc_s_end (by omega), e] at h
      rw [ci, pk_us]; exact h
  refine pk_eq (K i) 20 (fun h20 => closing (Or.inl h20)) (fun h20 => pk_eq (K i) 21 (fun h21 => closing (Or.inr (Or.inl h21))) (fun h21 => pk_eq (K i) 23 (fun h23 => closing (Or.inr (Or.inr h23))) (fun h23 => ⟨hin, nm_r (e' := upd a_home i (nI (sc_hd (sc_fr K i)))) (by rw [ci]) ?_⟩)))
  have nc : ¬ (K i = 20 ∨ K i = 21 ∨ K i = 23) := by omega
  rw [sc_lf_n nc, sc_mt_n nc, show xs_cl K i a_closer = a_closer from if_neg nc] at h
  have tail : wX_settle_125 post (nI i) (nI (sc_hd (sc_fr K i))) (nI (K i)) (nI (sc_fr K i).length) (nI i) f_lines f_studied f_wrong f_wrongAt f_brief f_on f_dropped f_steps f_nextLine f_repeats a_kinds a_firsts a_seconds a_thirds a_inputs (upd a_home i (nI (sc_hd (sc_fr K i)))) a_depth a_closer a_mate a_operands a_varies a_parted a_variableVaries a_same a_fixed a_worth a_needed a_variableNeeded a_values a_variables a_outputs a_cells a_whole a_waiting := by
    refine ⟨hin, nm_r (e' := upd a_depth i (nI (sc_fr K i).length)) (by rw [ci]) ⟨hin, nm_r (e' := upd a_mate i (nI i)) (by rw [ci]) (pk_eq (K i) 19 (fun h19 => ?_) (fun h19 => pk_eq (K i) 22 (fun h22 => ?_) (fun h22 => ?_)))⟩⟩
    · rw [sc_s_open (Or.inl h19), sc_hd_cons] at h; rw [nI_1]; exact h
    · rw [sc_s_open (Or.inr h22), sc_hd_cons] at h; rw [nI_1]; exact h
    · rw [sc_s_plain (by omega)] at h; exact h
  cases e : sc_fr K i with
  | nil => rw [e] at tail; exact br_t rfl tail
  | cons f r =>
    obtain ⟨b, m⟩ := f
    have T := sc_top i hg _ _ _ e
    have tb1 := T.1
    have tb2 := T.2.1
    have ei : nI b - 1 = nI (b - 1) := nb_m1 tb1
    have cl : (nI b - 1).toNatClampNeg = b - 1 := by rw [ei, nI_clamp (by omega)]
    have hb := hA (b - 1) (by omega)
    rw [e] at tail
    rw [sc_hd_cons] at tail ⊢
    refine br_f (nI_ne0 (by omega) (by omega)) ⟨by rw [ei]; exact vp_in_nI (by omega) (by omega), ?_⟩
    rw [cl, hb.2.1, T.2.2.2.2.1, nI_1]
    exact tail
theorem xs_has {post : Int32 → Prop} (k s : Nat) (hk : k ≤ 25) (hs : s < 3) (h1 : sc_us k s → post 1) (h0 : ¬ sc_us k s → post 0) : wpX_hasOperand post (nI k) (nI s) := by
  have t27 : s = 0 → ¬ (3 ≤ k ∧ k ≤ 10) → ¬ (12 ≤ k ∧ k ≤ 15) → wX_hasOperand_27 post (nI k) := fun h a b =>
    pk_eq k 19 (fun h' => h1 (by unfold sc_us; omega)) (fun h' => h0 (by unfold sc_us; omega))
  have t15 : s = 0 → ¬ (3 ≤ k ∧ k ≤ 10) → wX_hasOperand_15 post (nI k) := fun h a =>
    pk_lt k 12 (fun h' => t27 h a (by omega)) (fun h' => pk_le k 15 (fun h'' => h1 (by unfold sc_us; omega)) (fun h'' => t27 h a (by omega)))
  have t55 : s = 1 → ¬ (3 ≤ k ∧ k ≤ 8) → wX_hasOperand_55 post (nI k) := fun h a =>
    pk_eq k 10 (fun h' => h1 (by unfold sc_us; omega)) (fun h' => pk_lt k 16 (fun h'' => h0 (by unfold sc_us; omega)) (fun h'' => pk_lt 18 k (fun h3 => h0 (by unfold sc_us; omega)) (fun h3 => h1 (by unfold sc_us; omega))))
  exact pk_eq s 0 (fun hs0 => pk_lt k 3 (fun h => t15 hs0 (by omega)) (fun h => pk_le k 10 (fun h' => h1 (by unfold sc_us; omega)) (fun h' => t15 hs0 (by omega)))) (fun hs0 => pk_eq s 1 (fun hs1 => pk_lt k 3 (fun h => t55 hs1 (by omega)) (fun h => pk_le k 8 (fun h' => h1 (by unfold sc_us; omega)) (fun h' => t55 hs1 (by omega)))) (fun hs1 => pk_eq k 10 (fun h => h1 (by unfold sc_us; omega)) (fun h => h0 (by unfold sc_us; omega))))
theorem xs_uu {f : Nat → Int32} {k : Nat} {x y : Int32} : upd (upd f k x) k y = upd f k y := by
  funext j; simp only [upd]; split <;> rfl
/-- operands of line i after t slots -/
noncomputable def xs_op (K : Nat → Nat) (A B C : Nat → Int32) (f : Nat → Int32) (i : Nat) : Nat → Nat → Int32
  | 0 => f
  | t + 1 => upd (xs_op K A B C f i t) (3 * i + t) (@ite _ (sc_us (K i) t) (Classical.propDecidable _) (sc_o3 A B C t i) (-1))
theorem xs_gives {post : Int32 → Prop} (hK : ∀ j, j < n → a_kinds j = nI (K j) ∧ K j ≤ 25) (hn : n ≤ 48) {x : Nat} (hx : x < n) (h1 : K x ≤ 16 → post 1) (h0 : ¬ K x ≤ 16 → post 0) : wpX_givesValue post (f_lines, f_studied, f_wrong, f_wrongAt, f_brief, f_on, f_dropped, f_steps, f_nextLine, f_repeats, a_kinds, a_firsts, a_seconds, a_thirds, a_inputs, a_home, a_depth, a_closer, a_mate, a_operands, a_varies, a_parted, a_variableVaries, a_same, a_fixed, a_worth, a_needed, a_variableNeeded, a_values, a_variables, a_outputs, a_cells, a_whole, a_waiting) (nI x) := by
  have k := hK x hx
  refine ⟨vp_in_nI (by omega) (by omega), ?_⟩
  rw [nI_clamp (by omega), k.1]
  exact pk_lt 16 (K x) (fun h => h0 (by omega)) (fun h => h1 (by omega))
theorem xs_wrongOperand4 (hn : n ≤ 48) (hK : ∀ j, j < n → a_kinds j = nI (K j) ∧ K j ≤ 25) {post : Int32 → SX → Prop} {i : Nat} (hi : i < n) (hg : sc_good K (i + 1)) (hA : ∀ j, j < i + 1 → a_home j = nI (sc_hd (sc_lf K j)))
    (h2 : ∀ ops', (∃ s, s < 3 ∧ sc_us (K i) s ∧ ¬ sc_ov K a_firsts a_seconds a_thirds s i) → post 2 (f_lines, f_studied, f_wrong, f_wrongAt, f_brief, f_on, f_dropped, f_steps, f_nextLine, f_repeats, a_kinds, a_firsts, a_seconds, a_thirds, a_inputs, a_home, a_depth, a_closer, a_mate, ops', a_varies, a_parted, a_variableVaries, a_same, a_fixed, a_worth, a_needed, a_variableNeeded, a_values, a_variables, a_outputs, a_cells, a_whole, a_waiting))
    (h3 : (∀ s, s < 3 → sc_us (K i) s → sc_ov K a_firsts a_seconds a_thirds s i) → (∃ s, s < 3 ∧ sc_us (K i) s ∧ ¬ sc_oo K a_firsts a_seconds a_thirds s i) → post 3 (f_lines, f_studied, f_wrong, f_wrongAt, f_brief, f_on, f_dropped, f_steps, f_nextLine, f_repeats, a_kinds, a_firsts, a_seconds, a_thirds, a_inputs, a_home, a_depth, a_closer, a_mate, xs_op K a_firsts a_seconds a_thirds a_operands i 3, a_varies, a_parted, a_variableVaries, a_same, a_fixed, a_worth, a_needed, a_variableNeeded, a_values, a_variables, a_outputs, a_cells, a_whole, a_waiting))
    (h0 : (∀ s, s < 3 → sc_us (K i) s → sc_ov K a_firsts a_seconds a_thirds s i) → (∀ s, s < 3 → sc_us (K i) s → sc_oo K a_firsts a_seconds a_thirds s i) → post 0 (f_lines, f_studied, f_wrong, f_wrongAt, f_brief, f_on, f_dropped, f_steps, f_nextLine, f_repeats, a_kinds, a_firsts, a_seconds, a_thirds, a_inputs, a_home, a_depth, a_closer, a_mate, xs_op K a_firsts a_seconds a_thirds a_operands i 3, a_varies, a_parted, a_variableVaries, a_same, a_fixed, a_worth, a_needed, a_variableNeeded, a_values, a_variables, a_outputs, a_cells, a_whole, a_waiting)) :
    ∀ (d t : Nat) (w : Int32), t + d = 3 → (∀ s, s < t → sc_us (K i) s → sc_ov K a_firsts a_seconds a_thirds s i) → ((w = 3 ∧ ∃ s, s < t ∧ sc_us (K i) s ∧ ¬ sc_oo K a_firsts a_seconds a_thirds s i) ∨ (w = 0 ∧ ∀ s, s < t → sc_us (K i) s → sc_oo K a_firsts a_seconds a_thirds s i)) → wX_wrongOperand_4 post (nI i) f_lines f_studied f_wrong f_wrongAt f_brief f_on f_dropped f_steps f_nextLine f_repeats (d + 1) w (nI t) a_kinds a_firsts a_seconds a_thirds a_inputs a_home a_depth a_closer a_mate (xs_op K a_firsts a_seconds a_thirds a_operands i t) a_varies a_parted a_variableVaries a_same a_fixed a_worth a_needed a_variableNeeded a_values a_variables a_outputs a_cells a_whole a_waiting := by
  intro d
  induction d with
  | zero =>
    intro t w ht hv ho
    cases (show t = 3 by omega)
    refine br_t (by decide) ?_
    rcases ho with ⟨rfl, ho⟩ | ⟨rfl, ho⟩
    · exact h3 hv ho
    · exact h0 hv ho
  | succ d ih =>
    intro t w ht hv ho
    have ci : (nI i).toNatClampNeg = i := nI_clamp (by omega)
    have hin : vp_in (nI i) 48 := vp_in_nI (by omega) (by omega)
    have ea : nI i * 3 + nI t = nI (3 * i + t) := nb_34
    have ca : (nI i * 3 + nI t).toNatClampNeg = 3 * i + t := by rw [ea, nI_clamp (by omega)]
    have ia : vp_in (nI i * 3 + nI t) 144 := by rw [ea]; exact vp_in_nI (by omega) (by omega)
    have ki := hK i hi
    refine br_f (nI_ge (b := 3) (by omega) (by decide)) ⟨ia, nm_r (by rw [ca]) ⟨hin, ?_⟩⟩
    rw [ci, ki.1]
    have key : sc_us (K i) t → ∀ z0 : Int32, z0 = sc_o3 a_firsts a_seconds a_thirds t i → wX_wrongOperand_66 post (wX_wrongOperand_4 post (nI i) f_lines f_studied f_wrong f_wrongAt f_brief f_on f_dropped f_steps f_nextLine f_repeats (d + 1)) (nI i) w (nI t) z0 f_lines f_studied f_wrong f_wrongAt f_brief f_on f_dropped f_steps f_nextLine f_repeats a_kinds a_firsts a_seconds a_thirds a_inputs a_home a_depth a_closer a_mate (upd (xs_op K a_firsts a_seconds a_thirds a_operands i t) (3 * i + t) (-1)) a_varies a_parted a_variableVaries a_same a_fixed a_worth a_needed a_variableNeeded a_values a_variables a_outputs a_cells a_whole a_waiting := by
      intro hu z0 ez
      have no : ¬ sc_ov K a_firsts a_seconds a_thirds t i → post 2 (f_lines, f_studied, f_wrong, f_wrongAt, f_brief, f_on, f_dropped, f_steps, f_nextLine, f_repeats, a_kinds, a_firsts, a_seconds, a_thirds, a_inputs, a_home, a_depth, a_closer, a_mate, upd (xs_op K a_firsts a_seconds a_thirds a_operands i t) (3 * i + t) (-1), a_varies, a_parted, a_variableVaries, a_same, a_fixed, a_worth, a_needed, a_variableNeeded, a_values, a_variables, a_outputs, a_cells, a_whole, a_waiting) := fun h => h2 _ ⟨t, by omega, hu, h⟩
      rcases pk_ix z0 (n := i) (by omega) with h | h | ⟨x, hx, rfl⟩
      · refine br_t h (no ?_)
        rintro ⟨x, hx, e, _⟩
        rw [ez, e] at h; exact nI_pos (by omega) h
      · refine br_c (fun h' => no ?_) (fun _ => br_t h (no ?_))
        · rintro ⟨x, hx, e, _⟩
          rw [ez, e] at h'; exact nI_pos (by omega) h'
        · rintro ⟨x, hx, e, _⟩
          rw [ez, e] at h; exact nI_ge hx (by omega) h
      · refine br_f (nI_pos (by omega)) (br_f (nI_ge hx (by omega)) (xs_gives hK hn (by omega) (fun hk => br_f (by decide) ⟨vp_in_nI (by omega) (by omega), ?_⟩) (fun hk => br_t rfl (no ?_))))
        · have hov : sc_ov K a_firsts a_seconds a_thirds t i := ⟨x, hx, ez.symm, hk⟩
          have hv' : ∀ s, s < t + 1 → sc_us (K i) s → sc_ov K a_firsts a_seconds a_thirds s i := fun s hs hus => by
            by_cases h : s = t
            · rw [h]; exact hov
            · exact hv s (by omega) hus
          have eo : sc_oo K a_firsts a_seconds a_thirds t i ↔ sc_in (sc_hd (sc_lf K x)) (sc_lf K i) := by
            rw [sc_oo, ← ez, nI_clamp (by omega)]
          have eop : upd (upd (xs_op K a_firsts a_seconds a_thirds a_operands i t) (3 * i + t) (-1)) (nI i * 3 + nI t).toNatClampNeg (nI x) = xs_op K a_firsts a_seconds a_thirds a_operands i (t + 1) := by
            rw [ca, xs_uu]
            show _ = upd _ _ _
            rw [if_pos hu, ez]
          rw [nI_clamp (by omega), hA x (by omega)]
          refine xs_isOpen (K := K) (w := i + 1) hn (by omega) hg hA (Nat.le_trans (sc_hdl_le (sc_good_le hg (by omega))) (by omega)) (by omega) (fun hin1 => br_f (by decide) ⟨ia, nm_r eop (nm_r (nI_1 t) (ih (t + 1) w (by omega) hv' ?_))⟩) (fun hin0 => br_t rfl ⟨ia, nm_r eop (nm_r (nI_1 t) (ih (t + 1) 3 (by omega) hv' (Or.inl ⟨rfl, t, by omega, hu, fun h => hin0 (eo.mp h)⟩)))⟩)
          rcases ho with ⟨rfl, s, hs, hus, hno⟩ | ⟨rfl, ho⟩
          · exact Or.inl ⟨rfl, s, by omega, hus, hno⟩
          · refine Or.inr ⟨rfl, fun s hs hus => ?_⟩
            by_cases h : s = t
            · rw [h]; exact eo.mpr hin1
            · exact ho s (by omega) hus
        · rintro ⟨x', hx', e, hk'⟩
          rw [← ez] at e
          rw [nI_eq (by omega) (by omega)] at e
          rw [e] at hk; exact hk hk'
    refine xs_has (K i) t ki.2 (by omega) (fun hu => br_f (by decide) ?_) (fun hu => br_t rfl (nm_r (nI_1 t) ?_))
    · refine pk_eq t 0 (fun h => ⟨hin, key hu _ ?_⟩) (fun h => pk_eq t 1 (fun h => ⟨hin, key hu _ ?_⟩) (fun h' => ⟨hin, key hu _ ?_⟩))
      · rw [h]; rfl
      · rw [h]; rfl
      · rw [show t = 2 by omega]; rfl
    · have eop : upd (xs_op K a_firsts a_seconds a_thirds a_operands i t) (3 * i + t) (-1) = xs_op K a_firsts a_seconds a_thirds a_operands i (t + 1) := by
        show _ = upd _ _ _
        rw [if_neg hu]
      rw [eop]
      refine ih (t + 1) w (by omega) (fun s hs hus => ?_) ?_
      · by_cases h : s = t
        · rw [h] at hus; exact absurd hus hu
        · exact hv s (by omega) hus
      · rcases ho with ⟨rfl, s, hs, hus, hno⟩ | ⟨rfl, ho⟩
        · exact Or.inl ⟨rfl, s, by omega, hus, hno⟩
        · refine Or.inr ⟨rfl, fun s hs hus => ?_⟩
          by_cases h : s = t
          · rw [h] at hus; exact absurd hus hu
          · exact ho s (by omega) hus
theorem xs_wrongOperand (hn : n ≤ 48) (hK : ∀ j, j < n → a_kinds j = nI (K j) ∧ K j ≤ 25) {post : Int32 → SX → Prop} {i : Nat} (hi : i < n) (hg : sc_good K (i + 1)) (hA : ∀ j, j < i + 1 → a_home j = nI (sc_hd (sc_lf K j)))
    (h2 : ∀ ops', (∃ s, s < 3 ∧ sc_us (K i) s ∧ ¬ sc_ov K a_firsts a_seconds a_thirds s i) → post 2 (f_lines, f_studied, f_wrong, f_wrongAt, f_brief, f_on, f_dropped, f_steps, f_nextLine, f_repeats, a_kinds, a_firsts, a_seconds, a_thirds, a_inputs, a_home, a_depth, a_closer, a_mate, ops', a_varies, a_parted, a_variableVaries, a_same, a_fixed, a_worth, a_needed, a_variableNeeded, a_values, a_variables, a_outputs, a_cells, a_whole, a_waiting))
    (h3 : (∀ s, s < 3 → sc_us (K i) s → sc_ov K a_firsts a_seconds a_thirds s i) → (∃ s, s < 3 ∧ sc_us (K i) s ∧ ¬ sc_oo K a_firsts a_seconds a_thirds s i) → post 3 (f_lines, f_studied, f_wrong, f_wrongAt, f_brief, f_on, f_dropped, f_steps, f_nextLine, f_repeats, a_kinds, a_firsts, a_seconds, a_thirds, a_inputs, a_home, a_depth, a_closer, a_mate, xs_op K a_firsts a_seconds a_thirds a_operands i 3, a_varies, a_parted, a_variableVaries, a_same, a_fixed, a_worth, a_needed, a_variableNeeded, a_values, a_variables, a_outputs, a_cells, a_whole, a_waiting))
    (h0 : (∀ s, s < 3 → sc_us (K i) s → sc_ov K a_firsts a_seconds a_thirds s i) → (∀ s, s < 3 → sc_us (K i) s → sc_oo K a_firsts a_seconds a_thirds s i) → post 0 (f_lines, f_studied, f_wrong, f_wrongAt, f_brief, f_on, f_dropped, f_steps, f_nextLine, f_repeats, a_kinds, a_firsts, a_seconds, a_thirds, a_inputs, a_home, a_depth, a_closer, a_mate, xs_op K a_firsts a_seconds a_thirds a_operands i 3, a_varies, a_parted, a_variableVaries, a_same, a_fixed, a_worth, a_needed, a_variableNeeded, a_values, a_variables, a_outputs, a_cells, a_whole, a_waiting)) : wpX_wrongOperand post (f_lines, f_studied, f_wrong, f_wrongAt, f_brief, f_on, f_dropped, f_steps, f_nextLine, f_repeats, a_kinds, a_firsts, a_seconds, a_thirds, a_inputs, a_home, a_depth, a_closer, a_mate, a_operands, a_varies, a_parted, a_variableVaries, a_same, a_fixed, a_worth, a_needed, a_variableNeeded, a_values, a_variables, a_outputs, a_cells, a_whole, a_waiting) (nI i) :=
  ⟨4, xs_wrongOperand4 hn hK hi hg hA h2 h3 h0 3 0 0 rfl (fun s hs => by omega) (Or.inr ⟨rfl, fun s hs => by omega⟩)⟩
end
end
section
section
theorem xs_op_ne {K : Nat → Nat} {A B C f : Nat → Int32} {i q : Nat} (h : q < 3 * i) : ∀ t, xs_op K A B C f i t q = f q := by
  intro t
  induction t with
  | zero => rfl
  | succ t ih =>
    show upd _ _ _ q = _
    rw [pk_un (by omega)]; exact ih
theorem xs_op_later {K : Nat → Nat} {A B C f : Nat → Int32} {i s : Nat} : ∀ t, s < t → xs_op K A B C f i t (3 * i + s) = xs_op K A B C f i (s + 1) (3 * i + s) := by
  intro t
  induction t with
  | zero => intro h; omega
  | succ t ih =>
    intro h
    by_cases e : s = t
    · rw [e]
    · show upd _ _ _ _ = _
      rw [pk_un (by omega)]; exact ih (by omega)
theorem xs_op_at {K : Nat → Nat} {A B C f : Nat → Int32} {i s : Nat} (hs : s < 3) : (sc_us (K i) s → xs_op K A B C f i 3 (3 * i + s) = sc_o3 A B C s i) ∧ (¬ sc_us (K i) s → xs_op K A B C f i 3 (3 * i + s) = -1) := by
  rw [xs_op_later 3 hs]
  show (_ → upd _ _ _ _ = _) ∧ (_ → upd _ _ _ _ = _)
  rw [pk_us]
  exact ⟨fun h => if_pos h, fun h => if_neg h⟩
theorem xs_A_step {K : Nat → Nat} {A B C : Nat → Int32} {i : Nat} {home depth closer mate operands : Nat → Int32} (hg : sc_good K (i + 1)) (h : xs_A K A B C i home depth closer mate operands) :
    xs_A K A B C (i + 1) (upd home i (nI (sc_hd (sc_lf K i)))) (upd depth i (nI (sc_lf K i).length)) (xs_cl K i closer) (upd mate i (nI (sc_mt K i))) (xs_op K A B C operands i 3) := by
  intro j hj
  by_cases e : j = i
  · subst e
    refine ⟨pk_us, pk_us, pk_us, fun hc => ?_, fun s hs => xs_op_at hs⟩
    rw [xs_cl, if_pos hc]; exact pk_us
  · obtain ⟨h1, h2, h3, h4, h5⟩ := h j (by omega)
    refine ⟨by rw [pk_un e]; exact h1, by rw [pk_un e]; exact h2, by rw [pk_un e]; exact h3, fun hc => ?_, fun s hs => ?_⟩
    · rw [xs_cl]
      split
      · rename_i hci
        have fi := hg i (by omega)
        have fj := hg j (by omega)
        have ne : sc_hd (sc_fr K j) ≠ sc_hd (sc_fr K i) := by
          intro ee
          have top : ∀ q, sc_fits K q → (K q = 20 ∨ K q = 21 ∨ K q = 23) → ∃ m r, sc_fr K q = (sc_hd (sc_fr K q), m) :: r := by
            intro q f hq
            rcases hq with hq | hq | hq
            · obtain ⟨m, r, e, _⟩ := f.2.1 hq; exact ⟨m, r, by rw [e]; rfl⟩
            · obtain ⟨b, m, r, e, _⟩ := f.2.2.1 hq; exact ⟨m, r, by rw [e]; rfl⟩
            · obtain ⟨b, m, r, e, _⟩ := f.2.2.2.1 hq; exact ⟨m, r, by rw [e]; rfl⟩
          exact sc_uniq hg (show j < i by omega) ⟨hc, top j fj hc⟩ ⟨hci, by rw [ee]; exact top i fi hci⟩
        rw [pk_un ne]; exact h4 hc
      · exact h4 hc
    · rw [xs_op_ne (by omega)]; exact h5 s hs
end
section
variable {K : Nat → Nat} {n : Nat}
variable {f_lines f_studied f_wrong f_wrongAt f_brief f_on f_dropped f_steps f_nextLine f_repeats : Int32} {a_kinds a_firsts a_seconds a_thirds a_inputs a_home a_depth a_closer a_mate a_operands a_varies a_parted a_variableVaries a_same a_fixed a_worth a_needed a_variableNeeded a_values a_variables a_outputs a_cells a_whole a_waiting : Nat → Int32}
theorem xs_fw71 {post : SX → Prop} {x1 : Int32} (hw : f_wrong ≠ 0) (h : post (f_lines, f_studied, f_wrong, f_wrongAt, f_brief, f_on, f_dropped, f_steps, f_nextLine, f_repeats, a_kinds, a_firsts, a_seconds, a_thirds, a_inputs, a_home, a_depth, upd a_closer 0 f_lines, a_mate, a_operands, a_varies, a_parted, a_variableVaries, a_same, a_fixed, a_worth, a_needed, a_variableNeeded, a_values, a_variables, a_outputs, a_cells, a_whole, a_waiting)) : wX_findWrong_71 post x1 f_lines f_studied f_wrong f_wrongAt f_brief f_on f_dropped f_steps f_nextLine f_repeats a_kinds a_firsts a_seconds a_thirds a_inputs a_home a_depth a_closer a_mate a_operands a_varies a_parted a_variableVaries a_same a_fixed a_worth a_needed a_variableNeeded a_values a_variables a_outputs a_cells a_whole a_waiting :=
  br_f hw (nm_e h)
theorem xs_fwBad {post : SX → Prop} {x1 x2 : Int32} {d : Nat} (hw : f_wrong ≠ 0) (h : post (f_lines, f_studied, f_wrong, f_wrongAt, f_brief, f_on, f_dropped, f_steps, f_nextLine, f_repeats, a_kinds, a_firsts, a_seconds, a_thirds, a_inputs, a_home, a_depth, upd a_closer 0 f_lines, a_mate, a_operands, a_varies, a_parted, a_variableVaries, a_same, a_fixed, a_worth, a_needed, a_variableNeeded, a_values, a_variables, a_outputs, a_cells, a_whole, a_waiting)) : wX_findWrong_4 post (d + 1) x1 x2 f_lines f_studied f_wrong f_wrongAt f_brief f_on f_dropped f_steps f_nextLine f_repeats a_kinds a_firsts a_seconds a_thirds a_inputs a_home a_depth a_closer a_mate a_operands a_varies a_parted a_variableVaries a_same a_fixed a_worth a_needed a_variableNeeded a_values a_variables a_outputs a_cells a_whole a_waiting :=
  br_c (fun _ => xs_fw71 hw h) (fun _ => br_f hw (xs_fw71 hw h))
theorem xs_findWrong4 (hn : n ≤ 48) (hK : ∀ j, j < n → a_kinds j = nI (K j) ∧ K j ≤ 25) {post : SX → Prop}
    (hbad : ∀ (i c : Nat) (home depth closer mate operands : Nat → Int32), i < n → sc_ok K a_firsts a_seconds a_thirds i → sc_ck K a_firsts a_seconds a_thirds i c → c ≠ 0 → c < 4 → post (nI n, f_studied, nI c, nI i, f_brief, f_on, f_dropped, f_steps, f_nextLine, f_repeats, a_kinds, a_firsts, a_seconds, a_thirds, a_inputs, home, depth, closer, mate, operands, a_varies, a_parted, a_variableVaries, a_same, a_fixed, a_worth, a_needed, a_variableNeeded, a_values, a_variables, a_outputs, a_cells, a_whole, a_waiting))
    (hopen : ∀ (home depth closer mate operands : Nat → Int32), sc_ok K a_firsts a_seconds a_thirds n → sc_fr K n ≠ [] → post (nI n, f_studied, 1, nI n, f_brief, f_on, f_dropped, f_steps, f_nextLine, f_repeats, a_kinds, a_firsts, a_seconds, a_thirds, a_inputs, home, depth, closer, mate, operands, a_varies, a_parted, a_variableVaries, a_same, a_fixed, a_worth, a_needed, a_variableNeeded, a_values, a_variables, a_outputs, a_cells, a_whole, a_waiting))
    (hgood : ∀ (home depth closer mate operands : Nat → Int32), sc_ok K a_firsts a_seconds a_thirds n → sc_fr K n = [] → xs_A K a_firsts a_seconds a_thirds n home depth closer mate operands → closer 0 = nI n → post (nI n, f_studied, 0, f_wrongAt, f_brief, f_on, f_dropped, f_steps, f_nextLine, f_repeats, a_kinds, a_firsts, a_seconds, a_thirds, a_inputs, home, depth, closer, mate, operands, a_varies, a_parted, a_variableVaries, a_same, a_fixed, a_worth, a_needed, a_variableNeeded, a_values, a_variables, a_outputs, a_cells, a_whole, a_waiting)) :
    ∀ (d i : Nat) (home depth closer mate operands : Nat → Int32), i + d = n → sc_ok K a_firsts a_seconds a_thirds i → xs_A K a_firsts a_seconds a_thirds i home depth closer mate operands → wX_findWrong_4 post (d + 2) (nI (sc_hd (sc_fr K i))) (nI i) (nI n) f_studied 0 f_wrongAt f_brief f_on f_dropped f_steps f_nextLine f_repeats a_kinds a_firsts a_seconds a_thirds a_inputs home depth closer mate operands a_varies a_parted a_variableVaries a_same a_fixed a_worth a_needed a_variableNeeded a_values a_variables a_outputs a_cells a_whole a_waiting := by
  intro d
  induction d with
  | zero =>
    intro i home depth closer mate operands hi hok hA
    cases (show i = n by omega)
    refine br_t (nI_le (Nat.le_refl _) (by omega)) (br_t rfl ?_)
    have gn := sc_ok_good hok
    cases e : sc_fr K n with
    | nil =>
      refine br_t rfl (nm_e (hgood _ _ _ _ _ hok e ?_ pk_us))
      intro j hj
      obtain ⟨h1, h2, h3, h4, h5⟩ := hA j hj
      refine ⟨h1, h2, h3, fun hc => ?_, h5⟩
      have : sc_hd (sc_fr K j) ≠ 0 := by
        have f := gn j hj
        rcases hc with hq | hq | hq
        · obtain ⟨m, r, e, _⟩ := f.2.1 hq
          have := (sc_top j (sc_good_le gn (by omega)) _ _ _ e).1; rw [e, sc_hd_cons]; omega
        · obtain ⟨b, m, r, e, _⟩ := f.2.2.1 hq
          have := (sc_top j (sc_good_le gn (by omega)) _ _ _ e).1; rw [e, sc_hd_cons]; omega
        · obtain ⟨b, m, r, e, _⟩ := f.2.2.2.1 hq
          have := (sc_top j (sc_good_le gn (by omega)) _ _ _ e).1; rw [e, sc_hd_cons]; omega
      rw [pk_un this]; exact h4 hc
    | cons f r =>
      obtain ⟨b, m⟩ := f
      have T := sc_top n gn _ _ _ e
      have := T.1
      have := T.2.1
      rw [sc_hd_cons]
      exact br_f (nI_ne0 (by omega) (by omega)) (nm_e (hopen _ _ _ _ _ hok (by rw [e]; simp)))
  | succ d ih =>
    intro i home depth closer mate operands hi hok hA
    have hin : vp_in (nI i) 48 := vp_in_nI (by omega) (by omega)
    have ci : (nI i).toNatClampNeg = i := nI_clamp (by omega)
    have ki := hK i (by omega)
    have gi := sc_ok_good hok
    refine br_f (nI_ge (by omega) (by omega)) (br_t rfl ⟨hin, ?_⟩)
    rw [ci, ki.1]
    refine xs_fits hn hK (by omega) gi (fun j hj => ⟨(hA j hj).1, (hA j hj).2.1⟩) (fun hf => br_f (by decide) ?_) (fun hf => br_t rfl (nm_e (xs_fwBad (by decide) (hbad i 1 _ _ _ _ _ (by omega) hok (Or.inl ⟨hf, rfl⟩) (by omega) (by omega)))))
    have gi1 : sc_good K (i + 1) := fun j hj => by
      by_cases e : j = i
      · rw [e]; exact hf
      · exact gi j (by omega)
    have hA1 := xs_A_step gi1 hA
    refine xs_settle hn hK (by omega) gi hf (fun j hj => ⟨(hA j hj).1, (hA j hj).2.1, (hA j hj).2.2.1⟩) ?_
    refine xs_wrongOperand (K := K) (n := n) hn hK (i := i) (by omega) gi1 (fun j hj => (hA1 j hj).1) (fun ops' h2 => br_f (by decide) (nm_e (xs_fwBad (by decide) (hbad i 2 _ _ _ _ _ (by omega) hok (Or.inr (Or.inl ⟨hf, h2, rfl⟩)) (by omega) (by omega))))) (fun hv h3 => br_f (by decide) (nm_e (xs_fwBad (by decide) (hbad i 3 _ _ _ _ _ (by omega) hok (Or.inr (Or.inr (Or.inl ⟨hf, hv, h3, rfl⟩))) (by omega) (by omega))))) (fun hv h0 => br_t rfl (nm_r (nI_1 i) (ih (i + 1) _ _ _ _ _ (by omega) ?_ hA1)))
    intro j hj
    by_cases e : j = i
    · rw [e]; exact Or.inr (Or.inr (Or.inr ⟨hf, hv, h0, rfl⟩))
    · exact hok j (by omega)
theorem xs_findWrong (hn : n ≤ 48) (hK : ∀ j, j < n → a_kinds j = nI (K j) ∧ K j ≤ 25) {post : SX → Prop}
    (hbad : ∀ (i c : Nat) (home depth closer mate operands : Nat → Int32), i < n → sc_ok K a_firsts a_seconds a_thirds i → sc_ck K a_firsts a_seconds a_thirds i c → c ≠ 0 → c < 4 → post (nI n, f_studied, nI c, nI i, f_brief, f_on, f_dropped, f_steps, f_nextLine, f_repeats, a_kinds, a_firsts, a_seconds, a_thirds, a_inputs, home, depth, closer, mate, operands, a_varies, a_parted, a_variableVaries, a_same, a_fixed, a_worth, a_needed, a_variableNeeded, a_values, a_variables, a_outputs, a_cells, a_whole, a_waiting))
    (hopen : ∀ (home depth closer mate operands : Nat → Int32), sc_ok K a_firsts a_seconds a_thirds n → sc_fr K n ≠ [] → post (nI n, f_studied, 1, nI n, f_brief, f_on, f_dropped, f_steps, f_nextLine, f_repeats, a_kinds, a_firsts, a_seconds, a_thirds, a_inputs, home, depth, closer, mate, operands, a_varies, a_parted, a_variableVaries, a_same, a_fixed, a_worth, a_needed, a_variableNeeded, a_values, a_variables, a_outputs, a_cells, a_whole, a_waiting))
    (hgood : ∀ (home depth closer mate operands : Nat → Int32), sc_ok K a_firsts a_seconds a_thirds n → sc_fr K n = [] → xs_A K a_firsts a_seconds a_thirds n home depth closer mate operands → closer 0 = nI n → post (nI n, f_studied, 0, f_wrongAt, f_brief, f_on, f_dropped, f_steps, f_nextLine, f_repeats, a_kinds, a_firsts, a_seconds, a_thirds, a_inputs, home, depth, closer, mate, operands, a_varies, a_parted, a_variableVaries, a_same, a_fixed, a_worth, a_needed, a_variableNeeded, a_values, a_variables, a_outputs, a_cells, a_whole, a_waiting)) :
    wpX_findWrong post (nI n, f_studied, 0, f_wrongAt, f_brief, f_on, f_dropped, f_steps, f_nextLine, f_repeats, a_kinds, a_firsts, a_seconds, a_thirds, a_inputs, a_home, a_depth, a_closer, a_mate, a_operands, a_varies, a_parted, a_variableVaries, a_same, a_fixed, a_worth, a_needed, a_variableNeeded, a_values, a_variables, a_outputs, a_cells, a_whole, a_waiting) :=
  ⟨n + 2, xs_findWrong4 hn hK hbad hopen hgood n 0 _ _ _ _ _ (by omega) (fun j hj => by omega) (fun j hj => by omega)⟩
end
end
section
section
/-- Y's row of open lines -/
def ys_O (opn : Nat → Int32) : List (Nat × Nat) → Prop
  | [] => True
  | f :: r => opn r.length = nI f.2 ∧ ys_O opn r
theorem ys_O_get {opn : Nat → Int32} : ∀ l : List (Nat × Nat), ys_O opn l → ∀ k, k < l.length → ∃ f, f ∈ l ∧ opn k = nI f.2 := by
  intro l
  induction l with
  | nil => intro _ k hk; simp at hk
  | cons f r ih =>
    intro h k hk
    simp only [List.length_cons] at hk
    by_cases e : k = r.length
    · exact ⟨f, List.mem_cons_self .., by rw [e]; exact h.1⟩
    · obtain ⟨g, hg, eg⟩ := ih h.2 k (by omega)
      exact ⟨g, List.mem_cons_of_mem _ hg, eg⟩
theorem ys_O_mem {opn : Nat → Int32} : ∀ l : List (Nat × Nat), ys_O opn l → ∀ f, f ∈ l → ∃ k, k < l.length ∧ opn k = nI f.2 := by
  intro l
  induction l with
  | nil => intro _ f hf; cases hf
  | cons g r ih =>
    intro h f hf
    rcases List.mem_cons.mp hf with e | e
    · exact ⟨r.length, by simp, by rw [e]; exact h.1⟩
    · obtain ⟨k, hk, ek⟩ := ih h.2 f e
      exact ⟨k, by simp only [List.length_cons]; omega, ek⟩
theorem ys_O_upd {opn : Nat → Int32} {x : Int32} : ∀ l : List (Nat × Nat), ∀ k, l.length ≤ k → ys_O opn l → ys_O (upd opn k x) l := by
  intro l
  induction l with
  | nil => intro k _ _; trivial
  | cons g r ih =>
    intro k hk h
    simp only [List.length_cons] at hk
    exact ⟨by rw [pk_un (by omega)]; exact h.1, ih k (by omega) h.2⟩
/-- Y's arrays of the first i lines -/
def ys_A (K : Nat → Nat) (i : Nat) (blockOf opener around other end_ : Nat → Int32) : Prop :=
  ∀ j, j < i → blockOf j = nI (sc_cnt K (sc_hd (sc_lf K j))) ∧
    ((K j = 19 ∨ K j = 20 ∨ K j = 22) → around (sc_cnt K (j + 1)) = nI (sc_cnt K (sc_hd (sc_lf K j))) ∧ opener (sc_cnt K (j + 1)) = nI (sc_mt K j)) ∧
    (K j = 20 → other (sc_mt K j) = nI j) ∧
    ((K j = 19 ∨ K j = 22) → (∀ e, e < i → K e = 20 → sc_mt K e ≠ j) → other j = -1) ∧
    ((K j = 21 ∨ K j = 23) → end_ (sc_mt K j) = nI j)
end
section
variable {K : Nat → Nat} {n : Nat}
variable {f_lines f_known f_wrong f_place f_blocks f_steps f_dropped f_on f_next f_again f_depth : Int32} {a_ops a_as a_bs a_cs a_blockOf a_opener a_around a_other a_end a_open a_varied a_loose a_variedVariable a_stands a_number a_isConst a_needed a_inputs a_values a_variables a_cells a_outs a_was a_rest a_line : Nat → Int32}
theorem ys_inLoop (hn : n ≤ 48) (hK : ∀ j, j < n → a_ops j = nI (K j) ∧ K j ≤ 25) {post : Int32 → Prop} {i : Nat} (hi : i ≤ n) (hg : sc_good K i) (hO : ys_O a_open (sc_fr K i)) (h1 : (∃ f, f ∈ sc_fr K i ∧ K f.2 = 22) → post 1) (h0 : (¬ ∃ f, f ∈ sc_fr K i ∧ K f.2 = 22) → post 0) : wpY_isInLoop post (f_lines, f_known, f_wrong, f_place, f_blocks, f_steps, f_dropped, f_on, f_next, f_again, f_depth, a_ops, a_as, a_bs, a_cs, a_blockOf, a_opener, a_around, a_other, a_end, a_open, a_varied, a_loose, a_variedVariable, a_stands, a_number, a_isConst, a_needed, a_inputs, a_values, a_variables, a_cells, a_outs, a_was, a_rest, a_line) (nI (sc_fr K i).length) := by
  have len := sc_len i hg
  have key : ∀ d k : Nat, k + d = (sc_fr K i).length → (∀ k', k' < k → ∀ f, f ∈ sc_fr K i → a_open k' = nI f.2 → K f.2 ≠ 22) → wY_isInLoop_2 post (nI (sc_fr K i).length) f_lines f_known f_wrong f_place f_blocks f_steps f_dropped f_on f_next f_again f_depth a_ops a_as a_bs a_cs a_blockOf a_opener a_around a_other a_end a_open a_varied a_loose a_variedVariable a_stands a_number a_isConst a_needed a_inputs a_values a_variables a_cells a_outs a_was a_rest a_line (d + 1) (nI k) := by
    intro d
    induction d with
    | zero =>
      intro k hk hall
      refine br_t (nI_le (by omega) (by omega)) (h0 ?_)
      rintro ⟨f, hf, k22⟩
      obtain ⟨k', hk', e⟩ := ys_O_mem _ hO f hf
      exact hall k' (by omega) f hf e k22
    | succ d ih =>
      intro k hk hall
      obtain ⟨f, hf, ef⟩ := ys_O_get _ hO k (by omega)
      obtain ⟨r, T⟩ := sc_memT (b := f.1) (m := f.2) hg hf
      have hm : f.2 < n := by have := T.2.1; have := T.2.2.1; omega
      have k25 := (hK f.2 hm).2
      refine br_f (nI_ge (by omega) (by omega)) ⟨vp_in_nI (by omega) (by omega), ?_⟩
      rw [nI_clamp (by omega), ef, nI_clamp (by omega), (hK f.2 hm).1]
      refine ⟨vp_in_nI (by omega) (by omega), pk_eq (K f.2) 22 (fun h => h1 ⟨f, hf, h⟩) (fun h => nm_r (nI_1 k) (ih (k + 1) (by omega) (fun k' hk' g hg2 eg => ?_)))⟩
      by_cases e : k' = k
      · rw [e, ef] at eg
        obtain ⟨r', T'⟩ := sc_memT (b := g.1) (m := g.2) hg hg2
        rw [nI_eq (by omega) (by have := T'.2.1; have := T'.2.2.1; omega)] at eg
        rw [← eg]; exact h
      · exact hall k' (by omega) g hg2 eg
  exact ⟨_, key (sc_fr K i).length 0 (by omega) (fun k' hk' => by omega)⟩
theorem ys_open (hn : n ≤ 48) {post : Int32 → Prop} {w b0 : Nat} (hw : w ≤ n) (hg : sc_good K w) (hA : ∀ j, j < w → (K j = 19 ∨ K j = 20 ∨ K j = 22) → a_around (sc_cnt K (j + 1)) = nI (sc_cnt K (sc_hd (sc_lf K j)))) (h48 : b0 ≤ 48) (hb0 : b0 = 0 ∨ sc_op (K (b0 - 1))) :
    ∀ (l : List (Nat × Nat)) (j : Nat), j ≤ w → sc_fr K j = l → (sc_in b0 l → post 1) → (¬ sc_in b0 l → post 0) → ∀ d, l.length < d → wY_isOpen_2 post (nI (sc_cnt K b0)) f_lines f_known f_wrong f_place f_blocks f_steps f_dropped f_on f_next f_again f_depth a_ops a_as a_bs a_cs a_blockOf a_opener a_around a_other a_end a_open a_varied a_loose a_variedVariable a_stands a_number a_isConst a_needed a_inputs a_values a_variables a_cells a_outs a_was a_rest a_line d (nI (sc_cnt K (sc_hd l))) := by
  intro l
  have c0 := sc_cnt_le (K := K) b0
  induction l with
  | nil =>
    intro j hj e h1 h0 d hd
    obtain ⟨d, rfl⟩ : ∃ e, d = e + 1 := ⟨d - 1, by simp at hd; omega⟩
    rw [sc_hd_nil, show sc_cnt K 0 = 0 from rfl]
    refine br_t (nI_le (by omega) (by omega)) (pk_eq 0 (sc_cnt K b0) (fun h => h1 (Or.inl ?_)) (fun h => h0 ?_))
    · exact (sc_cnt_inj (K := K) (b := 0) (c := b0) (Or.inl rfl) hb0 (by rw [← h]; rfl)).symm
    · rintro (h' | ⟨m, h'⟩)
      · rw [h'] at h; exact h rfl
      · cases h'
  | cons f r ih =>
    obtain ⟨b, m⟩ := f
    intro j hj e h1 h0 d hd
    have gj := sc_good_le hg hj
    have T := sc_top j gj _ _ _ e
    simp only [List.length_cons] at hd
    obtain ⟨d, rfl⟩ : ∃ e, d = e + 1 := ⟨d - 1, by omega⟩
    have tb : b ≤ w := by have := T.2.1; omega
    have tb1 := T.1
    have hop : sc_op (K (b - 1)) := T.2.2.2.2.2.2.2.1
    have cb := sc_cnt_le (K := K) b
    have eb : b - 1 + 1 = b := by omega
    rw [sc_hd_cons]
    refine pk_le (sc_cnt K b) (sc_cnt K b0) (fun hle => pk_eq (sc_cnt K b) (sc_cnt K b0) (fun h => h1 (Or.inr ⟨m, ?_⟩)) (fun h => h0 ?_)) (fun hlt => ⟨vp_in_nI (by omega) (by omega), nm_r (by rw [nI_clamp (by omega)]; have := hA (b - 1) (by omega) hop; rw [eb, T.2.2.2.2.1] at this; exact this) (ih m (by have := T.2.2.1; omega) T.2.2.2.2.2.1 (fun h => h1 ?_) (fun h => h0 ?_) d (by omega))⟩)
    · rw [← sc_cnt_inj (Or.inr hop) hb0 h]; exact List.mem_cons_self ..
    · have hgt : b < b0 := by
        rcases Nat.lt_or_ge b b0 with l | l
        · exact l
        · have := sc_cnt_mono (K := K) l; omega
      rintro (h' | ⟨m', h'⟩)
      · omega
      · rcases List.mem_cons.mp h' with h2 | h2
        · cases h2; omega
        · have := (sc_below gj e h2).1; have := T.2.2.1; omega
    · rcases h with h | ⟨m', h⟩
      · exact Or.inl h
      · exact Or.inr ⟨m', List.mem_cons_of_mem _ h⟩
    · rintro (h' | ⟨m', h'⟩)
      · exact h (Or.inl h')
      · rcases List.mem_cons.mp h' with h2 | h2
        · cases h2; omega
        · exact h (Or.inr ⟨m', h2⟩)
/-- a head of a row of frames is no block but the whole one, or is opened by a line -/
theorem sc_hd_op {j : Nat} (hg : sc_good K j) : sc_hd (sc_fr K j) = 0 ∨ sc_op (K (sc_hd (sc_fr K j) - 1)) := by
  cases e : sc_fr K j with
  | nil => exact Or.inl rfl
  | cons f r => obtain ⟨b, m⟩ := f; exact Or.inr (sc_top j hg _ _ _ e).2.2.2.2.2.2.2.1
theorem sc_hdl_op {i : Nat} (hg : sc_good K (i + 1)) : sc_hd (sc_lf K i) = 0 ∨ sc_op (K (sc_hd (sc_lf K i) - 1)) := by
  obtain ⟨j, hj, e⟩ := sc_lf_fr hg
  rw [← e]; exact sc_hd_op (sc_good_le hg (by omega))
theorem ys_isOpen (hn : n ≤ 48) {post : Int32 → Prop} {x i : Nat} (hi : i < n) (hg : sc_good K (i + 1)) (hA : ∀ j, j < i → (K j = 19 ∨ K j = 20 ∨ K j = 22) → a_around (sc_cnt K (j + 1)) = nI (sc_cnt K (sc_hd (sc_lf K j)))) (hx : x ≤ i) (h1 : sc_in (sc_hd (sc_lf K x)) (sc_lf K i) → post 1) (h0 : ¬ sc_in (sc_hd (sc_lf K x)) (sc_lf K i) → post 0) : wpY_isOpen post (f_lines, f_known, f_wrong, f_place, f_blocks, f_steps, f_dropped, f_on, f_next, f_again, f_depth, a_ops, a_as, a_bs, a_cs, a_blockOf, a_opener, a_around, a_other, a_end, a_open, a_varied, a_loose, a_variedVariable, a_stands, a_number, a_isConst, a_needed, a_inputs, a_values, a_variables, a_cells, a_outs, a_was, a_rest, a_line) (nI (sc_cnt K (sc_hd (sc_lf K x)))) (nI (sc_cnt K (sc_hd (sc_lf K i)))) := by
  have gx : sc_good K (x + 1) := sc_good_le hg (by omega)
  obtain ⟨j, hj, e⟩ := sc_lf_fr hg
  have l := sc_lf_len hg
  exact ⟨5, ys_open hn (w := i) (by omega) (sc_good_le hg (by omega)) hA (Nat.le_trans (sc_hdl_le gx) (by omega)) (sc_hdl_op gx) (sc_lf K i) j (by omega) e h1 h0 5 (by omega)⟩
theorem ys_uses {post : Int32 → Prop} (hn : n ≤ 48) (hK : ∀ j, j < n → a_ops j = nI (K j) ∧ K j ≤ 25) {i s : Nat} (hi : i < n) (hs : s < 3) (h1 : sc_us (K i) s → post 1) (h0 : ¬ sc_us (K i) s → post 0) : wpY_uses post (f_lines, f_known, f_wrong, f_place, f_blocks, f_steps, f_dropped, f_on, f_next, f_again, f_depth, a_ops, a_as, a_bs, a_cs, a_blockOf, a_opener, a_around, a_other, a_end, a_open, a_varied, a_loose, a_variedVariable, a_stands, a_number, a_isConst, a_needed, a_inputs, a_values, a_variables, a_cells, a_outs, a_was, a_rest, a_line) (nI i) (nI s) := by
  have ci : (nI i).toNatClampNeg = i := nI_clamp (by omega)
  have hin : vp_in (nI i) 48 := vp_in_nI (by omega) (by omega)
  have k := hK i hi
  generalize hk : K i = k' at *
  have g1 : sc_us k' s → narrow .boolean (.int 1) = .int 1 ∧ post 1 := fun h => ⟨xs_nb1, h1 h⟩
  have g0 : ¬ sc_us k' s → narrow .boolean (.int 0) = .int 0 ∧ post 0 := fun h => ⟨xs_nb0, h0 h⟩
  refine pk_eq s 0 (fun hs0 => ⟨hin, ?_⟩) (fun hs0 => pk_eq s 1 (fun hs1 => ⟨hin, ?_⟩) (fun hs1 => ⟨hin, ?_⟩))
  · rw [ci, k.1]
    have t23 : ¬ (3 ≤ k' ∧ k' ≤ 10) → ¬ (12 ≤ k' ∧ k' ≤ 15) → wY_usesA_23 (fun r_9 => (narrow .boolean (.int r_9) = .int r_9 ∧ (post r_9))) (nI k') := fun a b =>
      pk_eq k' 19 (fun h' => g1 (by unfold sc_us; omega)) (fun h' => g0 (by unfold sc_us; omega))
    have t11 : ¬ (3 ≤ k' ∧ k' ≤ 10) → wY_usesA_11 (fun r_9 => (narrow .boolean (.int r_9) = .int r_9 ∧ (post r_9))) (nI k') := fun a =>
      pk_lt k' 12 (fun h' => t23 a (by omega)) (fun h' => pk_le k' 15 (fun h'' => g1 (by unfold sc_us; omega)) (fun h'' => t23 a (by omega)))
    exact pk_lt k' 3 (fun h => t11 (by omega)) (fun h => pk_le k' 10 (fun h' => g1 (by unfold sc_us; omega)) (fun h' => t11 (by omega)))
  · rw [ci, k.1]
    have t11 : ¬ (3 ≤ k' ∧ k' ≤ 8) → wY_usesB_11 (fun r_9 => (narrow .boolean (.int r_9) = .int r_9 ∧ (post r_9))) (nI k') := fun a =>
      pk_eq k' 10 (fun h' => g1 (by unfold sc_us; omega)) (fun h' => pk_lt k' 16 (fun h'' => g0 (by unfold sc_us; omega)) (fun h'' => pk_lt 18 k' (fun h3 => g0 (by unfold sc_us; omega)) (fun h3 => g1 (by unfold sc_us; omega))))
    exact pk_lt k' 3 (fun h => t11 (by omega)) (fun h => pk_le k' 8 (fun h' => g1 (by unfold sc_us; omega)) (fun h' => t11 (by omega)))
  · rw [ci, k.1]
    exact pk_eq k' 10 (fun h => h1 (by unfold sc_us; omega)) (fun h => h0 (by unfold sc_us; omega))
theorem ys_operand {post : Int32 → Prop} (hn : n ≤ 48) {i s : Nat} (hi : i < n) (hs : s < 3) (h : post (sc_o3 a_as a_bs a_cs s i)) : wpY_operand post (f_lines, f_known, f_wrong, f_place, f_blocks, f_steps, f_dropped, f_on, f_next, f_again, f_depth, a_ops, a_as, a_bs, a_cs, a_blockOf, a_opener, a_around, a_other, a_end, a_open, a_varied, a_loose, a_variedVariable, a_stands, a_number, a_isConst, a_needed, a_inputs, a_values, a_variables, a_cells, a_outs, a_was, a_rest, a_line) (nI i) (nI s) := by
  have ci : (nI i).toNatClampNeg = i := nI_clamp (by omega)
  have hin : vp_in (nI i) 48 := vp_in_nI (by omega) (by omega)
  refine pk_eq s 0 (fun hs0 => ⟨hin, ?_⟩) (fun hs0 => pk_eq s 1 (fun hs1 => ⟨hin, ?_⟩) (fun hs1 => ⟨hin, ?_⟩))
  · rw [ci]; rw [hs0] at h; exact h
  · rw [ci]; rw [hs1] at h; exact h
  · rw [ci]; rw [show s = 2 by omega] at h; exact h
theorem ys_gives {post : Int32 → Prop} {k : Nat} (hk : k ≤ 25) (h1 : k ≤ 16 → post 1) (h0 : ¬ k ≤ 16 → post 0) : wpY_gives post (nI k) :=
  pk_lt 16 k (fun h => h0 (by omega)) (fun h => h1 (by omega))
theorem ys_operands4 (hn : n ≤ 48) (hK : ∀ j, j < n → a_ops j = nI (K j) ∧ K j ≤ 25) {post : Int32 → Prop} {i : Nat} (hi : i < n) (hg : sc_good K (i + 1)) (hA : ∀ j, j < i → (K j = 19 ∨ K j = 20 ∨ K j = 22) → a_around (sc_cnt K (j + 1)) = nI (sc_cnt K (sc_hd (sc_lf K j)))) (hB : ∀ j, j < i + 1 → a_blockOf j = nI (sc_cnt K (sc_hd (sc_lf K j))))
    (h2 : (∃ s, s < 3 ∧ sc_us (K i) s ∧ ¬ sc_ov K a_as a_bs a_cs s i) → post 2)
    (h3 : (∀ s, s < 3 → sc_us (K i) s → sc_ov K a_as a_bs a_cs s i) → (∃ s, s < 3 ∧ sc_us (K i) s ∧ ¬ sc_oo K a_as a_bs a_cs s i) → post 3)
    (h0 : (∀ s, s < 3 → sc_us (K i) s → sc_ov K a_as a_bs a_cs s i) → (∀ s, s < 3 → sc_us (K i) s → sc_oo K a_as a_bs a_cs s i) → post 0) :
    ∀ (d t : Nat) (w : Int32), t + d = 3 → (∀ s, s < t → sc_us (K i) s → sc_ov K a_as a_bs a_cs s i) → ((w = 3 ∧ ∃ s, s < t ∧ sc_us (K i) s ∧ ¬ sc_oo K a_as a_bs a_cs s i) ∨ (w = 0 ∧ ∀ s, s < t → sc_us (K i) s → sc_oo K a_as a_bs a_cs s i)) → wY_operands_4 post (nI i) f_lines f_known f_wrong f_place f_blocks f_steps f_dropped f_on f_next f_again f_depth a_ops a_as a_bs a_cs a_blockOf a_opener a_around a_other a_end a_open a_varied a_loose a_variedVariable a_stands a_number a_isConst a_needed a_inputs a_values a_variables a_cells a_outs a_was a_rest a_line (d + 1) w (nI t) := by
  intro d
  induction d with
  | zero =>
    intro t w ht hv ho
    cases (show t = 3 by omega)
    refine br_t (by decide) ?_
    rcases ho with ⟨rfl, ho⟩ | ⟨rfl, ho⟩
    · exact h3 hv ho
    · exact h0 hv ho
  | succ d ih =>
    intro t w ht hv ho
    have ci : (nI i).toNatClampNeg = i := nI_clamp (by omega)
    refine br_f (nI_ge (b := 3) (by omega) (by decide)) ?_
    refine ys_uses hn hK hi (by omega) (fun hu => br_f (by decide) ?_) (fun hu => br_t rfl (nm_r (nI_1 t) ?_))
    · refine ys_operand hn hi (by omega) ?_
      have no : ¬ sc_ov K a_as a_bs a_cs t i → wY_operands_57 post (wY_operands_4 post (nI i) f_lines f_known f_wrong f_place f_blocks f_steps f_dropped f_on f_next f_again f_depth a_ops a_as a_bs a_cs a_blockOf a_opener a_around a_other a_end a_open a_varied a_loose a_variedVariable a_stands a_number a_isConst a_needed a_inputs a_values a_variables a_cells a_outs a_was a_rest a_line (d + 1)) (nI i) w (nI t) (sc_o3 a_as a_bs a_cs t i) f_lines f_known f_wrong f_place f_blocks f_steps f_dropped f_on f_next f_again f_depth a_ops a_as a_bs a_cs a_blockOf a_opener a_around a_other a_end a_open a_varied a_loose a_variedVariable a_stands a_number a_isConst a_needed a_inputs a_values a_variables a_cells a_outs a_was a_rest a_line := fun h => br_t rfl (h2 ⟨t, by omega, hu, h⟩)
      generalize ez : sc_o3 a_as a_bs a_cs t i = z0 at *
      rcases pk_ix z0 (n := i) (by omega) with h | h | ⟨x, hx, rfl⟩
      · refine br_t h (no ?_)
        rintro ⟨x, hx, e, _⟩
        rw [ez] at e; rw [e] at h; exact nI_pos (by omega) h
      · refine br_c (fun h' => no ?_) (fun _ => br_t h (no ?_))
        · rintro ⟨x, hx, e, _⟩
          rw [ez] at e; rw [e] at h'; exact nI_pos (by omega) h'
        · rintro ⟨x, hx, e, _⟩
          rw [ez] at e; rw [e] at h; exact nI_ge hx (by omega) h
      · have kx := hK x (by omega)
        refine br_f (nI_pos (by omega)) (br_f (nI_ge hx (by omega)) ⟨vp_in_nI (by omega) (by omega), ?_⟩)
        rw [nI_clamp (by omega), kx.1]
        refine ys_gives kx.2 (fun hk => br_f (by decide) (br_f (by decide) ⟨vp_in_nI (by omega) (by omega), vp_in_nI (by omega) (by omega), ?_⟩)) (fun hk => br_t rfl (no ?_))
        · have hov : sc_ov K a_as a_bs a_cs t i := ⟨x, hx, ez, hk⟩
          have hv' : ∀ s, s < t + 1 → sc_us (K i) s → sc_ov K a_as a_bs a_cs s i := fun s hs hus => by
            by_cases h : s = t
            · rw [h]; exact hov
            · exact hv s (by omega) hus
          have eo : sc_oo K a_as a_bs a_cs t i ↔ sc_in (sc_hd (sc_lf K x)) (sc_lf K i) := by
            rw [sc_oo, ez, nI_clamp (by omega)]
          rw [nI_clamp (by omega), ci, hB x (by omega), hB i (by omega)]
          refine ys_isOpen hn hi hg hA (by omega) (fun hin1 => br_f (by decide) (nm_r (nI_1 t) (ih (t + 1) w (by omega) hv' ?_))) (fun hin0 => br_t rfl (nm_r (nI_1 t) (ih (t + 1) 3 (by omega) hv' (Or.inl ⟨rfl, t, by omega, hu, fun h => hin0 (eo.mp h)⟩))))
          rcases ho with ⟨rfl, s, hs, hus, hno⟩ | ⟨rfl, ho⟩
          · exact Or.inl ⟨rfl, s, by omega, hus, hno⟩
          · refine Or.inr ⟨rfl, fun s hs hus => ?_⟩
            by_cases h : s = t
            · rw [h]; exact eo.mpr hin1
            · exact ho s (by omega) hus
        · rintro ⟨x', hx', e, hk'⟩
          rw [ez] at e
          rw [nI_eq (by omega) (by omega)] at e
          rw [e] at hk; exact hk hk'
    · refine ih (t + 1) w (by omega) (fun s hs hus => ?_) ?_
      · by_cases h : s = t
        · rw [h] at hus; exact absurd hus hu
        · exact hv s (by omega) hus
      · rcases ho with ⟨rfl, s, hs, hus, hno⟩ | ⟨rfl, ho⟩
        · exact Or.inl ⟨rfl, s, by omega, hus, hno⟩
        · refine Or.inr ⟨rfl, fun s hs hus => ?_⟩
          by_cases h : s = t
          · rw [h] at hus; exact absurd hus hu
          · exact ho s (by omega) hus
end
end
section
section
variable {K : Nat → Nat}
theorem sc_mt_le {j : Nat} (hg : sc_good K (j + 1)) : sc_mt K j ≤ j := by
  by_cases h : K j = 20 ∨ K j = 21 ∨ K j = 23
  · cases e : sc_fr K j with
    | nil => rw [sc_mt_cl h, e]; exact Nat.zero_le _
    | cons f r =>
      obtain ⟨b, m⟩ := f
      have T := sc_top j (sc_good_le hg (by omega)) _ _ _ e
      rw [sc_mt_cl h, e]
      have := T.2.1; have := T.2.2.1
      show m ≤ j
      omega
  · rw [sc_mt_n h]; exact Nat.le_refl _
theorem sc_clTop {q : Nat} (f : sc_fits K q) (hq : K q = 20 ∨ K q = 21 ∨ K q = 23) : ∃ b r, sc_fr K q = (b, sc_mt K q) :: r ∧ sc_hd (sc_fr K q) = b ∧ sc_lf K q = r := by
  have : ∃ b m r, sc_fr K q = (b, m) :: r := by
    rcases hq with h | h | h
    · obtain ⟨m, r, e, _⟩ := f.2.1 h; exact ⟨_, _, _, e⟩
    · obtain ⟨b, m, r, e, _⟩ := f.2.2.1 h; exact ⟨_, _, _, e⟩
    · obtain ⟨b, m, r, e, _⟩ := f.2.2.2.1 h; exact ⟨_, _, _, e⟩
  obtain ⟨b, m, r, e⟩ := this
  have em : sc_mt K q = m := by rw [sc_mt_cl hq, e]; rfl
  exact ⟨b, r, by rw [em]; exact e, by rw [e]; rfl, by rw [sc_lf_cl hq, e]; rfl⟩
theorem sc_noElse {i m : Nat} {r : List (Nat × Nat)} (hg : sc_good K i) (e : sc_fr K i = (m + 1, m) :: r) : ∀ q, q < i → K q = 20 → sc_mt K q ≠ m := by
  intro q hq k20 em
  obtain ⟨m', r', e', _⟩ := (hg q hq).2.1 k20
  have : m' = m := by rw [← em, sc_mt_cl (Or.inl k20), e']; rfl
  subst this
  have T := sc_top q (sc_good_le hg (by omega)) _ _ _ e'
  have h := sc_stay (b := m' + 1) (m := m') i (q + 1) hg (by omega) (by have := T.2.1; omega) (by rw [e]; exact List.mem_cons_self ..)
  exact sc_after (sc_good_le hg (by omega)) (Or.inl k20) e' m' h
/-- Y's arrays behind line i -/
def ys_ar (K : Nat → Nat) (i : Nat) (f : Nat → Int32) : Nat → Int32 := if K i = 19 ∨ K i = 20 ∨ K i = 22 then upd f (sc_cnt K i + 1) (nI (sc_cnt K (sc_hd (sc_lf K i)))) else f
def ys_or (K : Nat → Nat) (i : Nat) (f : Nat → Int32) : Nat → Int32 := if K i = 19 ∨ K i = 20 ∨ K i = 22 then upd f (sc_cnt K i + 1) (nI (sc_mt K i)) else f
def ys_ot (K : Nat → Nat) (i : Nat) (f : Nat → Int32) : Nat → Int32 := if K i = 19 ∨ K i = 22 then upd f i (-1) else if K i = 20 then upd f (sc_mt K i) (nI i) else f
def ys_en (K : Nat → Nat) (i : Nat) (f : Nat → Int32) : Nat → Int32 := if K i = 21 ∨ K i = 23 then upd f (sc_mt K i) (nI i) else f
def ys_on (K : Nat → Nat) (i : Nat) (f : Nat → Int32) : Nat → Int32 := if K i = 19 ∨ K i = 22 then upd f (sc_fr K i).length (nI i) else f
theorem ys_A_step {i : Nat} {blockOf opener around other end_ : Nat → Int32} (hg : sc_good K (i + 1)) (h : ys_A K i blockOf opener around other end_) :
    ys_A K (i + 1) (upd blockOf i (nI (sc_cnt K (sc_hd (sc_lf K i))))) (ys_or K i opener) (ys_ar K i around) (ys_ot K i other) (ys_en K i end_) := by
  intro j hj
  by_cases e : j = i
  · subst e
    refine ⟨pk_us, fun ho => ?_, fun h20 => ?_, fun ho hno => ?_, fun he => ?_⟩
    · rw [sc_cnt_op ho, ys_ar, if_pos ho, ys_or, if_pos ho]; exact ⟨pk_us, pk_us⟩
    · rw [ys_ot, if_neg (by omega), if_pos h20]; exact pk_us
    · rw [ys_ot, if_pos ho]; exact pk_us
    · rw [ys_en, if_pos he]; exact pk_us
  · have hji : j < i := by omega
    obtain ⟨h1, h2, h3, h4, h5⟩ := h j hji
    have gj : sc_good K (j + 1) := sc_good_le hg (by omega)
    have mj := sc_mt_le gj
    refine ⟨by rw [pk_un e]; exact h1, fun ho => ?_, fun h20 => ?_, fun ho hno => ?_, fun he => ?_⟩
    · have := sc_cnt_mono (K := K) (show j + 1 ≤ i by omega)
      obtain ⟨a1, a2⟩ := h2 ho
      rw [ys_ar, ys_or]
      split
      · rw [pk_un (by omega), pk_un (by omega)]; exact ⟨a1, a2⟩
      · exact ⟨a1, a2⟩
    · rw [ys_ot]
      split
      · rw [pk_un (by omega)]; exact h3 h20
      · split
        · rename_i k20
          have ne : sc_mt K j ≠ sc_mt K i := by
            intro ee
            obtain ⟨m, r, ei, _⟩ := (hg i (by omega)).2.1 k20
            have emi : sc_mt K i = m := by rw [sc_mt_cl (Or.inl k20), ei]; rfl
            exact sc_noElse (sc_good_le hg (by omega)) ei j hji h20 (by rw [ee, emi])
          rw [pk_un ne]; exact h3 h20
        · exact h3 h20
    · have h4' := h4 ho (fun q hq k20 => hno q (by omega) k20)
      rw [ys_ot]
      split
      · rw [pk_un e]; exact h4'
      · split
        · rename_i k20
          rw [pk_un (fun ee => hno i (by omega) k20 ee.symm)]; exact h4'
        · exact h4'
    · rw [ys_en]
      split
      · rename_i k21
        have ne : sc_mt K j ≠ sc_mt K i := by
          intro ee
          obtain ⟨b, r, ej, _⟩ := sc_clTop (hg j (by omega)) (by omega)
          obtain ⟨b', r', ei, _⟩ := sc_clTop (hg i (by omega)) (by omega)
          rw [← ee] at ei
          exact sc_uniqM hg hji he ej ei
        rw [pk_un ne]; exact h5 he
      · exact h5 he
theorem ys_O_step {i : Nat} {opn : Nat → Int32} (hg : sc_good K (i + 1)) (h : ys_O opn (sc_fr K i)) : ys_O (ys_on K i opn) (sc_fr K (i + 1)) := by
  have hf := hg i (by omega)
  by_cases h1 : K i = 19 ∨ K i = 22
  · rw [sc_s_open h1, ys_on, if_pos h1]
    exact ⟨pk_us, ys_O_upd _ _ (Nat.le_refl _) h⟩
  · rw [ys_on, if_neg h1]
    by_cases h2 : K i = 20
    · obtain ⟨m, r, e, _⟩ := hf.2.1 h2
      rw [sc_s_else h2, e]
      rw [e] at h
      exact h
    · by_cases h3 : K i = 21 ∨ K i = 23
      · obtain ⟨b, r, e, _⟩ := sc_clTop hf (by omega)
        rw [sc_s_end h3, e]
        rw [e] at h
        exact h.2
      · rw [sc_s_plain (by omega)]; exact h
end
section
variable {K : Nat → Nat} {n : Nat}
variable {f_lines f_known f_wrong f_place f_blocks f_steps f_dropped f_on f_next f_again f_depth : Int32} {a_ops a_as a_bs a_cs a_blockOf a_opener a_around a_other a_end a_open a_varied a_loose a_variedVariable a_stands a_number a_isConst a_needed a_inputs a_values a_variables a_cells a_outs a_was a_rest a_line : Nat → Int32}
def yl_top (l : List (Nat × Nat)) : Int32 := match l with | [] => -1 | f :: _ => nI f.2
theorem yl_135 {post : SY → Prop} {J : Int32 → Int32 → Int32 → Int32 → Int32 → Int32 → Int32 → Int32 → Int32 → Int32 → Int32 → Int32 → Int32 → Int32 → (Nat → Int32) → (Nat → Int32) → (Nat → Int32) → (Nat → Int32) → (Nat → Int32) → (Nat → Int32) → (Nat → Int32) → (Nat → Int32) → (Nat → Int32) → (Nat → Int32) → (Nat → Int32) → (Nat → Int32) → (Nat → Int32) → (Nat → Int32) → (Nat → Int32) → (Nat → Int32) → (Nat → Int32) → (Nat → Int32) → (Nat → Int32) → (Nat → Int32) → (Nat → Int32) → (Nat → Int32) → (Nat → Int32) → (Nat → Int32) → (Nat → Int32) → Prop} {x2 x3 x5 x6 x7 : Int32} {len k : Nat} {F : Prop} (hk : k ≤ 25) (hl : len ≤ 4)
    (hgo : F → wY_look_221 post J (nI len) x2 x3 (nI k) x5 f_lines f_known f_wrong f_place f_blocks f_steps f_dropped f_on f_next f_again f_depth a_ops a_as a_bs a_cs a_blockOf a_opener a_around a_other a_end a_open a_varied a_loose a_variedVariable a_stands a_number a_isConst a_needed a_inputs a_values a_variables a_cells a_outs a_was a_rest a_line) (hno : ¬ F → wY_look_217 post J (nI len) x2 x3 (nI k) x5 f_lines f_known f_wrong f_place f_blocks f_steps f_dropped f_on f_next f_again f_depth a_ops a_as a_bs a_cs a_blockOf a_opener a_around a_other a_end a_open a_varied a_loose a_variedVariable a_stands a_number a_isConst a_needed a_inputs a_values a_variables a_cells a_outs a_was a_rest a_line)
    (f20 : k = 20 → (x6 = 0 ∧ ¬ F) ∨ (¬ x6 = 0 ∧ vp_in x5 48 ∧ (0 ≤ a_other x5.toNatClampNeg ∧ ¬ F ∨ ¬ 0 ≤ a_other x5.toNatClampNeg ∧ F)))
    (f21 : k = 21 → (x6 = 0 ∧ ¬ F) ∨ (¬ x6 = 0 ∧ F)) (f23 : k = 23 → (x7 = 0 ∧ ¬ F) ∨ (¬ x7 = 0 ∧ F))
    (f24 : k = 24 → ∀ p : Int32 → Prop, (F → p 1) → (¬ F → p 0) → wpY_isInLoop p (f_lines, f_known, f_wrong, f_place, f_blocks, f_steps, f_dropped, f_on, f_next, f_again, f_depth, a_ops, a_as, a_bs, a_cs, a_blockOf, a_opener, a_around, a_other, a_end, a_open, a_varied, a_loose, a_variedVariable, a_stands, a_number, a_isConst, a_needed, a_inputs, a_values, a_variables, a_cells, a_outs, a_was, a_rest, a_line) (nI len))
    (fo : (k = 19 ∨ k = 22) → (F ↔ len < 4)) (fp : ¬ (k = 19 ∨ k = 20 ∨ k = 21 ∨ k = 22 ∨ k = 23 ∨ k = 24) → F) :
    wY_look_135 post J (nI len) x2 x3 (nI k) x5 x6 x7 f_lines f_known f_wrong f_place f_blocks f_steps f_dropped f_on f_next f_again f_depth a_ops a_as a_bs a_cs a_blockOf a_opener a_around a_other a_end a_open a_varied a_loose a_variedVariable a_stands a_number a_isConst a_needed a_inputs a_values a_variables a_cells a_outs a_was a_rest a_line := by
  have t212 : (k = 19 ∨ k = 22) → wY_look_212 post J (nI len) x2 x3 (nI k) x5 f_lines f_known f_wrong f_place f_blocks f_steps f_dropped f_on f_next f_again f_depth a_ops a_as a_bs a_cs a_blockOf a_opener a_around a_other a_end a_open a_varied a_loose a_variedVariable a_stands a_number a_isConst a_needed a_inputs a_values a_variables a_cells a_outs a_was a_rest a_line := fun h =>
    pk_eq len 4 (fun h4 => hno (fun f => by have := (fo h).mp f; omega)) (fun h4 => hgo ((fo h).mpr (by omega)))
  have t198 : F ∨ (k = 19 ∨ k = 22) → wY_look_198 post J (nI len) x2 x3 (nI k) x5 f_lines f_known f_wrong f_place f_blocks f_steps f_dropped f_on f_next f_again f_depth a_ops a_as a_bs a_cs a_blockOf a_opener a_around a_other a_end a_open a_varied a_loose a_variedVariable a_stands a_number a_isConst a_needed a_inputs a_values a_variables a_cells a_outs a_was a_rest a_line := fun h =>
    pk_eq k 19 (fun h' => t212 (Or.inl h')) (fun h19 => pk_eq k 22 (fun h' => t212 (Or.inr h')) (fun h22 => hgo (h.resolve_right (by omega))))
  have t183 : k ≠ 24 → F ∨ (k = 19 ∨ k = 22) → wY_look_183 post J (nI len) x2 x3 (nI k) x5 f_lines f_known f_wrong f_place f_blocks f_steps f_dropped f_on f_next f_again f_depth a_ops a_as a_bs a_cs a_blockOf a_opener a_around a_other a_end a_open a_varied a_loose a_variedVariable a_stands a_number a_isConst a_needed a_inputs a_values a_variables a_cells a_outs a_was a_rest a_line := fun hk h =>
    pk_eq k 24 (fun h' => absurd h' hk) (fun _ => t198 h)
  have t171 : k ≠ 23 → k ≠ 24 → F ∨ (k = 19 ∨ k = 22) → wY_look_171 post J (nI len) x2 x3 (nI k) x5 x7 f_lines f_known f_wrong f_place f_blocks f_steps f_dropped f_on f_next f_again f_depth a_ops a_as a_bs a_cs a_blockOf a_opener a_around a_other a_end a_open a_varied a_loose a_variedVariable a_stands a_number a_isConst a_needed a_inputs a_values a_variables a_cells a_outs a_was a_rest a_line := fun hk hk' h =>
    pk_eq k 23 (fun h' => absurd h' hk) (fun _ => t183 hk' h)
  have t159 : k ≠ 21 → k ≠ 23 → k ≠ 24 → F ∨ (k = 19 ∨ k = 22) → wY_look_159 post J (nI len) x2 x3 (nI k) x5 x6 x7 f_lines f_known f_wrong f_place f_blocks f_steps f_dropped f_on f_next f_again f_depth a_ops a_as a_bs a_cs a_blockOf a_opener a_around a_other a_end a_open a_varied a_loose a_variedVariable a_stands a_number a_isConst a_needed a_inputs a_values a_variables a_cells a_outs a_was a_rest a_line := fun a b c h =>
    pk_eq k 21 (fun h' => absurd h' a) (fun _ => t171 b c h)
  refine pk_eq k 20 (fun h => ?_) (fun n20 => pk_eq k 21 (fun h => ?_) (fun n21 => pk_eq k 23 (fun h => ?_) (fun n23 => pk_eq k 24 (fun h => ?_) (fun n24 => t198 ?_))))
  · rcases f20 h with ⟨a, b⟩ | ⟨a, b, c⟩
    · exact br_t a (hno b)
    · refine br_f a ⟨b, ?_⟩
      rcases c with ⟨c, d⟩ | ⟨c, d⟩
      · exact br_t c (hno d)
      · exact br_f c (t159 (by omega) (by omega) (by omega) (Or.inl d))
  · rcases f21 h with ⟨a, b⟩ | ⟨a, b⟩
    · exact br_t a (hno b)
    · exact br_f a (t171 (by omega) (by omega) (Or.inl b))
  · rcases f23 h with ⟨a, b⟩ | ⟨a, b⟩
    · exact br_t a (hno b)
    · exact br_f a (t183 (by omega) (Or.inl b))
  · exact f24 h _ (fun f => br_f (by decide) (t198 (Or.inl f))) (fun f => br_t rfl (hno f))
  · by_cases h : k = 19 ∨ k = 22
    · exact Or.inr h
    · exact Or.inl (fp (by omega))
end
end
section
section
variable {K : Nat → Nat} {n : Nat}
variable {f_lines f_known f_wrong f_place f_blocks f_steps f_dropped f_on f_next f_again f_depth : Int32} {a_ops a_as a_bs a_cs a_blockOf a_opener a_around a_other a_end a_open a_varied a_loose a_variedVariable a_stands a_number a_isConst a_needed a_inputs a_values a_variables a_cells a_outs a_was a_rest a_line : Nat → Int32}
/-- the head of Y's round: is the line where it may be -/
theorem yl_head (hn : n ≤ 48) (hK : ∀ j, j < n → a_ops j = nI (K j) ∧ K j ≤ 25) {post : SY → Prop} {J : Int32 → Int32 → Int32 → Int32 → Int32 → Int32 → Int32 → Int32 → Int32 → Int32 → Int32 → Int32 → Int32 → Int32 → (Nat → Int32) → (Nat → Int32) → (Nat → Int32) → (Nat → Int32) → (Nat → Int32) → (Nat → Int32) → (Nat → Int32) → (Nat → Int32) → (Nat → Int32) → (Nat → Int32) → (Nat → Int32) → (Nat → Int32) → (Nat → Int32) → (Nat → Int32) → (Nat → Int32) → (Nat → Int32) → (Nat → Int32) → (Nat → Int32) → (Nat → Int32) → (Nat → Int32) → (Nat → Int32) → (Nat → Int32) → (Nat → Int32) → (Nat → Int32) → (Nat → Int32) → Prop} {x2 : Int32} {i : Nat} (hi : i < n) (hg : sc_good K i) (hO : ys_O a_open (sc_fr K i)) (hA : ys_A K i a_blockOf a_opener a_around a_other a_end)
    (hgo : sc_fits K i → wY_look_221 post J (nI (sc_fr K i).length) x2 (nI i) (nI (K i)) (yl_top (sc_fr K i)) f_lines f_known f_wrong f_place f_blocks f_steps f_dropped f_on f_next f_again f_depth a_ops a_as a_bs a_cs a_blockOf a_opener a_around a_other a_end a_open a_varied a_loose a_variedVariable a_stands a_number a_isConst a_needed a_inputs a_values a_variables a_cells a_outs a_was a_rest a_line) (hno : ¬ sc_fits K i → wY_look_217 post J (nI (sc_fr K i).length) x2 (nI i) (nI (K i)) (yl_top (sc_fr K i)) f_lines f_known f_wrong f_place f_blocks f_steps f_dropped f_on f_next f_again f_depth a_ops a_as a_bs a_cs a_blockOf a_opener a_around a_other a_end a_open a_varied a_loose a_variedVariable a_stands a_number a_isConst a_needed a_inputs a_values a_variables a_cells a_outs a_was a_rest a_line) :
    (nI (sc_fr K i).length ≤ 0 → wY_look_87 post J (nI (sc_fr K i).length) x2 (nI i) (nI (K i)) (-1) f_lines f_known f_wrong f_place f_blocks f_steps f_dropped f_on f_next f_again f_depth a_ops a_as a_bs a_cs a_blockOf a_opener a_around a_other a_end a_open a_varied a_loose a_variedVariable a_stands a_number a_isConst a_needed a_inputs a_values a_variables a_cells a_outs a_was a_rest a_line) ∧ (¬ nI (sc_fr K i).length ≤ 0 → (vp_in (nI (sc_fr K i).length - 1) 5 ∧ wY_look_87 post J (nI (sc_fr K i).length) x2 (nI i) (nI (K i)) (a_open (nI (sc_fr K i).length - 1).toNatClampNeg) f_lines f_known f_wrong f_place f_blocks f_steps f_dropped f_on f_next f_again f_depth a_ops a_as a_bs a_cs a_blockOf a_opener a_around a_other a_end a_open a_varied a_loose a_variedVariable a_stands a_number a_isConst a_needed a_inputs a_values a_variables a_cells a_outs a_was a_rest a_line)) := by
  have k25 := (hK i hi).2
  have len := sc_len i hg
  have f24 : K i = 24 → ∀ p : Int32 → Prop, (sc_fits K i → p 1) → (¬ sc_fits K i → p 0) → wpY_isInLoop p (f_lines, f_known, f_wrong, f_place, f_blocks, f_steps, f_dropped, f_on, f_next, f_again, f_depth, a_ops, a_as, a_bs, a_cs, a_blockOf, a_opener, a_around, a_other, a_end, a_open, a_varied, a_loose, a_variedVariable, a_stands, a_number, a_isConst, a_needed, a_inputs, a_values, a_variables, a_cells, a_outs, a_was, a_rest, a_line) (nI (sc_fr K i).length) := fun h24 p p1 p0 =>
    ys_inLoop hn hK (by omega) hg hO (fun h => p1 ⟨by omega, by omega, by omega, by omega, fun _ => h⟩) (fun h => p0 (fun f => h (f.2.2.2.2 h24)))
  have fo : (K i = 19 ∨ K i = 22) → (sc_fits K i ↔ (sc_fr K i).length < 4) := fun h => ⟨fun f => f.1 h, fun f => ⟨fun _ => f, by omega, by omega, by omega, by omega⟩⟩
  have fp : ¬ (K i = 19 ∨ K i = 20 ∨ K i = 21 ∨ K i = 22 ∨ K i = 23 ∨ K i = 24) → sc_fits K i := fun h => ⟨by omega, by omega, by omega, by omega, by omega⟩
  cases e : sc_fr K i with
  | nil =>
    rw [e] at hgo hno f24 fo
    refine br_t (by decide) (br_t (by decide) (br_t (by decide) ?_))
    refine yl_135 (F := sc_fits K i) k25 (by simp) hgo hno (fun h => Or.inl ⟨rfl, ?_⟩) (fun h => Or.inl ⟨rfl, ?_⟩) (fun h => Or.inl ⟨rfl, ?_⟩) f24 fo fp
    · rintro ⟨_, f, _⟩; obtain ⟨m, r, e', _⟩ := f h; rw [e] at e'; cases e'
    · rintro ⟨_, _, f, _⟩; obtain ⟨b, m, r, e', _⟩ := f h; rw [e] at e'; cases e'
    · rintro ⟨_, _, _, f, _⟩; obtain ⟨b, m, r, e', _⟩ := f h; rw [e] at e'; cases e'
  | cons f r =>
    obtain ⟨b, m⟩ := f
    have T := sc_top i hg _ _ _ e
    have tb2 := T.2.1
    have tm := T.2.2.1
    rw [e] at hgo hno f24 fo hO len
    simp only [List.length_cons] at len
    have el : nI ((b, m) :: r).length - 1 = nI r.length := nI_pred _
    have eo : a_open (nI ((b, m) :: r).length - 1).toNatClampNeg = nI m := by rw [el, nI_clamp (by omega)]; exact hO.1
    have km := hK m (by omega)
    have im : vp_in (nI m) 48 := vp_in_nI (by omega) (by omega)
    have cm : (nI m).toNatClampNeg = m := nI_clamp (by omega)
    refine br_f (nI_nle (by simp) (by simp only [List.length_cons]; omega)) ⟨by rw [el]; exact vp_in_nI (by omega) (by omega), ?_⟩
    rw [eo]
    have f20 : ∀ x6 : Int32, (x6 = 0 ↔ ¬ K m = 19) → K i = 20 → (x6 = 0 ∧ ¬ sc_fits K i) ∨ (¬ x6 = 0 ∧ vp_in (nI m) 48 ∧ (0 ≤ a_other (nI m).toNatClampNeg ∧ ¬ sc_fits K i ∨ ¬ 0 ≤ a_other (nI m).toNatClampNeg ∧ sc_fits K i)) := by
      intro x6 h6 h20
      by_cases k19 : K m = 19
      · refine Or.inr ⟨fun h => (h6.mp h) k19, im, ?_⟩
        rw [cm]
        rcases T.2.2.2.1 with ⟨hb, _⟩ | ⟨hb, _, hlt⟩
        · subst hb
          refine Or.inr ⟨?_, by omega, fun _ => ⟨m, r, e, k19⟩, by omega, by omega, by omega⟩
          rw [(hA m (by omega)).2.2.2.1 (Or.inl k19) (sc_noElse hg e)]; decide
        · refine Or.inl ⟨?_, ?_⟩
          · have := (hA (b - 1) (by omega)).2.2.1 hb
            rw [T.2.2.2.2.2.2.1] at this
            rw [this]; exact nI_pos' (by omega)
          · rintro ⟨_, f, _⟩; obtain ⟨m', r', e', _⟩ := f h20
            rw [e] at e'
            simp only [List.cons.injEq, Prod.mk.injEq] at e'
            omega
      · refine Or.inl ⟨h6.mpr k19, ?_⟩
        rintro ⟨_, f, _⟩; obtain ⟨m', r', e', k'⟩ := f h20
        rw [e] at e'
        simp only [List.cons.injEq, Prod.mk.injEq] at e'
        rw [← e'.1.2] at k'; exact k19 k'
    have f21 : ∀ x6 : Int32, (x6 = 0 ↔ ¬ K m = 19) → K i = 21 → (x6 = 0 ∧ ¬ sc_fits K i) ∨ (¬ x6 = 0 ∧ sc_fits K i) := by
      intro x6 h6 h21
      by_cases k19 : K m = 19
      · exact Or.inr ⟨fun h => (h6.mp h) k19, by omega, by omega, fun _ => ⟨b, m, r, e, k19⟩, by omega, by omega⟩
      · refine Or.inl ⟨h6.mpr k19, ?_⟩
        rintro ⟨_, _, f, _⟩; obtain ⟨b', m', r', e', k'⟩ := f h21
        rw [e] at e'
        simp only [List.cons.injEq, Prod.mk.injEq] at e'
        rw [← e'.1.2] at k'; exact k19 k'
    have f23 : ∀ x7 : Int32, (x7 = 0 ↔ ¬ K m = 22) → K i = 23 → (x7 = 0 ∧ ¬ sc_fits K i) ∨ (¬ x7 = 0 ∧ sc_fits K i) := by
      intro x7 h7 h23
      by_cases k22 : K m = 22
      · exact Or.inr ⟨fun h => (h7.mp h) k22, by omega, by omega, by omega, fun _ => ⟨b, m, r, e, k22⟩, by omega⟩
      · refine Or.inl ⟨h7.mpr k22, ?_⟩
        rintro ⟨_, _, _, f, _⟩; obtain ⟨b', m', r', e', k'⟩ := f h23
        rw [e] at e'
        simp only [List.cons.injEq, Prod.mk.injEq] at e'
        rw [← e'.1.2] at k'; exact k22 k'
    have fin : ∀ x6 x7 : Int32, (x6 = 0 ↔ ¬ K m = 19) → (x7 = 0 ↔ ¬ K m = 22) → wY_look_135 post J (nI ((b, m) :: r).length) x2 (nI i) (nI (K i)) (nI m) x6 x7 f_lines f_known f_wrong f_place f_blocks f_steps f_dropped f_on f_next f_again f_depth a_ops a_as a_bs a_cs a_blockOf a_opener a_around a_other a_end a_open a_varied a_loose a_variedVariable a_stands a_number a_isConst a_needed a_inputs a_values a_variables a_cells a_outs a_was a_rest a_line := fun x6 x7 h6 h7 =>
      yl_135 (F := sc_fits K i) k25 (by simp only [List.length_cons]; omega) hgo hno (f20 x6 h6) (f21 x6 h6) (f23 x7 h7) f24 fo fp
    have t111 : ∀ x6 : Int32, (x6 = 0 ↔ ¬ K m = 19) → wY_look_111 post J (nI ((b, m) :: r).length) x2 (nI i) (nI (K i)) (nI m) x6 f_lines f_known f_wrong f_place f_blocks f_steps f_dropped f_on f_next f_again f_depth a_ops a_as a_bs a_cs a_blockOf a_opener a_around a_other a_end a_open a_varied a_loose a_variedVariable a_stands a_number a_isConst a_needed a_inputs a_values a_variables a_cells a_outs a_was a_rest a_line := by
      intro x6 h6
      refine br_f (nI_pos (by omega)) ⟨im, ?_⟩
      rw [cm, km.1]
      exact pk_eq (K m) 22 (fun h => fin x6 1 h6 ⟨fun h => absurd h (by decide), fun h' => absurd h h'⟩) (fun h => fin x6 0 h6 ⟨fun _ => h, fun _ => rfl⟩)
    refine br_f (nI_pos (by omega)) ⟨im, ?_⟩
    rw [cm, km.1]
    exact pk_eq (K m) 19 (fun h => t111 1 ⟨fun h => absurd h (by decide), fun h' => absurd h h'⟩) (fun h => t111 0 ⟨fun _ => h, fun _ => rfl⟩)
/-- where something is wrong of 1 to 3 -/
theorem yl_end {post : SY → Prop} {x1 : Int32} {c : Nat} (hc : 0 < c) (hc4 : c < 4) (h : post (f_lines, f_known, nI c, f_place, f_blocks, f_steps, f_dropped, f_on, f_next, f_again, f_depth, a_ops, a_as, a_bs, a_cs, a_blockOf, a_opener, a_around, a_other, a_end, a_open, a_varied, a_loose, a_variedVariable, a_stands, a_number, a_isConst, a_needed, a_inputs, a_values, a_variables, a_cells, a_outs, a_was, a_rest, a_line)) : wY_look_457 post x1 f_lines f_known (nI c) f_place f_blocks f_steps f_dropped f_on f_next f_again f_depth a_ops a_as a_bs a_cs a_blockOf a_opener a_around a_other a_end a_open a_varied a_loose a_variedVariable a_stands a_number a_isConst a_needed a_inputs a_values a_variables a_cells a_outs a_was a_rest a_line :=
  br_f (nI_ne0 hc (by omega)) (br_f (nI_nle hc (by omega)) h)
theorem yl_loopBad {post : SY → Prop} {x1 x2 x3 : Int32} {d c : Nat} (hc : 0 < c) (hc4 : c < 4) (h : post (f_lines, f_known, nI c, f_place, f_blocks, f_steps, f_dropped, f_on, f_next, f_again, f_depth, a_ops, a_as, a_bs, a_cs, a_blockOf, a_opener, a_around, a_other, a_end, a_open, a_varied, a_loose, a_variedVariable, a_stands, a_number, a_isConst, a_needed, a_inputs, a_values, a_variables, a_cells, a_outs, a_was, a_rest, a_line)) : wY_look_48 post (d + 1) x1 x2 x3 f_lines f_known (nI c) f_place f_blocks f_steps f_dropped f_on f_next f_again f_depth a_ops a_as a_bs a_cs a_blockOf a_opener a_around a_other a_end a_open a_varied a_loose a_variedVariable a_stands a_number a_isConst a_needed a_inputs a_values a_variables a_cells a_outs a_was a_rest a_line :=
  br_c (fun _ => yl_end hc hc4 h) (fun _ => br_f (nI_ne0 hc (by omega)) (yl_end hc hc4 h))
theorem yl_290bad {post : SY → Prop} {J : Int32 → Int32 → Int32 → Int32 → Int32 → Int32 → Int32 → Int32 → Int32 → Int32 → Int32 → Int32 → Int32 → Int32 → (Nat → Int32) → (Nat → Int32) → (Nat → Int32) → (Nat → Int32) → (Nat → Int32) → (Nat → Int32) → (Nat → Int32) → (Nat → Int32) → (Nat → Int32) → (Nat → Int32) → (Nat → Int32) → (Nat → Int32) → (Nat → Int32) → (Nat → Int32) → (Nat → Int32) → (Nat → Int32) → (Nat → Int32) → (Nat → Int32) → (Nat → Int32) → (Nat → Int32) → (Nat → Int32) → (Nat → Int32) → (Nat → Int32) → (Nat → Int32) → (Nat → Int32) → Prop} {x1 x2 x4 x5 : Int32} {i c : Nat} (hc : 0 < c) (hc4 : c < 4) (h : J x1 x2 (nI (i + 1)) f_lines f_known (nI c) (nI i) f_blocks f_steps f_dropped f_on f_next f_again f_depth a_ops a_as a_bs a_cs a_blockOf a_opener a_around a_other a_end a_open a_varied a_loose a_variedVariable a_stands a_number a_isConst a_needed a_inputs a_values a_variables a_cells a_outs a_was a_rest a_line) : wY_look_290 post J x1 x2 (nI i) x4 x5 f_lines f_known (nI c) f_place f_blocks f_steps f_dropped f_on f_next f_again f_depth a_ops a_as a_bs a_cs a_blockOf a_opener a_around a_other a_end a_open a_varied a_loose a_variedVariable a_stands a_number a_isConst a_needed a_inputs a_values a_variables a_cells a_outs a_was a_rest a_line :=
  br_f (nI_nle hc (by omega)) (br_f (nI_nle hc (by omega)) (nm_r (nI_1 i) h))
theorem yl_217 {post : SY → Prop} {J : Int32 → Int32 → Int32 → Int32 → Int32 → Int32 → Int32 → Int32 → Int32 → Int32 → Int32 → Int32 → Int32 → Int32 → (Nat → Int32) → (Nat → Int32) → (Nat → Int32) → (Nat → Int32) → (Nat → Int32) → (Nat → Int32) → (Nat → Int32) → (Nat → Int32) → (Nat → Int32) → (Nat → Int32) → (Nat → Int32) → (Nat → Int32) → (Nat → Int32) → (Nat → Int32) → (Nat → Int32) → (Nat → Int32) → (Nat → Int32) → (Nat → Int32) → (Nat → Int32) → (Nat → Int32) → (Nat → Int32) → (Nat → Int32) → (Nat → Int32) → (Nat → Int32) → (Nat → Int32) → Prop} {x1 x2 x5 : Int32} {i k : Nat} (hi : i < 48) (hk : k ≤ 25) (h : ∀ bo, J x1 x2 (nI (i + 1)) f_lines f_known 1 (nI i) f_blocks f_steps f_dropped f_on f_next f_again f_depth a_ops a_as a_bs a_cs bo a_opener a_around a_other a_end a_open a_varied a_loose a_variedVariable a_stands a_number a_isConst a_needed a_inputs a_values a_variables a_cells a_outs a_was a_rest a_line) : wY_look_217 post J x1 x2 (nI i) (nI k) x5 f_lines f_known f_wrong f_place f_blocks f_steps f_dropped f_on f_next f_again f_depth a_ops a_as a_bs a_cs a_blockOf a_opener a_around a_other a_end a_open a_varied a_loose a_variedVariable a_stands a_number a_isConst a_needed a_inputs a_values a_variables a_cells a_outs a_was a_rest a_line := by
  have t261 : wY_look_261 post J x1 x2 (nI i) (nI k) x5 1 f_lines f_known f_wrong f_place f_blocks f_steps f_dropped f_on f_next f_again f_depth a_ops a_as a_bs a_cs a_blockOf a_opener a_around a_other a_end a_open a_varied a_loose a_variedVariable a_stands a_number a_isConst a_needed a_inputs a_values a_variables a_cells a_outs a_was a_rest a_line := ⟨vp_in_nI (by omega) (by omega), nm_e (br_f (by decide) (yl_290bad (c := 1) (by omega) (by omega) (h _)))⟩
  have t245 : wY_look_245 post J x1 x2 (nI i) (nI k) x5 1 f_lines f_known f_wrong f_place f_blocks f_steps f_dropped f_on f_next f_again f_depth a_ops a_as a_bs a_cs a_blockOf a_opener a_around a_other a_end a_open a_varied a_loose a_variedVariable a_stands a_number a_isConst a_needed a_inputs a_values a_variables a_cells a_outs a_was a_rest a_line := br_f (by decide) t261
  exact pk_eq k 20 (fun _ => t245) (fun _ => pk_eq k 21 (fun _ => t245) (fun _ => pk_eq k 23 (fun _ => t245) (fun _ => t261)))
/-- the line is all right: Y's marks for it -/
theorem yl_290 (hn : n ≤ 48) {post : SY → Prop} {J : Int32 → Int32 → Int32 → Int32 → Int32 → Int32 → Int32 → Int32 → Int32 → Int32 → Int32 → Int32 → Int32 → Int32 → (Nat → Int32) → (Nat → Int32) → (Nat → Int32) → (Nat → Int32) → (Nat → Int32) → (Nat → Int32) → (Nat → Int32) → (Nat → Int32) → (Nat → Int32) → (Nat → Int32) → (Nat → Int32) → (Nat → Int32) → (Nat → Int32) → (Nat → Int32) → (Nat → Int32) → (Nat → Int32) → (Nat → Int32) → (Nat → Int32) → (Nat → Int32) → (Nat → Int32) → (Nat → Int32) → (Nat → Int32) → (Nat → Int32) → (Nat → Int32) → (Nat → Int32) → Prop} {i : Nat} (hi : i < n) (k25 : K i ≤ 25) (hg : sc_good K i) (hf : sc_fits K i)
    (h : J (nI (sc_fr K (i + 1)).length) (nI (sc_cnt K (sc_hd (sc_fr K (i + 1))))) (nI (i + 1)) f_lines f_known 0 f_place (nI (sc_cnt K (i + 1) + 1)) f_steps f_dropped f_on f_next f_again f_depth a_ops a_as a_bs a_cs a_blockOf (ys_or K i a_opener) (ys_ar K i a_around) (ys_ot K i a_other) (ys_en K i a_end) (ys_on K i a_open) a_varied a_loose a_variedVariable a_stands a_number a_isConst a_needed a_inputs a_values a_variables a_cells a_outs a_was a_rest a_line) :
    wY_look_290 post J (nI (sc_fr K i).length) (nI (sc_cnt K (sc_hd (sc_lf K i)))) (nI i) (nI (K i)) (yl_top (sc_fr K i)) f_lines f_known 0 f_place (nI (sc_cnt K i + 1)) f_steps f_dropped f_on f_next f_again f_depth a_ops a_as a_bs a_cs a_blockOf a_opener a_around a_other a_end a_open a_varied a_loose a_variedVariable a_stands a_number a_isConst a_needed a_inputs a_values a_variables a_cells a_outs a_was a_rest a_line := by
  have len := sc_len i hg
  have ci : (nI i).toNatClampNeg = i := nI_clamp (by omega)
  have hin : vp_in (nI i) 48 := vp_in_nI (by omega) (by omega)
  have cc := sc_cnt_le (K := K) i
  have ib : vp_in (nI (sc_cnt K i + 1)) 97 := vp_in_nI (by omega) (by omega)
  have cb : (nI (sc_cnt K i + 1)).toNatClampNeg = sc_cnt K i + 1 := nI_clamp (by omega)
  refine br_t (by decide) (br_t (by decide) ?_)
  by_cases ho : K i = 19 ∨ K i = 22
  · have ho3 : K i = 19 ∨ K i = 20 ∨ K i = 22 := by omega
    have nc : ¬ (K i = 20 ∨ K i = 21 ∨ K i = 23) := by omega
    have l4 := hf.1 ho
    rw [sc_s_open ho, sc_hd_cons, sc_cnt_op ho3, ys_or, if_pos ho3, ys_ar, if_pos ho3, ys_ot, if_pos ho, ys_en, if_neg (by omega), ys_on, if_pos ho, sc_mt_n nc] at h
    have t432 : wY_look_432 post J (nI ((i + 1, i) :: sc_fr K i).length) (nI (sc_cnt K (sc_hd (sc_lf K i)))) (nI i) (nI (K i)) (yl_top (sc_fr K i)) f_lines f_known 0 f_place (nI (sc_cnt K i + 1)) f_steps f_dropped f_on f_next f_again f_depth a_ops a_as a_bs a_cs a_blockOf a_opener a_around (upd a_other i (-1)) a_end (upd a_open (sc_fr K i).length (nI i)) a_varied a_loose a_variedVariable a_stands a_number a_isConst a_needed a_inputs a_values a_variables a_cells a_outs a_was a_rest a_line :=
      pk_eq (K i) 20 (fun h' => absurd h' (by omega)) (fun _ => ⟨ib, nm_r (by rw [cb]) ⟨ib, nm_r (by rw [cb]) (nm_r (nI_1 _) (nm_r (nI_1 i) h))⟩⟩)
    have t411 : wY_look_411 post J (nI ((i + 1, i) :: sc_fr K i).length) (nI (sc_cnt K (sc_hd (sc_lf K i)))) (nI i) (nI (K i)) (yl_top (sc_fr K i)) f_lines f_known 0 f_place (nI (sc_cnt K i + 1)) f_steps f_dropped f_on f_next f_again f_depth a_ops a_as a_bs a_cs a_blockOf a_opener a_around (upd a_other i (-1)) a_end (upd a_open (sc_fr K i).length (nI i)) a_varied a_loose a_variedVariable a_stands a_number a_isConst a_needed a_inputs a_values a_variables a_cells a_outs a_was a_rest a_line :=
      pk_eq (K i) 19 (fun _ => t432) (fun _ => pk_eq (K i) 22 (fun _ => t432) (fun h' => absurd ho (by omega)))
    have t357 : wY_look_357 post J (nI ((i + 1, i) :: sc_fr K i).length) (nI (sc_cnt K (sc_hd (sc_lf K i)))) (nI i) (nI (K i)) (yl_top (sc_fr K i)) f_lines f_known 0 f_place (nI (sc_cnt K i + 1)) f_steps f_dropped f_on f_next f_again f_depth a_ops a_as a_bs a_cs a_blockOf a_opener a_around (upd a_other i (-1)) a_end (upd a_open (sc_fr K i).length (nI i)) a_varied a_loose a_variedVariable a_stands a_number a_isConst a_needed a_inputs a_values a_variables a_cells a_outs a_was a_rest a_line :=
      pk_eq (K i) 20 (fun h' => absurd h' (by omega)) (fun _ => pk_eq (K i) 21 (fun h' => absurd h' (by omega)) (fun _ => pk_eq (K i) 23 (fun h' => absurd h' (by omega)) (fun _ => pk_eq (K i) 21 (fun h' => absurd h' (by omega)) (fun _ => pk_eq (K i) 23 (fun h' => absurd h' (by omega)) (fun _ => t411)))))
    have t350 : wY_look_350 post J (nI ((i + 1, i) :: sc_fr K i).length) (nI (sc_cnt K (sc_hd (sc_lf K i)))) (nI i) (nI (K i)) (yl_top (sc_fr K i)) f_lines f_known 0 f_place (nI (sc_cnt K i + 1)) f_steps f_dropped f_on f_next f_again f_depth a_ops a_as a_bs a_cs a_blockOf a_opener a_around a_other a_end (upd a_open (sc_fr K i).length (nI i)) a_varied a_loose a_variedVariable a_stands a_number a_isConst a_needed a_inputs a_values a_variables a_cells a_outs a_was a_rest a_line :=
      ⟨hin, nm_r (by rw [ci]) t357⟩
    have t326 : wY_look_326 post J (nI (sc_fr K i).length) (nI (sc_cnt K (sc_hd (sc_lf K i)))) (nI i) (nI (K i)) (yl_top (sc_fr K i)) f_lines f_known 0 f_place (nI (sc_cnt K i + 1)) f_steps f_dropped f_on f_next f_again f_depth a_ops a_as a_bs a_cs a_blockOf a_opener a_around a_other a_end a_open a_varied a_loose a_variedVariable a_stands a_number a_isConst a_needed a_inputs a_values a_variables a_cells a_outs a_was a_rest a_line :=
      nm_r (e' := nI ((i + 1, i) :: sc_fr K i).length) (nI_1 _) ⟨vp_in_nI (by omega) (by omega), nm_r (by rw [nI_clamp (by omega)]) (pk_eq (K i) 19 (fun _ => t350) (fun _ => pk_eq (K i) 22 (fun _ => t350) (fun h' => absurd ho (by omega))))⟩
    exact pk_eq (K i) 19 (fun _ => t326) (fun _ => pk_eq (K i) 22 (fun _ => t326) (fun h' => absurd ho (by omega)))
  refine pk_eq (K i) 19 (fun h' => absurd (Or.inl h') ho) (fun _ => pk_eq (K i) 22 (fun h' => absurd (Or.inr h') ho) (fun _ => pk_eq (K i) 19 (fun h' => absurd (Or.inl h') ho) (fun _ => pk_eq (K i) 22 (fun h' => absurd (Or.inr h') ho) (fun _ => ?_))))
  by_cases h20 : K i = 20
  · have ho3 : K i = 19 ∨ K i = 20 ∨ K i = 22 := by omega
    obtain ⟨m, r, e, km⟩ := hf.2.1 h20
    have T := sc_top i hg _ _ _ e
    have tb := T.2.1
    have em : sc_mt K i = m := by rw [sc_mt_cl (by omega), e]; rfl
    have el : sc_lf K i = r := by rw [sc_lf_cl (by omega), e]; rfl
    rw [sc_s_else h20, sc_hd_cons, sc_cnt_op ho3, ys_or, if_pos ho3, ys_ar, if_pos ho3, ys_ot, if_neg (by omega), if_pos h20, ys_en, if_neg (by omega), ys_on, if_neg (by omega), em] at h
    have eq : nI ((i + 1, ((sc_fr K i).headD (0, 0)).2) :: (sc_fr K i).tail).length = nI (sc_fr K i).length := by rw [e]; rfl
    rw [eq] at h
    have et : yl_top (sc_fr K i) = nI m := by rw [e]; rfl
    rw [et]
    have im : vp_in (nI m) 48 := vp_in_nI (by omega) (by omega)
    have cm : (nI m).toNatClampNeg = m := nI_clamp (by omega)
    refine pk_eq (K i) 20 (fun _ => ⟨im, nm_r (e' := upd a_other m (nI i)) (by rw [cm]) ?_⟩) (fun h' => absurd h20 h')
    refine pk_eq (K i) 21 (fun h' => absurd h' (by omega)) (fun _ => pk_eq (K i) 23 (fun h' => absurd h' (by omega)) (fun _ => pk_eq (K i) 21 (fun h' => absurd h' (by omega)) (fun _ => pk_eq (K i) 23 (fun h' => absurd h' (by omega)) (fun _ => ?_))))
    refine pk_eq (K i) 19 (fun h' => absurd h' (by omega)) (fun _ => pk_eq (K i) 22 (fun h' => absurd h' (by omega)) (fun _ => pk_eq (K i) 20 (fun _ => ?_) (fun h' => absurd h20 h')))
    exact pk_eq (K i) 20 (fun _ => ⟨ib, nm_r (by rw [cb]) ⟨ib, nm_r (by rw [cb]) (nm_r (nI_1 _) (nm_r (nI_1 i) h))⟩⟩) (fun h' => absurd h20 h')
  refine pk_eq (K i) 20 (fun h' => absurd h' h20) (fun _ => ?_)
  have no3 : ¬ (K i = 19 ∨ K i = 20 ∨ K i = 22) := by omega
  by_cases h21 : K i = 21 ∨ K i = 23
  · obtain ⟨b, r, e, _, el⟩ := sc_clTop hf (by omega)
    have T := sc_top i hg _ _ _ e
    have tb := T.2.1
    have tm := T.2.2.1
    rw [sc_s_end h21, sc_cnt_n no3, ys_or, if_neg no3, ys_ar, if_neg no3, ys_ot, if_neg ho, if_neg h20, ys_en, if_pos h21, ys_on, if_neg ho] at h
    have eq1 : (sc_fr K i).tail = sc_lf K i := (sc_lf_cl (by omega)).symm
    rw [eq1] at h
    generalize em : sc_mt K i = m at *
    have et : yl_top (sc_fr K i) = nI m := by rw [e]; rfl
    have im : vp_in (nI m) 48 := vp_in_nI (by omega) (by omega)
    have cm : (nI m).toNatClampNeg = m := nI_clamp (by omega)
    have elen : nI (sc_fr K i).length + (-1) = nI (sc_lf K i).length := by
      rw [e, el]; exact pk_m1 _
    rw [et]
    have t411 : wY_look_411 post J (nI (sc_lf K i).length) (nI (sc_cnt K (sc_hd (sc_lf K i)))) (nI i) (nI (K i)) (nI m) f_lines f_known 0 f_place (nI (sc_cnt K i + 1)) f_steps f_dropped f_on f_next f_again f_depth a_ops a_as a_bs a_cs a_blockOf a_opener a_around a_other (upd a_end m (nI i)) a_open a_varied a_loose a_variedVariable a_stands a_number a_isConst a_needed a_inputs a_values a_variables a_cells a_outs a_was a_rest a_line :=
      pk_eq (K i) 19 (fun h' => absurd (Or.inl h') ho) (fun _ => pk_eq (K i) 22 (fun h' => absurd (Or.inr h') ho) (fun _ => pk_eq (K i) 20 (fun h' => absurd h' h20) (fun _ => nm_r (nI_1 i) h)))
    have t408 : wY_look_408 post J (nI (sc_fr K i).length) (nI (sc_cnt K (sc_hd (sc_lf K i)))) (nI i) (nI (K i)) (nI m) f_lines f_known 0 f_place (nI (sc_cnt K i + 1)) f_steps f_dropped f_on f_next f_again f_depth a_ops a_as a_bs a_cs a_blockOf a_opener a_around a_other (upd a_end m (nI i)) a_open a_varied a_loose a_variedVariable a_stands a_number a_isConst a_needed a_inputs a_values a_variables a_cells a_outs a_was a_rest a_line := nm_r elen t411
    have t386 : wY_look_386 post J (nI (sc_fr K i).length) (nI (sc_cnt K (sc_hd (sc_lf K i)))) (nI i) (nI (K i)) (nI m) f_lines f_known 0 f_place (nI (sc_cnt K i + 1)) f_steps f_dropped f_on f_next f_again f_depth a_ops a_as a_bs a_cs a_blockOf a_opener a_around a_other a_end a_open a_varied a_loose a_variedVariable a_stands a_number a_isConst a_needed a_inputs a_values a_variables a_cells a_outs a_was a_rest a_line :=
      ⟨im, nm_r (by rw [cm]) (pk_eq (K i) 21 (fun _ => t408) (fun _ => pk_eq (K i) 23 (fun _ => t408) (fun h' => absurd h21 (by omega))))⟩
    exact pk_eq (K i) 21 (fun _ => t386) (fun _ => pk_eq (K i) 23 (fun _ => t386) (fun h' => absurd h21 (by omega)))
  rw [sc_s_plain (by omega), sc_cnt_n no3, ys_or, if_neg no3, ys_ar, if_neg no3, ys_ot, if_neg ho, if_neg h20, ys_en, if_neg h21, ys_on, if_neg ho] at h
  rw [sc_lf_n (by omega)]
  refine pk_eq (K i) 21 (fun h' => absurd h' (by omega)) (fun _ => pk_eq (K i) 23 (fun h' => absurd h' (by omega)) (fun _ => pk_eq (K i) 21 (fun h' => absurd h' (by omega)) (fun _ => pk_eq (K i) 23 (fun h' => absurd h' (by omega)) (fun _ => ?_))))
  exact pk_eq (K i) 19 (fun h' => absurd (Or.inl h') ho) (fun _ => pk_eq (K i) 22 (fun h' => absurd (Or.inr h') ho) (fun _ => pk_eq (K i) 20 (fun h' => absurd h' h20) (fun _ => nm_r (nI_1 i) h)))
end
end
section
section
variable {K : Nat → Nat} {n : Nat}
variable {f_lines f_known f_wrong f_place f_blocks f_steps f_dropped f_on f_next f_again f_depth : Int32} {a_ops a_as a_bs a_cs a_blockOf a_opener a_around a_other a_end a_open a_varied a_loose a_variedVariable a_stands a_number a_isConst a_needed a_inputs a_values a_variables a_cells a_outs a_was a_rest a_line : Nat → Int32}
theorem yl_221 (hn : n ≤ 48) (hK : ∀ j, j < n → a_ops j = nI (K j) ∧ K j ≤ 25) {post : SY → Prop} {J : Int32 → Int32 → Int32 → Int32 → Int32 → Int32 → Int32 → Int32 → Int32 → Int32 → Int32 → Int32 → Int32 → Int32 → (Nat → Int32) → (Nat → Int32) → (Nat → Int32) → (Nat → Int32) → (Nat → Int32) → (Nat → Int32) → (Nat → Int32) → (Nat → Int32) → (Nat → Int32) → (Nat → Int32) → (Nat → Int32) → (Nat → Int32) → (Nat → Int32) → (Nat → Int32) → (Nat → Int32) → (Nat → Int32) → (Nat → Int32) → (Nat → Int32) → (Nat → Int32) → (Nat → Int32) → (Nat → Int32) → (Nat → Int32) → (Nat → Int32) → (Nat → Int32) → (Nat → Int32) → Prop} {i : Nat} (hi : i < n) (hg : sc_good K i) (hf : sc_fits K i) (hA : ys_A K i a_blockOf a_opener a_around a_other a_end)
    (hbad : ∀ (c : Nat) (x2 : Int32) (bo : Nat → Int32), sc_ck K a_as a_bs a_cs i c → c ≠ 0 → c < 4 → J (nI (sc_fr K i).length) x2 (nI (i + 1)) f_lines f_known (nI c) (nI i) (nI (sc_cnt K i + 1)) f_steps f_dropped f_on f_next f_again f_depth a_ops a_as a_bs a_cs bo a_opener a_around a_other a_end a_open a_varied a_loose a_variedVariable a_stands a_number a_isConst a_needed a_inputs a_values a_variables a_cells a_outs a_was a_rest a_line)
    (h : sc_ck K a_as a_bs a_cs i 0 → J (nI (sc_fr K (i + 1)).length) (nI (sc_cnt K (sc_hd (sc_fr K (i + 1))))) (nI (i + 1)) f_lines f_known 0 f_place (nI (sc_cnt K (i + 1) + 1)) f_steps f_dropped f_on f_next f_again f_depth a_ops a_as a_bs a_cs (upd a_blockOf i (nI (sc_cnt K (sc_hd (sc_lf K i))))) (ys_or K i a_opener) (ys_ar K i a_around) (ys_ot K i a_other) (ys_en K i a_end) (ys_on K i a_open) a_varied a_loose a_variedVariable a_stands a_number a_isConst a_needed a_inputs a_values a_variables a_cells a_outs a_was a_rest a_line) :
    wY_look_221 post J (nI (sc_fr K i).length) (nI (sc_cnt K (sc_hd (sc_fr K i)))) (nI i) (nI (K i)) (yl_top (sc_fr K i)) f_lines f_known 0 f_place (nI (sc_cnt K i + 1)) f_steps f_dropped f_on f_next f_again f_depth a_ops a_as a_bs a_cs a_blockOf a_opener a_around a_other a_end a_open a_varied a_loose a_variedVariable a_stands a_number a_isConst a_needed a_inputs a_values a_variables a_cells a_outs a_was a_rest a_line := by
  have ci : (nI i).toNatClampNeg = i := nI_clamp (by omega)
  have k25 := (hK i hi).2
  have gi1 : sc_good K (i + 1) := fun j hj => by
    by_cases e : j = i
    · rw [e]; exact hf
    · exact hg j (by omega)
  have t261 : wY_look_261 post J (nI (sc_fr K i).length) (nI (sc_cnt K (sc_hd (sc_lf K i)))) (nI i) (nI (K i)) (yl_top (sc_fr K i)) 0 f_lines f_known 0 f_place (nI (sc_cnt K i + 1)) f_steps f_dropped f_on f_next f_again f_depth a_ops a_as a_bs a_cs a_blockOf a_opener a_around a_other a_end a_open a_varied a_loose a_variedVariable a_stands a_number a_isConst a_needed a_inputs a_values a_variables a_cells a_outs a_was a_rest a_line := by
    refine ⟨vp_in_nI (by omega) (by omega), nm_r (e' := upd a_blockOf i (nI (sc_cnt K (sc_hd (sc_lf K i))))) (by rw [ci]) (br_t rfl ⟨4, ?_⟩)⟩
    refine ys_operands4 (K := K) (n := n) hn hK hi gi1 (fun j hj ho => ((hA j hj).2.1 ho).1) (fun j hj => ?_) (fun h2 => yl_290bad (c := 2) (by omega) (by omega) (hbad 2 _ _ (Or.inr (Or.inl ⟨hf, h2, rfl⟩)) (by omega) (by omega))) (fun hv h3 => yl_290bad (c := 3) (by omega) (by omega) (hbad 3 _ _ (Or.inr (Or.inr (Or.inl ⟨hf, hv, h3, rfl⟩))) (by omega) (by omega))) (fun hv h0 => yl_290 hn hi (hK i hi).2 hg hf (h (Or.inr (Or.inr (Or.inr ⟨hf, hv, h0, rfl⟩))))) 3 0 0 rfl (fun s hs => by omega) (Or.inr ⟨rfl, fun s hs => by omega⟩)
    by_cases e : j = i
    · rw [e]; exact pk_us
    · rw [pk_un e]; exact (hA j (by omega)).1
  have closing : (K i = 20 ∨ K i = 21 ∨ K i = 23) → wY_look_245 post J (nI (sc_fr K i).length) (nI (sc_cnt K (sc_hd (sc_fr K i)))) (nI i) (nI (K i)) (yl_top (sc_fr K i)) 0 f_lines f_known 0 f_place (nI (sc_cnt K i + 1)) f_steps f_dropped f_on f_next f_again f_depth a_ops a_as a_bs a_cs a_blockOf a_opener a_around a_other a_end a_open a_varied a_loose a_variedVariable a_stands a_number a_isConst a_needed a_inputs a_values a_variables a_cells a_outs a_was a_rest a_line := by
    intro hc
    obtain ⟨b, r, e, eb, el⟩ := sc_clTop hf hc
    have T := sc_top i hg _ _ _ e
    have tb := T.2.1
    have tb1 := T.1
    have cb := sc_cnt_le (K := K) b
    have ha := ((hA (b - 1) (by omega)).2.1 T.2.2.2.2.2.2.2.1).1
    rw [show b - 1 + 1 = b by omega, T.2.2.2.2.1, ← el] at ha
    rw [eb]
    refine br_t rfl ⟨vp_in_nI (by omega) (by omega), ?_⟩
    rw [nI_clamp (by omega), ha]
    exact t261
  refine pk_eq (K i) 20 (fun h' => closing (Or.inl h')) (fun h20 => pk_eq (K i) 21 (fun h' => closing (Or.inr (Or.inl h'))) (fun h21 => pk_eq (K i) 23 (fun h' => closing (Or.inr (Or.inr h'))) (fun h23 => ?_)))
  rw [sc_lf_n (by omega)] at t261
  exact t261
theorem yl_look48 (hn : n ≤ 48) (hK : ∀ j, j < n → a_ops j = nI (K j) ∧ K j ≤ 25) {post : SY → Prop}
    (hbad : ∀ (i c : Nat) (bl : Int32) (blockOf opener around other end_ opn : Nat → Int32), i < n → sc_ok K a_as a_bs a_cs i → sc_ck K a_as a_bs a_cs i c → c ≠ 0 → c < 4 → post (nI n, f_known, nI c, nI i, bl, f_steps, f_dropped, f_on, f_next, f_again, f_depth, a_ops, a_as, a_bs, a_cs, blockOf, opener, around, other, end_, opn, a_varied, a_loose, a_variedVariable, a_stands, a_number, a_isConst, a_needed, a_inputs, a_values, a_variables, a_cells, a_outs, a_was, a_rest, a_line))
    (hopen : ∀ (bl : Int32) (blockOf opener around other end_ opn : Nat → Int32), sc_ok K a_as a_bs a_cs n → sc_fr K n ≠ [] → post (nI n, f_known, 1, nI n, bl, f_steps, f_dropped, f_on, f_next, f_again, f_depth, a_ops, a_as, a_bs, a_cs, blockOf, opener, around, other, end_, opn, a_varied, a_loose, a_variedVariable, a_stands, a_number, a_isConst, a_needed, a_inputs, a_values, a_variables, a_cells, a_outs, a_was, a_rest, a_line))
    (hgood : ∀ (blockOf opener around other end_ opn : Nat → Int32), sc_ok K a_as a_bs a_cs n → sc_fr K n = [] → ys_A K n blockOf opener around other end_ → around 0 = -1 → opener 0 = -1 → wY_look_481 post (nI n) f_known 0 f_place (nI (sc_cnt K n + 1)) f_steps f_dropped f_on f_next f_again f_depth a_ops a_as a_bs a_cs blockOf opener around other end_ opn a_varied a_loose a_variedVariable a_stands a_number a_isConst a_needed a_inputs a_values a_variables a_cells a_outs a_was a_rest a_line) :
    ∀ (d i : Nat) (blockOf opener around other end_ opn : Nat → Int32), i + d = n → sc_ok K a_as a_bs a_cs i → ys_A K i blockOf opener around other end_ → ys_O opn (sc_fr K i) → around 0 = -1 → opener 0 = -1 → wY_look_48 post (d + 2) (nI (sc_fr K i).length) (nI (sc_cnt K (sc_hd (sc_fr K i)))) (nI i) (nI n) f_known 0 f_place (nI (sc_cnt K i + 1)) f_steps f_dropped f_on f_next f_again f_depth a_ops a_as a_bs a_cs blockOf opener around other end_ opn a_varied a_loose a_variedVariable a_stands a_number a_isConst a_needed a_inputs a_values a_variables a_cells a_outs a_was a_rest a_line := by
  intro d
  induction d with
  | zero =>
    intro i blockOf opener around other end_ opn hi hok hA hO ha ho
    cases (show i = n by omega)
    have gn := sc_ok_good hok
    have len := sc_len n gn
    refine br_t (nI_le (Nat.le_refl _) (by omega)) (br_t rfl ?_)
    refine pk_le (sc_fr K n).length 0 (fun h => hgood _ _ _ _ _ _ hok (List.length_eq_zero_iff.mp (by omega)) hA ha ho) (fun h => br_f (by decide) (hopen _ _ _ _ _ _ _ hok ?_))
    intro e; rw [e] at h; simp at h
  | succ d ih =>
    intro i blockOf opener around other end_ opn hi hok hA hO ha ho
    have gi := sc_ok_good hok
    have hin : vp_in (nI i) 48 := vp_in_nI (by omega) (by omega)
    have ci : (nI i).toNatClampNeg = i := nI_clamp (by omega)
    have ki := hK i (by omega)
    refine br_f (nI_ge (by omega) (by omega)) (br_t rfl ⟨hin, nm_c ci ki.1 ?_⟩)
    refine yl_head hn hK (by omega) gi hO hA (fun hf => ?_) (fun hf => yl_217 (by omega) ki.2 (fun bo => yl_loopBad (c := 1) (by omega) (by omega) (hbad i 1 _ _ _ _ _ _ _ (by omega) hok (Or.inl ⟨hf, rfl⟩) (by omega) (by omega))))
    have gi1 : sc_good K (i + 1) := fun j hj => by
      by_cases e : j = i
      · rw [e]; exact hf
      · exact gi j (by omega)
    refine yl_221 hn hK (by omega) gi hf hA (fun c x2 bo hc c0 c4 => yl_loopBad (by omega) (by omega) (hbad i c _ _ _ _ _ _ _ (by omega) hok hc c0 c4)) (fun hc0 => ih (i + 1) _ _ _ _ _ _ (by omega) ?_ (ys_A_step gi1 hA) (ys_O_step gi1 hO) ?_ ?_)
    · intro j hj
      by_cases e : j = i
      · rw [e]; exact hc0
      · exact hok j (by omega)
    · rw [ys_ar]; split
      · rw [pk_un (by omega)]; exact ha
      · exact ha
    · rw [ys_or]; split
      · rw [pk_un (by omega)]; exact ho
      · exact ho
theorem yl_look (hn : n ≤ 48) (hK : ∀ j, j < n → a_ops j = nI (K j) ∧ K j ≤ 25) {post : SY → Prop}
    (hbad : ∀ (i c : Nat) (bl : Int32) (blockOf opener around other end_ opn : Nat → Int32), i < n → sc_ok K a_as a_bs a_cs i → sc_ck K a_as a_bs a_cs i c → c ≠ 0 → c < 4 → post (nI n, 1, nI c, nI i, bl, f_steps, f_dropped, f_on, f_next, f_again, f_depth, a_ops, a_as, a_bs, a_cs, blockOf, opener, around, other, end_, opn, a_varied, a_loose, a_variedVariable, a_stands, a_number, a_isConst, a_needed, a_inputs, a_values, a_variables, a_cells, a_outs, a_was, a_rest, a_line))
    (hopen : ∀ (bl : Int32) (blockOf opener around other end_ opn : Nat → Int32), sc_ok K a_as a_bs a_cs n → sc_fr K n ≠ [] → post (nI n, 1, 1, nI n, bl, f_steps, f_dropped, f_on, f_next, f_again, f_depth, a_ops, a_as, a_bs, a_cs, blockOf, opener, around, other, end_, opn, a_varied, a_loose, a_variedVariable, a_stands, a_number, a_isConst, a_needed, a_inputs, a_values, a_variables, a_cells, a_outs, a_was, a_rest, a_line))
    (hgood : ∀ (blockOf opener around other end_ opn : Nat → Int32), sc_ok K a_as a_bs a_cs n → sc_fr K n = [] → ys_A K n blockOf opener around other end_ → around 0 = -1 → opener 0 = -1 → wY_look_481 post (nI n) 1 0 (-1) (nI (sc_cnt K n + 1)) f_steps f_dropped f_on f_next f_again f_depth a_ops a_as a_bs a_cs blockOf opener around other end_ opn a_varied a_loose a_variedVariable a_stands a_number a_isConst a_needed a_inputs a_values a_variables a_cells a_outs a_was a_rest a_line) :
    wpY_look post (nI n, 0, f_wrong, f_place, f_blocks, f_steps, f_dropped, f_on, f_next, f_again, f_depth, a_ops, a_as, a_bs, a_cs, a_blockOf, a_opener, a_around, a_other, a_end, a_open, a_varied, a_loose, a_variedVariable, a_stands, a_number, a_isConst, a_needed, a_inputs, a_values, a_variables, a_cells, a_outs, a_was, a_rest, a_line) :=
  br_t rfl (nm_e (nm_e ⟨n + 2, yl_look48 hn hK hbad hopen hgood n 0 _ _ _ _ _ _ (by omega) (fun j hj => by omega) (fun j hj => by omega) trivial pk_us pk_us⟩))
end
end
section
section
variable (K : Nat → Nat) (A B C : Nat → Int32) (n : Nat)
/-- from a row of frames outwards: the innermost LOOP's block b, with an IF in between that is split -/
def vr_brk (V : Nat → Prop) : Prop → List (Nat × Nat) → Nat → Prop
  | _, [], _ => False
  | p, f :: r, b => (K f.2 = 22 ∧ p ∧ b = f.1) ∨ (K f.2 ≠ 22 ∧ vr_brk V (p ∨ V (A f.2).toNatClampNeg) r b)
def vr_need (V W : Nat → Prop) (i : Nat) : Prop :=
  (K i = 1 ∧ 1 < A i) ∨ K i = 2 ∨ K i = 16 ∨ (K i = 11 ∧ W (A i).toNatClampNeg) ∨ ((3 ≤ K i ∧ K i ≤ 10 ∨ K i = 12 ∨ K i = 13) ∧ ∃ s, s < 3 ∧ sc_us (K i) s ∧ V (sc_o3 A B C s i).toNatClampNeg)
def vr_s1 (V L W : Nat → Prop) (i : Nat) : Prop :=
  (K i ≤ 16 → vr_need K A B C V W i → V i) ∧ (K i = 17 → (V (B i).toNatClampNeg ∨ L (sc_hd (sc_lf K i))) → W (A i).toNatClampNeg)
def vr_s2 (V L : Nat → Prop) (i : Nat) : Prop :=
  (K i = 19 ∨ K i = 20 ∨ K i = 22) → (L (sc_hd (sc_lf K i)) ∨ (K i ≠ 22 ∧ V (A (sc_mt K i)).toNatClampNeg)) → L (i + 1)
def vr_s3 (V L : Nat → Prop) (i : Nat) : Prop := K i = 24 → ∀ b, vr_brk K A V False (sc_lf K i) b → L b
def vr_C (V L W : Nat → Prop) : Prop := ∀ i, i < n → vr_s1 K A B C V L W i ∧ vr_s2 K A V L i ∧ vr_s3 K A V L i
def vr_sub (V L W V' L' W' : Nat → Prop) : Prop := (∀ i, i < n → V i → V' i) ∧ (∀ b, b ≤ n → (b = 0 ∨ sc_op (K (b - 1))) → L b → L' b) ∧ (∀ v, v < 4 → W v → W' v)
def vr_snd (V L W : Nat → Prop) : Prop := ∀ V' L' W', vr_C K A B C n V' L' W' → vr_sub K n V L W V' L' W'
def vr_least (V L W : Nat → Prop) : Prop := vr_C K A B C n V L W ∧ vr_snd K A B C n V L W
variable {K A B C n}
theorem vr_uniq {V L W V' L' W' : Nat → Prop} (h : vr_least K A B C n V L W) (h' : vr_least K A B C n V' L' W') : (∀ i, i < n → (V i ↔ V' i)) ∧ (∀ b, b ≤ n → (b = 0 ∨ sc_op (K (b - 1))) → (L b ↔ L' b)) ∧ (∀ v, v < 4 → (W v ↔ W' v)) := by
  have a := h.2 _ _ _ h'.1
  have b := h'.2 _ _ _ h.1
  exact ⟨fun i hi => ⟨a.1 i hi, b.1 i hi⟩, fun i hi ho => ⟨a.2.1 i hi ho, b.2.1 i hi ho⟩, fun i hi => ⟨a.2.2 i hi, b.2.2 i hi⟩⟩
theorem vr_brk_mono {V V' : Nat → Prop} : ∀ (l : List (Nat × Nat)) (p p' : Prop) (b : Nat), (p → p') → (∀ f, f ∈ l → V (A f.2).toNatClampNeg → K f.2 ≠ 22 → V' (A f.2).toNatClampNeg) → vr_brk K A V p l b → vr_brk K A V' p' l b := by
  intro l
  induction l with
  | nil => intro p p' b _ _ h; exact h
  | cons f r ih =>
    intro p p' b hp hV h
    rcases h with ⟨h1, h2, h3⟩ | ⟨h1, h2⟩
    · exact Or.inl ⟨h1, hp h2, h3⟩
    · exact Or.inr ⟨h1, ih _ _ b (fun h => h.elim (fun h => Or.inl (hp h)) (fun h => Or.inr (hV f (List.mem_cons_self ..) h h1))) (fun g hg => hV g (List.mem_cons_of_mem _ hg)) h2⟩
theorem vr_brk_mem {V : Nat → Prop} : ∀ (l : List (Nat × Nat)) (p : Prop) (b : Nat), vr_brk K A V p l b → ∃ m, (b, m) ∈ l ∧ K m = 22 := by
  intro l
  induction l with
  | nil => intro p b h; exact h.elim
  | cons f r ih =>
    intro p b h
    rcases h with ⟨h1, h2, h3⟩ | ⟨h1, h2⟩
    · exact ⟨f.2, by rw [h3]; exact List.mem_cons_self .., h1⟩
    · obtain ⟨m, hm, k⟩ := ih _ b h2
      exact ⟨m, List.mem_cons_of_mem _ hm, k⟩
/-- how many cells below N hold 0 -/
def cz (a : Nat → Int32) : Nat → Nat
  | 0 => 0
  | N + 1 => cz a N + (if a N = 0 then 1 else 0)
theorem cz_le (a : Nat → Int32) (N : Nat) : cz a N ≤ N := by
  induction N with
  | zero => exact Nat.le_refl _
  | succ N ih => simp only [cz]; split <;> omega
theorem cz_ge {a : Nat → Int32} {j : Nat} {x : Int32} (h0 : a j = 0) : ∀ N, N ≤ j → cz (upd a j x) N = cz a N := by
  intro N
  induction N with
  | zero => intro _; rfl
  | succ N ih => intro h; simp only [cz]; rw [ih (by omega), pk_un (by omega)]
theorem cz_lt {a : Nat → Int32} {j : Nat} {x : Int32} (h0 : a j = 0) (hx : x ≠ 0) : ∀ N, j < N → cz (upd a j x) N < cz a N := by
  intro N
  induction N with
  | zero => intro h; omega
  | succ N ih =>
    intro h
    simp only [cz]
    by_cases e : j = N
    · rw [cz_ge h0 N (by omega), e, pk_us, if_neg hx, ← e, if_pos h0]; omega
    · rw [pk_un (by omega)]; have := ih (by omega); omega
end
end
section
section
variable {K : Nat → Nat} {n : Nat}
variable {f_lines f_studied f_wrong f_wrongAt f_brief f_on f_dropped f_steps f_nextLine f_repeats : Int32} {a_kinds a_firsts a_seconds a_thirds a_inputs a_home a_depth a_closer a_mate a_operands a_varies a_parted a_variableVaries a_same a_fixed a_worth a_needed a_variableNeeded a_values a_variables a_outputs a_cells a_whole a_waiting : Nat → Int32}
theorem xv_nar1 : vp_nar .boolean 1 = 1 := by decide
theorem xv_nar0 : vp_nar .boolean 0 = 0 := by decide
theorem xv_opv (hn : n ≤ 48) {post : Int32 → Prop} {i : Nat} (hi : i < n) (hP : ∀ s, s < 3 → (sc_us (K i) s → a_operands (3 * i + s) = sc_o3 a_firsts a_seconds a_thirds s i) ∧ (¬ sc_us (K i) s → a_operands (3 * i + s) = -1)) (hv : ∀ s, s < 3 → sc_us (K i) s → sc_ov K a_firsts a_seconds a_thirds s i)
    (h1 : (∃ s, s < 3 ∧ sc_us (K i) s ∧ a_varies (sc_o3 a_firsts a_seconds a_thirds s i).toNatClampNeg ≠ 0) → post 1) (h0 : (¬ ∃ s, s < 3 ∧ sc_us (K i) s ∧ a_varies (sc_o3 a_firsts a_seconds a_thirds s i).toNatClampNeg ≠ 0) → post 0) :
    ∀ d t : Nat, t + d = 3 → (∀ s, s < t → sc_us (K i) s → a_varies (sc_o3 a_firsts a_seconds a_thirds s i).toNatClampNeg = 0) → wX_operandVaries_2 post (nI i) f_lines f_studied f_wrong f_wrongAt f_brief f_on f_dropped f_steps f_nextLine f_repeats a_kinds a_firsts a_seconds a_thirds a_inputs a_home a_depth a_closer a_mate a_operands a_varies a_parted a_variableVaries a_same a_fixed a_worth a_needed a_variableNeeded a_values a_variables a_outputs a_cells a_whole a_waiting (d + 1) (nI t) := by
  intro d
  induction d with
  | zero =>
    intro t ht hall
    cases (show t = 3 by omega)
    refine br_t (by decide) (h0 ?_)
    rintro ⟨s, hs, hu, hne⟩
    exact hne (hall s hs hu)
  | succ d ih =>
    intro t ht hall
    have ea : nI i * 3 + nI t = nI (3 * i + t) := nb_34
    have ca : (nI i * 3 + nI t).toNatClampNeg = 3 * i + t := by rw [ea, nI_clamp (by omega)]
    refine br_f (nI_ge (b := 3) (by omega) (by decide)) ⟨by rw [ea]; exact vp_in_nI (by omega) (by omega), nm_e ?_⟩
    rw [ca]
    by_cases hu : sc_us (K i) t
    · obtain ⟨x, hx, ex, _⟩ := hv t (by omega) hu
      rw [(hP t (by omega)).1 hu, ex]
      refine br_f (fun h => ?_) ⟨vp_in_nI (by omega) (by omega), br_c (fun hz => nm_r (nI_1 t) (ih (t + 1) (by omega) (fun s hs hus => ?_))) (fun hz => h1 ⟨t, by omega, hu, by rw [ex]; exact hz⟩)⟩
      · have : (-1 : Int32) < 0 := by decide
        rw [← h] at this; exact nI_pos (by omega) this
      · by_cases e : s = t
        · rw [e, ex]; exact hz
        · exact hall s (by omega) hus
    · rw [(hP t (by omega)).2 hu]
      refine br_t rfl (nm_r (nI_1 t) (ih (t + 1) (by omega) (fun s hs hus => ?_)))
      by_cases e : s = t
      · rw [e] at hus; exact absurd hus hu
      · exact hall s (by omega) hus
theorem xv_valueVaries (hn : n ≤ 48) (hK : ∀ j, j < n → a_kinds j = nI (K j) ∧ K j ≤ 25) (h4 : ∀ j, j < n → (K j = 1 ∨ K j = 11 ∨ K j = 16 ∨ K j = 17 ∨ K j = 18) → ∃ a, a < 4 ∧ a_firsts j = nI a) (hb : ∀ v, v < 4 → a_variableVaries v = 0 ∨ a_variableVaries v = 1) {post : Int32 → Prop} {i : Nat} (hi : i < n) (hP : ∀ s, s < 3 → (sc_us (K i) s → a_operands (3 * i + s) = sc_o3 a_firsts a_seconds a_thirds s i) ∧ (¬ sc_us (K i) s → a_operands (3 * i + s) = -1)) (hv : ∀ s, s < 3 → sc_us (K i) s → sc_ov K a_firsts a_seconds a_thirds s i) (h16 : K i ≤ 16)
    (h1 : vr_need K a_firsts a_seconds a_thirds (fun j => a_varies j ≠ 0) (fun v => a_variableVaries v ≠ 0) i → post 1) (h0 : ¬ vr_need K a_firsts a_seconds a_thirds (fun j => a_varies j ≠ 0) (fun v => a_variableVaries v ≠ 0) i → post 0) : wpX_valueVaries post (f_lines, f_studied, f_wrong, f_wrongAt, f_brief, f_on, f_dropped, f_steps, f_nextLine, f_repeats, a_kinds, a_firsts, a_seconds, a_thirds, a_inputs, a_home, a_depth, a_closer, a_mate, a_operands, a_varies, a_parted, a_variableVaries, a_same, a_fixed, a_worth, a_needed, a_variableNeeded, a_values, a_variables, a_outputs, a_cells, a_whole, a_waiting) (nI i) := by
  have ci : (nI i).toNatClampNeg = i := nI_clamp (by omega)
  have hin : vp_in (nI i) 48 := vp_in_nI (by omega) (by omega)
  have ki := hK i hi
  have t120 : (3 ≤ K i ∧ K i ≤ 10 ∨ K i = 12 ∨ K i = 13) → wX_valueVaries_120 post (nI i) f_lines f_studied f_wrong f_wrongAt f_brief f_on f_dropped f_steps f_nextLine f_repeats a_kinds a_firsts a_seconds a_thirds a_inputs a_home a_depth a_closer a_mate a_operands a_varies a_parted a_variableVaries a_same a_fixed a_worth a_needed a_variableNeeded a_values a_variables a_outputs a_cells a_whole a_waiting := by
    intro hk
    refine ⟨4, xv_opv (K := K) (n := n) hn hi hP hv (fun h => ⟨xs_nb1, h1 (Or.inr (Or.inr (Or.inr (Or.inr ⟨hk, h⟩))))⟩) (fun h => ⟨xs_nb0, h0 ?_⟩) 3 0 rfl (fun s hs => by omega)⟩
    rintro (h' | h' | h' | h' | ⟨_, h'⟩)
    · omega
    · omega
    · omega
    · omega
    · exact h h'
  refine ⟨hin, nm_c ci ki.1 ?_⟩
  refine br_f (nI_pos (by omega)) (pk_lt 16 (K i) (fun h => absurd h (by omega)) (fun _ => ?_))
  refine pk_eq (K i) 0 (fun h => h0 (by unfold vr_need; omega)) (fun _ => pk_eq (K i) 1 (fun h => ⟨hin, ?_⟩) (fun n1 => pk_eq (K i) 2 (fun h => h1 (by unfold vr_need; omega)) (fun _ => pk_eq (K i) 3 (fun h => t120 (by omega)) (fun _ => pk_eq (K i) 4 (fun h => t120 (by omega)) (fun _ => pk_eq (K i) 5 (fun h => t120 (by omega)) (fun _ => pk_eq (K i) 6 (fun h => t120 (by omega)) (fun _ => pk_eq (K i) 7 (fun h => t120 (by omega)) (fun _ => pk_eq (K i) 8 (fun h => t120 (by omega)) (fun _ => pk_eq (K i) 9 (fun h => t120 (by omega)) (fun _ => pk_eq (K i) 10 (fun h => t120 (by omega)) (fun _ => pk_eq (K i) 11 (fun h => ⟨hin, ?_⟩) (fun n11 => pk_eq (K i) 12 (fun h => t120 (by omega)) (fun _ => pk_eq (K i) 13 (fun h => t120 (by omega)) (fun _ => pk_eq (K i) 14 (fun h => h0 (by unfold vr_need; omega)) (fun _ => pk_eq (K i) 15 (fun h => h0 (by unfold vr_need; omega)) (fun _ => pk_eq (K i) 16 (fun h => h1 (by unfold vr_need; omega)) (fun _ => trivial)))))))))))))))))
  · rw [ci]
    refine br_c (fun hlt => h0 ?_) (fun hge => h1 (Or.inl ⟨h, (ez_12 _).mpr (Int32.not_lt.mp hge)⟩))
    rintro (⟨_, h'⟩ | h' | h' | h' | h')
    · exact absurd hlt (Int32.not_lt.mpr ((ez_12 _).mp h'))
    all_goals omega
  · rw [ci]
    obtain ⟨a, ha, ea⟩ := h4 i hi (by omega)
    rw [ea, nI_clamp (by omega)]
    refine ⟨vp_in_nI ha (by omega), ?_⟩
    rcases hb a ha with e | e
    · rw [e]
      refine ⟨xs_nb0, h0 ?_⟩
      rintro (h' | h' | h' | ⟨_, h'⟩ | h')
      · omega
      · omega
      · omega
      · rw [ea, nI_clamp (by omega)] at h'; exact h' e
      · omega
    · rw [e]
      refine ⟨xs_nb1, h1 (Or.inr (Or.inr (Or.inr (Or.inl ⟨h, ?_⟩))))⟩
      rw [ea, nI_clamp (by omega)]
      show a_variableVaries a ≠ 0
      rw [e]; decide
/-- X's sets: what is marked -/
def xv_V (a : Nat → Int32) : Nat → Prop := fun j => a j ≠ 0
def xv_mu (va pa vv : Nat → Int32) : Nat := cz va 48 + cz pa 49 + cz vv 4
def xv_up (K : Nat → Nat) (A B C : Nat → Int32) (n : Nat) (va pa vv va' pa' vv' : Nat → Int32) : Prop :=
  (vr_snd K A B C n (xv_V va) (xv_V pa) (xv_V vv) → vr_snd K A B C n (xv_V va') (xv_V pa') (xv_V vv')) ∧ xv_mu va' pa' vv' < xv_mu va pa vv ∧ ((∀ v, v < 4 → vv v = 0 ∨ vv v = 1) → ∀ v, v < 4 → vv' v = 0 ∨ vv' v = 1)
theorem xv_upV {A B C va pa vv : Nat → Int32} {i : Nat} (hn : n ≤ 48) (hi : i < n) (h16 : K i ≤ 16) (hz : va i = 0) (hov : ∀ s, s < 3 → sc_us (K i) s → sc_ov K A B C s i) (hw4 : K i = 11 → ∃ a, a < 4 ∧ A i = nI a) (h : vr_need K A B C (xv_V va) (xv_V vv) i) : xv_up K A B C n va pa vv (upd va i 1) pa vv := by
  refine ⟨fun hs V L W hc => ?_, ?_, fun h => h⟩
  · have s := hs V L W hc
    refine ⟨fun j hj hv => ?_, s.2⟩
    by_cases e : j = i
    · rw [e]
      refine (hc i hi).1.1 h16 ?_
      rcases h with h | h | h | ⟨h, h'⟩ | ⟨h, s', hs', hu, hv'⟩
      · exact Or.inl h
      · exact Or.inr (Or.inl h)
      · exact Or.inr (Or.inr (Or.inl h))
      · obtain ⟨a, ha, ea⟩ := hw4 h
        refine Or.inr (Or.inr (Or.inr (Or.inl ⟨h, s.2.2 _ ?_ h'⟩)))
        rw [ea, nI_clamp (by omega)]; exact ha
      · obtain ⟨x, hx, ex, _⟩ := hov s' hs' hu
        refine Or.inr (Or.inr (Or.inr (Or.inr ⟨h, s', hs', hu, s.1 _ ?_ hv'⟩)))
        rw [ex, nI_clamp (by omega)]; omega
    · exact s.1 j hj (by unfold xv_V at hv ⊢; rw [pk_un e] at hv; exact hv)
  · have := cz_lt (x := 1) hz (by decide) 48 (by omega)
    unfold xv_mu; omega
theorem xv_spreadValue (hn : n ≤ 48) (hK : ∀ j, j < n → a_kinds j = nI (K j) ∧ K j ≤ 25) (h4 : ∀ j, j < n → (K j = 1 ∨ K j = 11 ∨ K j = 16 ∨ K j = 17 ∨ K j = 18) → ∃ a, a < 4 ∧ a_firsts j = nI a) (hb : ∀ v, v < 4 → a_variableVaries v = 0 ∨ a_variableVaries v = 1) {post : Int32 → SX → Prop} {i : Nat} (hi : i < n) (hP : ∀ s, s < 3 → (sc_us (K i) s → a_operands (3 * i + s) = sc_o3 a_firsts a_seconds a_thirds s i) ∧ (¬ sc_us (K i) s → a_operands (3 * i + s) = -1)) (hv : ∀ s, s < 3 → sc_us (K i) s → sc_ov K a_firsts a_seconds a_thirds s i) (h16 : K i ≤ 16)
    (h0 : (vr_need K a_firsts a_seconds a_thirds (xv_V a_varies) (xv_V a_variableVaries) i → a_varies i ≠ 0) → post 0 (f_lines, f_studied, f_wrong, f_wrongAt, f_brief, f_on, f_dropped, f_steps, f_nextLine, f_repeats, a_kinds, a_firsts, a_seconds, a_thirds, a_inputs, a_home, a_depth, a_closer, a_mate, a_operands, a_varies, a_parted, a_variableVaries, a_same, a_fixed, a_worth, a_needed, a_variableNeeded, a_values, a_variables, a_outputs, a_cells, a_whole, a_waiting))
    (h1 : ∀ va pa vv, xv_up K a_firsts a_seconds a_thirds n a_varies a_parted a_variableVaries va pa vv → post 1 (f_lines, f_studied, f_wrong, f_wrongAt, f_brief, f_on, f_dropped, f_steps, f_nextLine, f_repeats, a_kinds, a_firsts, a_seconds, a_thirds, a_inputs, a_home, a_depth, a_closer, a_mate, a_operands, va, pa, vv, a_same, a_fixed, a_worth, a_needed, a_variableNeeded, a_values, a_variables, a_outputs, a_cells, a_whole, a_waiting)) : wpX_spreadValue post (f_lines, f_studied, f_wrong, f_wrongAt, f_brief, f_on, f_dropped, f_steps, f_nextLine, f_repeats, a_kinds, a_firsts, a_seconds, a_thirds, a_inputs, a_home, a_depth, a_closer, a_mate, a_operands, a_varies, a_parted, a_variableVaries, a_same, a_fixed, a_worth, a_needed, a_variableNeeded, a_values, a_variables, a_outputs, a_cells, a_whole, a_waiting) (nI i) := by
  have ci : (nI i).toNatClampNeg = i := nI_clamp (by omega)
  have hin : vp_in (nI i) 48 := vp_in_nI (by omega) (by omega)
  refine ⟨hin, ?_⟩
  rw [ci]
  refine br_c (fun hz => ?_) (fun hz => h0 (fun _ => hz))
  refine xv_valueVaries hn hK h4 hb hi hP hv h16 (fun h => br_f (by decide) ⟨hin, nm_r (by rw [xv_nar1]) (h1 _ _ _ (xv_upV hn hi h16 hz hv (fun h11 => h4 i hi (by omega)) h))⟩) (fun h => br_t rfl (h0 (fun h' => absurd h' h)))
end
end
section
section
variable {K : Nat → Nat} {n : Nat}
variable {f_lines f_studied f_wrong f_wrongAt f_brief f_on f_dropped f_steps f_nextLine f_repeats : Int32} {a_kinds a_firsts a_seconds a_thirds a_inputs a_home a_depth a_closer a_mate a_operands a_varies a_parted a_variableVaries a_same a_fixed a_worth a_needed a_variableNeeded a_values a_variables a_outputs a_cells a_whole a_waiting : Nat → Int32}
theorem xv_mark_ne {a : Nat → Int32} {i j : Nat} (h : xv_V (upd a i 1) j) : j = i ∨ xv_V a j := by
  by_cases e : j = i
  · exact Or.inl e
  · exact Or.inr (by unfold xv_V at h ⊢; rw [pk_un e] at h; exact h)
theorem xv_b01 {vv : Nat → Int32} {a : Nat} (hb : ∀ v, v < 4 → vv v = 0 ∨ vv v = 1) : ∀ v, v < 4 → upd vv a 1 v = 0 ∨ upd vv a 1 v = 1 := by
  intro v hv
  by_cases e : v = a
  · rw [e]; exact Or.inr pk_us
  · rw [pk_un e]; exact hb v hv
theorem xv_upW {A B C va pa vv : Nat → Int32} {i a : Nat} (hn : n ≤ 48) (hi : i < n) (hg : sc_good K n) (h17 : K i = 17) (ha : a < 4) (ea : A i = nI a) (hz : vv a = 0) (hov : sc_ov K A B C 1 i) (h : xv_V va (B i).toNatClampNeg ∨ xv_V pa (sc_hd (sc_lf K i))) : xv_up K A B C n va pa vv va pa (upd vv a 1) := by
  refine ⟨fun hs V L W hc => ?_, ?_, xv_b01⟩
  · have s := hs V L W hc
    have gi : sc_good K (i + 1) := sc_good_le hg (by omega)
    refine ⟨s.1, s.2.1, fun v hv hm => ?_⟩
    rcases xv_mark_ne hm with e | hm
    · have := (hc i hi).1.2 h17 (by
        rcases h with h | h
        · obtain ⟨x, hx, ex, _⟩ := hov
          refine Or.inl (s.1 _ ?_ h)
          rw [show B i = nI x from ex, nI_clamp (by omega)]; omega
        · exact Or.inr (s.2.1 _ (Nat.le_trans (sc_hdl_le gi) (by omega)) (sc_hdl_op gi) h))
      rw [ea, nI_clamp (by omega)] at this
      rw [e]; exact this
    · exact s.2.2 v hv hm
  · have := cz_lt (x := 1) hz (by decide) 4 ha
    unfold xv_mu; omega
/-- marking block b -/
theorem xv_upL {A B C va pa vv : Nat → Int32} {b : Nat} (hn : n ≤ 48) (hb : b ≤ n) (hz : pa b = 0) (h : ∀ V L W, vr_C K A B C n V L W → vr_sub K n (xv_V va) (xv_V pa) (xv_V vv) V L W → L b) : xv_up K A B C n va pa vv va (upd pa b 1) vv := by
  refine ⟨fun hs V L W hc => ?_, ?_, fun h => h⟩
  · have s := hs V L W hc
    refine ⟨s.1, fun c hc' ho hm => ?_, s.2.2⟩
    rcases xv_mark_ne hm with e | hm
    · rw [e]; exact h V L W hc s
    · exact s.2.1 c hc' ho hm
  · have := cz_lt (x := 1) hz (by decide) 49 (by omega)
    unfold xv_mu; omega
theorem xv_spreadPut (hn : n ≤ 48) (hg : sc_good K n) (h4 : ∀ j, j < n → (K j = 1 ∨ K j = 11 ∨ K j = 16 ∨ K j = 17 ∨ K j = 18) → ∃ a, a < 4 ∧ a_firsts j = nI a) (hH : ∀ j, j < n → a_home j = nI (sc_hd (sc_lf K j))) {post : Int32 → SX → Prop} {i : Nat} (hi : i < n) (h17 : K i = 17) (hv : sc_ov K a_firsts a_seconds a_thirds 1 i)
    (h0 : ((xv_V a_varies (a_seconds i).toNatClampNeg ∨ xv_V a_parted (sc_hd (sc_lf K i))) → xv_V a_variableVaries (a_firsts i).toNatClampNeg) → post 0 (f_lines, f_studied, f_wrong, f_wrongAt, f_brief, f_on, f_dropped, f_steps, f_nextLine, f_repeats, a_kinds, a_firsts, a_seconds, a_thirds, a_inputs, a_home, a_depth, a_closer, a_mate, a_operands, a_varies, a_parted, a_variableVaries, a_same, a_fixed, a_worth, a_needed, a_variableNeeded, a_values, a_variables, a_outputs, a_cells, a_whole, a_waiting))
    (h1 : ∀ va pa vv, xv_up K a_firsts a_seconds a_thirds n a_varies a_parted a_variableVaries va pa vv → post 1 (f_lines, f_studied, f_wrong, f_wrongAt, f_brief, f_on, f_dropped, f_steps, f_nextLine, f_repeats, a_kinds, a_firsts, a_seconds, a_thirds, a_inputs, a_home, a_depth, a_closer, a_mate, a_operands, va, pa, vv, a_same, a_fixed, a_worth, a_needed, a_variableNeeded, a_values, a_variables, a_outputs, a_cells, a_whole, a_waiting)) : wpX_spreadPut post (f_lines, f_studied, f_wrong, f_wrongAt, f_brief, f_on, f_dropped, f_steps, f_nextLine, f_repeats, a_kinds, a_firsts, a_seconds, a_thirds, a_inputs, a_home, a_depth, a_closer, a_mate, a_operands, a_varies, a_parted, a_variableVaries, a_same, a_fixed, a_worth, a_needed, a_variableNeeded, a_values, a_variables, a_outputs, a_cells, a_whole, a_waiting) (nI i) := by
  have ci : (nI i).toNatClampNeg = i := nI_clamp (by omega)
  have hin : vp_in (nI i) 48 := vp_in_nI (by omega) (by omega)
  obtain ⟨a, ha, ea⟩ := h4 i hi (by omega)
  obtain ⟨x, hx, ex, kx⟩ := hv
  have ex' : a_seconds i = nI x := ex
  have gi : sc_good K (i + 1) := sc_good_le hg (by omega)
  have hle := sc_hdl_le gi
  have ina : vp_in (nI a) 4 := vp_in_nI ha (by omega)
  have ca : (nI a).toNatClampNeg = a := nI_clamp (by omega)
  rw [ea, ca, ex', nI_clamp (by omega)] at h0
  have up : a_variableVaries a = 0 → (xv_V a_varies x ∨ xv_V a_parted (sc_hd (sc_lf K i))) → post 1 (f_lines, f_studied, f_wrong, f_wrongAt, f_brief, f_on, f_dropped, f_steps, f_nextLine, f_repeats, a_kinds, a_firsts, a_seconds, a_thirds, a_inputs, a_home, a_depth, a_closer, a_mate, a_operands, a_varies, a_parted, upd a_variableVaries a 1, a_same, a_fixed, a_worth, a_needed, a_variableNeeded, a_values, a_variables, a_outputs, a_cells, a_whole, a_waiting) := fun hz h =>
    h1 _ _ _ (xv_upW hn hi hg h17 ha ea hz ⟨x, hx, ex, kx⟩ (by rw [ex', nI_clamp (by omega)]; exact h))
  refine ⟨hin, nm_c ci ea ⟨ina, ?_⟩⟩
  rw [ca, ci, ex', nI_clamp (by omega), hH i hi, nI_clamp (by omega)]
  refine br_c (fun hz => ⟨hin, vp_in_nI (by omega) (by omega), br_c (fun hvz => ⟨hin, vp_in_nI (by omega) (by omega), br_c (fun hpz => h0 ?_) (fun hpz => ⟨ina, nm_r (by rw [xv_nar1]) (up hz (Or.inr hpz))⟩)⟩) (fun hvz => ⟨ina, nm_r (by rw [xv_nar1]) (up hz (Or.inl hvz))⟩)⟩) (fun hz => h0 (fun _ => hz))
  rintro (h | h)
  · exact absurd hvz h
  · exact absurd hpz h
theorem xv_spreadBlock (hn : n ≤ 48) (hg : sc_good K n) (hH : ∀ j, j < n → a_home j = nI (sc_hd (sc_lf K j))) {post : Int32 → SX → Prop} {i : Nat} (hi : i < n) {p1 : Int32}
    (h0 : ((xv_V a_parted (sc_hd (sc_lf K i)) ∨ p1 ≠ 0) → xv_V a_parted (i + 1)) → post 0 (f_lines, f_studied, f_wrong, f_wrongAt, f_brief, f_on, f_dropped, f_steps, f_nextLine, f_repeats, a_kinds, a_firsts, a_seconds, a_thirds, a_inputs, a_home, a_depth, a_closer, a_mate, a_operands, a_varies, a_parted, a_variableVaries, a_same, a_fixed, a_worth, a_needed, a_variableNeeded, a_values, a_variables, a_outputs, a_cells, a_whole, a_waiting))
    (h1 : a_parted (i + 1) = 0 → (xv_V a_parted (sc_hd (sc_lf K i)) ∨ p1 ≠ 0) → post 1 (f_lines, f_studied, f_wrong, f_wrongAt, f_brief, f_on, f_dropped, f_steps, f_nextLine, f_repeats, a_kinds, a_firsts, a_seconds, a_thirds, a_inputs, a_home, a_depth, a_closer, a_mate, a_operands, a_varies, upd a_parted (i + 1) 1, a_variableVaries, a_same, a_fixed, a_worth, a_needed, a_variableNeeded, a_values, a_variables, a_outputs, a_cells, a_whole, a_waiting)) : wpX_spreadBlock post (f_lines, f_studied, f_wrong, f_wrongAt, f_brief, f_on, f_dropped, f_steps, f_nextLine, f_repeats, a_kinds, a_firsts, a_seconds, a_thirds, a_inputs, a_home, a_depth, a_closer, a_mate, a_operands, a_varies, a_parted, a_variableVaries, a_same, a_fixed, a_worth, a_needed, a_variableNeeded, a_values, a_variables, a_outputs, a_cells, a_whole, a_waiting) (nI i) p1 := by
  have ci : (nI i).toNatClampNeg = i := nI_clamp (by omega)
  have hin : vp_in (nI i) 48 := vp_in_nI (by omega) (by omega)
  have gi : sc_good K (i + 1) := sc_good_le hg (by omega)
  have hle := sc_hdl_le gi
  have i1 : vp_in (nI i + 1) 49 := by rw [nI_1]; exact vp_in_nI (by omega) (by omega)
  have c1 : (nI i + 1).toNatClampNeg = i + 1 := by rw [nI_1, nI_clamp (by omega)]
  refine ⟨i1, ?_⟩
  rw [c1, ci, hH i hi, nI_clamp (by omega)]
  have up : a_parted (i + 1) = 0 → (xv_V a_parted (sc_hd (sc_lf K i)) ∨ p1 ≠ 0) → wX_spreadBlock_31 post (nI i) f_lines f_studied f_wrong f_wrongAt f_brief f_on f_dropped f_steps f_nextLine f_repeats a_kinds a_firsts a_seconds a_thirds a_inputs a_home a_depth a_closer a_mate a_operands a_varies a_parted a_variableVaries a_same a_fixed a_worth a_needed a_variableNeeded a_values a_variables a_outputs a_cells a_whole a_waiting := fun hz h =>
    ⟨i1, nm_r (by rw [c1, xv_nar1]) (h1 hz h)⟩
  refine br_c (fun hz => br_c (fun hp => ⟨hin, vp_in_nI (by omega) (by omega), br_c (fun hh => h0 ?_) (fun hh => up hz (Or.inl hh))⟩) (fun hp => up hz (Or.inr hp))) (fun hz => h0 (fun _ => hz))
  rintro (h | h)
  · exact absurd hh h
  · exact absurd hp h
theorem xv_break12 (hn : n ≤ 48) (hK : ∀ j, j < n → a_kinds j = nI (K j) ∧ K j ≤ 25) (hg : sc_good K n) (hok : ∀ j, j < n → ∀ s, s < 3 → sc_us (K j) s → sc_ov K a_firsts a_seconds a_thirds s j) (hH : ∀ j, j < n → a_home j = nI (sc_hd (sc_lf K j)) ∧ a_mate j = nI (sc_mt K j)) {post : Int32 → SX → Prop} :
    ∀ (l : List (Nat × Nat)) (j t : Nat) (p : Prop) (x2 : Int32), j ≤ n → sc_fr K j = l → t + l.length ≤ 4 → (x2 ≠ 0 ↔ p) →
      ((∀ b, vr_brk K a_firsts (xv_V a_varies) p l b → xv_V a_parted b) → post 0 (f_lines, f_studied, f_wrong, f_wrongAt, f_brief, f_on, f_dropped, f_steps, f_nextLine, f_repeats, a_kinds, a_firsts, a_seconds, a_thirds, a_inputs, a_home, a_depth, a_closer, a_mate, a_operands, a_varies, a_parted, a_variableVaries, a_same, a_fixed, a_worth, a_needed, a_variableNeeded, a_values, a_variables, a_outputs, a_cells, a_whole, a_waiting)) →
      (∀ b m, (b, m) ∈ l → K m = 22 → a_parted b = 0 → (vr_brk K a_firsts (xv_V a_varies) p l b ∨ xv_V a_parted (sc_hd (sc_lf K (b - 1)))) → post 1 (f_lines, f_studied, f_wrong, f_wrongAt, f_brief, f_on, f_dropped, f_steps, f_nextLine, f_repeats, a_kinds, a_firsts, a_seconds, a_thirds, a_inputs, a_home, a_depth, a_closer, a_mate, a_operands, a_varies, upd a_parted b 1, a_variableVaries, a_same, a_fixed, a_worth, a_needed, a_variableNeeded, a_values, a_variables, a_outputs, a_cells, a_whole, a_waiting)) →
      ∀ d, l.length < d → wX_spreadBreak_12 post f_lines f_studied f_wrong f_wrongAt f_brief f_on f_dropped f_steps f_nextLine f_repeats a_kinds a_firsts a_seconds a_thirds a_inputs a_home a_depth a_closer a_mate a_operands a_varies a_parted a_variableVaries a_same a_fixed a_worth a_needed a_variableNeeded a_values a_variables a_outputs a_cells a_whole a_waiting d x2 (nI (sc_hd l)) (nI t) := by
  intro l
  induction l with
  | nil =>
    intro j t p x2 hj e ht hp h0 h1 d hd
    obtain ⟨d, rfl⟩ : ∃ e, d = e + 1 := ⟨d - 1, by simp at hd; omega⟩
    have h0' : wX_spreadBreak_81 post x2 (nI (sc_hd [])) f_lines f_studied f_wrong f_wrongAt f_brief f_on f_dropped f_steps f_nextLine f_repeats a_kinds a_firsts a_seconds a_thirds a_inputs a_home a_depth a_closer a_mate a_operands a_varies a_parted a_variableVaries a_same a_fixed a_worth a_needed a_variableNeeded a_values a_variables a_outputs a_cells a_whole a_waiting := br_t rfl (h0 (fun b h => h.elim))
    exact br_c (fun _ => h0') (fun _ => br_t rfl h0')
  | cons f r ih =>
    obtain ⟨b, m⟩ := f
    intro j t p x2 hj e ht hp h0 h1 d hd
    have T := sc_top j (sc_good_le hg hj) _ _ _ e
    simp only [List.length_cons] at ht hd
    obtain ⟨d, rfl⟩ : ∃ e, d = e + 1 := ⟨d - 1, by omega⟩
    have tb : b ≤ n := by have := T.2.1; omega
    have tb1 := T.1
    have tm := T.2.2.1
    have ei : nI b - 1 = nI (b - 1) := nb_m1 tb1
    have cl : (nI b - 1).toNatClampNeg = b - 1 := by rw [ei, nI_clamp (by omega)]
    have hin : vp_in (nI b - 1) 48 := by rw [ei]; exact vp_in_nI (by omega) (by omega)
    have kb := hK (b - 1) (by omega)
    have hb := hH (b - 1) (by omega)
    rw [sc_hd_cons]
    refine br_f (nI_ge (b := 4) (by omega) (by decide)) (br_f (nI_ne0 (by omega) (by omega)) ⟨hin, ?_⟩)
    rw [cl, kb.1, hb.2, T.2.2.2.2.2.2.1]
    refine pk_eq (K (b - 1)) 22 (fun h22 => ?_) (fun h22 => ?_)
    · have km : K m = 22 := by
        rcases T.2.2.2.1 with ⟨h, _⟩ | ⟨h, _⟩
        · rw [h, Nat.add_sub_cancel] at h22; exact h22
        · omega
      have eb : b - 1 + 1 = b := by omega
      refine br_f (nI_ne0 (by omega) (by omega)) ?_
      rw [ei]
      refine xv_spreadBlock (K := K) hn hg (fun j hj => (hH j hj).1) (by omega) (fun h => br_t rfl (h0 ?_)) (fun hz h => br_f (by decide) ?_)
      · rw [eb] at h
        rintro b' (⟨_, hp', e'⟩ | ⟨h', _⟩)
        · rw [e']; exact h (Or.inr (hp.mpr hp'))
        · exact absurd km h'
      · rw [eb] at hz ⊢
        refine h1 b m (List.mem_cons_self ..) km hz ?_
        rcases h with h | h
        · exact Or.inr h
        · exact Or.inl (Or.inl ⟨km, hp.mp h, rfl⟩)
    · have km : K m = 19 := by
        rcases T.2.2.2.1 with ⟨h, h'⟩ | ⟨_, h, _⟩
        · rw [h, Nat.add_sub_cancel] at h22; omega
        · exact h
      have hmn : m < n := by omega
      obtain ⟨x, hx, ex, _⟩ := hok m hmn 0 (by omega) (by unfold sc_us; omega)
      have ex' : a_firsts m = nI x := ex
      have go : ∀ z0 : Int32, (z0 ≠ 0 ↔ (p ∨ xv_V a_varies (a_firsts m).toNatClampNeg)) → wX_spreadBreak_65 post (wX_spreadBreak_12 post f_lines f_studied f_wrong f_wrongAt f_brief f_on f_dropped f_steps f_nextLine f_repeats a_kinds a_firsts a_seconds a_thirds a_inputs a_home a_depth a_closer a_mate a_operands a_varies a_parted a_variableVaries a_same a_fixed a_worth a_needed a_variableNeeded a_values a_variables a_outputs a_cells a_whole a_waiting d) (nI b) (nI t) z0 f_lines f_studied f_wrong f_wrongAt f_brief f_on f_dropped f_steps f_nextLine f_repeats a_kinds a_firsts a_seconds a_thirds a_inputs a_home a_depth a_closer a_mate a_operands a_varies a_parted a_variableVaries a_same a_fixed a_worth a_needed a_variableNeeded a_values a_variables a_outputs a_cells a_whole a_waiting := by
        intro z0 hz0
        refine ⟨hin, nm_r (by rw [cl, hb.1, T.2.2.2.2.1]) (nm_r (nI_1 t) (ih m (t + 1) _ z0 (by omega) T.2.2.2.2.2.1 (by omega) hz0 (fun h => h0 ?_) (fun b' m' hm' k' hz' h => h1 b' m' (List.mem_cons_of_mem _ hm') k' hz' ?_) d (by omega)))⟩
        · rintro b' (⟨h', _⟩ | ⟨_, h'⟩)
          · rw [km] at h'; omega
          · exact h b' h'
        · rcases h with h | h
          · exact Or.inl (Or.inr ⟨by rw [km]; omega, h⟩)
          · exact Or.inr h
      have cm : (nI m).toNatClampNeg = m := nI_clamp (by omega)
      rw [cm, ex', nI_clamp (by omega)]
      rw [ex', nI_clamp (by omega)] at go
      refine br_c (fun hz => ⟨hin, vp_in_nI (by omega) (by omega), vp_in_nI (by omega) (by omega), br_c (fun hvz => go 0 ⟨fun h => absurd rfl h, fun h => ?_⟩) (fun hvz => go 1 ⟨fun _ => Or.inr hvz, fun _ => by decide⟩)⟩) (fun hz => go 1 ⟨fun _ => Or.inl (hp.mp hz), fun _ => by decide⟩)
      rcases h with h | h
      · exact absurd hz (hp.mpr h)
      · exact absurd hvz h
theorem xv_spreadOther (hn : n ≤ 48) (hK : ∀ j, j < n → a_kinds j = nI (K j) ∧ K j ≤ 25) (hg : sc_good K n) (h4 : ∀ j, j < n → (K j = 1 ∨ K j = 11 ∨ K j = 16 ∨ K j = 17 ∨ K j = 18) → ∃ a, a < 4 ∧ a_firsts j = nI a) (hok : ∀ j, j < n → ∀ s, s < 3 → sc_us (K j) s → sc_ov K a_firsts a_seconds a_thirds s j) (hH : ∀ j, j < n → a_home j = nI (sc_hd (sc_lf K j)) ∧ a_mate j = nI (sc_mt K j)) {post : Int32 → SX → Prop} {i : Nat} (hi : i < n) (h17 : ¬ K i ≤ 16)
    (h0 : (vr_s1 K a_firsts a_seconds a_thirds (xv_V a_varies) (xv_V a_parted) (xv_V a_variableVaries) i ∧ vr_s2 K a_firsts (xv_V a_varies) (xv_V a_parted) i ∧ vr_s3 K a_firsts (xv_V a_varies) (xv_V a_parted) i) → post 0 (f_lines, f_studied, f_wrong, f_wrongAt, f_brief, f_on, f_dropped, f_steps, f_nextLine, f_repeats, a_kinds, a_firsts, a_seconds, a_thirds, a_inputs, a_home, a_depth, a_closer, a_mate, a_operands, a_varies, a_parted, a_variableVaries, a_same, a_fixed, a_worth, a_needed, a_variableNeeded, a_values, a_variables, a_outputs, a_cells, a_whole, a_waiting))
    (h1 : ∀ va pa vv, xv_up K a_firsts a_seconds a_thirds n a_varies a_parted a_variableVaries va pa vv → post 1 (f_lines, f_studied, f_wrong, f_wrongAt, f_brief, f_on, f_dropped, f_steps, f_nextLine, f_repeats, a_kinds, a_firsts, a_seconds, a_thirds, a_inputs, a_home, a_depth, a_closer, a_mate, a_operands, va, pa, vv, a_same, a_fixed, a_worth, a_needed, a_variableNeeded, a_values, a_variables, a_outputs, a_cells, a_whole, a_waiting)) : wpX_spreadOther post (f_lines, f_studied, f_wrong, f_wrongAt, f_brief, f_on, f_dropped, f_steps, f_nextLine, f_repeats, a_kinds, a_firsts, a_seconds, a_thirds, a_inputs, a_home, a_depth, a_closer, a_mate, a_operands, a_varies, a_parted, a_variableVaries, a_same, a_fixed, a_worth, a_needed, a_variableNeeded, a_values, a_variables, a_outputs, a_cells, a_whole, a_waiting) (nI i) := by
  have ci : (nI i).toNatClampNeg = i := nI_clamp (by omega)
  have hin : vp_in (nI i) 48 := vp_in_nI (by omega) (by omega)
  have ki := hK i hi
  have gi : sc_good K (i + 1) := sc_good_le hg (by omega)
  have no : ¬ (K i = 17 ∨ K i = 19 ∨ K i = 20 ∨ K i = 22 ∨ K i = 24) → post 0 (f_lines, f_studied, f_wrong, f_wrongAt, f_brief, f_on, f_dropped, f_steps, f_nextLine, f_repeats, a_kinds, a_firsts, a_seconds, a_thirds, a_inputs, a_home, a_depth, a_closer, a_mate, a_operands, a_varies, a_parted, a_variableVaries, a_same, a_fixed, a_worth, a_needed, a_variableNeeded, a_values, a_variables, a_outputs, a_cells, a_whole, a_waiting) := fun h =>
    h0 ⟨⟨fun h' => absurd h' h17, fun h' => absurd h' (by omega)⟩, fun h' => absurd h' (by omega), fun h' => absurd h' (by omega)⟩
  have hsub : ∀ V L W, vr_C K a_firsts a_seconds a_thirds n V L W → vr_sub K n (xv_V a_varies) (xv_V a_parted) (xv_V a_variableVaries) V L W → xv_V a_parted (sc_hd (sc_lf K i)) → L (sc_hd (sc_lf K i)) := fun V L W hc s h =>
    s.2.1 _ (Nat.le_trans (sc_hdl_le gi) (by omega)) (sc_hdl_op gi) h
  have t58 : (K i = 19 ∨ K i = 20) → wX_spreadOther_58 post (nI i) f_lines f_studied f_wrong f_wrongAt f_brief f_on f_dropped f_steps f_nextLine f_repeats a_kinds a_firsts a_seconds a_thirds a_inputs a_home a_depth a_closer a_mate a_operands a_varies a_parted a_variableVaries a_same a_fixed a_worth a_needed a_variableNeeded a_values a_variables a_outputs a_cells a_whole a_waiting := by
    intro hk
    have mle := sc_mt_le gi
    have kmt : K (sc_mt K i) = 19 := by
      rcases hk with hk | hk
      · rw [sc_mt_n (by omega)]; exact hk
      · obtain ⟨m, r, e, km⟩ := (hg i hi).2.1 hk
        rw [sc_mt_cl (by omega), e]; exact km
    obtain ⟨x, hx, ex, _⟩ := hok (sc_mt K i) (by omega) 0 (by omega) (by unfold sc_us; omega)
    have ex' : a_firsts (sc_mt K i) = nI x := ex
    refine ⟨hin, ?_⟩
    rw [ci, (hH i hi).2, nI_clamp (by omega), ex', nI_clamp (by omega)]
    refine ⟨vp_in_nI (by omega) (by omega), vp_in_nI (by omega) (by omega), ?_⟩
    refine xv_spreadBlock (K := K) hn hg (fun j hj => (hH j hj).1) hi (fun h => ⟨xs_nb0, h0 ⟨⟨fun h' => absurd h' h17, fun h' => absurd h' (by omega)⟩, fun _ h' => h ?_, fun h' => absurd h' (by omega)⟩⟩) (fun hz h => ⟨xs_nb1, h1 _ _ _ (xv_upL hn (by omega) hz (fun V L W hc s => (hc i hi).2.1 (by omega) ?_))⟩)
    · rcases h' with h' | ⟨_, h'⟩
      · exact Or.inl h'
      · rw [ex', nI_clamp (by omega)] at h'; exact Or.inr h'
    · rcases h with h | h
      · exact Or.inl (hsub V L W hc s h)
      · refine Or.inr ⟨by omega, ?_⟩
        rw [ex', nI_clamp (by omega)]
        exact s.1 x (by omega) h
  refine ⟨hin, nm_c ci ki.1 ?_⟩
  refine pk_lt (K i) 17 (fun h => absurd h (by omega)) (fun _ => pk_lt 24 (K i) (fun h => no (by omega)) (fun _ => pk_eq (K i) 17 (fun h => ?_) (fun _ => pk_eq (K i) 18 (fun h => no (by omega)) (fun _ => pk_eq (K i) 19 (fun h => t58 (Or.inl h)) (fun _ => pk_eq (K i) 20 (fun h => t58 (Or.inr h)) (fun _ => pk_eq (K i) 21 (fun h => no (by omega)) (fun _ => pk_eq (K i) 22 (fun h => ?_) (fun _ => pk_eq (K i) 23 (fun h => no (by omega)) (fun _ => pk_eq (K i) 24 (fun h => ?_) (fun _ => trivial))))))))))
  · refine xv_spreadPut (K := K) hn hg h4 (fun j hj => (hH j hj).1) hi h (hok i hi 1 (by omega) (by unfold sc_us; omega)) (fun h' => ⟨xs_nb0, h0 ⟨⟨fun h'' => absurd h'' h17, fun _ => h'⟩, fun h' => absurd h' (by omega), fun h' => absurd h' (by omega)⟩⟩) (fun va pa vv hu => ⟨xs_nb1, h1 va pa vv hu⟩)
  · refine xv_spreadBlock (K := K) hn hg (fun j hj => (hH j hj).1) hi (fun h' => ⟨xs_nb0, h0 ⟨⟨fun h' => absurd h' h17, fun h' => absurd h' (by omega)⟩, fun _ h'' => h' ?_, fun h' => absurd h' (by omega)⟩⟩) (fun hz h' => ⟨xs_nb1, h1 _ _ _ (xv_upL hn (by omega) hz (fun V L W hc s => (hc i hi).2.1 (by omega) ?_))⟩)
    · rcases h'' with h'' | ⟨h'', _⟩
      · exact Or.inl h''
      · exact absurd h h''
    · rcases h' with h' | h'
      · exact Or.inl (hsub V L W hc s h')
      · exact absurd rfl h'
  · have el : sc_lf K i = sc_fr K i := sc_lf_n (by omega)
    have len := sc_len i (sc_good_le hg (by omega))
    refine ⟨hin, nm_c ci (hH i hi).1 ⟨5, ?_⟩⟩
    rw [el]
    refine xv_break12 (K := K) (n := n) (post := fun r_124 u => match u with | (f_lines, f_studied, f_wrong, f_wrongAt, f_brief, f_on, f_dropped, f_steps, f_nextLine, f_repeats, a_kinds, a_firsts, a_seconds, a_thirds, a_inputs, a_home, a_depth, a_closer, a_mate, a_operands, a_varies, a_parted, a_variableVaries, a_same, a_fixed, a_worth, a_needed, a_variableNeeded, a_values, a_variables, a_outputs, a_cells, a_whole, a_waiting) => (narrow .boolean (.int r_124) = .int r_124 ∧ (post r_124 (f_lines, f_studied, f_wrong, f_wrongAt, f_brief, f_on, f_dropped, f_steps, f_nextLine, f_repeats, a_kinds, a_firsts, a_seconds, a_thirds, a_inputs, a_home, a_depth, a_closer, a_mate, a_operands, a_varies, a_parted, a_variableVaries, a_same, a_fixed, a_worth, a_needed, a_variableNeeded, a_values, a_variables, a_outputs, a_cells, a_whole, a_waiting)))) hn hK hg hok hH (sc_fr K i) i 0 False 0 (by omega) rfl (by omega) ⟨fun h => absurd rfl h, fun h => h.elim⟩ (fun h' => ⟨xs_nb0, h0 ⟨⟨fun h' => absurd h' h17, fun h' => absurd h' (by omega)⟩, fun h' => absurd h' (by omega), fun _ => by rw [el]; exact h'⟩⟩) (fun b m hm km hz h' => ⟨xs_nb1, h1 _ _ _ (xv_upL hn ?_ hz (fun V L W hc s => ?_))⟩) 5 (by omega)
    · obtain ⟨r, T⟩ := sc_memT (sc_good_le hg (show i ≤ n by omega)) hm
      have := T.2.1; omega
    · obtain ⟨r, T⟩ := sc_memT (sc_good_le hg (show i ≤ n by omega)) hm
      have tb := T.2.1
      have tb1 := T.1
      rcases h' with h' | h'
      · refine (hc i hi).2.2 h b ?_
        rw [el]
        refine vr_brk_mono _ _ _ b (fun h => h) (fun f hf hV hk => s.1 _ ?_ hV) h'
        obtain ⟨r', T'⟩ := sc_memT (b := f.1) (m := f.2) (sc_good_le hg (show i ≤ n by omega)) hf
        have kf : K f.2 = 19 := by
          rcases T'.2.2.2.1 with ⟨_, h''⟩ | ⟨_, h'', _⟩
          · omega
          · exact h''
        have := T'.2.1
        have := T'.2.2.1
        obtain ⟨x, hx, ex, _⟩ := hok f.2 (by omega) 0 (by omega) (by unfold sc_us; omega)
        rw [show a_firsts f.2 = nI x from ex, nI_clamp (by omega)]; omega
      · have gb : sc_good K (b - 1 + 1) := sc_good_le hg (by omega)
        have := (hc (b - 1) (by omega)).2.1 T.2.2.2.2.2.2.2.1 (Or.inl (s.2.1 _ (Nat.le_trans (sc_hdl_le gb) (by omega)) (sc_hdl_op gb) h'))
        rw [show b - 1 + 1 = b by omega] at this
        exact this
end
end
section
section
variable {K : Nat → Nat} {n : Nat}
variable {f_lines f_studied f_wrong f_wrongAt f_brief f_on f_dropped f_steps f_nextLine f_repeats : Int32} {a_kinds a_firsts a_seconds a_thirds a_inputs a_home a_depth a_closer a_mate a_operands a_varies a_parted a_variableVaries a_same a_fixed a_worth a_needed a_variableNeeded a_values a_variables a_outputs a_cells a_whole a_waiting : Nat → Int32}
/-- what all of X's rounds know of the program -/
def xv_P (K : Nat → Nat) (n : Nat) (kinds A B C home mate operands : Nat → Int32) : Prop :=
  n ≤ 48 ∧ (∀ j, j < n → kinds j = nI (K j) ∧ K j ≤ 25) ∧ sc_good K n ∧ (∀ j, j < n → (K j = 1 ∨ K j = 11 ∨ K j = 16 ∨ K j = 17 ∨ K j = 18) → ∃ a, a < 4 ∧ A j = nI a) ∧
  (∀ j, j < n → ∀ s, s < 3 → sc_us (K j) s → sc_ov K A B C s j) ∧ (∀ j, j < n → home j = nI (sc_hd (sc_lf K j)) ∧ mate j = nI (sc_mt K j)) ∧
  (∀ j, j < n → ∀ s, s < 3 → (sc_us (K j) s → operands (3 * j + s) = sc_o3 A B C s j) ∧ (¬ sc_us (K j) s → operands (3 * j + s) = -1))
def xv_sat (K : Nat → Nat) (A B C va pa vv : Nat → Int32) (i : Nat) : Prop :=
  vr_s1 K A B C (xv_V va) (xv_V pa) (xv_V vv) i ∧ vr_s2 K A (xv_V va) (xv_V pa) i ∧ vr_s3 K A (xv_V va) (xv_V pa) i
theorem xv_78 (hP : xv_P K n a_kinds a_firsts a_seconds a_thirds a_home a_mate a_operands) {post : SX → Prop} {J : Int32 → Int32 → Int32 → Int32 → Int32 → Int32 → Int32 → Int32 → Int32 → Int32 → Int32 → Int32 → (Nat → Int32) → (Nat → Int32) → (Nat → Int32) → (Nat → Int32) → (Nat → Int32) → (Nat → Int32) → (Nat → Int32) → (Nat → Int32) → (Nat → Int32) → (Nat → Int32) → (Nat → Int32) → (Nat → Int32) → (Nat → Int32) → (Nat → Int32) → (Nat → Int32) → (Nat → Int32) → (Nat → Int32) → (Nat → Int32) → (Nat → Int32) → (Nat → Int32) → (Nat → Int32) → (Nat → Int32) → (Nat → Int32) → (Nat → Int32) → Prop} {x2 : Nat}
    (hend0 : (∀ j, j < n → xv_sat K a_firsts a_seconds a_thirds a_varies a_parted a_variableVaries j) → J 0 (nI (x2 + 1)) (nI n) f_studied f_wrong f_wrongAt f_brief f_on f_dropped f_steps f_nextLine f_repeats a_kinds a_firsts a_seconds a_thirds a_inputs a_home a_depth a_closer a_mate a_operands a_varies a_parted a_variableVaries a_same a_fixed a_worth a_needed a_variableNeeded a_values a_variables a_outputs a_cells a_whole a_waiting)
    (hend1 : ∀ va pa vv, vr_snd K a_firsts a_seconds a_thirds n (xv_V va) (xv_V pa) (xv_V vv) → (∀ v, v < 4 → vv v = 0 ∨ vv v = 1) → xv_mu va pa vv < xv_mu a_varies a_parted a_variableVaries → J 1 (nI (x2 + 1)) (nI n) f_studied f_wrong f_wrongAt f_brief f_on f_dropped f_steps f_nextLine f_repeats a_kinds a_firsts a_seconds a_thirds a_inputs a_home a_depth a_closer a_mate a_operands va pa vv a_same a_fixed a_worth a_needed a_variableNeeded a_values a_variables a_outputs a_cells a_whole a_waiting) :
    ∀ (d i : Nat) (x1 : Int32) (va pa vv : Nat → Int32), i + d = n → ((x1 = 0 ∧ va = a_varies ∧ pa = a_parted ∧ vv = a_variableVaries ∧ ∀ j, j < i → xv_sat K a_firsts a_seconds a_thirds va pa vv j) ∨ (x1 = 1 ∧ xv_mu va pa vv < xv_mu a_varies a_parted a_variableVaries)) → vr_snd K a_firsts a_seconds a_thirds n (xv_V va) (xv_V pa) (xv_V vv) → (∀ v, v < 4 → vv v = 0 ∨ vv v = 1) →
      wX_findVaried_78 post J (nI x2) (d + 1) x1 (nI i) (nI n) f_studied f_wrong f_wrongAt f_brief f_on f_dropped f_steps f_nextLine f_repeats a_kinds a_firsts a_seconds a_thirds a_inputs a_home a_depth a_closer a_mate a_operands va pa vv a_same a_fixed a_worth a_needed a_variableNeeded a_values a_variables a_outputs a_cells a_whole a_waiting := by
  obtain ⟨hn, hK, hg, h4, hok, hH, hO⟩ := hP
  intro d
  induction d with
  | zero =>
    intro i x1 va pa vv hi hst hs hb
    cases (show i = n by omega)
    refine br_t (nI_le (Nat.le_refl _) (by omega)) (nm_r (nI_1 x2) ?_)
    rcases hst with ⟨rfl, rfl, rfl, rfl, hall⟩ | ⟨rfl, hmu⟩
    · exact hend0 hall
    · exact hend1 va pa vv hs hb hmu
  | succ d ih =>
    intro i x1 va pa vv hi hst hs hb
    have next0 : xv_sat K a_firsts a_seconds a_thirds va pa vv i → wX_findVaried_107 post J (wX_findVaried_78 post J (nI x2) (d + 1)) x1 (nI x2) (nI i) 0 (nI n) f_studied f_wrong f_wrongAt f_brief f_on f_dropped f_steps f_nextLine f_repeats a_kinds a_firsts a_seconds a_thirds a_inputs a_home a_depth a_closer a_mate a_operands va pa vv a_same a_fixed a_worth a_needed a_variableNeeded a_values a_variables a_outputs a_cells a_whole a_waiting := by
      intro hsat
      rcases hst with ⟨rfl, e1, e2, e3, hall⟩ | ⟨rfl, hmu⟩
      · refine br_t rfl (br_t rfl (nm_r (nI_1 i) (ih (i + 1) 0 va pa vv (by omega) (Or.inl ⟨rfl, e1, e2, e3, fun j hj => ?_⟩) hs hb)))
        by_cases e : j = i
        · rw [e]; exact hsat
        · exact hall j (by omega)
      · exact br_f (by decide) (nm_r (nI_1 i) (ih (i + 1) 1 va pa vv (by omega) (Or.inr ⟨rfl, hmu⟩) hs hb))
    have next1 : ∀ va' pa' vv', xv_up K a_firsts a_seconds a_thirds n va pa vv va' pa' vv' → wX_findVaried_107 post J (wX_findVaried_78 post J (nI x2) (d + 1)) x1 (nI x2) (nI i) 1 (nI n) f_studied f_wrong f_wrongAt f_brief f_on f_dropped f_steps f_nextLine f_repeats a_kinds a_firsts a_seconds a_thirds a_inputs a_home a_depth a_closer a_mate a_operands va' pa' vv' a_same a_fixed a_worth a_needed a_variableNeeded a_values a_variables a_outputs a_cells a_whole a_waiting := by
      intro va' pa' vv' hu
      have hmu' : xv_mu va' pa' vv' < xv_mu a_varies a_parted a_variableVaries := by
        have := hu.2.1
        rcases hst with ⟨_, rfl, rfl, rfl, _⟩ | ⟨_, hmu⟩
        · exact this
        · omega
      have go := ih (i + 1) 1 va' pa' vv' (by omega) (Or.inr ⟨rfl, hmu'⟩) (hu.1 hs) (hu.2.2 hb)
      exact br_c (fun _ => br_f (by decide) (nm_r (nI_1 i) go)) (fun _ => nm_r (nI_1 i) go)
    refine br_f (nI_ge (by omega) (by omega)) ?_
    refine xs_gives hK hn (by omega) (fun h16 => br_f (by decide) ?_) (fun h16 => br_t rfl ?_)
    · refine xv_spreadValue (K := K) (n := n) hn hK h4 hb (by omega) (hO i (by omega)) (hok i (by omega)) h16 (fun h => next0 ⟨⟨fun _ => h, fun h' => absurd h' (by omega)⟩, fun h' => absurd h' (by omega), fun h' => absurd h' (by omega)⟩) next1
    · exact xv_spreadOther (K := K) (n := n) hn hK hg h4 hok hH (by omega) h16 next0 next1
theorem xv_63 (hP : xv_P K n a_kinds a_firsts a_seconds a_thirds a_home a_mate a_operands) {post : SX → Prop}
    (hpost : ∀ va pa vv, vr_least K a_firsts a_seconds a_thirds n (xv_V va) (xv_V pa) (xv_V vv) → (∀ v, v < 4 → vv v = 0 ∨ vv v = 1) → post (nI n, f_studied, f_wrong, f_wrongAt, f_brief, f_on, f_dropped, f_steps, f_nextLine, f_repeats, a_kinds, a_firsts, a_seconds, a_thirds, a_inputs, a_home, a_depth, a_closer, a_mate, a_operands, va, pa, vv, a_same, a_fixed, a_worth, a_needed, a_variableNeeded, a_values, a_variables, a_outputs, a_cells, a_whole, a_waiting)) :
    ∀ (M t : Nat) (va pa vv : Nat → Int32), xv_mu va pa vv ≤ M → t + M ≤ 101 → vr_snd K a_firsts a_seconds a_thirds n (xv_V va) (xv_V pa) (xv_V vv) → (∀ v, v < 4 → vv v = 0 ∨ vv v = 1) → wX_findVaried_63 post (M + 2) 1 (nI t) (nI n) f_studied f_wrong f_wrongAt f_brief f_on f_dropped f_steps f_nextLine f_repeats a_kinds a_firsts a_seconds a_thirds a_inputs a_home a_depth a_closer a_mate a_operands va pa vv a_same a_fixed a_worth a_needed a_variableNeeded a_values a_variables a_outputs a_cells a_whole a_waiting := by
  intro M
  induction M with
  | zero =>
    intro t va pa vv hmu ht hs hb
    refine br_f (nI_ge (b := 256) (by omega) (by decide)) (br_f (by decide) ⟨n + 1, ?_⟩)
    refine xv_78 (K := K) (n := n) (post := post) (J := wX_findVaried_63 post 1) hP (fun hall => br_f (nI_ge (b := 256) (by omega) (by decide)) (br_t rfl (hpost va pa vv ⟨fun j hj => hall j hj, hs⟩ hb))) (fun va' pa' vv' _ _ h => absurd h (by omega)) n 0 0 va pa vv (by omega) (Or.inl ⟨rfl, rfl, rfl, rfl, fun j hj => by omega⟩) hs hb
  | succ M ih =>
    intro t va pa vv hmu ht hs hb
    refine br_f (nI_ge (b := 256) (by omega) (by decide)) (br_f (by decide) ⟨n + 1, ?_⟩)
    refine xv_78 (K := K) (n := n) (post := post) (J := wX_findVaried_63 post (M + 2)) hP (fun hall => br_f (nI_ge (b := 256) (by omega) (by decide)) (br_t rfl (hpost va pa vv ⟨fun j hj => hall j hj, hs⟩ hb))) (fun va' pa' vv' hs' hb' h => ih (t + 1) va' pa' vv' (by omega) (by omega) hs' hb') n 0 0 va pa vv (by omega) (Or.inl ⟨rfl, rfl, rfl, rfl, fun j hj => by omega⟩) hs hb
theorem xv_41 {post : SX → Prop} (h : ∃ m, wX_findVaried_63 post m 1 0 f_lines f_studied f_wrong f_wrongAt f_brief f_on f_dropped f_steps f_nextLine f_repeats a_kinds a_firsts a_seconds a_thirds a_inputs a_home a_depth a_closer a_mate a_operands a_varies a_parted (cl_z 4 a_variableVaries) a_same a_fixed a_worth a_needed a_variableNeeded a_values a_variables a_outputs a_cells a_whole a_waiting) : ∀ d i : Nat, i + d = 4 → wX_findVaried_41 post f_lines f_studied f_wrong f_wrongAt f_brief f_on f_dropped f_steps f_nextLine f_repeats (d + 1) (nI i) a_kinds a_firsts a_seconds a_thirds a_inputs a_home a_depth a_closer a_mate a_operands a_varies a_parted (cl_z i a_variableVaries) a_same a_fixed a_worth a_needed a_variableNeeded a_values a_variables a_outputs a_cells a_whole a_waiting := by
  intro d
  induction d with
  | zero => intro i hi; cases (show i = 4 by omega); exact br_t (by decide) h
  | succ d ih =>
    intro i hi
    exact br_f (nI_ge (b := 4) (by omega) (by decide)) ⟨vp_in_nI (by omega) (by omega), nm_r (by rw [nI_clamp (by omega), xv_nar0]; exact cl_s i _) (nm_r (nI_1 i) (ih (i + 1) (by omega)))⟩
theorem xv_9 (hn : n ≤ 48) {post : SX → Prop} (h : ∃ m, wX_findVaried_63 post m 1 0 (nI n) f_studied f_wrong f_wrongAt f_brief f_on f_dropped f_steps f_nextLine f_repeats a_kinds a_firsts a_seconds a_thirds a_inputs a_home a_depth a_closer a_mate a_operands (cl_z n a_varies) (cl_z (n + 1) a_parted) (cl_z 4 a_variableVaries) a_same a_fixed a_worth a_needed a_variableNeeded a_values a_variables a_outputs a_cells a_whole a_waiting) : ∀ d i : Nat, i + d = n → wX_findVaried_9 post (nI n) f_studied f_wrong f_wrongAt f_brief f_on f_dropped f_steps f_nextLine f_repeats (d + 1) (nI i) a_kinds a_firsts a_seconds a_thirds a_inputs a_home a_depth a_closer a_mate a_operands (cl_z i a_varies) (cl_z (i + 1) a_parted) a_variableVaries a_same a_fixed a_worth a_needed a_variableNeeded a_values a_variables a_outputs a_cells a_whole a_waiting := by
  intro d
  induction d with
  | zero =>
    intro i hi
    cases (show i = n by omega)
    refine br_t (nI_le (Nat.le_refl _) (by omega)) ⟨5, ?_⟩
    rw [← cl_0 a_variableVaries]
    exact xv_41 h 4 0 rfl
  | succ d ih =>
    intro i hi
    exact br_f (nI_ge (by omega) (by omega)) ⟨vp_in_nI (by omega) (by omega), nm_r (by rw [nI_clamp (by omega), xv_nar0]; exact cl_s i _) ⟨by rw [nI_1]; exact vp_in_nI (by omega) (by omega), nm_r (by rw [nI_1, nI_clamp (by omega), xv_nar0]; exact cl_s (i + 1) _) (nm_r (nI_1 i) (ih (i + 1) (by omega)))⟩⟩
theorem xv_findVaried (hP : xv_P K n a_kinds a_firsts a_seconds a_thirds a_home a_mate a_operands) {post : SX → Prop}
    (hpost : ∀ va pa vv, vr_least K a_firsts a_seconds a_thirds n (xv_V va) (xv_V pa) (xv_V vv) → (∀ v, v < 4 → vv v = 0 ∨ vv v = 1) → post (nI n, f_studied, f_wrong, f_wrongAt, f_brief, f_on, f_dropped, f_steps, f_nextLine, f_repeats, a_kinds, a_firsts, a_seconds, a_thirds, a_inputs, a_home, a_depth, a_closer, a_mate, a_operands, va, pa, vv, a_same, a_fixed, a_worth, a_needed, a_variableNeeded, a_values, a_variables, a_outputs, a_cells, a_whole, a_waiting)) : wpX_findVaried post (nI n, f_studied, f_wrong, f_wrongAt, f_brief, f_on, f_dropped, f_steps, f_nextLine, f_repeats, a_kinds, a_firsts, a_seconds, a_thirds, a_inputs, a_home, a_depth, a_closer, a_mate, a_operands, a_varies, a_parted, a_variableVaries, a_same, a_fixed, a_worth, a_needed, a_variableNeeded, a_values, a_variables, a_outputs, a_cells, a_whole, a_waiting) := by
  have hn := hP.1
  refine nm_r (e' := cl_z 1 a_parted) (by rw [xv_nar0]; have := cl_s 0 a_parted; rw [cl_0] at this; exact this) ⟨n + 1, ?_⟩
  rw [← cl_0 a_varies]
  refine xv_9 hn ?_ n 0 (by omega)
  refine ⟨_, xv_63 (K := K) (n := n) hP hpost 101 0 _ _ _ ?_ (by omega) ?_ ?_⟩
  · have := cz_le (cl_z n a_varies) 48
    have := cz_le (cl_z (n + 1) a_parted) 49
    have := cz_le (cl_z 4 a_variableVaries) 4
    unfold xv_mu; omega
  · intro V L W _
    exact ⟨fun i hi h => absurd (cl_lt _ hi) h, fun b hb _ h => absurd (cl_lt _ (by omega)) h, fun v hv h => absurd (cl_lt _ hv) h⟩
  · intro v hv; exact Or.inl (cl_lt _ hv)
/-- the fourth sort -/
def xv_w4 (K : Nat → Nat) (L : Nat → Prop) (i : Nat) : Prop := (K i = 12 ∨ K i = 13) ∧ L (sc_hd (sc_lf K i))
theorem xv_diffEnd {post : SX → Prop} {x1 : Int32} {d : Nat} (hw : f_wrong ≠ 0) (h : post (f_lines, f_studied, f_wrong, f_wrongAt, f_brief, f_on, f_dropped, f_steps, f_nextLine, f_repeats, a_kinds, a_firsts, a_seconds, a_thirds, a_inputs, a_home, a_depth, a_closer, a_mate, a_operands, a_varies, a_parted, a_variableVaries, a_same, a_fixed, a_worth, a_needed, a_variableNeeded, a_values, a_variables, a_outputs, a_cells, a_whole, a_waiting)) : wX_findWrongDifference_2 post (d + 1) x1 f_lines f_studied f_wrong f_wrongAt f_brief f_on f_dropped f_steps f_nextLine f_repeats a_kinds a_firsts a_seconds a_thirds a_inputs a_home a_depth a_closer a_mate a_operands a_varies a_parted a_variableVaries a_same a_fixed a_worth a_needed a_variableNeeded a_values a_variables a_outputs a_cells a_whole a_waiting :=
  br_c (fun _ => h) (fun _ => br_f hw h)
theorem xv_diff2 (hn : n ≤ 48) (hK : ∀ j, j < n → a_kinds j = nI (K j) ∧ K j ≤ 25) (hg : sc_good K n) (hH : ∀ j, j < n → a_home j = nI (sc_hd (sc_lf K j))) {post : SX → Prop}
    (h4 : ∀ i, i < n → xv_w4 K (xv_V a_parted) i → (∀ j, j < i → ¬ xv_w4 K (xv_V a_parted) j) → post (nI n, f_studied, 4, nI i, f_brief, f_on, f_dropped, f_steps, f_nextLine, f_repeats, a_kinds, a_firsts, a_seconds, a_thirds, a_inputs, a_home, a_depth, a_closer, a_mate, a_operands, a_varies, a_parted, a_variableVaries, a_same, a_fixed, a_worth, a_needed, a_variableNeeded, a_values, a_variables, a_outputs, a_cells, a_whole, a_waiting))
    (h0 : (∀ j, j < n → ¬ xv_w4 K (xv_V a_parted) j) → post (nI n, f_studied, 0, f_wrongAt, f_brief, f_on, f_dropped, f_steps, f_nextLine, f_repeats, a_kinds, a_firsts, a_seconds, a_thirds, a_inputs, a_home, a_depth, a_closer, a_mate, a_operands, a_varies, a_parted, a_variableVaries, a_same, a_fixed, a_worth, a_needed, a_variableNeeded, a_values, a_variables, a_outputs, a_cells, a_whole, a_waiting)) :
    ∀ d i : Nat, i + d = n → (∀ j, j < i → ¬ xv_w4 K (xv_V a_parted) j) → wX_findWrongDifference_2 post (d + 2) (nI i) (nI n) f_studied 0 f_wrongAt f_brief f_on f_dropped f_steps f_nextLine f_repeats a_kinds a_firsts a_seconds a_thirds a_inputs a_home a_depth a_closer a_mate a_operands a_varies a_parted a_variableVaries a_same a_fixed a_worth a_needed a_variableNeeded a_values a_variables a_outputs a_cells a_whole a_waiting := by
  intro d
  induction d with
  | zero =>
    intro i hi hno
    cases (show i = n by omega)
    exact br_t (nI_le (Nat.le_refl _) (by omega)) (h0 hno)
  | succ d ih =>
    intro i hi hno
    have ci : (nI i).toNatClampNeg = i := nI_clamp (by omega)
    have hin : vp_in (nI i) 48 := vp_in_nI (by omega) (by omega)
    have ki := hK i (by omega)
    have gi : sc_good K (i + 1) := sc_good_le hg (by omega)
    have hle := sc_hdl_le gi
    have next : ¬ xv_w4 K (xv_V a_parted) i → wX_findWrongDifference_2 post (d + 2) (nI (i + 1)) (nI n) f_studied 0 f_wrongAt f_brief f_on f_dropped f_steps f_nextLine f_repeats a_kinds a_firsts a_seconds a_thirds a_inputs a_home a_depth a_closer a_mate a_operands a_varies a_parted a_variableVaries a_same a_fixed a_worth a_needed a_variableNeeded a_values a_variables a_outputs a_cells a_whole a_waiting := fun h =>
      ih (i + 1) (by omega) (fun j hj => by
        by_cases e : j = i
        · rw [e]; exact h
        · exact hno j (by omega))
    have t39 : (K i = 12 ∨ K i = 13) → wX_findWrongDifference_39 post (wX_findWrongDifference_2 post (d + 2)) (nI i) (nI n) f_studied 0 f_wrongAt f_brief f_on f_dropped f_steps f_nextLine f_repeats a_kinds a_firsts a_seconds a_thirds a_inputs a_home a_depth a_closer a_mate a_operands a_varies a_parted a_variableVaries a_same a_fixed a_worth a_needed a_variableNeeded a_values a_variables a_outputs a_cells a_whole a_waiting := by
      intro hk
      refine ⟨hin, ?_⟩
      rw [ci, hH i (by omega), nI_clamp (by omega)]
      exact ⟨vp_in_nI (by omega) (by omega), br_c (fun hz => nm_r (nI_1 i) (next (fun h => h.2 hz))) (fun hz => nm_e (xv_diffEnd (by decide) (h4 i (by omega) ⟨hk, hz⟩ hno)))⟩
    refine br_f (nI_ge (by omega) (by omega)) (br_t rfl ⟨hin, ?_⟩)
    rw [ci, ki.1]
    refine pk_eq (K i) 12 (fun h => t39 (Or.inl h)) (fun h12 => ⟨hin, pk_eq (K i) 13 (fun h => t39 (Or.inr h)) (fun h13 => nm_r (nI_1 i) (next (fun h => ?_)))⟩)
    have := h.1
    omega
theorem xv_diff (hn : n ≤ 48) (hK : ∀ j, j < n → a_kinds j = nI (K j) ∧ K j ≤ 25) (hg : sc_good K n) (hH : ∀ j, j < n → a_home j = nI (sc_hd (sc_lf K j))) {post : SX → Prop}
    (h4 : ∀ i, i < n → xv_w4 K (xv_V a_parted) i → (∀ j, j < i → ¬ xv_w4 K (xv_V a_parted) j) → post (nI n, f_studied, 4, nI i, f_brief, f_on, f_dropped, f_steps, f_nextLine, f_repeats, a_kinds, a_firsts, a_seconds, a_thirds, a_inputs, a_home, a_depth, a_closer, a_mate, a_operands, a_varies, a_parted, a_variableVaries, a_same, a_fixed, a_worth, a_needed, a_variableNeeded, a_values, a_variables, a_outputs, a_cells, a_whole, a_waiting))
    (h0 : (∀ j, j < n → ¬ xv_w4 K (xv_V a_parted) j) → post (nI n, f_studied, 0, f_wrongAt, f_brief, f_on, f_dropped, f_steps, f_nextLine, f_repeats, a_kinds, a_firsts, a_seconds, a_thirds, a_inputs, a_home, a_depth, a_closer, a_mate, a_operands, a_varies, a_parted, a_variableVaries, a_same, a_fixed, a_worth, a_needed, a_variableNeeded, a_values, a_variables, a_outputs, a_cells, a_whole, a_waiting)) : wpX_findWrongDifference post (nI n, f_studied, 0, f_wrongAt, f_brief, f_on, f_dropped, f_steps, f_nextLine, f_repeats, a_kinds, a_firsts, a_seconds, a_thirds, a_inputs, a_home, a_depth, a_closer, a_mate, a_operands, a_varies, a_parted, a_variableVaries, a_same, a_fixed, a_worth, a_needed, a_variableNeeded, a_values, a_variables, a_outputs, a_cells, a_whole, a_waiting) :=
  ⟨n + 2, xv_diff2 hn hK hg hH h4 h0 n 0 (by omega) (fun j hj => by omega)⟩
end
end
section
section
variable {K : Nat → Nat} {A B C : Nat → Int32} {n : Nat}
theorem vr_sndV {V L W V' : Nat → Prop} {i : Nat} (hn : n ≤ 48) (hi : i < n) (h16 : K i ≤ 16) (hov : ∀ s, s < 3 → sc_us (K i) s → sc_ov K A B C s i) (hw4 : K i = 11 → ∃ a, a < 4 ∧ A i = nI a) (h : vr_need K A B C V W i) (hV : ∀ j, V' j → j = i ∨ V j) (hs : vr_snd K A B C n V L W) : vr_snd K A B C n V' L W := by
  intro V2 L2 W2 hc
  have s := hs V2 L2 W2 hc
  refine ⟨fun j hj hv => ?_, s.2⟩
  rcases hV j hv with e | hv
  · rw [e]
    refine (hc i hi).1.1 h16 ?_
    rcases h with h | h | h | ⟨h, h'⟩ | ⟨h, s', hs', hu, hv'⟩
    · exact Or.inl h
    · exact Or.inr (Or.inl h)
    · exact Or.inr (Or.inr (Or.inl h))
    · obtain ⟨a, ha, ea⟩ := hw4 h
      refine Or.inr (Or.inr (Or.inr (Or.inl ⟨h, s.2.2 _ ?_ h'⟩)))
      rw [ea, nI_clamp (by omega)]; exact ha
    · obtain ⟨x, hx, ex, _⟩ := hov s' hs' hu
      refine Or.inr (Or.inr (Or.inr (Or.inr ⟨h, s', hs', hu, s.1 _ ?_ hv'⟩)))
      rw [ex, nI_clamp (by omega)]; omega
  · exact s.1 j hj hv
theorem vr_sndW {V L W W' : Nat → Prop} {i a : Nat} (hn : n ≤ 48) (hi : i < n) (hg : sc_good K n) (h17 : K i = 17) (ha : a < 4) (ea : A i = nI a) (hov : sc_ov K A B C 1 i) (h : V (B i).toNatClampNeg ∨ L (sc_hd (sc_lf K i))) (hW : ∀ v, W' v → v = a ∨ W v) (hs : vr_snd K A B C n V L W) : vr_snd K A B C n V L W' := by
  intro V2 L2 W2 hc
  have s := hs V2 L2 W2 hc
  have gi : sc_good K (i + 1) := sc_good_le hg (by omega)
  refine ⟨s.1, s.2.1, fun v hv hm => ?_⟩
  rcases hW v hm with e | hm
  · have := (hc i hi).1.2 h17 (by
      rcases h with h | h
      · obtain ⟨x, hx, ex, _⟩ := hov
        refine Or.inl (s.1 _ ?_ h)
        rw [show B i = nI x from ex, nI_clamp (by omega)]; omega
      · exact Or.inr (s.2.1 _ (Nat.le_trans (sc_hdl_le gi) (by omega)) (sc_hdl_op gi) h))
    rw [ea, nI_clamp (by omega)] at this
    rw [e]; exact this
  · exact s.2.2 v hv hm
theorem vr_sndL {V L L' W : Nat → Prop} {b : Nat} (h : ∀ V2 L2 W2, vr_C K A B C n V2 L2 W2 → vr_sub K n V L W V2 L2 W2 → L2 b) (hL : ∀ c, (c = 0 ∨ sc_op (K (c - 1))) → L' c → c = b ∨ L c) (hs : vr_snd K A B C n V L W) : vr_snd K A B C n V L' W := by
  intro V2 L2 W2 hc
  have s := hs V2 L2 W2 hc
  refine ⟨s.1, fun c hc' ho hm => ?_, s.2.2⟩
  rcases hL c ho hm with e | hm
  · rw [e]; exact h V2 L2 W2 hc s
  · exact s.2.1 c hc' ho hm
/-- Y's loose blocks, by X's numbers -/
def yv_L (K : Nat → Nat) (lo : Nat → Int32) : Nat → Prop := fun b => lo (sc_cnt K b) ≠ 0
def yv_mu (va lo vv : Nat → Int32) : Nat := cz va 48 + cz lo 97 + cz vv 4
def yv_up (K : Nat → Nat) (A B C : Nat → Int32) (n : Nat) (va lo vv va' lo' vv' : Nat → Int32) : Prop :=
  (vr_snd K A B C n (xv_V va) (yv_L K lo) (xv_V vv) → vr_snd K A B C n (xv_V va') (yv_L K lo') (xv_V vv')) ∧ yv_mu va' lo' vv' < yv_mu va lo vv
theorem or_00 : (0 : Int32) ||| 0 = 0 := by decide
theorem or_10 : (1 : Int32) ||| 0 = 1 := by decide
theorem or_01 : (0 : Int32) ||| 1 = 1 := by decide
theorem or_11 : (1 : Int32) ||| 1 = 1 := by decide
end
section
variable {K : Nat → Nat} {n : Nat}
variable {f_lines f_known f_wrong f_place f_blocks f_steps f_dropped f_on f_next f_again f_depth : Int32} {a_ops a_as a_bs a_cs a_blockOf a_opener a_around a_other a_end a_open a_varied a_loose a_variedVariable a_stands a_number a_isConst a_needed a_inputs a_values a_variables a_cells a_outs a_was a_rest a_line : Nat → Int32}
theorem yv_214 (hn : n ≤ 48) {post : Int32 → SY → Prop} {i : Nat} (hi : i < n) {is pt : Int32} (hpt : pt = 0 ∨ pt = 1) (h0 : (is = 0 ∨ a_varied i ≠ 0) → post pt (f_lines, f_known, f_wrong, f_place, f_blocks, f_steps, f_dropped, f_on, f_next, f_again, f_depth, a_ops, a_as, a_bs, a_cs, a_blockOf, a_opener, a_around, a_other, a_end, a_open, a_varied, a_loose, a_variedVariable, a_stands, a_number, a_isConst, a_needed, a_inputs, a_values, a_variables, a_cells, a_outs, a_was, a_rest, a_line)) (h1 : is ≠ 0 → a_varied i = 0 → post 1 (f_lines, f_known, f_wrong, f_place, f_blocks, f_steps, f_dropped, f_on, f_next, f_again, f_depth, a_ops, a_as, a_bs, a_cs, a_blockOf, a_opener, a_around, a_other, a_end, a_open, upd a_varied i 1, a_loose, a_variedVariable, a_stands, a_number, a_isConst, a_needed, a_inputs, a_values, a_variables, a_cells, a_outs, a_was, a_rest, a_line)) : wY_vary_214 post (nI i) is pt f_lines f_known f_wrong f_place f_blocks f_steps f_dropped f_on f_next f_again f_depth a_ops a_as a_bs a_cs a_blockOf a_opener a_around a_other a_end a_open a_varied a_loose a_variedVariable a_stands a_number a_isConst a_needed a_inputs a_values a_variables a_cells a_outs a_was a_rest a_line := by
  have ci : (nI i).toNatClampNeg = i := nI_clamp (by omega)
  have hin : vp_in (nI i) 48 := vp_in_nI (by omega) (by omega)
  have np : narrow .boolean (.int pt) = .int pt := by
    rcases hpt with e | e
    · rw [e]; exact xs_nb0
    · rw [e]; exact xs_nb1
  refine br_c (fun h => ⟨np, h0 (Or.inl h)⟩) (fun h => ⟨hin, ?_⟩)
  rw [ci]
  exact br_c (fun hz => ⟨hin, nm_r (by rw [xv_nar1]) (h1 h hz)⟩) (fun hz => ⟨np, h0 (Or.inr hz)⟩)
theorem yv_opl (hn : n ≤ 48) (hK : ∀ j, j < n → a_ops j = nI (K j) ∧ K j ≤ 25) {post : Int32 → SY → Prop} {i : Nat} {x2 : Int32} (hi : i < n) (hv : ∀ s, s < 3 → sc_us (K i) s → sc_ov K a_as a_bs a_cs s i)
    (h1 : (∃ s, s < 3 ∧ sc_us (K i) s ∧ xv_V a_varied (sc_o3 a_as a_bs a_cs s i).toNatClampNeg) → wY_vary_142 post (nI i) x2 1 f_lines f_known f_wrong f_place f_blocks f_steps f_dropped f_on f_next f_again f_depth a_ops a_as a_bs a_cs a_blockOf a_opener a_around a_other a_end a_open a_varied a_loose a_variedVariable a_stands a_number a_isConst a_needed a_inputs a_values a_variables a_cells a_outs a_was a_rest a_line) (h0 : (¬ ∃ s, s < 3 ∧ sc_us (K i) s ∧ xv_V a_varied (sc_o3 a_as a_bs a_cs s i).toNatClampNeg) → wY_vary_142 post (nI i) x2 0 f_lines f_known f_wrong f_place f_blocks f_steps f_dropped f_on f_next f_again f_depth a_ops a_as a_bs a_cs a_blockOf a_opener a_around a_other a_end a_open a_varied a_loose a_variedVariable a_stands a_number a_isConst a_needed a_inputs a_values a_variables a_cells a_outs a_was a_rest a_line) :
    ∀ (d t : Nat) (x3 : Int32), t + d = 3 → ((x3 = 0 ∧ ∀ s, s < t → sc_us (K i) s → ¬ xv_V a_varied (sc_o3 a_as a_bs a_cs s i).toNatClampNeg) ∨ (x3 = 1 ∧ ∃ s, s < t ∧ sc_us (K i) s ∧ xv_V a_varied (sc_o3 a_as a_bs a_cs s i).toNatClampNeg)) → wY_vary_92 post (nI i) x2 1 f_lines f_known f_wrong f_place f_blocks f_steps f_dropped f_on f_next f_again f_depth a_ops a_as a_bs a_cs a_blockOf a_opener a_around a_other a_end a_open a_varied a_loose a_variedVariable a_stands a_number a_isConst a_needed a_inputs a_values a_variables a_cells a_outs a_was a_rest a_line (d + 1) x3 (nI t) := by
  intro d
  induction d with
  | zero =>
    intro t x3 ht hst
    cases (show t = 3 by omega)
    refine br_t (by decide) ?_
    rcases hst with ⟨rfl, hall⟩ | ⟨rfl, hex⟩
    · refine h0 ?_
      rintro ⟨s, hs, hu, h⟩
      exact hall s hs hu h
    · exact h1 hex
  | succ d ih =>
    intro t x3 ht hst
    refine br_f (nI_ge (b := 3) (by omega) (by decide)) (br_f (by decide) ?_)
    have stay : (sc_us (K i) t → ¬ xv_V a_varied (sc_o3 a_as a_bs a_cs t i).toNatClampNeg) → wY_vary_92 post (nI i) x2 1 f_lines f_known f_wrong f_place f_blocks f_steps f_dropped f_on f_next f_again f_depth a_ops a_as a_bs a_cs a_blockOf a_opener a_around a_other a_end a_open a_varied a_loose a_variedVariable a_stands a_number a_isConst a_needed a_inputs a_values a_variables a_cells a_outs a_was a_rest a_line (d + 1) (x3 ||| 0) (nI (t + 1)) := by
      intro hno
      rcases hst with ⟨rfl, hall⟩ | ⟨rfl, s, hs, hu, h⟩
      · rw [or_00]
        refine ih (t + 1) 0 (by omega) (Or.inl ⟨rfl, fun s hs hus => ?_⟩)
        by_cases e : s = t
        · rw [e] at hus ⊢; exact hno hus
        · exact hall s (by omega) hus
      · rw [or_10]
        exact ih (t + 1) 1 (by omega) (Or.inr ⟨rfl, s, by omega, hu, h⟩)
    refine ys_uses hn hK hi (by omega) (fun hu => br_f (by decide) ?_) (fun hu => br_t rfl (nm_e (nm_r (nI_1 t) (stay (fun h => absurd h hu)))))
    refine ys_operand hn hi (by omega) ?_
    obtain ⟨x, hx, ex, _⟩ := hv t (by omega) hu
    rw [ex] at stay ⊢
    rw [nI_clamp (by omega)] at stay ⊢
    refine ⟨vp_in_nI (by omega) (by omega), br_c (fun hz => nm_e (nm_r (nI_1 t) (stay (fun _ h => h hz)))) (fun hz => nm_r (e' := 1) ?_ (nm_r (nI_1 t) (ih (t + 1) 1 (by omega) (Or.inr ⟨rfl, t, by omega, hu, ?_⟩))))⟩
    · rcases hst with ⟨rfl, _⟩ | ⟨rfl, _⟩
      · exact or_01
      · exact or_11
    · rw [ex, nI_clamp (by omega)]; exact hz
theorem yv_vary (hn : n ≤ 48) (hK : ∀ j, j < n → a_ops j = nI (K j) ∧ K j ≤ 25) (hg : sc_good K n) (h4 : ∀ j, j < n → (K j = 1 ∨ K j = 11 ∨ K j = 16 ∨ K j = 17 ∨ K j = 18) → ∃ a, a < 4 ∧ a_as j = nI a) (hok : ∀ j, j < n → ∀ s, s < 3 → sc_us (K j) s → sc_ov K a_as a_bs a_cs s j) (hB : ∀ j, j < n → a_blockOf j = nI (sc_cnt K (sc_hd (sc_lf K j)))) {post : Int32 → SY → Prop} {i : Nat} (hi : i < n)
    (h0 : vr_s1 K a_as a_bs a_cs (xv_V a_varied) (yv_L K a_loose) (xv_V a_variedVariable) i → post 0 (f_lines, f_known, f_wrong, f_place, f_blocks, f_steps, f_dropped, f_on, f_next, f_again, f_depth, a_ops, a_as, a_bs, a_cs, a_blockOf, a_opener, a_around, a_other, a_end, a_open, a_varied, a_loose, a_variedVariable, a_stands, a_number, a_isConst, a_needed, a_inputs, a_values, a_variables, a_cells, a_outs, a_was, a_rest, a_line))
    (h1 : ∀ va vv, yv_up K a_as a_bs a_cs n a_varied a_loose a_variedVariable va a_loose vv → post 1 (f_lines, f_known, f_wrong, f_place, f_blocks, f_steps, f_dropped, f_on, f_next, f_again, f_depth, a_ops, a_as, a_bs, a_cs, a_blockOf, a_opener, a_around, a_other, a_end, a_open, va, a_loose, vv, a_stands, a_number, a_isConst, a_needed, a_inputs, a_values, a_variables, a_cells, a_outs, a_was, a_rest, a_line)) : wpY_vary post (f_lines, f_known, f_wrong, f_place, f_blocks, f_steps, f_dropped, f_on, f_next, f_again, f_depth, a_ops, a_as, a_bs, a_cs, a_blockOf, a_opener, a_around, a_other, a_end, a_open, a_varied, a_loose, a_variedVariable, a_stands, a_number, a_isConst, a_needed, a_inputs, a_values, a_variables, a_cells, a_outs, a_was, a_rest, a_line) (nI i) := by
  have ci : (nI i).toNatClampNeg = i := nI_clamp (by omega)
  have hin : vp_in (nI i) 48 := vp_in_nI (by omega) (by omega)
  have ki := hK i hi
  have gi : sc_good K (i + 1) := sc_good_le hg (by omega)
  -- a value
  have val : K i ≤ 16 → ∀ is : Int32, (is = 1 ∧ vr_need K a_as a_bs a_cs (xv_V a_varied) (xv_V a_variedVariable) i ∨ is = 0 ∧ ¬ vr_need K a_as a_bs a_cs (xv_V a_varied) (xv_V a_variedVariable) i) → wY_vary_142 post (nI i) (nI (K i)) is f_lines f_known f_wrong f_place f_blocks f_steps f_dropped f_on f_next f_again f_depth a_ops a_as a_bs a_cs a_blockOf a_opener a_around a_other a_end a_open a_varied a_loose a_variedVariable a_stands a_number a_isConst a_needed a_inputs a_values a_variables a_cells a_outs a_was a_rest a_line := by
    intro h16 is his
    refine pk_eq (K i) 17 (fun h => absurd h (by omega)) (fun _ => br_t rfl ?_)
    refine yv_214 hn hi (Or.inl rfl) (fun h => h0 ⟨fun _ hne => ?_, fun h => absurd h (by omega)⟩) (fun his' hz => h1 _ _ ⟨?_, ?_⟩)
    · rcases his with ⟨e, _⟩ | ⟨_, hno⟩
      · rcases h with h | h
        · rw [e] at h; exact absurd h (by decide)
        · exact h
      · exact absurd hne hno
    · rcases his with ⟨_, hne⟩ | ⟨e, _⟩
      · exact vr_sndV hn hi h16 (hok i hi) (fun h => h4 i hi (by omega)) hne (fun j h => xv_mark_ne h)
      · exact absurd e his'
    · have := cz_lt (x := 1) hz (by decide) 48 (by omega)
      unfold yv_mu; omega
  -- operands are looked at
  have opl : (3 ≤ K i ∧ K i ≤ 10 ∨ K i = 12 ∨ K i = 13) → ∃ m, wY_vary_92 post (nI i) (nI (K i)) 1 f_lines f_known f_wrong f_place f_blocks f_steps f_dropped f_on f_next f_again f_depth a_ops a_as a_bs a_cs a_blockOf a_opener a_around a_other a_end a_open a_varied a_loose a_variedVariable a_stands a_number a_isConst a_needed a_inputs a_values a_variables a_cells a_outs a_was a_rest a_line m 0 0 := by
    intro hk
    refine ⟨4, yv_opl (K := K) (n := n) hn hK hi (hok i hi) (fun h => val (by omega) 1 (Or.inl ⟨rfl, Or.inr (Or.inr (Or.inr (Or.inr ⟨hk, h⟩)))⟩)) (fun h => val (by omega) 0 (Or.inr ⟨rfl, ?_⟩)) 3 0 0 rfl (Or.inl ⟨rfl, fun s hs => by omega⟩)⟩
    rintro (h' | h' | h' | h' | ⟨_, h'⟩)
    · omega
    · omega
    · omega
    · omega
    · exact h h'
  have one : ¬ (3 ≤ K i ∧ K i ≤ 10 ∨ K i = 12 ∨ K i = 13) → ∀ is : Int32, wY_vary_142 post (nI i) (nI (K i)) is f_lines f_known f_wrong f_place f_blocks f_steps f_dropped f_on f_next f_again f_depth a_ops a_as a_bs a_cs a_blockOf a_opener a_around a_other a_end a_open a_varied a_loose a_variedVariable a_stands a_number a_isConst a_needed a_inputs a_values a_variables a_cells a_outs a_was a_rest a_line → wY_vary_58 post (nI i) (nI (K i)) is f_lines f_known f_wrong f_place f_blocks f_steps f_dropped f_on f_next f_again f_depth a_ops a_as a_bs a_cs a_blockOf a_opener a_around a_other a_end a_open a_varied a_loose a_variedVariable a_stands a_number a_isConst a_needed a_inputs a_values a_variables a_cells a_outs a_was a_rest a_line := by
    intro hk is h142
    have t92 : wY_vary_92 post (nI i) (nI (K i)) 0 f_lines f_known f_wrong f_place f_blocks f_steps f_dropped f_on f_next f_again f_depth a_ops a_as a_bs a_cs a_blockOf a_opener a_around a_other a_end a_open a_varied a_loose a_variedVariable a_stands a_number a_isConst a_needed a_inputs a_values a_variables a_cells a_outs a_was a_rest a_line 1 is 0 := br_f (by decide) (br_t rfl h142)
    have t70 : wY_vary_70 post (nI i) (nI (K i)) is f_lines f_known f_wrong f_place f_blocks f_steps f_dropped f_on f_next f_again f_depth a_ops a_as a_bs a_cs a_blockOf a_opener a_around a_other a_end a_open a_varied a_loose a_variedVariable a_stands a_number a_isConst a_needed a_inputs a_values a_variables a_cells a_outs a_was a_rest a_line := pk_eq (K i) 12 (fun h => absurd h (by omega)) (fun _ => pk_eq (K i) 13 (fun h => absurd h (by omega)) (fun _ => ⟨1, t92⟩))
    exact pk_lt (K i) 3 (fun _ => t70) (fun h3 => pk_le (K i) 10 (fun h => absurd h (by omega)) (fun _ => t70))
  have two : (3 ≤ K i ∧ K i ≤ 10 ∨ K i = 12 ∨ K i = 13) → wY_vary_58 post (nI i) (nI (K i)) 0 f_lines f_known f_wrong f_place f_blocks f_steps f_dropped f_on f_next f_again f_depth a_ops a_as a_bs a_cs a_blockOf a_opener a_around a_other a_end a_open a_varied a_loose a_variedVariable a_stands a_number a_isConst a_needed a_inputs a_values a_variables a_cells a_outs a_was a_rest a_line := by
    intro hk
    have t70 : (K i = 12 ∨ K i = 13) → wY_vary_70 post (nI i) (nI (K i)) 0 f_lines f_known f_wrong f_place f_blocks f_steps f_dropped f_on f_next f_again f_depth a_ops a_as a_bs a_cs a_blockOf a_opener a_around a_other a_end a_open a_varied a_loose a_variedVariable a_stands a_number a_isConst a_needed a_inputs a_values a_variables a_cells a_outs a_was a_rest a_line := fun hk' => pk_eq (K i) 12 (fun h => opl hk) (fun _ => pk_eq (K i) 13 (fun h => opl hk) (fun h => absurd hk' (by omega)))
    exact pk_lt (K i) 3 (fun _ => t70 (by omega)) (fun h3 => pk_le (K i) 10 (fun h => opl hk) (fun _ => t70 (by omega)))
  refine ⟨hin, nm_c ci ki.1 ?_⟩
  have t22 : ¬ (K i = 1 ∧ 1 < a_as i) → wY_vary_22 post (nI i) (nI (K i)) f_lines f_known f_wrong f_place f_blocks f_steps f_dropped f_on f_next f_again f_depth a_ops a_as a_bs a_cs a_blockOf a_opener a_around a_other a_end a_open a_varied a_loose a_variedVariable a_stands a_number a_isConst a_needed a_inputs a_values a_variables a_cells a_outs a_was a_rest a_line := by
    intro n1
    refine pk_eq (K i) 2 (fun h => one (by omega) 1 (val (by omega) 1 (Or.inl ⟨rfl, Or.inr (Or.inl h)⟩))) (fun n2 => pk_eq (K i) 16 (fun h => one (by omega) 1 (val (by omega) 1 (Or.inl ⟨rfl, Or.inr (Or.inr (Or.inl h))⟩))) (fun n16 => pk_eq (K i) 11 (fun h => ⟨hin, ?_⟩) (fun n11 => ?_)))
    · obtain ⟨a, ha, ea⟩ := h4 i hi (by omega)
      rw [ci, ea, nI_clamp (by omega)]
      refine ⟨vp_in_nI ha (by omega), br_c (fun hz => one (by omega) 0 (val (by omega) 0 (Or.inr ⟨rfl, ?_⟩))) (fun hz => one (by omega) 1 (val (by omega) 1 (Or.inl ⟨rfl, Or.inr (Or.inr (Or.inr (Or.inl ⟨h, ?_⟩)))⟩)))⟩
      · rintro (h' | h' | h' | ⟨_, h'⟩ | h')
        · omega
        · omega
        · omega
        · rw [ea, nI_clamp (by omega)] at h'; exact h' hz
        · omega
      · rw [ea, nI_clamp (by omega)]; exact hz
    · by_cases hk : (3 ≤ K i ∧ K i ≤ 10 ∨ K i = 12 ∨ K i = 13)
      · exact two hk
      · by_cases h16 : K i ≤ 16
        · refine one hk 0 (val h16 0 (Or.inr ⟨rfl, ?_⟩))
          rintro (h' | h' | h' | h' | h')
          · exact n1 h'
          · omega
          · omega
          · omega
          · exact hk h'.1
        · refine one hk 0 ?_
          have t194 : vr_s1 K a_as a_bs a_cs (xv_V a_varied) (yv_L K a_loose) (xv_V a_variedVariable) i → wY_vary_194 post (nI i) 0 f_lines f_known f_wrong f_place f_blocks f_steps f_dropped f_on f_next f_again f_depth a_ops a_as a_bs a_cs a_blockOf a_opener a_around a_other a_end a_open a_varied a_loose a_variedVariable a_stands a_number a_isConst a_needed a_inputs a_values a_variables a_cells a_outs a_was a_rest a_line := fun h => br_t rfl (yv_214 hn hi (Or.inl rfl) (fun _ => h0 h) (fun h' => absurd rfl h'))
          by_cases h17 : K i = 17
          · obtain ⟨a, ha, ea⟩ := h4 i hi (by omega)
            obtain ⟨x, hx, ex, kx⟩ := hok i hi 1 (by omega) (by unfold sc_us; omega)
            have ex' : a_bs i = nI x := ex
            have ina : vp_in (nI a) 4 := vp_in_nI ha (by omega)
            have ca : (nI a).toNatClampNeg = a := nI_clamp (by omega)
            have hle := sc_hdl_le gi
            have cle := sc_cnt_le (K := K) (sc_hd (sc_lf K i))
            have t176 : (xv_V a_varied x ∨ yv_L K a_loose (sc_hd (sc_lf K i))) → wY_vary_176 post (nI i) 0 f_lines f_known f_wrong f_place f_blocks f_steps f_dropped f_on f_next f_again f_depth a_ops a_as a_bs a_cs a_blockOf a_opener a_around a_other a_end a_open a_varied a_loose a_variedVariable a_stands a_number a_isConst a_needed a_inputs a_values a_variables a_cells a_outs a_was a_rest a_line := by
              intro hor
              refine ⟨hin, ?_⟩
              rw [ci, ea, ca]
              refine ⟨ina, br_c (fun hz => br_f (by decide) ⟨hin, ?_⟩) (fun hz => t194 ⟨fun h => absurd h h16, fun _ _ => by rw [ea, ca]; exact hz⟩)⟩
              rw [ci, ea, ca]
              refine ⟨ina, nm_r (by rw [xv_nar1]) (yv_214 hn hi (Or.inr rfl) (fun _ => h1 _ _ ⟨vr_sndW hn hi hg h17 ha ea ⟨x, hx, ex, kx⟩ (by rw [ex', nI_clamp (by omega)]; exact hor) (fun v h => xv_mark_ne h), ?_⟩) (fun h' => absurd rfl h'))⟩
              have := cz_lt (x := 1) hz (by decide) 4 ha
              unfold yv_mu; omega
            refine pk_eq (K i) 17 (fun _ => ⟨hin, ?_⟩) (fun h => absurd h17 h)
            rw [ci, ex', nI_clamp (by omega), hB i hi, nI_clamp (by omega)]
            refine ⟨vp_in_nI (by omega) (by omega), br_c (fun hz => ⟨vp_in_nI (by omega) (by omega), vp_in_nI (by omega) (by omega), br_c (fun hz' => t194 ⟨fun h => absurd h h16, fun _ h => ?_⟩) (fun hz' => t176 (Or.inr hz'))⟩) (fun hz => t176 (Or.inl hz))⟩
            rcases h with h | h
            · rw [ex', nI_clamp (by omega)] at h; exact absurd hz h
            · exact absurd hz' h
          · exact pk_eq (K i) 17 (fun h => absurd h h17) (fun _ => t194 ⟨fun h => absurd h h16, fun h => absurd h h17⟩)
  refine pk_eq (K i) 1 (fun h => ⟨hin, ?_⟩) (fun h => t22 (fun h' => h h'.1))
  rw [ci]
  exact br_c (fun hgt => one (by omega) 1 (val (by omega) 1 (Or.inl ⟨rfl, Or.inl ⟨h, hgt⟩⟩))) (fun hgt => t22 (fun h' => hgt h'.2))
end
end
section
section
variable {K : Nat → Nat} {n : Nat}
variable {f_lines f_known f_wrong f_place f_blocks f_steps f_dropped f_on f_next f_again f_depth : Int32} {a_ops a_as a_bs a_cs a_blockOf a_opener a_around a_other a_end a_open a_varied a_loose a_variedVariable a_stands a_number a_isConst a_needed a_inputs a_values a_variables a_cells a_outs a_was a_rest a_line : Nat → Int32}
/-- what all of Y's rounds know of the program -/
def yv_P (K : Nat → Nat) (n : Nat) (ops A B C blockOf opener around : Nat → Int32) : Prop :=
  n ≤ 48 ∧ (∀ j, j < n → ops j = nI (K j) ∧ K j ≤ 25) ∧ sc_good K n ∧ (∀ j, j < n → (K j = 1 ∨ K j = 11 ∨ K j = 16 ∨ K j = 17 ∨ K j = 18) → ∃ a, a < 4 ∧ A j = nI a) ∧
  (∀ j, j < n → ∀ s, s < 3 → sc_us (K j) s → sc_ov K A B C s j) ∧ (∀ j, j < n → blockOf j = nI (sc_cnt K (sc_hd (sc_lf K j)))) ∧
  (∀ j, j < n → (K j = 19 ∨ K j = 20 ∨ K j = 22) → around (sc_cnt K (j + 1)) = nI (sc_cnt K (sc_hd (sc_lf K j))) ∧ opener (sc_cnt K (j + 1)) = nI (sc_mt K j))
/-- the IF or LOOP of an opening line -/
theorem sc_mtK {j : Nat} (hf : sc_fits K j) (ho : K j = 19 ∨ K j = 20 ∨ K j = 22) : (K j = 22 → K (sc_mt K j) = 22) ∧ (K j ≠ 22 → K (sc_mt K j) = 19) := by
  by_cases h : K j = 20
  · obtain ⟨m, r, e, km⟩ := hf.2.1 h
    have : sc_mt K j = m := by rw [sc_mt_cl (by omega), e]; rfl
    rw [this]
    exact ⟨fun h' => by omega, fun _ => km⟩
  · have : sc_mt K j = j := sc_mt_n (by omega)
    rw [this]
    exact ⟨fun h' => h', fun h' => by omega⟩
theorem yv_split (hP : yv_P K n a_ops a_as a_bs a_cs a_blockOf a_opener a_around) {post : Int32 → Prop} {j : Nat} (hj : j < n) (ho : K j = 19 ∨ K j = 20 ∨ K j = 22)
    (h1 : K j ≠ 22 → xv_V a_varied (a_as (sc_mt K j)).toNatClampNeg → post 1) (h0 : (K j ≠ 22 → ¬ xv_V a_varied (a_as (sc_mt K j)).toNatClampNeg) → post 0) : wpY_isSplit post (f_lines, f_known, f_wrong, f_place, f_blocks, f_steps, f_dropped, f_on, f_next, f_again, f_depth, a_ops, a_as, a_bs, a_cs, a_blockOf, a_opener, a_around, a_other, a_end, a_open, a_varied, a_loose, a_variedVariable, a_stands, a_number, a_isConst, a_needed, a_inputs, a_values, a_variables, a_cells, a_outs, a_was, a_rest, a_line) (nI (sc_cnt K (j + 1))) := by
  obtain ⟨hn, hK, hg, h4, hok, hB, hA⟩ := hP
  have cle := sc_cnt_le (K := K) (j + 1)
  have mle := sc_mt_le (sc_good_le hg (show j + 1 ≤ n by omega))
  have mk := sc_mtK (hg j hj) ho
  have ib : vp_in (nI (sc_cnt K (j + 1))) 97 := vp_in_nI (by omega) (by omega)
  have k25 := (hK (sc_mt K j) (by omega)).2
  have im : vp_in (nI (sc_mt K j)) 48 := vp_in_nI (by omega) (by omega)
  have cm : (nI (sc_mt K j)).toNatClampNeg = sc_mt K j := nI_clamp (by omega)
  refine ⟨ib, ?_⟩
  rw [nI_clamp (by omega), (hA j hj ho).2, cm]
  refine br_f (nI_pos (by omega)) ⟨ib, im, ?_⟩
  rw [(hK (sc_mt K j) (by omega)).1]
  refine pk_eq (K (sc_mt K j)) 19 (fun h19 => ⟨ib, im, ?_⟩) (fun h19 => h0 (fun h => absurd (mk.2 h) h19))
  obtain ⟨x, hx, ex, _⟩ := hok (sc_mt K j) (by omega) 0 (by omega) (by unfold sc_us; omega)
  have ex' : a_as (sc_mt K j) = nI x := ex
  rw [ex', nI_clamp (by omega)] at h1 h0 ⊢
  exact ⟨vp_in_nI (by omega) (by omega), br_c (fun hz => h0 (fun _ h => h hz)) (fun hz => h1 (fun h => by have := mk.1 h; omega) hz)⟩
theorem yv_leaves10 (hP : yv_P K n a_ops a_as a_bs a_cs a_blockOf a_opener a_around) {post : Int32 → Prop} {b0 : Nat} (hb0 : sc_op (K (b0 - 1))) (h1b : 1 ≤ b0) (hbn : b0 ≤ n) :
    ∀ (l : List (Nat × Nat)) (j : Nat) (p : Prop) (x3 : Int32), j ≤ n → sc_fr K j = l → (x3 = 1 ∧ p ∨ x3 = 0 ∧ ¬ p) → (vr_brk K a_as (xv_V a_varied) p l b0 → post 1) → (¬ vr_brk K a_as (xv_V a_varied) p l b0 → post 0) → ∀ d, l.length < d → wY_leaves_10 post (nI (sc_cnt K b0)) f_lines f_known f_wrong f_place f_blocks f_steps f_dropped f_on f_next f_again f_depth a_ops a_as a_bs a_cs a_blockOf a_opener a_around a_other a_end a_open a_varied a_loose a_variedVariable a_stands a_number a_isConst a_needed a_inputs a_values a_variables a_cells a_outs a_was a_rest a_line d x3 (nI (sc_cnt K (sc_hd l))) := by
  have hP' := hP
  obtain ⟨hn, hK, hg, h4, hok, hB, hA⟩ := hP'
  have c0 := sc_cnt_le (K := K) b0
  intro l
  induction l with
  | nil =>
    intro j p x3 hj e hx h1 h0 d hd
    obtain ⟨d, rfl⟩ : ∃ e, d = e + 1 := ⟨d - 1, by simp at hd; omega⟩
    have : 0 < sc_cnt K b0 := by have := sc_cnt_lt (K := K) (b := 0) (c := b0) (by omega) hb0; omega
    rw [sc_hd_nil, show sc_cnt K 0 = 0 from rfl]
    exact br_t (by decide) (pk_eq 0 (sc_cnt K b0) (fun h => absurd h (by omega)) (fun _ => h0 (fun h => h)))
  | cons f r ih =>
    obtain ⟨b, m⟩ := f
    intro j p x3 hj e hx h1 h0 d hd
    have T := sc_top j (sc_good_le hg hj) _ _ _ e
    simp only [List.length_cons] at hd
    obtain ⟨d, rfl⟩ : ∃ e, d = e + 1 := ⟨d - 1, by omega⟩
    have tb : b ≤ n := by have := T.2.1; omega
    have tb1 := T.1
    have tm := T.2.2.1
    have hop : sc_op (K (b - 1)) := T.2.2.2.2.2.2.2.1
    have cb := sc_cnt_le (K := K) b
    have cpos : 0 < sc_cnt K b := by have := sc_cnt_lt (K := K) (b := 0) (c := b) (by omega) hop; omega
    have eb : b - 1 + 1 = b := by omega
    have hAb := hA (b - 1) (by omega) hop
    rw [eb, T.2.2.2.2.1, T.2.2.2.2.2.2.1] at hAb
    have ib : vp_in (nI (sc_cnt K b)) 97 := vp_in_nI (by omega) (by omega)
    have cc : (nI (sc_cnt K b)).toNatClampNeg = sc_cnt K b := nI_clamp (by omega)
    have cm : (nI m).toNatClampNeg = m := nI_clamp (by omega)
    have k25 := (hK m (by omega)).2
    rw [sc_hd_cons]
    refine br_f (nI_nle cpos (by omega)) ⟨ib, ?_⟩
    rw [cc, hAb.2, cm, (hK m (by omega)).1]
    refine ⟨vp_in_nI (by omega) (by omega), pk_eq (K m) 22 (fun h22 => ?_) (fun h22 => ?_)⟩
    · refine pk_eq (sc_cnt K b) (sc_cnt K b0) (fun h => ?_) (fun h => h0 ?_)
      · have ebb := sc_cnt_inj (Or.inr hop) (Or.inr hb0) h
        rcases hx with ⟨e1, hp⟩ | ⟨e1, hp⟩
        · rw [e1]; exact br_f (by decide) (h1 (Or.inl ⟨h22, hp, ebb.symm⟩))
        · rw [e1]
          refine br_t rfl (h0 ?_)
          rintro (⟨_, h', _⟩ | ⟨h', _⟩)
          · exact hp h'
          · exact h' h22
      · rintro (⟨_, _, h'⟩ | ⟨h', _⟩)
        · have h'' : b0 = b := h'
          rw [h''] at h; exact h rfl
        · exact h' h22
    · have kb : K (b - 1) ≠ 22 := by
        rcases T.2.2.2.1 with ⟨h, _⟩ | ⟨h, _⟩
        · rw [h, Nat.add_sub_cancel]; exact h22
        · omega
      have go : ∀ q : Int32, (q = 1 ∧ xv_V a_varied (a_as m).toNatClampNeg ∨ q = 0 ∧ ¬ xv_V a_varied (a_as m).toNatClampNeg) → ∀ x3' : Int32, x3' = x3 ||| q → (vp_in (nI (sc_cnt K b)) 97 ∧ ∀ x4 : Int32, x4 = a_around (sc_cnt K b) → wY_leaves_10 post (nI (sc_cnt K b0)) f_lines f_known f_wrong f_place f_blocks f_steps f_dropped f_on f_next f_again f_depth a_ops a_as a_bs a_cs a_blockOf a_opener a_around a_other a_end a_open a_varied a_loose a_variedVariable a_stands a_number a_isConst a_needed a_inputs a_values a_variables a_cells a_outs a_was a_rest a_line d x3' x4) := by
        intro q hq x3' ex
        refine ⟨ib, nm_r hAb.1 (ih m (p ∨ xv_V a_varied (a_as m).toNatClampNeg) x3' (by omega) T.2.2.2.2.2.1 ?_ (fun h => h1 (Or.inr ⟨h22, h⟩)) (fun h => h0 ?_) d (by omega))⟩
        · rcases hx with ⟨e1, hp⟩ | ⟨e1, hp⟩ <;> rcases hq with ⟨e2, hv⟩ | ⟨e2, hv⟩
          · exact Or.inl ⟨by rw [ex, e1, e2]; exact or_11, Or.inl hp⟩
          · exact Or.inl ⟨by rw [ex, e1, e2]; exact or_10, Or.inl hp⟩
          · exact Or.inl ⟨by rw [ex, e1, e2]; exact or_01, Or.inr hv⟩
          · exact Or.inr ⟨by rw [ex, e1, e2]; exact or_00, fun h => h.elim hp hv⟩
        · rintro (⟨h', _⟩ | ⟨_, h'⟩)
          · exact h22 h'
          · exact h h'
      have sp : wpY_isSplit (fun q => ∀ x3' : Int32, x3' = x3 ||| q → (vp_in (nI (sc_cnt K b)) 97 ∧ ∀ x4 : Int32, x4 = a_around (sc_cnt K b) → wY_leaves_10 post (nI (sc_cnt K b0)) f_lines f_known f_wrong f_place f_blocks f_steps f_dropped f_on f_next f_again f_depth a_ops a_as a_bs a_cs a_blockOf a_opener a_around a_other a_end a_open a_varied a_loose a_variedVariable a_stands a_number a_isConst a_needed a_inputs a_values a_variables a_cells a_outs a_was a_rest a_line d x3' x4)) (f_lines, f_known, f_wrong, f_place, f_blocks, f_steps, f_dropped, f_on, f_next, f_again, f_depth, a_ops, a_as, a_bs, a_cs, a_blockOf, a_opener, a_around, a_other, a_end, a_open, a_varied, a_loose, a_variedVariable, a_stands, a_number, a_isConst, a_needed, a_inputs, a_values, a_variables, a_cells, a_outs, a_was, a_rest, a_line) (nI (sc_cnt K (b - 1 + 1))) := yv_split (K := K) (n := n) hP (j := b - 1) (by omega) hop (fun _ hv => go 1 (Or.inl ⟨rfl, by rw [T.2.2.2.2.2.2.1] at hv; exact hv⟩)) (fun hv => go 0 (Or.inr ⟨rfl, by have := hv kb; rw [T.2.2.2.2.2.2.1] at this; exact this⟩))
      rw [eb] at sp
      exact sp
theorem yv_leaves (hP : yv_P K n a_ops a_as a_bs a_cs a_blockOf a_opener a_around) {post : Int32 → Prop} {i j : Nat} (hi : i < n) (hj : j < n) (ho : K j = 19 ∨ K j = 20 ∨ K j = 22) (h24 : K i = 24) (h1 : vr_brk K a_as (xv_V a_varied) False (sc_lf K i) (j + 1) → post 1) (h0 : ¬ vr_brk K a_as (xv_V a_varied) False (sc_lf K i) (j + 1) → post 0) : wpY_leaves post (f_lines, f_known, f_wrong, f_place, f_blocks, f_steps, f_dropped, f_on, f_next, f_again, f_depth, a_ops, a_as, a_bs, a_cs, a_blockOf, a_opener, a_around, a_other, a_end, a_open, a_varied, a_loose, a_variedVariable, a_stands, a_number, a_isConst, a_needed, a_inputs, a_values, a_variables, a_cells, a_outs, a_was, a_rest, a_line) (nI i) (nI (sc_cnt K (j + 1))) := by
  have hP' := hP
  obtain ⟨hn, hK, hg, h4, hok, hB, hA⟩ := hP'
  have el : sc_lf K i = sc_fr K i := sc_lf_n (by omega)
  have len := sc_len i (sc_good_le hg (by omega))
  refine ⟨vp_in_nI (by omega) (by omega), nm_c (nI_clamp (by omega)) (hB i hi) ⟨5, ?_⟩⟩
  rw [el] at h1 h0 ⊢
  exact yv_leaves10 (K := K) (n := n) hP (b0 := j + 1) (by rw [Nat.add_sub_cancel]; exact ho) (by omega) (by omega) (sc_fr K i) i False 0 (by omega) rfl (Or.inr ⟨rfl, fun h => h⟩) h1 h0 5 (by omega)
/-- a LOOP's block from outside -/
theorem vr_brk_loop {A : Nat → Int32} {V : Nat → Prop} {i j : Nat} (hg : sc_good K n) (hi : i < n) (hk : K i = 24) (h : vr_brk K A V False (sc_lf K i) (j + 1)) : K j = 22 := by
  have el : sc_lf K i = sc_fr K i := sc_lf_n (by omega)
  rw [el] at h
  obtain ⟨m, hm, km⟩ := vr_brk_mem _ _ _ h
  obtain ⟨r, T⟩ := sc_memT (sc_good_le hg (show i ≤ n by omega)) hm
  rcases T.2.2.2.1 with ⟨h', _⟩ | ⟨_, h', _⟩
  · have : j = m := by omega
    rw [this]; exact km
  · omega
theorem up_same {f : Nat → Int32} {k : Nat} {x : Int32} (h : f k = x) : upd f k x = f := by
  funext j; simp only [upd]; split
  · rename_i e; rw [e, h]
  · rfl
theorem yv_loosen41 (hP : yv_P K n a_ops a_as a_bs a_cs a_blockOf a_opener a_around) {post : Int32 → SY → Prop} {j : Nat} (hj : j < n) (ho : K j = 19 ∨ K j = 20 ∨ K j = 22) (hz : a_loose (sc_cnt K (j + 1)) = 0) {F : Prop}
    (h0 : ¬ F → (∀ i, i < n → K i = 24 → ¬ vr_brk K a_as (xv_V a_varied) False (sc_lf K i) (j + 1)) → post 0 (nI n, f_known, f_wrong, f_place, f_blocks, f_steps, f_dropped, f_on, f_next, f_again, f_depth, a_ops, a_as, a_bs, a_cs, a_blockOf, a_opener, a_around, a_other, a_end, a_open, a_varied, a_loose, a_variedVariable, a_stands, a_number, a_isConst, a_needed, a_inputs, a_values, a_variables, a_cells, a_outs, a_was, a_rest, a_line))
    (h1 : (F ∨ ∃ i, i < n ∧ K i = 24 ∧ vr_brk K a_as (xv_V a_varied) False (sc_lf K i) (j + 1)) → post 1 (nI n, f_known, f_wrong, f_place, f_blocks, f_steps, f_dropped, f_on, f_next, f_again, f_depth, a_ops, a_as, a_bs, a_cs, a_blockOf, a_opener, a_around, a_other, a_end, a_open, a_varied, upd a_loose (sc_cnt K (j + 1)) 1, a_variedVariable, a_stands, a_number, a_isConst, a_needed, a_inputs, a_values, a_variables, a_cells, a_outs, a_was, a_rest, a_line)) :
    ∀ (d i : Nat) (x2 : Int32), i + d = n → ((x2 = 0 ∧ ¬ F ∧ ∀ q, q < i → K q = 24 → ¬ vr_brk K a_as (xv_V a_varied) False (sc_lf K q) (j + 1)) ∨ (x2 = 1 ∧ (F ∨ ∃ q, q < n ∧ K q = 24 ∧ vr_brk K a_as (xv_V a_varied) False (sc_lf K q) (j + 1)))) → wY_loosen_41 post (nI (sc_cnt K (j + 1))) (nI n) f_known f_wrong f_place f_blocks f_steps f_dropped f_on f_next f_again f_depth a_ops a_as a_bs a_cs a_blockOf a_opener a_around a_other a_end a_open a_varied a_loose a_variedVariable a_stands a_number a_isConst a_needed a_inputs a_values a_variables a_cells a_outs a_was a_rest a_line (d + 1) x2 (nI i) := by
  have hP' := hP
  obtain ⟨hn, hK, hg, h4, hok, hB, hA⟩ := hP'
  have cle := sc_cnt_le (K := K) (j + 1)
  have ib : vp_in (nI (sc_cnt K (j + 1))) 97 := vp_in_nI (by omega) (by omega)
  have cc : (nI (sc_cnt K (j + 1))).toNatClampNeg = sc_cnt K (j + 1) := nI_clamp (by omega)
  have mle := sc_mt_le (sc_good_le hg (show j + 1 ≤ n by omega))
  have mk := sc_mtK (hg j hj) ho
  have cm : (nI (sc_mt K j)).toNatClampNeg = sc_mt K j := nI_clamp (by omega)
  have k25m := (hK (sc_mt K j) (by omega)).2
  have fin : ∀ x2 : Int32, ((x2 = 0 ∧ ¬ F ∧ ∀ q, q < n → K q = 24 → ¬ vr_brk K a_as (xv_V a_varied) False (sc_lf K q) (j + 1)) ∨ (x2 = 1 ∧ (F ∨ ∃ q, q < n ∧ K q = 24 ∧ vr_brk K a_as (xv_V a_varied) False (sc_lf K q) (j + 1)))) → (vp_in (nI (sc_cnt K (j + 1))) 97 ∧ ∀ lo : Nat → Int32, lo = upd a_loose (nI (sc_cnt K (j + 1))).toNatClampNeg (vp_nar .boolean x2) → (narrow .boolean (.int x2) = .int x2 ∧ post x2 (nI n, f_known, f_wrong, f_place, f_blocks, f_steps, f_dropped, f_on, f_next, f_again, f_depth, a_ops, a_as, a_bs, a_cs, a_blockOf, a_opener, a_around, a_other, a_end, a_open, a_varied, lo, a_variedVariable, a_stands, a_number, a_isConst, a_needed, a_inputs, a_values, a_variables, a_cells, a_outs, a_was, a_rest, a_line))) := by
    intro x2 h
    refine ⟨ib, ?_⟩
    rw [cc]
    rcases h with ⟨e, hF, hall⟩ | ⟨e, h⟩
    · rw [e]
      refine nm_r (e' := a_loose) (by rw [xv_nar0]; exact up_same hz) ⟨xs_nb0, h0 hF hall⟩
    · rw [e]
      exact nm_r (by rw [xv_nar1]) ⟨xs_nb1, h1 h⟩
  intro d
  induction d with
  | zero =>
    intro i x2 hi hst
    cases (show i = n by omega)
    exact br_t (nI_le (Nat.le_refl _) (by omega)) (fin x2 hst)
  | succ d ih =>
    intro i x2 hi hst
    have ci : (nI i).toNatClampNeg = i := nI_clamp (by omega)
    have k25 := (hK i (by omega)).2
    refine br_f (nI_ge (by omega) (by omega)) ⟨ib, ?_⟩
    rw [cc, (hA j hj ho).2, cm, (hK (sc_mt K j) (by omega)).1]
    refine ⟨vp_in_nI (by omega) (by omega), pk_eq (K (sc_mt K j)) 22 (fun h22 => ⟨vp_in_nI (by omega) (by omega), ?_⟩) (fun h22 => ?_)⟩
    · have keep : (K i = 24 → ¬ vr_brk K a_as (xv_V a_varied) False (sc_lf K i) (j + 1)) → wY_loosen_41 post (nI (sc_cnt K (j + 1))) (nI n) f_known f_wrong f_place f_blocks f_steps f_dropped f_on f_next f_again f_depth a_ops a_as a_bs a_cs a_blockOf a_opener a_around a_other a_end a_open a_varied a_loose a_variedVariable a_stands a_number a_isConst a_needed a_inputs a_values a_variables a_cells a_outs a_was a_rest a_line (d + 1) (x2 ||| 0) (nI (i + 1)) := by
        intro hno
        rcases hst with ⟨e, hF, hall⟩ | ⟨e, h⟩
        · rw [e, or_00]
          refine ih (i + 1) 0 (by omega) (Or.inl ⟨rfl, hF, fun q hq hk => ?_⟩)
          by_cases e' : q = i
          · rw [e'] at hk ⊢; exact hno hk
          · exact hall q (by omega) hk
        · rw [e, or_10]; exact ih (i + 1) 1 (by omega) (Or.inr ⟨rfl, h⟩)
      rw [ci, (hK i (by omega)).1]
      refine pk_eq (K i) 24 (fun h24 => ?_) (fun h24 => nm_e (nm_r (nI_1 i) (keep (fun h => absurd h h24))))
      refine yv_leaves (K := K) (n := n) hP (by omega) hj ho h24 (fun hbr => br_f (by decide) (nm_r (e' := 1) ?_ (nm_r (nI_1 i) (ih (i + 1) 1 (by omega) (Or.inr ⟨rfl, Or.inr ⟨i, by omega, h24, hbr⟩⟩))))) (fun hbr => br_t rfl (nm_e (nm_r (nI_1 i) (keep (fun _ => hbr)))))
      rcases hst with ⟨e, _⟩ | ⟨e, _⟩
      · rw [e]; exact or_01
      · rw [e]; exact or_11
    · have h := fin x2 (by
        rcases hst with ⟨e, hF, hall⟩ | h
        · refine Or.inl ⟨e, hF, fun q hq hk hb => ?_⟩
          have := vr_brk_loop hg hq hk hb
          exact h22 (mk.1 this)
        · exact Or.inr h)
      rw [cc] at h
      exact h
theorem yv_loosen (hP : yv_P K n a_ops a_as a_bs a_cs a_blockOf a_opener a_around) {post : Int32 → SY → Prop} {j : Nat} (hj : j < n) (ho : K j = 19 ∨ K j = 20 ∨ K j = 22)
    (h0 : vr_s2 K a_as (xv_V a_varied) (yv_L K a_loose) j → (∀ i, i < n → K i = 24 → vr_brk K a_as (xv_V a_varied) False (sc_lf K i) (j + 1) → yv_L K a_loose (j + 1)) → post 0 (nI n, f_known, f_wrong, f_place, f_blocks, f_steps, f_dropped, f_on, f_next, f_again, f_depth, a_ops, a_as, a_bs, a_cs, a_blockOf, a_opener, a_around, a_other, a_end, a_open, a_varied, a_loose, a_variedVariable, a_stands, a_number, a_isConst, a_needed, a_inputs, a_values, a_variables, a_cells, a_outs, a_was, a_rest, a_line))
    (h1 : ∀ lo, yv_up K a_as a_bs a_cs n a_varied a_loose a_variedVariable a_varied lo a_variedVariable → post 1 (nI n, f_known, f_wrong, f_place, f_blocks, f_steps, f_dropped, f_on, f_next, f_again, f_depth, a_ops, a_as, a_bs, a_cs, a_blockOf, a_opener, a_around, a_other, a_end, a_open, a_varied, lo, a_variedVariable, a_stands, a_number, a_isConst, a_needed, a_inputs, a_values, a_variables, a_cells, a_outs, a_was, a_rest, a_line)) : wpY_loosen post (nI n, f_known, f_wrong, f_place, f_blocks, f_steps, f_dropped, f_on, f_next, f_again, f_depth, a_ops, a_as, a_bs, a_cs, a_blockOf, a_opener, a_around, a_other, a_end, a_open, a_varied, a_loose, a_variedVariable, a_stands, a_number, a_isConst, a_needed, a_inputs, a_values, a_variables, a_cells, a_outs, a_was, a_rest, a_line) (nI (sc_cnt K (j + 1))) := by
  have hP' := hP
  obtain ⟨hn, hK, hg, h4, hok, hB, hA⟩ := hP'
  have cle := sc_cnt_le (K := K) (j + 1)
  have ib : vp_in (nI (sc_cnt K (j + 1))) 97 := vp_in_nI (by omega) (by omega)
  have cc : (nI (sc_cnt K (j + 1))).toNatClampNeg = sc_cnt K (j + 1) := nI_clamp (by omega)
  have gj : sc_good K (j + 1) := sc_good_le hg (by omega)
  have hle := sc_hdl_le gj
  have cle2 := sc_cnt_le (K := K) (sc_hd (sc_lf K j))
  have ex41 : a_loose (sc_cnt K (j + 1)) = 0 → ∀ (x2 : Int32) (F : Prop), (F ↔ (yv_L K a_loose (sc_hd (sc_lf K j)) ∨ (K j ≠ 22 ∧ xv_V a_varied (a_as (sc_mt K j)).toNatClampNeg))) → (x2 = 0 ∧ ¬ F ∨ x2 = 1 ∧ F) → ∃ m, wY_loosen_41 post (nI (sc_cnt K (j + 1))) (nI n) f_known f_wrong f_place f_blocks f_steps f_dropped f_on f_next f_again f_depth a_ops a_as a_bs a_cs a_blockOf a_opener a_around a_other a_end a_open a_varied a_loose a_variedVariable a_stands a_number a_isConst a_needed a_inputs a_values a_variables a_cells a_outs a_was a_rest a_line m x2 0 := by
    intro hz x2 F hF hx
    refine ⟨n + 1, yv_loosen41 (K := K) (n := n) hP hj ho hz (F := F) (fun nF hall => h0 (fun _ h => absurd (hF.mpr h) nF) (fun i hi hk hb => absurd hb (hall i hi hk))) (fun h => h1 _ ⟨?_, ?_⟩) n 0 x2 (by omega) ?_⟩
    · refine vr_sndL (b := j + 1) (fun V L W hc s => ?_) (fun c hco hm => ?_)
      · rcases h with h | ⟨i, hi, hk, hb⟩
        · refine (hc j hj).2.1 ho ?_
          rcases hF.mp h with h | ⟨hk, h⟩
          · exact Or.inl (s.2.1 _ (by omega) (sc_hdl_op gj) h)
          · refine Or.inr ⟨hk, s.1 _ ?_ h⟩
            have mle := sc_mt_le gj
            have mk := sc_mtK (hg j hj) ho
            have := mk.2 hk
            obtain ⟨x, hx, ex, _⟩ := hok (sc_mt K j) (by omega) 0 (by omega) (by unfold sc_us; omega)
            rw [show a_as (sc_mt K j) = nI x from ex, nI_clamp (by omega)]; omega
        · refine (hc i hi).2.2 hk (j + 1) ?_
          have el : sc_lf K i = sc_fr K i := sc_lf_n (by omega)
          rw [el] at hb ⊢
          refine vr_brk_mono _ _ _ _ (fun h => h) (fun f hf hV hk' => s.1 _ ?_ hV) hb
          obtain ⟨r', T'⟩ := sc_memT (b := f.1) (m := f.2) (sc_good_le hg (show i ≤ n by omega)) hf
          have kf : K f.2 = 19 := by
            rcases T'.2.2.2.1 with ⟨_, h''⟩ | ⟨_, h'', _⟩
            · omega
            · exact h''
          have := T'.2.1
          have := T'.2.2.1
          obtain ⟨x, hx, ex, _⟩ := hok f.2 (by omega) 0 (by omega) (by unfold sc_us; omega)
          rw [show a_as f.2 = nI x from ex, nI_clamp (by omega)]; omega
      · unfold yv_L at hm ⊢
        by_cases e : sc_cnt K c = sc_cnt K (j + 1)
        · exact Or.inl (sc_cnt_inj hco (Or.inr (by rw [Nat.add_sub_cancel]; exact ho)) e)
        · rw [pk_un e] at hm; exact Or.inr hm
    · have := cz_lt (x := 1) hz (by decide) 97 (by omega)
      unfold yv_mu; omega
    · rcases hx with ⟨e, h⟩ | ⟨e, h⟩
      · exact Or.inl ⟨e, h, fun q hq => by omega⟩
      · exact Or.inr ⟨e, Or.inl h⟩
  refine ⟨ib, ?_⟩
  rw [cc, (hA j hj ho).1, nI_clamp (by omega)]
  refine br_c (fun hz => ⟨ib, vp_in_nI (by omega) (by omega), br_c (fun hzz => ?_) (fun hzz => ex41 hz 1 _ Iff.rfl (Or.inr ⟨rfl, Or.inl hzz⟩))⟩) (fun hz => h0 (fun _ _ => hz) (fun _ _ _ _ => hz))
  refine yv_split (K := K) (n := n) hP hj ho (fun hk hv => br_f (by decide) (ex41 hz 1 _ Iff.rfl (Or.inr ⟨rfl, Or.inr ⟨hk, hv⟩⟩))) (fun hno => br_t rfl (ex41 hz 0 _ Iff.rfl (Or.inl ⟨rfl, ?_⟩)))
  rintro (h | ⟨hk, h⟩)
  · exact h hzz
  · exact hno hk h
end
end
section
section
variable {K : Nat → Nat} {n : Nat}
variable {f_lines f_known f_wrong f_place f_blocks f_steps f_dropped f_on f_next f_again f_depth : Int32} {a_ops a_as a_bs a_cs a_blockOf a_opener a_around a_other a_end a_open a_varied a_loose a_variedVariable a_stands a_number a_isConst a_needed a_inputs a_values a_variables a_cells a_outs a_was a_rest a_line : Nat → Int32}
theorem sc_cnt_surj : ∀ n b : Nat, 1 ≤ b → b ≤ sc_cnt K n → ∃ j, j < n ∧ (K j = 19 ∨ K j = 20 ∨ K j = 22) ∧ sc_cnt K (j + 1) = b := by
  intro n
  induction n with
  | zero => intro b h1 h2; simp only [sc_cnt] at h2; omega
  | succ n ih =>
    intro b h1 h2
    by_cases ho : K n = 19 ∨ K n = 20 ∨ K n = 22
    · rw [sc_cnt_op ho] at h2
      by_cases e : b = sc_cnt K n + 1
      · exact ⟨n, by omega, ho, by rw [sc_cnt_op ho, e]⟩
      · obtain ⟨j, hj, h⟩ := ih b h1 (by omega)
        exact ⟨j, by omega, h⟩
    · rw [sc_cnt_n ho] at h2
      obtain ⟨j, hj, h⟩ := ih b h1 h2
      exact ⟨j, by omega, h⟩
def yv_st (K : Nat → Nat) (A B C va lo vv : Nat → Int32) (n i b : Nat) : Prop :=
  (∀ q, q < i → vr_s1 K A B C (xv_V va) (yv_L K lo) (xv_V vv) q) ∧
  (∀ j, j < n → (K j = 19 ∨ K j = 20 ∨ K j = 22) → sc_cnt K (j + 1) < b → vr_s2 K A (xv_V va) (yv_L K lo) j ∧ ∀ q, q < n → K q = 24 → vr_brk K A (xv_V va) False (sc_lf K q) (j + 1) → yv_L K lo (j + 1))
theorem yv_96 (hP : yv_P K n a_ops a_as a_bs a_cs a_blockOf a_opener a_around) {post : SY → Prop} {J : Int32 → Int32 → Int32 → Int32 → Int32 → Int32 → Int32 → Int32 → Int32 → Int32 → Int32 → Int32 → (Nat → Int32) → (Nat → Int32) → (Nat → Int32) → (Nat → Int32) → (Nat → Int32) → (Nat → Int32) → (Nat → Int32) → (Nat → Int32) → (Nat → Int32) → (Nat → Int32) → (Nat → Int32) → (Nat → Int32) → (Nat → Int32) → (Nat → Int32) → (Nat → Int32) → (Nat → Int32) → (Nat → Int32) → (Nat → Int32) → (Nat → Int32) → (Nat → Int32) → (Nat → Int32) → (Nat → Int32) → (Nat → Int32) → (Nat → Int32) → (Nat → Int32) → Prop}
    (hend0 : yv_st K a_as a_bs a_cs a_varied a_loose a_variedVariable n n (sc_cnt K n + 1) → J 0 (nI n) f_known f_wrong f_place (nI (sc_cnt K n + 1)) f_steps f_dropped f_on f_next f_again f_depth a_ops a_as a_bs a_cs a_blockOf a_opener a_around a_other a_end a_open a_varied a_loose a_variedVariable a_stands a_number a_isConst a_needed a_inputs a_values a_variables a_cells a_outs a_was a_rest a_line)
    (hend1 : ∀ va lo vv, vr_snd K a_as a_bs a_cs n (xv_V va) (yv_L K lo) (xv_V vv) → yv_mu va lo vv < yv_mu a_varied a_loose a_variedVariable → J 1 (nI n) f_known f_wrong f_place (nI (sc_cnt K n + 1)) f_steps f_dropped f_on f_next f_again f_depth a_ops a_as a_bs a_cs a_blockOf a_opener a_around a_other a_end a_open va lo vv a_stands a_number a_isConst a_needed a_inputs a_values a_variables a_cells a_outs a_was a_rest a_line) :
    ∀ (d b : Nat) (x1 : Int32) (va lo vv : Nat → Int32), 1 ≤ b → b + d = sc_cnt K n + 1 → ((x1 = 0 ∧ va = a_varied ∧ lo = a_loose ∧ vv = a_variedVariable ∧ yv_st K a_as a_bs a_cs va lo vv n n b) ∨ (x1 = 1 ∧ yv_mu va lo vv < yv_mu a_varied a_loose a_variedVariable)) → vr_snd K a_as a_bs a_cs n (xv_V va) (yv_L K lo) (xv_V vv) →
      wY_spread_96 post J (d + 1) x1 (nI b) (nI n) f_known f_wrong f_place (nI (sc_cnt K n + 1)) f_steps f_dropped f_on f_next f_again f_depth a_ops a_as a_bs a_cs a_blockOf a_opener a_around a_other a_end a_open va lo vv a_stands a_number a_isConst a_needed a_inputs a_values a_variables a_cells a_outs a_was a_rest a_line := by
  have hn := hP.1
  have cn := sc_cnt_le (K := K) n
  intro d
  induction d with
  | zero =>
    intro b x1 va lo vv hb1 hb hst hs
    have eb : b = sc_cnt K n + 1 := by omega
    subst eb
    refine br_t (nI_le (Nat.le_refl _) (by omega)) ?_
    rcases hst with ⟨rfl, rfl, rfl, rfl, hall⟩ | ⟨rfl, hmu⟩
    · exact hend0 hall
    · exact hend1 va lo vv hs hmu
  | succ d ih =>
    intro b x1 va lo vv hb1 hb hst hs
    obtain ⟨j, hj, ho, ej⟩ := sc_cnt_surj (K := K) n b hb1 (by omega)
    refine br_f (nI_ge (by omega) (by omega)) ?_
    rw [← ej]
    refine yv_loosen (K := K) (n := n) hP hj ho (fun hs2 hs3 => ?_) (fun lo' hu => ?_)
    · refine nm_r (e' := x1) ?_ (nm_r (by rw [ej]; exact nI_1 b) (ih (b + 1) x1 va lo vv (by omega) (by omega) ?_ hs))
      · rcases hst with ⟨rfl, _⟩ | ⟨rfl, _⟩
        · exact or_00
        · exact or_10
      · rcases hst with ⟨e0, e1, e2, e3, hall⟩ | h
        · refine Or.inl ⟨e0, e1, e2, e3, hall.1, fun j' hj' ho' hlt => ?_⟩
          by_cases e : sc_cnt K (j' + 1) = b
          · have : j' + 1 = j + 1 := sc_cnt_inj (Or.inr (by rw [Nat.add_sub_cancel]; exact ho')) (Or.inr (by rw [Nat.add_sub_cancel]; exact ho)) (by rw [e, ej])
            have : j' = j := by omega
            subst this
            exact ⟨hs2, hs3⟩
          · exact hall.2 j' hj' ho' (by omega)
        · exact Or.inr h
    · refine nm_r (e' := 1) ?_ (nm_r (by rw [ej]; exact nI_1 b) (ih (b + 1) 1 va lo' vv (by omega) (by omega) (Or.inr ⟨rfl, ?_⟩) (hu.1 hs)))
      · rcases hst with ⟨rfl, _⟩ | ⟨rfl, _⟩
        · exact or_01
        · exact or_11
      · have := hu.2
        rcases hst with ⟨_, rfl, rfl, rfl, _⟩ | ⟨_, h⟩
        · exact this
        · omega
theorem yv_72 (hP : yv_P K n a_ops a_as a_bs a_cs a_blockOf a_opener a_around) {post : SY → Prop} {J : Int32 → Int32 → Int32 → Int32 → Int32 → Int32 → Int32 → Int32 → Int32 → Int32 → Int32 → Int32 → (Nat → Int32) → (Nat → Int32) → (Nat → Int32) → (Nat → Int32) → (Nat → Int32) → (Nat → Int32) → (Nat → Int32) → (Nat → Int32) → (Nat → Int32) → (Nat → Int32) → (Nat → Int32) → (Nat → Int32) → (Nat → Int32) → (Nat → Int32) → (Nat → Int32) → (Nat → Int32) → (Nat → Int32) → (Nat → Int32) → (Nat → Int32) → (Nat → Int32) → (Nat → Int32) → (Nat → Int32) → (Nat → Int32) → (Nat → Int32) → (Nat → Int32) → Prop}
    (hend0 : yv_st K a_as a_bs a_cs a_varied a_loose a_variedVariable n n (sc_cnt K n + 1) → J 0 (nI n) f_known f_wrong f_place (nI (sc_cnt K n + 1)) f_steps f_dropped f_on f_next f_again f_depth a_ops a_as a_bs a_cs a_blockOf a_opener a_around a_other a_end a_open a_varied a_loose a_variedVariable a_stands a_number a_isConst a_needed a_inputs a_values a_variables a_cells a_outs a_was a_rest a_line)
    (hend1 : ∀ va lo vv, vr_snd K a_as a_bs a_cs n (xv_V va) (yv_L K lo) (xv_V vv) → yv_mu va lo vv < yv_mu a_varied a_loose a_variedVariable → J 1 (nI n) f_known f_wrong f_place (nI (sc_cnt K n + 1)) f_steps f_dropped f_on f_next f_again f_depth a_ops a_as a_bs a_cs a_blockOf a_opener a_around a_other a_end a_open va lo vv a_stands a_number a_isConst a_needed a_inputs a_values a_variables a_cells a_outs a_was a_rest a_line) :
    ∀ (d i : Nat) (x1 : Int32) (va vv : Nat → Int32), i + d = n → ((x1 = 0 ∧ va = a_varied ∧ vv = a_variedVariable ∧ ∀ q, q < i → vr_s1 K a_as a_bs a_cs (xv_V va) (yv_L K a_loose) (xv_V vv) q) ∨ (x1 = 1 ∧ yv_mu va a_loose vv < yv_mu a_varied a_loose a_variedVariable)) → vr_snd K a_as a_bs a_cs n (xv_V va) (yv_L K a_loose) (xv_V vv) →
      wY_spread_72 post J (d + 1) x1 (nI i) (nI n) f_known f_wrong f_place (nI (sc_cnt K n + 1)) f_steps f_dropped f_on f_next f_again f_depth a_ops a_as a_bs a_cs a_blockOf a_opener a_around a_other a_end a_open va a_loose vv a_stands a_number a_isConst a_needed a_inputs a_values a_variables a_cells a_outs a_was a_rest a_line := by
  have hP' := hP
  obtain ⟨hn, hK, hg, h4, hok, hB, hA⟩ := hP'
  intro d
  induction d with
  | zero =>
    intro i x1 va vv hi hst hs
    cases (show i = n by omega)
    refine br_t (nI_le (Nat.le_refl _) (by omega)) ⟨sc_cnt K n + 1, ?_⟩
    refine yv_96 (K := K) (n := n) (post := post) (J := J) (a_varied := a_varied) (a_variedVariable := a_variedVariable) hP hend0 hend1 (sc_cnt K n) 1 x1 va a_loose vv (by omega) (by omega) ?_ hs
    rcases hst with ⟨e0, e1, e3, hall⟩ | h
    · refine Or.inl ⟨e0, e1, rfl, e3, hall, fun j hj ho hlt => ?_⟩
      rw [sc_cnt_op ho] at hlt; omega
    · exact Or.inr h
  | succ d ih =>
    intro i x1 va vv hi hst hs
    refine br_f (nI_ge (by omega) (by omega)) ?_
    refine yv_vary (K := K) (n := n) hn hK hg h4 hok hB (by omega) (fun hs1 => ?_) (fun va' vv' hu => ?_)
    · refine nm_r (e' := x1) ?_ (nm_r (nI_1 i) (ih (i + 1) x1 va vv (by omega) ?_ hs))
      · rcases hst with ⟨rfl, _⟩ | ⟨rfl, _⟩
        · exact or_00
        · exact or_10
      · rcases hst with ⟨e0, e1, e3, hall⟩ | h
        · refine Or.inl ⟨e0, e1, e3, fun q hq => ?_⟩
          by_cases e : q = i
          · rw [e]; exact hs1
          · exact hall q (by omega)
        · exact Or.inr h
    · refine nm_r (e' := 1) ?_ (nm_r (nI_1 i) (ih (i + 1) 1 va' vv' (by omega) (Or.inr ⟨rfl, ?_⟩) (hu.1 hs)))
      · rcases hst with ⟨rfl, _⟩ | ⟨rfl, _⟩
        · exact or_01
        · exact or_11
      · have := hu.2
        rcases hst with ⟨_, rfl, rfl, _⟩ | ⟨_, h⟩
        · exact this
        · omega
theorem yv_64 (hP : yv_P K n a_ops a_as a_bs a_cs a_blockOf a_opener a_around) {post : SY → Prop}
    (hpost : ∀ va lo vv, vr_least K a_as a_bs a_cs n (xv_V va) (yv_L K lo) (xv_V vv) → post (nI n, f_known, f_wrong, f_place, nI (sc_cnt K n + 1), f_steps, f_dropped, f_on, f_next, f_again, f_depth, a_ops, a_as, a_bs, a_cs, a_blockOf, a_opener, a_around, a_other, a_end, a_open, va, lo, vv, a_stands, a_number, a_isConst, a_needed, a_inputs, a_values, a_variables, a_cells, a_outs, a_was, a_rest, a_line)) :
    ∀ (M : Nat) (va lo vv : Nat → Int32), yv_mu va lo vv ≤ M → vr_snd K a_as a_bs a_cs n (xv_V va) (yv_L K lo) (xv_V vv) → wY_spread_64 post (M + 2) 1 (nI n) f_known f_wrong f_place (nI (sc_cnt K n + 1)) f_steps f_dropped f_on f_next f_again f_depth a_ops a_as a_bs a_cs a_blockOf a_opener a_around a_other a_end a_open va lo vv a_stands a_number a_isConst a_needed a_inputs a_values a_variables a_cells a_outs a_was a_rest a_line := by
  have hn := hP.1
  have hg := hP.2.2.1
  have fin : ∀ (m : Nat) (va lo vv : Nat → Int32), vr_snd K a_as a_bs a_cs n (xv_V va) (yv_L K lo) (xv_V vv) → yv_st K a_as a_bs a_cs va lo vv n n (sc_cnt K n + 1) → wY_spread_64 post (m + 1) 0 (nI n) f_known f_wrong f_place (nI (sc_cnt K n + 1)) f_steps f_dropped f_on f_next f_again f_depth a_ops a_as a_bs a_cs a_blockOf a_opener a_around a_other a_end a_open va lo vv a_stands a_number a_isConst a_needed a_inputs a_values a_variables a_cells a_outs a_was a_rest a_line := by
    intro m va lo vv hs hst
    refine br_t rfl (hpost va lo vv ⟨fun i hi => ⟨hst.1 i hi, fun ho h => ?_, fun hk b hb => ?_⟩, hs⟩)
    · exact (hst.2 i hi ho (by have := sc_cnt_mono (K := K) (show i + 1 ≤ n by omega); omega)).1 ho h
    · have el : sc_lf K i = sc_fr K i := sc_lf_n (by omega)
      have hb' := hb
      rw [el] at hb'
      obtain ⟨m', hm, km⟩ := vr_brk_mem _ _ _ hb'
      obtain ⟨r, T⟩ := sc_memT (sc_good_le hg (show i ≤ n by omega)) hm
      have tb := T.2.1
      have tb1 := T.1
      have eb : b - 1 + 1 = b := by omega
      have := (hst.2 (b - 1) (by omega) T.2.2.2.2.2.2.2.1 (by have := sc_cnt_mono (K := K) (show b - 1 + 1 ≤ n by omega); omega)).2 i hi hk
      rw [eb] at this
      exact this hb
  intro M
  induction M with
  | zero =>
    intro va lo vv hmu hs
    refine br_f (by decide) ⟨n + 1, ?_⟩
    exact yv_72 (K := K) (n := n) (post := post) (J := wY_spread_64 post 1) hP (fun hst => fin 0 va lo vv hs hst) (fun va' lo' vv' _ h => absurd h (by omega)) n 0 0 va vv (by omega) (Or.inl ⟨rfl, rfl, rfl, fun q hq => by omega⟩) hs
  | succ M ih =>
    intro va lo vv hmu hs
    refine br_f (by decide) ⟨n + 1, ?_⟩
    exact yv_72 (K := K) (n := n) (post := post) (J := wY_spread_64 post (M + 2)) hP (fun hst => fin (M + 1) va lo vv hs hst) (fun va' lo' vv' hs' h => ih va' lo' vv' (by omega) hs') n 0 0 va vv (by omega) (Or.inl ⟨rfl, rfl, rfl, fun q hq => by omega⟩) hs
theorem yv_44 {post : SY → Prop} (h : ∃ m, wY_spread_64 post m 1 f_lines f_known f_wrong f_place f_blocks f_steps f_dropped f_on f_next f_again f_depth a_ops a_as a_bs a_cs a_blockOf a_opener a_around a_other a_end a_open a_varied a_loose (cl_z 4 a_variedVariable) a_stands a_number a_isConst a_needed a_inputs a_values a_variables a_cells a_outs a_was a_rest a_line) : ∀ d i : Nat, i + d = 4 → wY_spread_44 post f_lines f_known f_wrong f_place f_blocks f_steps f_dropped f_on f_next f_again f_depth (d + 1) (nI i) a_ops a_as a_bs a_cs a_blockOf a_opener a_around a_other a_end a_open a_varied a_loose (cl_z i a_variedVariable) a_stands a_number a_isConst a_needed a_inputs a_values a_variables a_cells a_outs a_was a_rest a_line := by
  intro d
  induction d with
  | zero => intro i hi; cases (show i = 4 by omega); exact br_t (by decide) h
  | succ d ih =>
    intro i hi
    exact br_f (nI_ge (b := 4) (by omega) (by decide)) ⟨vp_in_nI (by omega) (by omega), nm_r (by rw [nI_clamp (by omega), xv_nar0]; exact cl_s i _) (nm_r (nI_1 i) (ih (i + 1) (by omega)))⟩
theorem yv_23 {post : SY → Prop} (h : ∃ m, wY_spread_64 post m 1 f_lines f_known f_wrong f_place f_blocks f_steps f_dropped f_on f_next f_again f_depth a_ops a_as a_bs a_cs a_blockOf a_opener a_around a_other a_end a_open a_varied (cl_z 97 a_loose) (cl_z 4 a_variedVariable) a_stands a_number a_isConst a_needed a_inputs a_values a_variables a_cells a_outs a_was a_rest a_line) : ∀ d i : Nat, i + d = 97 → wY_spread_23 post f_lines f_known f_wrong f_place f_blocks f_steps f_dropped f_on f_next f_again f_depth (d + 1) (nI i) a_ops a_as a_bs a_cs a_blockOf a_opener a_around a_other a_end a_open a_varied (cl_z i a_loose) a_variedVariable a_stands a_number a_isConst a_needed a_inputs a_values a_variables a_cells a_outs a_was a_rest a_line := by
  intro d
  induction d with
  | zero =>
    intro i hi
    cases (show i = 97 by omega)
    refine br_t (by decide) ⟨5, ?_⟩
    rw [← cl_0 a_variedVariable]
    exact yv_44 h 4 0 rfl
  | succ d ih =>
    intro i hi
    exact br_f (nI_ge (b := 97) (by omega) (by decide)) ⟨vp_in_nI (by omega) (by omega), nm_r (by rw [nI_clamp (by omega), xv_nar0]; exact cl_s i _) (nm_r (nI_1 i) (ih (i + 1) (by omega)))⟩
theorem yv_2 {post : SY → Prop} (h : ∃ m, wY_spread_64 post m 1 f_lines f_known f_wrong f_place f_blocks f_steps f_dropped f_on f_next f_again f_depth a_ops a_as a_bs a_cs a_blockOf a_opener a_around a_other a_end a_open (cl_z 48 a_varied) (cl_z 97 a_loose) (cl_z 4 a_variedVariable) a_stands a_number a_isConst a_needed a_inputs a_values a_variables a_cells a_outs a_was a_rest a_line) : ∀ d i : Nat, i + d = 48 → wY_spread_2 post f_lines f_known f_wrong f_place f_blocks f_steps f_dropped f_on f_next f_again f_depth (d + 1) (nI i) a_ops a_as a_bs a_cs a_blockOf a_opener a_around a_other a_end a_open (cl_z i a_varied) a_loose a_variedVariable a_stands a_number a_isConst a_needed a_inputs a_values a_variables a_cells a_outs a_was a_rest a_line := by
  intro d
  induction d with
  | zero =>
    intro i hi
    cases (show i = 48 by omega)
    refine br_t (by decide) ⟨98, ?_⟩
    rw [← cl_0 a_loose]
    exact yv_23 h 97 0 rfl
  | succ d ih =>
    intro i hi
    exact br_f (nI_ge (b := 48) (by omega) (by decide)) ⟨vp_in_nI (by omega) (by omega), nm_r (by rw [nI_clamp (by omega), xv_nar0]; exact cl_s i _) (nm_r (nI_1 i) (ih (i + 1) (by omega)))⟩
theorem yv_spread (hP : yv_P K n a_ops a_as a_bs a_cs a_blockOf a_opener a_around) {post : SY → Prop}
    (hpost : ∀ va lo vv, vr_least K a_as a_bs a_cs n (xv_V va) (yv_L K lo) (xv_V vv) → post (nI n, f_known, f_wrong, f_place, nI (sc_cnt K n + 1), f_steps, f_dropped, f_on, f_next, f_again, f_depth, a_ops, a_as, a_bs, a_cs, a_blockOf, a_opener, a_around, a_other, a_end, a_open, va, lo, vv, a_stands, a_number, a_isConst, a_needed, a_inputs, a_values, a_variables, a_cells, a_outs, a_was, a_rest, a_line)) : wpY_spread post (nI n, f_known, f_wrong, f_place, nI (sc_cnt K n + 1), f_steps, f_dropped, f_on, f_next, f_again, f_depth, a_ops, a_as, a_bs, a_cs, a_blockOf, a_opener, a_around, a_other, a_end, a_open, a_varied, a_loose, a_variedVariable, a_stands, a_number, a_isConst, a_needed, a_inputs, a_values, a_variables, a_cells, a_outs, a_was, a_rest, a_line) := by
  refine ⟨49, ?_⟩
  rw [← cl_0 a_varied]
  refine yv_2 ?_ 48 0 rfl
  refine ⟨_, yv_64 (K := K) (n := n) hP hpost 149 _ _ _ ?_ ?_⟩
  · have := cz_le (cl_z 48 a_varied) 48
    have := cz_le (cl_z 97 a_loose) 97
    have := cz_le (cl_z 4 a_variedVariable) 4
    unfold yv_mu; omega
  · intro V L W _
    have hn := hP.1
    refine ⟨fun i hi h => absurd (cl_lt _ (by omega)) h, fun b hb _ h => absurd (cl_lt _ ?_) h, fun v hv h => absurd (cl_lt _ hv) h⟩
    have := sc_cnt_le (K := K) b; omega
/-- Y's look for the fourth sort -/
theorem yv_495End {post : SY → Prop} {x3 w p : Int32} {d : Nat} (hw : w ≠ 0) (h : wY_look_565 post f_lines f_known w p f_blocks f_steps f_dropped f_on f_next f_again f_depth a_ops a_as a_bs a_cs a_blockOf a_opener a_around a_other a_end a_open a_varied a_loose a_variedVariable a_stands a_number a_isConst a_needed a_inputs a_values a_variables a_cells a_outs a_was a_rest a_line) : wY_look_495 post f_lines f_known f_blocks f_steps f_dropped f_on f_next f_again f_depth a_ops a_as a_bs a_cs a_blockOf a_opener a_around a_other a_end a_open a_varied a_loose a_variedVariable a_stands a_number a_isConst a_needed a_inputs a_values a_variables a_cells a_outs a_was a_rest a_line (d + 1) x3 w p :=
  br_c (fun _ => h) (fun _ => br_f hw h)
theorem yv_495 (hn : n ≤ 48) (hK : ∀ j, j < n → a_ops j = nI (K j) ∧ K j ≤ 25) (hg : sc_good K n) (hB : ∀ j, j < n → a_blockOf j = nI (sc_cnt K (sc_hd (sc_lf K j)))) {post : SY → Prop} {p : Int32}
    (h4 : ∀ i, i < n → xv_w4 K (yv_L K a_loose) i → (∀ j, j < i → ¬ xv_w4 K (yv_L K a_loose) j) → wY_look_565 post (nI n) f_known 4 (nI i) f_blocks f_steps f_dropped f_on f_next f_again f_depth a_ops a_as a_bs a_cs a_blockOf a_opener a_around a_other a_end a_open a_varied a_loose a_variedVariable a_stands a_number a_isConst a_needed a_inputs a_values a_variables a_cells a_outs a_was a_rest a_line)
    (h0 : (∀ j, j < n → ¬ xv_w4 K (yv_L K a_loose) j) → wY_look_565 post (nI n) f_known 0 p f_blocks f_steps f_dropped f_on f_next f_again f_depth a_ops a_as a_bs a_cs a_blockOf a_opener a_around a_other a_end a_open a_varied a_loose a_variedVariable a_stands a_number a_isConst a_needed a_inputs a_values a_variables a_cells a_outs a_was a_rest a_line) :
    ∀ d i : Nat, i + d = n → (∀ j, j < i → ¬ xv_w4 K (yv_L K a_loose) j) → wY_look_495 post (nI n) f_known f_blocks f_steps f_dropped f_on f_next f_again f_depth a_ops a_as a_bs a_cs a_blockOf a_opener a_around a_other a_end a_open a_varied a_loose a_variedVariable a_stands a_number a_isConst a_needed a_inputs a_values a_variables a_cells a_outs a_was a_rest a_line (d + 2) (nI i) 0 p := by
  intro d
  induction d with
  | zero =>
    intro i hi hno
    cases (show i = n by omega)
    exact br_t (nI_le (Nat.le_refl _) (by omega)) (h0 hno)
  | succ d ih =>
    intro i hi hno
    have ci : (nI i).toNatClampNeg = i := nI_clamp (by omega)
    have hin : vp_in (nI i) 48 := vp_in_nI (by omega) (by omega)
    have ki := hK i (by omega)
    have gi : sc_good K (i + 1) := sc_good_le hg (by omega)
    have hle := sc_hdl_le gi
    have cle := sc_cnt_le (K := K) (sc_hd (sc_lf K i))
    have next : ¬ xv_w4 K (yv_L K a_loose) i → wY_look_495 post (nI n) f_known f_blocks f_steps f_dropped f_on f_next f_again f_depth a_ops a_as a_bs a_cs a_blockOf a_opener a_around a_other a_end a_open a_varied a_loose a_variedVariable a_stands a_number a_isConst a_needed a_inputs a_values a_variables a_cells a_outs a_was a_rest a_line (d + 2) (nI (i + 1)) 0 p := fun h =>
      ih (i + 1) (by omega) (fun j hj => by
        by_cases e : j = i
        · rw [e]; exact h
        · exact hno j (by omega))
    have t532 : (K i = 12 ∨ K i = 13) → wY_look_532 post (wY_look_495 post (nI n) f_known f_blocks f_steps f_dropped f_on f_next f_again f_depth a_ops a_as a_bs a_cs a_blockOf a_opener a_around a_other a_end a_open a_varied a_loose a_variedVariable a_stands a_number a_isConst a_needed a_inputs a_values a_variables a_cells a_outs a_was a_rest a_line (d + 2)) (nI i) (nI n) f_known 0 p f_blocks f_steps f_dropped f_on f_next f_again f_depth a_ops a_as a_bs a_cs a_blockOf a_opener a_around a_other a_end a_open a_varied a_loose a_variedVariable a_stands a_number a_isConst a_needed a_inputs a_values a_variables a_cells a_outs a_was a_rest a_line := by
      intro hk
      refine ⟨vp_in_nI (by omega) (by omega), ?_⟩
      rw [ci, hB i (by omega), nI_clamp (by omega)]
      exact ⟨vp_in_nI (by omega) (by omega), br_c (fun hz => nm_r (nI_1 i) (next (fun h => h.2 hz))) (fun hz => nm_e (yv_495End (by decide) (h4 i (by omega) ⟨hk, hz⟩ hno)))⟩
    refine br_f (nI_ge (by omega) (by omega)) (br_t rfl ⟨hin, ?_⟩)
    rw [ci, ki.1]
    refine pk_eq (K i) 12 (fun h => t532 (Or.inl h)) (fun h12 => ⟨hin, pk_eq (K i) 13 (fun h => t532 (Or.inr h)) (fun h13 => nm_r (nI_1 i) (next (fun h => ?_)))⟩)
    have := h.1
    omega
end
end
section
section
/-- a table: what a line is the same as, whether it is a constant, which -/
def sh_bI (b : Bool) : Int32 := if b then 1 else 0
def sh_T (same fixed worth : Nat → Int32) : Nat → Nat × Bool × Int32 := fun j => ((same j).toNatClampNeg, !(fixed j == 0), worth j)
def sh_rk (k : Nat) (x y : Int32) : Int32 :=
  if k = 3 then x + y else if k = 4 then x - y else if k = 5 then x * y else if k = 6 then (if y ≤ x then 0 else 1) else if k = 7 then (if x = y then 1 else 0) else if k = 8 then (if x = 0 then 0 else if y = 0 then 0 else 1) else (if x = 0 then 1 else 0)
variable (K : Nat → Nat) (A B C : Nat → Int32) (T : Nat → Nat × Bool × Int32)
def sh_o (s i : Nat) : Nat := (sc_o3 A B C s i).toNatClampNeg
/-- the constant v -/
def sh_is (x : Nat) (v : Int32) : Bool := (T x).2.1 && (T x).2.2 == v
def sh_sum (i x y : Nat) : Nat × Bool × Int32 :=
  if (T x).2.1 = true ∧ (T y).2.1 = true then (i, true, sh_rk (K i) (T x).2.2 (T y).2.2)
  else if (K i = 3 ∧ sh_is T x 0 = true) ∨ (K i = 5 ∧ sh_is T x 1 = true) then (y, (T y).2)
  else if ((K i = 3 ∨ K i = 4) ∧ sh_is T y 0 = true) ∨ (K i = 5 ∧ sh_is T y 1 = true) then (x, (T x).2)
  else if (K i = 5 ∧ (sh_is T x 0 = true ∨ sh_is T y 0 = true)) ∨ (x = y ∧ (K i = 4 ∨ K i = 6)) then (i, true, 0)
  else if x = y ∧ K i = 7 then (i, true, 1) else (i, false, 0)
def sh_pick (i x y z : Nat) : Nat × Bool × Int32 :=
  if (T x).2.1 = true then (if (T x).2.2 = 0 then (z, (T z).2) else (y, (T y).2)) else if y = z then (y, (T y).2) else (i, false, 0)
def sh_1 (i : Nat) : Nat × Bool × Int32 :=
  if K i = 0 then (i, true, A i)
  else if K i = 10 then sh_pick T i (T (sh_o A B C 0 i)).1 (T (sh_o A B C 1 i)).1 (T (sh_o A B C 2 i)).1
  else if 3 ≤ K i ∧ K i ≤ 9 then sh_sum K T i (T (sh_o A B C 0 i)).1 (if K i = 9 then (T (sh_o A B C 0 i)).1 else (T (sh_o A B C 1 i)).1)
  else (i, false, 0)
def sh_cmp (k : Nat) : Prop := k ≤ 10 ∨ k = 12 ∨ k = 13
/-- same operands -/
def sh_al (i j : Nat) : Prop := (∀ s, s < 3 → sc_us (K i) s → (T (sh_o A B C s i)).1 = (T (sh_o A B C s j)).1) ∨ ((K i = 3 ∨ K i = 5 ∨ K i = 7 ∨ K i = 8) ∧ (T (sh_o A B C 0 i)).1 = (T (sh_o A B C 1 j)).1 ∧ (T (sh_o A B C 1 i)).1 = (T (sh_o A B C 0 j)).1)
/-- line j may stand for line i -/
def sh_P (i : Nat) (f : Bool) (v : Int32) (j : Nat) : Prop :=
  (T j).1 = j ∧ sc_in (sc_hd (sc_lf K j)) (sc_lf K i) ∧
  ((f = true ∧ (T j).2.1 = true ∧ v = (T j).2.2) ∨ (f = false ∧ (T j).2.1 = false ∧ K i = K j ∧ ((K i = 1 ∧ A i = A j) ∨ (K i ≠ 1 ∧ sh_al K A B C T i j))))
def sh_F (P : Nat → Prop) (i r : Nat) : Prop := (r = i ∧ ∀ j, j < i → ¬ P j) ∨ (r < i ∧ P r ∧ ∀ j, j < r → ¬ P j)
def sh_line (i : Nat) (out : Nat × Bool × Int32) : Prop :=
  ((¬ ((sh_1 K A B C T i).1 = i ∧ sh_cmp (K i))) ∧ out = sh_1 K A B C T i) ∨
  (((sh_1 K A B C T i).1 = i ∧ sh_cmp (K i)) ∧ ∃ r, sh_F (sh_P K A B C T i (sh_1 K A B C T i).2.1 (sh_1 K A B C T i).2.2) i r ∧ out = (r, (sh_1 K A B C T i).2))
/-- what holds of the table's first lines -/
def sh_good (T : Nat → Nat × Bool × Int32) (j : Nat) : Prop := (T j).1 ≤ j ∧ (T (T j).1).1 = (T j).1 ∧ (T (T j).1).2 = (T j).2 ∧ ((T j).2.1 = false → (T j).2.2 = 0)
variable {K A B C T}
theorem sh_good_eq {T T' : Nat → Nat × Bool × Int32} {j : Nat} (h : ∀ q, q ≤ j → T q = T' q) (g : sh_good T j) : sh_good T' j := by
  obtain ⟨g1, g2, g3, g4⟩ := g
  have ej := h j (Nat.le_refl _)
  have e1 := h (T j).1 g1
  rw [ej] at g1 g2 g3 g4 e1
  rw [e1] at g2 g3
  exact ⟨g1, g2, g3, g4⟩
theorem sh_sum_eq {T' : Nat → Nat × Bool × Int32} {i x y : Nat} (hx : T x = T' x) (hy : T y = T' y) : sh_sum K T i x y = sh_sum K T' i x y := by
  unfold sh_sum sh_is; rw [hx, hy]
theorem sh_pick_eq {T' : Nat → Nat × Bool × Int32} {i x y z : Nat} (hx : T x = T' x) (hy : T y = T' y) (hz : T z = T' z) : sh_pick T i x y z = sh_pick T' i x y z := by
  unfold sh_pick; rw [hx, hy, hz]
theorem sh_ov_lt {s i : Nat} (hi : i < 2 ^ 31) (h : sc_ov K A B C s i) : sh_o A B C s i < i ∧ sc_o3 A B C s i = nI (sh_o A B C s i) ∧ K (sh_o A B C s i) ≤ 16 := by
  obtain ⟨x, hx, ex, k⟩ := h
  have : sh_o A B C s i = x := by unfold sh_o; rw [ex, nI_clamp (by omega)]
  rw [this]; exact ⟨hx, ex, k⟩
theorem sh_1_eq {T' : Nat → Nat × Bool × Int32} {i : Nat} (hi : i < 2 ^ 31) (hov : ∀ s, s < 3 → sc_us (K i) s → sc_ov K A B C s i) (hg : ∀ j, j < i → (T j).1 ≤ j) (h : ∀ j, j < i → T j = T' j) : sh_1 K A B C T i = sh_1 K A B C T' i := by
  unfold sh_1
  split
  · rfl
  · split
    · rename_i h10
      have o0 := sh_ov_lt hi (hov 0 (by omega) (by unfold sc_us; omega))
      have o1 := sh_ov_lt hi (hov 1 (by omega) (by unfold sc_us; omega))
      have o2 := sh_ov_lt hi (hov 2 (by omega) (by unfold sc_us; omega))
      rw [← h _ o0.1, ← h _ o1.1, ← h _ o2.1]
      exact sh_pick_eq (h _ (by have := hg _ o0.1; omega)) (h _ (by have := hg _ o1.1; omega)) (h _ (by have := hg _ o2.1; omega))
    · split
      · rename_i h39
        have o0 := sh_ov_lt hi (hov 0 (by omega) (by unfold sc_us; omega))
        have t0 := h _ (show (T (sh_o A B C 0 i)).1 < i by have := hg _ o0.1; omega)
        by_cases h9 : K i = 9
        · rw [if_pos h9, if_pos h9, ← h _ o0.1]
          exact sh_sum_eq t0 t0
        · have o1 := sh_ov_lt hi (hov 1 (by omega) (by unfold sc_us; omega))
          rw [if_neg h9, if_neg h9, ← h _ o0.1, ← h _ o1.1]
          exact sh_sum_eq t0 (h _ (by have := hg _ o1.1; omega))
      · rfl
theorem sh_F_uniq {P P' : Nat → Prop} {i r r' : Nat} (hP : ∀ j, j < i → (P j ↔ P' j)) (h : sh_F P i r) (h' : sh_F P' i r') : r = r' := by
  rcases h with ⟨e, h⟩ | ⟨l, p, h⟩ <;> rcases h' with ⟨e', h'⟩ | ⟨l', p', h'⟩
  · omega
  · exact absurd ((hP r' l').mpr p') (h r' l')
  · exact absurd ((hP r l).mp p) (h' r l)
  · rcases Nat.lt_trichotomy r r' with z | z | z
    · exact absurd ((hP r l).mp p) (h' r z)
    · exact z
    · exact absurd ((hP r' l').mpr p') (h r' z)
theorem sh_al_eq {T' : Nat → Nat × Bool × Int32} {i j : Nat} (hi : i < 2 ^ 31) (hj : j < i) (hk : K i = K j) (hov : ∀ s, s < 3 → sc_us (K i) s → sc_ov K A B C s i) (hovj : ∀ s, s < 3 → sc_us (K j) s → sc_ov K A B C s j) (h : ∀ j, j < i → T j = T' j) (g : sh_al K A B C T i j) : sh_al K A B C T' i j := by
  rcases g with g | ⟨k, g1, g2⟩
  · refine Or.inl (fun s hs hu => ?_)
    have a := (sh_ov_lt hi (hov s hs hu)).1
    have b := (sh_ov_lt (by omega) (hovj s hs (by rw [← hk]; exact hu))).1
    rw [← h _ a, ← h _ (by omega)]; exact g s hs hu
  · have u0 : sc_us (K i) 0 := by unfold sc_us; omega
    have u1 : sc_us (K i) 1 := by unfold sc_us; omega
    have a0 := (sh_ov_lt hi (hov 0 (by omega) u0)).1
    have a1 := (sh_ov_lt hi (hov 1 (by omega) u1)).1
    have b0 := (sh_ov_lt (by omega) (hovj 0 (by omega) (by rw [← hk]; exact u0))).1
    have b1 := (sh_ov_lt (by omega) (hovj 1 (by omega) (by rw [← hk]; exact u1))).1
    refine Or.inr ⟨k, ?_, ?_⟩
    · rw [← h _ a0, ← h _ (by omega)]; exact g1
    · rw [← h _ a1, ← h _ (by omega)]; exact g2
theorem sh_P_eq {T' : Nat → Nat × Bool × Int32} {i j : Nat} {f : Bool} {v : Int32} (hi : i < 2 ^ 31) (hj : j < i) (hov : ∀ s, s < 3 → sc_us (K i) s → sc_ov K A B C s i) (hovj : ∀ s, s < 3 → sc_us (K j) s → sc_ov K A B C s j) (h : ∀ j, j < i → T j = T' j) (g : sh_P K A B C T i f v j) : sh_P K A B C T' i f v j := by
  obtain ⟨g1, g2, g3⟩ := g
  have ej := h j hj
  refine ⟨by rw [← ej]; exact g1, g2, ?_⟩
  rcases g3 with g3 | ⟨a, b, c, d⟩
  · exact Or.inl (by rw [← ej]; exact g3)
  · refine Or.inr ⟨a, by rw [← ej]; exact b, c, ?_⟩
    rcases d with d | ⟨d1, d2⟩
    · exact Or.inl d
    · exact Or.inr ⟨d1, sh_al_eq hi hj c hov hovj h d2⟩
/-- a line's outcome hangs on the lines ahead of it alone -/
theorem sh_line_uniq {T' : Nat → Nat × Bool × Int32} {i : Nat} {o o' : Nat × Bool × Int32} (hi : i < 2 ^ 31) (hov : ∀ j, j ≤ i → ∀ s, s < 3 → sc_us (K j) s → sc_ov K A B C s j) (hg : ∀ j, j < i → (T j).1 ≤ j) (h : ∀ j, j < i → T j = T' j) (l : sh_line K A B C T i o) (l' : sh_line K A B C T' i o') : o = o' := by
  have e1 := sh_1_eq hi (hov i (Nat.le_refl _)) hg h
  unfold sh_line at l l'
  rw [← e1] at l'
  have iff : ∀ j, j < i → (sh_P K A B C T i (sh_1 K A B C T i).2.1 (sh_1 K A B C T i).2.2 j ↔ sh_P K A B C T' i (sh_1 K A B C T i).2.1 (sh_1 K A B C T i).2.2 j) := fun j hj =>
    ⟨sh_P_eq hi hj (hov i (Nat.le_refl _)) (hov j (by omega)) h, sh_P_eq hi hj (hov i (Nat.le_refl _)) (hov j (by omega)) (fun q hq => (h q hq).symm)⟩
  rcases l with ⟨c, e⟩ | ⟨c, r, hr, e⟩ <;> rcases l' with ⟨c', e'⟩ | ⟨c', r', hr', e'⟩
  · rw [e, e']
  · exact absurd c' c
  · exact absurd c c'
  · rw [e, e', sh_F_uniq iff hr hr']
theorem sh_uniq {T' : Nat → Nat × Bool × Int32} {n : Nat} (hn : n < 2 ^ 31) (hov : ∀ j, j < n → ∀ s, s < 3 → sc_us (K j) s → sc_ov K A B C s j) (hg : ∀ j, j < n → (T j).1 ≤ j) (l : ∀ j, j < n → sh_line K A B C T j (T j)) (l' : ∀ j, j < n → sh_line K A B C T' j (T' j)) : ∀ j, j < n → T j = T' j := by
  intro j
  induction j using Nat.strongRecOn with
  | _ j ih =>
    intro hj
    exact sh_line_uniq (by omega) (fun q hq => hov q (by omega)) (fun q hq => hg q (by omega)) (fun q hq => ih q hq (by omega)) (l j hj) (l' j hj)
/-- stage one keeps what holds -/
theorem sh_1_good {i : Nat} (hi : i < 2 ^ 31) (hov : ∀ s, s < 3 → sc_us (K i) s → sc_ov K A B C s i) (hg : ∀ j, j < i → sh_good T j) :
    ((sh_1 K A B C T i).1 = i ∧ ((sh_1 K A B C T i).2.1 = false → (sh_1 K A B C T i).2.2 = 0)) ∨ ((sh_1 K A B C T i).1 < i ∧ (T (sh_1 K A B C T i).1).1 = (sh_1 K A B C T i).1 ∧ (sh_1 K A B C T i).2 = (T (sh_1 K A B C T i).1).2) := by
  have top : ∀ s, s < 3 → sc_us (K i) s → (T (sh_o A B C s i)).1 < i ∧ (T (T (sh_o A B C s i)).1).1 = (T (sh_o A B C s i)).1 := by
    intro s hs hu
    have o := (sh_ov_lt hi (hov s hs hu)).1
    have g := hg _ o
    exact ⟨by have := g.1; omega, g.2.1⟩
  unfold sh_1
  split
  · exact Or.inl ⟨rfl, fun h => by cases h⟩
  · split
    · rename_i h10
      have t0 := top 0 (by omega) (by unfold sc_us; omega)
      have t1 := top 1 (by omega) (by unfold sc_us; omega)
      have t2 := top 2 (by omega) (by unfold sc_us; omega)
      unfold sh_pick
      split
      · split
        · exact Or.inr ⟨t2.1, t2.2, rfl⟩
        · exact Or.inr ⟨t1.1, t1.2, rfl⟩
      · split
        · exact Or.inr ⟨t1.1, t1.2, rfl⟩
        · exact Or.inl ⟨rfl, fun _ => rfl⟩
    · split
      · rename_i h39
        have t0 := top 0 (by omega) (by unfold sc_us; omega)
        have ty : (if K i = 9 then (T (sh_o A B C 0 i)).1 else (T (sh_o A B C 1 i)).1) < i ∧ (T (if K i = 9 then (T (sh_o A B C 0 i)).1 else (T (sh_o A B C 1 i)).1)).1 = (if K i = 9 then (T (sh_o A B C 0 i)).1 else (T (sh_o A B C 1 i)).1) := by
          split
          · exact t0
          · exact top 1 (by omega) (by unfold sc_us; omega)
        generalize (if K i = 9 then (T (sh_o A B C 0 i)).1 else (T (sh_o A B C 1 i)).1) = y at *
        unfold sh_sum
        split
        · exact Or.inl ⟨rfl, fun h => by cases h⟩
        · split
          · exact Or.inr ⟨ty.1, ty.2, rfl⟩
          · split
            · exact Or.inr ⟨t0.1, t0.2, rfl⟩
            · split
              · exact Or.inl ⟨rfl, fun h => by cases h⟩
              · split
                · exact Or.inl ⟨rfl, fun h => by cases h⟩
                · exact Or.inl ⟨rfl, fun _ => rfl⟩
      · exact Or.inl ⟨rfl, fun _ => rfl⟩
theorem sh_line_good {i : Nat} (hi : i < 2 ^ 31) (hov : ∀ s, s < 3 → sc_us (K i) s → sc_ov K A B C s i) (hg : ∀ j, j < i → sh_good T j) (l : sh_line K A B C T i (T i)) : sh_good T i := by
  have s := sh_1_good hi hov hg
  unfold sh_good
  rcases l with ⟨c, e⟩ | ⟨c, r, hr, e⟩
  · rw [e]
    rcases s with ⟨s1, s2⟩ | ⟨s1, s2, s3⟩
    · refine ⟨by omega, ?_, ?_, s2⟩
      · rw [s1, e, s1]
      · rw [s1, e]
    · refine ⟨by omega, s2, s3.symm, fun h => ?_⟩
      rw [s3] at h ⊢
      exact (hg _ s1).2.2.2 h
  · rw [e]
    have s2 : (sh_1 K A B C T i).2.1 = false → (sh_1 K A B C T i).2.2 = 0 := by
      rcases s with ⟨_, s2⟩ | ⟨s1, _⟩
      · exact s2
      · exact absurd c.1 (by omega)
    show r ≤ i ∧ (T r).1 = r ∧ (T r).2 = (sh_1 K A B C T i).2 ∧ _
    rcases hr with ⟨hr, _⟩ | ⟨hr, ⟨p1, _, p3⟩, _⟩
    · subst hr
      exact ⟨Nat.le_refl _, by rw [e], by rw [e], s2⟩
    · refine ⟨by omega, p1, ?_, s2⟩
      rcases p3 with ⟨f, b, c'⟩ | ⟨f, b, _⟩
      · exact Prod.ext (by rw [b, f]) c'.symm
      · refine Prod.ext (by rw [b, f]) ?_
        rw [s2 f]; exact (hg r hr).2.2.2 b
end
end
section
section
variable {K : Nat → Nat} {A B C : Nat → Int32} {T : Nat → Nat × Bool × Int32}
theorem sh_line_eq {T' : Nat → Nat × Bool × Int32} {i : Nat} {o : Nat × Bool × Int32} (hi : i < 2 ^ 31) (hov : ∀ j, j ≤ i → ∀ s, s < 3 → sc_us (K j) s → sc_ov K A B C s j) (hg : ∀ j, j < i → (T j).1 ≤ j) (h : ∀ j, j < i → T j = T' j) (l : sh_line K A B C T i o) : sh_line K A B C T' i o := by
  have e1 := sh_1_eq hi (hov i (Nat.le_refl _)) hg h
  unfold sh_line at l ⊢
  rw [← e1]
  rcases l with l | ⟨c, r, hr, e⟩
  · exact Or.inl l
  · refine Or.inr ⟨c, r, ?_, e⟩
    have iff : ∀ j, j < i → (sh_P K A B C T i (sh_1 K A B C T i).2.1 (sh_1 K A B C T i).2.2 j ↔ sh_P K A B C T' i (sh_1 K A B C T i).2.1 (sh_1 K A B C T i).2.2 j) := fun j hj =>
      ⟨sh_P_eq hi hj (hov i (Nat.le_refl _)) (hov j (by omega)) h, sh_P_eq hi hj (hov i (Nat.le_refl _)) (hov j (by omega)) (fun q hq => (h q hq).symm)⟩
    rcases hr with ⟨a, b⟩ | ⟨a, b, c⟩
    · exact Or.inl ⟨a, fun j hj hp => b j hj ((iff j hj).mpr hp)⟩
    · exact Or.inr ⟨a, (iff r a).mp b, fun j hj hp => c j hj ((iff j (by omega)).mpr hp)⟩
def sh_up (T : Nat → Nat × Bool × Int32) (i : Nat) (o : Nat × Bool × Int32) : Nat → Nat × Bool × Int32 := fun j => if j = i then o else T j
theorem sh_up_s {i : Nat} {o : Nat × Bool × Int32} : sh_up T i o i = o := if_pos rfl
theorem sh_up_n {i j : Nat} {o : Nat × Bool × Int32} (h : j ≠ i) : sh_up T i o j = T j := if_neg h
/-- arrays hold the table's first i lines -/
def sh_R (T : Nat → Nat × Bool × Int32) (i : Nat) (same fixed worth : Nat → Int32) : Prop := ∀ j, j < i → same j = nI (T j).1 ∧ fixed j = sh_bI (T j).2.1 ∧ worth j = (T j).2.2
theorem sh_bI_0 {b : Bool} (h : sh_bI b = 0) : b = false := by cases b <;> simp_all [sh_bI]
theorem sh_bI_n {b : Bool} (h : ¬ sh_bI b = 0) : b = true := by cases b <;> simp_all [sh_bI]
theorem sh_bIf : sh_bI false = 0 := rfl
theorem sh_bIt : sh_bI true = 1 := rfl
/-- what a slot stands for -/
noncomputable def sh_v (K : Nat → Nat) (A B C : Nat → Int32) (T : Nat → Nat × Bool × Int32) (s i : Nat) : Int32 := @ite _ (sc_us (K i) s) (Classical.propDecidable _) (nI (T (sh_o A B C s i)).1) (-1)
theorem sh_v_u {s i : Nat} (h : sc_us (K i) s) : sh_v K A B C T s i = nI (T (sh_o A B C s i)).1 := if_pos h
theorem sh_v_n {s i : Nat} (h : ¬ sc_us (K i) s) : sh_v K A B C T s i = -1 := if_neg h
theorem nI_m1ne {x : Nat} (h : x < 2 ^ 31) : ¬ nI x = -1 := fun e => by
  have : (-1 : Int32) < 0 := by decide
  rw [← e] at this; exact nI_pos h this
end
section
variable {K : Nat → Nat} {n : Nat} {T : Nat → Nat × Bool × Int32}
variable {f_lines f_studied f_wrong f_wrongAt f_brief f_on f_dropped f_steps f_nextLine f_repeats : Int32} {a_kinds a_firsts a_seconds a_thirds a_inputs a_home a_depth a_closer a_mate a_operands a_varies a_parted a_variableVaries a_same a_fixed a_worth a_needed a_variableNeeded a_values a_variables a_outputs a_cells a_whole a_waiting : Nat → Int32}
theorem sx_stands (hn : n ≤ 48) {post : Int32 → Prop} {i w s : Nat} (hi : i < n) (hw : i ≤ w) (hs : s < 3) (hO : ∀ s, s < 3 → (sc_us (K i) s → a_operands (3 * i + s) = sc_o3 a_firsts a_seconds a_thirds s i) ∧ (¬ sc_us (K i) s → a_operands (3 * i + s) = -1)) (hv : ∀ s, s < 3 → sc_us (K i) s → sc_ov K a_firsts a_seconds a_thirds s i) (hS : ∀ j, j < w → a_same j = nI (T j).1) (h : post (sh_v K a_firsts a_seconds a_thirds T s i)) : wpX_standsFor post (f_lines, f_studied, f_wrong, f_wrongAt, f_brief, f_on, f_dropped, f_steps, f_nextLine, f_repeats, a_kinds, a_firsts, a_seconds, a_thirds, a_inputs, a_home, a_depth, a_closer, a_mate, a_operands, a_varies, a_parted, a_variableVaries, a_same, a_fixed, a_worth, a_needed, a_variableNeeded, a_values, a_variables, a_outputs, a_cells, a_whole, a_waiting) (nI i) (nI s) := by
  have ea : nI i * 3 + nI s = nI (3 * i + s) := nb_34
  have ca : (nI i * 3 + nI s).toNatClampNeg = 3 * i + s := by rw [ea, nI_clamp (by omega)]
  refine ⟨by rw [ea]; exact vp_in_nI (by omega) (by omega), ?_⟩
  rw [ca]
  by_cases hu : sc_us (K i) s
  · obtain ⟨hlt, eo, _⟩ := sh_ov_lt (by omega) (hv s hs hu)
    rw [(hO s hs).1 hu, eo]
    refine nm_e (br_f (nI_m1ne (by omega)) ⟨vp_in_nI (by omega) (by omega), ?_⟩)
    rw [nI_clamp (by omega), hS _ (by omega)]
    rw [sh_v_u hu] at h
    exact h
  · rw [(hO s hs).2 hu]
    rw [sh_v_n hu] at h
    exact nm_e (br_t rfl h)
theorem sh_v_eq {A B C : Nat → Int32} {s i j : Nat} (hs : s < 3) (hi : i < 48) (hj : j < i) (hk : K i = K j) (hvi : ∀ s, s < 3 → sc_us (K i) s → sc_ov K A B C s i) (hvj : ∀ s, s < 3 → sc_us (K j) s → sc_ov K A B C s j) (hg : ∀ j, j < i → (T j).1 ≤ j) : sh_v K A B C T s i = sh_v K A B C T s j ↔ (sc_us (K i) s → (T (sh_o A B C s i)).1 = (T (sh_o A B C s j)).1) := by
  by_cases hu : sc_us (K i) s
  · have hu' : sc_us (K j) s := by rw [← hk]; exact hu
    rw [sh_v_u hu, sh_v_u hu']
    have a := (sh_ov_lt (by omega) (hvi s hs hu)).1
    have b := (sh_ov_lt (by omega) (hvj s hs hu')).1
    have ga := hg _ a
    have gb := hg (sh_o A B C s j) (by omega)
    rw [nI_eq (by omega) (by omega)]
    exact ⟨fun h _ => h, fun h => h hu⟩
  · have hu' : ¬ sc_us (K j) s := by rw [← hk]; exact hu
    rw [sh_v_n hu, sh_v_n hu']
    exact ⟨fun _ h => absurd h hu, fun _ => rfl⟩
theorem sx_alike (hP : xv_P K n a_kinds a_firsts a_seconds a_thirds a_home a_mate a_operands) {post : Int32 → Prop} {i j : Nat} {f : Bool} {v : Int32} (hi : i < n) (hj : j < i) (hR : ∀ j, j < i → a_same j = nI (T j).1 ∧ a_fixed j = sh_bI (T j).2.1 ∧ a_worth j = (T j).2.2) (hg : ∀ j, j < i → (T j).1 ≤ j) (hf : a_fixed i = sh_bI f) (hw : a_worth i = v)
    (h1 : ((f = true ∧ (T j).2.1 = true ∧ v = (T j).2.2) ∨ (f = false ∧ (T j).2.1 = false ∧ K i = K j ∧ ((K i = 1 ∧ a_firsts i = a_firsts j) ∨ (K i ≠ 1 ∧ sh_al K a_firsts a_seconds a_thirds T i j)))) → post 1)
    (h0 : ¬ ((f = true ∧ (T j).2.1 = true ∧ v = (T j).2.2) ∨ (f = false ∧ (T j).2.1 = false ∧ K i = K j ∧ ((K i = 1 ∧ a_firsts i = a_firsts j) ∨ (K i ≠ 1 ∧ sh_al K a_firsts a_seconds a_thirds T i j)))) → post 0) : wpX_alike post (f_lines, f_studied, f_wrong, f_wrongAt, f_brief, f_on, f_dropped, f_steps, f_nextLine, f_repeats, a_kinds, a_firsts, a_seconds, a_thirds, a_inputs, a_home, a_depth, a_closer, a_mate, a_operands, a_varies, a_parted, a_variableVaries, a_same, a_fixed, a_worth, a_needed, a_variableNeeded, a_values, a_variables, a_outputs, a_cells, a_whole, a_waiting) (nI i) (nI j) := by
  obtain ⟨hn, hK, hgd, h4, hok, hH, hO⟩ := hP
  have ci : (nI i).toNatClampNeg = i := nI_clamp (by omega)
  have cj : (nI j).toNatClampNeg = j := nI_clamp (by omega)
  have ii : vp_in (nI i) 48 := vp_in_nI (by omega) (by omega)
  have ij : vp_in (nI j) 48 := vp_in_nI (by omega) (by omega)
  obtain ⟨r1, r2, r3⟩ := hR j hj
  have ki := hK i hi
  have kj := hK j (by omega)
  have t18 : (f = true ∨ (T j).2.1 = true) → wX_alike_18 post (nI i) (nI j) f_lines f_studied f_wrong f_wrongAt f_brief f_on f_dropped f_steps f_nextLine f_repeats a_kinds a_firsts a_seconds a_thirds a_inputs a_home a_depth a_closer a_mate a_operands a_varies a_parted a_variableVaries a_same a_fixed a_worth a_needed a_variableNeeded a_values a_variables a_outputs a_cells a_whole a_waiting := by
    intro hor
    refine ⟨ii, ?_⟩
    rw [ci, cj, hf, r2, hw, r3]
    refine br_c (fun hz => h0 ?_) (fun hz => ⟨ij, br_c (fun hz' => h0 ?_) (fun hz' => ⟨ii, ij, br_c (fun he => h1 (Or.inl ⟨sh_bI_n hz, sh_bI_n hz', he⟩)) (fun he => h0 ?_)⟩)⟩)
    · have := sh_bI_0 hz
      rintro (⟨a, _⟩ | ⟨_, b, _⟩)
      · rw [this] at a; cases a
      · rcases hor with h | h
        · rw [this] at h; cases h
        · rw [b] at h; cases h
    · have := sh_bI_0 hz'
      have t := sh_bI_n hz
      rintro (⟨_, a, _⟩ | ⟨b, _⟩)
      · rw [this] at a; cases a
      · rw [b] at t; cases t
    · have t := sh_bI_n hz
      rintro (⟨_, _, a⟩ | ⟨b, _⟩)
      · exact he a
      · rw [b] at t; cases t
  refine ⟨ii, ?_⟩
  rw [ci, cj, hf, r2]
  refine br_c (fun hz => ⟨ij, br_c (fun hz' => ⟨ii, ?_⟩) (fun hz' => t18 (Or.inr (sh_bI_n hz')))⟩) (fun hz => t18 (Or.inl (sh_bI_n hz)))
  have ef := sh_bI_0 hz
  have eF := sh_bI_0 hz'
  have only : (K i = K j ∧ ((K i = 1 ∧ a_firsts i = a_firsts j) ∨ (K i ≠ 1 ∧ sh_al K a_firsts a_seconds a_thirds T i j)) → post 1) ∧ (¬ (K i = K j ∧ ((K i = 1 ∧ a_firsts i = a_firsts j) ∨ (K i ≠ 1 ∧ sh_al K a_firsts a_seconds a_thirds T i j))) → post 0) := by
    refine ⟨fun h => h1 (Or.inr ⟨ef, eF, h⟩), fun h => h0 ?_⟩
    rintro (⟨a, _⟩ | ⟨_, _, b⟩)
    · rw [ef] at a; cases a
    · exact h b
  rw [ki.1]
  refine nm_e ⟨ij, ?_⟩
  rw [kj.1]
  refine pk_eq (K i) (K j) (fun hk => pk_eq (K i) 1 (fun h11 => ⟨ii, ij, br_c (fun he => only.1 ⟨hk, Or.inl ⟨h11, he⟩⟩) (fun he => only.2 ?_)⟩) (fun h11 => ?_)) (fun hk => only.2 (fun h => hk h.1))
  · rintro ⟨_, ⟨_, h⟩ | ⟨h, _⟩⟩
    · exact he h
    · exact h h11
  · have yes : sh_al K a_firsts a_seconds a_thirds T i j → post 1 := fun h => only.1 ⟨hk, Or.inr ⟨h11, h⟩⟩
    have no : ¬ sh_al K a_firsts a_seconds a_thirds T i j → post 0 := fun h => only.2 (by
      rintro ⟨_, ⟨h', _⟩ | ⟨_, h'⟩⟩
      · exact h11 h'
      · exact h h')
    have S : ∀ j, j < i → a_same j = nI (T j).1 := fun j hj => (hR j hj).1
    have ve : ∀ s, s < 3 → (sh_v K a_firsts a_seconds a_thirds T s i = sh_v K a_firsts a_seconds a_thirds T s j ↔ (sc_us (K i) s → (T (sh_o a_firsts a_seconds a_thirds s i)).1 = (T (sh_o a_firsts a_seconds a_thirds s j)).1)) := fun s hs => sh_v_eq hs (by omega) hj hk (hok i hi) (hok j (by omega)) hg
    refine sx_stands (K := K) (T := T) (s := 0) hn hi (Nat.le_refl _) (by omega) (hO i hi) (hok i hi) S ?_
    refine sx_stands (K := K) (T := T) (s := 1) hn hi (Nat.le_refl _) (by omega) (hO i hi) (hok i hi) S ?_
    refine sx_stands (K := K) (T := T) (s := 2) hn hi (Nat.le_refl _) (by omega) (hO i hi) (hok i hi) S ?_
    refine sx_stands (K := K) (T := T) (s := 0) (w := i) hn (show j < n by omega) (by omega) (by omega) (hO j (by omega)) (hok j (by omega)) S ?_
    refine sx_stands (K := K) (T := T) (s := 1) (w := i) hn (show j < n by omega) (by omega) (by omega) (hO j (by omega)) (hok j (by omega)) S ?_
    refine sx_stands (K := K) (T := T) (s := 2) (w := i) hn (show j < n by omega) (by omega) (by omega) (hO j (by omega)) (hok j (by omega)) S ?_
    have t200 : ∀ z : Int32, (z = 1 ∧ (K i = 3 ∨ K i = 5 ∨ K i = 7 ∨ K i = 8) ∨ z = 0 ∧ ¬ (K i = 3 ∨ K i = 5 ∨ K i = 7 ∨ K i = 8)) → (¬ ∀ s, s < 3 → sh_v K a_firsts a_seconds a_thirds T s i = sh_v K a_firsts a_seconds a_thirds T s j) → wX_alike_200 post (sh_v K a_firsts a_seconds a_thirds T 0 i) (sh_v K a_firsts a_seconds a_thirds T 1 i) (sh_v K a_firsts a_seconds a_thirds T 0 j) (sh_v K a_firsts a_seconds a_thirds T 1 j) z f_lines f_studied f_wrong f_wrongAt f_brief f_on f_dropped f_steps f_nextLine f_repeats a_kinds a_firsts a_seconds a_thirds a_inputs a_home a_depth a_closer a_mate a_operands a_varies a_parted a_variableVaries a_same a_fixed a_worth a_needed a_variableNeeded a_values a_variables a_outputs a_cells a_whole a_waiting := by
      intro z hz hne
      have ne1 : ¬ ∀ s, s < 3 → sc_us (K i) s → (T (sh_o a_firsts a_seconds a_thirds s i)).1 = (T (sh_o a_firsts a_seconds a_thirds s j)).1 := fun h => hne (fun s hs => (ve s hs).mpr (h s hs))
      rcases hz with ⟨rfl, ht⟩ | ⟨rfl, ht⟩
      · have u0 : sc_us (K i) 0 := by unfold sc_us; omega
        have u1 : sc_us (K i) 1 := by unfold sc_us; omega
        have u0' : sc_us (K j) 0 := by rw [← hk]; exact u0
        have u1' : sc_us (K j) 1 := by rw [← hk]; exact u1
        rw [sh_v_u u0, sh_v_u u1, sh_v_u u0', sh_v_u u1']
        have a0 := (sh_ov_lt (by omega) (hok i hi 0 (by omega) u0)).1
        have a1 := (sh_ov_lt (by omega) (hok i hi 1 (by omega) u1)).1
        have b0 := (sh_ov_lt (by omega) (hok j (by omega) 0 (by omega) u0')).1
        have b1 := (sh_ov_lt (by omega) (hok j (by omega) 1 (by omega) u1')).1
        have ga0 := hg _ a0
        have ga1 := hg _ a1
        have gb0 := hg (sh_o a_firsts a_seconds a_thirds 0 j) (by omega)
        have gb1 := hg (sh_o a_firsts a_seconds a_thirds 1 j) (by omega)
        refine br_f (by decide) (pk_eq (T (sh_o a_firsts a_seconds a_thirds 0 i)).1 (T (sh_o a_firsts a_seconds a_thirds 1 j)).1 (fun e1 => pk_eq (T (sh_o a_firsts a_seconds a_thirds 1 i)).1 (T (sh_o a_firsts a_seconds a_thirds 0 j)).1 (fun e2 => yes (Or.inr ⟨ht, e1, e2⟩)) (fun e2 => no ?_)) (fun e1 => no ?_))
        · rintro (h | ⟨_, _, h⟩)
          · exact ne1 h
          · exact e2 h
        · rintro (h | ⟨_, h, _⟩)
          · exact ne1 h
          · exact e1 h
      · refine br_t rfl (no ?_)
        rintro (h | ⟨h, _⟩)
        · exact ne1 h
        · exact ht h
    have t177 : ∀ z : Int32, (z = 1 ∧ (K i = 3 ∨ K i = 5 ∨ K i = 7 ∨ K i = 8) ∨ z = 0 ∧ ¬ (K i = 3 ∨ K i = 5 ∨ K i = 7 ∨ K i = 8)) → wX_alike_177 post (sh_v K a_firsts a_seconds a_thirds T 0 i) (sh_v K a_firsts a_seconds a_thirds T 1 i) (sh_v K a_firsts a_seconds a_thirds T 2 i) (sh_v K a_firsts a_seconds a_thirds T 0 j) (sh_v K a_firsts a_seconds a_thirds T 1 j) (sh_v K a_firsts a_seconds a_thirds T 2 j) z f_lines f_studied f_wrong f_wrongAt f_brief f_on f_dropped f_steps f_nextLine f_repeats a_kinds a_firsts a_seconds a_thirds a_inputs a_home a_depth a_closer a_mate a_operands a_varies a_parted a_variableVaries a_same a_fixed a_worth a_needed a_variableNeeded a_values a_variables a_outputs a_cells a_whole a_waiting := by
      intro z hz
      refine br_c (fun e0 => br_c (fun e1 => br_c (fun e2 => yes (Or.inl (fun s hs hu => ?_))) (fun e2 => t200 z hz (fun h => e2 (h 2 (by omega))))) (fun e1 => t200 z hz (fun h => e1 (h 1 (by omega))))) (fun e0 => t200 z hz (fun h => e0 (h 0 (by omega))))
      have : s = 0 ∨ s = 1 ∨ s = 2 := by omega
      rcases this with rfl | rfl | rfl
      · exact (ve 0 (by omega)).mp e0 hu
      · exact (ve 1 (by omega)).mp e1 hu
      · exact (ve 2 (by omega)).mp e2 hu
    exact pk_eq (K i) 3 (fun h => t177 1 (Or.inl ⟨rfl, by omega⟩)) (fun n3 => pk_eq (K i) 5 (fun h => t177 1 (Or.inl ⟨rfl, by omega⟩)) (fun n5 => pk_eq (K i) 7 (fun h => t177 1 (Or.inl ⟨rfl, by omega⟩)) (fun n7 => pk_eq (K i) 8 (fun h => t177 1 (Or.inl ⟨rfl, by omega⟩)) (fun n8 => t177 0 (Or.inr ⟨rfl, by omega⟩)))))
theorem sx_first41 (hP : xv_P K n a_kinds a_firsts a_seconds a_thirds a_home a_mate a_operands) {post : Int32 → Prop} {i : Nat} {f : Bool} {v : Int32} (hi : i < n) (hR : ∀ j, j < i → a_same j = nI (T j).1 ∧ a_fixed j = sh_bI (T j).2.1 ∧ a_worth j = (T j).2.2) (hg : ∀ j, j < i → (T j).1 ≤ j) (hf : a_fixed i = sh_bI f) (hw : a_worth i = v)
    (h : ∀ r, sh_F (sh_P K a_firsts a_seconds a_thirds T i f v) i r → post (nI r)) : ∀ d t : Nat, t + d = i → (∀ j, j < t → ¬ sh_P K a_firsts a_seconds a_thirds T i f v j) → wX_firstAlike_41 post (nI i) 1 f_lines f_studied f_wrong f_wrongAt f_brief f_on f_dropped f_steps f_nextLine f_repeats a_kinds a_firsts a_seconds a_thirds a_inputs a_home a_depth a_closer a_mate a_operands a_varies a_parted a_variableVaries a_same a_fixed a_worth a_needed a_variableNeeded a_values a_variables a_outputs a_cells a_whole a_waiting (d + 1) (nI t) := by
  have hP' := hP
  obtain ⟨hn, hK, hgd, h4, hok, hH, hO⟩ := hP'
  intro d
  induction d with
  | zero =>
    intro t ht hno
    cases (show t = i by omega)
    exact br_t (nI_le (Nat.le_refl _) (by omega)) (h i (Or.inl ⟨rfl, hno⟩))
  | succ d ih =>
    intro t ht hno
    have ct : (nI t).toNatClampNeg = t := nI_clamp (by omega)
    have it : vp_in (nI t) 48 := vp_in_nI (by omega) (by omega)
    have gt := hg t (by omega)
    have next : ¬ sh_P K a_firsts a_seconds a_thirds T i f v t → wX_firstAlike_41 post (nI i) 1 f_lines f_studied f_wrong f_wrongAt f_brief f_on f_dropped f_steps f_nextLine f_repeats a_kinds a_firsts a_seconds a_thirds a_inputs a_home a_depth a_closer a_mate a_operands a_varies a_parted a_variableVaries a_same a_fixed a_worth a_needed a_variableNeeded a_values a_variables a_outputs a_cells a_whole a_waiting (d + 1) (nI (t + 1)) := fun hn' =>
      ih (t + 1) (by omega) (fun j hj => by
        by_cases e : j = t
        · rw [e]; exact hn'
        · exact hno j (by omega))
    refine br_f (nI_ge (by omega) (by omega)) (br_f (by decide) ⟨it, ?_⟩)
    rw [ct, (hR t (by omega)).1]
    refine pk_eq (T t).1 t (fun es => ?_) (fun es => nm_r (nI_1 t) (next (fun hp => es hp.1)))
    refine sx_alike (K := K) (n := n) (T := T) hP hi (by omega) hR hg hf hw (fun ha => br_f (by decide) ⟨it, ?_⟩) (fun ha => br_t rfl (nm_r (nI_1 t) (next (fun hp => ha hp.2.2))))
    have gt1 : sc_good K (t + 1) := sc_good_le hgd (by omega)
    have hle := sc_hdl_le gt1
    rw [(hH t (by omega)).1]
    exact xs_isOpen (K := K) hn (Nat.le_refl n) hgd (fun j hj => (hH j hj).1) (by omega) hi (fun ho => br_f (by decide) (h t (Or.inr ⟨by omega, ⟨es, ho, ha⟩, hno⟩))) (fun ho => br_t rfl (nm_r (nI_1 t) (next (fun hp => ho hp.2.1))))
theorem sx_first (hP : xv_P K n a_kinds a_firsts a_seconds a_thirds a_home a_mate a_operands) {post : Int32 → Prop} {i : Nat} {f : Bool} {v : Int32} (hi : i < n) (hR : ∀ j, j < i → a_same j = nI (T j).1 ∧ a_fixed j = sh_bI (T j).2.1 ∧ a_worth j = (T j).2.2) (hg : ∀ j, j < i → (T j).1 ≤ j) (hf : a_fixed i = sh_bI f) (hw : a_worth i = v)
    (h : sh_cmp (K i) → ∀ r, sh_F (sh_P K a_firsts a_seconds a_thirds T i f v) i r → post (nI r)) (h' : ¬ sh_cmp (K i) → post (nI i)) : wpX_firstAlike post (f_lines, f_studied, f_wrong, f_wrongAt, f_brief, f_on, f_dropped, f_steps, f_nextLine, f_repeats, a_kinds, a_firsts, a_seconds, a_thirds, a_inputs, a_home, a_depth, a_closer, a_mate, a_operands, a_varies, a_parted, a_variableVaries, a_same, a_fixed, a_worth, a_needed, a_variableNeeded, a_values, a_variables, a_outputs, a_cells, a_whole, a_waiting) (nI i) := by
  have hP' := hP
  obtain ⟨hn, hK, hgd, h4, hok, hH, hO⟩ := hP'
  have ci : (nI i).toNatClampNeg = i := nI_clamp (by omega)
  have ii : vp_in (nI i) 48 := vp_in_nI (by omega) (by omega)
  have ki := hK i hi
  have go : sh_cmp (K i) → ∃ m, wX_firstAlike_41 post (nI i) 1 f_lines f_studied f_wrong f_wrongAt f_brief f_on f_dropped f_steps f_nextLine f_repeats a_kinds a_firsts a_seconds a_thirds a_inputs a_home a_depth a_closer a_mate a_operands a_varies a_parted a_variableVaries a_same a_fixed a_worth a_needed a_variableNeeded a_values a_variables a_outputs a_cells a_whole a_waiting m 0 := fun hc =>
    ⟨i + 1, sx_first41 (K := K) (n := n) (T := T) hP hi hR hg hf hw (h hc) i 0 (by omega) (fun j hj => by omega)⟩
  refine ⟨ii, ?_⟩
  rw [ci, ki.1]
  refine pk_le (K i) 10 (fun h10 => go (Or.inl h10)) (fun h10 => ⟨ii, pk_eq (K i) 12 (fun h12 => go (Or.inr (Or.inl h12))) (fun h12 => ⟨ii, pk_eq (K i) 13 (fun h13 => go (Or.inr (Or.inr h13))) (fun h13 => ⟨1, ?_⟩)⟩)⟩)
  have hp := h' (by unfold sh_cmp; omega)
  exact br_c (fun _ => hp) (fun _ => br_t rfl hp)
end
end
section
section
variable {K : Nat → Nat} {n : Nat} {T : Nat → Nat × Bool × Int32}
variable {f_lines f_studied f_wrong f_wrongAt f_brief f_on f_dropped f_steps f_nextLine f_repeats : Int32} {a_kinds a_firsts a_seconds a_thirds a_inputs a_home a_depth a_closer a_mate a_operands a_varies a_parted a_variableVaries a_same a_fixed a_worth a_needed a_variableNeeded a_values a_variables a_outputs a_cells a_whole a_waiting : Nat → Int32}
theorem sx_fix {post : SX → Prop} {i : Nat} {v : Int32} (hi : i < 48) (h : post (f_lines, f_studied, f_wrong, f_wrongAt, f_brief, f_on, f_dropped, f_steps, f_nextLine, f_repeats, a_kinds, a_firsts, a_seconds, a_thirds, a_inputs, a_home, a_depth, a_closer, a_mate, a_operands, a_varies, a_parted, a_variableVaries, a_same, upd a_fixed i 1, upd a_worth i v, a_needed, a_variableNeeded, a_values, a_variables, a_outputs, a_cells, a_whole, a_waiting)) : wpX_fix post (f_lines, f_studied, f_wrong, f_wrongAt, f_brief, f_on, f_dropped, f_steps, f_nextLine, f_repeats, a_kinds, a_firsts, a_seconds, a_thirds, a_inputs, a_home, a_depth, a_closer, a_mate, a_operands, a_varies, a_parted, a_variableVaries, a_same, a_fixed, a_worth, a_needed, a_variableNeeded, a_values, a_variables, a_outputs, a_cells, a_whole, a_waiting) (nI i) v := by
  have ci : (nI i).toNatClampNeg = i := nI_clamp (by omega)
  have ii : vp_in (nI i) 48 := vp_in_nI hi (by omega)
  exact ⟨ii, nm_r (by rw [ci, xv_nar1]) ⟨ii, nm_r (by rw [ci]) h⟩⟩
theorem sx_isFixedAt {post : Int32 → Prop} {x : Nat} {v : Int32} (hx : x < 48) (hf : a_fixed x = sh_bI (T x).2.1) (hw : a_worth x = (T x).2.2) (h1 : sh_is T x v = true → post 1) (h0 : sh_is T x v = false → post 0) : wpX_isFixedAt post (f_lines, f_studied, f_wrong, f_wrongAt, f_brief, f_on, f_dropped, f_steps, f_nextLine, f_repeats, a_kinds, a_firsts, a_seconds, a_thirds, a_inputs, a_home, a_depth, a_closer, a_mate, a_operands, a_varies, a_parted, a_variableVaries, a_same, a_fixed, a_worth, a_needed, a_variableNeeded, a_values, a_variables, a_outputs, a_cells, a_whole, a_waiting) (nI x) v := by
  have ci : (nI x).toNatClampNeg = x := nI_clamp (by omega)
  have ii : vp_in (nI x) 48 := vp_in_nI hx (by omega)
  refine ⟨ii, ?_⟩
  rw [ci, hf, hw]
  refine br_c (fun hz => h0 ?_) (fun hz => ⟨ii, br_c (fun he => h1 ?_) (fun he => h0 ?_)⟩)
  · unfold sh_is; rw [sh_bI_0 hz]; rfl
  · unfold sh_is; rw [sh_bI_n hz, he]; simp
  · unfold sh_is; rw [sh_bI_n hz]; simp [he]
theorem sx_leaves {post : Int32 → Prop} {k y : Nat} (hk : k ≤ 25) (hy : y < 48) (hf : a_fixed y = sh_bI (T y).2.1) (hw : a_worth y = (T y).2.2) (h1 : ((k = 3 ∨ k = 4) ∧ sh_is T y 0 = true) ∨ (k = 5 ∧ sh_is T y 1 = true) → post 1) (h0 : ¬ (((k = 3 ∨ k = 4) ∧ sh_is T y 0 = true) ∨ (k = 5 ∧ sh_is T y 1 = true)) → post 0) : wpX_leaves post (f_lines, f_studied, f_wrong, f_wrongAt, f_brief, f_on, f_dropped, f_steps, f_nextLine, f_repeats, a_kinds, a_firsts, a_seconds, a_thirds, a_inputs, a_home, a_depth, a_closer, a_mate, a_operands, a_varies, a_parted, a_variableVaries, a_same, a_fixed, a_worth, a_needed, a_variableNeeded, a_values, a_variables, a_outputs, a_cells, a_whole, a_waiting) (nI k) (nI y) := by
  have t24 : (k = 3 ∨ k = 4) → wX_leaves_24 post (nI y) f_lines f_studied f_wrong f_wrongAt f_brief f_on f_dropped f_steps f_nextLine f_repeats a_kinds a_firsts a_seconds a_thirds a_inputs a_home a_depth a_closer a_mate a_operands a_varies a_parted a_variableVaries a_same a_fixed a_worth a_needed a_variableNeeded a_values a_variables a_outputs a_cells a_whole a_waiting := fun hk34 =>
    sx_isFixedAt (T := T) hy hf hw (fun h => br_f (by decide) (h1 (Or.inl ⟨hk34, h⟩))) (fun h => br_t rfl (h0 (by
      rintro (⟨_, h'⟩ | ⟨h', _⟩)
      · rw [h] at h'; cases h'
      · omega)))
  refine pk_eq k 5 (fun h5 => ?_) (fun h5 => pk_eq k 3 (fun h => t24 (Or.inl h)) (fun h3 => pk_eq k 4 (fun h => t24 (Or.inr h)) (fun h4 => h0 (by omega))))
  refine sx_isFixedAt (T := T) hy hf hw (fun h => ⟨xs_nb1, h1 (Or.inr ⟨h5, h⟩)⟩) (fun h => ⟨xs_nb0, h0 ?_⟩)
  rintro (⟨h', _⟩ | ⟨_, h'⟩)
  · omega
  · rw [h] at h'; cases h'
theorem sx_result {post : Int32 → Prop} {k : Nat} {x y : Int32} (h3 : 3 ≤ k) (h9 : k ≤ 9) (h : post (sh_rk k x y)) : wpX_result post (nI k) x y := by
  unfold sh_rk at h
  refine pk_lt k 3 (fun h' => absurd h' (by omega)) (fun _ => pk_lt 8 k (fun h8 => ?_) (fun h8 => pk_eq k 3 (fun e => ?_) (fun n3 => pk_eq k 4 (fun e => ?_) (fun n4 => pk_eq k 5 (fun e => ?_) (fun n5 => pk_eq k 6 (fun e => ?_) (fun n6 => pk_eq k 7 (fun e => ?_) (fun n7 => pk_eq k 8 (fun e => ?_) (fun n8 => trivial))))))))
  · rw [if_neg (by omega), if_neg (by omega), if_neg (by omega), if_neg (by omega), if_neg (by omega), if_neg (by omega)] at h
    exact br_c (fun e => by rw [if_pos e] at h; exact h) (fun e => by rw [if_neg e] at h; exact h)
  · rw [if_pos e] at h; exact h
  · rw [if_neg n3, if_pos e] at h; exact h
  · rw [if_neg n3, if_neg n4, if_pos e] at h; exact h
  · rw [if_neg n3, if_neg n4, if_neg n5, if_pos e] at h
    exact br_c (fun e => by rw [if_pos e] at h; exact h) (fun e => by rw [if_neg e] at h; exact h)
  · rw [if_neg n3, if_neg n4, if_neg n5, if_neg n6, if_pos e] at h
    exact br_c (fun e => by rw [if_pos e] at h; exact h) (fun e => by rw [if_neg e] at h; exact h)
  · rw [if_neg n3, if_neg n4, if_neg n5, if_neg n6, if_neg n7, if_pos e] at h
    exact br_c (fun e => by rw [if_pos e] at h; exact h) (fun e => by
      rw [if_neg e] at h
      exact br_c (fun e => by rw [if_pos e] at h; exact h) (fun e => by rw [if_neg e] at h; exact h))
theorem sh_is_F {x : Nat} {v : Int32} (h : sh_is T x v = true) : (T x).2.1 = true := by
  unfold sh_is at h; simp only [Bool.and_eq_true] at h; exact h.1
/-- ADD to NOT of x and y -/
theorem sx_sum28 (hn : n ≤ 48) {post : SX → Prop} {i x y : Nat} (hi : i < n) (hki : a_kinds i = nI (K i)) (h3 : 3 ≤ K i) (h9 : K i ≤ 9) (hx : x < i) (hy : y < i) (hR : ∀ j, j < i → a_same j = nI (T j).1 ∧ a_fixed j = sh_bI (T j).2.1 ∧ a_worth j = (T j).2.2)
    (hc : ∀ t, t < i → sh_sum K T i x y = (t, (T t).2) → post (f_lines, f_studied, f_wrong, f_wrongAt, f_brief, f_on, f_dropped, f_steps, f_nextLine, f_repeats, a_kinds, a_firsts, a_seconds, a_thirds, a_inputs, a_home, a_depth, a_closer, a_mate, a_operands, a_varies, a_parted, a_variableVaries, upd a_same i (nI t), a_fixed, a_worth, a_needed, a_variableNeeded, a_values, a_variables, a_outputs, a_cells, a_whole, a_waiting))
    (hm : ∀ v, sh_sum K T i x y = (i, true, v) → post (f_lines, f_studied, f_wrong, f_wrongAt, f_brief, f_on, f_dropped, f_steps, f_nextLine, f_repeats, a_kinds, a_firsts, a_seconds, a_thirds, a_inputs, a_home, a_depth, a_closer, a_mate, a_operands, a_varies, a_parted, a_variableVaries, a_same, upd a_fixed i 1, upd a_worth i v, a_needed, a_variableNeeded, a_values, a_variables, a_outputs, a_cells, a_whole, a_waiting))
    (hz : sh_sum K T i x y = (i, false, 0) → post (f_lines, f_studied, f_wrong, f_wrongAt, f_brief, f_on, f_dropped, f_steps, f_nextLine, f_repeats, a_kinds, a_firsts, a_seconds, a_thirds, a_inputs, a_home, a_depth, a_closer, a_mate, a_operands, a_varies, a_parted, a_variableVaries, a_same, a_fixed, a_worth, a_needed, a_variableNeeded, a_values, a_variables, a_outputs, a_cells, a_whole, a_waiting)) : wX_shortenSum_28 post (nI i) (nI x) (nI y) f_lines f_studied f_wrong f_wrongAt f_brief f_on f_dropped f_steps f_nextLine f_repeats a_kinds a_firsts a_seconds a_thirds a_inputs a_home a_depth a_closer a_mate a_operands a_varies a_parted a_variableVaries a_same a_fixed a_worth a_needed a_variableNeeded a_values a_variables a_outputs a_cells a_whole a_waiting := by
  have ci : (nI i).toNatClampNeg = i := nI_clamp (by omega)
  have ii : vp_in (nI i) 48 := vp_in_nI (by omega) (by omega)
  have cx : (nI x).toNatClampNeg = x := nI_clamp (by omega)
  have ix : vp_in (nI x) 48 := vp_in_nI (by omega) (by omega)
  have cy : (nI y).toNatClampNeg = y := nI_clamp (by omega)
  have iy : vp_in (nI y) 48 := vp_in_nI (by omega) (by omega)
  obtain ⟨_, fx, wx⟩ := hR x hx
  obtain ⟨_, fy, wy⟩ := hR y hy
  unfold sh_sum at hc hm hz
  have t80 : ¬ ((T x).2.1 = true ∧ (T y).2.1 = true) → wX_shortenSum_80 post (nI i) (nI x) (nI y) f_lines f_studied f_wrong f_wrongAt f_brief f_on f_dropped f_steps f_nextLine f_repeats a_kinds a_firsts a_seconds a_thirds a_inputs a_home a_depth a_closer a_mate a_operands a_varies a_parted a_variableVaries a_same a_fixed a_worth a_needed a_variableNeeded a_values a_variables a_outputs a_cells a_whole a_waiting := by
    intro nf
    rw [if_neg nf] at hc hm hz
    have t138 : ¬ (((K i = 3 ∨ K i = 4) ∧ sh_is T y 0 = true) ∨ (K i = 5 ∧ sh_is T y 1 = true)) → ¬ ((K i = 3 ∧ sh_is T x 0 = true) ∨ (K i = 5 ∧ sh_is T x 1 = true)) → wX_shortenSum_138 post (nI i) (nI x) (nI y) f_lines f_studied f_wrong f_wrongAt f_brief f_on f_dropped f_steps f_nextLine f_repeats a_kinds a_firsts a_seconds a_thirds a_inputs a_home a_depth a_closer a_mate a_operands a_varies a_parted a_variableVaries a_same a_fixed a_worth a_needed a_variableNeeded a_values a_variables a_outputs a_cells a_whole a_waiting := by
      intro ny nx
      rw [if_neg nx, if_neg ny] at hc hm hz
      have t0 : ((K i = 5 ∧ (sh_is T x 0 = true ∨ sh_is T y 0 = true)) ∨ (x = y ∧ (K i = 4 ∨ K i = 6))) → wpX_fix (fun u => match u with | (f_lines, f_studied, f_wrong, f_wrongAt, f_brief, f_on, f_dropped, f_steps, f_nextLine, f_repeats, a_kinds, a_firsts, a_seconds, a_thirds, a_inputs, a_home, a_depth, a_closer, a_mate, a_operands, a_varies, a_parted, a_variableVaries, a_same, a_fixed, a_worth, a_needed, a_variableNeeded, a_values, a_variables, a_outputs, a_cells, a_whole, a_waiting) => (post (f_lines, f_studied, f_wrong, f_wrongAt, f_brief, f_on, f_dropped, f_steps, f_nextLine, f_repeats, a_kinds, a_firsts, a_seconds, a_thirds, a_inputs, a_home, a_depth, a_closer, a_mate, a_operands, a_varies, a_parted, a_variableVaries, a_same, a_fixed, a_worth, a_needed, a_variableNeeded, a_values, a_variables, a_outputs, a_cells, a_whole, a_waiting))) (f_lines, f_studied, f_wrong, f_wrongAt, f_brief, f_on, f_dropped, f_steps, f_nextLine, f_repeats, a_kinds, a_firsts, a_seconds, a_thirds, a_inputs, a_home, a_depth, a_closer, a_mate, a_operands, a_varies, a_parted, a_variableVaries, a_same, a_fixed, a_worth, a_needed, a_variableNeeded, a_values, a_variables, a_outputs, a_cells, a_whole, a_waiting) (nI i) 0 := fun h => by
        rw [if_pos h] at hm
        exact sx_fix (by omega) (hm 0 rfl)
      have t175 : ¬ (K i = 5 ∧ (sh_is T x 0 = true ∨ sh_is T y 0 = true)) → wX_shortenSum_175 post (nI i) (nI x) (nI y) f_lines f_studied f_wrong f_wrongAt f_brief f_on f_dropped f_steps f_nextLine f_repeats a_kinds a_firsts a_seconds a_thirds a_inputs a_home a_depth a_closer a_mate a_operands a_varies a_parted a_variableVaries a_same a_fixed a_worth a_needed a_variableNeeded a_values a_variables a_outputs a_cells a_whole a_waiting := by
        intro n5
        have t210 : ¬ (x = y ∧ (K i = 4 ∨ K i = 6)) → wX_shortenSum_210 post (nI i) (nI x) (nI y) f_lines f_studied f_wrong f_wrongAt f_brief f_on f_dropped f_steps f_nextLine f_repeats a_kinds a_firsts a_seconds a_thirds a_inputs a_home a_depth a_closer a_mate a_operands a_varies a_parted a_variableVaries a_same a_fixed a_worth a_needed a_variableNeeded a_values a_variables a_outputs a_cells a_whole a_waiting := by
          intro n46
          rw [if_neg (by rintro (h | h); exact n5 h; exact n46 h)] at hm hz
          refine pk_eq x y (fun e => ⟨ii, ?_⟩) (fun e => ?_)
          · rw [ci, hki]
            refine pk_eq (K i) 7 (fun h7 => ?_) (fun h7 => ?_)
            · rw [if_pos ⟨e, h7⟩] at hm
              exact sx_fix (by omega) (hm 1 rfl)
            · rw [if_neg (fun h => h7 h.2)] at hz
              exact hz rfl
          · rw [if_neg (fun h => e h.1)] at hz
            exact hz rfl
        refine pk_eq x y (fun e => ⟨ii, ?_⟩) (fun e => t210 (fun h => e h.1))
        rw [ci, hki]
        exact pk_eq (K i) 4 (fun h4 => t0 (Or.inr ⟨e, Or.inl h4⟩)) (fun h4 => ⟨ii, pk_eq (K i) 6 (fun h6 => t0 (Or.inr ⟨e, Or.inr h6⟩)) (fun h6 => t210 (fun h => h.2.elim h4 h6))⟩)
      refine ⟨ii, ?_⟩
      rw [ci, hki]
      refine pk_eq (K i) 5 (fun h5 => ?_) (fun h5 => t175 (fun h => h5 h.1))
      refine sx_isFixedAt (T := T) (by omega) fx wx (fun h => br_f (by decide) (t0 (Or.inl ⟨h5, Or.inl h⟩))) (fun h => br_t rfl ?_)
      refine sx_isFixedAt (T := T) (by omega) fy wy (fun h' => br_f (by decide) (t0 (Or.inl ⟨h5, Or.inr h'⟩))) (fun h' => br_t rfl (t175 ?_))
      rintro ⟨_, h2 | h2⟩
      · rw [h] at h2; cases h2
      · rw [h'] at h2; cases h2
    refine ⟨ii, ?_⟩
    rw [ci, hki]
    refine sx_leaves (T := T) (by omega) (by omega) fy wy (fun hl => br_f (by decide) ⟨ii, nm_r (e' := upd a_same i (nI x)) rfl (hc x hx ?_)⟩) (fun hl => br_t rfl ⟨ii, ?_⟩)
    · have nx : ¬ ((K i = 3 ∧ sh_is T x 0 = true) ∨ (K i = 5 ∧ sh_is T x 1 = true)) := by
        have Fy : (T y).2.1 = true := by
          rcases hl with ⟨_, h⟩ | ⟨_, h⟩
          · exact sh_is_F h
          · exact sh_is_F h
        rintro (⟨_, h⟩ | ⟨_, h⟩)
        · exact nf ⟨sh_is_F h, Fy⟩
        · exact nf ⟨sh_is_F h, Fy⟩
      rw [if_neg nx, if_pos hl]
    · refine pk_eq (K i) 4 (fun h4 => t138 hl (by omega)) (fun h4 => ⟨ii, ?_⟩)
      refine sx_leaves (T := T) (by omega) (by omega) fx wx (fun hlx => br_f (by decide) ⟨ii, nm_r (e' := upd a_same i (nI y)) rfl (hc y hy ?_)⟩) (fun hlx => br_t rfl (t138 hl ?_))
      · rw [if_pos]
        rcases hlx with ⟨h, h'⟩ | h
        · exact Or.inl ⟨by omega, h'⟩
        · exact Or.inr h
      · rintro (⟨h, h'⟩ | h)
        · exact hlx (Or.inl ⟨Or.inl h, h'⟩)
        · exact hlx (Or.inr h)
  refine ⟨ix, ?_⟩
  rw [cx, cy, fx, fy]
  refine br_c (fun hz' => t80 (fun h => by rw [sh_bI_0 hz'] at h; cases h.1)) (fun hz' => ⟨iy, br_c (fun hz2 => t80 (fun h => by rw [sh_bI_0 hz2] at h; cases h.2)) (fun hz2 => ⟨ii, ix, iy, ?_⟩)⟩)
  rw [if_pos ⟨sh_bI_n hz', sh_bI_n hz2⟩] at hm
  rw [ci, hki, wx, wy]
  exact sx_result h3 h9 (sx_fix (by omega) (hm _ rfl))
theorem sx_sum (hP : xv_P K n a_kinds a_firsts a_seconds a_thirds a_home a_mate a_operands) {post : SX → Prop} {i : Nat} (hi : i < n) (h3 : 3 ≤ K i) (h9 : K i ≤ 9) (hR : ∀ j, j < i → a_same j = nI (T j).1 ∧ a_fixed j = sh_bI (T j).2.1 ∧ a_worth j = (T j).2.2) (hg : ∀ j, j < i → (T j).1 ≤ j)
    (hc : ∀ t, t < i → sh_1 K a_firsts a_seconds a_thirds T i = (t, (T t).2) → post (f_lines, f_studied, f_wrong, f_wrongAt, f_brief, f_on, f_dropped, f_steps, f_nextLine, f_repeats, a_kinds, a_firsts, a_seconds, a_thirds, a_inputs, a_home, a_depth, a_closer, a_mate, a_operands, a_varies, a_parted, a_variableVaries, upd a_same i (nI t), a_fixed, a_worth, a_needed, a_variableNeeded, a_values, a_variables, a_outputs, a_cells, a_whole, a_waiting))
    (hm : ∀ v, sh_1 K a_firsts a_seconds a_thirds T i = (i, true, v) → post (f_lines, f_studied, f_wrong, f_wrongAt, f_brief, f_on, f_dropped, f_steps, f_nextLine, f_repeats, a_kinds, a_firsts, a_seconds, a_thirds, a_inputs, a_home, a_depth, a_closer, a_mate, a_operands, a_varies, a_parted, a_variableVaries, a_same, upd a_fixed i 1, upd a_worth i v, a_needed, a_variableNeeded, a_values, a_variables, a_outputs, a_cells, a_whole, a_waiting))
    (hz : sh_1 K a_firsts a_seconds a_thirds T i = (i, false, 0) → post (f_lines, f_studied, f_wrong, f_wrongAt, f_brief, f_on, f_dropped, f_steps, f_nextLine, f_repeats, a_kinds, a_firsts, a_seconds, a_thirds, a_inputs, a_home, a_depth, a_closer, a_mate, a_operands, a_varies, a_parted, a_variableVaries, a_same, a_fixed, a_worth, a_needed, a_variableNeeded, a_values, a_variables, a_outputs, a_cells, a_whole, a_waiting)) : wpX_shortenSum post (f_lines, f_studied, f_wrong, f_wrongAt, f_brief, f_on, f_dropped, f_steps, f_nextLine, f_repeats, a_kinds, a_firsts, a_seconds, a_thirds, a_inputs, a_home, a_depth, a_closer, a_mate, a_operands, a_varies, a_parted, a_variableVaries, a_same, a_fixed, a_worth, a_needed, a_variableNeeded, a_values, a_variables, a_outputs, a_cells, a_whole, a_waiting) (nI i) := by
  obtain ⟨hn, hK, hgd, h4, hok, hH, hO⟩ := hP
  have ci : (nI i).toNatClampNeg = i := nI_clamp (by omega)
  have ii : vp_in (nI i) 48 := vp_in_nI (by omega) (by omega)
  have S : ∀ j, j < i → a_same j = nI (T j).1 := fun j hj => (hR j hj).1
  have u0 : sc_us (K i) 0 := by unfold sc_us; omega
  have o0 := (sh_ov_lt (by omega) (hok i hi 0 (by omega) u0)).1
  have g0 := hg _ o0
  have e1 : sh_1 K a_firsts a_seconds a_thirds T i = sh_sum K T i (T (sh_o a_firsts a_seconds a_thirds 0 i)).1 (if K i = 9 then (T (sh_o a_firsts a_seconds a_thirds 0 i)).1 else (T (sh_o a_firsts a_seconds a_thirds 1 i)).1) := by
    unfold sh_1; rw [if_neg (by omega), if_neg (by omega), if_pos ⟨h3, h9⟩]
  rw [e1] at hc hm hz
  unfold wpX_shortenSum
  refine sx_stands (K := K) (T := T) (s := 0) hn hi (Nat.le_refl _) (by omega) (hO i hi) (hok i hi) S ?_
  refine ⟨ii, ?_⟩
  rw [sh_v_u u0, ci, (hK i hi).1]
  refine pk_eq (K i) 9 (fun e9 => ?_) (fun e9 => ?_)
  · rw [if_pos e9] at hc hm hz
    exact sx_sum28 (K := K) (T := T) hn hi (hK i hi).1 h3 h9 (by omega) (by omega) hR hc hm hz
  · have u1 : sc_us (K i) 1 := by unfold sc_us; omega
    have o1 := (sh_ov_lt (by omega) (hok i hi 1 (by omega) u1)).1
    have g1 := hg _ o1
    rw [if_neg e9] at hc hm hz
    refine sx_stands (K := K) (T := T) (s := 1) hn hi (Nat.le_refl _) (by omega) (hO i hi) (hok i hi) S ?_
    rw [sh_v_u u1]
    exact sx_sum28 (K := K) (T := T) hn hi (hK i hi).1 h3 h9 (by omega) (by omega) hR hc hm hz
theorem sx_pick (hP : xv_P K n a_kinds a_firsts a_seconds a_thirds a_home a_mate a_operands) {post : SX → Prop} {i : Nat} (hi : i < n) (h10 : K i = 10) (hR : ∀ j, j < i → a_same j = nI (T j).1 ∧ a_fixed j = sh_bI (T j).2.1 ∧ a_worth j = (T j).2.2) (hg : ∀ j, j < i → (T j).1 ≤ j)
    (hc : ∀ t, t < i → sh_1 K a_firsts a_seconds a_thirds T i = (t, (T t).2) → post (f_lines, f_studied, f_wrong, f_wrongAt, f_brief, f_on, f_dropped, f_steps, f_nextLine, f_repeats, a_kinds, a_firsts, a_seconds, a_thirds, a_inputs, a_home, a_depth, a_closer, a_mate, a_operands, a_varies, a_parted, a_variableVaries, upd a_same i (nI t), a_fixed, a_worth, a_needed, a_variableNeeded, a_values, a_variables, a_outputs, a_cells, a_whole, a_waiting))
    (hz : sh_1 K a_firsts a_seconds a_thirds T i = (i, false, 0) → post (f_lines, f_studied, f_wrong, f_wrongAt, f_brief, f_on, f_dropped, f_steps, f_nextLine, f_repeats, a_kinds, a_firsts, a_seconds, a_thirds, a_inputs, a_home, a_depth, a_closer, a_mate, a_operands, a_varies, a_parted, a_variableVaries, a_same, a_fixed, a_worth, a_needed, a_variableNeeded, a_values, a_variables, a_outputs, a_cells, a_whole, a_waiting)) : wpX_shortenPick post (f_lines, f_studied, f_wrong, f_wrongAt, f_brief, f_on, f_dropped, f_steps, f_nextLine, f_repeats, a_kinds, a_firsts, a_seconds, a_thirds, a_inputs, a_home, a_depth, a_closer, a_mate, a_operands, a_varies, a_parted, a_variableVaries, a_same, a_fixed, a_worth, a_needed, a_variableNeeded, a_values, a_variables, a_outputs, a_cells, a_whole, a_waiting) (nI i) := by
  obtain ⟨hn, hK, hgd, h4, hok, hH, hO⟩ := hP
  have ci : (nI i).toNatClampNeg = i := nI_clamp (by omega)
  have ii : vp_in (nI i) 48 := vp_in_nI (by omega) (by omega)
  have S : ∀ j, j < i → a_same j = nI (T j).1 := fun j hj => (hR j hj).1
  have u0 : sc_us (K i) 0 := by unfold sc_us; omega
  have u1 : sc_us (K i) 1 := by unfold sc_us; omega
  have u2 : sc_us (K i) 2 := by unfold sc_us; omega
  have o0 := (sh_ov_lt (by omega) (hok i hi 0 (by omega) u0)).1
  have o1 := (sh_ov_lt (by omega) (hok i hi 1 (by omega) u1)).1
  have o2 := (sh_ov_lt (by omega) (hok i hi 2 (by omega) u2)).1
  have g0 := hg _ o0
  have g1 := hg _ o1
  have g2 := hg _ o2
  have e1 : sh_1 K a_firsts a_seconds a_thirds T i = sh_pick T i (T (sh_o a_firsts a_seconds a_thirds 0 i)).1 (T (sh_o a_firsts a_seconds a_thirds 1 i)).1 (T (sh_o a_firsts a_seconds a_thirds 2 i)).1 := by
    unfold sh_1; rw [if_neg (by omega), if_pos h10]
  rw [e1] at hc hz
  unfold sh_pick at hc hz
  unfold wpX_shortenPick
  refine sx_stands (K := K) (T := T) (s := 0) hn hi (Nat.le_refl _) (by omega) (hO i hi) (hok i hi) S ?_
  refine sx_stands (K := K) (T := T) (s := 1) hn hi (Nat.le_refl _) (by omega) (hO i hi) (hok i hi) S ?_
  refine sx_stands (K := K) (T := T) (s := 2) hn hi (Nat.le_refl _) (by omega) (hO i hi) (hok i hi) S ?_
  rw [sh_v_u u0, sh_v_u u1, sh_v_u u2]
  generalize (T (sh_o a_firsts a_seconds a_thirds 0 i)).1 = x at *
  generalize (T (sh_o a_firsts a_seconds a_thirds 1 i)).1 = y at *
  generalize (T (sh_o a_firsts a_seconds a_thirds 2 i)).1 = z at *
  have cx : (nI x).toNatClampNeg = x := nI_clamp (by omega)
  have ix : vp_in (nI x) 48 := vp_in_nI (by omega) (by omega)
  obtain ⟨_, fx, wx⟩ := hR x (by omega)
  refine ⟨ix, ?_⟩
  rw [cx, ci, fx, wx]
  refine br_c (fun hf => ?_) (fun hf => ⟨ix, ?_⟩)
  · rw [if_neg (by rw [sh_bI_0 hf]; decide)] at hz
    have hc' := hc y (by omega)
    rw [if_neg (by rw [sh_bI_0 hf]; decide)] at hc'
    refine pk_eq y z (fun e => ⟨ii, nm_r (e' := upd a_same i (nI y)) rfl ?_⟩) (fun e => ?_)
    · rw [if_pos e] at hc'; exact hc' rfl
    · rw [if_neg e] at hz; exact hz rfl
  · refine br_c (fun h0 => ⟨ii, nm_r (e' := upd a_same i (nI z)) rfl ?_⟩) (fun h0 => ⟨ii, nm_r (e' := upd a_same i (nI y)) rfl ?_⟩)
    · have hc' := hc z (by omega)
      rw [if_pos (sh_bI_n hf), if_pos h0] at hc'
      exact hc' rfl
    · have hc' := hc y (by omega)
      rw [if_pos (sh_bI_n hf), if_neg h0] at hc'
      exact hc' rfl
end
end
section
section
variable {K : Nat → Nat} {n : Nat} {T : Nat → Nat × Bool × Int32}
variable {f_lines f_studied f_wrong f_wrongAt f_brief f_on f_dropped f_steps f_nextLine f_repeats : Int32} {a_kinds a_firsts a_seconds a_thirds a_inputs a_home a_depth a_closer a_mate a_operands a_varies a_parted a_variableVaries a_same a_fixed a_worth a_needed a_variableNeeded a_values a_variables a_outputs a_cells a_whole a_waiting : Nat → Int32}
/-- what comes of line i -/
def sx_out (K : Nat → Nat) (A B C : Nat → Int32) (T : Nat → Nat × Bool × Int32) (i : Nat) (same fixed worth same' fixed' worth' : Nat → Int32) : Prop :=
  (∀ j, j < i → same' j = same j ∧ fixed' j = fixed j ∧ worth' j = worth j) ∧ ∃ o, sh_line K A B C T i o ∧ same' i = nI o.1 ∧ fixed' i = sh_bI o.2.1 ∧ worth' i = o.2.2
theorem sx_120 (hn : n ≤ 48) {post : SX → Prop} {J : Int32 → Int32 → Int32 → Int32 → Int32 → Int32 → Int32 → Int32 → Int32 → Int32 → Int32 → (Nat → Int32) → (Nat → Int32) → (Nat → Int32) → (Nat → Int32) → (Nat → Int32) → (Nat → Int32) → (Nat → Int32) → (Nat → Int32) → (Nat → Int32) → (Nat → Int32) → (Nat → Int32) → (Nat → Int32) → (Nat → Int32) → (Nat → Int32) → (Nat → Int32) → (Nat → Int32) → (Nat → Int32) → (Nat → Int32) → (Nat → Int32) → (Nat → Int32) → (Nat → Int32) → (Nat → Int32) → (Nat → Int32) → (Nat → Int32) → Prop} {i r : Nat} (hi : i < n) (hr : r ≤ i) (es : a_same i = nI r) {F : Bool} (ef : a_fixed r = sh_bI F)
    (h0 : F = false → J (nI (i + 1)) f_lines f_studied f_wrong f_wrongAt f_brief f_on f_dropped f_steps f_nextLine f_repeats a_kinds a_firsts a_seconds a_thirds a_inputs a_home a_depth a_closer a_mate a_operands a_varies a_parted a_variableVaries a_same a_fixed a_worth a_needed a_variableNeeded a_values a_variables a_outputs a_cells a_whole a_waiting) (h1 : F = true → J (nI (i + 1)) f_lines f_studied f_wrong f_wrongAt f_brief f_on f_dropped f_steps f_nextLine f_repeats a_kinds a_firsts a_seconds a_thirds a_inputs a_home a_depth a_closer a_mate a_operands a_varies a_parted a_variableVaries a_same (upd a_fixed i 1) (upd a_worth i (a_worth r)) a_needed a_variableNeeded a_values a_variables a_outputs a_cells a_whole a_waiting) : wX_shortenLines_120 post J (nI i) f_lines f_studied f_wrong f_wrongAt f_brief f_on f_dropped f_steps f_nextLine f_repeats a_kinds a_firsts a_seconds a_thirds a_inputs a_home a_depth a_closer a_mate a_operands a_varies a_parted a_variableVaries a_same a_fixed a_worth a_needed a_variableNeeded a_values a_variables a_outputs a_cells a_whole a_waiting := by
  have ci : (nI i).toNatClampNeg = i := nI_clamp (by omega)
  have ii : vp_in (nI i) 48 := vp_in_nI (by omega) (by omega)
  have ir : vp_in (nI r) 48 := vp_in_nI (by omega) (by omega)
  refine ⟨ii, ?_⟩
  rw [ci, es, nI_clamp (by omega), ef]
  exact ⟨ir, br_c (fun h => nm_r (nI_1 i) (h0 (sh_bI_0 h))) (fun h => ⟨ii, ir, sx_fix (by omega) (nm_r (nI_1 i) (h1 (sh_bI_n h)))⟩)⟩
theorem sx_99 (hP : xv_P K n a_kinds a_firsts a_seconds a_thirds a_home a_mate a_operands) {post : SX → Prop} {J : Int32 → Int32 → Int32 → Int32 → Int32 → Int32 → Int32 → Int32 → Int32 → Int32 → Int32 → (Nat → Int32) → (Nat → Int32) → (Nat → Int32) → (Nat → Int32) → (Nat → Int32) → (Nat → Int32) → (Nat → Int32) → (Nat → Int32) → (Nat → Int32) → (Nat → Int32) → (Nat → Int32) → (Nat → Int32) → (Nat → Int32) → (Nat → Int32) → (Nat → Int32) → (Nat → Int32) → (Nat → Int32) → (Nat → Int32) → (Nat → Int32) → (Nat → Int32) → (Nat → Int32) → (Nat → Int32) → (Nat → Int32) → (Nat → Int32) → Prop} {i : Nat} (hi : i < n) (hR : ∀ j, j < i → a_same j = nI (T j).1 ∧ a_fixed j = sh_bI (T j).2.1 ∧ a_worth j = (T j).2.2) (hgT : ∀ j, j < i → sh_good T j)
    (es : a_same i = nI (sh_1 K a_firsts a_seconds a_thirds T i).1) (e1 : (sh_1 K a_firsts a_seconds a_thirds T i).1 = i → a_fixed i = sh_bI (sh_1 K a_firsts a_seconds a_thirds T i).2.1 ∧ a_worth i = (sh_1 K a_firsts a_seconds a_thirds T i).2.2) (e2 : (sh_1 K a_firsts a_seconds a_thirds T i).1 ≠ i → a_fixed i = 0 ∧ a_worth i = 0)
    (h : ∀ same' fixed' worth', sx_out K a_firsts a_seconds a_thirds T i a_same a_fixed a_worth same' fixed' worth' → J (nI (i + 1)) f_lines f_studied f_wrong f_wrongAt f_brief f_on f_dropped f_steps f_nextLine f_repeats a_kinds a_firsts a_seconds a_thirds a_inputs a_home a_depth a_closer a_mate a_operands a_varies a_parted a_variableVaries same' fixed' worth' a_needed a_variableNeeded a_values a_variables a_outputs a_cells a_whole a_waiting) : wX_shortenLines_99 post J (nI i) f_lines f_studied f_wrong f_wrongAt f_brief f_on f_dropped f_steps f_nextLine f_repeats a_kinds a_firsts a_seconds a_thirds a_inputs a_home a_depth a_closer a_mate a_operands a_varies a_parted a_variableVaries a_same a_fixed a_worth a_needed a_variableNeeded a_values a_variables a_outputs a_cells a_whole a_waiting := by
  have hP' := hP
  obtain ⟨hn, hK, hgd, h4, hok, hH, hO⟩ := hP'
  have ci : (nI i).toNatClampNeg = i := nI_clamp (by omega)
  have ii : vp_in (nI i) 48 := vp_in_nI (by omega) (by omega)
  have hg1 : ∀ j, j < i → (T j).1 ≤ j := fun j hj => (hgT j hj).1
  have s1 := sh_1_good (K := K) (A := a_firsts) (B := a_seconds) (C := a_thirds) (T := T) (by omega) (hok i hi) hgT
  refine ⟨ii, ?_⟩
  rw [ci, es]
  by_cases eq : (sh_1 K a_firsts a_seconds a_thirds T i).1 = i
  · obtain ⟨f1, w1⟩ := e1 eq
    refine br_t (by rw [eq]) ?_
    have keep : ∀ r, (∀ j, j < i → upd a_same i (nI r) j = a_same j ∧ a_fixed j = a_fixed j ∧ a_worth j = a_worth j) := fun r j hj => ⟨pk_un (by omega), rfl, rfl⟩
    have keep2 : ∀ r v, (∀ j, j < i → upd a_same i (nI r) j = a_same j ∧ upd a_fixed i 1 j = a_fixed j ∧ upd a_worth i v j = a_worth j) := fun r v j hj => ⟨pk_un (by omega), pk_un (by omega), pk_un (by omega)⟩
    refine sx_first (K := K) (n := n) (T := T) hP hi hR hg1 f1 w1 (fun hc r hr => ⟨ii, nm_r (e' := upd a_same i (nI r)) rfl ?_⟩) (fun hc => ⟨ii, nm_r (e' := upd a_same i (nI i)) rfl ?_⟩)
    · have line : sh_line K a_firsts a_seconds a_thirds T i (r, (sh_1 K a_firsts a_seconds a_thirds T i).2) := Or.inr ⟨⟨eq, hc⟩, r, hr, rfl⟩
      rcases hr with ⟨er, _⟩ | ⟨lr, ⟨p1, p2, p3⟩, _⟩
      · subst er
        refine sx_120 (n := n) hn hi (Nat.le_refl _) pk_us f1 (fun hF => h _ _ _ ⟨keep _, _, line, pk_us, f1, w1⟩) (fun hF => h _ _ _ ⟨keep2 _ _, _, line, pk_us, ?_, ?_⟩)
        · rw [pk_us, hF]; rfl
        · rw [pk_us]; exact w1
      · obtain ⟨_, fr, wr⟩ := hR r lr
        refine sx_120 (n := n) hn hi (by omega) pk_us fr (fun hF => h _ _ _ ⟨keep _, _, line, pk_us, f1, w1⟩) (fun hF => h _ _ _ ⟨keep2 _ _, _, line, pk_us, ?_, ?_⟩)
        · rcases p3 with ⟨a, _⟩ | ⟨_, b, _⟩
          · rw [pk_us, a]; rfl
          · rw [b] at hF; cases hF
        · rcases p3 with ⟨_, _, c⟩ | ⟨_, b, _⟩
          · rw [pk_us, wr]; exact c.symm
          · rw [b] at hF; cases hF
    · have line : sh_line K a_firsts a_seconds a_thirds T i (sh_1 K a_firsts a_seconds a_thirds T i) := Or.inl ⟨fun h => hc h.2, rfl⟩
      refine sx_120 (n := n) hn hi (Nat.le_refl _) pk_us f1 (fun hF => h _ _ _ ⟨keep _, _, line, by rw [pk_us, eq], f1, w1⟩) (fun hF => h _ _ _ ⟨keep2 _ _, _, line, by rw [pk_us, eq], ?_, ?_⟩)
      · rw [pk_us, hF]; rfl
      · rw [pk_us]; exact w1
  · obtain ⟨f0, w0⟩ := e2 eq
    rcases s1 with ⟨s1, _⟩ | ⟨lt, s2, s3⟩
    · exact absurd s1 eq
    obtain ⟨_, fr, wr⟩ := hR _ lt
    have line : sh_line K a_firsts a_seconds a_thirds T i (sh_1 K a_firsts a_seconds a_thirds T i) := Or.inl ⟨fun h => eq h.1, rfl⟩
    refine pk_eq (sh_1 K a_firsts a_seconds a_thirds T i).1 i (fun e => absurd e eq) (fun _ => ?_)
    refine sx_120 (n := n) hn hi (by omega) es fr (fun hF => h _ _ _ ⟨fun j hj => ⟨rfl, rfl, rfl⟩, _, line, es, ?_, ?_⟩) (fun hF => h _ _ _ ⟨fun j hj => ⟨rfl, pk_un (by omega), pk_un (by omega)⟩, _, line, es, ?_, ?_⟩)
    · rw [f0, s3, hF]; rfl
    · rw [w0, s3]; exact ((hgT _ lt).2.2.2 hF).symm
    · rw [pk_us, s3, hF]; rfl
    · rw [pk_us, s3, wr]
theorem sx_line (hP : xv_P K n a_kinds a_firsts a_seconds a_thirds a_home a_mate a_operands) {post : SX → Prop} {i d : Nat} (hi : i < n) (hR : sh_R T i a_same a_fixed a_worth) (hgT : ∀ j, j < i → sh_good T j)
    (h : ∀ same' fixed' worth', sx_out K a_firsts a_seconds a_thirds T i a_same a_fixed a_worth same' fixed' worth' → wX_shortenLines_2 post d (nI (i + 1)) (nI n) f_studied f_wrong f_wrongAt f_brief f_on f_dropped f_steps f_nextLine f_repeats a_kinds a_firsts a_seconds a_thirds a_inputs a_home a_depth a_closer a_mate a_operands a_varies a_parted a_variableVaries same' fixed' worth' a_needed a_variableNeeded a_values a_variables a_outputs a_cells a_whole a_waiting) : wX_shortenLines_2 post (d + 1) (nI i) (nI n) f_studied f_wrong f_wrongAt f_brief f_on f_dropped f_steps f_nextLine f_repeats a_kinds a_firsts a_seconds a_thirds a_inputs a_home a_depth a_closer a_mate a_operands a_varies a_parted a_variableVaries a_same a_fixed a_worth a_needed a_variableNeeded a_values a_variables a_outputs a_cells a_whole a_waiting := by
  have hP' := hP
  obtain ⟨hn, hK, hgd, h4, hok, hH, hO⟩ := hP'
  have ci : (nI i).toNatClampNeg = i := nI_clamp (by omega)
  have ii : vp_in (nI i) 48 := vp_in_nI (by omega) (by omega)
  have ki := hK i hi
  have hg1 : ∀ j, j < i → (T j).1 ≤ j := fun j hj => (hgT j hj).1
  have hR' : ∀ j, j < i → upd a_same i (nI i) j = nI (T j).1 ∧ upd a_fixed i 0 j = sh_bI (T j).2.1 ∧ upd a_worth i 0 j = (T j).2.2 := fun j hj => by
    rw [pk_un (by omega), pk_un (by omega), pk_un (by omega)]; exact hR j hj
  have h' : ∀ s0 f0 w0, (∀ j, j < i → s0 j = a_same j ∧ f0 j = a_fixed j ∧ w0 j = a_worth j) → ∀ same' fixed' worth', sx_out K a_firsts a_seconds a_thirds T i s0 f0 w0 same' fixed' worth' → wX_shortenLines_2 post d (nI (i + 1)) (nI n) f_studied f_wrong f_wrongAt f_brief f_on f_dropped f_steps f_nextLine f_repeats a_kinds a_firsts a_seconds a_thirds a_inputs a_home a_depth a_closer a_mate a_operands a_varies a_parted a_variableVaries same' fixed' worth' a_needed a_variableNeeded a_values a_variables a_outputs a_cells a_whole a_waiting := fun s0 f0 w0 hs same' fixed' worth' ho =>
    h same' fixed' worth' ⟨fun j hj => by
      obtain ⟨a, b, c⟩ := ho.1 j hj
      obtain ⟨a', b', c'⟩ := hs j hj
      exact ⟨a.trans a', b.trans b', c.trans c'⟩, ho.2⟩
  have un : ∀ {f : Nat → Int32} {x : Int32} {j : Nat}, j < i → upd f i x j = f j := fun hj => pk_un (by omega)
  have plain : sh_1 K a_firsts a_seconds a_thirds T i = (i, false, 0) → wX_shortenLines_99 post (wX_shortenLines_2 post d) (nI i) (nI n) f_studied f_wrong f_wrongAt f_brief f_on f_dropped f_steps f_nextLine f_repeats a_kinds a_firsts a_seconds a_thirds a_inputs a_home a_depth a_closer a_mate a_operands a_varies a_parted a_variableVaries (upd a_same i (nI i)) (upd a_fixed i 0) (upd a_worth i 0) a_needed a_variableNeeded a_values a_variables a_outputs a_cells a_whole a_waiting := fun e =>
    sx_99 (K := K) (n := n) (T := T) hP hi hR' hgT (by rw [pk_us, e]) (fun _ => ⟨by rw [pk_us, e]; rfl, by rw [pk_us, e]⟩) (fun h => absurd (by rw [e]) h) (h' _ _ _ (fun j hj => ⟨un hj, un hj, un hj⟩))
  have made : ∀ v, sh_1 K a_firsts a_seconds a_thirds T i = (i, true, v) → wX_shortenLines_99 post (wX_shortenLines_2 post d) (nI i) (nI n) f_studied f_wrong f_wrongAt f_brief f_on f_dropped f_steps f_nextLine f_repeats a_kinds a_firsts a_seconds a_thirds a_inputs a_home a_depth a_closer a_mate a_operands a_varies a_parted a_variableVaries (upd a_same i (nI i)) (upd (upd a_fixed i 0) i 1) (upd (upd a_worth i 0) i v) a_needed a_variableNeeded a_values a_variables a_outputs a_cells a_whole a_waiting := fun v e =>
    sx_99 (K := K) (n := n) (T := T) hP hi (fun j hj => by rw [un hj, un (f := upd a_fixed i 0) hj, un (f := upd a_worth i 0) hj, un hj, un hj]; exact hR j hj) hgT (by rw [pk_us, e]) (fun _ => ⟨by rw [pk_us, e]; rfl, by rw [pk_us, e]⟩) (fun h => absurd (by rw [e]) h) (h' _ _ _ (fun j hj => ⟨un hj, by rw [un (f := upd a_fixed i 0) hj, un hj], by rw [un (f := upd a_worth i 0) hj, un hj]⟩))
  have copy : ∀ t, t < i → sh_1 K a_firsts a_seconds a_thirds T i = (t, (T t).2) → wX_shortenLines_99 post (wX_shortenLines_2 post d) (nI i) (nI n) f_studied f_wrong f_wrongAt f_brief f_on f_dropped f_steps f_nextLine f_repeats a_kinds a_firsts a_seconds a_thirds a_inputs a_home a_depth a_closer a_mate a_operands a_varies a_parted a_variableVaries (upd (upd a_same i (nI i)) i (nI t)) (upd a_fixed i 0) (upd a_worth i 0) a_needed a_variableNeeded a_values a_variables a_outputs a_cells a_whole a_waiting := fun t ht e =>
    sx_99 (K := K) (n := n) (T := T) hP hi (fun j hj => by rw [un (f := upd a_same i (nI i)) hj, un hj, un hj, un hj]; exact hR j hj) hgT (by rw [pk_us, e]) (fun h => absurd h (by rw [e]; show ¬ t = i; omega)) (fun _ => ⟨pk_us, pk_us⟩) (h' _ _ _ (fun j hj => ⟨by rw [un (f := upd a_same i (nI i)) hj, un hj], un hj, un hj⟩))
  refine br_f (nI_ge (by omega) (by omega)) ⟨ii, nm_r (e' := upd a_same i (nI i)) (by rw [ci]) ⟨ii, nm_r (e' := upd a_fixed i 0) (by rw [ci, xv_nar0]) ⟨ii, nm_r (e' := upd a_worth i 0) (by rw [ci]) ⟨ii, ?_⟩⟩⟩⟩
  rw [ci, ki.1]
  refine pk_eq (K i) 0 (fun h0 => ⟨ii, ?_⟩) (fun n0 => ⟨ii, pk_eq (K i) 10 (fun h10 => ?_) (fun n10 => ⟨ii, pk_lt (K i) 3 (fun h3 => plain ?_) (fun h3 => ⟨ii, pk_lt 9 (K i) (fun h9 => plain ?_) (fun h9 => ?_)⟩)⟩)⟩)
  · exact sx_fix (by omega) (made _ (by unfold sh_1; rw [if_pos h0]))
  · exact sx_pick (K := K) (n := n) (T := T) hP hi h10 hR' hg1 copy plain
  · unfold sh_1; rw [if_neg n0, if_neg n10, if_neg (by omega)]
  · unfold sh_1; rw [if_neg n0, if_neg n10, if_neg (by omega)]
  · exact sx_sum (K := K) (n := n) (T := T) hP hi h3 h9 hR' hg1 copy made plain
theorem sx_loop (hP : xv_P K n a_kinds a_firsts a_seconds a_thirds a_home a_mate a_operands) {post : SX → Prop}
    (h : ∀ T same fixed worth, sh_R T n same fixed worth → (∀ j, j < n → sh_good T j) → (∀ j, j < n → sh_line K a_firsts a_seconds a_thirds T j (T j)) → post (nI n, f_studied, f_wrong, f_wrongAt, f_brief, f_on, f_dropped, f_steps, f_nextLine, f_repeats, a_kinds, a_firsts, a_seconds, a_thirds, a_inputs, a_home, a_depth, a_closer, a_mate, a_operands, a_varies, a_parted, a_variableVaries, same, fixed, worth, a_needed, a_variableNeeded, a_values, a_variables, a_outputs, a_cells, a_whole, a_waiting)) :
    ∀ (d i : Nat) (T : Nat → Nat × Bool × Int32) (same fixed worth : Nat → Int32), i + d = n → sh_R T i same fixed worth → (∀ j, j < i → sh_good T j) → (∀ j, j < i → sh_line K a_firsts a_seconds a_thirds T j (T j)) → wX_shortenLines_2 post (d + 1) (nI i) (nI n) f_studied f_wrong f_wrongAt f_brief f_on f_dropped f_steps f_nextLine f_repeats a_kinds a_firsts a_seconds a_thirds a_inputs a_home a_depth a_closer a_mate a_operands a_varies a_parted a_variableVaries same fixed worth a_needed a_variableNeeded a_values a_variables a_outputs a_cells a_whole a_waiting := by
  have hP' := hP
  obtain ⟨hn, hK, hgd, h4, hok, hH, hO⟩ := hP'
  intro d
  induction d with
  | zero =>
    intro i T same fixed worth hi hR hg hl
    cases (show i = n by omega)
    exact br_t (nI_le (Nat.le_refl _) (by omega)) (h T same fixed worth hR hg hl)
  | succ d ih =>
    intro i T same fixed worth hi hR hg hl
    refine sx_line (K := K) (n := n) (T := T) hP (by omega) hR hg (fun same' fixed' worth' ho => ?_)
    obtain ⟨hk, o, lo, o1, o2, o3⟩ := ho
    have agree : ∀ j, j < i → T j = sh_up T i o j := fun j hj => (sh_up_n (by omega)).symm
    have hg1 : ∀ j, j < i → (T j).1 ≤ j := fun j hj => (hg j hj).1
    have hg' : ∀ j, j < i → sh_good (sh_up T i o) j := fun j hj => sh_good_eq (fun q hq => agree q (by omega)) (hg j hj)
    have li : sh_line K a_firsts a_seconds a_thirds (sh_up T i o) i (sh_up T i o i) := by
      rw [sh_up_s]
      exact sh_line_eq (by omega) (fun j hj => hok j (by omega)) hg1 agree lo
    refine ih (i + 1) (sh_up T i o) same' fixed' worth' (by omega) (fun j hj => ?_) (fun j hj => ?_) (fun j hj => ?_)
    · by_cases e : j = i
      · rw [e, sh_up_s]; exact ⟨o1, o2, o3⟩
      · obtain ⟨a, b, c⟩ := hk j (by omega)
        rw [a, b, c, sh_up_n e]; exact hR j (by omega)
    · by_cases e : j = i
      · rw [e]; exact sh_line_good (by omega) (hok i (by omega)) hg' li
      · exact hg' j (by omega)
    · by_cases e : j = i
      · rw [e]; exact li
      · rw [sh_up_n e]
        exact sh_line_eq (by omega) (fun q hq => hok q (by omega)) (fun q hq => hg1 q (by omega)) (fun q hq => agree q (by omega)) (hl j (by omega))
theorem sx_shorten (hP : xv_P K n a_kinds a_firsts a_seconds a_thirds a_home a_mate a_operands) {post : SX → Prop}
    (h : ∀ T same fixed worth, sh_R T n same fixed worth → (∀ j, j < n → sh_good T j) → (∀ j, j < n → sh_line K a_firsts a_seconds a_thirds T j (T j)) → post (nI n, f_studied, f_wrong, f_wrongAt, f_brief, f_on, f_dropped, f_steps, f_nextLine, f_repeats, a_kinds, a_firsts, a_seconds, a_thirds, a_inputs, a_home, a_depth, a_closer, a_mate, a_operands, a_varies, a_parted, a_variableVaries, same, fixed, worth, a_needed, a_variableNeeded, a_values, a_variables, a_outputs, a_cells, a_whole, a_waiting)) : wpX_shortenLines post (nI n, f_studied, f_wrong, f_wrongAt, f_brief, f_on, f_dropped, f_steps, f_nextLine, f_repeats, a_kinds, a_firsts, a_seconds, a_thirds, a_inputs, a_home, a_depth, a_closer, a_mate, a_operands, a_varies, a_parted, a_variableVaries, a_same, a_fixed, a_worth, a_needed, a_variableNeeded, a_values, a_variables, a_outputs, a_cells, a_whole, a_waiting) :=
  ⟨n + 1, sx_loop (K := K) (n := n) hP h n 0 (fun _ => (0, false, 0)) _ _ _ (by omega) (fun j hj => by omega) (fun j hj => by omega) (fun j hj => by omega)⟩
end
end
section
section
variable {K : Nat → Nat} {n : Nat} {T : Nat → Nat × Bool × Int32}
variable {f_lines f_known f_wrong f_place f_blocks f_steps f_dropped f_on f_next f_again f_depth : Int32} {a_ops a_as a_bs a_cs a_blockOf a_opener a_around a_other a_end a_open a_varied a_loose a_variedVariable a_stands a_number a_isConst a_needed a_inputs a_values a_variables a_cells a_outs a_was a_rest a_line : Nat → Int32}
theorem sy_narb (b : Bool) : vp_nar .boolean (sh_bI b) = sh_bI b := by cases b <;> decide
theorem sy_copy {post : SY → Prop} {i x : Nat} {F : Bool} {N : Int32} (hi : i < 48) (hx : x < 48) (hne : x ≠ i) (hf : a_isConst x = sh_bI F) (hw : a_number x = N) (h : post (f_lines, f_known, f_wrong, f_place, f_blocks, f_steps, f_dropped, f_on, f_next, f_again, f_depth, a_ops, a_as, a_bs, a_cs, a_blockOf, a_opener, a_around, a_other, a_end, a_open, a_varied, a_loose, a_variedVariable, upd a_stands i (nI x), upd a_number i N, upd a_isConst i (sh_bI F), a_needed, a_inputs, a_values, a_variables, a_cells, a_outs, a_was, a_rest, a_line)) : wpY_copy post (f_lines, f_known, f_wrong, f_place, f_blocks, f_steps, f_dropped, f_on, f_next, f_again, f_depth, a_ops, a_as, a_bs, a_cs, a_blockOf, a_opener, a_around, a_other, a_end, a_open, a_varied, a_loose, a_variedVariable, a_stands, a_number, a_isConst, a_needed, a_inputs, a_values, a_variables, a_cells, a_outs, a_was, a_rest, a_line) (nI i) (nI x) := by
  have ci : (nI i).toNatClampNeg = i := nI_clamp (by omega)
  have ii : vp_in (nI i) 48 := vp_in_nI hi (by omega)
  have cx : (nI x).toNatClampNeg = x := nI_clamp (by omega)
  have ix : vp_in (nI x) 48 := vp_in_nI hx (by omega)
  exact ⟨ii, nm_r (by rw [ci]) ⟨ix, ii, nm_r (by rw [ci, cx, hf, sy_narb]) ⟨ix, ii, nm_r (by rw [ci, cx, hw]) h⟩⟩⟩
theorem sy_make {post : SY → Prop} {i : Nat} {v : Int32} (hi : i < 48) (h : post (f_lines, f_known, f_wrong, f_place, f_blocks, f_steps, f_dropped, f_on, f_next, f_again, f_depth, a_ops, a_as, a_bs, a_cs, a_blockOf, a_opener, a_around, a_other, a_end, a_open, a_varied, a_loose, a_variedVariable, a_stands, upd a_number i v, upd a_isConst i 1, a_needed, a_inputs, a_values, a_variables, a_cells, a_outs, a_was, a_rest, a_line)) : wpY_make post (f_lines, f_known, f_wrong, f_place, f_blocks, f_steps, f_dropped, f_on, f_next, f_again, f_depth, a_ops, a_as, a_bs, a_cs, a_blockOf, a_opener, a_around, a_other, a_end, a_open, a_varied, a_loose, a_variedVariable, a_stands, a_number, a_isConst, a_needed, a_inputs, a_values, a_variables, a_cells, a_outs, a_was, a_rest, a_line) (nI i) v := by
  have ci : (nI i).toNatClampNeg = i := nI_clamp (by omega)
  have ii : vp_in (nI i) 48 := vp_in_nI hi (by omega)
  exact ⟨ii, nm_r (by rw [ci, xv_nar1]) ⟨ii, nm_r (by rw [ci]) h⟩⟩
theorem sy_is {post : Int32 → Prop} {x : Nat} {v : Int32} (hx : x < 48) (hf : a_isConst x = sh_bI (T x).2.1) (hw : a_number x = (T x).2.2) (h1 : sh_is T x v = true → post 1) (h0 : sh_is T x v = false → post 0) : wpY_is post (f_lines, f_known, f_wrong, f_place, f_blocks, f_steps, f_dropped, f_on, f_next, f_again, f_depth, a_ops, a_as, a_bs, a_cs, a_blockOf, a_opener, a_around, a_other, a_end, a_open, a_varied, a_loose, a_variedVariable, a_stands, a_number, a_isConst, a_needed, a_inputs, a_values, a_variables, a_cells, a_outs, a_was, a_rest, a_line) (nI x) v := by
  have ci : (nI x).toNatClampNeg = x := nI_clamp (by omega)
  have ii : vp_in (nI x) 48 := vp_in_nI hx (by omega)
  refine ⟨ii, ?_⟩
  rw [ci, hf, hw]
  refine br_c (fun hz => h0 ?_) (fun hz => ⟨ii, br_c (fun he => h1 ?_) (fun he => h0 ?_)⟩)
  · unfold sh_is; rw [sh_bI_0 hz]; rfl
  · unfold sh_is; rw [sh_bI_n hz, he]; simp
  · unfold sh_is; rw [sh_bI_n hz]; simp [he]
theorem sy_reckon {post : Int32 → Prop} {k : Nat} {x y : Int32} (h3 : 3 ≤ k) (h9 : k ≤ 9) (h : post (sh_rk k x y)) : wpY_reckon post (nI k) x y := sx_result (k := k) h3 h9 h
/-- ADD to NOT of x and y -/
theorem sy_sum (hn : n ≤ 48) {post : SY → Prop} {i x y : Nat} {z : Int32} (hi : i < n) (h3 : 3 ≤ K i) (h9 : K i ≤ 9) (hx : x < i) (hy : y < i) (hR : ∀ j, j < i → a_stands j = nI (T j).1 ∧ a_isConst j = sh_bI (T j).2.1 ∧ a_number j = (T j).2.2)
    (hc : ∀ t, t < i → sh_sum K T i x y = (t, (T t).2) → post (f_lines, f_known, f_wrong, f_place, f_blocks, f_steps, f_dropped, f_on, f_next, f_again, f_depth, a_ops, a_as, a_bs, a_cs, a_blockOf, a_opener, a_around, a_other, a_end, a_open, a_varied, a_loose, a_variedVariable, upd a_stands i (nI t), upd a_number i (T t).2.2, upd a_isConst i (sh_bI (T t).2.1), a_needed, a_inputs, a_values, a_variables, a_cells, a_outs, a_was, a_rest, a_line))
    (hm : ∀ v, sh_sum K T i x y = (i, true, v) → post (f_lines, f_known, f_wrong, f_place, f_blocks, f_steps, f_dropped, f_on, f_next, f_again, f_depth, a_ops, a_as, a_bs, a_cs, a_blockOf, a_opener, a_around, a_other, a_end, a_open, a_varied, a_loose, a_variedVariable, a_stands, upd a_number i v, upd a_isConst i 1, a_needed, a_inputs, a_values, a_variables, a_cells, a_outs, a_was, a_rest, a_line))
    (hz : sh_sum K T i x y = (i, false, 0) → post (f_lines, f_known, f_wrong, f_place, f_blocks, f_steps, f_dropped, f_on, f_next, f_again, f_depth, a_ops, a_as, a_bs, a_cs, a_blockOf, a_opener, a_around, a_other, a_end, a_open, a_varied, a_loose, a_variedVariable, a_stands, a_number, a_isConst, a_needed, a_inputs, a_values, a_variables, a_cells, a_outs, a_was, a_rest, a_line)) : wY_simplify_63 post (nI i) (nI (K i)) (nI x) (nI y) z f_lines f_known f_wrong f_place f_blocks f_steps f_dropped f_on f_next f_again f_depth a_ops a_as a_bs a_cs a_blockOf a_opener a_around a_other a_end a_open a_varied a_loose a_variedVariable a_stands a_number a_isConst a_needed a_inputs a_values a_variables a_cells a_outs a_was a_rest a_line := by
  have cx : (nI x).toNatClampNeg = x := nI_clamp (by omega)
  have ix : vp_in (nI x) 48 := vp_in_nI (by omega) (by omega)
  have cy : (nI y).toNatClampNeg = y := nI_clamp (by omega)
  have iy : vp_in (nI y) 48 := vp_in_nI (by omega) (by omega)
  obtain ⟨_, fx, wx⟩ := hR x hx
  obtain ⟨_, fy, wy⟩ := hR y hy
  unfold sh_sum at hc hm hz
  have cpx : (∀ hh : sh_sum K T i x y = sh_sum K T i x y, True) → True := fun _ => trivial
  have t165 : ¬ ((T x).2.1 = true ∧ (T y).2.1 = true) → wY_simplify_165 post (nI i) (nI (K i)) (nI x) (nI y) f_lines f_known f_wrong f_place f_blocks f_steps f_dropped f_on f_next f_again f_depth a_ops a_as a_bs a_cs a_blockOf a_opener a_around a_other a_end a_open a_varied a_loose a_variedVariable a_stands a_number a_isConst a_needed a_inputs a_values a_variables a_cells a_outs a_was a_rest a_line := by
    intro nf
    rw [if_neg nf] at hm hz
    have hc1 : ∀ t, t < i → (if (K i = 3 ∧ sh_is T x 0 = true) ∨ (K i = 5 ∧ sh_is T x 1 = true) then (y, (T y).2) else if ((K i = 3 ∨ K i = 4) ∧ sh_is T y 0 = true) ∨ (K i = 5 ∧ sh_is T y 1 = true) then (x, (T x).2) else if (K i = 5 ∧ (sh_is T x 0 = true ∨ sh_is T y 0 = true)) ∨ (x = y ∧ (K i = 4 ∨ K i = 6)) then (i, true, 0) else if x = y ∧ K i = 7 then (i, true, 1) else (i, false, 0)) = (t, (T t).2) → post (f_lines, f_known, f_wrong, f_place, f_blocks, f_steps, f_dropped, f_on, f_next, f_again, f_depth, a_ops, a_as, a_bs, a_cs, a_blockOf, a_opener, a_around, a_other, a_end, a_open, a_varied, a_loose, a_variedVariable, upd a_stands i (nI t), upd a_number i (T t).2.2, upd a_isConst i (sh_bI (T t).2.1), a_needed, a_inputs, a_values, a_variables, a_cells, a_outs, a_was, a_rest, a_line) := by
      intro t ht e
      refine hc t ht ?_
      rw [if_neg nf]; exact e
    have c193 : ((K i = 3 ∧ sh_is T x 0 = true) ∨ (K i = 5 ∧ sh_is T x 1 = true)) → wY_simplify_193 post (nI i) (nI y) f_lines f_known f_wrong f_place f_blocks f_steps f_dropped f_on f_next f_again f_depth a_ops a_as a_bs a_cs a_blockOf a_opener a_around a_other a_end a_open a_varied a_loose a_variedVariable a_stands a_number a_isConst a_needed a_inputs a_values a_variables a_cells a_outs a_was a_rest a_line := fun h =>
      sy_copy (by omega) (by omega) (by omega) fy wy (hc1 y hy (by rw [if_pos h]))
    have c203 : ¬ ((K i = 3 ∧ sh_is T x 0 = true) ∨ (K i = 5 ∧ sh_is T x 1 = true)) → wY_simplify_203 post (nI i) (nI (K i)) (nI x) (nI y) f_lines f_known f_wrong f_place f_blocks f_steps f_dropped f_on f_next f_again f_depth a_ops a_as a_bs a_cs a_blockOf a_opener a_around a_other a_end a_open a_varied a_loose a_variedVariable a_stands a_number a_isConst a_needed a_inputs a_values a_variables a_cells a_outs a_was a_rest a_line := by
      intro nx
      rw [if_neg nx] at hm hz
      have c238 : (((K i = 3 ∨ K i = 4) ∧ sh_is T y 0 = true) ∨ (K i = 5 ∧ sh_is T y 1 = true)) → wY_simplify_238 post (nI i) (nI x) f_lines f_known f_wrong f_place f_blocks f_steps f_dropped f_on f_next f_again f_depth a_ops a_as a_bs a_cs a_blockOf a_opener a_around a_other a_end a_open a_varied a_loose a_variedVariable a_stands a_number a_isConst a_needed a_inputs a_values a_variables a_cells a_outs a_was a_rest a_line := fun h =>
        sy_copy (by omega) (by omega) (by omega) fx wx (hc1 x hx (by rw [if_neg nx, if_pos h]))
      have c247 : ¬ (((K i = 3 ∨ K i = 4) ∧ sh_is T y 0 = true) ∨ (K i = 5 ∧ sh_is T y 1 = true)) → wY_simplify_247 post (nI i) (nI (K i)) (nI x) (nI y) f_lines f_known f_wrong f_place f_blocks f_steps f_dropped f_on f_next f_again f_depth a_ops a_as a_bs a_cs a_blockOf a_opener a_around a_other a_end a_open a_varied a_loose a_variedVariable a_stands a_number a_isConst a_needed a_inputs a_values a_variables a_cells a_outs a_was a_rest a_line := by
        intro ny
        rw [if_neg ny] at hm hz
        have c288 : ((K i = 5 ∧ (sh_is T x 0 = true ∨ sh_is T y 0 = true)) ∨ (x = y ∧ (K i = 4 ∨ K i = 6))) → wY_simplify_288 post (nI i) f_lines f_known f_wrong f_place f_blocks f_steps f_dropped f_on f_next f_again f_depth a_ops a_as a_bs a_cs a_blockOf a_opener a_around a_other a_end a_open a_varied a_loose a_variedVariable a_stands a_number a_isConst a_needed a_inputs a_values a_variables a_cells a_outs a_was a_rest a_line := fun h => by
          rw [if_pos h] at hm
          exact sy_make (by omega) (hm 0 rfl)
        have c271 : ¬ (K i = 5 ∧ (sh_is T x 0 = true ∨ sh_is T y 0 = true)) → wY_simplify_271 post (nI i) (nI (K i)) (nI x) (nI y) f_lines f_known f_wrong f_place f_blocks f_steps f_dropped f_on f_next f_again f_depth a_ops a_as a_bs a_cs a_blockOf a_opener a_around a_other a_end a_open a_varied a_loose a_variedVariable a_stands a_number a_isConst a_needed a_inputs a_values a_variables a_cells a_outs a_was a_rest a_line := by
          intro n5
          have c297 : ¬ (x = y ∧ (K i = 4 ∨ K i = 6)) → wY_simplify_297 post (nI i) (nI (K i)) (nI x) (nI y) f_lines f_known f_wrong f_place f_blocks f_steps f_dropped f_on f_next f_again f_depth a_ops a_as a_bs a_cs a_blockOf a_opener a_around a_other a_end a_open a_varied a_loose a_variedVariable a_stands a_number a_isConst a_needed a_inputs a_values a_variables a_cells a_outs a_was a_rest a_line := by
            intro n46
            rw [if_neg (by rintro (h | h); exact n5 h; exact n46 h)] at hm hz
            refine pk_eq x y (fun e => pk_eq (K i) 7 (fun h7 => ?_) (fun h7 => ?_)) (fun e => ?_)
            · rw [if_pos ⟨e, h7⟩] at hm
              exact sy_make (by omega) (hm 1 rfl)
            · rw [if_neg (fun h => h7 h.2)] at hz
              exact hz rfl
            · rw [if_neg (fun h => e h.1)] at hz
              exact hz rfl
          exact pk_eq x y (fun e => pk_eq (K i) 4 (fun h4 => c288 (Or.inr ⟨e, Or.inl h4⟩)) (fun h4 => pk_eq (K i) 6 (fun h6 => c288 (Or.inr ⟨e, Or.inr h6⟩)) (fun h6 => c297 (fun h => h.2.elim h4 h6)))) (fun e => c297 (fun h => e h.1))
        refine pk_eq (K i) 5 (fun h5 => ?_) (fun h5 => c271 (fun h => h5 h.1))
        refine sy_is (T := T) (by omega) fx wx (fun h => br_f (by decide) (c288 (Or.inl ⟨h5, Or.inl h⟩))) (fun h => br_t rfl ?_)
        refine sy_is (T := T) (by omega) fy wy (fun h' => br_f (by decide) (c288 (Or.inl ⟨h5, Or.inr h'⟩))) (fun h' => br_t rfl (c271 ?_))
        rintro ⟨_, h2 | h2⟩
        · rw [h] at h2; cases h2
        · rw [h'] at h2; cases h2
      have c223 : ¬ ((K i = 3 ∨ K i = 4) ∧ sh_is T y 0 = true) → wY_simplify_223 post (nI i) (nI (K i)) (nI x) (nI y) f_lines f_known f_wrong f_place f_blocks f_steps f_dropped f_on f_next f_again f_depth a_ops a_as a_bs a_cs a_blockOf a_opener a_around a_other a_end a_open a_varied a_loose a_variedVariable a_stands a_number a_isConst a_needed a_inputs a_values a_variables a_cells a_outs a_was a_rest a_line := by
        intro n34
        refine pk_eq (K i) 5 (fun h5 => ?_) (fun h5 => c247 (by rintro (h | ⟨h, _⟩); exact n34 h; exact h5 h))
        exact sy_is (T := T) (by omega) fy wy (fun h => br_f (by decide) (c238 (Or.inr ⟨h5, h⟩))) (fun h => br_t rfl (c247 (by
          rintro (h' | ⟨_, h'⟩)
          · exact n34 h'
          · rw [h] at h'; cases h')))
      have c213 : (K i = 3 ∨ K i = 4) → wY_simplify_213 post (nI i) (nI (K i)) (nI x) (nI y) f_lines f_known f_wrong f_place f_blocks f_steps f_dropped f_on f_next f_again f_depth a_ops a_as a_bs a_cs a_blockOf a_opener a_around a_other a_end a_open a_varied a_loose a_variedVariable a_stands a_number a_isConst a_needed a_inputs a_values a_variables a_cells a_outs a_was a_rest a_line := fun h34 =>
        sy_is (T := T) (by omega) fy wy (fun h => br_f (by decide) (c238 (Or.inl ⟨h34, h⟩))) (fun h => br_t rfl (c223 (fun h' => by rw [h] at h'; cases h'.2)))
      exact pk_eq (K i) 3 (fun h => c213 (Or.inl h)) (fun h => pk_eq (K i) 4 (fun h => c213 (Or.inr h)) (fun h' => c223 (by omega)))
    have c179 : ¬ (K i = 3 ∧ sh_is T x 0 = true) → wY_simplify_179 post (nI i) (nI (K i)) (nI x) (nI y) f_lines f_known f_wrong f_place f_blocks f_steps f_dropped f_on f_next f_again f_depth a_ops a_as a_bs a_cs a_blockOf a_opener a_around a_other a_end a_open a_varied a_loose a_variedVariable a_stands a_number a_isConst a_needed a_inputs a_values a_variables a_cells a_outs a_was a_rest a_line := by
      intro n3
      refine pk_eq (K i) 5 (fun h5 => ?_) (fun h5 => c203 (by rintro (h | ⟨h, _⟩); exact n3 h; exact h5 h))
      exact sy_is (T := T) (by omega) fx wx (fun h => br_f (by decide) (c193 (Or.inr ⟨h5, h⟩))) (fun h => br_t rfl (c203 (by
        rintro (h' | ⟨_, h'⟩)
        · exact n3 h'
        · rw [h] at h'; cases h')))
    refine pk_eq (K i) 3 (fun h5 => ?_) (fun h5 => c179 (fun h => h5 h.1))
    exact sy_is (T := T) (by omega) fx wx (fun h => br_f (by decide) (c193 (Or.inl ⟨h5, h⟩))) (fun h => br_t rfl (c179 (fun h' => by rw [h] at h'; cases h'.2)))
  refine pk_eq (K i) 10 (fun h => absurd h (by omega)) (fun _ => ⟨ix, ?_⟩)
  rw [cx, cy, fx, fy]
  refine br_c (fun hz' => t165 (fun h => by rw [sh_bI_0 hz'] at h; cases h.1)) (fun hz' => ⟨iy, br_c (fun hz2 => t165 (fun h => by rw [sh_bI_0 hz2] at h; cases h.2)) (fun hz2 => ⟨ix, iy, ?_⟩)⟩)
  rw [if_pos ⟨sh_bI_n hz', sh_bI_n hz2⟩] at hm
  rw [wx, wy]
  exact sy_reckon h3 h9 (sy_make (by omega) (hm _ rfl))
theorem sy_pick (hn : n ≤ 48) {post : SY → Prop} {i x y z : Nat} (hi : i < n) (h10 : K i = 10) (hx : x < i) (hy : y < i) (hzi : z < i) (hR : ∀ j, j < i → a_stands j = nI (T j).1 ∧ a_isConst j = sh_bI (T j).2.1 ∧ a_number j = (T j).2.2)
    (hc : ∀ t, t < i → sh_pick T i x y z = (t, (T t).2) → post (f_lines, f_known, f_wrong, f_place, f_blocks, f_steps, f_dropped, f_on, f_next, f_again, f_depth, a_ops, a_as, a_bs, a_cs, a_blockOf, a_opener, a_around, a_other, a_end, a_open, a_varied, a_loose, a_variedVariable, upd a_stands i (nI t), upd a_number i (T t).2.2, upd a_isConst i (sh_bI (T t).2.1), a_needed, a_inputs, a_values, a_variables, a_cells, a_outs, a_was, a_rest, a_line))
    (hz : sh_pick T i x y z = (i, false, 0) → post (f_lines, f_known, f_wrong, f_place, f_blocks, f_steps, f_dropped, f_on, f_next, f_again, f_depth, a_ops, a_as, a_bs, a_cs, a_blockOf, a_opener, a_around, a_other, a_end, a_open, a_varied, a_loose, a_variedVariable, a_stands, a_number, a_isConst, a_needed, a_inputs, a_values, a_variables, a_cells, a_outs, a_was, a_rest, a_line)) : wY_simplify_63 post (nI i) (nI (K i)) (nI x) (nI y) (nI z) f_lines f_known f_wrong f_place f_blocks f_steps f_dropped f_on f_next f_again f_depth a_ops a_as a_bs a_cs a_blockOf a_opener a_around a_other a_end a_open a_varied a_loose a_variedVariable a_stands a_number a_isConst a_needed a_inputs a_values a_variables a_cells a_outs a_was a_rest a_line := by
  have cx : (nI x).toNatClampNeg = x := nI_clamp (by omega)
  have ix : vp_in (nI x) 48 := vp_in_nI (by omega) (by omega)
  obtain ⟨_, fx, wx⟩ := hR x hx
  obtain ⟨_, fy, wy⟩ := hR y hy
  obtain ⟨_, fz, wz⟩ := hR z hzi
  unfold sh_pick at hc hz
  refine pk_eq (K i) 10 (fun _ => ⟨ix, ?_⟩) (fun h => absurd h10 h)
  rw [cx, fx, wx]
  refine br_c (fun hf => ?_) (fun hf => ⟨ix, ?_⟩)
  · rw [if_neg (by rw [sh_bI_0 hf]; decide)] at hz
    have hc' := hc y hy
    rw [if_neg (by rw [sh_bI_0 hf]; decide)] at hc'
    refine pk_eq y z (fun e => ?_) (fun e => ?_)
    · rw [if_pos e] at hc'
      exact sy_copy (by omega) (by omega) (by omega) fy wy (hc' rfl)
    · rw [if_neg e] at hz; exact hz rfl
  · refine br_c (fun h0 => ?_) (fun h0 => ?_)
    · have hc' := hc z hzi
      rw [if_pos (sh_bI_n hf), if_pos h0] at hc'
      exact sy_copy (by omega) (by omega) (by omega) fz wz (hc' rfl)
    · have hc' := hc y hy
      rw [if_pos (sh_bI_n hf), if_neg h0] at hc'
      exact sy_copy (by omega) (by omega) (by omega) fy wy (hc' rfl)
theorem sy_simplify (hP : yv_P K n a_ops a_as a_bs a_cs a_blockOf a_opener a_around) {post : SY → Prop} {i : Nat} (hi : i < n) (h3 : 3 ≤ K i) (h10 : K i ≤ 10) (hR : ∀ j, j < i → a_stands j = nI (T j).1 ∧ a_isConst j = sh_bI (T j).2.1 ∧ a_number j = (T j).2.2) (hg : ∀ j, j < i → (T j).1 ≤ j)
    (hc : ∀ t, t < i → sh_1 K a_as a_bs a_cs T i = (t, (T t).2) → post (f_lines, f_known, f_wrong, f_place, f_blocks, f_steps, f_dropped, f_on, f_next, f_again, f_depth, a_ops, a_as, a_bs, a_cs, a_blockOf, a_opener, a_around, a_other, a_end, a_open, a_varied, a_loose, a_variedVariable, upd a_stands i (nI t), upd a_number i (T t).2.2, upd a_isConst i (sh_bI (T t).2.1), a_needed, a_inputs, a_values, a_variables, a_cells, a_outs, a_was, a_rest, a_line))
    (hm : ∀ v, sh_1 K a_as a_bs a_cs T i = (i, true, v) → post (f_lines, f_known, f_wrong, f_place, f_blocks, f_steps, f_dropped, f_on, f_next, f_again, f_depth, a_ops, a_as, a_bs, a_cs, a_blockOf, a_opener, a_around, a_other, a_end, a_open, a_varied, a_loose, a_variedVariable, a_stands, upd a_number i v, upd a_isConst i 1, a_needed, a_inputs, a_values, a_variables, a_cells, a_outs, a_was, a_rest, a_line))
    (hz : sh_1 K a_as a_bs a_cs T i = (i, false, 0) → post (f_lines, f_known, f_wrong, f_place, f_blocks, f_steps, f_dropped, f_on, f_next, f_again, f_depth, a_ops, a_as, a_bs, a_cs, a_blockOf, a_opener, a_around, a_other, a_end, a_open, a_varied, a_loose, a_variedVariable, a_stands, a_number, a_isConst, a_needed, a_inputs, a_values, a_variables, a_cells, a_outs, a_was, a_rest, a_line)) : wpY_simplify post (f_lines, f_known, f_wrong, f_place, f_blocks, f_steps, f_dropped, f_on, f_next, f_again, f_depth, a_ops, a_as, a_bs, a_cs, a_blockOf, a_opener, a_around, a_other, a_end, a_open, a_varied, a_loose, a_variedVariable, a_stands, a_number, a_isConst, a_needed, a_inputs, a_values, a_variables, a_cells, a_outs, a_was, a_rest, a_line) (nI i) := by
  obtain ⟨hn, hK, hgd, h4, hok, hB, hA⟩ := hP
  have ci : (nI i).toNatClampNeg = i := nI_clamp (by omega)
  have ii : vp_in (nI i) 48 := vp_in_nI (by omega) (by omega)
  have u0 : sc_us (K i) 0 := by unfold sc_us; omega
  obtain ⟨o0, e0, _⟩ := sh_ov_lt (by omega) (hok i hi 0 (by omega) u0)
  have g0 := hg _ o0
  have e0' : a_as i = nI (sh_o a_as a_bs a_cs 0 i) := e0
  refine ⟨ii, nm_c ci (hK i hi).1 ⟨ii, ?_⟩⟩
  rw [ci, e0', nI_clamp (by omega), (hR _ o0).1]
  refine ⟨vp_in_nI (by omega) (by omega), nm_e ?_⟩
  have e1 : K i ≠ 10 → sh_1 K a_as a_bs a_cs T i = sh_sum K T i (T (sh_o a_as a_bs a_cs 0 i)).1 (if K i = 9 then (T (sh_o a_as a_bs a_cs 0 i)).1 else (T (sh_o a_as a_bs a_cs 1 i)).1) := fun h => by
    unfold sh_1; rw [if_neg (by omega), if_neg h, if_pos (by omega)]
  refine pk_eq (K i) 9 (fun e9 => ?_) (fun e9 => ⟨ii, ?_⟩)
  · rw [e1 (by omega), if_pos e9] at hc hm hz
    exact pk_eq (K i) 10 (fun h => absurd h (by omega)) (fun _ => sy_sum (K := K) (T := T) hn hi h3 (by omega) (by omega) (by omega) hR hc hm hz)
  · have u1 : sc_us (K i) 1 := by unfold sc_us; omega
    obtain ⟨o1, e1', _⟩ := sh_ov_lt (by omega) (hok i hi 1 (by omega) u1)
    have g1 := hg _ o1
    have e1'' : a_bs i = nI (sh_o a_as a_bs a_cs 1 i) := e1'
    rw [e1'', nI_clamp (by omega), (hR _ o1).1]
    refine ⟨vp_in_nI (by omega) (by omega), ?_⟩
    refine pk_eq (K i) 10 (fun e10 => ⟨ii, ?_⟩) (fun e10 => ?_)
    · have u2 : sc_us (K i) 2 := by unfold sc_us; omega
      obtain ⟨o2, e2', _⟩ := sh_ov_lt (by omega) (hok i hi 2 (by omega) u2)
      have g2 := hg _ o2
      have e2'' : a_cs i = nI (sh_o a_as a_bs a_cs 2 i) := e2'
      have ep : sh_1 K a_as a_bs a_cs T i = sh_pick T i (T (sh_o a_as a_bs a_cs 0 i)).1 (T (sh_o a_as a_bs a_cs 1 i)).1 (T (sh_o a_as a_bs a_cs 2 i)).1 := by
        unfold sh_1; rw [if_neg (by omega), if_pos e10]
      rw [ep] at hc hz
      rw [ci, e2'', nI_clamp (by omega), (hR _ o2).1]
      exact ⟨vp_in_nI (by omega) (by omega), sy_pick (K := K) (T := T) hn hi e10 (by omega) (by omega) (by omega) hR hc hz⟩
    · rw [e1 e10, if_neg e9] at hc hm hz
      exact sy_sum (K := K) (T := T) hn hi h3 (by omega) (by omega) (by omega) hR hc hm hz
end
end
section
section
variable {K : Nat → Nat} {n : Nat} {T : Nat → Nat × Bool × Int32}
variable {f_lines f_known f_wrong f_place f_blocks f_steps f_dropped f_on f_next f_again f_depth : Int32} {a_ops a_as a_bs a_cs a_blockOf a_opener a_around a_other a_end a_open a_varied a_loose a_variedVariable a_stands a_number a_isConst a_needed a_inputs a_values a_variables a_cells a_outs a_was a_rest a_line : Nat → Int32}
theorem an_11 : (1 : Int32) &&& 1 = 1 := by decide
theorem an_10 : (1 : Int32) &&& 0 = 0 := by decide
theorem an_01 : (0 : Int32) &&& 1 = 0 := by decide
theorem an_00 : (0 : Int32) &&& 0 = 0 := by decide
theorem sy_al39 (hP : yv_P K n a_ops a_as a_bs a_cs a_blockOf a_opener a_around) {post : Int32 → Prop} {i j : Nat} (hi : i < n) (hj : j < i) (hk : K i = K j) (hS : ∀ j, j < i → a_stands j = nI (T j).1) (hg : ∀ j, j < i → (T j).1 ≤ j)
    (h1 : sh_al K a_as a_bs a_cs T i j → post 1) (h0 : ¬ sh_al K a_as a_bs a_cs T i j → post 0) :
    ∀ (d t : Nat) (x4 : Int32), t + d = 3 → ((x4 = 1 ∧ ∀ s, s < t → sc_us (K i) s → (T (sh_o a_as a_bs a_cs s i)).1 = (T (sh_o a_as a_bs a_cs s j)).1) ∨ (x4 = 0 ∧ ∃ s, s < t ∧ sc_us (K i) s ∧ (T (sh_o a_as a_bs a_cs s i)).1 ≠ (T (sh_o a_as a_bs a_cs s j)).1)) → wY_alike_39 post (nI i) (nI j) (nI (K i)) f_lines f_known f_wrong f_place f_blocks f_steps f_dropped f_on f_next f_again f_depth a_ops a_as a_bs a_cs a_blockOf a_opener a_around a_other a_end a_open a_varied a_loose a_variedVariable a_stands a_number a_isConst a_needed a_inputs a_values a_variables a_cells a_outs a_was a_rest a_line (d + 1) x4 (nI t) := by
  have hP' := hP
  obtain ⟨hn, hK, hgd, h4, hok, hB, hA⟩ := hP'
  have ki := (hK i hi).2
  have ci : (nI i).toNatClampNeg = i := nI_clamp (by omega)
  have cj : (nI j).toNatClampNeg = j := nI_clamp (by omega)
  have ii : vp_in (nI i) 48 := vp_in_nI (by omega) (by omega)
  have ij : vp_in (nI j) 48 := vp_in_nI (by omega) (by omega)
  have sv : ∀ s, s < 3 → sc_us (K i) s → sh_o a_as a_bs a_cs s i < i ∧ sc_o3 a_as a_bs a_cs s i = nI (sh_o a_as a_bs a_cs s i) ∧ sh_o a_as a_bs a_cs s j < i ∧ sc_o3 a_as a_bs a_cs s j = nI (sh_o a_as a_bs a_cs s j) := fun s hs hu => by
    obtain ⟨a, b, _⟩ := sh_ov_lt (by omega) (hok i hi s hs hu)
    obtain ⟨c, d, _⟩ := sh_ov_lt (by omega) (hok j (by omega) s hs (by rw [← hk]; exact hu))
    exact ⟨a, b, by omega, d⟩
  intro d
  induction d with
  | zero =>
    intro t x4 ht hst
    cases (show t = 3 by omega)
    have t125 : ∀ z : Int32, (z = 1 ∧ (K i = 3 ∨ K i = 5 ∨ K i = 7 ∨ K i = 8) ∨ z = 0 ∧ ¬ (K i = 3 ∨ K i = 5 ∨ K i = 7 ∨ K i = 8)) → wY_alike_125 post (nI i) (nI j) x4 z f_lines f_known f_wrong f_place f_blocks f_steps f_dropped f_on f_next f_again f_depth a_ops a_as a_bs a_cs a_blockOf a_opener a_around a_other a_end a_open a_varied a_loose a_variedVariable a_stands a_number a_isConst a_needed a_inputs a_values a_variables a_cells a_outs a_was a_rest a_line := by
      intro z hz
      rcases hst with ⟨rfl, hall⟩ | ⟨rfl, s, hs, hu, hne⟩
      · exact br_f (by decide) (h1 (Or.inl hall))
      · refine br_t rfl ?_
        have nall : ¬ ∀ s, s < 3 → sc_us (K i) s → (T (sh_o a_as a_bs a_cs s i)).1 = (T (sh_o a_as a_bs a_cs s j)).1 := fun h => hne (h s hs hu)
        rcases hz with ⟨rfl, hk3⟩ | ⟨rfl, hk3⟩
        · obtain ⟨a0, b0, c0, d0⟩ := sv 0 (by omega) (by unfold sc_us; omega)
          obtain ⟨a1, b1, c1, d1⟩ := sv 1 (by omega) (by unfold sc_us; omega)
          have b0' : a_as i = nI (sh_o a_as a_bs a_cs 0 i) := b0
          have b1' : a_bs i = nI (sh_o a_as a_bs a_cs 1 i) := b1
          have d0' : a_as j = nI (sh_o a_as a_bs a_cs 0 j) := d0
          have d1' : a_bs j = nI (sh_o a_as a_bs a_cs 1 j) := d1
          have ga0 := hg _ a0
          have ga1 := hg _ a1
          have gc0 := hg _ c0
          have gc1 := hg _ c1
          refine br_f (by decide) ⟨ii, ?_⟩
          rw [ci, cj, b0', b1', d0', d1']
          generalize ep0 : sh_o a_as a_bs a_cs 0 i = p0 at *
          generalize ep1 : sh_o a_as a_bs a_cs 1 i = p1 at *
          generalize eq0 : sh_o a_as a_bs a_cs 0 j = q0 at *
          generalize eq1 : sh_o a_as a_bs a_cs 1 j = q1 at *
          rw [nI_clamp (show p0 < 2 ^ 31 by omega), nI_clamp (show p1 < 2 ^ 31 by omega), nI_clamp (show q0 < 2 ^ 31 by omega), nI_clamp (show q1 < 2 ^ 31 by omega), hS p0 a0, hS p1 a1, hS q0 c0, hS q1 c1]
          refine ⟨vp_in_nI (by omega) (by omega), ij, vp_in_nI (by omega) (by omega), pk_eq (T p0).1 (T q1).1 (fun e1 => ⟨ii, vp_in_nI (by omega) (by omega), ij, vp_in_nI (by omega) (by omega), pk_eq (T p1).1 (T q0).1 (fun e2 => h1 (Or.inr ⟨hk3, by rw [ep0, eq1]; exact e1, by rw [ep1, eq0]; exact e2⟩)) (fun e2 => h0 ?_)⟩) (fun e1 => h0 ?_)⟩
          · rintro (h | ⟨_, _, h⟩)
            · exact nall h
            · rw [ep1, eq0] at h; exact e2 h
          · rintro (h | ⟨_, h, _⟩)
            · exact nall h
            · rw [ep0, eq1] at h; exact e1 h
        · refine br_t rfl (h0 ?_)
          rintro (h | ⟨h, _⟩)
          · exact nall h
          · exact hk3 h
    exact br_t (by decide) (pk_eq (K i) 3 (fun h => t125 1 (Or.inl ⟨rfl, by omega⟩)) (fun n3 => pk_eq (K i) 5 (fun h => t125 1 (Or.inl ⟨rfl, by omega⟩)) (fun n5 => pk_eq (K i) 7 (fun h => t125 1 (Or.inl ⟨rfl, by omega⟩)) (fun n7 => pk_eq (K i) 8 (fun h => t125 1 (Or.inl ⟨rfl, by omega⟩)) (fun n8 => t125 0 (Or.inr ⟨rfl, by omega⟩))))))
  | succ d ih =>
    intro t x4 ht hst
    refine br_f (nI_ge (b := 3) (by omega) (by decide)) ?_
    have keep : (sc_us (K i) t → (T (sh_o a_as a_bs a_cs t i)).1 = (T (sh_o a_as a_bs a_cs t j)).1) → wY_alike_39 post (nI i) (nI j) (nI (K i)) f_lines f_known f_wrong f_place f_blocks f_steps f_dropped f_on f_next f_again f_depth a_ops a_as a_bs a_cs a_blockOf a_opener a_around a_other a_end a_open a_varied a_loose a_variedVariable a_stands a_number a_isConst a_needed a_inputs a_values a_variables a_cells a_outs a_was a_rest a_line (d + 1) (x4 &&& 1) (nI (t + 1)) := by
      intro he
      rcases hst with ⟨rfl, hall⟩ | ⟨rfl, s, hs, hu, hne⟩
      · rw [an_11]
        refine ih (t + 1) 1 (by omega) (Or.inl ⟨rfl, fun s hs hus => ?_⟩)
        by_cases e : s = t
        · rw [e] at hus ⊢; exact he hus
        · exact hall s (by omega) hus
      · rw [an_01]; exact ih (t + 1) 0 (by omega) (Or.inr ⟨rfl, s, by omega, hu, hne⟩)
    refine ys_uses hn hK hi (by omega) (fun hu => br_f (by decide) ?_) (fun hu => br_t rfl (nm_e (nm_r (nI_1 t) (keep (fun h => absurd h hu)))))
    obtain ⟨a, b, c, d'⟩ := sv t (by omega) hu
    have ga := hg _ a
    have gc := hg _ c
    refine ys_operand hn hi (by omega) ?_
    rw [b]
    refine ⟨vp_in_nI (by omega) (by omega), ?_⟩
    refine ys_operand hn (show j < n by omega) (by omega) ?_
    rw [d']
    refine ⟨vp_in_nI (by omega) (by omega), ?_⟩
    rw [nI_clamp (by omega), nI_clamp (by omega), hS _ a, hS _ c]
    refine pk_eq _ _ (fun e => nm_e (nm_r (nI_1 t) (keep (fun _ => e)))) (fun e => nm_r (e' := 0) ?_ (nm_r (nI_1 t) (ih (t + 1) 0 (by omega) (Or.inr ⟨rfl, t, by omega, hu, e⟩))))
    rcases hst with ⟨rfl, _⟩ | ⟨rfl, _⟩
    · exact an_10
    · exact an_00
theorem sy_alike (hP : yv_P K n a_ops a_as a_bs a_cs a_blockOf a_opener a_around) {post : Int32 → Prop} {i j : Nat} (hi : i < n) (hj : j < i) (hk : K i = K j) (hS : ∀ j, j < i → a_stands j = nI (T j).1) (hg : ∀ j, j < i → (T j).1 ≤ j)
    (h1 : ((K i = 1 ∧ a_as i = a_as j) ∨ (K i ≠ 1 ∧ sh_al K a_as a_bs a_cs T i j)) → post 1) (h0 : ¬ ((K i = 1 ∧ a_as i = a_as j) ∨ (K i ≠ 1 ∧ sh_al K a_as a_bs a_cs T i j)) → post 0) : wpY_alike post (f_lines, f_known, f_wrong, f_place, f_blocks, f_steps, f_dropped, f_on, f_next, f_again, f_depth, a_ops, a_as, a_bs, a_cs, a_blockOf, a_opener, a_around, a_other, a_end, a_open, a_varied, a_loose, a_variedVariable, a_stands, a_number, a_isConst, a_needed, a_inputs, a_values, a_variables, a_cells, a_outs, a_was, a_rest, a_line) (nI i) (nI j) := by
  have hn := hP.1
  have hK := hP.2.1
  have ki := hK i hi
  have ci : (nI i).toNatClampNeg = i := nI_clamp (by omega)
  have cj : (nI j).toNatClampNeg = j := nI_clamp (by omega)
  have ii : vp_in (nI i) 48 := vp_in_nI (by omega) (by omega)
  have ij : vp_in (nI j) 48 := vp_in_nI (by omega) (by omega)
  refine ⟨ii, nm_c ci ki.1 (pk_eq (K i) 1 (fun e1 => ⟨ii, ij, ?_⟩) (fun e1 => ⟨4, ?_⟩))⟩
  · rw [ci, cj]
    refine br_c (fun e => h1 (Or.inl ⟨e1, e⟩)) (fun e => h0 ?_)
    rintro (⟨_, h⟩ | ⟨h, _⟩)
    · exact e h
    · exact h e1
  · refine sy_al39 (K := K) (n := n) (T := T) hP hi hj hk hS hg (fun h => h1 (Or.inr ⟨e1, h⟩)) (fun h => h0 ?_) 3 0 1 rfl (Or.inl ⟨rfl, fun s hs => by omega⟩)
    rintro (⟨h', _⟩ | ⟨_, h'⟩)
    · exact e1 h'
    · exact h h'
theorem sh_const {A B C : Nat → Int32} {j : Nat} {o : Nat × Bool × Int32} (l : sh_line K A B C T j o) (h : o.2.1 = true) : K j ≤ 10 := by
  have : (sh_1 K A B C T j).2.1 = true := by
    rcases l with ⟨_, e⟩ | ⟨_, r, _, e⟩
    · rw [e] at h; exact h
    · rw [e] at h; exact h
  unfold sh_1 at this
  split at this
  · omega
  · split at this
    · omega
    · split at this
      · omega
      · cases this
/-- Y's search for the first line that is alike -/
theorem sy_match2 (hP : yv_P K n a_ops a_as a_bs a_cs a_blockOf a_opener a_around) {post : SY → Prop} {i : Nat} {f : Bool} {v : Int32} (hi : i < n) (hcmp : sh_cmp (K i)) (hR : ∀ j, j < i → a_stands j = nI (T j).1 ∧ a_isConst j = sh_bI (T j).2.1 ∧ a_number j = (T j).2.2) (hg : ∀ j, j < i → (T j).1 ≤ j) (hl : ∀ j, j < i → sh_line K a_as a_bs a_cs T j (T j)) (hs : a_stands i = nI i) (hf : a_isConst i = sh_bI f) (hw : a_number i = v)
    (h : ∀ r, sh_F (sh_P K a_as a_bs a_cs T i f v) i r → post (f_lines, f_known, f_wrong, f_place, f_blocks, f_steps, f_dropped, f_on, f_next, f_again, f_depth, a_ops, a_as, a_bs, a_cs, a_blockOf, a_opener, a_around, a_other, a_end, a_open, a_varied, a_loose, a_variedVariable, upd a_stands i (nI r), a_number, a_isConst, a_needed, a_inputs, a_values, a_variables, a_cells, a_outs, a_was, a_rest, a_line)) : ∀ d t : Nat, t + d = i → (∀ j, j < t → ¬ sh_P K a_as a_bs a_cs T i f v j) → wY_match_2 post (nI i) f_lines f_known f_wrong f_place f_blocks f_steps f_dropped f_on f_next f_again f_depth (d + 2) (nI t) a_ops a_as a_bs a_cs a_blockOf a_opener a_around a_other a_end a_open a_varied a_loose a_variedVariable a_stands a_number a_isConst a_needed a_inputs a_values a_variables a_cells a_outs a_was a_rest a_line := by
  have hP' := hP
  obtain ⟨hn, hK, hgd, h4, hok, hB, hA⟩ := hP'
  have ci : (nI i).toNatClampNeg = i := nI_clamp (by omega)
  have ii : vp_in (nI i) 48 := vp_in_nI (by omega) (by omega)
  have ki := hK i hi
  intro d
  induction d with
  | zero =>
    intro t ht hno
    cases (show t = i by omega)
    have := h i (Or.inl ⟨rfl, hno⟩)
    rw [up_same hs] at this
    exact br_t (nI_le (Nat.le_refl _) (by omega)) this
  | succ d ih =>
    intro t ht hno
    have ct : (nI t).toNatClampNeg = t := nI_clamp (by omega)
    have it : vp_in (nI t) 48 := vp_in_nI (by omega) (by omega)
    obtain ⟨r1, r2, r3⟩ := hR t (by omega)
    have kt := hK t (by omega)
    have gt := hg t (by omega)
    have next : ¬ sh_P K a_as a_bs a_cs T i f v t → wY_match_2 post (nI i) f_lines f_known f_wrong f_place f_blocks f_steps f_dropped f_on f_next f_again f_depth (d + 2) (nI (t + 1)) a_ops a_as a_bs a_cs a_blockOf a_opener a_around a_other a_end a_open a_varied a_loose a_variedVariable a_stands a_number a_isConst a_needed a_inputs a_values a_variables a_cells a_outs a_was a_rest a_line := fun hn' =>
      ih (t + 1) (by omega) (fun j hj => by
        by_cases e : j = t
        · rw [e]; exact hn'
        · exact hno j (by omega))
    have no : ¬ sh_P K a_as a_bs a_cs T i f v t → wY_match_139 post (wY_match_2 post (nI i) f_lines f_known f_wrong f_place f_blocks f_steps f_dropped f_on f_next f_again f_depth (d + 2)) (nI i) (nI t) 0 f_lines f_known f_wrong f_place f_blocks f_steps f_dropped f_on f_next f_again f_depth a_ops a_as a_bs a_cs a_blockOf a_opener a_around a_other a_end a_open a_varied a_loose a_variedVariable a_stands a_number a_isConst a_needed a_inputs a_values a_variables a_cells a_outs a_was a_rest a_line := fun hn' => br_t rfl (nm_r (nI_1 t) (next hn'))
    have yes : sh_P K a_as a_bs a_cs T i f v t → wY_match_139 post (wY_match_2 post (nI i) f_lines f_known f_wrong f_place f_blocks f_steps f_dropped f_on f_next f_again f_depth (d + 2)) (nI i) (nI t) 1 f_lines f_known f_wrong f_place f_blocks f_steps f_dropped f_on f_next f_again f_depth a_ops a_as a_bs a_cs a_blockOf a_opener a_around a_other a_end a_open a_varied a_loose a_variedVariable a_stands a_number a_isConst a_needed a_inputs a_values a_variables a_cells a_outs a_was a_rest a_line := fun hp => by
      have fin := h t (Or.inr ⟨by omega, hp, hno⟩)
      refine br_f (by decide) ⟨ii, nm_r (e' := upd a_stands i (nI t)) (by rw [ci]) (nm_r (nI_1 t) ?_)⟩
      refine br_c (fun _ => fin) (fun _ => ⟨ii, ?_⟩)
      rw [ci, pk_us]
      exact pk_eq t i (fun e => absurd e (by omega)) (fun _ => fin)
    refine br_f (nI_ge (by omega) (by omega)) ⟨ii, ?_⟩
    rw [ci, hs]
    refine br_t rfl ⟨it, ?_⟩
    rw [ct, r1]
    refine pk_eq (T t).1 t (fun es => ⟨it, ?_⟩) (fun es => nm_r (nI_1 t) (next (fun hp => es hp.1)))
    rw [kt.1]
    refine ys_gives kt.2 (fun h16 => br_f (by decide) ⟨vp_in_nI (by omega) (by omega), vp_in_nI (by omega) (by omega), ?_⟩) (fun h16 => br_t rfl (nm_r (nI_1 t) (next (fun hp => ?_))))
    · rw [hB t (by omega), hB i hi]
      refine ys_isOpen (K := K) hn hi (sc_good_le hgd (by omega)) (fun j hj ho => (hA j (by omega) ho).1) (by omega) (fun hin => br_f (by decide) ⟨ii, ?_⟩) (fun hin => br_t rfl (nm_r (nI_1 t) (next (fun hp => hin hp.2.1))))
      rw [hf, r2]
      have t79 : (f = true ∨ (T t).2.1 = true) → wY_match_79 post (wY_match_2 post (nI i) f_lines f_known f_wrong f_place f_blocks f_steps f_dropped f_on f_next f_again f_depth (d + 2)) (nI i) (nI t) f_lines f_known f_wrong f_place f_blocks f_steps f_dropped f_on f_next f_again f_depth a_ops a_as a_bs a_cs a_blockOf a_opener a_around a_other a_end a_open a_varied a_loose a_variedVariable a_stands a_number a_isConst a_needed a_inputs a_values a_variables a_cells a_outs a_was a_rest a_line := by
        intro hor
        refine ⟨ii, ?_⟩
        rw [ci, hf, hw]
        refine br_c (fun hz => no (fun hp => ?_)) (fun hz => ⟨ii, ?_⟩)
        · have e := sh_bI_0 hz
          rcases hp.2.2 with ⟨a, _⟩ | ⟨_, b, _⟩
          · rw [e] at a; cases a
          · rcases hor with h' | h'
            · rw [e] at h'; cases h'
            · rw [b] at h'; cases h'
        · have e := sh_bI_n hz
          refine sy_is (T := T) (by omega) r2 r3 (fun h' => br_f (by decide) (yes ⟨es, hin, Or.inl ⟨e, sh_is_F h', ?_⟩⟩)) (fun h' => br_t rfl (no (fun hp => ?_)))
          · unfold sh_is at h'; simp only [Bool.and_eq_true, beq_iff_eq] at h'; exact h'.2.symm
          · rcases hp.2.2 with ⟨_, b, c⟩ | ⟨a, _⟩
            · unfold sh_is at h'; rw [b, c] at h'; simp at h'
            · rw [e] at a; cases a
      refine br_c (fun hz => ⟨it, br_c (fun hz2 => ⟨ii, it, ?_⟩) (fun hz2 => t79 (Or.inr (sh_bI_n hz2)))⟩) (fun hz => t79 (Or.inl (sh_bI_n hz)))
      have ef := sh_bI_0 hz
      have eF := sh_bI_0 hz2
      rw [ki.1]
      refine pk_eq (K i) (K t) (fun hk => ?_) (fun hk => no (fun hp => ?_))
      · refine sy_alike (K := K) (n := n) (T := T) hP hi (by omega) hk (fun j hj => (hR j hj).1) hg (fun ha => br_f (by decide) (yes ⟨es, hin, Or.inr ⟨ef, eF, hk, ha⟩⟩)) (fun ha => br_t rfl (no (fun hp => ?_)))
        rcases hp.2.2 with ⟨a, _⟩ | ⟨_, _, _, d⟩
        · rw [ef] at a; cases a
        · exact ha d
      · rcases hp.2.2 with ⟨a, _⟩ | ⟨_, _, c, _⟩
        · rw [ef] at a; cases a
        · exact hk c
    · rcases hp.2.2 with ⟨_, b, _⟩ | ⟨_, _, c, _⟩
      · have := sh_const (hl t (by omega)) b; omega
      · unfold sh_cmp at hcmp; omega
end
end
section
section
variable {K : Nat → Nat} {n : Nat} {T : Nat → Nat × Bool × Int32}
variable {f_lines f_known f_wrong f_place f_blocks f_steps f_dropped f_on f_next f_again f_depth : Int32} {a_ops a_as a_bs a_cs a_blockOf a_opener a_around a_other a_end a_open a_varied a_loose a_variedVariable a_stands a_number a_isConst a_needed a_inputs a_values a_variables a_cells a_outs a_was a_rest a_line : Nat → Int32}
/-- what Y holds as needed to begin with -/
def ny_0 (K : Nat → Nat) (i : Nat) (nd : Nat → Int32) : Prop := ∀ j, j < i → nd j = if 18 ≤ K j ∨ K j = 16 then 1 else 0
def sy_out (K : Nat → Nat) (A B C : Nat → Int32) (T : Nat → Nat × Bool × Int32) (i : Nat) (stands isc num stands' isc' num' : Nat → Int32) : Prop :=
  (∀ j, j < i → stands' j = stands j ∧ isc' j = isc j ∧ num' j = num j) ∧ ∃ o, sh_line K A B C T i o ∧ stands' i = nI o.1 ∧ isc' i = sh_bI o.2.1 ∧ num' i = o.2.2
theorem sy_136 (hP : yv_P K n a_ops a_as a_bs a_cs a_blockOf a_opener a_around) {post : SY → Prop} {J : Int32 → Int32 → Int32 → Int32 → Int32 → Int32 → Int32 → Int32 → Int32 → Int32 → Int32 → Int32 → (Nat → Int32) → (Nat → Int32) → (Nat → Int32) → (Nat → Int32) → (Nat → Int32) → (Nat → Int32) → (Nat → Int32) → (Nat → Int32) → (Nat → Int32) → (Nat → Int32) → (Nat → Int32) → (Nat → Int32) → (Nat → Int32) → (Nat → Int32) → (Nat → Int32) → (Nat → Int32) → (Nat → Int32) → (Nat → Int32) → (Nat → Int32) → (Nat → Int32) → (Nat → Int32) → (Nat → Int32) → (Nat → Int32) → (Nat → Int32) → (Nat → Int32) → Prop} {i : Nat} (hi : i < n) (hR : ∀ j, j < i → a_stands j = nI (T j).1 ∧ a_isConst j = sh_bI (T j).2.1 ∧ a_number j = (T j).2.2) (hg : ∀ j, j < i → (T j).1 ≤ j) (hl : ∀ j, j < i → sh_line K a_as a_bs a_cs T j (T j)) (hc10 : (sh_1 K a_as a_bs a_cs T i).2.1 = true → K i ≤ 10)
    (es : a_stands i = nI (sh_1 K a_as a_bs a_cs T i).1) (hle : (sh_1 K a_as a_bs a_cs T i).1 ≤ i) (ef : a_isConst i = sh_bI (sh_1 K a_as a_bs a_cs T i).2.1) (ew : a_number i = (sh_1 K a_as a_bs a_cs T i).2.2)
    (h : ∀ stands' isc' num', sy_out K a_as a_bs a_cs T i a_stands a_isConst a_number stands' isc' num' → J (nI (i + 1)) f_lines f_known f_wrong f_place f_blocks f_steps f_dropped f_on f_next f_again f_depth a_ops a_as a_bs a_cs a_blockOf a_opener a_around a_other a_end a_open a_varied a_loose a_variedVariable stands' num' isc' a_needed a_inputs a_values a_variables a_cells a_outs a_was a_rest a_line) : wY_shorten_136 post J (nI i) f_lines f_known f_wrong f_place f_blocks f_steps f_dropped f_on f_next f_again f_depth a_ops a_as a_bs a_cs a_blockOf a_opener a_around a_other a_end a_open a_varied a_loose a_variedVariable a_stands a_number a_isConst a_needed a_inputs a_values a_variables a_cells a_outs a_was a_rest a_line := by
  have hP' := hP
  obtain ⟨hn, hK, hgd, h4, hok, hB, hA⟩ := hP'
  have ci : (nI i).toNatClampNeg = i := nI_clamp (by omega)
  have ii : vp_in (nI i) 48 := vp_in_nI (by omega) (by omega)
  have ki := hK i hi
  have stay : ¬ ((sh_1 K a_as a_bs a_cs T i).1 = i ∧ sh_cmp (K i)) → J (nI (i + 1)) f_lines f_known f_wrong f_place f_blocks f_steps f_dropped f_on f_next f_again f_depth a_ops a_as a_bs a_cs a_blockOf a_opener a_around a_other a_end a_open a_varied a_loose a_variedVariable a_stands a_number a_isConst a_needed a_inputs a_values a_variables a_cells a_outs a_was a_rest a_line := fun hno =>
    h a_stands a_isConst a_number ⟨fun j hj => ⟨rfl, rfl, rfl⟩, _, Or.inl ⟨hno, rfl⟩, es, ef, ew⟩
  refine ⟨ii, ?_⟩
  rw [ci, es]
  refine pk_eq (sh_1 K a_as a_bs a_cs T i).1 i (fun eq => ⟨ii, ?_⟩) (fun ne => nm_r (nI_1 i) (stay (fun h => ne h.1)))
  have t188 : sh_cmp (K i) → wY_shorten_188 post J (nI i) f_lines f_known f_wrong f_place f_blocks f_steps f_dropped f_on f_next f_again f_depth a_ops a_as a_bs a_cs a_blockOf a_opener a_around a_other a_end a_open a_varied a_loose a_variedVariable a_stands a_number a_isConst a_needed a_inputs a_values a_variables a_cells a_outs a_was a_rest a_line := fun hc =>
    ⟨i + 2, sy_match2 (K := K) (n := n) (T := T) hP hi hc hR hg hl (by rw [es, eq]) ef ew (fun r hr => nm_r (nI_1 i) (h _ _ _ ⟨fun j hj => ⟨pk_un (by omega), rfl, rfl⟩, _, Or.inr ⟨⟨eq, hc⟩, r, hr, rfl⟩, pk_us, ef, ew⟩)) i 0 (by omega) (fun j hj => by omega)⟩
  rw [ef, ki.1]
  refine br_c (fun hz => ⟨ii, pk_lt (K i) 11 (fun h11 => t188 (by unfold sh_cmp; omega)) (fun h11 => ⟨ii, pk_eq (K i) 12 (fun h12 => t188 (by unfold sh_cmp; omega)) (fun h12 => ⟨ii, pk_eq (K i) 13 (fun h13 => t188 (by unfold sh_cmp; omega)) (fun h13 => nm_r (nI_1 i) (stay (fun h => ?_)))⟩)⟩)⟩) (fun hz => t188 (by have := hc10 (sh_bI_n hz); unfold sh_cmp; omega))
  have := h.2
  unfold sh_cmp at this
  omega
theorem sy_line (hP : yv_P K n a_ops a_as a_bs a_cs a_blockOf a_opener a_around) {post : SY → Prop} {i d : Nat} (hi : i < n) (hR : sh_R T i a_stands a_isConst a_number) (hgT : ∀ j, j < i → sh_good T j) (hl : ∀ j, j < i → sh_line K a_as a_bs a_cs T j (T j))
    (h : ∀ stands' isc' num', sy_out K a_as a_bs a_cs T i a_stands a_isConst a_number stands' isc' num' → wY_shorten_2 post d (nI (i + 1)) (nI n) f_known f_wrong f_place f_blocks f_steps f_dropped f_on f_next f_again f_depth a_ops a_as a_bs a_cs a_blockOf a_opener a_around a_other a_end a_open a_varied a_loose a_variedVariable stands' num' isc' (upd a_needed i (if 18 ≤ K i ∨ K i = 16 then 1 else 0)) a_inputs a_values a_variables a_cells a_outs a_was a_rest a_line) : wY_shorten_2 post (d + 1) (nI i) (nI n) f_known f_wrong f_place f_blocks f_steps f_dropped f_on f_next f_again f_depth a_ops a_as a_bs a_cs a_blockOf a_opener a_around a_other a_end a_open a_varied a_loose a_variedVariable a_stands a_number a_isConst a_needed a_inputs a_values a_variables a_cells a_outs a_was a_rest a_line := by
  have hP' := hP
  obtain ⟨hn, hK, hgd, h4, hok, hB, hA⟩ := hP'
  have ci : (nI i).toNatClampNeg = i := nI_clamp (by omega)
  have ii : vp_in (nI i) 48 := vp_in_nI (by omega) (by omega)
  have ki := hK i hi
  have hg1 : ∀ j, j < i → (T j).1 ≤ j := fun j hj => (hgT j hj).1
  have un : ∀ {f : Nat → Int32} {x : Int32} {j : Nat}, j < i → upd f i x j = f j := fun hj => pk_un (by omega)
  have s1 := sh_1_good (K := K) (A := a_as) (B := a_bs) (C := a_cs) (T := T) (by omega) (hok i hi) hgT
  have sle : (sh_1 K a_as a_bs a_cs T i).1 ≤ i := by
    rcases s1 with ⟨a, _⟩ | ⟨a, _⟩ <;> omega
  have hc10 : (sh_1 K a_as a_bs a_cs T i).2.1 = true → K i ≤ 10 := fun hb => by
    unfold sh_1 at hb
    split at hb
    · omega
    · split at hb
      · omega
      · split at hb
        · omega
        · cases hb
  have fin : ∀ s0 f0 w0, (∀ j, j < i → s0 j = a_stands j ∧ f0 j = a_isConst j ∧ w0 j = a_number j) → s0 i = nI (sh_1 K a_as a_bs a_cs T i).1 → f0 i = sh_bI (sh_1 K a_as a_bs a_cs T i).2.1 → w0 i = (sh_1 K a_as a_bs a_cs T i).2.2 → wY_shorten_136 post (wY_shorten_2 post d) (nI i) (nI n) f_known f_wrong f_place f_blocks f_steps f_dropped f_on f_next f_again f_depth a_ops a_as a_bs a_cs a_blockOf a_opener a_around a_other a_end a_open a_varied a_loose a_variedVariable s0 w0 f0 (upd a_needed i (if 18 ≤ K i ∨ K i = 16 then 1 else 0)) a_inputs a_values a_variables a_cells a_outs a_was a_rest a_line := fun s0 f0 w0 hs e1 e2 e3 =>
    sy_136 (K := K) (n := n) (T := T) hP hi (fun j hj => by obtain ⟨a, b, c⟩ := hs j hj; rw [a, b, c]; exact hR j hj) hg1 hl hc10 e1 sle e2 e3 (fun stands' isc' num' ho => h stands' isc' num' ⟨fun j hj => by
      obtain ⟨a, b, c⟩ := ho.1 j hj
      obtain ⟨a', b', c'⟩ := hs j hj
      exact ⟨a.trans a', b.trans b', c.trans c'⟩, ho.2⟩)
  -- isConst, number and needed of the line itself
  have t94 : ∀ (f0 : Bool) (v0 : Int32), (K i = 0 → f0 = true ∧ v0 = a_as i) → (K i ≠ 0 → f0 = false ∧ v0 = 0) → ∀ z0 : Int32, z0 = (if 18 ≤ K i ∨ K i = 16 then 1 else 0) → wY_shorten_94 post (wY_shorten_2 post d) (nI i) z0 (nI i) (nI n) f_known f_wrong f_place f_blocks f_steps f_dropped f_on f_next f_again f_depth a_ops a_as a_bs a_cs a_blockOf a_opener a_around a_other a_end a_open a_varied a_loose a_variedVariable (upd a_stands i (nI i)) (upd a_number i v0) (upd a_isConst i (sh_bI f0)) a_needed a_inputs a_values a_variables a_cells a_outs a_was a_rest a_line := by
    intro f0 v0 hf0 hf1 z0 ez
    have nz : vp_nar .boolean z0 = z0 := by rw [ez]; split <;> decide
    refine ⟨ii, nm_r (e' := upd a_needed i (if 18 ≤ K i ∨ K i = 16 then 1 else 0)) (by rw [ci, nz, ez]) ⟨ii, ?_⟩⟩
    rw [ci, ki.1]
    have plain : sh_1 K a_as a_bs a_cs T i = (i, f0, v0) → wY_shorten_136 post (wY_shorten_2 post d) (nI i) (nI n) f_known f_wrong f_place f_blocks f_steps f_dropped f_on f_next f_again f_depth a_ops a_as a_bs a_cs a_blockOf a_opener a_around a_other a_end a_open a_varied a_loose a_variedVariable (upd a_stands i (nI i)) (upd a_number i v0) (upd a_isConst i (sh_bI f0)) (upd a_needed i (if 18 ≤ K i ∨ K i = 16 then 1 else 0)) a_inputs a_values a_variables a_cells a_outs a_was a_rest a_line := fun e =>
      fin _ _ _ (fun j hj => ⟨un hj, un hj, un hj⟩) (by rw [pk_us, e]) (by rw [pk_us, e]) (by rw [pk_us, e])
    refine ys_gives ki.2 (fun h16 => br_f (by decide) ⟨ii, pk_lt (K i) 3 (fun h3 => plain ?_) (fun h3 => ⟨ii, pk_lt 10 (K i) (fun h10 => plain ?_) (fun h10 => ?_)⟩)⟩) (fun h16 => br_t rfl (nm_r (nI_1 i) (h _ _ _ ⟨fun j hj => ⟨un hj, un hj, un hj⟩, (i, false, 0), ?_, pk_us, ?_, ?_⟩)))
    · by_cases h0 : K i = 0
      · obtain ⟨a, b⟩ := hf0 h0
        unfold sh_1; rw [if_pos h0, a, b]
      · obtain ⟨a, b⟩ := hf1 h0
        unfold sh_1; rw [if_neg h0, if_neg (by omega), if_neg (by omega), a, b]
    · obtain ⟨a, b⟩ := hf1 (by omega)
      unfold sh_1; rw [if_neg (by omega), if_neg (by omega), if_neg (by omega), a, b]
    · obtain ⟨a, b⟩ := hf1 (by omega)
      subst a b
      refine sy_simplify (K := K) (n := n) (T := T) hP hi h3 h10 (fun j hj => by rw [un hj, un hj, un hj]; exact hR j hj) hg1 (fun t ht e => ?_) (fun v e => ?_) (fun e => plain e)
      · refine fin _ _ _ (fun j hj => ⟨by rw [un (f := upd a_stands i (nI i)) hj, un hj], by rw [un (f := upd a_isConst i (sh_bI false)) hj, un hj], by rw [un (f := upd a_number i 0) hj, un hj]⟩) ?_ ?_ ?_
        · rw [pk_us, e]
        · rw [pk_us, e]
        · rw [pk_us, e]
      · refine fin _ _ _ (fun j hj => ⟨un hj, by rw [un (f := upd a_isConst i (sh_bI false)) hj, un hj], by rw [un (f := upd a_number i 0) hj, un hj]⟩) ?_ ?_ ?_
        · rw [pk_us, e]
        · rw [pk_us, e]; rfl
        · rw [pk_us, e]
    · refine Or.inl ⟨fun h => ?_, ?_⟩
      · have := h.2; unfold sh_cmp at this; omega
      · unfold sh_1; rw [if_neg (by omega), if_neg (by omega), if_neg (by omega)]
    · obtain ⟨a, b⟩ := hf1 (by omega); rw [pk_us, a]
    · obtain ⟨a, b⟩ := hf1 (by omega); rw [pk_us, b]
  have t61 : ∀ (f0 : Bool) (v0 : Int32), (K i = 0 → f0 = true ∧ v0 = a_as i) → (K i ≠ 0 → f0 = false ∧ v0 = 0) → wY_shorten_61 post (wY_shorten_2 post d) (nI i) v0 (nI i) (nI n) f_known f_wrong f_place f_blocks f_steps f_dropped f_on f_next f_again f_depth a_ops a_as a_bs a_cs a_blockOf a_opener a_around a_other a_end a_open a_varied a_loose a_variedVariable (upd a_stands i (nI i)) a_number (upd a_isConst i (sh_bI f0)) a_needed a_inputs a_values a_variables a_cells a_outs a_was a_rest a_line := by
    intro f0 v0 hf0 hf1
    refine ⟨ii, nm_r (e' := upd a_number i v0) (by rw [ci]) ⟨ii, ?_⟩⟩
    rw [ci, ki.1]
    exact pk_le 18 (K i) (fun h18 => t94 f0 v0 hf0 hf1 1 (by rw [if_pos (Or.inl h18)])) (fun h18 => ⟨ii, pk_eq (K i) 16 (fun h16 => t94 f0 v0 hf0 hf1 1 (by rw [if_pos (Or.inr h16)])) (fun h16 => t94 f0 v0 hf0 hf1 0 (by rw [if_neg (by omega)]))⟩)
  refine br_f (nI_ge (by omega) (by omega)) ⟨ii, nm_r (e' := upd a_stands i (nI i)) (by rw [ci]) ⟨ii, ?_⟩⟩
  rw [ci, ki.1]
  refine pk_eq (K i) 0 (fun h0 => ⟨ii, nm_r (e' := upd a_isConst i (sh_bI true)) (by rw [ci, xv_nar1]; rfl) ⟨ii, ?_⟩⟩) (fun h0 => ⟨ii, nm_r (e' := upd a_isConst i (sh_bI false)) (by rw [ci, xv_nar0]; rfl) ⟨ii, ?_⟩⟩)
  · rw [ci, ki.1]
    exact pk_eq (K i) 0 (fun _ => ⟨ii, t61 true (a_as i) (fun _ => ⟨rfl, rfl⟩) (fun h => absurd h0 h)⟩) (fun h => absurd h0 h)
  · rw [ci, ki.1]
    exact pk_eq (K i) 0 (fun h => absurd h h0) (fun _ => t61 false 0 (fun h => absurd h h0) (fun _ => ⟨rfl, rfl⟩))
theorem sy_loop (hP : yv_P K n a_ops a_as a_bs a_cs a_blockOf a_opener a_around) {post : SY → Prop}
    (h : ∀ T stands isc num nd, sh_R T n stands isc num → (∀ j, j < n → sh_good T j) → (∀ j, j < n → sh_line K a_as a_bs a_cs T j (T j)) → ny_0 K n nd → ∃ m, wY_shorten_201 post m 1 (nI n) f_known f_wrong f_place f_blocks f_steps f_dropped f_on f_next f_again f_depth a_ops a_as a_bs a_cs a_blockOf a_opener a_around a_other a_end a_open a_varied a_loose a_variedVariable stands num isc nd a_inputs a_values a_variables a_cells a_outs a_was a_rest a_line) :
    ∀ (d i : Nat) (T : Nat → Nat × Bool × Int32) (stands isc num nd : Nat → Int32), i + d = n → sh_R T i stands isc num → (∀ j, j < i → sh_good T j) → (∀ j, j < i → sh_line K a_as a_bs a_cs T j (T j)) → ny_0 K i nd → wY_shorten_2 post (d + 1) (nI i) (nI n) f_known f_wrong f_place f_blocks f_steps f_dropped f_on f_next f_again f_depth a_ops a_as a_bs a_cs a_blockOf a_opener a_around a_other a_end a_open a_varied a_loose a_variedVariable stands num isc nd a_inputs a_values a_variables a_cells a_outs a_was a_rest a_line := by
  have hP' := hP
  obtain ⟨hn, hK, hgd, h4, hok, hB, hA⟩ := hP'
  intro d
  induction d with
  | zero =>
    intro i T stands isc num nd hi hR hg hl hnd
    cases (show i = n by omega)
    exact br_t (nI_le (Nat.le_refl _) (by omega)) (h T stands isc num nd hR hg hl hnd)
  | succ d ih =>
    intro i T stands isc num nd hi hR hg hl hnd
    refine sy_line (K := K) (n := n) (T := T) hP (by omega) hR hg hl (fun stands' isc' num' ho => ?_)
    obtain ⟨hk, o, lo, o1, o2, o3⟩ := ho
    have agree : ∀ j, j < i → T j = sh_up T i o j := fun j hj => (sh_up_n (by omega)).symm
    have hg1 : ∀ j, j < i → (T j).1 ≤ j := fun j hj => (hg j hj).1
    have hg' : ∀ j, j < i → sh_good (sh_up T i o) j := fun j hj => sh_good_eq (fun q hq => agree q (by omega)) (hg j hj)
    have li : sh_line K a_as a_bs a_cs (sh_up T i o) i (sh_up T i o i) := by
      rw [sh_up_s]
      exact sh_line_eq (by omega) (fun j hj => hok j (by omega)) hg1 agree lo
    refine ih (i + 1) (sh_up T i o) stands' isc' num' _ (by omega) (fun j hj => ?_) (fun j hj => ?_) (fun j hj => ?_) (fun j hj => ?_)
    · by_cases e : j = i
      · rw [e, sh_up_s]; exact ⟨o1, o2, o3⟩
      · obtain ⟨a, b, c⟩ := hk j (by omega)
        rw [a, b, c, sh_up_n e]; exact hR j (by omega)
    · by_cases e : j = i
      · rw [e]; exact sh_line_good (by omega) (hok i (by omega)) hg' li
      · exact hg' j (by omega)
    · by_cases e : j = i
      · rw [e]; exact li
      · rw [sh_up_n e]
        exact sh_line_eq (by omega) (fun q hq => hok q (by omega)) (fun q hq => hg1 q (by omega)) (fun q hq => agree q (by omega)) (hl j (by omega))
    · by_cases e : j = i
      · rw [e, pk_us]
      · rw [pk_un e]; exact hnd j (by omega)
end
end
section
section
/-- NEEDED, as sets of lines -/
def nd_C (K : Nat → Nat) (A B C : Nat → Int32) (T : Nat → Nat × Bool × Int32) (n : Nat) (N : Nat → Prop) : Prop := ∀ i, i < n →
  (16 ≤ K i ∧ K i ≠ 17 → N i) ∧ (K i = 17 → (∃ j, j < n ∧ K j = 11 ∧ A j = A i ∧ N j) → N i) ∧
  (N i → ∀ s, s < 3 → sc_us (K i) s → (T (T (sh_o A B C s i)).1).2.1 = false → N (T (sh_o A B C s i)).1)
def nd_least (K : Nat → Nat) (A B C : Nat → Int32) (T : Nat → Nat × Bool × Int32) (n : Nat) (N : Nat → Prop) : Prop := nd_C K A B C T n N ∧ ∀ N', nd_C K A B C T n N' → ∀ i, i < n → N i → N' i
theorem nd_uniq {K : Nat → Nat} {A B C : Nat → Int32} {T : Nat → Nat × Bool × Int32} {n : Nat} {N N' : Nat → Prop} (h : nd_least K A B C T n N) (h' : nd_least K A B C T n N') : ∀ i, i < n → (N i ↔ N' i) :=
  fun i hi => ⟨h.2 _ h'.1 i hi, h'.2 _ h.1 i hi⟩
/-- X: what is marked is needed -/
def nx_S (K : Nat → Nat) (A B C : Nat → Int32) (T : Nat → Nat × Bool × Int32) (n : Nat) (nd vn : Nat → Int32) : Prop := (∀ j, j < n → 16 ≤ K j ∧ K j ≠ 17 → nd j ≠ 0) ∧ ∀ N, nd_C K A B C T n N → (∀ i, i < n → nd i ≠ 0 → N i) ∧ (∀ v, v < 4 → vn v ≠ 0 → ∃ j, j < n ∧ K j = 11 ∧ A j = nI v ∧ N j)
def nx_mu (nd vn : Nat → Int32) : Nat := cz nd 48 + cz vn 4
def nx_ops (K : Nat → Nat) (A B C : Nat → Int32) (T : Nat → Nat × Bool × Int32) (nd : Nat → Int32) (t i : Nat) : Prop := ∀ s, s < t → sc_us (K i) s → (T (T (sh_o A B C s i)).1).2.1 = false → nd (T (sh_o A B C s i)).1 ≠ 0
def nx_sat (K : Nat → Nat) (A B C : Nat → Int32) (T : Nat → Nat × Bool × Int32) (nd vn : Nat → Int32) (i : Nat) : Prop :=
  (K i = 17 → vn (A i).toNatClampNeg ≠ 0 → nd i ≠ 0) ∧ (nd i ≠ 0 → (K i = 11 → vn (A i).toNatClampNeg ≠ 0) ∧ nx_ops K A B C T nd 3 i)
end
section
variable {K : Nat → Nat} {n : Nat} {T : Nat → Nat × Bool × Int32}
variable {f_lines f_studied f_wrong f_wrongAt f_brief f_on f_dropped f_steps f_nextLine f_repeats : Int32} {a_kinds a_firsts a_seconds a_thirds a_inputs a_home a_depth a_closer a_mate a_operands a_varies a_parted a_variableVaries a_same a_fixed a_worth a_needed a_variableNeeded a_values a_variables a_outputs a_cells a_whole a_waiting : Nat → Int32}
theorem nx_mark {A B C nd vn : Nat → Int32} {i : Nat} (hs : nx_S K A B C T n nd vn) (h : ∀ N, nd_C K A B C T n N → (∀ i, i < n → nd i ≠ 0 → N i) → (∀ v, v < 4 → vn v ≠ 0 → ∃ j, j < n ∧ K j = 11 ∧ A j = nI v ∧ N j) → N i) : nx_S K A B C T n (upd nd i 1) vn := by
  refine ⟨fun j hj hk => ?_, fun N hc => ?_⟩
  · by_cases e : j = i
    · rw [e, pk_us]; decide
    · rw [pk_un e]; exact hs.1 j hj hk
  obtain ⟨a, b⟩ := hs.2 N hc
  refine ⟨fun j hj hm => ?_, b⟩
  by_cases e : j = i
  · rw [e]; exact h N hc a b
  · rw [pk_un e] at hm; exact a j hj hm
theorem nx_97 (hP : xv_P K n a_kinds a_firsts a_seconds a_thirds a_home a_mate a_operands) (hR : sh_R T n a_same a_fixed a_worth) (hg : ∀ j, j < n → sh_good T j) {post : Int32 → SX → Prop} {i M : Nat} {nd1 vn : Nat → Int32} {Z : Prop} (hi : i < n)
    (hend0 : Z → nx_ops K a_firsts a_seconds a_thirds T nd1 3 i → post 0 (f_lines, f_studied, f_wrong, f_wrongAt, f_brief, f_on, f_dropped, f_steps, f_nextLine, f_repeats, a_kinds, a_firsts, a_seconds, a_thirds, a_inputs, a_home, a_depth, a_closer, a_mate, a_operands, a_varies, a_parted, a_variableVaries, a_same, a_fixed, a_worth, nd1, vn, a_values, a_variables, a_outputs, a_cells, a_whole, a_waiting))
    (hend1 : ∀ nd, nx_S K a_firsts a_seconds a_thirds T n nd vn → nx_mu nd vn < M → post 1 (f_lines, f_studied, f_wrong, f_wrongAt, f_brief, f_on, f_dropped, f_steps, f_nextLine, f_repeats, a_kinds, a_firsts, a_seconds, a_thirds, a_inputs, a_home, a_depth, a_closer, a_mate, a_operands, a_varies, a_parted, a_variableVaries, a_same, a_fixed, a_worth, nd, vn, a_values, a_variables, a_outputs, a_cells, a_whole, a_waiting)) :
    ∀ (d t : Nat) (x2 : Int32) (nd : Nat → Int32), t + d = 3 → ((x2 = 0 ∧ Z ∧ nd = nd1 ∧ nx_mu nd vn ≤ M ∧ nx_ops K a_firsts a_seconds a_thirds T nd1 t i) ∨ (x2 = 1 ∧ nx_mu nd vn < M)) → nx_S K a_firsts a_seconds a_thirds T n nd vn → nd i ≠ 0 → wX_spreadNeed_97 post (nI i) f_lines f_studied f_wrong f_wrongAt f_brief f_on f_dropped f_steps f_nextLine f_repeats (d + 1) x2 (nI t) a_kinds a_firsts a_seconds a_thirds a_inputs a_home a_depth a_closer a_mate a_operands a_varies a_parted a_variableVaries a_same a_fixed a_worth nd vn a_values a_variables a_outputs a_cells a_whole a_waiting := by
  obtain ⟨hn, hK, hgd, h4, hok, hH, hO⟩ := hP
  intro d
  induction d with
  | zero =>
    intro t x2 nd ht hst hs hne
    cases (show t = 3 by omega)
    refine br_t (by decide) ?_
    rcases hst with ⟨rfl, hZ, rfl, _, ho⟩ | ⟨rfl, hmu⟩
    · exact ⟨xs_nb0, hend0 hZ ho⟩
    · exact ⟨xs_nb1, hend1 nd hs hmu⟩
  | succ d ih =>
    intro t x2 nd ht hst hs hne
    refine br_f (nI_ge (b := 3) (by omega) (by decide)) ?_
    have stay : (sc_us (K i) t → (T (T (sh_o a_firsts a_seconds a_thirds t i)).1).2.1 = false → nd (T (sh_o a_firsts a_seconds a_thirds t i)).1 ≠ 0) → wX_spreadNeed_97 post (nI i) f_lines f_studied f_wrong f_wrongAt f_brief f_on f_dropped f_steps f_nextLine f_repeats (d + 1) x2 (nI (t + 1)) a_kinds a_firsts a_seconds a_thirds a_inputs a_home a_depth a_closer a_mate a_operands a_varies a_parted a_variableVaries a_same a_fixed a_worth nd vn a_values a_variables a_outputs a_cells a_whole a_waiting := by
      intro hx
      refine ih (t + 1) x2 nd (by omega) ?_ hs hne
      rcases hst with ⟨e0, hZ, e1, hm, ho⟩ | h
      · refine Or.inl ⟨e0, hZ, e1, hm, fun s hs' hu hc => ?_⟩
        by_cases e : s = t
        · rw [e] at hu hc ⊢; rw [← e1]; exact hx hu hc
        · exact ho s (by omega) hu hc
      · exact Or.inr h
    refine sx_stands (K := K) (T := T) (w := n) hn hi (by omega) (by omega) (hO i hi) (hok i hi) (fun j hj => (hR j hj).1) ?_
    by_cases hu : sc_us (K i) t
    · obtain ⟨o, eo, _⟩ := sh_ov_lt (by omega) (hok i hi t (by omega) hu)
      have g := hg _ (show sh_o a_firsts a_seconds a_thirds t i < n by omega)
      have glt : (T (sh_o a_firsts a_seconds a_thirds t i)).1 < n := by have := g.1; omega
      rw [sh_v_u hu]
      generalize ex : (T (sh_o a_firsts a_seconds a_thirds t i)).1 = x at *
      have cx : (nI x).toNatClampNeg = x := nI_clamp (by omega)
      have ix : vp_in (nI x) 48 := vp_in_nI (by omega) (by omega)
      refine br_f (nI_m1ne (by omega)) ⟨ix, ?_⟩
      rw [cx, (hR x glt).2.1]
      refine br_c (fun hf => ⟨ix, br_c (fun hz => ⟨ix, nm_r (e' := upd nd x 1) (by rw [xv_nar1]) (nm_r (nI_1 t) (ih (t + 1) 1 _ (by omega) (Or.inr ⟨rfl, ?_⟩) (nx_mark hs (fun N hc a b => ?_)) ?_))⟩) (fun hz => nm_r (nI_1 t) (stay (fun _ _ => hz)))⟩) (fun hf => nm_r (nI_1 t) (stay (fun _ hc => by rw [sh_bI_n hf] at hc; cases hc)))
      · have := cz_lt (x := 1) hz (by decide) 48 (by omega)
        unfold nx_mu at hst ⊢
        rcases hst with ⟨_, _, _, h, _⟩ | ⟨_, h⟩ <;> omega
      · have := (hc i hi).2.2 (a i hi hne) t (by omega) hu
        rw [ex] at this
        exact this (sh_bI_0 hf)
      · by_cases e : i = x
        · rw [e, pk_us]; decide
        · rw [pk_un e]; exact hne
    · rw [sh_v_n hu]
      exact br_t rfl (nm_r (nI_1 t) (stay (fun h => absurd h hu)))
theorem nx_spread (hP : xv_P K n a_kinds a_firsts a_seconds a_thirds a_home a_mate a_operands) (hR : sh_R T n a_same a_fixed a_worth) (hg : ∀ j, j < n → sh_good T j) {post : Int32 → SX → Prop} {i : Nat} (hi : i < n) (hs : nx_S K a_firsts a_seconds a_thirds T n a_needed a_variableNeeded)
    (h0 : nx_sat K a_firsts a_seconds a_thirds T a_needed a_variableNeeded i → post 0 (f_lines, f_studied, f_wrong, f_wrongAt, f_brief, f_on, f_dropped, f_steps, f_nextLine, f_repeats, a_kinds, a_firsts, a_seconds, a_thirds, a_inputs, a_home, a_depth, a_closer, a_mate, a_operands, a_varies, a_parted, a_variableVaries, a_same, a_fixed, a_worth, a_needed, a_variableNeeded, a_values, a_variables, a_outputs, a_cells, a_whole, a_waiting))
    (h1 : ∀ nd vn, nx_S K a_firsts a_seconds a_thirds T n nd vn → nx_mu nd vn < nx_mu a_needed a_variableNeeded → post 1 (f_lines, f_studied, f_wrong, f_wrongAt, f_brief, f_on, f_dropped, f_steps, f_nextLine, f_repeats, a_kinds, a_firsts, a_seconds, a_thirds, a_inputs, a_home, a_depth, a_closer, a_mate, a_operands, a_varies, a_parted, a_variableVaries, a_same, a_fixed, a_worth, nd, vn, a_values, a_variables, a_outputs, a_cells, a_whole, a_waiting)) : wpX_spreadNeed post (f_lines, f_studied, f_wrong, f_wrongAt, f_brief, f_on, f_dropped, f_steps, f_nextLine, f_repeats, a_kinds, a_firsts, a_seconds, a_thirds, a_inputs, a_home, a_depth, a_closer, a_mate, a_operands, a_varies, a_parted, a_variableVaries, a_same, a_fixed, a_worth, a_needed, a_variableNeeded, a_values, a_variables, a_outputs, a_cells, a_whole, a_waiting) (nI i) := by
  have hP' := hP
  obtain ⟨hn, hK, hgd, h4, hok, hH, hO⟩ := hP'
  have ci : (nI i).toNatClampNeg = i := nI_clamp (by omega)
  have ii : vp_in (nI i) 48 := vp_in_nI (by omega) (by omega)
  have ki := hK i hi
  -- from here on: nothing changed so far, or something
  have t45 : ∀ (x2 : Int32) (nd : Nat → Int32), ((x2 = 0 ∧ nd = a_needed ∧ (K i = 17 → a_variableNeeded (a_firsts i).toNatClampNeg ≠ 0 → nd i ≠ 0)) ∨ (x2 = 1 ∧ K i = 17 ∧ nd i ≠ 0 ∧ nx_mu nd a_variableNeeded < nx_mu a_needed a_variableNeeded)) → nx_S K a_firsts a_seconds a_thirds T n nd a_variableNeeded → wX_spreadNeed_45 post (nI i) x2 f_lines f_studied f_wrong f_wrongAt f_brief f_on f_dropped f_steps f_nextLine f_repeats a_kinds a_firsts a_seconds a_thirds a_inputs a_home a_depth a_closer a_mate a_operands a_varies a_parted a_variableVaries a_same a_fixed a_worth nd a_variableNeeded a_values a_variables a_outputs a_cells a_whole a_waiting := by
    intro x2 nd hst hs'
    refine ⟨ii, ?_⟩
    rw [ci]
    refine br_c (fun hz => ?_) (fun hz => ⟨ii, ?_⟩)
    · rcases hst with ⟨_, e, hp⟩ | ⟨_, _, h, _⟩
      · subst e
        exact h0 ⟨hp, fun h => absurd hz h⟩
      · exact absurd hz h
    · rw [ki.1]
      have same : (K i = 11 → a_variableNeeded (a_firsts i).toNatClampNeg ≠ 0) → ∃ m, wX_spreadNeed_97 post (nI i) f_lines f_studied f_wrong f_wrongAt f_brief f_on f_dropped f_steps f_nextLine f_repeats m x2 0 a_kinds a_firsts a_seconds a_thirds a_inputs a_home a_depth a_closer a_mate a_operands a_varies a_parted a_variableVaries a_same a_fixed a_worth nd a_variableNeeded a_values a_variables a_outputs a_cells a_whole a_waiting := by
        intro h11
        refine ⟨4, ?_⟩
        rcases hst with ⟨rfl, e, hp⟩ | ⟨rfl, _, _, hmu⟩
        · subst e
          exact nx_97 (K := K) (n := n) (T := T) (nd1 := nd) (M := nx_mu nd a_variableNeeded) (Z := True) hP hR hg hi (fun _ ho => h0 ⟨hp, fun _ => ⟨h11, ho⟩⟩) (fun nd' hs2 hm => h1 nd' _ hs2 hm) 3 0 0 nd rfl (Or.inl ⟨rfl, trivial, rfl, Nat.le_refl _, fun s hs => by omega⟩) hs' hz
        · exact nx_97 (K := K) (n := n) (T := T) (nd1 := fun _ => 0) (M := nx_mu a_needed a_variableNeeded) (Z := False) hP hR hg hi (fun hZ => hZ.elim) (fun nd' hs2 hm => h1 nd' _ hs2 hm) 3 0 1 nd rfl (Or.inr ⟨rfl, hmu⟩) hs' hz
      refine pk_eq (K i) 11 (fun e11 => ⟨ii, ?_⟩) (fun e11 => same (fun h => absurd h e11))
      obtain ⟨a, ha, ea⟩ := h4 i hi (by omega)
      rw [ea, nI_clamp (by omega)] at same ⊢
      have ina : vp_in (nI a) 4 := vp_in_nI ha (by omega)
      refine ⟨ina, br_c (fun hv => ⟨ii, ina, nm_r (e' := upd a_variableNeeded a 1) (by rw [xv_nar1]) ⟨4, ?_⟩⟩) (fun hv => same (fun _ => hv))⟩
      refine nx_97 (K := K) (n := n) (T := T) (nd1 := fun _ => 0) (M := nx_mu a_needed a_variableNeeded) (Z := False) hP hR hg hi (fun hZ => hZ.elim) (fun nd' hs2 hm => h1 nd' _ hs2 hm) 3 0 1 nd rfl (Or.inr ⟨rfl, ?_⟩) ⟨hs'.1, fun N hc => ?_⟩ hz
      · have := cz_lt (x := 1) hv (by decide) 4 ha
        unfold nx_mu at hst ⊢
        rcases hst with ⟨_, e, _⟩ | ⟨_, _, _, h⟩
        · rw [e]; omega
        · omega
      · obtain ⟨p, q⟩ := hs'.2 N hc
        refine ⟨p, fun v hv' hm => ?_⟩
        by_cases e : v = a
        · rw [e]; exact ⟨i, hi, e11, ea, p i hi hz⟩
        · rw [pk_un e] at hm; exact q v hv' hm
  refine ⟨ii, ?_⟩
  rw [ci, ki.1]
  refine pk_eq (K i) 17 (fun e17 => ⟨ii, ?_⟩) (fun e17 => t45 0 a_needed (Or.inl ⟨rfl, rfl, fun h => absurd h e17⟩) hs)
  obtain ⟨a, ha, ea⟩ := h4 i hi (by omega)
  rw [ea, nI_clamp (by omega)] at t45 ⊢
  have ina : vp_in (nI a) 4 := vp_in_nI ha (by omega)
  refine ⟨ina, br_c (fun hv => t45 0 a_needed (Or.inl ⟨rfl, rfl, fun _ h => absurd hv h⟩) hs) (fun hv => ⟨ii, br_c (fun hz => ⟨ii, nm_r (e' := upd a_needed i 1) (by rw [xv_nar1]) (t45 1 _ (Or.inr ⟨rfl, e17, ?_, ?_⟩) (nx_mark hs (fun N hc p q => ?_)))⟩) (fun hz => t45 0 a_needed (Or.inl ⟨rfl, rfl, fun _ _ => hz⟩) hs)⟩)⟩
  · rw [pk_us]; decide
  · have := cz_lt (x := 1) hz (by decide) 48 (by omega)
    unfold nx_mu; omega
  · obtain ⟨j, hj, kj, ej, nj⟩ := q a ha hv
    exact (hc i hi).2.1 e17 ⟨j, hj, kj, by rw [ej, ea], nj⟩
theorem nx_93 (hP : xv_P K n a_kinds a_firsts a_seconds a_thirds a_home a_mate a_operands) (hR : sh_R T n a_same a_fixed a_worth) (hg : ∀ j, j < n → sh_good T j) {post : SX → Prop} {J : Int32 → Int32 → Int32 → Int32 → Int32 → Int32 → Int32 → Int32 → Int32 → Int32 → Int32 → Int32 → (Nat → Int32) → (Nat → Int32) → (Nat → Int32) → (Nat → Int32) → (Nat → Int32) → (Nat → Int32) → (Nat → Int32) → (Nat → Int32) → (Nat → Int32) → (Nat → Int32) → (Nat → Int32) → (Nat → Int32) → (Nat → Int32) → (Nat → Int32) → (Nat → Int32) → (Nat → Int32) → (Nat → Int32) → (Nat → Int32) → (Nat → Int32) → (Nat → Int32) → (Nat → Int32) → (Nat → Int32) → (Nat → Int32) → (Nat → Int32) → Prop} {x2 : Nat}
    (hend0 : (∀ j, j < n → nx_sat K a_firsts a_seconds a_thirds T a_needed a_variableNeeded j) → J 0 (nI (x2 + 1)) f_lines f_studied f_wrong f_wrongAt f_brief f_on f_dropped f_steps f_nextLine f_repeats a_kinds a_firsts a_seconds a_thirds a_inputs a_home a_depth a_closer a_mate a_operands a_varies a_parted a_variableVaries a_same a_fixed a_worth a_needed a_variableNeeded a_values a_variables a_outputs a_cells a_whole a_waiting)
    (hend1 : ∀ nd vn, nx_S K a_firsts a_seconds a_thirds T n nd vn → nx_mu nd vn < nx_mu a_needed a_variableNeeded → J 1 (nI (x2 + 1)) f_lines f_studied f_wrong f_wrongAt f_brief f_on f_dropped f_steps f_nextLine f_repeats a_kinds a_firsts a_seconds a_thirds a_inputs a_home a_depth a_closer a_mate a_operands a_varies a_parted a_variableVaries a_same a_fixed a_worth nd vn a_values a_variables a_outputs a_cells a_whole a_waiting) :
    ∀ (m : Nat) (x1 : Int32) (nd vn : Nat → Int32), m ≤ n → ((x1 = 0 ∧ nd = a_needed ∧ vn = a_variableNeeded ∧ ∀ j, m ≤ j → j < n → nx_sat K a_firsts a_seconds a_thirds T nd vn j) ∨ (x1 = 1 ∧ nx_mu nd vn < nx_mu a_needed a_variableNeeded)) → nx_S K a_firsts a_seconds a_thirds T n nd vn →
      wX_findNeeded_93 post J (nI x2) (m + 1) x1 (nI m + (-1)) f_lines f_studied f_wrong f_wrongAt f_brief f_on f_dropped f_steps f_nextLine f_repeats a_kinds a_firsts a_seconds a_thirds a_inputs a_home a_depth a_closer a_mate a_operands a_varies a_parted a_variableVaries a_same a_fixed a_worth nd vn a_values a_variables a_outputs a_cells a_whole a_waiting := by
  have hn := hP.1
  intro m
  induction m with
  | zero =>
    intro x1 nd vn hm hst hs
    refine br_t (by decide) (nm_r (nI_1 x2) ?_)
    rcases hst with ⟨rfl, rfl, rfl, hall⟩ | ⟨rfl, hmu⟩
    · exact hend0 (fun j hj => hall j (by omega) hj)
    · exact hend1 nd vn hs hmu
  | succ m ih =>
    intro x1 nd vn hm hst hs
    rw [pk_m1]
    refine br_f (nI_pos (by omega)) ?_
    refine nx_spread (K := K) (n := n) (T := T) hP hR hg (by omega) hs (fun hsat => ?_) (fun nd' vn' hs' hmu' => ?_)
    · rcases hst with ⟨rfl, e1, e2, hall⟩ | ⟨rfl, hmu⟩
      · refine br_t rfl (br_t rfl (nm_e (ih 0 nd vn (by omega) (Or.inl ⟨rfl, e1, e2, fun j hj hjn => ?_⟩) hs)))
        by_cases e : j = m
        · rw [e]; exact hsat
        · exact hall j (by omega) hjn
      · exact br_f (by decide) (nm_e (ih 1 nd vn (by omega) (Or.inr ⟨rfl, hmu⟩) hs))
    · have go : wX_findNeeded_93 post J (nI x2) (m + 1) 1 (nI m + (-1)) f_lines f_studied f_wrong f_wrongAt f_brief f_on f_dropped f_steps f_nextLine f_repeats a_kinds a_firsts a_seconds a_thirds a_inputs a_home a_depth a_closer a_mate a_operands a_varies a_parted a_variableVaries a_same a_fixed a_worth nd' vn' a_values a_variables a_outputs a_cells a_whole a_waiting := ih 1 nd' vn' (by omega) (Or.inr ⟨rfl, by
        rcases hst with ⟨_, rfl, rfl, _⟩ | ⟨_, h⟩
        · exact hmu'
        · omega⟩) hs'
      exact br_c (fun _ => br_f (by decide) (nm_e go)) (fun _ => nm_e go)
theorem nx_73 (hP : xv_P K n a_kinds a_firsts a_seconds a_thirds a_home a_mate a_operands) (hR : sh_R T n a_same a_fixed a_worth) (hg : ∀ j, j < n → sh_good T j) {post : SX → Prop}
    (hpost : ∀ nd vn, nx_S K a_firsts a_seconds a_thirds T n nd vn → (∀ j, j < n → nx_sat K a_firsts a_seconds a_thirds T nd vn j) → post (nI n, f_studied, f_wrong, f_wrongAt, f_brief, f_on, f_dropped, f_steps, f_nextLine, f_repeats, a_kinds, a_firsts, a_seconds, a_thirds, a_inputs, a_home, a_depth, a_closer, a_mate, a_operands, a_varies, a_parted, a_variableVaries, a_same, a_fixed, a_worth, nd, vn, a_values, a_variables, a_outputs, a_cells, a_whole, a_waiting)) :
    ∀ (M t : Nat) (nd vn : Nat → Int32), nx_mu nd vn ≤ M → t + M ≤ 101 → nx_S K a_firsts a_seconds a_thirds T n nd vn → wX_findNeeded_73 post (M + 2) 1 (nI t) (nI n) f_studied f_wrong f_wrongAt f_brief f_on f_dropped f_steps f_nextLine f_repeats a_kinds a_firsts a_seconds a_thirds a_inputs a_home a_depth a_closer a_mate a_operands a_varies a_parted a_variableVaries a_same a_fixed a_worth nd vn a_values a_variables a_outputs a_cells a_whole a_waiting := by
  intro M
  have hn := hP.1
  have e1 : nI n - 1 = nI n + (-1) := by rw [Int32.sub_eq_add_neg]
  induction M with
  | zero =>
    intro t nd vn hmu ht hs
    refine br_f (nI_ge (b := 256) (by omega) (by decide)) (br_f (by decide) (nm_r e1 ⟨n + 1, ?_⟩))
    refine nx_93 (K := K) (n := n) (T := T) (post := post) (J := wX_findNeeded_73 post 1) hP hR hg (fun hall => br_f (nI_ge (b := 256) (by omega) (by decide)) (br_t rfl (hpost nd vn hs hall))) (fun nd' vn' _ h => absurd h (by omega)) n 0 nd vn (Nat.le_refl _) (Or.inl ⟨rfl, rfl, rfl, fun j hj hjn => by omega⟩) hs
  | succ M ih =>
    intro t nd vn hmu ht hs
    refine br_f (nI_ge (b := 256) (by omega) (by decide)) (br_f (by decide) (nm_r e1 ⟨n + 1, ?_⟩))
    refine nx_93 (K := K) (n := n) (T := T) (post := post) (J := wX_findNeeded_73 post (M + 2)) hP hR hg (fun hall => br_f (nI_ge (b := 256) (by omega) (by decide)) (br_t rfl (hpost nd vn hs hall))) (fun nd' vn' hs' h => ih (t + 1) nd' vn' (by omega) (by omega) hs') n 0 nd vn (Nat.le_refl _) (Or.inl ⟨rfl, rfl, rfl, fun j hj hjn => by omega⟩) hs
theorem nx_51 {post : SX → Prop} (h : ∃ m, wX_findNeeded_73 post m 1 0 f_lines f_studied f_wrong f_wrongAt f_brief f_on f_dropped f_steps f_nextLine f_repeats a_kinds a_firsts a_seconds a_thirds a_inputs a_home a_depth a_closer a_mate a_operands a_varies a_parted a_variableVaries a_same a_fixed a_worth a_needed (cl_z 4 a_variableNeeded) a_values a_variables a_outputs a_cells a_whole a_waiting) : ∀ d i : Nat, i + d = 4 → wX_findNeeded_51 post f_lines f_studied f_wrong f_wrongAt f_brief f_on f_dropped f_steps f_nextLine f_repeats (d + 1) (nI i) a_kinds a_firsts a_seconds a_thirds a_inputs a_home a_depth a_closer a_mate a_operands a_varies a_parted a_variableVaries a_same a_fixed a_worth a_needed (cl_z i a_variableNeeded) a_values a_variables a_outputs a_cells a_whole a_waiting := by
  intro d
  induction d with
  | zero => intro i hi; cases (show i = 4 by omega); exact br_t (by decide) h
  | succ d ih =>
    intro i hi
    exact br_f (nI_ge (b := 4) (by omega) (by decide)) ⟨vp_in_nI (by omega) (by omega), nm_r (by rw [nI_clamp (by omega), xv_nar0]; exact cl_s i _) (nm_r (nI_1 i) (ih (i + 1) (by omega)))⟩
/-- X's first marks -/
def nx_i (K : Nat → Nat) (i : Nat) (nd : Nat → Int32) : Prop := ∀ j, j < i → (nd j ≠ 0 ↔ 16 ≤ K j ∧ K j ≠ 17)
theorem nx_2 (hn : n ≤ 48) (hK : ∀ j, j < n → a_kinds j = nI (K j) ∧ K j ≤ 25) {post : SX → Prop} (h : ∀ nd, nx_i K n nd → ∃ m, wX_findNeeded_73 post m 1 0 (nI n) f_studied f_wrong f_wrongAt f_brief f_on f_dropped f_steps f_nextLine f_repeats a_kinds a_firsts a_seconds a_thirds a_inputs a_home a_depth a_closer a_mate a_operands a_varies a_parted a_variableVaries a_same a_fixed a_worth nd (cl_z 4 a_variableNeeded) a_values a_variables a_outputs a_cells a_whole a_waiting) : ∀ (d i : Nat) (nd : Nat → Int32), i + d = n → nx_i K i nd → wX_findNeeded_2 post (nI n) f_studied f_wrong f_wrongAt f_brief f_on f_dropped f_steps f_nextLine f_repeats (d + 1) (nI i) a_kinds a_firsts a_seconds a_thirds a_inputs a_home a_depth a_closer a_mate a_operands a_varies a_parted a_variableVaries a_same a_fixed a_worth nd a_variableNeeded a_values a_variables a_outputs a_cells a_whole a_waiting := by
  intro d
  induction d with
  | zero =>
    intro i nd hi hnd
    cases (show i = n by omega)
    refine br_t (nI_le (Nat.le_refl _) (by omega)) ⟨5, ?_⟩
    rw [← cl_0 a_variableNeeded]
    exact nx_51 (h nd hnd) 4 0 rfl
  | succ d ih =>
    intro i nd hi hnd
    have ci : (nI i).toNatClampNeg = i := nI_clamp (by omega)
    have ii : vp_in (nI i) 48 := vp_in_nI (by omega) (by omega)
    have ki := hK i (by omega)
    have step : ∀ x : Int32, (x ≠ 0 ↔ 16 ≤ K i ∧ K i ≠ 17) → wX_findNeeded_2 post (nI n) f_studied f_wrong f_wrongAt f_brief f_on f_dropped f_steps f_nextLine f_repeats (d + 1) (nI (i + 1)) a_kinds a_firsts a_seconds a_thirds a_inputs a_home a_depth a_closer a_mate a_operands a_varies a_parted a_variableVaries a_same a_fixed a_worth (upd nd i x) a_variableNeeded a_values a_variables a_outputs a_cells a_whole a_waiting := fun x hx =>
      ih (i + 1) _ (by omega) (fun j hj => by
        by_cases e : j = i
        · rw [e, pk_us]; exact hx
        · rw [pk_un e]; exact hnd j (by omega))
    refine br_f (nI_ge (by omega) (by omega)) ⟨ii, ?_⟩
    rw [ci, ki.1]
    exact pk_lt (K i) 16 (fun h16 => ⟨ii, nm_r (by rw [xv_nar0]) (nm_r (nI_1 i) (step 0 ⟨fun h => absurd rfl h, fun h => by omega⟩))⟩) (fun h16 => ⟨ii, pk_eq (K i) 17 (fun h17 => ⟨ii, nm_r (by rw [xv_nar0]) (nm_r (nI_1 i) (step 0 ⟨fun h => absurd rfl h, fun h => by omega⟩))⟩) (fun h17 => ⟨ii, nm_r (by rw [xv_nar1]) (nm_r (nI_1 i) (step 1 ⟨fun _ => by omega, fun _ => by decide⟩))⟩)⟩)
theorem nx_need (hP : xv_P K n a_kinds a_firsts a_seconds a_thirds a_home a_mate a_operands) (hR : sh_R T n a_same a_fixed a_worth) (hg : ∀ j, j < n → sh_good T j) {post : SX → Prop}
    (hpost : ∀ nd vn, nd_least K a_firsts a_seconds a_thirds T n (fun j => nd j ≠ 0) → post (nI n, f_studied, f_wrong, f_wrongAt, f_brief, f_on, f_dropped, f_steps, f_nextLine, f_repeats, a_kinds, a_firsts, a_seconds, a_thirds, a_inputs, a_home, a_depth, a_closer, a_mate, a_operands, a_varies, a_parted, a_variableVaries, a_same, a_fixed, a_worth, nd, vn, a_values, a_variables, a_outputs, a_cells, a_whole, a_waiting)) : wpX_findNeeded post (nI n, f_studied, f_wrong, f_wrongAt, f_brief, f_on, f_dropped, f_steps, f_nextLine, f_repeats, a_kinds, a_firsts, a_seconds, a_thirds, a_inputs, a_home, a_depth, a_closer, a_mate, a_operands, a_varies, a_parted, a_variableVaries, a_same, a_fixed, a_worth, a_needed, a_variableNeeded, a_values, a_variables, a_outputs, a_cells, a_whole, a_waiting) := by
  have hP' := hP
  obtain ⟨hn, hK, hgd, h4, hok, hH, hO⟩ := hP'
  refine ⟨n + 1, nx_2 (K := K) (n := n) hn hK (fun nd hnd => ?_) n 0 a_needed (by omega) (fun j hj => by omega)⟩
  refine ⟨_, nx_73 (K := K) (n := n) (T := T) hP hR hg (fun nd' vn' hs hall => hpost nd' vn' ⟨fun i hi => ⟨hs.1 i hi, fun k17 ⟨j, hj, kj, ej, nj⟩ => ?_, fun ni s hs' hu hc => ((hall i hi).2 ni).2 s hs' hu hc⟩, fun N hc i hi h => (hs.2 N hc).1 i hi h⟩) 101 0 nd _ ?_ (by omega) ⟨fun j hj hk => (hnd j hj).mpr hk, fun N hc => ⟨fun i hi hm => (hc i hi).1 ((hnd i hi).mp hm), fun v hv hm => absurd (cl_lt _ hv) hm⟩⟩⟩
  · have := ((hall j hj).2 nj).1 kj
    rw [ej] at this
    exact (hall i hi).1 k17 this
  · have := cz_le nd 48
    have := cz_le (cl_z 4 a_variableNeeded) 4
    unfold nx_mu; omega
end
end
section
section
variable {K : Nat → Nat} {n : Nat} {T : Nat → Nat × Bool × Int32}
variable {f_lines f_known f_wrong f_place f_blocks f_steps f_dropped f_on f_next f_again f_depth : Int32} {a_ops a_as a_bs a_cs a_blockOf a_opener a_around a_other a_end a_open a_varied a_loose a_variedVariable a_stands a_number a_isConst a_needed a_inputs a_values a_variables a_cells a_outs a_was a_rest a_line : Nat → Int32}
def ny_S (K : Nat → Nat) (A B C : Nat → Int32) (T : Nat → Nat × Bool × Int32) (n : Nat) (nd : Nat → Int32) : Prop := (∀ j, j < n → 16 ≤ K j ∧ K j ≠ 17 → nd j ≠ 0) ∧ (∀ j, j < n → nd j = 0 ∨ nd j = 1) ∧ ∀ N, nd_C K A B C T n N → ∀ i, i < n → nd i ≠ 0 → N i ∨ (T i).2.1 = true
def ny_sat (K : Nat → Nat) (A B C : Nat → Int32) (T : Nat → Nat × Bool × Int32) (n : Nat) (nd : Nat → Int32) (i : Nat) : Prop :=
  nd i ≠ 0 → (T i).2.1 = false → (∀ s, s < 3 → sc_us (K i) s → nd (T (sh_o A B C s i)).1 ≠ 0) ∧ (K i = 11 → ∀ j, j < n → K j = 17 → A j = A i → nd j ≠ 0)
theorem ny_mark {A B C nd : Nat → Int32} {i : Nat} (hs : ny_S K A B C T n nd) (h : ∀ N, nd_C K A B C T n N → (∀ i, i < n → nd i ≠ 0 → N i ∨ (T i).2.1 = true) → N i ∨ (T i).2.1 = true) : ny_S K A B C T n (upd nd i 1) := by
  refine ⟨fun j hj hk => ?_, fun j hj => ?_, fun N hc j hj hm => ?_⟩
  · by_cases e : j = i
    · rw [e, pk_us]; decide
    · rw [pk_un e]; exact hs.1 j hj hk
  · by_cases e : j = i
    · rw [e, pk_us]; exact Or.inr rfl
    · rw [pk_un e]; exact hs.2.1 j hj
  · by_cases e : j = i
    · rw [e]; exact h N hc (hs.2.2 N hc)
    · rw [pk_un e] at hm; exact hs.2.2 N hc j hj hm
theorem ny_100 (hP : yv_P K n a_ops a_as a_bs a_cs a_blockOf a_opener a_around) {post : Int32 → SY → Prop} {i M : Nat} {nd0 : Nat → Int32} (hi : i < n) (hcf : (T i).2.1 = false)
    (hend0 : (K i = 11 → ∀ j, j < n → K j = 17 → a_as j = a_as i → nd0 j ≠ 0) → (∀ s, s < 3 → sc_us (K i) s → nd0 (T (sh_o a_as a_bs a_cs s i)).1 ≠ 0) → post 0 (nI n, f_known, f_wrong, f_place, f_blocks, f_steps, f_dropped, f_on, f_next, f_again, f_depth, a_ops, a_as, a_bs, a_cs, a_blockOf, a_opener, a_around, a_other, a_end, a_open, a_varied, a_loose, a_variedVariable, a_stands, a_number, a_isConst, nd0, a_inputs, a_values, a_variables, a_cells, a_outs, a_was, a_rest, a_line))
    (hend1 : ∀ nd, ny_S K a_as a_bs a_cs T n nd → cz nd 48 < M → post 1 (nI n, f_known, f_wrong, f_place, f_blocks, f_steps, f_dropped, f_on, f_next, f_again, f_depth, a_ops, a_as, a_bs, a_cs, a_blockOf, a_opener, a_around, a_other, a_end, a_open, a_varied, a_loose, a_variedVariable, a_stands, a_number, a_isConst, nd, a_inputs, a_values, a_variables, a_cells, a_outs, a_was, a_rest, a_line)) :
    ∀ (d q : Nat) (x2 : Int32) (nd : Nat → Int32), q + d = n → ((x2 = 0 ∧ nd = nd0 ∧ cz nd 48 ≤ M ∧ (∀ s, s < 3 → sc_us (K i) s → nd0 (T (sh_o a_as a_bs a_cs s i)).1 ≠ 0) ∧ (K i = 11 → ∀ j, j < q → K j = 17 → a_as j = a_as i → nd0 j ≠ 0)) ∨ (x2 = 1 ∧ cz nd 48 < M)) → ny_S K a_as a_bs a_cs T n nd → nd i ≠ 0 →
      wY_need_100 post (nI i) (nI n) f_known f_wrong f_place f_blocks f_steps f_dropped f_on f_next f_again f_depth (d + 1) x2 (nI q) a_ops a_as a_bs a_cs a_blockOf a_opener a_around a_other a_end a_open a_varied a_loose a_variedVariable a_stands a_number a_isConst nd a_inputs a_values a_variables a_cells a_outs a_was a_rest a_line := by
  obtain ⟨hn, hK, hgd, h4, hok, hB, hA⟩ := hP
  have ci : (nI i).toNatClampNeg = i := nI_clamp (by omega)
  have ii : vp_in (nI i) 48 := vp_in_nI (by omega) (by omega)
  have ki := hK i hi
  have fin : ∀ (x2 : Int32) (nd : Nat → Int32), ((x2 = 0 ∧ nd = nd0 ∧ cz nd 48 ≤ M ∧ (∀ s, s < 3 → sc_us (K i) s → nd0 (T (sh_o a_as a_bs a_cs s i)).1 ≠ 0) ∧ (K i = 11 → ∀ j, j < n → K j = 17 → a_as j = a_as i → nd0 j ≠ 0)) ∨ (x2 = 1 ∧ cz nd 48 < M)) → ny_S K a_as a_bs a_cs T n nd → narrow .boolean (.int x2) = .int x2 ∧ post x2 (nI n, f_known, f_wrong, f_place, f_blocks, f_steps, f_dropped, f_on, f_next, f_again, f_depth, a_ops, a_as, a_bs, a_cs, a_blockOf, a_opener, a_around, a_other, a_end, a_open, a_varied, a_loose, a_variedVariable, a_stands, a_number, a_isConst, nd, a_inputs, a_values, a_variables, a_cells, a_outs, a_was, a_rest, a_line) := by
    intro x2 nd hst hs
    rcases hst with ⟨rfl, rfl, _, h1, h2⟩ | ⟨rfl, hmu⟩
    · exact ⟨xs_nb0, hend0 h2 h1⟩
    · exact ⟨xs_nb1, hend1 nd hs hmu⟩
  intro d
  induction d with
  | zero =>
    intro q x2 nd hq hst hs hne
    cases (show q = n by omega)
    exact br_t (nI_le (Nat.le_refl _) (by omega)) (fin x2 nd hst hs)
  | succ d ih =>
    intro q x2 nd hq hst hs hne
    have cq : (nI q).toNatClampNeg = q := nI_clamp (by omega)
    have iq : vp_in (nI q) 48 := vp_in_nI (by omega) (by omega)
    have kq := hK q (by omega)
    refine br_f (nI_ge (by omega) (by omega)) ⟨ii, ?_⟩
    rw [ci, cq, ki.1, kq.1]
    have next : (K i = 11 → K q = 17 → a_as q = a_as i → nd q ≠ 0) → wY_need_100 post (nI i) (nI n) f_known f_wrong f_place f_blocks f_steps f_dropped f_on f_next f_again f_depth (d + 1) x2 (nI (q + 1)) a_ops a_as a_bs a_cs a_blockOf a_opener a_around a_other a_end a_open a_varied a_loose a_variedVariable a_stands a_number a_isConst nd a_inputs a_values a_variables a_cells a_outs a_was a_rest a_line := by
      intro hx
      refine ih (q + 1) x2 nd (by omega) ?_ hs hne
      rcases hst with ⟨e0, e1, hm, h1, h2⟩ | h
      · refine Or.inl ⟨e0, e1, hm, h1, fun k11 j hj k17 ea => ?_⟩
        by_cases e : j = q
        · rw [e] at k17 ea ⊢; rw [← e1]; exact hx k11 k17 ea
        · exact h2 k11 j (by omega) k17 ea
      · exact Or.inr h
    refine pk_eq (K i) 11 (fun k11 => ⟨iq, pk_eq (K q) 17 (fun k17 => ⟨iq, ii, br_c (fun ea => ⟨iq, br_c (fun hz => ⟨iq, nm_r (e' := upd nd q 1) (by rw [xv_nar1]) (nm_r (nI_1 q) (ih (q + 1) 1 _ (by omega) (Or.inr ⟨rfl, ?_⟩) (ny_mark hs (fun N hc hN => Or.inl ?_)) ?_))⟩) (fun hz => nm_r (nI_1 q) (next (fun _ _ _ => hz)))⟩) (fun ea => nm_r (nI_1 q) (next (fun _ _ h => absurd h ea)))⟩) (fun k17 => nm_r (nI_1 q) (next (fun _ h => absurd h k17)))⟩) (fun k11 => fin x2 nd ?_ hs)
    · have := cz_lt (x := 1) hz (by decide) 48 (by omega)
      rcases hst with ⟨_, _, h, _⟩ | ⟨_, h⟩ <;> omega
    · refine (hc q (by omega)).2.1 k17 ⟨i, hi, k11, ea.symm, ?_⟩
      rcases hN i hi hne with h | h
      · exact h
      · rw [hcf] at h; cases h
    · by_cases e : i = q
      · rw [e, pk_us]; decide
      · rw [pk_un e]; exact hne
    · rcases hst with ⟨e0, e1, hm, h1, h2⟩ | h
      · exact Or.inl ⟨e0, e1, hm, h1, fun h => absurd h k11⟩
      · exact Or.inr h
theorem ny_36 (hP : yv_P K n a_ops a_as a_bs a_cs a_blockOf a_opener a_around) (hR : sh_R T n a_stands a_isConst a_number) (hg : ∀ j, j < n → sh_good T j) {post : Int32 → SY → Prop} {i M : Nat} {nd0 : Nat → Int32} (hi : i < n) (hcf : (T i).2.1 = false)
    (hend0 : (K i = 11 → ∀ j, j < n → K j = 17 → a_as j = a_as i → nd0 j ≠ 0) → (∀ s, s < 3 → sc_us (K i) s → nd0 (T (sh_o a_as a_bs a_cs s i)).1 ≠ 0) → post 0 (nI n, f_known, f_wrong, f_place, f_blocks, f_steps, f_dropped, f_on, f_next, f_again, f_depth, a_ops, a_as, a_bs, a_cs, a_blockOf, a_opener, a_around, a_other, a_end, a_open, a_varied, a_loose, a_variedVariable, a_stands, a_number, a_isConst, nd0, a_inputs, a_values, a_variables, a_cells, a_outs, a_was, a_rest, a_line))
    (hend1 : ∀ nd, ny_S K a_as a_bs a_cs T n nd → cz nd 48 < M → post 1 (nI n, f_known, f_wrong, f_place, f_blocks, f_steps, f_dropped, f_on, f_next, f_again, f_depth, a_ops, a_as, a_bs, a_cs, a_blockOf, a_opener, a_around, a_other, a_end, a_open, a_varied, a_loose, a_variedVariable, a_stands, a_number, a_isConst, nd, a_inputs, a_values, a_variables, a_cells, a_outs, a_was, a_rest, a_line)) :
    ∀ (d t : Nat) (x2 : Int32) (nd : Nat → Int32), t + d = 3 → ((x2 = 0 ∧ nd = nd0 ∧ cz nd 48 ≤ M ∧ (∀ s, s < t → sc_us (K i) s → nd0 (T (sh_o a_as a_bs a_cs s i)).1 ≠ 0)) ∨ (x2 = 1 ∧ cz nd 48 < M)) → ny_S K a_as a_bs a_cs T n nd → nd i ≠ 0 →
      wY_need_36 post (nI i) (nI n) f_known f_wrong f_place f_blocks f_steps f_dropped f_on f_next f_again f_depth (d + 1) x2 (nI t) a_ops a_as a_bs a_cs a_blockOf a_opener a_around a_other a_end a_open a_varied a_loose a_variedVariable a_stands a_number a_isConst nd a_inputs a_values a_variables a_cells a_outs a_was a_rest a_line := by
  have hP' := hP
  obtain ⟨hn, hK, hgd, h4, hok, hB, hA⟩ := hP'
  intro d
  induction d with
  | zero =>
    intro t x2 nd ht hst hs hne
    cases (show t = 3 by omega)
    refine br_t (by decide) ⟨n + 1, ny_100 (K := K) (n := n) (T := T) hP hi hcf hend0 hend1 n 0 x2 nd (by omega) ?_ hs hne⟩
    rcases hst with ⟨e0, e1, hm, h1⟩ | h
    · exact Or.inl ⟨e0, e1, hm, h1, fun _ j hj => by omega⟩
    · exact Or.inr h
  | succ d ih =>
    intro t x2 nd ht hst hs hne
    refine br_f (nI_ge (b := 3) (by omega) (by decide)) ?_
    have next : (sc_us (K i) t → nd (T (sh_o a_as a_bs a_cs t i)).1 ≠ 0) → wY_need_36 post (nI i) (nI n) f_known f_wrong f_place f_blocks f_steps f_dropped f_on f_next f_again f_depth (d + 1) x2 (nI (t + 1)) a_ops a_as a_bs a_cs a_blockOf a_opener a_around a_other a_end a_open a_varied a_loose a_variedVariable a_stands a_number a_isConst nd a_inputs a_values a_variables a_cells a_outs a_was a_rest a_line := by
      intro hx
      refine ih (t + 1) x2 nd (by omega) ?_ hs hne
      rcases hst with ⟨e0, e1, hm, h1⟩ | h
      · refine Or.inl ⟨e0, e1, hm, fun s hs' hu => ?_⟩
        by_cases e : s = t
        · rw [e] at hu ⊢; rw [← e1]; exact hx hu
        · exact h1 s (by omega) hu
      · exact Or.inr h
    refine ys_uses hn hK hi (by omega) (fun hu => br_f (by decide) ?_) (fun hu => br_t rfl (nm_r (nI_1 t) (next (fun h => absurd h hu))))
    obtain ⟨o, eo, _⟩ := sh_ov_lt (by omega) (hok i hi t (by omega) hu)
    have g := hg _ (show sh_o a_as a_bs a_cs t i < n by omega)
    have glt : (T (sh_o a_as a_bs a_cs t i)).1 < n := by have := g.1; omega
    refine ys_operand hn hi (by omega) ?_
    rw [eo]
    refine ⟨vp_in_nI (by omega) (by omega), nm_c (nI_clamp (by omega)) (hR _ (by omega)).1 ?_⟩
    generalize ex : (T (sh_o a_as a_bs a_cs t i)).1 = x at *
    have cx : (nI x).toNatClampNeg = x := nI_clamp (by omega)
    have ix : vp_in (nI x) 48 := vp_in_nI (by omega) (by omega)
    refine ⟨ix, ?_⟩
    rw [cx]
    refine br_c (fun hz => nm_r (e' := 1) ?_ ⟨ix, nm_r (e' := upd nd x 1) (by rw [cx, xv_nar1]) (nm_r (nI_1 t) (ih (t + 1) 1 _ (by omega) (Or.inr ⟨rfl, ?_⟩) (ny_mark hs (fun N hc hN => ?_)) ?_))⟩) (fun hz => nm_r (e' := x2) ?_ ⟨ix, nm_r (e' := nd) ?_ (nm_r (nI_1 t) (next (fun _ => hz)))⟩)
    · rcases hst with ⟨rfl, _⟩ | ⟨rfl, _⟩
      · exact or_01
      · exact or_11
    · have := cz_lt (x := 1) hz (by decide) 48 (by omega)
      rcases hst with ⟨_, _, h, _⟩ | ⟨_, h⟩ <;> omega
    · cases hc2 : (T x).2.1 with
      | true => exact Or.inr rfl
      | false =>
        refine Or.inl ?_
        have hNi : N i := by
          rcases hN i hi hne with h | h
          · exact h
          · rw [hcf] at h; cases h
        have := (hc i hi).2.2 hNi t (by omega) hu
        rw [ex] at this
        exact this hc2
    · by_cases e : i = x
      · rw [e, pk_us]; decide
      · rw [pk_un e]; exact hne
    · rcases hst with ⟨rfl, _⟩ | ⟨rfl, _⟩
      · exact or_00
      · exact or_10
    · rw [cx, xv_nar1]
      exact up_same ((hs.2.1 x (by omega)).resolve_left hz)
theorem ny_need (hP : yv_P K n a_ops a_as a_bs a_cs a_blockOf a_opener a_around) (hR : sh_R T n a_stands a_isConst a_number) (hg : ∀ j, j < n → sh_good T j) (hl : ∀ j, j < n → sh_line K a_as a_bs a_cs T j (T j)) {post : Int32 → SY → Prop} {i : Nat} (hi : i < n) (hs : ny_S K a_as a_bs a_cs T n a_needed)
    (h0 : ny_sat K a_as a_bs a_cs T n a_needed i → post 0 (nI n, f_known, f_wrong, f_place, f_blocks, f_steps, f_dropped, f_on, f_next, f_again, f_depth, a_ops, a_as, a_bs, a_cs, a_blockOf, a_opener, a_around, a_other, a_end, a_open, a_varied, a_loose, a_variedVariable, a_stands, a_number, a_isConst, a_needed, a_inputs, a_values, a_variables, a_cells, a_outs, a_was, a_rest, a_line))
    (h1 : ∀ nd, ny_S K a_as a_bs a_cs T n nd → cz nd 48 < cz a_needed 48 → post 1 (nI n, f_known, f_wrong, f_place, f_blocks, f_steps, f_dropped, f_on, f_next, f_again, f_depth, a_ops, a_as, a_bs, a_cs, a_blockOf, a_opener, a_around, a_other, a_end, a_open, a_varied, a_loose, a_variedVariable, a_stands, a_number, a_isConst, nd, a_inputs, a_values, a_variables, a_cells, a_outs, a_was, a_rest, a_line)) : wpY_need post (nI n, f_known, f_wrong, f_place, f_blocks, f_steps, f_dropped, f_on, f_next, f_again, f_depth, a_ops, a_as, a_bs, a_cs, a_blockOf, a_opener, a_around, a_other, a_end, a_open, a_varied, a_loose, a_variedVariable, a_stands, a_number, a_isConst, a_needed, a_inputs, a_values, a_variables, a_cells, a_outs, a_was, a_rest, a_line) (nI i) := by
  have hP' := hP
  obtain ⟨hn, hK, hgd, h4, hok, hB, hA⟩ := hP'
  have ci : (nI i).toNatClampNeg = i := nI_clamp (by omega)
  have ii : vp_in (nI i) 48 := vp_in_nI (by omega) (by omega)
  have ki := hK i hi
  refine ⟨ii, ?_⟩
  rw [ci, (hR i hi).2.1]
  refine br_c (fun hz => h0 (fun h => absurd hz h)) (fun hz => ⟨ii, br_c (fun hf => ⟨4, ?_⟩) (fun hf => ⟨ii, ?_⟩)⟩)
  · exact ny_36 (K := K) (n := n) (T := T) (M := cz a_needed 48) (nd0 := a_needed) hP hR hg hi (sh_bI_0 hf) (fun a b => h0 (fun _ _ => ⟨b, a⟩)) h1 3 0 0 a_needed rfl (Or.inl ⟨rfl, rfl, Nat.le_refl _, fun s hs => by omega⟩) hs hz
  · have hcn := sh_bI_n hf
    have k10 := sh_const (hl i hi) hcn
    rw [ki.1]
    exact ys_gives ki.2 (fun h16 => br_f (by decide) (h0 (fun _ h => by rw [hcn] at h; cases h))) (fun h16 => absurd (show K i ≤ 16 by omega) h16)
theorem ny_209 (hP : yv_P K n a_ops a_as a_bs a_cs a_blockOf a_opener a_around) (hR : sh_R T n a_stands a_isConst a_number) (hg : ∀ j, j < n → sh_good T j) (hl : ∀ j, j < n → sh_line K a_as a_bs a_cs T j (T j)) {post : SY → Prop} {J : Int32 → Int32 → Int32 → Int32 → Int32 → Int32 → Int32 → Int32 → Int32 → Int32 → Int32 → Int32 → (Nat → Int32) → (Nat → Int32) → (Nat → Int32) → (Nat → Int32) → (Nat → Int32) → (Nat → Int32) → (Nat → Int32) → (Nat → Int32) → (Nat → Int32) → (Nat → Int32) → (Nat → Int32) → (Nat → Int32) → (Nat → Int32) → (Nat → Int32) → (Nat → Int32) → (Nat → Int32) → (Nat → Int32) → (Nat → Int32) → (Nat → Int32) → (Nat → Int32) → (Nat → Int32) → (Nat → Int32) → (Nat → Int32) → (Nat → Int32) → (Nat → Int32) → Prop}
    (hend0 : (∀ j, j < n → ny_sat K a_as a_bs a_cs T n a_needed j) → J 0 (nI n) f_known f_wrong f_place f_blocks f_steps f_dropped f_on f_next f_again f_depth a_ops a_as a_bs a_cs a_blockOf a_opener a_around a_other a_end a_open a_varied a_loose a_variedVariable a_stands a_number a_isConst a_needed a_inputs a_values a_variables a_cells a_outs a_was a_rest a_line)
    (hend1 : ∀ nd, ny_S K a_as a_bs a_cs T n nd → cz nd 48 < cz a_needed 48 → J 1 (nI n) f_known f_wrong f_place f_blocks f_steps f_dropped f_on f_next f_again f_depth a_ops a_as a_bs a_cs a_blockOf a_opener a_around a_other a_end a_open a_varied a_loose a_variedVariable a_stands a_number a_isConst nd a_inputs a_values a_variables a_cells a_outs a_was a_rest a_line) :
    ∀ (d i : Nat) (x1 : Int32) (nd : Nat → Int32), i + d = n → ((x1 = 0 ∧ nd = a_needed ∧ ∀ j, j < i → ny_sat K a_as a_bs a_cs T n nd j) ∨ (x1 = 1 ∧ cz nd 48 < cz a_needed 48)) → ny_S K a_as a_bs a_cs T n nd →
      wY_shorten_209 post J (d + 1) x1 (nI i) (nI n) f_known f_wrong f_place f_blocks f_steps f_dropped f_on f_next f_again f_depth a_ops a_as a_bs a_cs a_blockOf a_opener a_around a_other a_end a_open a_varied a_loose a_variedVariable a_stands a_number a_isConst nd a_inputs a_values a_variables a_cells a_outs a_was a_rest a_line := by
  have hn := hP.1
  intro d
  induction d with
  | zero =>
    intro i x1 nd hi hst hs
    cases (show i = n by omega)
    refine br_t (nI_le (Nat.le_refl _) (by omega)) ?_
    rcases hst with ⟨rfl, rfl, hall⟩ | ⟨rfl, hmu⟩
    · exact hend0 hall
    · exact hend1 nd hs hmu
  | succ d ih =>
    intro i x1 nd hi hst hs
    refine br_f (nI_ge (by omega) (by omega)) ?_
    refine ny_need (K := K) (n := n) (T := T) hP hR hg hl (by omega) hs (fun hsat => ?_) (fun nd' hs' hmu' => ?_)
    · refine nm_r (e' := x1) ?_ (nm_r (nI_1 i) (ih (i + 1) x1 nd (by omega) ?_ hs))
      · rcases hst with ⟨rfl, _⟩ | ⟨rfl, _⟩
        · exact or_00
        · exact or_10
      · rcases hst with ⟨e0, e1, hall⟩ | h
        · refine Or.inl ⟨e0, e1, fun j hj => ?_⟩
          by_cases e : j = i
          · rw [e]; exact hsat
          · exact hall j (by omega)
        · exact Or.inr h
    · refine nm_r (e' := 1) ?_ (nm_r (nI_1 i) (ih (i + 1) 1 nd' (by omega) (Or.inr ⟨rfl, ?_⟩) hs'))
      · rcases hst with ⟨rfl, _⟩ | ⟨rfl, _⟩
        · exact or_01
        · exact or_11
      · rcases hst with ⟨_, rfl, _⟩ | ⟨_, h⟩
        · exact hmu'
        · omega
theorem ny_201 (hP : yv_P K n a_ops a_as a_bs a_cs a_blockOf a_opener a_around) (hR : sh_R T n a_stands a_isConst a_number) (hg : ∀ j, j < n → sh_good T j) (hl : ∀ j, j < n → sh_line K a_as a_bs a_cs T j (T j)) {post : SY → Prop}
    (hpost : ∀ nd, ny_S K a_as a_bs a_cs T n nd → (∀ j, j < n → ny_sat K a_as a_bs a_cs T n nd j) → post (nI n, f_known, f_wrong, f_place, f_blocks, f_steps, f_dropped, f_on, f_next, f_again, f_depth, a_ops, a_as, a_bs, a_cs, a_blockOf, a_opener, a_around, a_other, a_end, a_open, a_varied, a_loose, a_variedVariable, a_stands, a_number, a_isConst, nd, a_inputs, a_values, a_variables, a_cells, a_outs, a_was, a_rest, a_line)) :
    ∀ (M : Nat) (nd : Nat → Int32), cz nd 48 ≤ M → ny_S K a_as a_bs a_cs T n nd → wY_shorten_201 post (M + 2) 1 (nI n) f_known f_wrong f_place f_blocks f_steps f_dropped f_on f_next f_again f_depth a_ops a_as a_bs a_cs a_blockOf a_opener a_around a_other a_end a_open a_varied a_loose a_variedVariable a_stands a_number a_isConst nd a_inputs a_values a_variables a_cells a_outs a_was a_rest a_line := by
  intro M
  have hn := hP.1
  induction M with
  | zero =>
    intro nd hmu hs
    refine br_f (by decide) ⟨n + 1, ?_⟩
    exact ny_209 (K := K) (n := n) (T := T) (post := post) (J := wY_shorten_201 post 1) hP hR hg hl (fun hall => br_t rfl (hpost nd hs hall)) (fun nd' _ h => absurd h (by omega)) n 0 0 nd (by omega) (Or.inl ⟨rfl, rfl, fun j hj => by omega⟩) hs
  | succ M ih =>
    intro nd hmu hs
    refine br_f (by decide) ⟨n + 1, ?_⟩
    exact ny_209 (K := K) (n := n) (T := T) (post := post) (J := wY_shorten_201 post (M + 2)) hP hR hg hl (fun hall => br_t rfl (hpost nd hs hall)) (fun nd' hs' h => ih nd' (by omega) hs') n 0 0 nd (by omega) (Or.inl ⟨rfl, rfl, fun j hj => by omega⟩) hs
theorem sy_shorten (hP : yv_P K n a_ops a_as a_bs a_cs a_blockOf a_opener a_around) {post : SY → Prop}
    (h : ∀ T stands isc num nd, sh_R T n stands isc num → (∀ j, j < n → sh_good T j) → (∀ j, j < n → sh_line K a_as a_bs a_cs T j (T j)) → nd_least K a_as a_bs a_cs T n (fun j => nd j ≠ 0 ∧ (T j).2.1 = false) → post (nI n, f_known, f_wrong, f_place, f_blocks, f_steps, f_dropped, f_on, f_next, f_again, f_depth, a_ops, a_as, a_bs, a_cs, a_blockOf, a_opener, a_around, a_other, a_end, a_open, a_varied, a_loose, a_variedVariable, stands, num, isc, nd, a_inputs, a_values, a_variables, a_cells, a_outs, a_was, a_rest, a_line)) : wpY_shorten post (nI n, f_known, f_wrong, f_place, f_blocks, f_steps, f_dropped, f_on, f_next, f_again, f_depth, a_ops, a_as, a_bs, a_cs, a_blockOf, a_opener, a_around, a_other, a_end, a_open, a_varied, a_loose, a_variedVariable, a_stands, a_number, a_isConst, a_needed, a_inputs, a_values, a_variables, a_cells, a_outs, a_was, a_rest, a_line) := by
  have hP' := hP
  obtain ⟨hn, hK, hgd, h4, hok, hB, hA⟩ := hP'
  refine ⟨n + 1, sy_loop (K := K) (n := n) hP (fun T stands isc num nd hR hg hl hnd => ⟨48 + 2, ?_⟩) n 0 (fun _ => (0, false, 0)) _ _ _ _ (by omega) (fun j hj => by omega) (fun j hj => by omega) (fun j hj => by omega) (fun j hj => by omega)⟩
  have hcl : ∀ j, j < n → 16 ≤ K j → (T j).2.1 = false := fun j hj h16 => by
    cases e : (T j).2.1 with
    | false => rfl
    | true => have := sh_const (hl j hj) e; omega
  refine ny_201 (K := K) (n := n) (T := T) hP hR hg hl (fun nd' hs hall => h T stands isc num nd' hR hg hl ⟨fun i hi => ⟨fun hk => ⟨hs.1 i hi hk, hcl i hi hk.1⟩, fun k17 ⟨j, hj, kj, ej, nj⟩ => ⟨?_, hcl i hi (by omega)⟩, fun ni s hs' hu hc => ⟨((hall i hi) ni.1 ni.2).1 s hs' hu, hc⟩⟩, fun N hc i hi hm => ?_⟩) 48 nd (cz_le nd 48) ⟨fun j hj hk => ?_, fun j hj => ?_, fun N hc i hi hm => Or.inl ?_⟩
  · exact ((hall j hj) nj.1 nj.2).2 kj i hi k17 ej.symm
  · rcases hs.2.2 N hc i hi hm.1 with h' | h'
    · exact h'
    · rw [hm.2] at h'; cases h'
  · rw [hnd j hj, if_pos (by omega)]; decide
  · rw [hnd j hj]; split
    · exact Or.inr rfl
    · exact Or.inl rfl
  · refine (hc i hi).1 ?_
    have e := hnd i hi
    rw [e] at hm
    split at hm
    · omega
    · exact absurd rfl hm
end
end
section
section
/-- a program as both sides hold it -/
def pg_W (K : Nat → Nat) (n : Nat) (kinds A : Nat → Int32) : Prop :=
  n ≤ 48 ∧ (∀ j, j < n → kinds j = nI (K j) ∧ K j ≤ 25) ∧ (∀ j, j < n → (K j = 1 ∨ K j = 11 ∨ K j = 16 ∨ K j = 17 ∨ K j = 18) → ∃ a, a < 4 ∧ A j = nI a)
/-- something is wrong of 1 to 3 -/
def pg_bad (K : Nat → Nat) (n : Nat) (A B C : Nat → Int32) (w p : Int32) : Prop :=
  (∃ i c, i < n ∧ sc_ok K A B C i ∧ sc_ck K A B C i c ∧ c ≠ 0 ∧ c < 4 ∧ w = nI c ∧ p = nI i) ∨ (sc_ok K A B C n ∧ sc_fr K n ≠ [] ∧ w = 1 ∧ p = nI n)
/-- the fourth sort, or nothing -/
def pg_4 (K : Nat → Nat) (n : Nat) (L : Nat → Prop) (w p : Int32) : Prop :=
  (∃ i, i < n ∧ xv_w4 K L i ∧ (∀ j, j < i → ¬ xv_w4 K L j) ∧ w = 4 ∧ p = nI i) ∨ ((∀ j, j < n → ¬ xv_w4 K L j) ∧ w = 0 ∧ p = -1)
def pg_X (K : Nat → Nat) (n : Nat) (A B C : Nat → Int32) (w p : Int32) (home depth closer mate operands va pa vv same fixed worth nd : Nat → Int32) : Prop :=
  sc_ok K A B C n ∧ sc_fr K n = [] ∧ xs_A K A B C n home depth closer mate operands ∧ closer 0 = nI n ∧ vr_least K A B C n (xv_V va) (xv_V pa) (xv_V vv) ∧ pg_4 K n (xv_V pa) w p ∧
  ∃ T, sh_R T n same fixed worth ∧ (∀ j, j < n → sh_good T j) ∧ (∀ j, j < n → sh_line K A B C T j (T j)) ∧ nd_least K A B C T n (fun j => nd j ≠ 0)
def pg_Y (K : Nat → Nat) (n : Nat) (A B C : Nat → Int32) (w p : Int32) (blockOf opener around other end_ va lo vv stands isc num nd : Nat → Int32) : Prop :=
  sc_ok K A B C n ∧ sc_fr K n = [] ∧ ys_A K n blockOf opener around other end_ ∧ vr_least K A B C n (xv_V va) (yv_L K lo) (xv_V vv) ∧ pg_4 K n (yv_L K lo) w p ∧
  ∃ T, sh_R T n stands isc num ∧ (∀ j, j < n → sh_good T j) ∧ (∀ j, j < n → sh_line K A B C T j (T j)) ∧ nd_least K A B C T n (fun j => nd j ≠ 0 ∧ (T j).2.1 = false)
end
section
variable {K : Nat → Nat} {n : Nat}
variable {f_lines f_studied f_wrong f_wrongAt f_brief f_on f_dropped f_steps f_nextLine f_repeats : Int32} {a_kinds a_firsts a_seconds a_thirds a_inputs a_home a_depth a_closer a_mate a_operands a_varies a_parted a_variableVaries a_same a_fixed a_worth a_needed a_variableNeeded a_values a_variables a_outputs a_cells a_whole a_waiting : Nat → Int32}
theorem pg_xvP (hW : pg_W K n a_kinds a_firsts) (hok : sc_ok K a_firsts a_seconds a_thirds n) (hA : xs_A K a_firsts a_seconds a_thirds n a_home a_depth a_closer a_mate a_operands) : xv_P K n a_kinds a_firsts a_seconds a_thirds a_home a_mate a_operands :=
  ⟨hW.1, hW.2.1, sc_ok_good hok, hW.2.2, fun j hj => (sc_ck0 (hok j hj)).2.1, fun j hj => ⟨(hA j hj).1, (hA j hj).2.2.1⟩, fun j hj => (hA j hj).2.2.2.2⟩
theorem pg_study (hW : pg_W K n a_kinds a_firsts) {post : SX → Prop}
    (hbad : ∀ w p home depth closer mate operands, pg_bad K n a_firsts a_seconds a_thirds w p → post (nI n, 1, w, p, f_brief, f_on, f_dropped, f_steps, f_nextLine, f_repeats, a_kinds, a_firsts, a_seconds, a_thirds, a_inputs, home, depth, closer, mate, operands, a_varies, a_parted, a_variableVaries, a_same, a_fixed, a_worth, a_needed, a_variableNeeded, a_values, a_variables, a_outputs, a_cells, a_whole, a_waiting))
    (hgood : ∀ w p home depth closer mate operands va pa vv same fixed worth nd vn, pg_X K n a_firsts a_seconds a_thirds w p home depth closer mate operands va pa vv same fixed worth nd → post (nI n, 1, w, p, f_brief, f_on, f_dropped, f_steps, f_nextLine, f_repeats, a_kinds, a_firsts, a_seconds, a_thirds, a_inputs, home, depth, closer, mate, operands, va, pa, vv, same, fixed, worth, nd, vn, a_values, a_variables, a_outputs, a_cells, a_whole, a_waiting)) : wpX_study post (nI n, 0, f_wrong, f_wrongAt, f_brief, f_on, f_dropped, f_steps, f_nextLine, f_repeats, a_kinds, a_firsts, a_seconds, a_thirds, a_inputs, a_home, a_depth, a_closer, a_mate, a_operands, a_varies, a_parted, a_variableVaries, a_same, a_fixed, a_worth, a_needed, a_variableNeeded, a_values, a_variables, a_outputs, a_cells, a_whole, a_waiting) := by
  have hn := hW.1
  refine br_t rfl ?_
  refine xs_findWrong (K := K) (n := n) hn hW.2.1 (fun i c home depth closer mate operands hi hok hck h0 h4 => ?_) (fun home depth closer mate operands hok hfr => ?_) (fun home depth closer mate operands hok hfr hA hc0 => ?_)
  · exact br_f (nI_ne0 (by omega) (by omega)) (hbad _ _ _ _ _ _ _ (Or.inl ⟨i, c, hi, hok, hck, h0, h4, rfl, rfl⟩))
  · exact br_f (by decide) (hbad _ _ _ _ _ _ _ (Or.inr ⟨hok, hfr, rfl, rfl⟩))
  · refine br_t rfl ?_
    have hP : xv_P K n a_kinds a_firsts a_seconds a_thirds home mate operands := pg_xvP hW hok hA
    refine xv_findVaried (K := K) (n := n) hP (fun va pa vv hl hb => ?_)
    have tail : ∀ (w p : Int32), pg_4 K n (xv_V pa) w p → wpX_shortenLines (fun u => match u with | (f_lines, f_studied, f_wrong, f_wrongAt, f_brief, f_on, f_dropped, f_steps, f_nextLine, f_repeats, a_kinds, a_firsts, a_seconds, a_thirds, a_inputs, a_home, a_depth, a_closer, a_mate, a_operands, a_varies, a_parted, a_variableVaries, a_same, a_fixed, a_worth, a_needed, a_variableNeeded, a_values, a_variables, a_outputs, a_cells, a_whole, a_waiting) => (wpX_findNeeded (fun u => match u with | (f_lines, f_studied, f_wrong, f_wrongAt, f_brief, f_on, f_dropped, f_steps, f_nextLine, f_repeats, a_kinds, a_firsts, a_seconds, a_thirds, a_inputs, a_home, a_depth, a_closer, a_mate, a_operands, a_varies, a_parted, a_variableVaries, a_same, a_fixed, a_worth, a_needed, a_variableNeeded, a_values, a_variables, a_outputs, a_cells, a_whole, a_waiting) => (post (f_lines, f_studied, f_wrong, f_wrongAt, f_brief, f_on, f_dropped, f_steps, f_nextLine, f_repeats, a_kinds, a_firsts, a_seconds, a_thirds, a_inputs, a_home, a_depth, a_closer, a_mate, a_operands, a_varies, a_parted, a_variableVaries, a_same, a_fixed, a_worth, a_needed, a_variableNeeded, a_values, a_variables, a_outputs, a_cells, a_whole, a_waiting))) (f_lines, f_studied, f_wrong, f_wrongAt, f_brief, f_on, f_dropped, f_steps, f_nextLine, f_repeats, a_kinds, a_firsts, a_seconds, a_thirds, a_inputs, a_home, a_depth, a_closer, a_mate, a_operands, a_varies, a_parted, a_variableVaries, a_same, a_fixed, a_worth, a_needed, a_variableNeeded, a_values, a_variables, a_outputs, a_cells, a_whole, a_waiting))) (nI n, 1, w, p, f_brief, f_on, f_dropped, f_steps, f_nextLine, f_repeats, a_kinds, a_firsts, a_seconds, a_thirds, a_inputs, home, depth, closer, mate, operands, va, pa, vv, a_same, a_fixed, a_worth, a_needed, a_variableNeeded, a_values, a_variables, a_outputs, a_cells, a_whole, a_waiting) := fun w p h4 =>
      sx_shorten (K := K) (n := n) hP (fun T same fixed worth hR hg hln => nx_need (K := K) (n := n) (T := T) hP hR hg (fun nd vn hnd => hgood _ _ _ _ _ _ _ _ _ _ _ _ _ _ _ ⟨hok, hfr, hA, hc0, hl, h4, T, hR, hg, hln, hnd⟩))
    refine xv_diff (K := K) (n := n) hn hW.2.1 (sc_ok_good hok) (fun j hj => (hA j hj).1) (fun i hi h4 hno => ?_) (fun hno => ?_)
    · exact tail 4 (nI i) (Or.inl ⟨i, hi, h4, hno, rfl, rfl⟩)
    · exact tail 0 (-1) (Or.inr ⟨hno, rfl, rfl⟩)
end
section
variable {K : Nat → Nat} {n : Nat}
variable {f_lines f_known f_wrong f_place f_blocks f_steps f_dropped f_on f_next f_again f_depth : Int32} {a_ops a_as a_bs a_cs a_blockOf a_opener a_around a_other a_end a_open a_varied a_loose a_variedVariable a_stands a_number a_isConst a_needed a_inputs a_values a_variables a_cells a_outs a_was a_rest a_line : Nat → Int32}
theorem pg_yvP (hW : pg_W K n a_ops a_as) (hok : sc_ok K a_as a_bs a_cs n) (hA : ys_A K n a_blockOf a_opener a_around a_other a_end) : yv_P K n a_ops a_as a_bs a_cs a_blockOf a_opener a_around :=
  ⟨hW.1, hW.2.1, sc_ok_good hok, hW.2.2, fun j hj => (sc_ck0 (hok j hj)).2.1, fun j hj => (hA j hj).1, fun j hj => (hA j hj).2.1⟩
theorem pg_look (hW : pg_W K n a_ops a_as) {post : SY → Prop}
    (hbad : ∀ w p bl blockOf opener around other end_ opn, pg_bad K n a_as a_bs a_cs w p → post (nI n, 1, w, p, bl, f_steps, f_dropped, f_on, f_next, f_again, f_depth, a_ops, a_as, a_bs, a_cs, blockOf, opener, around, other, end_, opn, a_varied, a_loose, a_variedVariable, a_stands, a_number, a_isConst, a_needed, a_inputs, a_values, a_variables, a_cells, a_outs, a_was, a_rest, a_line))
    (hgood : ∀ w p bl blockOf opener around other end_ opn va lo vv stands isc num nd, pg_Y K n a_as a_bs a_cs w p blockOf opener around other end_ va lo vv stands isc num nd → post (nI n, 1, w, p, bl, f_steps, f_dropped, f_on, f_next, f_again, f_depth, a_ops, a_as, a_bs, a_cs, blockOf, opener, around, other, end_, opn, va, lo, vv, stands, num, isc, nd, a_inputs, a_values, a_variables, a_cells, a_outs, a_was, a_rest, a_line)) : wpY_look post (nI n, 0, f_wrong, f_place, f_blocks, f_steps, f_dropped, f_on, f_next, f_again, f_depth, a_ops, a_as, a_bs, a_cs, a_blockOf, a_opener, a_around, a_other, a_end, a_open, a_varied, a_loose, a_variedVariable, a_stands, a_number, a_isConst, a_needed, a_inputs, a_values, a_variables, a_cells, a_outs, a_was, a_rest, a_line) := by
  have hn := hW.1
  refine yl_look (K := K) (n := n) hn hW.2.1 (fun i c bl blockOf opener around other end_ opn hi hok hck h0 h4 => hbad _ _ _ _ _ _ _ _ _ (Or.inl ⟨i, c, hi, hok, hck, h0, h4, rfl, rfl⟩)) (fun bl blockOf opener around other end_ opn hok hfr => hbad _ _ _ _ _ _ _ _ _ (Or.inr ⟨hok, hfr, rfl, rfl⟩)) (fun blockOf opener around other end_ opn hok hfr hA ha ho => ?_)
  have hP : yv_P K n a_ops a_as a_bs a_cs blockOf opener around := pg_yvP hW hok hA
  refine br_t (by decide) ?_
  refine yv_spread (K := K) (n := n) hP (fun va lo vv hl => ⟨n + 2, ?_⟩)
  have tail : ∀ (w p : Int32), pg_4 K n (yv_L K lo) w p → wY_look_565 post (nI n) 1 w p (nI (sc_cnt K n + 1)) f_steps f_dropped f_on f_next f_again f_depth a_ops a_as a_bs a_cs blockOf opener around other end_ opn va lo vv a_stands a_number a_isConst a_needed a_inputs a_values a_variables a_cells a_outs a_was a_rest a_line := fun w p h4 =>
    sy_shorten (K := K) (n := n) hP (fun T stands isc num nd hR hg hln hnd => hgood _ _ _ _ _ _ _ _ _ _ _ _ _ _ _ _ ⟨hok, hfr, hA, hl, h4, T, hR, hg, hln, hnd⟩)
  exact yv_495 (K := K) (n := n) hn hW.2.1 (sc_ok_good hok) (fun j hj => (hA j hj).1) (fun i hi h4 hno => tail 4 (nI i) (Or.inl ⟨i, hi, h4, hno, rfl, rfl⟩)) (fun hno => tail 0 (-1) (Or.inr ⟨hno, rfl, rfl⟩)) n 0 (by omega) (fun j hj => by omega)
end
section
variable {K : Nat → Nat} {n : Nat} {A B C : Nat → Int32}
theorem sc_ck_uniq {i c c' : Nat} (h : sc_ck K A B C i c) (h' : sc_ck K A B C i c') : c = c' := by
  rcases h with ⟨a, e⟩ | ⟨a, ⟨s, hs, hu, hv⟩, e⟩ | ⟨a, b, ⟨s, hs, hu, hv⟩, e⟩ | ⟨a, b, d, e⟩ <;>
  rcases h' with ⟨a', e'⟩ | ⟨a', ⟨s', hs', hu', hv'⟩, e'⟩ | ⟨a', b', ⟨s', hs', hu', hv'⟩, e'⟩ | ⟨a', b', d', e'⟩ <;>
  first
    | omega
    | exact absurd a' a
    | exact absurd a a'
    | exact absurd (b s' hs' hu') hv'
    | exact absurd (b' s hs hu) hv
    | exact absurd (d s' hs' hu') hv'
    | exact absurd (d' s hs hu) hv
theorem pg_bad_uniq {w p w' p' : Int32} (h : pg_bad K n A B C w p) (h' : pg_bad K n A B C w' p') : w = w' ∧ p = p' := by
  rcases h with ⟨i, c, hi, hok, hck, h0, h4, rfl, rfl⟩ | ⟨hok, hfr, rfl, rfl⟩ <;> rcases h' with ⟨i', c', hi', hok', hck', h0', h4', rfl, rfl⟩ | ⟨hok', hfr', rfl, rfl⟩
  · rcases Nat.lt_trichotomy i i' with l | l | l
    · exact absurd (sc_ck_uniq hck (hok' i l)) h0
    · subst l; rw [sc_ck_uniq hck hck']; exact ⟨rfl, rfl⟩
    · exact absurd (sc_ck_uniq hck' (hok i' l)) h0'
  · exact absurd (sc_ck_uniq hck (hok' i hi)) h0
  · exact absurd (sc_ck_uniq hck' (hok i' hi')) h0'
  · exact ⟨rfl, rfl⟩
theorem pg_bad_good {w p : Int32} (h : pg_bad K n A B C w p) (hok : sc_ok K A B C n) (hfr : sc_fr K n = []) : False := by
  rcases h with ⟨i, c, hi, _, hck, h0, _⟩ | ⟨_, h, _⟩
  · exact h0 (sc_ck_uniq hck (hok i hi))
  · exact h hfr
theorem pg_bad_w {w p : Int32} (h : pg_bad K n A B C w p) : ∃ c, c ≠ 0 ∧ c < 4 ∧ w = nI c := by
  rcases h with ⟨i, c, _, _, _, h0, h4, e, _⟩ | ⟨_, _, e, _⟩
  · exact ⟨c, h0, h4, e⟩
  · exact ⟨1, by omega, by omega, e⟩
theorem pg_4_uniq {L L' : Nat → Prop} {w p w' p' : Int32} (hg : sc_good K n) (hL : ∀ b, b ≤ n → (b = 0 ∨ sc_op (K (b - 1))) → (L b ↔ L' b)) (h : pg_4 K n L w p) (h' : pg_4 K n L' w' p') : w = w' ∧ p = p' := by
  have iff : ∀ j, j < n → (xv_w4 K L j ↔ xv_w4 K L' j) := fun j hj => by
    have gj : sc_good K (j + 1) := sc_good_le hg (by omega)
    have := hL _ (Nat.le_trans (sc_hdl_le gj) (by omega)) (sc_hdl_op gj)
    unfold xv_w4
    rw [this]
  rcases h with ⟨i, hi, h4, hno, rfl, rfl⟩ | ⟨hno, rfl, rfl⟩ <;> rcases h' with ⟨i', hi', h4', hno', rfl, rfl⟩ | ⟨hno', rfl, rfl⟩
  · rcases Nat.lt_trichotomy i i' with l | l | l
    · exact absurd ((iff i hi).mp h4) (hno' i l)
    · subst l; exact ⟨rfl, rfl⟩
    · exact absurd ((iff i' hi').mpr h4') (hno i' l)
  · exact absurd ((iff i hi).mp h4) (hno' i hi)
  · exact absurd ((iff i' hi').mpr h4') (hno i' hi')
  · exact ⟨rfl, rfl⟩
theorem nd_C_eq {T T' : Nat → Nat × Bool × Int32} {N : Nat → Prop} (hn : n < 2 ^ 31) (hov : ∀ j, j < n → ∀ s, s < 3 → sc_us (K j) s → sc_ov K A B C s j) (hg : ∀ j, j < n → (T j).1 ≤ j) (h : ∀ j, j < n → T j = T' j) (c : nd_C K A B C T n N) : nd_C K A B C T' n N := by
  intro i hi
  obtain ⟨a, b, d⟩ := c i hi
  refine ⟨a, b, fun ni s hs hu hc => ?_⟩
  have o := (sh_ov_lt (by omega) (hov i hi s hs hu)).1
  have g := hg _ (show sh_o A B C s i < n by omega)
  have e1 := h _ (show sh_o A B C s i < n by omega)
  have e2 := h _ (show (T (sh_o A B C s i)).1 < n by omega)
  have := d ni s hs hu
  rw [e2, e1] at this
  exact this hc
theorem nd_least_eq {T T' : Nat → Nat × Bool × Int32} {N : Nat → Prop} (hn : n < 2 ^ 31) (hov : ∀ j, j < n → ∀ s, s < 3 → sc_us (K j) s → sc_ov K A B C s j) (hg : ∀ j, j < n → (T j).1 ≤ j) (h : ∀ j, j < n → T j = T' j) (c : nd_least K A B C T n N) : nd_least K A B C T' n N :=
  ⟨nd_C_eq hn hov hg h c.1, fun N' hc => c.2 N' (nd_C_eq hn hov (fun j hj => by rw [← h j hj]; exact hg j hj) (fun j hj => (h j hj).symm) hc)⟩
/-- both sides together -/
theorem pg_join {w p w' p' : Int32} {home depth closer mate operands va pa vv same fixed worth nd blockOf opener around other end_ va' lo vv' stands isc num nd' : Nat → Int32} (hn : n ≤ 48)
    (hX : pg_X K n A B C w p home depth closer mate operands va pa vv same fixed worth nd) (hY : pg_Y K n A B C w' p' blockOf opener around other end_ va' lo vv' stands isc num nd') :
    (w = w' ∧ p = p') ∧ (∀ i, i < n → (va i ≠ 0 ↔ va' i ≠ 0)) ∧ (∀ b, b ≤ n → (b = 0 ∨ sc_op (K (b - 1))) → (pa b ≠ 0 ↔ lo (sc_cnt K b) ≠ 0)) ∧ (∀ v, v < 4 → (vv v ≠ 0 ↔ vv' v ≠ 0)) ∧
    ∃ T, sh_R T n same fixed worth ∧ sh_R T n stands isc num ∧ (∀ j, j < n → sh_good T j) ∧ (∀ j, j < n → sh_line K A B C T j (T j)) ∧ ∀ i, i < n → (nd i ≠ 0 ↔ nd' i ≠ 0 ∧ (T i).2.1 = false) := by
  obtain ⟨hok, hfr, hA, hc0, hl, h4, T, hR, hg, hln, hnd⟩ := hX
  obtain ⟨hok', hfr', hA', hl', h4', T', hR', hg', hln', hnd'⟩ := hY
  obtain ⟨u1, u2, u3⟩ := vr_uniq hl hl'
  have hov : ∀ j, j < n → ∀ s, s < 3 → sc_us (K j) s → sc_ov K A B C s j := fun j hj => (sc_ck0 (hok j hj)).2.1
  have eT : ∀ j, j < n → T j = T' j := sh_uniq (by omega) hov (fun j hj => (hg j hj).1) hln hln'
  have nd2 := nd_least_eq (by omega) hov (fun j hj => (hg' j hj).1) (fun j hj => (eT j hj).symm) hnd'
  refine ⟨pg_4_uniq (sc_ok_good hok) u2 h4 h4', u1, u2, u3, T, hR, fun j hj => by rw [eT j hj]; exact hR' j hj, hg, hln, fun i hi => ?_⟩
  have := nd_uniq hnd nd2 i hi
  rw [← eT i hi] at this
  exact this
end
end
section
section
theorem mk_an : ∀ a, a < 16 → ∀ b, b < 16 → nI a &&& (nI b ^^^ (-1)) = nI (a &&& (15 ^^^ b)) := by decide +kernel
theorem mk_and : ∀ a, a < 16 → ∀ b, b < 16 → nI a &&& nI b = nI (a &&& b) := by decide +kernel
theorem mk_or : ∀ a, a < 16 → ∀ b, b < 16 → nI a ||| nI b = nI (a ||| b) := by decide +kernel
theorem mk_lt : ∀ a, a < 16 → ∀ b, b < 16 → a &&& (15 ^^^ b) < 16 ∧ a &&& b < 16 ∧ a ||| b < 16 := by decide +kernel
theorem mk_bit : ∀ a, a < 16 → ∀ l, l < 4 → (((nI a >>> (nI l &&& 31)) &&& 1 = 0 ↔ a.testBit l = false) ∧ ((nI a >>> (nI l &&& 31)) &&& 1 = 1 ↔ a.testBit l = true)) := by decide +kernel
theorem mk_set : ∀ a, a < 16 → ∀ l, l < 4 → nI a ||| ((1 : Int32) <<< (nI l &&& 31)) = nI (a ||| 2 ^ l) ∧ a ||| 2 ^ l < 16 := by decide +kernel
theorem mk_setb : ∀ a, a < 16 → ∀ l, l < 4 → ∀ q, q < 4 → (a ||| 2 ^ l).testBit q = (a.testBit q || decide (q = l)) := by decide +kernel
theorem mk_anb : ∀ a, a < 16 → ∀ b, b < 16 → ∀ l, l < 4 → (a &&& (15 ^^^ b)).testBit l = (a.testBit l && !b.testBit l) := by decide +kernel
theorem mk_ext : ∀ a, a < 16 → ∀ b, b < 16 → (∀ l, l < 4 → a.testBit l = b.testBit l) → a = b := by decide +kernel
theorem mk_zero : ∀ a, a < 16 → (∀ l, l < 4 → a.testBit l = false) → a = 0 := by decide +kernel
theorem mk_aa : ∀ a, a < 16 → ∀ b, b < 16 → a &&& (15 ^^^ (a &&& b)) = a &&& (15 ^^^ b) := by decide +kernel
theorem mk_a0 : ∀ a, a < 16 → ∀ b, b < 16 → a &&& b = 0 → a &&& (15 ^^^ b) = a := by decide +kernel
theorem mk_ne : ∀ a, a < 16 → (nI a = 0 ↔ a = 0) := by decide +kernel
theorem mk_pos : ∀ a, a < 16 → ¬ nI a < 0 := by decide +kernel
/-- the rows of masks: X's and Y's, and Y's lines -/
def st_R (K : Nat → Nat) (wh ws ln : Nat → Int32) : List (Nat × Nat) → Prop
  | [] => True
  | f :: r => ln r.length = nI f.2 ∧ ws r.length = wh r.length ∧ (∃ w, w < 16 ∧ wh r.length = nI w) ∧ (K f.2 = 22 → wh r.length ≠ 0) ∧ (wh r.length = 0 → ∃ g, g ∈ r ∧ K g.2 = 22) ∧ st_R K wh ws ln r
/-- those that wait for an ELSE -/
def st_W (K : Nat → Nat) (wt rs : Nat → Int32) : List (Nat × Nat) → Prop
  | [] => True
  | f :: r => (K f.2 = 19 → f.1 = f.2 + 1 → rs r.length = wt r.length ∧ ∃ w, w < 16 ∧ wt r.length = nI w) ∧ st_W K wt rs r
theorem st_R_upd {K : Nat → Nat} {wh ws ln : Nat → Int32} {x y z : Int32} : ∀ (l : List (Nat × Nat)) (k : Nat), l.length ≤ k → st_R K wh ws ln l → st_R K (upd wh k x) (upd ws k y) (upd ln k z) l := by
  intro l
  induction l with
  | nil => intro k _ _; trivial
  | cons f r ih =>
    intro k hk h
    simp only [List.length_cons] at hk
    obtain ⟨h1, h2, h3, h4, h5, h6⟩ := h
    unfold st_R
    rw [pk_un (by omega), pk_un (by omega), pk_un (by omega)]
    exact ⟨h1, h2, h3, h4, h5, ih k (by omega) h6⟩
theorem st_W_upd {K : Nat → Nat} {wt rs : Nat → Int32} {x y : Int32} : ∀ (l : List (Nat × Nat)) (k : Nat), l.length ≤ k → st_W K wt rs l → st_W K (upd wt k x) (upd rs k y) l := by
  intro l
  induction l with
  | nil => intro k _ _; trivial
  | cons f r ih =>
    intro k hk h
    simp only [List.length_cons] at hk
    obtain ⟨h1, h2⟩ := h
    unfold st_W
    rw [pk_un (by omega), pk_un (by omega)]
    exact ⟨h1, ih k (by omega) h2⟩
theorem st_W_updY {K : Nat → Nat} {wt rs : Nat → Int32} {y : Int32} : ∀ (l : List (Nat × Nat)) (k : Nat), l.length ≤ k → st_W K wt rs l → st_W K wt (upd rs k y) l := by
  intro l
  induction l with
  | nil => intro k _ _; trivial
  | cons f r ih =>
    intro k hk h
    simp only [List.length_cons] at hk
    obtain ⟨h1, h2⟩ := h
    unfold st_W
    rw [pk_un (by omega)]
    exact ⟨h1, ih k (by omega) h2⟩
/-- what does not change in a run -/
def rn_stat (K : Nat → Nat) (n : Nat) (T : Nat → Nat × Bool × Int32) (br : Int32) (f_lines f_brief : Int32) (a_kinds a_firsts a_seconds a_thirds a_inputs a_home a_depth a_closer a_mate a_operands a_same a_fixed a_worth a_needed : Nat → Int32) (yf_lines : Int32) (ya_ops ya_as ya_bs ya_cs ya_blockOf ya_opener ya_around ya_other ya_end ya_stands ya_number ya_isConst ya_needed ya_inputs : Nat → Int32) : Prop :=
  pg_W K n a_kinds a_firsts ∧ sc_ok K a_firsts a_seconds a_thirds n ∧ sc_fr K n = [] ∧ xs_A K a_firsts a_seconds a_thirds n a_home a_depth a_closer a_mate a_operands ∧ a_closer 0 = nI n ∧ ys_A K n ya_blockOf ya_opener ya_around ya_other ya_end ∧
    (ya_ops = a_kinds ∧ ya_as = a_firsts ∧ ya_bs = a_seconds ∧ ya_cs = a_thirds ∧ ya_inputs = a_inputs) ∧ (sh_R T n a_same a_fixed a_worth ∧ sh_R T n ya_stands ya_isConst ya_number ∧ (∀ j, j < n → sh_good T j) ∧ ∀ j, j < n → (T j).2.1 = true → K j ≤ 16) ∧
    (∀ i, i < n → (a_needed i ≠ 0 ↔ ya_needed i ≠ 0 ∧ (T i).2.1 = false)) ∧ (∀ i, i < n → a_needed i ≠ 0 → (T i).1 = i) ∧ (∀ i, i < n → 16 ≤ K i ∧ K i ≠ 17 → a_needed i ≠ 0) ∧
    f_brief = br ∧ (br = 0 ∨ br = 1) ∧ f_lines = nI n ∧ yf_lines = nI n
def rn_ST (K : Nat → Nat) (n : Nat) (T : Nat → Nat × Bool × Int32) (br : Int32) (u : SX) (v : SY) : Prop := match u, v with
  | (f_lines, f_studied, f_wrong, f_wrongAt, f_brief, f_on, f_dropped, f_steps, f_nextLine, f_repeats, a_kinds, a_firsts, a_seconds, a_thirds, a_inputs, a_home, a_depth, a_closer, a_mate, a_operands, a_varies, a_parted, a_variableVaries, a_same, a_fixed, a_worth, a_needed, a_variableNeeded, a_values, a_variables, a_outputs, a_cells, a_whole, a_waiting), (yf_lines, yf_known, yf_wrong, yf_place, yf_blocks, yf_steps, yf_dropped, yf_on, yf_next, yf_again, yf_depth, ya_ops, ya_as, ya_bs, ya_cs, ya_blockOf, ya_opener, ya_around, ya_other, ya_end, ya_open, ya_varied, ya_loose, ya_variedVariable, ya_stands, ya_number, ya_isConst, ya_needed, ya_inputs, ya_values, ya_variables, ya_cells, ya_outs, ya_was, ya_rest, ya_line) => rn_stat K n T br f_lines f_brief a_kinds a_firsts a_seconds a_thirds a_inputs a_home a_depth a_closer a_mate a_operands a_same a_fixed a_worth a_needed yf_lines ya_ops ya_as ya_bs ya_cs ya_blockOf ya_opener ya_around ya_other ya_end ya_stands ya_number ya_isConst ya_needed ya_inputs
/-- what the run tells -/
def rn_dyn (u : SX) (v : SY) : Prop := match u, v with
  | (f_lines, f_studied, f_wrong, f_wrongAt, f_brief, f_on, f_dropped, f_steps, f_nextLine, f_repeats, a_kinds, a_firsts, a_seconds, a_thirds, a_inputs, a_home, a_depth, a_closer, a_mate, a_operands, a_varies, a_parted, a_variableVaries, a_same, a_fixed, a_worth, a_needed, a_variableNeeded, a_values, a_variables, a_outputs, a_cells, a_whole, a_waiting), (yf_lines, yf_known, yf_wrong, yf_place, yf_blocks, yf_steps, yf_dropped, yf_on, yf_next, yf_again, yf_depth, ya_ops, ya_as, ya_bs, ya_cs, ya_blockOf, ya_opener, ya_around, ya_other, ya_end, ya_open, ya_varied, ya_loose, ya_variedVariable, ya_stands, ya_number, ya_isConst, ya_needed, ya_inputs, ya_values, ya_variables, ya_cells, ya_outs, ya_was, ya_rest, ya_line) => yf_dropped = f_dropped ∧ (∃ w, w < 16 ∧ f_dropped = nI w) ∧ yf_steps = f_steps ∧ yf_again = f_repeats ∧ (∀ q, q < 192 → a_values q = ya_values q) ∧
    (∀ l, l < 4 → ∀ k, k < 4 → a_variables (l * 4 + k) = ya_variables (4 * k + l)) ∧ (∀ l, l < 4 → ∀ k, k < 4 → a_outputs (l * 4 + k) = ya_outs (4 * k + l)) ∧ (∀ k, k < 4 → a_cells k = ya_cells k)
/-- ahead of line i: both alike, or X stands with none at an END whose part was left out -/
def rn_pos (K : Nat → Nat) (n i : Nat) (u : SX) (v : SY) : Prop := match u, v with
  | (f_lines, f_studied, f_wrong, f_wrongAt, f_brief, f_on, f_dropped, f_steps, f_nextLine, f_repeats, a_kinds, a_firsts, a_seconds, a_thirds, a_inputs, a_home, a_depth, a_closer, a_mate, a_operands, a_varies, a_parted, a_variableVaries, a_same, a_fixed, a_worth, a_needed, a_variableNeeded, a_values, a_variables, a_outputs, a_cells, a_whole, a_waiting), (yf_lines, yf_known, yf_wrong, yf_place, yf_blocks, yf_steps, yf_dropped, yf_on, yf_next, yf_again, yf_depth, ya_ops, ya_as, ya_bs, ya_cs, ya_blockOf, ya_opener, ya_around, ya_other, ya_end, ya_open, ya_varied, ya_loose, ya_variedVariable, ya_stands, ya_number, ya_isConst, ya_needed, ya_inputs, ya_values, ya_variables, ya_cells, ya_outs, ya_was, ya_rest, ya_line) => i ≤ n ∧ yf_next = nI i ∧ yf_depth = nI (sc_fr K i).length ∧ st_R K a_whole ya_was ya_line (sc_fr K i) ∧ (∃ w, w < 16 ∧ f_on = nI w) ∧
    ((yf_on = f_on ∧ (f_on = 0 → sc_fr K i ≠ []) ∧ st_W K a_waiting ya_rest (sc_fr K i)) ∨ (i < n ∧ K i = 21 ∧ f_on = 0 ∧ yf_on ≠ 0 ∧ st_W K a_waiting ya_rest (sc_fr K i).tail))
end
section
variable {K : Nat → Nat} {n : Nat}
/-- structure of a block's end -/
theorem rn_close {b m i : Nat} {r : List (Nat × Nat)} (hg : sc_good K n) (h0 : sc_fr K n = []) (hi : i ≤ n) (e : sc_fr K i = (b, m) :: r) : ∃ q, i ≤ q ∧ q < n ∧ (K q = 20 ∨ K q = 21 ∨ K q = 23) ∧ sc_fr K q = (b, m) :: r ∧ sc_mt K q = m := by
  obtain ⟨q, r', hq, hqn, hc, e'⟩ := sc_ends hg h0 (n - i) i (by omega) (show (b, m) ∈ sc_fr K i by rw [e]; exact List.mem_cons_self ..)
  have T := sc_top i (sc_good_le hg hi) _ _ _ e
  have T' := sc_top q (sc_good_le hg (by omega)) _ _ _ e'
  have : r' = r := by rw [← T.2.2.2.2.2.1, ← T'.2.2.2.2.2.1]
  subst this
  exact ⟨q, hq, hqn, hc, e', by rw [sc_mt_cl hc, e']; rfl⟩
/-- which line that is, by Y's marks -/
theorem rn_closeY {b m i q : Nat} {r : List (Nat × Nat)} {blockOf opener around other end_ : Nat → Int32} (hg : sc_good K n) (hi : i ≤ n) (e : sc_fr K i = (b, m) :: r) (hiq : i ≤ q) (hq : q < n) (hc : K q = 20 ∨ K q = 21 ∨ K q = 23) (eq : sc_fr K q = (b, m) :: r) (em : sc_mt K q = m) (hA : ys_A K n blockOf opener around other end_) :
    (K m = 22 → K q = 23 ∧ end_ m = nI q) ∧ (K m = 19 → b ≠ m + 1 → K q = 21 ∧ end_ m = nI q ∧ other m = nI (b - 1)) ∧ (K m = 19 → b = m + 1 → (K q = 20 ∧ other m = nI q) ∨ (K q = 21 ∧ other m = -1 ∧ end_ m = nI q)) := by
  have T := sc_top i (sc_good_le hg hi) _ _ _ e
  have tb1 := T.1
  have tb2 := T.2.1
  have fq := hg q hq
  have aq := hA q hq
  rw [em] at aq
  have k21 : K q = 21 → K m = 19 := fun h => by
    obtain ⟨b', m', r', e', km⟩ := fq.2.2.1 h
    rw [eq] at e'; simp only [List.cons.injEq, Prod.mk.injEq] at e'
    rw [e'.1.2]; exact km
  have k23 : K q = 23 → K m = 22 := fun h => by
    obtain ⟨b', m', r', e', km⟩ := fq.2.2.2.1 h
    rw [eq] at e'; simp only [List.cons.injEq, Prod.mk.injEq] at e'
    rw [e'.1.2]; exact km
  have k20 : K q = 20 → b = m + 1 ∧ K m = 19 := fun h => by
    obtain ⟨m', r', e', km⟩ := fq.2.1 h
    rw [eq] at e'; simp only [List.cons.injEq, Prod.mk.injEq] at e'
    exact ⟨by rw [e'.1.1, e'.1.2], by rw [e'.1.2]; exact km⟩
  refine ⟨fun h22 => ?_, fun h19 hb => ?_, fun h19 hb => ?_⟩
  · have : K q = 23 := by
      rcases hc with h | h | h
      · have := (k20 h).2; omega
      · have := k21 h; omega
      · exact h
    exact ⟨this, aq.2.2.2.2 (Or.inr this)⟩
  · have : K q = 21 := by
      rcases hc with h | h | h
      · exact absurd (k20 h).1 hb
      · exact h
      · have := k23 h; omega
    refine ⟨this, aq.2.2.2.2 (Or.inl this), ?_⟩
    rcases T.2.2.2.1 with ⟨h, _⟩ | ⟨h, _, _⟩
    · exact absurd h hb
    · have := (hA (b - 1) (by omega)).2.2.1 h
      rw [T.2.2.2.2.2.2.1] at this
      exact this
  · rcases hc with h | h | h
    · exact Or.inl ⟨h, aq.2.2.1 h⟩
    · refine Or.inr ⟨h, (hA m (by have := T.2.2.1; omega)).2.2.2.1 (Or.inl h19) (fun c hcn k20c => ?_), aq.2.2.2.2 (Or.inl h)⟩
      intro emc
      -- an ELSE of m would have closed block m + 1
      obtain ⟨m', r', e', km⟩ := (hg c hcn).2.1 k20c
      have : m' = m := by rw [← emc, sc_mt_cl (Or.inl k20c), e']; rfl
      subst this
      subst hb
      have := sc_uniqE hg hcn hq (b := m' + 1) ⟨Or.inl k20c, _, _, e'⟩ ⟨Or.inr (Or.inl h), _, _, eq⟩
      rw [this] at k20c; omega
    · have := k23 h; omega
end
end
section
section
variable {K : Nat → Nat} {n : Nat} {T : Nat → Nat × Bool × Int32} {br : Int32}
variable {f_lines f_studied f_wrong f_wrongAt f_brief f_on f_dropped f_steps f_nextLine f_repeats : Int32} {a_kinds a_firsts a_seconds a_thirds a_inputs a_home a_depth a_closer a_mate a_operands a_varies a_parted a_variableVaries a_same a_fixed a_worth a_needed a_variableNeeded a_values a_variables a_outputs a_cells a_whole a_waiting : Nat → Int32}
variable {yf_lines yf_known yf_wrong yf_place yf_blocks yf_steps yf_dropped yf_on yf_next yf_again yf_depth : Int32} {ya_ops ya_as ya_bs ya_cs ya_blockOf ya_opener ya_around ya_other ya_end ya_open ya_varied ya_loose ya_variedVariable ya_stands ya_number ya_isConst ya_needed ya_inputs ya_values ya_variables ya_cells ya_outs ya_was ya_rest ya_line : Nat → Int32}
/-- from line i on to the next one that is done -/
def pa_R (br : Int32) (nd : Nat → Int32) (n i at_ : Nat) : Prop := i ≤ at_ ∧ at_ ≤ n ∧ (br = 0 → at_ = i) ∧ (br ≠ 0 → (∀ j, i ≤ j → j < at_ → nd j = 0) ∧ (at_ < n → nd at_ ≠ 0))
/-- the same, also where no lane is on: a function of X's state -/
def pa_q (K : Nat → Nat) (n : Nat) (br : Int32) (nd : Nat → Int32) (on : Int32) (i a : Nat) : Prop :=
  (on = 0 → a < n ∧ (K a = 20 ∨ K a = 21 ∨ K a = 23) ∧ ∃ b m r, sc_fr K i = (b, m) :: r ∧ sc_fr K a = (b, m) :: r) ∧ (on ≠ 0 → pa_R br nd n i a)
theorem pa_uniq {nd : Nat → Int32} {i a b : Nat} (h : pa_R br nd n i a) (h' : pa_R br nd n i b) : a = b := by
  by_cases e : br = 0
  · rw [h.2.2.1 e, h'.2.2.1 e]
  · obtain ⟨p, q⟩ := h.2.2.2 e
    obtain ⟨p', q'⟩ := h'.2.2.2 e
    rcases Nat.lt_trichotomy a b with l | l | l
    · exact absurd (p' a h.1 l) (q (by have := h'.2.1; omega))
    · exact l
    · exact absurd (p b h'.1 l) (q' (by have := h.2.1; omega))
theorem pa_q_uniq {nd : Nat → Int32} {on : Int32} {i a a' : Nat} (hg : sc_good K n) (h : pa_q K n br nd on i a) (h' : pa_q K n br nd on i a') : a = a' := by
  by_cases e : on = 0
  · obtain ⟨ha, hc, b, m, r, e1, e2⟩ := h.1 e
    obtain ⟨ha', hc', b', m', r', e1', e2'⟩ := h'.1 e
    rw [e1'] at e1
    rw [e1] at e2'
    exact sc_uniqE hg ha ha' ⟨hc, _, _, e2⟩ ⟨hc', _, _, e2'⟩
  · exact pa_uniq (h.2 e) (h'.2 e)
theorem pa_fr {nd : Nat → Int32} {i a : Nat} (hnd : ∀ i, i < n → 16 ≤ K i ∧ K i ≠ 17 → nd i ≠ 0) (h : pa_R br nd n i a) : sc_fr K a = sc_fr K i := by
  by_cases e : br = 0
  · rw [h.2.2.1 e]
  · have p := (h.2.2.2 e).1
    obtain ⟨d, rfl⟩ : ∃ d, a = i + d := ⟨a - i, by have := h.1; omega⟩
    have hle := h.2.1
    clear h
    induction d with
    | zero => rfl
    | succ d ih =>
      have z := p (i + d) (by omega) (by omega)
      rw [← Nat.add_assoc, sc_s_plain (fun hk => hnd (i + d) (by omega) (by omega) z)]
      exact ih (fun j h1 h2 => p j h1 (by omega)) (by omega)
theorem rx_85 {post : Int32 → Prop} {J : Int32 → Int32 → Prop} {i t : Nat} (hi : i < 48) (h1 : (f_brief = 0 ∨ a_needed i ≠ 0) → post (nI i)) (h0 : f_brief ≠ 0 → a_needed i = 0 → J (nI (i + 1)) (nI (t + 1))) : wX_nextStep_85 post J (nI i) (nI t) f_lines f_studied f_wrong f_wrongAt f_brief f_on f_dropped f_steps f_nextLine f_repeats a_kinds a_firsts a_seconds a_thirds a_inputs a_home a_depth a_closer a_mate a_operands a_varies a_parted a_variableVaries a_same a_fixed a_worth a_needed a_variableNeeded a_values a_variables a_outputs a_cells a_whole a_waiting := by
  have ci : (nI i).toNatClampNeg = i := nI_clamp (by omega)
  refine br_c (fun hb => h1 (Or.inl hb)) (fun hb => ⟨vp_in_nI hi (by omega), ?_⟩)
  rw [ci]
  exact br_c (fun hz => nm_r (nI_1 i) (nm_r (nI_1 t) (h0 hb hz))) (fun hz => h1 (Or.inr hz))
/-- one round of X's walk to the next step -/
theorem rx_round (hn : n ≤ 48) (hK : ∀ j, j < n → a_kinds j = nI (K j) ∧ K j ≤ 25) {post : Int32 → Prop} {i t d : Nat} (hi : i < n) (ht : t < 48) (h56 : ∀ z0 : Int32, (z0 = 1 ∧ (K i = 20 ∨ K i = 21 ∨ K i = 23) ∨ z0 = 0 ∧ ¬ (K i = 20 ∨ K i = 21 ∨ K i = 23)) → wX_nextStep_56 post (wX_nextStep_4 post (nI n) f_studied f_wrong f_wrongAt f_brief f_on f_dropped f_steps f_nextLine f_repeats a_kinds a_firsts a_seconds a_thirds a_inputs a_home a_depth a_closer a_mate a_operands a_varies a_parted a_variableVaries a_same a_fixed a_worth a_needed a_variableNeeded a_values a_variables a_outputs a_cells a_whole a_waiting d) (nI i) (nI t) z0 (nI n) f_studied f_wrong f_wrongAt f_brief f_on f_dropped f_steps f_nextLine f_repeats a_kinds a_firsts a_seconds a_thirds a_inputs a_home a_depth a_closer a_mate a_operands a_varies a_parted a_variableVaries a_same a_fixed a_worth a_needed a_variableNeeded a_values a_variables a_outputs a_cells a_whole a_waiting) : wX_nextStep_4 post (nI n) f_studied f_wrong f_wrongAt f_brief f_on f_dropped f_steps f_nextLine f_repeats a_kinds a_firsts a_seconds a_thirds a_inputs a_home a_depth a_closer a_mate a_operands a_varies a_parted a_variableVaries a_same a_fixed a_worth a_needed a_variableNeeded a_values a_variables a_outputs a_cells a_whole a_waiting (d + 1) (nI i) (nI t) := by
  have ci : (nI i).toNatClampNeg = i := nI_clamp (by omega)
  have ii : vp_in (nI i) 48 := vp_in_nI (by omega) (by omega)
  have ki := hK i hi
  refine br_f (nI_ge (b := 48) ht (by decide)) (br_f (nI_ge hi (by omega)) ⟨ii, ?_⟩)
  rw [ci, ki.1]
  exact pk_eq (K i) 20 (fun h => h56 1 (Or.inl ⟨rfl, by omega⟩)) (fun n20 => ⟨ii, pk_eq (K i) 21 (fun h => h56 1 (Or.inl ⟨rfl, by omega⟩)) (fun n21 => ⟨ii, pk_eq (K i) 23 (fun h => h56 1 (Or.inl ⟨rfl, by omega⟩)) (fun n23 => h56 0 (Or.inr ⟨rfl, by omega⟩))⟩)⟩)
theorem rx_on (hn : n ≤ 48) (hK : ∀ j, j < n → a_kinds j = nI (K j) ∧ K j ≤ 25) (hon : f_on ≠ 0) {post : Int32 → Prop} : ∀ d i t : Nat, i + d = n → t + n ≤ 48 + i → (∀ a, pa_R f_brief a_needed n i a → post (nI a)) → wX_nextStep_4 post (nI n) f_studied f_wrong f_wrongAt f_brief f_on f_dropped f_steps f_nextLine f_repeats a_kinds a_firsts a_seconds a_thirds a_inputs a_home a_depth a_closer a_mate a_operands a_varies a_parted a_variableVaries a_same a_fixed a_worth a_needed a_variableNeeded a_values a_variables a_outputs a_cells a_whole a_waiting (d + 1) (nI i) (nI t) := by
  intro d
  induction d with
  | zero =>
    intro i t hi ht h
    cases (show i = n by omega)
    have := h n ⟨Nat.le_refl _, Nat.le_refl _, fun _ => rfl, fun _ => ⟨fun j a b => by omega, fun a => by omega⟩⟩
    exact br_c (fun _ => this) (fun _ => br_t (nI_le (Nat.le_refl _) (by omega)) this)
  | succ d ih =>
    intro i t hi ht h
    refine rx_round hn hK (by omega) (by omega) (fun z0 hz => br_f hon (rx_85 (by omega) (fun h' => h i ⟨Nat.le_refl _, by omega, fun _ => rfl, fun hb => ⟨fun j a b => by omega, fun _ => h'.resolve_left hb⟩⟩) (fun hb hz' => ih (i + 1) (t + 1) (by omega) (by omega) (fun a ha => h a ?_))))
    obtain ⟨a1, a2, a3, a4⟩ := ha
    refine ⟨by omega, a2, fun hb' => absurd hb' hb, fun hb' => ⟨fun j h1 h2 => ?_, (a4 hb').2⟩⟩
    by_cases e : j = i
    · rw [e]; exact hz'
    · exact (a4 hb').1 j (by omega) h2
/-- X's way to the end of the part -/
theorem rx_off (hn : n ≤ 48) (hK : ∀ j, j < n → a_kinds j = nI (K j) ∧ K j ≤ 25) (hg : sc_good K n) (h0 : sc_fr K n = []) (hA : ∀ j, j < n → a_home j = nI (sc_hd (sc_lf K j)) ∧ ((K j = 20 ∨ K j = 21 ∨ K j = 23) → a_closer (sc_hd (sc_fr K j)) = nI j)) (hnd : ∀ i, i < n → 16 ≤ K i ∧ K i ≠ 17 → a_needed i ≠ 0) (hon : f_on = 0) {post : Int32 → Prop} {i q b m : Nat} {r : List (Nat × Nat)} (hi : i < n) (e : sc_fr K i = (b, m) :: r) (hiq : i ≤ q) (hq : q < n) (hc : K q = 20 ∨ K q = 21 ∨ K q = 23) (eq : sc_fr K q = (b, m) :: r) (h : post (nI q)) : wpX_nextStep post (nI n, f_studied, f_wrong, f_wrongAt, f_brief, f_on, f_dropped, f_steps, f_nextLine, f_repeats, a_kinds, a_firsts, a_seconds, a_thirds, a_inputs, a_home, a_depth, a_closer, a_mate, a_operands, a_varies, a_parted, a_variableVaries, a_same, a_fixed, a_worth, a_needed, a_variableNeeded, a_values, a_variables, a_outputs, a_cells, a_whole, a_waiting) (nI i) := by
  have T := sc_top i (sc_good_le hg (by omega)) _ _ _ e
  have tb2 := T.2.1
  have at_q : ∀ (t d : Nat), t < 48 → wX_nextStep_4 post (nI n) f_studied f_wrong f_wrongAt f_brief f_on f_dropped f_steps f_nextLine f_repeats a_kinds a_firsts a_seconds a_thirds a_inputs a_home a_depth a_closer a_mate a_operands a_varies a_parted a_variableVaries a_same a_fixed a_worth a_needed a_variableNeeded a_values a_variables a_outputs a_cells a_whole a_waiting (d + 1) (nI q) (nI t) := by
    intro t d ht
    refine rx_round hn hK hq ht (fun z0 hz => ?_)
    rcases hz with ⟨rfl, _⟩ | ⟨_, hz⟩
    · exact br_t hon (br_f (by decide) (rx_85 (by omega) (fun _ => h) (fun _ hz => absurd hz (hnd q hq (by omega)))))
    · exact absurd hc hz
  by_cases hci : K i = 20 ∨ K i = 21 ∨ K i = 23
  · have : i = q := sc_uniqE hg hi hq (b := b) ⟨hci, _, _, e⟩ ⟨hc, _, _, eq⟩
    subst this
    exact ⟨1, at_q 0 0 (by omega)⟩
  · refine ⟨2, rx_round (t := 0) hn hK hi (by omega) (fun z0 hz => ?_)⟩
    rcases hz with ⟨_, hz⟩ | ⟨rfl, _⟩
    · exact absurd hz hci
    · have hh := (hA i hi).1
      rw [sc_lf_n hci, e, sc_hd_cons] at hh
      have hcl := (hA q hq).2 hc
      rw [eq, sc_hd_cons] at hcl
      refine br_t hon (br_t rfl ⟨vp_in_nI (by omega) (by omega), ?_⟩)
      rw [nI_clamp (show i < 2 ^ 31 by omega), hh, nI_clamp (by omega), hcl]
      exact ⟨vp_in_nI (by omega) (by omega), nm_e (nm_r (nI_1 0) (at_q 1 0 (by omega)))⟩
/-- Y's way past what is not done -/
theorem ry_15 (hn : n ≤ 48) (hK : ∀ j, j < n → ya_ops j = nI (K j) ∧ K j ≤ 25) (hR : sh_R T n ya_stands ya_isConst ya_number) (hg : ∀ j, j < n → sh_good T j) (hc10 : ∀ j, j < n → (T j).2.1 = true → K j ≤ 16) {nd : Nat → Int32} (hnd : ∀ i, i < n → (nd i ≠ 0 ↔ ya_needed i ≠ 0 ∧ (T i).2.1 = false)) (hself : ∀ i, i < n → nd i ≠ 0 → (T i).1 = i) {post : SY → Prop} :
    ∀ d i : Nat, i + d = n → (∀ a, pa_R br nd n i a → post (nI n, yf_known, yf_wrong, yf_place, yf_blocks, yf_steps, yf_dropped, yf_on, nI a, yf_again, yf_depth, ya_ops, ya_as, ya_bs, ya_cs, ya_blockOf, ya_opener, ya_around, ya_other, ya_end, ya_open, ya_varied, ya_loose, ya_variedVariable, ya_stands, ya_number, ya_isConst, ya_needed, ya_inputs, ya_values, ya_variables, ya_cells, ya_outs, ya_was, ya_rest, ya_line)) → wY_pass_15 post br (nI n) yf_known yf_wrong yf_place yf_blocks yf_steps yf_dropped yf_on yf_again yf_depth ya_ops ya_as ya_bs ya_cs ya_blockOf ya_opener ya_around ya_other ya_end ya_open ya_varied ya_loose ya_variedVariable ya_stands ya_number ya_isConst ya_needed ya_inputs ya_values ya_variables ya_cells ya_outs ya_was ya_rest ya_line (d + 1) (nI i) := by
  intro d
  induction d with
  | zero =>
    intro i hi h
    cases (show i = n by omega)
    exact br_t (nI_le (Nat.le_refl _) (by omega)) (h n ⟨Nat.le_refl _, Nat.le_refl _, fun _ => rfl, fun _ => ⟨fun j a b => by omega, fun a => by omega⟩⟩)
  | succ d ih =>
    intro i hi h
    have ci : (nI i).toNatClampNeg = i := nI_clamp (by omega)
    have ii : vp_in (nI i) 48 := vp_in_nI (by omega) (by omega)
    have ki := hK i (by omega)
    obtain ⟨r1, r2, r3⟩ := hR i (by omega)
    have gi := hg i (by omega)
    have next : br ≠ 0 → nd i = 0 → wY_pass_15 post br (nI n) yf_known yf_wrong yf_place yf_blocks yf_steps yf_dropped yf_on yf_again yf_depth ya_ops ya_as ya_bs ya_cs ya_blockOf ya_opener ya_around ya_other ya_end ya_open ya_varied ya_loose ya_variedVariable ya_stands ya_number ya_isConst ya_needed ya_inputs ya_values ya_variables ya_cells ya_outs ya_was ya_rest ya_line (d + 1) (nI (i + 1)) := fun hb hz =>
      ih (i + 1) (by omega) (fun a ha => h a (by
        obtain ⟨a1, a2, a3, a4⟩ := ha
        refine ⟨by omega, a2, fun hb' => absurd hb' hb, fun hb' => ⟨fun j h1 h2 => ?_, (a4 hb').2⟩⟩
        by_cases e : j = i
        · rw [e]; exact hz
        · exact (a4 hb').1 j (by omega) h2))
    have zero : ¬ nd i ≠ 0 → nd i = 0 := fun hh => Classical.byContradiction hh
    refine br_f (nI_ge (by omega) (by omega)) (br_c (fun hb => h i ⟨Nat.le_refl _, by omega, fun _ => rfl, fun hb' => absurd hb hb'⟩) (fun hb => ⟨ii, ?_⟩))
    have t57 : (T i).2.1 = false → wY_pass_57 post (wY_pass_15 post br (nI n) yf_known yf_wrong yf_place yf_blocks yf_steps yf_dropped yf_on yf_again yf_depth ya_ops ya_as ya_bs ya_cs ya_blockOf ya_opener ya_around ya_other ya_end ya_open ya_varied ya_loose ya_variedVariable ya_stands ya_number ya_isConst ya_needed ya_inputs ya_values ya_variables ya_cells ya_outs ya_was ya_rest ya_line (d + 1)) br (nI n) yf_known yf_wrong yf_place yf_blocks yf_steps yf_dropped yf_on (nI i) yf_again yf_depth ya_ops ya_as ya_bs ya_cs ya_blockOf ya_opener ya_around ya_other ya_end ya_open ya_varied ya_loose ya_variedVariable ya_stands ya_number ya_isConst ya_needed ya_inputs ya_values ya_variables ya_cells ya_outs ya_was ya_rest ya_line := by
      intro hf
      refine ⟨ii, ?_⟩
      rw [ci, r1]
      refine pk_eq (T i).1 i (fun e => ⟨ii, br_c (fun hz => nm_r (nI_1 i) (next hb (zero (fun h' => ((hnd i (by omega)).mp h').1 hz)))) (fun hz => h i ⟨Nat.le_refl _, by omega, fun _ => rfl, fun _ => ⟨fun j a b => by omega, fun _ => (hnd i (by omega)).mpr ⟨hz, hf⟩⟩⟩)⟩) (fun e => nm_r (nI_1 i) (next hb (zero (fun h' => e (hself i (by omega) h'))))) (ha := by have := gi.1; omega)
    rw [ci, r2, ki.1]
    refine br_c (fun hz => t57 (sh_bI_0 hz)) (fun hz => ⟨ii, ?_⟩)
    have ht := sh_bI_n hz
    exact ys_gives ki.2 (fun h16 => br_f (by decide) (nm_r (nI_1 i) (next hb (zero (fun h' => by have := ((hnd i (by omega)).mp h').2; rw [ht] at this; cases this))))) (fun h16 => absurd (hc10 i (by omega) ht) h16)
/-- Y's end of the part -/
theorem ry_partEnd (hn : n ≤ 48) (hK : ∀ j, j < n → ya_ops j = nI (K j) ∧ K j ≤ 25) (hg : sc_good K n) (hA : ys_A K n ya_blockOf ya_opener ya_around ya_other ya_end) {post : Int32 → Prop} {i q b m : Nat} {r : List (Nat × Nat)} (hi : i ≤ n) (e : sc_fr K i = (b, m) :: r) (hiq : i ≤ q) (hq : q < n) (hc : K q = 20 ∨ K q = 21 ∨ K q = 23) (eq : sc_fr K q = (b, m) :: r) (em : sc_mt K q = m) (hln : ya_line r.length = nI m) (hrs : K m = 19 → b = m + 1 → ¬ ya_rest r.length < 0) (h : post (nI q)) : wpY_partEnd post (yf_lines, yf_known, yf_wrong, yf_place, yf_blocks, yf_steps, yf_dropped, yf_on, nI i, yf_again, nI ((b, m) :: r).length, ya_ops, ya_as, ya_bs, ya_cs, ya_blockOf, ya_opener, ya_around, ya_other, ya_end, ya_open, ya_varied, ya_loose, ya_variedVariable, ya_stands, ya_number, ya_isConst, ya_needed, ya_inputs, ya_values, ya_variables, ya_cells, ya_outs, ya_was, ya_rest, ya_line) := by
  have T := sc_top i (sc_good_le hg (by omega)) _ _ _ e
  have tb1 := T.1
  have tb2 := T.2.1
  have tm := T.2.2.1
  have len := sc_len i (sc_good_le hg (by omega))
  rw [e] at len
  simp only [List.length_cons] at len
  have ed : nI ((b, m) :: r).length - 1 = nI r.length := nI_pred _
  have cd : (nI ((b, m) :: r).length - 1).toNatClampNeg = r.length := by rw [ed, nI_clamp (by omega)]
  have id_ : vp_in (nI ((b, m) :: r).length - 1) 4 := by rw [ed]; exact vp_in_nI (by omega) (by omega)
  have cm : (nI m).toNatClampNeg = m := nI_clamp (by omega)
  have im : vp_in (nI m) 48 := vp_in_nI (by omega) (by omega)
  have km := hK m (by omega)
  obtain ⟨c1, c2, c3⟩ := rn_closeY hg hi e hiq hq hc eq em hA
  have mk : K m = 19 ∨ K m = 22 := by
    rcases T.2.2.2.1 with ⟨_, h⟩ | ⟨_, h, _⟩
    · exact h
    · exact Or.inl h
  refine ⟨id_, nm_c cd hln ⟨im, ?_⟩⟩
  rw [cm, km.1, cd]
  refine pk_eq (K m) 19 (fun h19 => ⟨im, ?_⟩) (fun h19 => ⟨im, ?_⟩)
  · have ei : nI i - 1 = nI (i - 1) := nb_m1 (by omega)
    rw [ei]
    by_cases hb : b = m + 1
    · rcases c3 h19 hb with ⟨k20, eo⟩ | ⟨k21, eo, ee⟩
      · rw [eo]
        exact pk_le q (i - 1) (fun hle => absurd hle (by omega)) (fun _ => ⟨id_, br_f (hrs h19 hb) ⟨im, h⟩⟩)
      · rw [eo, ee]
        refine br_t ?_ ⟨im, h⟩
        exact Int32.le_trans (by decide) (nI_pos' (n := i - 1) (by omega))
    · obtain ⟨k21, ee, eo⟩ := c2 h19 hb
      rw [eo, ee]
      exact pk_le (b - 1) (i - 1) (fun _ => ⟨im, h⟩) (fun hle => absurd hle (by omega))
  · obtain ⟨_, ee⟩ := c1 (by omega)
    rw [ee]; exact h
end
end
section
section
variable {K : Nat → Nat} {n : Nat} {T : Nat → Nat × Bool × Int32} {br : Int32}
variable {f_lines f_studied f_wrong f_wrongAt f_brief f_on f_dropped f_steps f_nextLine f_repeats : Int32} {a_kinds a_firsts a_seconds a_thirds a_inputs a_home a_depth a_closer a_mate a_operands a_varies a_parted a_variableVaries a_same a_fixed a_worth a_needed a_variableNeeded a_values a_variables a_outputs a_cells a_whole a_waiting : Nat → Int32}
variable {yf_lines yf_known yf_wrong yf_place yf_blocks yf_steps yf_dropped yf_on yf_next yf_again yf_depth : Int32} {ya_ops ya_as ya_bs ya_cs ya_blockOf ya_opener ya_around ya_other ya_end ya_open ya_varied ya_loose ya_variedVariable ya_stands ya_number ya_isConst ya_needed ya_inputs ya_values ya_variables ya_cells ya_outs ya_was ya_rest ya_line : Nat → Int32}
theorem pa_ex {nd : Nat → Int32} : ∀ d i : Nat, i + d = n → ∃ a, pa_R br nd n i a := by
  intro d
  induction d with
  | zero => intro i hi; exact ⟨i, Nat.le_refl _, by omega, fun _ => rfl, fun _ => ⟨fun j a b => by omega, fun a => by omega⟩⟩
  | succ d ih =>
    intro i hi
    by_cases hb : br = 0
    · exact ⟨i, Nat.le_refl _, by omega, fun _ => rfl, fun h => absurd hb h⟩
    · by_cases hz : nd i = 0
      · obtain ⟨a, a1, a2, a3, a4⟩ := ih (i + 1) (by omega)
        refine ⟨a, by omega, a2, fun h => absurd h hb, fun h => ⟨fun j h1 h2 => ?_, (a4 h).2⟩⟩
        by_cases e : j = i
        · rw [e]; exact hz
        · exact (a4 h).1 j (by omega) h2
      · exact ⟨i, Nat.le_refl _, by omega, fun _ => rfl, fun _ => ⟨fun j a b => by omega, fun _ => hz⟩⟩
theorem rn_pass {i : Nat} (hS : rn_stat K n T br f_lines f_brief a_kinds a_firsts a_seconds a_thirds a_inputs a_home a_depth a_closer a_mate a_operands a_same a_fixed a_worth a_needed yf_lines ya_ops ya_as ya_bs ya_cs ya_blockOf ya_opener ya_around ya_other ya_end ya_stands ya_number ya_isConst ya_needed ya_inputs) (hp : rn_pos K n i (f_lines, f_studied, f_wrong, f_wrongAt, f_brief, f_on, f_dropped, f_steps, f_nextLine, f_repeats, a_kinds, a_firsts, a_seconds, a_thirds, a_inputs, a_home, a_depth, a_closer, a_mate, a_operands, a_varies, a_parted, a_variableVaries, a_same, a_fixed, a_worth, a_needed, a_variableNeeded, a_values, a_variables, a_outputs, a_cells, a_whole, a_waiting) (yf_lines, yf_known, yf_wrong, yf_place, yf_blocks, yf_steps, yf_dropped, yf_on, yf_next, yf_again, yf_depth, ya_ops, ya_as, ya_bs, ya_cs, ya_blockOf, ya_opener, ya_around, ya_other, ya_end, ya_open, ya_varied, ya_loose, ya_variedVariable, ya_stands, ya_number, ya_isConst, ya_needed, ya_inputs, ya_values, ya_variables, ya_cells, ya_outs, ya_was, ya_rest, ya_line)) : ∃ a, rn_pos K n a (f_lines, f_studied, f_wrong, f_wrongAt, f_brief, f_on, f_dropped, f_steps, f_nextLine, f_repeats, a_kinds, a_firsts, a_seconds, a_thirds, a_inputs, a_home, a_depth, a_closer, a_mate, a_operands, a_varies, a_parted, a_variableVaries, a_same, a_fixed, a_worth, a_needed, a_variableNeeded, a_values, a_variables, a_outputs, a_cells, a_whole, a_waiting) (yf_lines, yf_known, yf_wrong, yf_place, yf_blocks, yf_steps, yf_dropped, yf_on, nI a, yf_again, yf_depth, ya_ops, ya_as, ya_bs, ya_cs, ya_blockOf, ya_opener, ya_around, ya_other, ya_end, ya_open, ya_varied, ya_loose, ya_variedVariable, ya_stands, ya_number, ya_isConst, ya_needed, ya_inputs, ya_values, ya_variables, ya_cells, ya_outs, ya_was, ya_rest, ya_line) ∧ pa_q K n br a_needed f_on i a ∧ (a < n → f_on ≠ 0 ∨ (K a = 20 ∨ K a = 21 ∨ K a = 23)) ∧ (∀ post : Int32 → Prop, post (nI a) → wpX_nextStep post (f_lines, f_studied, f_wrong, f_wrongAt, f_brief, f_on, f_dropped, f_steps, f_nextLine, f_repeats, a_kinds, a_firsts, a_seconds, a_thirds, a_inputs, a_home, a_depth, a_closer, a_mate, a_operands, a_varies, a_parted, a_variableVaries, a_same, a_fixed, a_worth, a_needed, a_variableNeeded, a_values, a_variables, a_outputs, a_cells, a_whole, a_waiting) (nI i)) ∧ (∀ post : SY → Prop, post (yf_lines, yf_known, yf_wrong, yf_place, yf_blocks, yf_steps, yf_dropped, yf_on, nI a, yf_again, yf_depth, ya_ops, ya_as, ya_bs, ya_cs, ya_blockOf, ya_opener, ya_around, ya_other, ya_end, ya_open, ya_varied, ya_loose, ya_variedVariable, ya_stands, ya_number, ya_isConst, ya_needed, ya_inputs, ya_values, ya_variables, ya_cells, ya_outs, ya_was, ya_rest, ya_line) → wpY_pass post (yf_lines, yf_known, yf_wrong, yf_place, yf_blocks, yf_steps, yf_dropped, yf_on, yf_next, yf_again, yf_depth, ya_ops, ya_as, ya_bs, ya_cs, ya_blockOf, ya_opener, ya_around, ya_other, ya_end, ya_open, ya_varied, ya_loose, ya_variedVariable, ya_stands, ya_number, ya_isConst, ya_needed, ya_inputs, ya_values, ya_variables, ya_cells, ya_outs, ya_was, ya_rest, ya_line) br) := by
  obtain ⟨hW, hok, hfr, hA, hc0, hB, ⟨e1, e2, e3, e4, e5⟩, ⟨hR, hR', hgT, hc10⟩, hnd, hself, hini, eb, hbr, el, el'⟩ := hS
  obtain ⟨hin, en, ed, hst, ⟨w, hw, eon⟩, hmode⟩ := hp
  subst e1 e2 e3 e4 e5 eb el el' en ed
  have hn := hW.1
  have hK := hW.2.1
  have hg := sc_ok_good hok
  have hselfpa : ∀ q, q < n → (K q = 20 ∨ K q = 21 ∨ K q = 23) → pa_R f_brief a_needed n q q := fun q hq hc => ⟨Nat.le_refl _, by omega, fun _ => rfl, fun _ => ⟨fun j a b => by omega, fun _ => hini q hq (by omega)⟩⟩
  have y15 : ∀ (post : SY → Prop) (q a : Nat), q ≤ n → pa_R f_brief a_needed n q a → post (nI n, yf_known, yf_wrong, yf_place, yf_blocks, yf_steps, yf_dropped, yf_on, nI a, yf_again, nI (sc_fr K i).length, ya_ops, ya_as, ya_bs, ya_cs, ya_blockOf, ya_opener, ya_around, ya_other, ya_end, ya_open, ya_varied, ya_loose, ya_variedVariable, ya_stands, ya_number, ya_isConst, ya_needed, ya_inputs, ya_values, ya_variables, ya_cells, ya_outs, ya_was, ya_rest, ya_line) → ∃ m, wY_pass_15 post f_brief (nI n) yf_known yf_wrong yf_place yf_blocks yf_steps yf_dropped yf_on yf_again (nI (sc_fr K i).length) ya_ops ya_as ya_bs ya_cs ya_blockOf ya_opener ya_around ya_other ya_end ya_open ya_varied ya_loose ya_variedVariable ya_stands ya_number ya_isConst ya_needed ya_inputs ya_values ya_variables ya_cells ya_outs ya_was ya_rest ya_line m (nI q) := fun post q a hq ha hpost =>
    ⟨n - q + 1, ry_15 (K := K) (n := n) (T := T) (nd := a_needed) hn hK hR' hgT hc10 hnd hself (n - q) q (by omega) (fun a' ha' => by rw [pa_uniq ha' ha]; exact hpost)⟩
  rcases hmode with ⟨ey, hne, hsw⟩ | ⟨hi, k21, ez, hyn, hsw⟩
  · subst ey
    by_cases hz : yf_on = 0
    · cases e : sc_fr K i with
      | nil => exact absurd e (hne hz)
      | cons f r =>
        obtain ⟨b, m⟩ := f
        have hilt : i < n := by
          rcases Nat.lt_or_ge i n with l | l
          · exact l
          · have : i = n := by omega
            rw [this, hfr] at e; cases e
        obtain ⟨q, hiq, hq, hc, eq, em⟩ := rn_close hg hfr hin e
        rw [e] at hst hsw y15
        obtain ⟨s1, s2, s3, s4, s5, s6⟩ := hst
        refine ⟨q, ⟨by omega, rfl, by rw [eq], by rw [eq]; exact ⟨s1, s2, s3, s4, s5, s6⟩, ⟨w, hw, eon⟩, Or.inl ⟨rfl, fun _ => by rw [eq]; simp, by rw [eq]; exact hsw⟩⟩, ⟨fun _ => ⟨hq, hc, b, m, r, e, eq⟩, fun h => absurd hz h⟩, fun _ => Or.inr hc, fun post hpost => ?_, fun post hpost => br_t hz ?_⟩
        · exact rx_off (K := K) (n := n) hn hK hg hfr (fun j hj => ⟨(hA j hj).1, (hA j hj).2.2.2.1⟩) hini hz hilt e hiq hq hc eq hpost
        · refine ry_partEnd (K := K) (n := n) hn hK hg hB hin e hiq hq hc eq em s1 (fun h19 hb => ?_) (y15 post q q (by omega) (hselfpa q hq hc) hpost)
          obtain ⟨r1, w', hw', ew'⟩ := hsw.1 h19 hb
          rw [r1, ew']; exact mk_pos w' hw'
    · obtain ⟨a, ha⟩ := pa_ex (br := f_brief) (nd := a_needed) (n := n) (n - i) i (by omega)
      have ef := pa_fr (K := K) hini ha
      refine ⟨a, ⟨ha.2.1, rfl, by rw [ef], by rw [ef]; exact hst, ⟨w, hw, eon⟩, Or.inl ⟨rfl, fun h => absurd h hz, by rw [ef]; exact hsw⟩⟩, ⟨fun h => absurd h hz, fun _ => ha⟩, fun _ => Or.inl hz, fun post hpost => ⟨n - i + 1, ?_⟩, fun post hpost => br_f hz (y15 post i a hin ha hpost)⟩
      exact rx_on (K := K) (n := n) hn hK hz (n - i) i 0 (by omega) (by omega) (fun a' ha' => by rw [pa_uniq ha' ha]; exact hpost)
  · obtain ⟨b, m, r, e, km⟩ := (hg i hi).2.2.1 k21
    refine ⟨i, ⟨by omega, rfl, rfl, hst, ⟨w, hw, eon⟩, Or.inr ⟨hi, k21, ez, hyn, hsw⟩⟩, ⟨fun _ => ⟨hi, by omega, b, m, r, e, e⟩, fun h => absurd ez h⟩, fun _ => Or.inr (by omega), fun post hpost => ?_, fun post hpost => br_f hyn (y15 post i i hin (hselfpa i hi (by omega)) hpost)⟩
    exact rx_off (K := K) (n := n) hn hK hg hfr (fun j hj => ⟨(hA j hj).1, (hA j hj).2.2.2.1⟩) hini ez hi e (Nat.le_refl _) hi (by omega) e hpost
end
end
section
section
/-- an operand's value for a lane -/
def rv (br : Int32) (T : Nat → Nat × Bool × Int32) (vals : Nat → Int32) (o l : Nat) : Int32 := if br = 0 then vals (4 * o + l) else if (T o).2.1 = true then (T o).2.2 else vals (4 * (T o).1 + l)
theorem rv_eq {br : Int32} {T : Nat → Nat × Bool × Int32} {v v' : Nat → Int32} {o l : Nat} (hg : (T o).1 ≤ o) (h : ∀ q, q ≤ 4 * o + l → v q = v' q) : rv br T v o l = rv br T v' o l := by
  unfold rv
  rw [h (4 * o + l) (Nat.le_refl _), h (4 * (T o).1 + l) (by omega)]
theorem e_43 {o l : Nat} : nI o * 4 + nI l = nI (4 * o + l) := by
  rw [show (4 : Int32) = nI 4 from rfl, pk_mul, nI_add, Nat.mul_comm]
theorem e_44 {o l : Nat} : 4 * nI o + nI l = nI (4 * o + l) := by
  rw [show (4 : Int32) = nI 4 from rfl, pk_mul, nI_add]
end
section
variable {K : Nat → Nat} {n : Nat} {T : Nat → Nat × Bool × Int32}
variable {f_lines f_studied f_wrong f_wrongAt f_brief f_on f_dropped f_steps f_nextLine f_repeats : Int32} {a_kinds a_firsts a_seconds a_thirds a_inputs a_home a_depth a_closer a_mate a_operands a_varies a_parted a_variableVaries a_same a_fixed a_worth a_needed a_variableNeeded a_values a_variables a_outputs a_cells a_whole a_waiting : Nat → Int32}
theorem rx_read (hP : xv_P K n a_kinds a_firsts a_seconds a_thirds a_home a_mate a_operands) (hR : sh_R T n a_same a_fixed a_worth) (hgT : ∀ j, j < n → sh_good T j) {post : Int32 → Prop} {i s l : Nat} (hi : i < n) (hs : s < 3) (hl : l < 4) (h1 : sc_us (K i) s → post (rv f_brief T a_values (sh_o a_firsts a_seconds a_thirds s i) l)) (h0 : ¬ sc_us (K i) s → post 0) : wpX_read post (f_lines, f_studied, f_wrong, f_wrongAt, f_brief, f_on, f_dropped, f_steps, f_nextLine, f_repeats, a_kinds, a_firsts, a_seconds, a_thirds, a_inputs, a_home, a_depth, a_closer, a_mate, a_operands, a_varies, a_parted, a_variableVaries, a_same, a_fixed, a_worth, a_needed, a_variableNeeded, a_values, a_variables, a_outputs, a_cells, a_whole, a_waiting) (nI i) (nI s) (nI l) := by
  obtain ⟨hn, hK, hgd, h4, hok, hH, hO⟩ := hP
  have ea : nI i * 3 + nI s = nI (3 * i + s) := nb_34
  have ca : (nI i * 3 + nI s).toNatClampNeg = 3 * i + s := by rw [ea, nI_clamp (by omega)]
  refine ⟨by rw [ea]; exact vp_in_nI (by omega) (by omega), ?_⟩
  rw [ca]
  by_cases hu : sc_us (K i) s
  · obtain ⟨o, eo, _⟩ := sh_ov_lt (by omega) (hok i hi s hs hu)
    rw [(hO i hi s hs).1 hu, eo]
    have h1' := h1 hu
    generalize sh_o a_firsts a_seconds a_thirds s i = x at *
    have g := hgT x (by omega)
    have gle := g.1
    obtain ⟨r1, r2, r3⟩ := hR x (by omega)
    have cx : (nI x).toNatClampNeg = x := nI_clamp (by omega)
    have ix : vp_in (nI x) 48 := vp_in_nI (by omega) (by omega)
    have t64 : ∀ z : Nat, z < 48 → post (a_values (4 * z + l)) → wX_read_64 post (nI l) (nI z) f_lines f_studied f_wrong f_wrongAt f_brief f_on f_dropped f_steps f_nextLine f_repeats a_kinds a_firsts a_seconds a_thirds a_inputs a_home a_depth a_closer a_mate a_operands a_varies a_parted a_variableVaries a_same a_fixed a_worth a_needed a_variableNeeded a_values a_variables a_outputs a_cells a_whole a_waiting := fun z hz hp => by
      refine ⟨by rw [e_43]; exact vp_in_nI (by omega) (by omega), ?_⟩
      rw [e_43, nI_clamp (by omega)]; exact hp
    refine nm_e (br_f (nI_m1ne (by omega)) ?_)
    unfold rv at h1'
    refine br_c (fun hb => br_t hb (t64 x (by omega) ?_)) (fun hb => ⟨ix, ?_⟩)
    · rw [if_pos hb] at h1'; exact h1'
    · rw [if_neg hb] at h1'
      rw [cx, r2, r3]
      refine br_c (fun hf => br_f hb ⟨ix, ?_⟩) (fun hf => ⟨ix, ?_⟩)
      · rw [cx, r1]
        refine t64 _ (by omega) ?_
        rw [if_neg (by rw [sh_bI_0 hf]; decide)] at h1'; exact h1'
      · rw [if_pos (sh_bI_n hf)] at h1'; exact h1'
  · rw [(hO i hi s hs).2 hu]
    exact nm_e (br_t rfl (h0 hu))
theorem rx_isOn {post : Int32 → Prop} {w l : Nat} (hw : w < 16) (hl : l < 4) (eon : f_on = nI w) (h1 : w.testBit l = true → post 1) (h0 : w.testBit l = false → post 0) : wpX_isOn post (f_lines, f_studied, f_wrong, f_wrongAt, f_brief, f_on, f_dropped, f_steps, f_nextLine, f_repeats, a_kinds, a_firsts, a_seconds, a_thirds, a_inputs, a_home, a_depth, a_closer, a_mate, a_operands, a_varies, a_parted, a_variableVaries, a_same, a_fixed, a_worth, a_needed, a_variableNeeded, a_values, a_variables, a_outputs, a_cells, a_whole, a_waiting) (nI l) := by
  subst eon
  refine br_c (fun h => h0 ((mk_bit w hw l hl).1.mp h)) (fun h => h1 ?_)
  cases e : w.testBit l with
  | true => rfl
  | false => exact absurd ((mk_bit w hw l hl).1.mpr e) h
theorem rx_isDropped {post : Int32 → Prop} {w l : Nat} (hw : w < 16) (hl : l < 4) (eon : f_dropped = nI w) (h1 : w.testBit l = true → post 1) (h0 : w.testBit l = false → post 0) : wpX_isDropped post (f_lines, f_studied, f_wrong, f_wrongAt, f_brief, f_on, f_dropped, f_steps, f_nextLine, f_repeats, a_kinds, a_firsts, a_seconds, a_thirds, a_inputs, a_home, a_depth, a_closer, a_mate, a_operands, a_varies, a_parted, a_variableVaries, a_same, a_fixed, a_worth, a_needed, a_variableNeeded, a_values, a_variables, a_outputs, a_cells, a_whole, a_waiting) (nI l) := by
  subst eon
  refine br_c (fun h => h0 ((mk_bit w hw l hl).1.mp h)) (fun h => h1 ?_)
  cases e : w.testBit l with
  | true => rfl
  | false => exact absurd ((mk_bit w hw l hl).1.mpr e) h
end
section
variable {K : Nat → Nat} {n : Nat} {T : Nat → Nat × Bool × Int32} {br : Int32}
variable {f_lines f_known f_wrong f_place f_blocks f_steps f_dropped f_on f_next f_again f_depth : Int32} {a_ops a_as a_bs a_cs a_blockOf a_opener a_around a_other a_end a_open a_varied a_loose a_variedVariable a_stands a_number a_isConst a_needed a_inputs a_values a_variables a_cells a_outs a_was a_rest a_line : Nat → Int32}
theorem ry_value (hn : n ≤ 48) (hR : sh_R T n a_stands a_isConst a_number) (hgT : ∀ j, j < n → sh_good T j) {post : Int32 → Prop} {o l : Nat} (ho : o < n) (hl : l < 4) (h : post (rv br T a_values o l)) : wpY_value post (f_lines, f_known, f_wrong, f_place, f_blocks, f_steps, f_dropped, f_on, f_next, f_again, f_depth, a_ops, a_as, a_bs, a_cs, a_blockOf, a_opener, a_around, a_other, a_end, a_open, a_varied, a_loose, a_variedVariable, a_stands, a_number, a_isConst, a_needed, a_inputs, a_values, a_variables, a_cells, a_outs, a_was, a_rest, a_line) (nI o) (nI l) br := by
  have g := hgT o ho
  have gle := g.1
  obtain ⟨r1, r2, r3⟩ := hR o ho
  obtain ⟨q1, q2, q3⟩ := hR (T o).1 (by omega)
  have co : (nI o).toNatClampNeg = o := nI_clamp (by omega)
  have t40 : ∀ z : Nat, z < 48 → post (a_values (4 * z + l)) → wY_value_40 post (nI l) (nI z) f_lines f_known f_wrong f_place f_blocks f_steps f_dropped f_on f_next f_again f_depth a_ops a_as a_bs a_cs a_blockOf a_opener a_around a_other a_end a_open a_varied a_loose a_variedVariable a_stands a_number a_isConst a_needed a_inputs a_values a_variables a_cells a_outs a_was a_rest a_line := fun z hz hp => by
    refine ⟨by rw [e_44]; exact vp_in_nI (by omega) (by omega), ?_⟩
    rw [e_44, nI_clamp (by omega)]; exact hp
  unfold rv at h
  refine br_c (fun hb => br_t hb (t40 o (by omega) ?_)) (fun hb => ⟨vp_in_nI (by omega) (by omega), ?_⟩)
  · rw [if_pos hb] at h; exact h
  · rw [if_neg hb] at h
    rw [co, r1]
    have iz : vp_in (nI (T o).1) 48 := vp_in_nI (by omega) (by omega)
    refine br_f hb ⟨iz, ?_⟩
    rw [nI_clamp (by omega), q2, q3, g.2.2.1]
    refine br_c (fun hf => t40 _ (by omega) ?_) (fun hf => ⟨iz, ?_⟩)
    · rw [if_neg (by rw [sh_bI_0 hf]; decide)] at h; exact h
    · rw [if_pos (sh_bI_n hf)] at h; exact h
end
end
section
section
variable {K : Nat → Nat} {n : Nat} {T : Nat → Nat × Bool × Int32} {br : Int32}
variable {f_lines f_studied f_wrong f_wrongAt f_brief f_on f_dropped f_steps f_nextLine f_repeats : Int32} {a_kinds a_firsts a_seconds a_thirds a_inputs a_home a_depth a_closer a_mate a_operands a_varies a_parted a_variableVaries a_same a_fixed a_worth a_needed a_variableNeeded a_values a_variables a_outputs a_cells a_whole a_waiting : Nat → Int32}
variable {yf_lines yf_known yf_wrong yf_place yf_blocks yf_steps yf_dropped yf_on yf_next yf_again yf_depth : Int32} {ya_ops ya_as ya_bs ya_cs ya_blockOf ya_opener ya_around ya_other ya_end ya_open ya_varied ya_loose ya_variedVariable ya_stands ya_number ya_isConst ya_needed ya_inputs ya_values ya_variables ya_cells ya_outs ya_was ya_rest ya_line : Nat → Int32}
/-- what is done for one lane that is on after the other -/
def la_f {σ : Type} (w : Nat) (g : Nat → σ → σ) : Nat → Nat → σ → σ
  | 0, _, s => s
  | d + 1, t, s => la_f w g d (t + 1) (if w.testBit t = true then g t s else s)
theorem la_t {σ : Type} {w d t : Nat} {g : Nat → σ → σ} {s : σ} (h : w.testBit t = true) : la_f w g (d + 1) t s = la_f w g d (t + 1) (g t s) := by
  show la_f w g d (t + 1) (if _ then _ else _) = _
  rw [if_pos h]
theorem la_n {σ : Type} {w d t : Nat} {g : Nat → σ → σ} {s : σ} (h : w.testBit t = false) : la_f w g (d + 1) t s = la_f w g d (t + 1) s := by
  show la_f w g d (t + 1) (if _ then _ else _) = _
  rw [if_neg (by rw [h]; decide)]
/-- turned tables -/
def va_R (x y : Nat → Int32) : Prop := ∀ l, l < 4 → ∀ k, k < 4 → x (l * 4 + k) = y (4 * k + l)
theorem va_upd {x y : Nat → Int32} {l k : Nat} {v : Int32} (hl : l < 4) (hk : k < 4) (h : va_R x y) : va_R (upd x (l * 4 + k) v) (upd y (4 * k + l) v) := by
  intro l' hl' k' hk'
  by_cases e : l' = l ∧ k' = k
  · rw [e.1, e.2, pk_us, pk_us]
  · rw [pk_un (by omega), pk_un (by omega)]; exact h l' hl' k' hk'
theorem e_4l {l k : Nat} : nI l * 4 + nI k = nI (l * 4 + k) := by
  rw [show (4 : Int32) = nI 4 from rfl, pk_mul, nI_add]
theorem rn_put (hS : rn_stat K n T br f_lines f_brief a_kinds a_firsts a_seconds a_thirds a_inputs a_home a_depth a_closer a_mate a_operands a_same a_fixed a_worth a_needed yf_lines ya_ops ya_as ya_bs ya_cs ya_blockOf ya_opener ya_around ya_other ya_end ya_stands ya_number ya_isConst ya_needed ya_inputs) {i w : Nat} (hi : i < n) (h17 : K i = 17) (hw : w < 16) (eon : f_on = nI w) (eyn : yf_on = f_on) (hv : ∀ q, q < 192 → a_values q = ya_values q) : ∀ (d t : Nat) (vx vy : Nat → Int32), t + d = 4 → va_R vx vy → ∃ vx' vy', va_R vx' vy' ∧ vx' = la_f w (fun t s => upd s (t * 4 + (a_firsts i).toNatClampNeg) (rv br T a_values (sh_o a_firsts a_seconds a_thirds 1 i) t)) d t vx ∧
    (∀ post : SX → Prop, post (f_lines, f_studied, f_wrong, f_wrongAt, f_brief, f_on, f_dropped, f_steps, f_nextLine, f_repeats, a_kinds, a_firsts, a_seconds, a_thirds, a_inputs, a_home, a_depth, a_closer, a_mate, a_operands, a_varies, a_parted, a_variableVaries, a_same, a_fixed, a_worth, a_needed, a_variableNeeded, a_values, vx', a_outputs, a_cells, a_whole, a_waiting) → wX_putVariable_2 post (nI i) f_lines f_studied f_wrong f_wrongAt f_brief f_on f_dropped f_steps f_nextLine f_repeats (d + 1) (nI t) a_kinds a_firsts a_seconds a_thirds a_inputs a_home a_depth a_closer a_mate a_operands a_varies a_parted a_variableVaries a_same a_fixed a_worth a_needed a_variableNeeded a_values vx a_outputs a_cells a_whole a_waiting) ∧ (∀ post : SY → Prop, post (yf_lines, yf_known, yf_wrong, yf_place, yf_blocks, yf_steps, yf_dropped, yf_on, yf_next, yf_again, yf_depth, ya_ops, ya_as, ya_bs, ya_cs, ya_blockOf, ya_opener, ya_around, ya_other, ya_end, ya_open, ya_varied, ya_loose, ya_variedVariable, ya_stands, ya_number, ya_isConst, ya_needed, ya_inputs, ya_values, vy', ya_cells, ya_outs, ya_was, ya_rest, ya_line) → wY_step_101 post (nI i) br 17 yf_lines yf_known yf_wrong yf_place yf_blocks yf_steps yf_dropped yf_on yf_next yf_again yf_depth (d + 1) (nI t) ya_ops ya_as ya_bs ya_cs ya_blockOf ya_opener ya_around ya_other ya_end ya_open ya_varied ya_loose ya_variedVariable ya_stands ya_number ya_isConst ya_needed ya_inputs ya_values vy ya_cells ya_outs ya_was ya_rest ya_line) := by
  obtain ⟨hW, hok, hfr, hA, hc0, hB, ⟨e1, e2, e3, e4, e5⟩, ⟨hR, hR', hgT, hc10⟩, hnd, hself, hini, eb, hbr, el, el'⟩ := hS
  have hP := pg_xvP hW hok hA
  have hn := hW.1
  have hov := (sc_ck0 (hok i hi)).2.1
  obtain ⟨a, ha, ea⟩ := hW.2.2 i hi (by omega)
  have u1 : sc_us (K i) 1 := by unfold sc_us; omega
  obtain ⟨o, eo, _⟩ := sh_ov_lt (by omega) (hov 1 (by omega) u1)
  have eo' : a_seconds i = nI (sh_o a_firsts a_seconds a_thirds 1 i) := eo
  have ci : (nI i).toNatClampNeg = i := nI_clamp (by omega)
  have ii : vp_in (nI i) 48 := vp_in_nI (by omega) (by omega)
  have ca : (a_firsts i).toNatClampNeg = a := by rw [ea, nI_clamp (by omega)]
  subst eb eyn eon
  intro d
  induction d with
  | zero =>
    intro t vx vy ht hR2
    cases (show t = 4 by omega)
    exact ⟨vx, vy, hR2, rfl, fun post h => br_t (by decide) h, fun post h => br_t (by decide) h⟩
  | succ d ih =>
    intro t vx vy ht hR2
    have t4 : ¬ (4 : Int32) ≤ nI t := nI_ge (b := 4) (by omega) (by decide)
    cases hb : w.testBit t with
    | false =>
      obtain ⟨vx', vy', h1, h0, h2, h3⟩ := ih (t + 1) vx vy (by omega) hR2
      refine ⟨vx', vy', h1, h0.trans (la_n hb).symm, fun post h => br_f t4 (rx_isOn hw (by omega) rfl (fun h' => by rw [hb] at h'; cases h') (fun _ => br_t rfl (nm_r (nI_1 t) (h2 post h)))), fun post h => br_f t4 (br_t ((mk_bit w hw t (by omega)).1.mpr hb) (nm_r (nI_1 t) (h3 post h)))⟩
    | true =>
      obtain ⟨vx', vy', h1, h0, h2, h3⟩ := ih (t + 1) (upd vx (t * 4 + a) (rv f_brief T a_values (sh_o a_firsts a_seconds a_thirds 1 i) t)) (upd vy (4 * a + t) (rv f_brief T a_values (sh_o a_firsts a_seconds a_thirds 1 i) t)) (by omega) (va_upd (by omega) ha hR2)
      refine ⟨vx', vy', h1, by rw [h0, la_t hb, ca], fun post h => br_f t4 (rx_isOn hw (by omega) rfl (fun _ => br_f (by decide) ⟨ii, ?_⟩) (fun h' => by rw [hb] at h'; cases h')), fun post h => br_f t4 (br_f (fun h' => by have := (mk_bit w hw t (by omega)).1.mp h'; rw [hb] at this; cases this) (br_f (by decide) (br_t rfl ⟨ii, ii, ?_⟩)))⟩
      · refine rx_read (K := K) (n := n) (T := T) (s := 1) hP hR hgT hi (by omega) (by omega) (fun _ => ?_) (fun h' => absurd u1 h')
        rw [ci, ea, e_4l, nI_clamp (by omega)]
        exact ⟨vp_in_nI (by omega) (by omega), nm_e (nm_r (nI_1 t) (h2 post h))⟩
      · rw [ci, e2, ea, e3, eo']
        have er : rv f_brief T ya_values (sh_o a_firsts a_seconds a_thirds 1 i) t = rv f_brief T a_values (sh_o a_firsts a_seconds a_thirds 1 i) t := rv_eq (hgT _ (by omega)).1 (fun q hq => (hv q (by omega)).symm)
        refine ry_value (n := n) (T := T) hn hR' hgT (by omega) (by omega) ?_
        rw [er, e_44, nI_clamp (by omega)]
        have h3' := h3 post h
        rw [e2, e3] at h3'
        exact ⟨vp_in_nI (by omega) (by omega), nm_e (nm_r (nI_1 t) h3')⟩
end
end
section
section
variable {K : Nat → Nat} {n : Nat} {T : Nat → Nat × Bool × Int32} {br : Int32}
variable {f_lines f_studied f_wrong f_wrongAt f_brief f_on f_dropped f_steps f_nextLine f_repeats : Int32} {a_kinds a_firsts a_seconds a_thirds a_inputs a_home a_depth a_closer a_mate a_operands a_varies a_parted a_variableVaries a_same a_fixed a_worth a_needed a_variableNeeded a_values a_variables a_outputs a_cells a_whole a_waiting : Nat → Int32}
variable {yf_lines yf_known yf_wrong yf_place yf_blocks yf_steps yf_dropped yf_on yf_next yf_again yf_depth : Int32} {ya_ops ya_as ya_bs ya_cs ya_blockOf ya_opener ya_around ya_other ya_end ya_open ya_varied ya_loose ya_variedVariable ya_stands ya_number ya_isConst ya_needed ya_inputs ya_values ya_variables ya_cells ya_outs ya_was ya_rest ya_line : Nat → Int32}
theorem rn_out (hS : rn_stat K n T br f_lines f_brief a_kinds a_firsts a_seconds a_thirds a_inputs a_home a_depth a_closer a_mate a_operands a_same a_fixed a_worth a_needed yf_lines ya_ops ya_as ya_bs ya_cs ya_blockOf ya_opener ya_around ya_other ya_end ya_stands ya_number ya_isConst ya_needed ya_inputs) {i w dw : Nat} (hi : i < n) (h18 : K i = 18) (hw : w < 16) (eon : f_on = nI w) (eyn : yf_on = f_on) (hdw : dw < 16) (edr : f_dropped = nI dw) (eyd : yf_dropped = f_dropped) (hv : ∀ q, q < 192 → a_values q = ya_values q) : ∀ (d t : Nat) (vx vy : Nat → Int32), t + d = 4 → va_R vx vy → ∃ vx' vy', va_R vx' vy' ∧ vx' = la_f w (fun t s => if dw.testBit t = true then s else upd s (t * 4 + (a_firsts i).toNatClampNeg) (rv br T a_values (sh_o a_firsts a_seconds a_thirds 1 i) t)) d t vx ∧
    (∀ post : SX → Prop, post (f_lines, f_studied, f_wrong, f_wrongAt, f_brief, f_on, f_dropped, f_steps, f_nextLine, f_repeats, a_kinds, a_firsts, a_seconds, a_thirds, a_inputs, a_home, a_depth, a_closer, a_mate, a_operands, a_varies, a_parted, a_variableVaries, a_same, a_fixed, a_worth, a_needed, a_variableNeeded, a_values, a_variables, vx', a_cells, a_whole, a_waiting) → wX_putOutput_2 post (nI i) f_lines f_studied f_wrong f_wrongAt f_brief f_on f_dropped f_steps f_nextLine f_repeats (d + 1) (nI t) a_kinds a_firsts a_seconds a_thirds a_inputs a_home a_depth a_closer a_mate a_operands a_varies a_parted a_variableVaries a_same a_fixed a_worth a_needed a_variableNeeded a_values a_variables vx a_cells a_whole a_waiting) ∧ (∀ post : SY → Prop, post (yf_lines, yf_known, yf_wrong, yf_place, yf_blocks, yf_steps, yf_dropped, yf_on, yf_next, yf_again, yf_depth, ya_ops, ya_as, ya_bs, ya_cs, ya_blockOf, ya_opener, ya_around, ya_other, ya_end, ya_open, ya_varied, ya_loose, ya_variedVariable, ya_stands, ya_number, ya_isConst, ya_needed, ya_inputs, ya_values, ya_variables, ya_cells, vy', ya_was, ya_rest, ya_line) → wY_step_101 post (nI i) br 18 yf_lines yf_known yf_wrong yf_place yf_blocks yf_steps yf_dropped yf_on yf_next yf_again yf_depth (d + 1) (nI t) ya_ops ya_as ya_bs ya_cs ya_blockOf ya_opener ya_around ya_other ya_end ya_open ya_varied ya_loose ya_variedVariable ya_stands ya_number ya_isConst ya_needed ya_inputs ya_values ya_variables ya_cells vy ya_was ya_rest ya_line) := by
  obtain ⟨hW, hok, hfr, hA, hc0, hB, ⟨e1, e2, e3, e4, e5⟩, ⟨hR, hR', hgT, hc10⟩, hnd, hself, hini, eb, hbr, el, el'⟩ := hS
  have hP := pg_xvP hW hok hA
  have hn := hW.1
  have hov := (sc_ck0 (hok i hi)).2.1
  obtain ⟨a, ha, ea⟩ := hW.2.2 i hi (by omega)
  have u1 : sc_us (K i) 1 := by unfold sc_us; omega
  obtain ⟨o, eo, _⟩ := sh_ov_lt (by omega) (hov 1 (by omega) u1)
  have eo' : a_seconds i = nI (sh_o a_firsts a_seconds a_thirds 1 i) := eo
  have ci : (nI i).toNatClampNeg = i := nI_clamp (by omega)
  have ii : vp_in (nI i) 48 := vp_in_nI (by omega) (by omega)
  have ca : (a_firsts i).toNatClampNeg = a := by rw [ea, nI_clamp (by omega)]
  subst eb eyn eon eyd edr
  intro d
  induction d with
  | zero =>
    intro t vx vy ht hR2
    cases (show t = 4 by omega)
    exact ⟨vx, vy, hR2, rfl, fun post h => br_t (by decide) h, fun post h => br_t (by decide) h⟩
  | succ d ih =>
    intro t vx vy ht hR2
    have t4 : ¬ (4 : Int32) ≤ nI t := nI_ge (b := 4) (by omega) (by decide)
    cases hb : w.testBit t with
    | false =>
      obtain ⟨vx', vy', h1, h0, h2, h3⟩ := ih (t + 1) vx vy (by omega) hR2
      refine ⟨vx', vy', h1, h0.trans (la_n hb).symm, fun post h => br_f t4 (rx_isOn hw (by omega) rfl (fun h' => by rw [hb] at h'; cases h') (fun _ => br_t rfl (nm_r (nI_1 t) (h2 post h)))), fun post h => br_f t4 (br_t ((mk_bit w hw t (by omega)).1.mpr hb) (nm_r (nI_1 t) (h3 post h)))⟩
    | true =>
      have ony : ¬ (nI w >>> (nI t &&& 31)) &&& 1 = 0 := fun h' => by have := (mk_bit w hw t (by omega)).1.mp h'; rw [hb] at this; cases this
      cases hd : dw.testBit t with
      | true =>
        obtain ⟨vx', vy', h1, h0, h2, h3⟩ := ih (t + 1) vx vy (by omega) hR2
        refine ⟨vx', vy', h1, by rw [h0, la_t hb, if_pos hd], fun post h => br_f t4 (rx_isOn hw (by omega) rfl (fun _ => br_f (by decide) ?_) (fun h' => by rw [hb] at h'; cases h')), fun post h => br_f t4 (br_f ony (br_t rfl (br_t ((mk_bit dw hdw t (by omega)).2.mpr hd) (nm_r (nI_1 t) (h3 post h)))))⟩
        exact rx_isDropped hdw (by omega) rfl (fun _ => br_f (by decide) (nm_r (nI_1 t) (h2 post h))) (fun h' => by rw [hd] at h'; cases h')
      | false =>
        obtain ⟨vx', vy', h1, h0, h2, h3⟩ := ih (t + 1) (upd vx (t * 4 + a) (rv f_brief T a_values (sh_o a_firsts a_seconds a_thirds 1 i) t)) (upd vy (4 * a + t) (rv f_brief T a_values (sh_o a_firsts a_seconds a_thirds 1 i) t)) (by omega) (va_upd (by omega) ha hR2)
        refine ⟨vx', vy', h1, by rw [h0, la_t hb, if_neg (by rw [hd]; decide), ca], fun post h => br_f t4 (rx_isOn hw (by omega) rfl (fun _ => br_f (by decide) ?_) (fun h' => by rw [hb] at h'; cases h')), fun post h => br_f t4 (br_f ony (br_t rfl (br_f (fun h' => by have := (mk_bit dw hdw t (by omega)).2.mp h'; rw [hd] at this; cases this) (br_f (by decide) ⟨ii, ii, ?_⟩))))⟩
        · refine rx_isDropped hdw (by omega) rfl (fun h' => by rw [hd] at h'; cases h') (fun _ => br_t rfl ⟨ii, ?_⟩)
          refine rx_read (K := K) (n := n) (T := T) (s := 1) hP hR hgT hi (by omega) (by omega) (fun _ => ?_) (fun h' => absurd u1 h')
          rw [ci, ea, e_4l, nI_clamp (by omega)]
          exact ⟨vp_in_nI (by omega) (by omega), nm_e (nm_r (nI_1 t) (h2 post h))⟩
        · rw [ci, e2, ea, e3, eo']
          have er : rv f_brief T ya_values (sh_o a_firsts a_seconds a_thirds 1 i) t = rv f_brief T a_values (sh_o a_firsts a_seconds a_thirds 1 i) t := rv_eq (hgT _ (by omega)).1 (fun q hq => (hv q (by omega)).symm)
          refine ry_value (n := n) (T := T) hn hR' hgT (by omega) (by omega) ?_
          rw [er, e_44, nI_clamp (by omega)]
          have h3' := h3 post h
          rw [e2, e3] at h3'
          exact ⟨vp_in_nI (by omega) (by omega), nm_e (nm_r (nI_1 t) h3')⟩
/-- X's switch over what gives a value -/
theorem rx_switch {post : Int32 → SX → Prop} {i k : Nat} {p1 : Int32} (hi : i < 48) (ki : a_kinds i = nI k) (hk : k ≤ 16)
    (c0 : k = 0 → post (a_firsts i) (f_lines, f_studied, f_wrong, f_wrongAt, f_brief, f_on, f_dropped, f_steps, f_nextLine, f_repeats, a_kinds, a_firsts, a_seconds, a_thirds, a_inputs, a_home, a_depth, a_closer, a_mate, a_operands, a_varies, a_parted, a_variableVaries, a_same, a_fixed, a_worth, a_needed, a_variableNeeded, a_values, a_variables, a_outputs, a_cells, a_whole, a_waiting)) (c1 : k = 1 → (vp_in ((p1 * 4) + (a_firsts i)) 16 ∧ (post (a_inputs ((p1 * 4) + (a_firsts i)).toNatClampNeg) (f_lines, f_studied, f_wrong, f_wrongAt, f_brief, f_on, f_dropped, f_steps, f_nextLine, f_repeats, a_kinds, a_firsts, a_seconds, a_thirds, a_inputs, a_home, a_depth, a_closer, a_mate, a_operands, a_varies, a_parted, a_variableVaries, a_same, a_fixed, a_worth, a_needed, a_variableNeeded, a_values, a_variables, a_outputs, a_cells, a_whole, a_waiting)))) (c2 : k = 2 → post p1 (f_lines, f_studied, f_wrong, f_wrongAt, f_brief, f_on, f_dropped, f_steps, f_nextLine, f_repeats, a_kinds, a_firsts, a_seconds, a_thirds, a_inputs, a_home, a_depth, a_closer, a_mate, a_operands, a_varies, a_parted, a_variableVaries, a_same, a_fixed, a_worth, a_needed, a_variableNeeded, a_values, a_variables, a_outputs, a_cells, a_whole, a_waiting)) (cs : 3 ≤ k → k ≤ 9 → wX_valueFor_216 post (nI i) p1 f_lines f_studied f_wrong f_wrongAt f_brief f_on f_dropped f_steps f_nextLine f_repeats a_kinds a_firsts a_seconds a_thirds a_inputs a_home a_depth a_closer a_mate a_operands a_varies a_parted a_variableVaries a_same a_fixed a_worth a_needed a_variableNeeded a_values a_variables a_outputs a_cells a_whole a_waiting)
    (c10 : k = 10 → wpX_read (fun r_91 => (((r_91 = 0 → (wpX_read (fun r_127 => (post r_127 (f_lines, f_studied, f_wrong, f_wrongAt, f_brief, f_on, f_dropped, f_steps, f_nextLine, f_repeats, a_kinds, a_firsts, a_seconds, a_thirds, a_inputs, a_home, a_depth, a_closer, a_mate, a_operands, a_varies, a_parted, a_variableVaries, a_same, a_fixed, a_worth, a_needed, a_variableNeeded, a_values, a_variables, a_outputs, a_cells, a_whole, a_waiting))) (f_lines, f_studied, f_wrong, f_wrongAt, f_brief, f_on, f_dropped, f_steps, f_nextLine, f_repeats, a_kinds, a_firsts, a_seconds, a_thirds, a_inputs, a_home, a_depth, a_closer, a_mate, a_operands, a_varies, a_parted, a_variableVaries, a_same, a_fixed, a_worth, a_needed, a_variableNeeded, a_values, a_variables, a_outputs, a_cells, a_whole, a_waiting) (nI i) 2 p1)) ∧ (¬ r_91 = 0 → (wpX_read (fun r_162 => (post r_162 (f_lines, f_studied, f_wrong, f_wrongAt, f_brief, f_on, f_dropped, f_steps, f_nextLine, f_repeats, a_kinds, a_firsts, a_seconds, a_thirds, a_inputs, a_home, a_depth, a_closer, a_mate, a_operands, a_varies, a_parted, a_variableVaries, a_same, a_fixed, a_worth, a_needed, a_variableNeeded, a_values, a_variables, a_outputs, a_cells, a_whole, a_waiting))) (f_lines, f_studied, f_wrong, f_wrongAt, f_brief, f_on, f_dropped, f_steps, f_nextLine, f_repeats, a_kinds, a_firsts, a_seconds, a_thirds, a_inputs, a_home, a_depth, a_closer, a_mate, a_operands, a_varies, a_parted, a_variableVaries, a_same, a_fixed, a_worth, a_needed, a_variableNeeded, a_values, a_variables, a_outputs, a_cells, a_whole, a_waiting) (nI i) 1 p1))))) (f_lines, f_studied, f_wrong, f_wrongAt, f_brief, f_on, f_dropped, f_steps, f_nextLine, f_repeats, a_kinds, a_firsts, a_seconds, a_thirds, a_inputs, a_home, a_depth, a_closer, a_mate, a_operands, a_varies, a_parted, a_variableVaries, a_same, a_fixed, a_worth, a_needed, a_variableNeeded, a_values, a_variables, a_outputs, a_cells, a_whole, a_waiting) (nI i) 0 p1)
    (c11 : k = 11 → (vp_in ((p1 * 4) + (a_firsts i)) 16 ∧ (post (a_variables ((p1 * 4) + (a_firsts i)).toNatClampNeg) (f_lines, f_studied, f_wrong, f_wrongAt, f_brief, f_on, f_dropped, f_steps, f_nextLine, f_repeats, a_kinds, a_firsts, a_seconds, a_thirds, a_inputs, a_home, a_depth, a_closer, a_mate, a_operands, a_varies, a_parted, a_variableVaries, a_same, a_fixed, a_worth, a_needed, a_variableNeeded, a_values, a_variables, a_outputs, a_cells, a_whole, a_waiting))))
    (c12 : k = 12 → wpX_read (fun r_201 => (wpX_read (fun r_236 => (post (r_201 - r_236) (f_lines, f_studied, f_wrong, f_wrongAt, f_brief, f_on, f_dropped, f_steps, f_nextLine, f_repeats, a_kinds, a_firsts, a_seconds, a_thirds, a_inputs, a_home, a_depth, a_closer, a_mate, a_operands, a_varies, a_parted, a_variableVaries, a_same, a_fixed, a_worth, a_needed, a_variableNeeded, a_values, a_variables, a_outputs, a_cells, a_whole, a_waiting))) (f_lines, f_studied, f_wrong, f_wrongAt, f_brief, f_on, f_dropped, f_steps, f_nextLine, f_repeats, a_kinds, a_firsts, a_seconds, a_thirds, a_inputs, a_home, a_depth, a_closer, a_mate, a_operands, a_varies, a_parted, a_variableVaries, a_same, a_fixed, a_worth, a_needed, a_variableNeeded, a_values, a_variables, a_outputs, a_cells, a_whole, a_waiting) (nI i) 0 (p1 &&& 2))) (f_lines, f_studied, f_wrong, f_wrongAt, f_brief, f_on, f_dropped, f_steps, f_nextLine, f_repeats, a_kinds, a_firsts, a_seconds, a_thirds, a_inputs, a_home, a_depth, a_closer, a_mate, a_operands, a_varies, a_parted, a_variableVaries, a_same, a_fixed, a_worth, a_needed, a_variableNeeded, a_values, a_variables, a_outputs, a_cells, a_whole, a_waiting) (nI i) 0 (p1 ||| 1))
    (c13 : k = 13 → wpX_read (fun r_201 => (wpX_read (fun r_236 => (post (r_201 - r_236) (f_lines, f_studied, f_wrong, f_wrongAt, f_brief, f_on, f_dropped, f_steps, f_nextLine, f_repeats, a_kinds, a_firsts, a_seconds, a_thirds, a_inputs, a_home, a_depth, a_closer, a_mate, a_operands, a_varies, a_parted, a_variableVaries, a_same, a_fixed, a_worth, a_needed, a_variableNeeded, a_values, a_variables, a_outputs, a_cells, a_whole, a_waiting))) (f_lines, f_studied, f_wrong, f_wrongAt, f_brief, f_on, f_dropped, f_steps, f_nextLine, f_repeats, a_kinds, a_firsts, a_seconds, a_thirds, a_inputs, a_home, a_depth, a_closer, a_mate, a_operands, a_varies, a_parted, a_variableVaries, a_same, a_fixed, a_worth, a_needed, a_variableNeeded, a_values, a_variables, a_outputs, a_cells, a_whole, a_waiting) (nI i) 0 (p1 &&& 1))) (f_lines, f_studied, f_wrong, f_wrongAt, f_brief, f_on, f_dropped, f_steps, f_nextLine, f_repeats, a_kinds, a_firsts, a_seconds, a_thirds, a_inputs, a_home, a_depth, a_closer, a_mate, a_operands, a_varies, a_parted, a_variableVaries, a_same, a_fixed, a_worth, a_needed, a_variableNeeded, a_values, a_variables, a_outputs, a_cells, a_whole, a_waiting) (nI i) 0 (p1 ||| 2))
    (c14 : k = 14 → wpX_anyOf (fun r_343 => (post r_343 (f_lines, f_studied, f_wrong, f_wrongAt, f_brief, f_on, f_dropped, f_steps, f_nextLine, f_repeats, a_kinds, a_firsts, a_seconds, a_thirds, a_inputs, a_home, a_depth, a_closer, a_mate, a_operands, a_varies, a_parted, a_variableVaries, a_same, a_fixed, a_worth, a_needed, a_variableNeeded, a_values, a_variables, a_outputs, a_cells, a_whole, a_waiting))) (f_lines, f_studied, f_wrong, f_wrongAt, f_brief, f_on, f_dropped, f_steps, f_nextLine, f_repeats, a_kinds, a_firsts, a_seconds, a_thirds, a_inputs, a_home, a_depth, a_closer, a_mate, a_operands, a_varies, a_parted, a_variableVaries, a_same, a_fixed, a_worth, a_needed, a_variableNeeded, a_values, a_variables, a_outputs, a_cells, a_whole, a_waiting) (nI i)) (c15 : k = 15 → wpX_firstOf (fun r_343 => (post r_343 (f_lines, f_studied, f_wrong, f_wrongAt, f_brief, f_on, f_dropped, f_steps, f_nextLine, f_repeats, a_kinds, a_firsts, a_seconds, a_thirds, a_inputs, a_home, a_depth, a_closer, a_mate, a_operands, a_varies, a_parted, a_variableVaries, a_same, a_fixed, a_worth, a_needed, a_variableNeeded, a_values, a_variables, a_outputs, a_cells, a_whole, a_waiting))) (f_lines, f_studied, f_wrong, f_wrongAt, f_brief, f_on, f_dropped, f_steps, f_nextLine, f_repeats, a_kinds, a_firsts, a_seconds, a_thirds, a_inputs, a_home, a_depth, a_closer, a_mate, a_operands, a_varies, a_parted, a_variableVaries, a_same, a_fixed, a_worth, a_needed, a_variableNeeded, a_values, a_variables, a_outputs, a_cells, a_whole, a_waiting) (nI i)) (c16 : k = 16 → wpX_takeFrom (fun r_415 u => match u with | (f_lines, f_studied, f_wrong, f_wrongAt, f_brief, f_on, f_dropped, f_steps, f_nextLine, f_repeats, a_kinds, a_firsts, a_seconds, a_thirds, a_inputs, a_home, a_depth, a_closer, a_mate, a_operands, a_varies, a_parted, a_variableVaries, a_same, a_fixed, a_worth, a_needed, a_variableNeeded, a_values, a_variables, a_outputs, a_cells, a_whole, a_waiting) => (post r_415 (f_lines, f_studied, f_wrong, f_wrongAt, f_brief, f_on, f_dropped, f_steps, f_nextLine, f_repeats, a_kinds, a_firsts, a_seconds, a_thirds, a_inputs, a_home, a_depth, a_closer, a_mate, a_operands, a_varies, a_parted, a_variableVaries, a_same, a_fixed, a_worth, a_needed, a_variableNeeded, a_values, a_variables, a_outputs, a_cells, a_whole, a_waiting))) (f_lines, f_studied, f_wrong, f_wrongAt, f_brief, f_on, f_dropped, f_steps, f_nextLine, f_repeats, a_kinds, a_firsts, a_seconds, a_thirds, a_inputs, a_home, a_depth, a_closer, a_mate, a_operands, a_varies, a_parted, a_variableVaries, a_same, a_fixed, a_worth, a_needed, a_variableNeeded, a_values, a_variables, a_outputs, a_cells, a_whole, a_waiting) (nI i) p1) : wpX_valueFor post (f_lines, f_studied, f_wrong, f_wrongAt, f_brief, f_on, f_dropped, f_steps, f_nextLine, f_repeats, a_kinds, a_firsts, a_seconds, a_thirds, a_inputs, a_home, a_depth, a_closer, a_mate, a_operands, a_varies, a_parted, a_variableVaries, a_same, a_fixed, a_worth, a_needed, a_variableNeeded, a_values, a_variables, a_outputs, a_cells, a_whole, a_waiting) (nI i) p1 := by
  have ci : (nI i).toNatClampNeg = i := nI_clamp (by omega)
  have ii : vp_in (nI i) 48 := vp_in_nI (by omega) (by omega)
  refine ⟨ii, nm_c ci ki ?_⟩
  rw [ci]
  exact br_f (nI_pos (by omega)) (pk_lt 16 k (fun h => absurd h (by omega)) (fun _ => pk_eq k 0 (fun h => ⟨ii, c0 h⟩) (fun _ => pk_eq k 1 (fun h => ⟨ii, c1 h⟩) (fun _ => pk_eq k 2 c2 (fun _ => pk_eq k 3 (fun h => cs (by omega) (by omega)) (fun _ => pk_eq k 4 (fun h => cs (by omega) (by omega)) (fun _ => pk_eq k 5 (fun h => cs (by omega) (by omega)) (fun _ => pk_eq k 6 (fun h => cs (by omega) (by omega)) (fun _ => pk_eq k 7 (fun h => cs (by omega) (by omega)) (fun _ => pk_eq k 8 (fun h => cs (by omega) (by omega)) (fun _ => pk_eq k 9 (fun h => cs (by omega) (by omega)) (fun _ => pk_eq k 10 c10 (fun _ => pk_eq k 11 (fun h => ⟨ii, c11 h⟩) (fun _ => pk_eq k 12 c12 (fun _ => pk_eq k 13 c13 (fun _ => pk_eq k 14 c14 (fun _ => pk_eq k 15 c15 (fun _ => pk_eq k 16 c16 (fun _ => trivial)))))))))))))))))))
theorem ry_switch {post : Int32 → Prop} {i k : Nat} {p1 : Int32} {av : Int32} (hi : i < 48) (ki : ya_ops i = nI k) (hk : k ≤ 15) (eav : ya_as i = av)
    (c0 : k = 0 → post av) (c1 : k = 1 → (vp_in ((4 * p1) + av) 16 ∧ (post (ya_inputs ((4 * p1) + av).toNatClampNeg)))) (c2 : k = 2 → post p1) (cs : 3 ≤ k → k ≤ 9 → wY_result_278 post (nI i) p1 br (nI k) av yf_lines yf_known yf_wrong yf_place yf_blocks yf_steps yf_dropped yf_on yf_next yf_again yf_depth ya_ops ya_as ya_bs ya_cs ya_blockOf ya_opener ya_around ya_other ya_end ya_open ya_varied ya_loose ya_variedVariable ya_stands ya_number ya_isConst ya_needed ya_inputs ya_values ya_variables ya_cells ya_outs ya_was ya_rest ya_line)
    (c10 : k = 10 → wpY_value (fun r_97 => (((r_97 = 0 → (vp_in (nI i) 48 ∧ (wY_result_152 post p1 br (ya_cs i) yf_lines yf_known yf_wrong yf_place yf_blocks yf_steps yf_dropped yf_on yf_next yf_again yf_depth ya_ops ya_as ya_bs ya_cs ya_blockOf ya_opener ya_around ya_other ya_end ya_open ya_varied ya_loose ya_variedVariable ya_stands ya_number ya_isConst ya_needed ya_inputs ya_values ya_variables ya_cells ya_outs ya_was ya_rest ya_line))) ∧ (¬ r_97 = 0 → (vp_in (nI i) 48 ∧ (wY_result_152 post p1 br (ya_bs i) yf_lines yf_known yf_wrong yf_place yf_blocks yf_steps yf_dropped yf_on yf_next yf_again yf_depth ya_ops ya_as ya_bs ya_cs ya_blockOf ya_opener ya_around ya_other ya_end ya_open ya_varied ya_loose ya_variedVariable ya_stands ya_number ya_isConst ya_needed ya_inputs ya_values ya_variables ya_cells ya_outs ya_was ya_rest ya_line)))))) (yf_lines, yf_known, yf_wrong, yf_place, yf_blocks, yf_steps, yf_dropped, yf_on, yf_next, yf_again, yf_depth, ya_ops, ya_as, ya_bs, ya_cs, ya_blockOf, ya_opener, ya_around, ya_other, ya_end, ya_open, ya_varied, ya_loose, ya_variedVariable, ya_stands, ya_number, ya_isConst, ya_needed, ya_inputs, ya_values, ya_variables, ya_cells, ya_outs, ya_was, ya_rest, ya_line) av p1 br)
    (c11 : k = 11 → (vp_in ((4 * av) + p1) 16 ∧ (post (ya_variables ((4 * av) + p1).toNatClampNeg))))
    (c12 : k = 12 → wpY_value (fun r_177 => (wpY_value (fun r_214 => (post (r_177 - r_214))) (yf_lines, yf_known, yf_wrong, yf_place, yf_blocks, yf_steps, yf_dropped, yf_on, yf_next, yf_again, yf_depth, ya_ops, ya_as, ya_bs, ya_cs, ya_blockOf, ya_opener, ya_around, ya_other, ya_end, ya_open, ya_varied, ya_loose, ya_variedVariable, ya_stands, ya_number, ya_isConst, ya_needed, ya_inputs, ya_values, ya_variables, ya_cells, ya_outs, ya_was, ya_rest, ya_line) av (p1 &&& 2) br)) (yf_lines, yf_known, yf_wrong, yf_place, yf_blocks, yf_steps, yf_dropped, yf_on, yf_next, yf_again, yf_depth, ya_ops, ya_as, ya_bs, ya_cs, ya_blockOf, ya_opener, ya_around, ya_other, ya_end, ya_open, ya_varied, ya_loose, ya_variedVariable, ya_stands, ya_number, ya_isConst, ya_needed, ya_inputs, ya_values, ya_variables, ya_cells, ya_outs, ya_was, ya_rest, ya_line) av (p1 ||| 1) br)
    (c13 : k = 13 → wpY_value (fun r_177 => (wpY_value (fun r_214 => (post (r_177 - r_214))) (yf_lines, yf_known, yf_wrong, yf_place, yf_blocks, yf_steps, yf_dropped, yf_on, yf_next, yf_again, yf_depth, ya_ops, ya_as, ya_bs, ya_cs, ya_blockOf, ya_opener, ya_around, ya_other, ya_end, ya_open, ya_varied, ya_loose, ya_variedVariable, ya_stands, ya_number, ya_isConst, ya_needed, ya_inputs, ya_values, ya_variables, ya_cells, ya_outs, ya_was, ya_rest, ya_line) av (p1 &&& 1) br)) (yf_lines, yf_known, yf_wrong, yf_place, yf_blocks, yf_steps, yf_dropped, yf_on, yf_next, yf_again, yf_depth, ya_ops, ya_as, ya_bs, ya_cs, ya_blockOf, ya_opener, ya_around, ya_other, ya_end, ya_open, ya_varied, ya_loose, ya_variedVariable, ya_stands, ya_number, ya_isConst, ya_needed, ya_inputs, ya_values, ya_variables, ya_cells, ya_outs, ya_was, ya_rest, ya_line) av (p1 ||| 2) br)
    (c14 : k = 14 → wpY_mask (fun r_327 => ((((r_327 &&& (yf_on &&& (yf_dropped ^^^ (-1)))) = 0 → (post 0)) ∧ (¬ (r_327 &&& (yf_on &&& (yf_dropped ^^^ (-1)))) = 0 → (post 1))))) (yf_lines, yf_known, yf_wrong, yf_place, yf_blocks, yf_steps, yf_dropped, yf_on, yf_next, yf_again, yf_depth, ya_ops, ya_as, ya_bs, ya_cs, ya_blockOf, ya_opener, ya_around, ya_other, ya_end, ya_open, ya_varied, ya_loose, ya_variedVariable, ya_stands, ya_number, ya_isConst, ya_needed, ya_inputs, ya_values, ya_variables, ya_cells, ya_outs, ya_was, ya_rest, ya_line) av br)
    (c15 : k = 15 → (∃ n236 : Nat, wY_result_236 post br av (yf_on &&& (yf_dropped ^^^ (-1))) yf_lines yf_known yf_wrong yf_place yf_blocks yf_steps yf_dropped yf_on yf_next yf_again yf_depth ya_ops ya_as ya_bs ya_cs ya_blockOf ya_opener ya_around ya_other ya_end ya_open ya_varied ya_loose ya_variedVariable ya_stands ya_number ya_isConst ya_needed ya_inputs ya_values ya_variables ya_cells ya_outs ya_was ya_rest ya_line n236 0)) : wpY_result post (yf_lines, yf_known, yf_wrong, yf_place, yf_blocks, yf_steps, yf_dropped, yf_on, yf_next, yf_again, yf_depth, ya_ops, ya_as, ya_bs, ya_cs, ya_blockOf, ya_opener, ya_around, ya_other, ya_end, ya_open, ya_varied, ya_loose, ya_variedVariable, ya_stands, ya_number, ya_isConst, ya_needed, ya_inputs, ya_values, ya_variables, ya_cells, ya_outs, ya_was, ya_rest, ya_line) (nI i) p1 br := by
  have ci : (nI i).toNatClampNeg = i := nI_clamp (by omega)
  have ii : vp_in (nI i) 48 := vp_in_nI (by omega) (by omega)
  refine ⟨ii, nm_c ci ki ⟨ii, nm_c ci eav (nm_e ?_)⟩⟩
  rw [ci]
  exact br_f (nI_pos (by omega)) (pk_lt 15 k (fun h => absurd h (by omega)) (fun _ => pk_eq k 0 c0 (fun _ => pk_eq k 1 c1 (fun _ => pk_eq k 2 c2 (fun _ => pk_eq k 3 (fun h => cs (by omega) (by omega)) (fun _ => pk_eq k 4 (fun h => cs (by omega) (by omega)) (fun _ => pk_eq k 5 (fun h => cs (by omega) (by omega)) (fun _ => pk_eq k 6 (fun h => cs (by omega) (by omega)) (fun _ => pk_eq k 7 (fun h => cs (by omega) (by omega)) (fun _ => pk_eq k 8 (fun h => cs (by omega) (by omega)) (fun _ => pk_eq k 9 (fun h => cs (by omega) (by omega)) (fun _ => pk_eq k 10 c10 (fun _ => pk_eq k 11 c11 (fun _ => pk_eq k 12 c12 (fun _ => pk_eq k 13 c13 (fun _ => pk_eq k 14 c14 (fun _ => pk_eq k 15 c15 (fun _ => trivial))))))))))))))))))
end
end
section
section
variable {K : Nat → Nat} {n : Nat} {T : Nat → Nat × Bool × Int32} {br : Int32}
variable {f_lines f_studied f_wrong f_wrongAt f_brief f_on f_dropped f_steps f_nextLine f_repeats : Int32} {a_kinds a_firsts a_seconds a_thirds a_inputs a_home a_depth a_closer a_mate a_operands a_varies a_parted a_variableVaries a_same a_fixed a_worth a_needed a_variableNeeded a_values a_variables a_outputs a_cells a_whole a_waiting : Nat → Int32}
theorem rx_any (hP : xv_P K n a_kinds a_firsts a_seconds a_thirds a_home a_mate a_operands) (hR : sh_R T n a_same a_fixed a_worth) (hgT : ∀ j, j < n → sh_good T j) {post : Int32 → Prop} {i w dw : Nat} (hi : i < n) (u0 : sc_us (K i) 0) (hw : w < 16) (eon : f_on = nI w) (hdw : dw < 16) (edr : f_dropped = nI dw)
    (h1 : (∃ l, l < 4 ∧ w.testBit l = true ∧ dw.testBit l = false ∧ rv f_brief T a_values (sh_o a_firsts a_seconds a_thirds 0 i) l ≠ 0) → post 1) (h0 : (¬ ∃ l, l < 4 ∧ w.testBit l = true ∧ dw.testBit l = false ∧ rv f_brief T a_values (sh_o a_firsts a_seconds a_thirds 0 i) l ≠ 0) → post 0) :
    ∀ d t : Nat, t + d = 4 → (∀ l, l < t → ¬ (w.testBit l = true ∧ dw.testBit l = false ∧ rv f_brief T a_values (sh_o a_firsts a_seconds a_thirds 0 i) l ≠ 0)) → wX_anyOf_2 post (nI i) f_lines f_studied f_wrong f_wrongAt f_brief f_on f_dropped f_steps f_nextLine f_repeats a_kinds a_firsts a_seconds a_thirds a_inputs a_home a_depth a_closer a_mate a_operands a_varies a_parted a_variableVaries a_same a_fixed a_worth a_needed a_variableNeeded a_values a_variables a_outputs a_cells a_whole a_waiting (d + 1) (nI t) := by
  intro d
  induction d with
  | zero =>
    intro t ht hno
    cases (show t = 4 by omega)
    exact br_t (by decide) (h0 (fun ⟨l, hl, h⟩ => hno l hl h))
  | succ d ih =>
    intro t ht hno
    have next : ¬ (w.testBit t = true ∧ dw.testBit t = false ∧ rv f_brief T a_values (sh_o a_firsts a_seconds a_thirds 0 i) t ≠ 0) → wX_anyOf_2 post (nI i) f_lines f_studied f_wrong f_wrongAt f_brief f_on f_dropped f_steps f_nextLine f_repeats a_kinds a_firsts a_seconds a_thirds a_inputs a_home a_depth a_closer a_mate a_operands a_varies a_parted a_variableVaries a_same a_fixed a_worth a_needed a_variableNeeded a_values a_variables a_outputs a_cells a_whole a_waiting (d + 1) (nI (t + 1)) := fun hn =>
      ih (t + 1) (by omega) (fun l hl => by
        by_cases e : l = t
        · rw [e]; exact hn
        · exact hno l (by omega))
    refine br_f (nI_ge (b := 4) (by omega) (by decide)) ?_
    refine rx_isOn hw (by omega) eon (fun ho => br_f (by decide) ?_) (fun ho => br_t rfl (nm_r (nI_1 t) (next (fun h => by rw [ho] at h; cases h.1))))
    refine rx_isDropped hdw (by omega) edr (fun hd => br_f (by decide) (nm_r (nI_1 t) (next (fun h => by rw [hd] at h; cases h.2.1)))) (fun hd => br_t rfl ?_)
    exact rx_read (K := K) (n := n) (T := T) (s := 0) hP hR hgT hi (by omega) (by omega) (fun _ => br_c (fun hz => nm_r (nI_1 t) (next (fun h => h.2.2 hz))) (fun hz => h1 ⟨t, by omega, ho, hd, hz⟩)) (fun h' => absurd u0 h')
theorem rx_first (hP : xv_P K n a_kinds a_firsts a_seconds a_thirds a_home a_mate a_operands) (hR : sh_R T n a_same a_fixed a_worth) (hgT : ∀ j, j < n → sh_good T j) {post : Int32 → Prop} {i w dw : Nat} (hi : i < n) (u0 : sc_us (K i) 0) (hw : w < 16) (eon : f_on = nI w) (hdw : dw < 16) (edr : f_dropped = nI dw)
    (h1 : ∀ l, l < 4 → (w.testBit l = true ∧ dw.testBit l = false) → (∀ q, q < l → ¬ (w.testBit q = true ∧ dw.testBit q = false)) → post (rv f_brief T a_values (sh_o a_firsts a_seconds a_thirds 0 i) l)) (h0 : (∀ q, q < 4 → ¬ (w.testBit q = true ∧ dw.testBit q = false)) → post 0) :
    ∀ d t : Nat, t + d = 4 → (∀ l, l < t → ¬ (w.testBit l = true ∧ dw.testBit l = false)) → wX_firstOf_2 post (nI i) f_lines f_studied f_wrong f_wrongAt f_brief f_on f_dropped f_steps f_nextLine f_repeats a_kinds a_firsts a_seconds a_thirds a_inputs a_home a_depth a_closer a_mate a_operands a_varies a_parted a_variableVaries a_same a_fixed a_worth a_needed a_variableNeeded a_values a_variables a_outputs a_cells a_whole a_waiting (d + 1) (nI t) := by
  intro d
  induction d with
  | zero =>
    intro t ht hno
    cases (show t = 4 by omega)
    exact br_t (by decide) (h0 hno)
  | succ d ih =>
    intro t ht hno
    have next : ¬ (w.testBit t = true ∧ dw.testBit t = false) → wX_firstOf_2 post (nI i) f_lines f_studied f_wrong f_wrongAt f_brief f_on f_dropped f_steps f_nextLine f_repeats a_kinds a_firsts a_seconds a_thirds a_inputs a_home a_depth a_closer a_mate a_operands a_varies a_parted a_variableVaries a_same a_fixed a_worth a_needed a_variableNeeded a_values a_variables a_outputs a_cells a_whole a_waiting (d + 1) (nI (t + 1)) := fun hn =>
      ih (t + 1) (by omega) (fun l hl => by
        by_cases e : l = t
        · rw [e]; exact hn
        · exact hno l (by omega))
    refine br_f (nI_ge (b := 4) (by omega) (by decide)) ?_
    refine rx_isOn hw (by omega) eon (fun ho => br_f (by decide) ?_) (fun ho => br_t rfl (nm_r (nI_1 t) (next (fun h => by rw [ho] at h; cases h.1))))
    refine rx_isDropped hdw (by omega) edr (fun hd => br_f (by decide) (nm_r (nI_1 t) (next (fun h => by rw [hd] at h; cases h.2)))) (fun hd => br_t rfl ?_)
    exact rx_read (K := K) (n := n) (T := T) (s := 0) hP hR hgT hi (by omega) (by omega) (fun _ => h1 t (by omega) ⟨ho, hd⟩ hno) (fun h' => absurd u0 h')
end
section
variable {K : Nat → Nat} {n : Nat} {T : Nat → Nat × Bool × Int32} {br : Int32}
variable {f_lines f_known f_wrong f_place f_blocks f_steps f_dropped f_on f_next f_again f_depth : Int32} {a_ops a_as a_bs a_cs a_blockOf a_opener a_around a_other a_end a_open a_varied a_loose a_variedVariable a_stands a_number a_isConst a_needed a_inputs a_values a_variables a_cells a_outs a_was a_rest a_line : Nat → Int32}
theorem ry_mask5 (hn : n ≤ 48) (hR : sh_R T n a_stands a_isConst a_number) (hgT : ∀ j, j < n → sh_good T j) {post : Int32 → Prop} {o : Nat} (ho : o < n) (h : ∀ m, m < 16 → (∀ l, l < 4 → m.testBit l = !(rv br T a_values o l == 0)) → post (nI m)) :
    ∀ d t m : Nat, t + d = 4 → m < 16 → (∀ l, l < 4 → m.testBit l = (decide (l < t) && !(rv br T a_values o l == 0))) → wY_mask_5 post (nI o) br f_lines f_known f_wrong f_place f_blocks f_steps f_dropped f_on f_next f_again f_depth a_ops a_as a_bs a_cs a_blockOf a_opener a_around a_other a_end a_open a_varied a_loose a_variedVariable a_stands a_number a_isConst a_needed a_inputs a_values a_variables a_cells a_outs a_was a_rest a_line (d + 1) (nI m) (nI t) := by
  intro d
  induction d with
  | zero =>
    intro t m ht hm hb
    cases (show t = 4 by omega)
    refine br_t (by decide) (h m hm (fun l hl => ?_))
    rw [hb l hl]; simp [hl]
  | succ d ih =>
    intro t m ht hm hb
    refine br_f (nI_ge (b := 4) (by omega) (by decide)) ?_
    refine ry_value (n := n) (T := T) hn hR hgT ho (by omega) ?_
    refine br_c (fun hz => nm_r (nI_1 t) (ih (t + 1) m (by omega) hm (fun l hl => ?_))) (fun hz => nm_r (mk_set m hm t (by omega)).1 (nm_r (nI_1 t) (ih (t + 1) (m ||| 2 ^ t) (by omega) (mk_set m hm t (by omega)).2 (fun l hl => ?_))))
    · rw [hb l hl]
      by_cases e : l = t
      · subst e; simp [hz]
      · have : decide (l < t) = decide (l < t + 1) := by
          have : (l < t) ↔ (l < t + 1) := by omega
          simp only [this]
        rw [this]
    · rw [mk_setb m hm t (by omega) l hl, hb l hl]
      by_cases e : l = t
      · subst e; simp [hz]
      · have h1 : decide (l < t) = decide (l < t + 1) := by
          have : (l < t) ↔ (l < t + 1) := by omega
          simp only [this]
        rw [h1]; simp [e]
theorem ry_mask (hn : n ≤ 48) (hR : sh_R T n a_stands a_isConst a_number) (hgT : ∀ j, j < n → sh_good T j) {post : Int32 → Prop} {o : Nat} (ho : o < n) (h : ∀ m, m < 16 → (∀ l, l < 4 → m.testBit l = !(rv br T a_values o l == 0)) → post (nI m)) : wpY_mask post (f_lines, f_known, f_wrong, f_place, f_blocks, f_steps, f_dropped, f_on, f_next, f_again, f_depth, a_ops, a_as, a_bs, a_cs, a_blockOf, a_opener, a_around, a_other, a_end, a_open, a_varied, a_loose, a_variedVariable, a_stands, a_number, a_isConst, a_needed, a_inputs, a_values, a_variables, a_cells, a_outs, a_was, a_rest, a_line) (nI o) br :=
  ⟨5, ry_mask5 (n := n) (T := T) hn hR hgT ho h 4 0 0 rfl (by omega) (fun l hl => by simp)⟩
theorem ry_first (hn : n ≤ 48) (hR : sh_R T n a_stands a_isConst a_number) (hgT : ∀ j, j < n → sh_good T j) {post : Int32 → Prop} {o w : Nat} (ho : o < n) (hw : w < 16)
    (h1 : ∀ l, l < 4 → w.testBit l = true → (∀ q, q < l → ¬ w.testBit q = true) → post (rv br T a_values o l)) (h0 : (∀ q, q < 4 → ¬ w.testBit q = true) → post 0) :
    ∀ d t : Nat, t + d = 4 → (∀ l, l < t → ¬ w.testBit l = true) → wY_result_236 post br (nI o) (nI w) f_lines f_known f_wrong f_place f_blocks f_steps f_dropped f_on f_next f_again f_depth a_ops a_as a_bs a_cs a_blockOf a_opener a_around a_other a_end a_open a_varied a_loose a_variedVariable a_stands a_number a_isConst a_needed a_inputs a_values a_variables a_cells a_outs a_was a_rest a_line (d + 1) (nI t) := by
  intro d
  induction d with
  | zero =>
    intro t ht hno
    cases (show t = 4 by omega)
    exact br_t (by decide) (br_t rfl (h0 hno))
  | succ d ih =>
    intro t ht hno
    refine br_f (nI_ge (b := 4) (by omega) (by decide)) ?_
    cases hb : w.testBit t with
    | false =>
      refine br_t ((mk_bit w hw t (by omega)).1.mpr hb) (nm_r (nI_1 t) (ih (t + 1) (by omega) (fun l hl => ?_)))
      by_cases e : l = t
      · rw [e, hb]; decide
      · exact hno l (by omega)
    | true =>
      refine br_f (fun h' => by have := (mk_bit w hw t (by omega)).1.mp h'; rw [hb] at this; cases this) (pk_eq t 4 (fun e => absurd e (by omega)) (fun _ => ?_))
      exact ry_value (n := n) (T := T) hn hR hgT ho (by omega) (h1 t (by omega) hb hno)
end
end
section
section
variable {K : Nat → Nat} {n : Nat} {T : Nat → Nat × Bool × Int32} {br : Int32}
variable {f_lines f_studied f_wrong f_wrongAt f_brief f_on f_dropped f_steps f_nextLine f_repeats : Int32} {a_kinds a_firsts a_seconds a_thirds a_inputs a_home a_depth a_closer a_mate a_operands a_varies a_parted a_variableVaries a_same a_fixed a_worth a_needed a_variableNeeded a_values a_variables a_outputs a_cells a_whole a_waiting : Nat → Int32}
variable {yf_lines yf_known yf_wrong yf_place yf_blocks yf_steps yf_dropped yf_on yf_next yf_again yf_depth : Int32} {ya_ops ya_as ya_bs ya_cs ya_blockOf ya_opener ya_around ya_other ya_end ya_open ya_varied ya_loose ya_variedVariable ya_stands ya_number ya_isConst ya_needed ya_inputs ya_values ya_variables ya_cells ya_outs ya_was ya_rest ya_line : Nat → Int32}
theorem ln_ops : ∀ l, l < 4 → (nI l ||| 1 = nI (l ||| 1) ∧ l ||| 1 < 4) ∧ (nI l &&& 2 = nI (l &&& 2) ∧ l &&& 2 < 4) ∧ (nI l ||| 2 = nI (l ||| 2) ∧ l ||| 2 < 4) ∧ (nI l &&& 1 = nI (l &&& 1) ∧ l &&& 1 < 4) := by decide +kernel
/-- the value of line i for lane l -/
noncomputable def vf (K : Nat → Nat) (A B C inp vars : Nat → Int32) (T : Nat → Nat × Bool × Int32) (br : Int32) (w dw i : Nat) (vals : Nat → Int32) (l : Nat) : Int32 :=
  if K i = 0 then A i else if K i = 1 then inp (4 * l + (A i).toNatClampNeg) else if K i = 2 then nI l
  else if 3 ≤ K i ∧ K i ≤ 9 then sh_rk (K i) (rv br T vals (sh_o A B C 0 i) l) (if K i = 9 then 0 else rv br T vals (sh_o A B C 1 i) l)
  else if K i = 10 then (if rv br T vals (sh_o A B C 0 i) l = 0 then rv br T vals (sh_o A B C 2 i) l else rv br T vals (sh_o A B C 1 i) l)
  else if K i = 11 then vars (l * 4 + (A i).toNatClampNeg)
  else if K i = 12 then rv br T vals (sh_o A B C 0 i) (l ||| 1) - rv br T vals (sh_o A B C 0 i) (l &&& 2)
  else if K i = 13 then rv br T vals (sh_o A B C 0 i) (l ||| 2) - rv br T vals (sh_o A B C 0 i) (l &&& 1)
  else if K i = 14 then @ite _ (∃ l, l < 4 ∧ w.testBit l = true ∧ dw.testBit l = false ∧ rv br T vals (sh_o A B C 0 i) l ≠ 0) (Classical.propDecidable _) 1 0
  else @dite _ (∃ q, q < 4 ∧ (w.testBit q = true ∧ dw.testBit q = false)) (Classical.propDecidable _) (fun h => rv br T vals (sh_o A B C 0 i) (Classical.choose (pk_least (fun q => q < 4 ∧ (w.testBit q = true ∧ dw.testBit q = false)) h))) (fun _ => 0)
theorem rn_val (hS : rn_stat K n T br f_lines f_brief a_kinds a_firsts a_seconds a_thirds a_inputs a_home a_depth a_closer a_mate a_operands a_same a_fixed a_worth a_needed yf_lines ya_ops ya_as ya_bs ya_cs ya_blockOf ya_opener ya_around ya_other ya_end ya_stands ya_number ya_isConst ya_needed ya_inputs) {i w dw l : Nat} (hi : i < n) (h15 : K i ≤ 15) (hl : l < 4) (hw : w < 16) (eon : f_on = nI w) (eyn : yf_on = f_on) (hdw : dw < 16) (edr : f_dropped = nI dw) (eyd : yf_dropped = f_dropped) (hv : ∀ q, q < 192 → a_values q = ya_values q) (hvar : va_R a_variables ya_variables) :
    ∃ r : Int32, r = vf K a_firsts a_seconds a_thirds a_inputs a_variables T br w dw i a_values l ∧ (∀ post : Int32 → SX → Prop, post r (f_lines, f_studied, f_wrong, f_wrongAt, f_brief, f_on, f_dropped, f_steps, f_nextLine, f_repeats, a_kinds, a_firsts, a_seconds, a_thirds, a_inputs, a_home, a_depth, a_closer, a_mate, a_operands, a_varies, a_parted, a_variableVaries, a_same, a_fixed, a_worth, a_needed, a_variableNeeded, a_values, a_variables, a_outputs, a_cells, a_whole, a_waiting) → wpX_valueFor post (f_lines, f_studied, f_wrong, f_wrongAt, f_brief, f_on, f_dropped, f_steps, f_nextLine, f_repeats, a_kinds, a_firsts, a_seconds, a_thirds, a_inputs, a_home, a_depth, a_closer, a_mate, a_operands, a_varies, a_parted, a_variableVaries, a_same, a_fixed, a_worth, a_needed, a_variableNeeded, a_values, a_variables, a_outputs, a_cells, a_whole, a_waiting) (nI i) (nI l)) ∧ (∀ post : Int32 → Prop, post r → wpY_result post (yf_lines, yf_known, yf_wrong, yf_place, yf_blocks, yf_steps, yf_dropped, yf_on, yf_next, yf_again, yf_depth, ya_ops, ya_as, ya_bs, ya_cs, ya_blockOf, ya_opener, ya_around, ya_other, ya_end, ya_open, ya_varied, ya_loose, ya_variedVariable, ya_stands, ya_number, ya_isConst, ya_needed, ya_inputs, ya_values, ya_variables, ya_cells, ya_outs, ya_was, ya_rest, ya_line) (nI i) (nI l) br) := by
  obtain ⟨hW, hok, hfr, hA, hc0, hB, ⟨e1, e2, e3, e4, e5⟩, ⟨hR, hR', hgT, hc10⟩, hnd, hself, hini, eb, hbr, el, el'⟩ := hS
  have hP := pg_xvP hW hok hA
  have hn := hW.1
  have hov := (sc_ck0 (hok i hi)).2.1
  have ki := hW.2.1 i hi
  have ci : (nI i).toNatClampNeg = i := nI_clamp (by omega)
  have ii : vp_in (nI i) 48 := vp_in_nI (by omega) (by omega)
  subst eb eyn eon eyd edr
  have kiy : ya_ops i = nI (K i) := by rw [e1]; exact ki.1
  have easy : ya_as i = a_firsts i := by rw [e2]
  have rd : ∀ s, s < 3 → sc_us (K i) s → sc_o3 a_firsts a_seconds a_thirds s i = nI (sh_o a_firsts a_seconds a_thirds s i) ∧ sh_o a_firsts a_seconds a_thirds s i < i := fun s hs hu => by
    obtain ⟨a, b, _⟩ := sh_ov_lt (by omega) (hov s hs hu); exact ⟨b, a⟩
  have er : ∀ s, s < 3 → sc_us (K i) s → ∀ m, m < 4 → rv f_brief T ya_values (sh_o a_firsts a_seconds a_thirds s i) m = rv f_brief T a_values (sh_o a_firsts a_seconds a_thirds s i) m := fun s hs hu m hm =>
    rv_eq (hgT _ (by have := (rd s hs hu).2; omega)).1 (fun q hq => (hv q (by have := (rd s hs hu).2; omega)).symm)
  have xr : ∀ (post : Int32 → Prop) (s m : Nat), s < 3 → m < 4 → sc_us (K i) s → post (rv f_brief T a_values (sh_o a_firsts a_seconds a_thirds s i) m) → wpX_read post (f_lines, f_studied, f_wrong, f_wrongAt, f_brief, nI w, nI dw, f_steps, f_nextLine, f_repeats, a_kinds, a_firsts, a_seconds, a_thirds, a_inputs, a_home, a_depth, a_closer, a_mate, a_operands, a_varies, a_parted, a_variableVaries, a_same, a_fixed, a_worth, a_needed, a_variableNeeded, a_values, a_variables, a_outputs, a_cells, a_whole, a_waiting) (nI i) (nI s) (nI m) := fun post s m hs hm hu h =>
    rx_read (K := K) (n := n) (T := T) hP hR hgT hi hs hm (fun _ => h) (fun h' => absurd hu h')
  have yr : ∀ (post : Int32 → Prop) (s m : Nat), s < 3 → m < 4 → sc_us (K i) s → post (rv f_brief T a_values (sh_o a_firsts a_seconds a_thirds s i) m) → wpY_value post (yf_lines, yf_known, yf_wrong, yf_place, yf_blocks, yf_steps, nI dw, nI w, yf_next, yf_again, yf_depth, ya_ops, ya_as, ya_bs, ya_cs, ya_blockOf, ya_opener, ya_around, ya_other, ya_end, ya_open, ya_varied, ya_loose, ya_variedVariable, ya_stands, ya_number, ya_isConst, ya_needed, ya_inputs, ya_values, ya_variables, ya_cells, ya_outs, ya_was, ya_rest, ya_line) (sc_o3 a_firsts a_seconds a_thirds s i) (nI m) f_brief := fun post s m hs hm hu h => by
    rw [(rd s hs hu).1]
    exact ry_value (n := n) (T := T) hn hR' hgT (by have := (rd s hs hu).2; omega) hm (by rw [er s hs hu m hm]; exact h)
  have o0 : sc_o3 a_firsts a_seconds a_thirds 0 i = a_firsts i := rfl
  have o1 : sc_o3 a_firsts a_seconds a_thirds 1 i = a_seconds i := rfl
  have o2 : sc_o3 a_firsts a_seconds a_thirds 2 i = a_thirds i := rfl
  have lo := ln_ops l hl
  by_cases k0 : K i = 0
  · refine ⟨a_firsts i, by unfold vf; rw [if_pos k0], fun post h => rx_switch (by omega) ki.1 (by omega) (fun _ => h) ?_ ?_ ?_ ?_ ?_ ?_ ?_ ?_ ?_ ?_, fun post h => ry_switch (by omega) kiy (by omega) easy (fun _ => h) ?_ ?_ ?_ ?_ ?_ ?_ ?_ ?_ ?_⟩ <;> (intro h'; exact absurd h' (by omega))
  by_cases k1 : K i = 1
  · obtain ⟨a, ha, ea⟩ := hW.2.2 i hi (by omega)
    refine ⟨a_inputs (4 * l + a), by unfold vf; rw [if_neg k0, if_pos k1, ea, nI_clamp (by omega)], fun post h => rx_switch (by omega) ki.1 (by omega) ?_ (fun _ => ?_) ?_ ?_ ?_ ?_ ?_ ?_ ?_ ?_ ?_, fun post h => ry_switch (by omega) kiy (by omega) easy ?_ (fun _ => ?_) ?_ ?_ ?_ ?_ ?_ ?_ ?_ ?_⟩
    case refine_2 => rw [ea, e_43, nI_clamp (by omega)]; exact ⟨vp_in_nI (by omega) (by omega), h⟩
    case refine_13 => rw [ea, e_44, nI_clamp (by omega), e5]; exact ⟨vp_in_nI (by omega) (by omega), h⟩
    all_goals (intro h'; exact absurd h' (by omega))
  by_cases k2 : K i = 2
  · refine ⟨nI l, by unfold vf; rw [if_neg k0, if_neg k1, if_pos k2], fun post h => rx_switch (by omega) ki.1 (by omega) ?_ ?_ (fun _ => h) ?_ ?_ ?_ ?_ ?_ ?_ ?_ ?_, fun post h => ry_switch (by omega) kiy (by omega) easy ?_ ?_ (fun _ => h) ?_ ?_ ?_ ?_ ?_ ?_ ?_⟩ <;> (intro h'; exact absurd h' (by omega))
  by_cases ks : 3 ≤ K i ∧ K i ≤ 9
  · have u0 : sc_us (K i) 0 := by unfold sc_us; omega
    have fx : ∀ post : Int32 → SX → Prop, post (sh_rk (K i) ((rv f_brief T a_values (sh_o a_firsts a_seconds a_thirds 0 i) l)) (if K i = 9 then 0 else (rv f_brief T a_values (sh_o a_firsts a_seconds a_thirds 1 i) l))) (f_lines, f_studied, f_wrong, f_wrongAt, f_brief, nI w, nI dw, f_steps, f_nextLine, f_repeats, a_kinds, a_firsts, a_seconds, a_thirds, a_inputs, a_home, a_depth, a_closer, a_mate, a_operands, a_varies, a_parted, a_variableVaries, a_same, a_fixed, a_worth, a_needed, a_variableNeeded, a_values, a_variables, a_outputs, a_cells, a_whole, a_waiting) → wX_valueFor_216 post (nI i) (nI l) f_lines f_studied f_wrong f_wrongAt f_brief (nI w) (nI dw) f_steps f_nextLine f_repeats a_kinds a_firsts a_seconds a_thirds a_inputs a_home a_depth a_closer a_mate a_operands a_varies a_parted a_variableVaries a_same a_fixed a_worth a_needed a_variableNeeded a_values a_variables a_outputs a_cells a_whole a_waiting := fun post h => by
      refine xr _ 0 l (by omega) hl u0 ?_
      by_cases e9 : K i = 9
      · rw [if_pos e9] at h
        refine rx_read (K := K) (n := n) (T := T) (s := 1) hP hR hgT hi (by omega) hl (fun h' => absurd h' (by unfold sc_us; omega)) (fun _ => ⟨ii, ?_⟩)
        rw [ci, ki.1]
        exact sx_result ks.1 ks.2 h
      · rw [if_neg e9] at h
        refine xr _ 1 l (by omega) hl (by unfold sc_us; omega) ⟨ii, ?_⟩
        rw [ci, ki.1]
        exact sx_result ks.1 ks.2 h
    have fy : ∀ post : Int32 → Prop, post (sh_rk (K i) ((rv f_brief T a_values (sh_o a_firsts a_seconds a_thirds 0 i) l)) (if K i = 9 then 0 else (rv f_brief T a_values (sh_o a_firsts a_seconds a_thirds 1 i) l))) → wY_result_278 post (nI i) (nI l) f_brief (nI (K i)) (a_firsts i) yf_lines yf_known yf_wrong yf_place yf_blocks yf_steps (nI dw) (nI w) yf_next yf_again yf_depth ya_ops ya_as ya_bs ya_cs ya_blockOf ya_opener ya_around ya_other ya_end ya_open ya_varied ya_loose ya_variedVariable ya_stands ya_number ya_isConst ya_needed ya_inputs ya_values ya_variables ya_cells ya_outs ya_was ya_rest ya_line := fun post h => by
      refine yr _ 0 l (by omega) hl u0 ?_
      refine pk_eq (K i) 9 (fun e9 => ?_) (fun e9 => ⟨ii, ?_⟩)
      · rw [if_pos e9] at h
        exact sy_reckon ks.1 ks.2 h
      · rw [if_neg e9] at h
        rw [ci, e3]
        have := yr (fun r_47 => wY_result_311 post (nI (K i)) ((rv f_brief T a_values (sh_o a_firsts a_seconds a_thirds 0 i) l)) r_47 yf_lines yf_known yf_wrong yf_place yf_blocks yf_steps (nI dw) (nI w) yf_next yf_again yf_depth ya_ops ya_as ya_bs ya_cs ya_blockOf ya_opener ya_around ya_other ya_end ya_open ya_varied ya_loose ya_variedVariable ya_stands ya_number ya_isConst ya_needed ya_inputs ya_values ya_variables ya_cells ya_outs ya_was ya_rest ya_line) 1 l (by omega) hl (by unfold sc_us; omega) (sy_reckon ks.1 ks.2 h)
        rw [e3] at this
        exact this
    refine ⟨_, by unfold vf; rw [if_neg k0, if_neg k1, if_neg k2, if_pos ks], fun post h => rx_switch (by omega) ki.1 (by omega) ?_ ?_ ?_ (fun _ _ => fx post h) ?_ ?_ ?_ ?_ ?_ ?_ ?_, fun post h => ry_switch (by omega) kiy (by omega) easy ?_ ?_ ?_ (fun _ _ => fy post h) ?_ ?_ ?_ ?_ ?_ ?_⟩ <;> (intro h'; exact absurd h' (by omega))
  by_cases k10 : K i = 10
  · have u0 : sc_us (K i) 0 := by unfold sc_us; omega
    have u1 : sc_us (K i) 1 := by unfold sc_us; omega
    have u2 : sc_us (K i) 2 := by unfold sc_us; omega
    by_cases hz : (rv f_brief T a_values (sh_o a_firsts a_seconds a_thirds 0 i) l) = 0
    · refine ⟨(rv f_brief T a_values (sh_o a_firsts a_seconds a_thirds 2 i) l), by unfold vf; rw [if_neg k0, if_neg k1, if_neg k2, if_neg ks, if_pos k10, if_pos hz], fun post h => rx_switch (by omega) ki.1 (by omega) ?_ ?_ ?_ ?_ (fun _ => xr _ 0 l (by omega) hl u0 (br_t hz (xr _ 2 l (by omega) hl u2 h))) ?_ ?_ ?_ ?_ ?_ ?_, fun post h => ry_switch (by omega) kiy (by omega) easy ?_ ?_ ?_ ?_ (fun _ => yr _ 0 l (by omega) hl u0 (br_t hz ⟨ii, ?_⟩)) ?_ ?_ ?_ ?_ ?_⟩
      case refine_15 => rw [e4]; have := yr (fun r_136 => post r_136) 2 l (by omega) hl u2 h; rw [e4] at this; exact this
      all_goals first | (intro h'; exact absurd h' (by omega)) | (intro h' h''; exact absurd h'' (by omega))
    · refine ⟨(rv f_brief T a_values (sh_o a_firsts a_seconds a_thirds 1 i) l), by unfold vf; rw [if_neg k0, if_neg k1, if_neg k2, if_neg ks, if_pos k10, if_neg hz], fun post h => rx_switch (by omega) ki.1 (by omega) ?_ ?_ ?_ ?_ (fun _ => xr _ 0 l (by omega) hl u0 (br_f hz (xr _ 1 l (by omega) hl u1 h))) ?_ ?_ ?_ ?_ ?_ ?_, fun post h => ry_switch (by omega) kiy (by omega) easy ?_ ?_ ?_ ?_ (fun _ => yr _ 0 l (by omega) hl u0 (br_f hz ⟨ii, ?_⟩)) ?_ ?_ ?_ ?_ ?_⟩
      case refine_15 => rw [e3]; have := yr (fun r_136 => post r_136) 1 l (by omega) hl u1 h; rw [e3] at this; exact this
      all_goals first | (intro h'; exact absurd h' (by omega)) | (intro h' h''; exact absurd h'' (by omega))
  by_cases k11 : K i = 11
  · obtain ⟨a, ha, ea⟩ := hW.2.2 i hi (by omega)
    refine ⟨a_variables (l * 4 + a), by unfold vf; rw [if_neg k0, if_neg k1, if_neg k2, if_neg ks, if_neg k10, if_pos k11, ea, nI_clamp (by omega)], fun post h => rx_switch (by omega) ki.1 (by omega) ?_ ?_ ?_ ?_ ?_ (fun _ => ?_) ?_ ?_ ?_ ?_ ?_, fun post h => ry_switch (by omega) kiy (by omega) easy ?_ ?_ ?_ ?_ ?_ (fun _ => ?_) ?_ ?_ ?_ ?_⟩
    case refine_6 => rw [ea, e_4l, nI_clamp (by omega)]; exact ⟨vp_in_nI (by omega) (by omega), h⟩
    case refine_17 => rw [ea, e_44, nI_clamp (by omega), ← hvar l hl a ha]; exact ⟨vp_in_nI (by omega) (by omega), h⟩
    all_goals first | (intro h'; exact absurd h' (by omega)) | (intro h' h''; exact absurd h'' (by omega))
  by_cases k12 : K i = 12
  · have u0 : sc_us (K i) 0 := by unfold sc_us; omega
    refine ⟨rv f_brief T a_values (sh_o a_firsts a_seconds a_thirds 0 i) (l ||| 1) - rv f_brief T a_values (sh_o a_firsts a_seconds a_thirds 0 i) (l &&& 2), by unfold vf; rw [if_neg k0, if_neg k1, if_neg k2, if_neg ks, if_neg k10, if_neg k11, if_pos k12], fun post h => rx_switch (by omega) ki.1 (by omega) ?_ ?_ ?_ ?_ ?_ ?_ (fun _ => ?_) ?_ ?_ ?_ ?_, fun post h => ry_switch (by omega) kiy (by omega) easy ?_ ?_ ?_ ?_ ?_ ?_ (fun _ => ?_) ?_ ?_ ?_⟩
    case refine_7 => rw [lo.1.1, lo.2.1.1]; exact xr _ 0 _ (by omega) lo.1.2 u0 (xr _ 0 _ (by omega) lo.2.1.2 u0 h)
    case refine_18 => rw [lo.1.1, lo.2.1.1]; exact yr _ 0 _ (by omega) lo.1.2 u0 (yr _ 0 _ (by omega) lo.2.1.2 u0 h)
    all_goals first | (intro h'; exact absurd h' (by omega)) | (intro h' h''; exact absurd h'' (by omega))
  by_cases k13 : K i = 13
  · have u0 : sc_us (K i) 0 := by unfold sc_us; omega
    refine ⟨rv f_brief T a_values (sh_o a_firsts a_seconds a_thirds 0 i) (l ||| 2) - rv f_brief T a_values (sh_o a_firsts a_seconds a_thirds 0 i) (l &&& 1), by unfold vf; rw [if_neg k0, if_neg k1, if_neg k2, if_neg ks, if_neg k10, if_neg k11, if_neg k12, if_pos k13], fun post h => rx_switch (by omega) ki.1 (by omega) ?_ ?_ ?_ ?_ ?_ ?_ ?_ (fun _ => ?_) ?_ ?_ ?_, fun post h => ry_switch (by omega) kiy (by omega) easy ?_ ?_ ?_ ?_ ?_ ?_ ?_ (fun _ => ?_) ?_ ?_⟩
    case refine_8 => rw [lo.2.2.1.1, lo.2.2.2.1]; exact xr _ 0 _ (by omega) lo.2.2.1.2 u0 (xr _ 0 _ (by omega) lo.2.2.2.2 u0 h)
    case refine_19 => rw [lo.2.2.1.1, lo.2.2.2.1]; exact yr _ 0 _ (by omega) lo.2.2.1.2 u0 (yr _ 0 _ (by omega) lo.2.2.2.2 u0 h)
    all_goals first | (intro h'; exact absurd h' (by omega)) | (intro h' h''; exact absurd h'' (by omega))
  have u0 : sc_us (K i) 0 := by unfold sc_us; omega
  have lx := mk_an w hw dw hdw
  have llt := (mk_lt w hw dw hdw).1
  have lb : ∀ q, q < 4 → ((w &&& (15 ^^^ dw)).testBit q = true ↔ (w.testBit q = true ∧ dw.testBit q = false)) := fun q hq => by
    rw [mk_anb w hw dw hdw q hq]; simp
  by_cases k14 : K i = 14
  · have fy : ∀ (post : Int32 → Prop), ((∃ l, l < 4 ∧ w.testBit l = true ∧ dw.testBit l = false ∧ rv f_brief T a_values (sh_o a_firsts a_seconds a_thirds 0 i) l ≠ 0) → post 1) → ((¬ ∃ l, l < 4 ∧ w.testBit l = true ∧ dw.testBit l = false ∧ rv f_brief T a_values (sh_o a_firsts a_seconds a_thirds 0 i) l ≠ 0) → post 0) → wpY_mask (fun r_327 => ((((r_327 &&& (nI w &&& (nI dw ^^^ (-1)))) = 0 → (post 0)) ∧ (¬ (r_327 &&& (nI w &&& (nI dw ^^^ (-1)))) = 0 → (post 1))))) (yf_lines, yf_known, yf_wrong, yf_place, yf_blocks, yf_steps, nI dw, nI w, yf_next, yf_again, yf_depth, ya_ops, ya_as, ya_bs, ya_cs, ya_blockOf, ya_opener, ya_around, ya_other, ya_end, ya_open, ya_varied, ya_loose, ya_variedVariable, ya_stands, ya_number, ya_isConst, ya_needed, ya_inputs, ya_values, ya_variables, ya_cells, ya_outs, ya_was, ya_rest, ya_line) (a_firsts i) f_brief := fun post h1 h0 => by
      rw [lx, show a_firsts i = nI (sh_o a_firsts a_seconds a_thirds 0 i) from (rd 0 (by omega) u0).1]
      refine ry_mask (n := n) (T := T) hn hR' hgT (by have := (rd 0 (by omega) u0).2; omega) (fun m hm hb => ?_)
      rw [mk_and m hm _ llt]
      have mlt := (mk_lt m hm _ llt).2.1
      refine br_c (fun hz => h0 ?_) (fun hz => h1 ?_)
      · rintro ⟨q, hq, a, b, c⟩
        have z := (mk_ne _ mlt).mp hz
        have : (m &&& (w &&& (15 ^^^ dw))).testBit q = true := by
          rw [Nat.testBit_and, hb q hq, er 0 (by omega) u0 q hq, (lb q hq).mpr ⟨a, b⟩]; simp [c]
        rw [z] at this; simp at this
      · refine Classical.byContradiction (fun hno => hz ?_)
        rw [mk_ne _ mlt]
        refine mk_zero _ mlt (fun q hq => ?_)
        rw [Nat.testBit_and, hb q hq, er 0 (by omega) u0 q hq]
        cases hlv : (w &&& (15 ^^^ dw)).testBit q with
        | false => simp
        | true =>
          have := (lb q hq).mp hlv
          by_cases hr : rv f_brief T a_values (sh_o a_firsts a_seconds a_thirds 0 i) q = 0
          · simp [hr]
          · exact absurd ⟨q, hq, this.1, this.2, hr⟩ hno
    have fx : ∀ (post : Int32 → Prop), ((∃ l, l < 4 ∧ w.testBit l = true ∧ dw.testBit l = false ∧ rv f_brief T a_values (sh_o a_firsts a_seconds a_thirds 0 i) l ≠ 0) → post 1) → ((¬ ∃ l, l < 4 ∧ w.testBit l = true ∧ dw.testBit l = false ∧ rv f_brief T a_values (sh_o a_firsts a_seconds a_thirds 0 i) l ≠ 0) → post 0) → wpX_anyOf post (f_lines, f_studied, f_wrong, f_wrongAt, f_brief, nI w, nI dw, f_steps, f_nextLine, f_repeats, a_kinds, a_firsts, a_seconds, a_thirds, a_inputs, a_home, a_depth, a_closer, a_mate, a_operands, a_varies, a_parted, a_variableVaries, a_same, a_fixed, a_worth, a_needed, a_variableNeeded, a_values, a_variables, a_outputs, a_cells, a_whole, a_waiting) (nI i) := fun post h1 h0 =>
      ⟨5, rx_any (K := K) (n := n) (T := T) (w := w) (dw := dw) hP hR hgT hi u0 hw rfl hdw rfl h1 h0 4 0 rfl (fun q hq => by omega)⟩
    by_cases hex : ∃ l, l < 4 ∧ w.testBit l = true ∧ dw.testBit l = false ∧ rv f_brief T a_values (sh_o a_firsts a_seconds a_thirds 0 i) l ≠ 0
    · refine ⟨1, by unfold vf; rw [if_neg k0, if_neg k1, if_neg k2, if_neg ks, if_neg k10, if_neg k11, if_neg k12, if_neg k13, if_pos k14, if_pos hex], fun post h => rx_switch (by omega) ki.1 (by omega) ?_ ?_ ?_ ?_ ?_ ?_ ?_ ?_ (fun _ => fx _ (fun _ => h) (fun hn => absurd hex hn)) ?_ ?_, fun post h => ry_switch (by omega) kiy (by omega) easy ?_ ?_ ?_ ?_ ?_ ?_ ?_ ?_ (fun _ => fy _ (fun _ => h) (fun hn => absurd hex hn)) ?_⟩ <;> first | (intro h'; exact absurd h' (by omega)) | (intro h' h''; exact absurd h'' (by omega))
    · refine ⟨0, by unfold vf; rw [if_neg k0, if_neg k1, if_neg k2, if_neg ks, if_neg k10, if_neg k11, if_neg k12, if_neg k13, if_pos k14, if_neg hex], fun post h => rx_switch (by omega) ki.1 (by omega) ?_ ?_ ?_ ?_ ?_ ?_ ?_ ?_ (fun _ => fx _ (fun hn => absurd hn hex) (fun _ => h)) ?_ ?_, fun post h => ry_switch (by omega) kiy (by omega) easy ?_ ?_ ?_ ?_ ?_ ?_ ?_ ?_ (fun _ => fy _ (fun hn => absurd hn hex) (fun _ => h)) ?_⟩ <;> first | (intro h'; exact absurd h' (by omega)) | (intro h' h''; exact absurd h'' (by omega))
  have k15 : K i = 15 := by omega
  have fx : ∀ (post : Int32 → Prop), (∀ l, l < 4 → (w.testBit l = true ∧ dw.testBit l = false) → (∀ q, q < l → ¬ (w.testBit q = true ∧ dw.testBit q = false)) → post (rv f_brief T a_values (sh_o a_firsts a_seconds a_thirds 0 i) l)) → ((∀ q, q < 4 → ¬ (w.testBit q = true ∧ dw.testBit q = false)) → post 0) → wpX_firstOf post (f_lines, f_studied, f_wrong, f_wrongAt, f_brief, nI w, nI dw, f_steps, f_nextLine, f_repeats, a_kinds, a_firsts, a_seconds, a_thirds, a_inputs, a_home, a_depth, a_closer, a_mate, a_operands, a_varies, a_parted, a_variableVaries, a_same, a_fixed, a_worth, a_needed, a_variableNeeded, a_values, a_variables, a_outputs, a_cells, a_whole, a_waiting) (nI i) := fun post h1 h0 =>
    ⟨5, rx_first (K := K) (n := n) (T := T) (w := w) (dw := dw) hP hR hgT hi u0 hw rfl hdw rfl h1 h0 4 0 rfl (fun q hq => by omega)⟩
  have fy : ∀ (post : Int32 → Prop), (∀ l, l < 4 → (w.testBit l = true ∧ dw.testBit l = false) → (∀ q, q < l → ¬ (w.testBit q = true ∧ dw.testBit q = false)) → post (rv f_brief T a_values (sh_o a_firsts a_seconds a_thirds 0 i) l)) → ((∀ q, q < 4 → ¬ (w.testBit q = true ∧ dw.testBit q = false)) → post 0) → ∃ m, wY_result_236 post f_brief (a_firsts i) (nI w &&& (nI dw ^^^ (-1))) yf_lines yf_known yf_wrong yf_place yf_blocks yf_steps (nI dw) (nI w) yf_next yf_again yf_depth ya_ops ya_as ya_bs ya_cs ya_blockOf ya_opener ya_around ya_other ya_end ya_open ya_varied ya_loose ya_variedVariable ya_stands ya_number ya_isConst ya_needed ya_inputs ya_values ya_variables ya_cells ya_outs ya_was ya_rest ya_line m 0 := fun post h1 h0 => by
    rw [lx, show a_firsts i = nI (sh_o a_firsts a_seconds a_thirds 0 i) from (rd 0 (by omega) u0).1]
    refine ⟨5, ry_first (n := n) (T := T) hn hR' hgT (by have := (rd 0 (by omega) u0).2; omega) llt (fun q hq hb hno => ?_) (fun hno => h0 (fun q hq h => hno q hq ((lb q hq).mpr h))) 4 0 rfl (fun q hq => by omega)⟩
    rw [er 0 (by omega) u0 q hq]
    exact h1 q hq ((lb q hq).mp hb) (fun q' hq' h => hno q' hq' ((lb q' (by omega)).mpr h))
  by_cases hex : ∃ q, q < 4 ∧ (w.testBit q = true ∧ dw.testBit q = false)
  · obtain ⟨q, eqq⟩ : ∃ q, q = Classical.choose (pk_least (fun q => q < 4 ∧ (w.testBit q = true ∧ dw.testBit q = false)) hex) := ⟨_, rfl⟩
    have sp := Classical.choose_spec (pk_least (fun q => q < 4 ∧ (w.testBit q = true ∧ dw.testBit q = false)) hex)
    rw [← eqq] at sp
    obtain ⟨⟨hq, hlv⟩, hmin⟩ := sp
    have uq : ∀ q', q' < 4 → (w.testBit q' = true ∧ dw.testBit q' = false) → (∀ p, p < q' → ¬ (w.testBit p = true ∧ dw.testBit p = false)) → q' = q := fun q' hq' h' hno' => by
      rcases Nat.lt_trichotomy q q' with z | z | z
      · exact absurd hlv (hno' q z)
      · exact z.symm
      · exact absurd ⟨hq', h'⟩ (hmin q' z)
    refine ⟨rv f_brief T a_values (sh_o a_firsts a_seconds a_thirds 0 i) q, by unfold vf; rw [if_neg k0, if_neg k1, if_neg k2, if_neg ks, if_neg k10, if_neg k11, if_neg k12, if_neg k13, if_neg k14, dif_pos hex, ← eqq], fun post h => rx_switch (by omega) ki.1 (by omega) ?_ ?_ ?_ ?_ ?_ ?_ ?_ ?_ ?_ (fun _ => fx _ (fun q' a b c => by rw [uq q' a b c]; exact h) (fun hn => absurd hlv (hn q hq))) ?_, fun post h => ry_switch (by omega) kiy (by omega) easy ?_ ?_ ?_ ?_ ?_ ?_ ?_ ?_ ?_ (fun _ => fy _ (fun q' a b c => by rw [uq q' a b c]; exact h) (fun hn => absurd hlv (hn q hq)))⟩ <;> first | (intro h'; exact absurd h' (by omega)) | (intro h' h''; exact absurd h'' (by omega))
  · refine ⟨0, by unfold vf; rw [if_neg k0, if_neg k1, if_neg k2, if_neg ks, if_neg k10, if_neg k11, if_neg k12, if_neg k13, if_neg k14, dif_neg hex], fun post h => rx_switch (by omega) ki.1 (by omega) ?_ ?_ ?_ ?_ ?_ ?_ ?_ ?_ ?_ (fun _ => fx _ (fun q' a b c => absurd ⟨q', a, b⟩ hex) (fun _ => h)) ?_, fun post h => ry_switch (by omega) kiy (by omega) easy ?_ ?_ ?_ ?_ ?_ ?_ ?_ ?_ ?_ (fun _ => fy _ (fun q' a b c => absurd ⟨q', a, b⟩ hex) (fun _ => h))⟩ <;> first | (intro h'; exact absurd h' (by omega)) | (intro h' h''; exact absurd h'' (by omega))
end
end
section
section
variable {K : Nat → Nat} {n : Nat} {T : Nat → Nat × Bool × Int32} {br : Int32}
variable {f_lines f_studied f_wrong f_wrongAt f_brief f_on f_dropped f_steps f_nextLine f_repeats : Int32} {a_kinds a_firsts a_seconds a_thirds a_inputs a_home a_depth a_closer a_mate a_operands a_varies a_parted a_variableVaries a_same a_fixed a_worth a_needed a_variableNeeded a_values a_variables a_outputs a_cells a_whole a_waiting : Nat → Int32}
variable {yf_lines yf_known yf_wrong yf_place yf_blocks yf_steps yf_dropped yf_on yf_next yf_again yf_depth : Int32} {ya_ops ya_as ya_bs ya_cs ya_blockOf ya_opener ya_around ya_other ya_end ya_open ya_varied ya_loose ya_variedVariable ya_stands ya_number ya_isConst ya_needed ya_inputs ya_values ya_variables ya_cells ya_outs ya_was ya_rest ya_line : Nat → Int32}
theorem gx_off {post : SX → Prop} {i t w d : Nat} (ht : t < 4) (hw : w < 16) (eon : f_on = nI w) (hb : w.testBit t = false) (h : wX_giveValue_2 post (nI i) d (nI (t + 1)) f_lines f_studied f_wrong f_wrongAt f_brief f_on f_dropped f_steps f_nextLine f_repeats a_kinds a_firsts a_seconds a_thirds a_inputs a_home a_depth a_closer a_mate a_operands a_varies a_parted a_variableVaries a_same a_fixed a_worth a_needed a_variableNeeded a_values a_variables a_outputs a_cells a_whole a_waiting) : wX_giveValue_2 post (nI i) (d + 1) (nI t) f_lines f_studied f_wrong f_wrongAt f_brief f_on f_dropped f_steps f_nextLine f_repeats a_kinds a_firsts a_seconds a_thirds a_inputs a_home a_depth a_closer a_mate a_operands a_varies a_parted a_variableVaries a_same a_fixed a_worth a_needed a_variableNeeded a_values a_variables a_outputs a_cells a_whole a_waiting :=
  br_f (nI_ge (b := 4) ht (by decide)) (rx_isOn hw ht eon (fun h' => by rw [hb] at h'; cases h') (fun _ => br_t rfl (nm_r (nI_1 t) h)))
theorem gx_on {post : SX → Prop} {i t w d : Nat} {r : Int32} (hi : i < 48) (ht : t < 4) (hw : w < 16) (eon : f_on = nI w) (hb : w.testBit t = true) {cells' : Nat → Int32} (rX : ∀ post : Int32 → SX → Prop, post r (f_lines, f_studied, f_wrong, f_wrongAt, f_brief, f_on, f_dropped, f_steps, f_nextLine, f_repeats, a_kinds, a_firsts, a_seconds, a_thirds, a_inputs, a_home, a_depth, a_closer, a_mate, a_operands, a_varies, a_parted, a_variableVaries, a_same, a_fixed, a_worth, a_needed, a_variableNeeded, a_values, a_variables, a_outputs, cells', a_whole, a_waiting) → wpX_valueFor post (f_lines, f_studied, f_wrong, f_wrongAt, f_brief, f_on, f_dropped, f_steps, f_nextLine, f_repeats, a_kinds, a_firsts, a_seconds, a_thirds, a_inputs, a_home, a_depth, a_closer, a_mate, a_operands, a_varies, a_parted, a_variableVaries, a_same, a_fixed, a_worth, a_needed, a_variableNeeded, a_values, a_variables, a_outputs, a_cells, a_whole, a_waiting) (nI i) (nI t)) (h : wX_giveValue_2 post (nI i) d (nI (t + 1)) f_lines f_studied f_wrong f_wrongAt f_brief f_on f_dropped f_steps f_nextLine f_repeats a_kinds a_firsts a_seconds a_thirds a_inputs a_home a_depth a_closer a_mate a_operands a_varies a_parted a_variableVaries a_same a_fixed a_worth a_needed a_variableNeeded (upd a_values (4 * i + t) r) a_variables a_outputs cells' a_whole a_waiting) : wX_giveValue_2 post (nI i) (d + 1) (nI t) f_lines f_studied f_wrong f_wrongAt f_brief f_on f_dropped f_steps f_nextLine f_repeats a_kinds a_firsts a_seconds a_thirds a_inputs a_home a_depth a_closer a_mate a_operands a_varies a_parted a_variableVaries a_same a_fixed a_worth a_needed a_variableNeeded a_values a_variables a_outputs a_cells a_whole a_waiting := by
  have e43 : (nI i * 4 + nI t).toNatClampNeg = 4 * i + t := by rw [e_43, nI_clamp (by omega)]
  have i43 : vp_in (nI i * 4 + nI t) 192 := by rw [e_43]; exact vp_in_nI (by omega) (by omega)
  refine br_f (nI_ge (b := 4) ht (by decide)) (rx_isOn hw ht eon (fun _ => br_f (by decide) (rX _ ?_)) (fun h' => by rw [hb] at h'; cases h'))
  exact ⟨i43, nm_r (by rw [e43]) (nm_r (nI_1 t) h)⟩
theorem gy_off {post : SY → Prop} {i t w d : Nat} (ht : t < 4) (hw : w < 16) (eon : yf_on = nI w) (hb : w.testBit t = false) (h : wY_step_39 post (nI i) br yf_lines yf_known yf_wrong yf_place yf_blocks yf_steps yf_dropped yf_on yf_next yf_again yf_depth d (nI (t + 1)) ya_ops ya_as ya_bs ya_cs ya_blockOf ya_opener ya_around ya_other ya_end ya_open ya_varied ya_loose ya_variedVariable ya_stands ya_number ya_isConst ya_needed ya_inputs ya_values ya_variables ya_cells ya_outs ya_was ya_rest ya_line) : wY_step_39 post (nI i) br yf_lines yf_known yf_wrong yf_place yf_blocks yf_steps yf_dropped yf_on yf_next yf_again yf_depth (d + 1) (nI t) ya_ops ya_as ya_bs ya_cs ya_blockOf ya_opener ya_around ya_other ya_end ya_open ya_varied ya_loose ya_variedVariable ya_stands ya_number ya_isConst ya_needed ya_inputs ya_values ya_variables ya_cells ya_outs ya_was ya_rest ya_line := by
  refine br_f (nI_ge (b := 4) ht (by decide)) (br_f (fun h' => ?_) (nm_r (nI_1 t) h))
  rw [eon] at h'
  have := (mk_bit w hw t ht).2.mp h'; rw [hb] at this; cases this
theorem gy_on {post : SY → Prop} {i t w d : Nat} {r : Int32} (hi : i < 48) (ht : t < 4) (hw : w < 16) (eon : yf_on = nI w) (hb : w.testBit t = true) (rY : ∀ post : Int32 → Prop, post r → wpY_result post (yf_lines, yf_known, yf_wrong, yf_place, yf_blocks, yf_steps, yf_dropped, yf_on, yf_next, yf_again, yf_depth, ya_ops, ya_as, ya_bs, ya_cs, ya_blockOf, ya_opener, ya_around, ya_other, ya_end, ya_open, ya_varied, ya_loose, ya_variedVariable, ya_stands, ya_number, ya_isConst, ya_needed, ya_inputs, ya_values, ya_variables, ya_cells, ya_outs, ya_was, ya_rest, ya_line) (nI i) (nI t) br) (h : wY_step_39 post (nI i) br yf_lines yf_known yf_wrong yf_place yf_blocks yf_steps yf_dropped yf_on yf_next yf_again yf_depth d (nI (t + 1)) ya_ops ya_as ya_bs ya_cs ya_blockOf ya_opener ya_around ya_other ya_end ya_open ya_varied ya_loose ya_variedVariable ya_stands ya_number ya_isConst ya_needed ya_inputs (upd ya_values (4 * i + t) r) ya_variables ya_cells ya_outs ya_was ya_rest ya_line) : wY_step_39 post (nI i) br yf_lines yf_known yf_wrong yf_place yf_blocks yf_steps yf_dropped yf_on yf_next yf_again yf_depth (d + 1) (nI t) ya_ops ya_as ya_bs ya_cs ya_blockOf ya_opener ya_around ya_other ya_end ya_open ya_varied ya_loose ya_variedVariable ya_stands ya_number ya_isConst ya_needed ya_inputs ya_values ya_variables ya_cells ya_outs ya_was ya_rest ya_line := by
  have e44 : (4 * nI i + nI t).toNatClampNeg = 4 * i + t := by rw [e_44, nI_clamp (by omega)]
  have i44 : vp_in (4 * nI i + nI t) 192 := by rw [e_44]; exact vp_in_nI (by omega) (by omega)
  refine br_f (nI_ge (b := 4) ht (by decide)) (br_t (by rw [eon]; exact (mk_bit w hw t ht).2.mpr hb) (rY _ ?_))
  exact ⟨i44, nm_r (by rw [e44]) (nm_r (nI_1 t) h)⟩
/-- a value for each lane that is on -/
theorem rn_give (hS : rn_stat K n T br f_lines f_brief a_kinds a_firsts a_seconds a_thirds a_inputs a_home a_depth a_closer a_mate a_operands a_same a_fixed a_worth a_needed yf_lines ya_ops ya_as ya_bs ya_cs ya_blockOf ya_opener ya_around ya_other ya_end ya_stands ya_number ya_isConst ya_needed ya_inputs) {i w dw : Nat} (hi : i < n) (h15 : K i ≤ 15) (hw : w < 16) (eon : f_on = nI w) (eyn : yf_on = f_on) (hdw : dw < 16) (edr : f_dropped = nI dw) (eyd : yf_dropped = f_dropped) (hvar : va_R a_variables ya_variables) : ∀ (d t : Nat) (vx vy : Nat → Int32), t + d = 4 → (∀ q, q < 192 → vx q = vy q) → ∃ vx' vy', (∀ q, q < 192 → vx' q = vy' q) ∧ vx' = la_f w (fun t s => upd s (4 * i + t) (vf K a_firsts a_seconds a_thirds a_inputs a_variables T br w dw i s t)) d t vx ∧
    (∀ post : SX → Prop, post (f_lines, f_studied, f_wrong, f_wrongAt, f_brief, f_on, f_dropped, f_steps, f_nextLine, f_repeats, a_kinds, a_firsts, a_seconds, a_thirds, a_inputs, a_home, a_depth, a_closer, a_mate, a_operands, a_varies, a_parted, a_variableVaries, a_same, a_fixed, a_worth, a_needed, a_variableNeeded, vx', a_variables, a_outputs, a_cells, a_whole, a_waiting) → wX_giveValue_2 post (nI i) (d + 1) (nI t) f_lines f_studied f_wrong f_wrongAt f_brief f_on f_dropped f_steps f_nextLine f_repeats a_kinds a_firsts a_seconds a_thirds a_inputs a_home a_depth a_closer a_mate a_operands a_varies a_parted a_variableVaries a_same a_fixed a_worth a_needed a_variableNeeded vx a_variables a_outputs a_cells a_whole a_waiting) ∧ (∀ post : SY → Prop, post (yf_lines, yf_known, yf_wrong, yf_place, yf_blocks, yf_steps, yf_dropped, yf_on, yf_next, yf_again, yf_depth, ya_ops, ya_as, ya_bs, ya_cs, ya_blockOf, ya_opener, ya_around, ya_other, ya_end, ya_open, ya_varied, ya_loose, ya_variedVariable, ya_stands, ya_number, ya_isConst, ya_needed, ya_inputs, vy', ya_variables, ya_cells, ya_outs, ya_was, ya_rest, ya_line) → wY_step_39 post (nI i) br yf_lines yf_known yf_wrong yf_place yf_blocks yf_steps yf_dropped yf_on yf_next yf_again yf_depth (d + 1) (nI t) ya_ops ya_as ya_bs ya_cs ya_blockOf ya_opener ya_around ya_other ya_end ya_open ya_varied ya_loose ya_variedVariable ya_stands ya_number ya_isConst ya_needed ya_inputs vy ya_variables ya_cells ya_outs ya_was ya_rest ya_line) := by
  have hn : n ≤ 48 := by obtain ⟨hW, _⟩ := hS; exact hW.1
  have eyw : yf_on = nI w := by rw [eyn]; exact eon
  intro d
  induction d with
  | zero =>
    intro t vx vy ht hv
    cases (show t = 4 by omega)
    exact ⟨vx, vy, hv, rfl, fun post h => br_t (by decide) h, fun post h => br_t (by decide) h⟩
  | succ d ih =>
    intro t vx vy ht hv
    cases hb : w.testBit t with
    | false =>
      obtain ⟨vx', vy', h1, h0, h2, h3⟩ := ih (t + 1) vx vy (by omega) hv
      exact ⟨vx', vy', h1, h0.trans (la_n hb).symm, fun post h => gx_off (by omega) hw eon hb (h2 post h), fun post h => gy_off (by omega) hw eyw hb (h3 post h)⟩
    | true =>
      have hv4 : ∃ r : Int32, r = vf K a_firsts a_seconds a_thirds a_inputs a_variables T br w dw i vx t ∧ (∀ post : Int32 → SX → Prop, post r (f_lines, f_studied, f_wrong, f_wrongAt, f_brief, f_on, f_dropped, f_steps, f_nextLine, f_repeats, a_kinds, a_firsts, a_seconds, a_thirds, a_inputs, a_home, a_depth, a_closer, a_mate, a_operands, a_varies, a_parted, a_variableVaries, a_same, a_fixed, a_worth, a_needed, a_variableNeeded, vx, a_variables, a_outputs, a_cells, a_whole, a_waiting) → wpX_valueFor post (f_lines, f_studied, f_wrong, f_wrongAt, f_brief, f_on, f_dropped, f_steps, f_nextLine, f_repeats, a_kinds, a_firsts, a_seconds, a_thirds, a_inputs, a_home, a_depth, a_closer, a_mate, a_operands, a_varies, a_parted, a_variableVaries, a_same, a_fixed, a_worth, a_needed, a_variableNeeded, vx, a_variables, a_outputs, a_cells, a_whole, a_waiting) (nI i) (nI t)) ∧ (∀ post : Int32 → Prop, post r → wpY_result post (yf_lines, yf_known, yf_wrong, yf_place, yf_blocks, yf_steps, yf_dropped, yf_on, yf_next, yf_again, yf_depth, ya_ops, ya_as, ya_bs, ya_cs, ya_blockOf, ya_opener, ya_around, ya_other, ya_end, ya_open, ya_varied, ya_loose, ya_variedVariable, ya_stands, ya_number, ya_isConst, ya_needed, ya_inputs, vy, ya_variables, ya_cells, ya_outs, ya_was, ya_rest, ya_line) (nI i) (nI t) br) := rn_val (K := K) (n := n) (T := T) (br := br) (a_values := vx) (ya_values := vy) hS hi h15 (show t < 4 by omega) hw eon eyn hdw edr eyd hv hvar
      obtain ⟨r, er, rX, rY⟩ := hv4
      obtain ⟨vx', vy', h1, h0, h2, h3⟩ := ih (t + 1) (upd vx (4 * i + t) r) (upd vy (4 * i + t) r) (by omega) (fun q hq => by
        by_cases e : q = 4 * i + t
        · rw [e, pk_us, pk_us]
        · rw [pk_un e, pk_un e]; exact hv q hq)
      exact ⟨vx', vy', h1, by rw [h0, la_t hb, ← er], fun post h => gx_on (by omega) (by omega) hw eon hb rX (h2 post h), fun post h => gy_on (by omega) (by omega) hw eyw hb rY (h3 post h)⟩
/-- one lane after the other takes from a cell -/
theorem tx_on (hP : xv_P K n a_kinds a_firsts a_seconds a_thirds a_home a_mate a_operands) (hR : sh_R T n a_same a_fixed a_worth) (hgT : ∀ j, j < n → sh_good T j) {i t a dw : Nat} (hi : i < n) (h16 : K i = 16) (ht : t < 4) (ha : a < 4) (ea : a_firsts i = nI a) (hdw : dw < 16) (edr : f_dropped = nI dw) (hd : dw.testBit t = false) {post : Int32 → SX → Prop} (h : post (a_cells a) (f_lines, f_studied, f_wrong, f_wrongAt, f_brief, f_on, f_dropped, f_steps, f_nextLine, f_repeats, a_kinds, a_firsts, a_seconds, a_thirds, a_inputs, a_home, a_depth, a_closer, a_mate, a_operands, a_varies, a_parted, a_variableVaries, a_same, a_fixed, a_worth, a_needed, a_variableNeeded, a_values, a_variables, a_outputs, upd a_cells a (a_cells a + rv f_brief T a_values (sh_o a_firsts a_seconds a_thirds 1 i) t), a_whole, a_waiting)) : wpX_valueFor post (f_lines, f_studied, f_wrong, f_wrongAt, f_brief, f_on, f_dropped, f_steps, f_nextLine, f_repeats, a_kinds, a_firsts, a_seconds, a_thirds, a_inputs, a_home, a_depth, a_closer, a_mate, a_operands, a_varies, a_parted, a_variableVaries, a_same, a_fixed, a_worth, a_needed, a_variableNeeded, a_values, a_variables, a_outputs, a_cells, a_whole, a_waiting) (nI i) (nI t) := by
  have hP' := hP
  obtain ⟨hn, hK, hgd, h4, hok, hH, hO⟩ := hP'
  have ci : (nI i).toNatClampNeg = i := nI_clamp (by omega)
  have ii : vp_in (nI i) 48 := vp_in_nI (by omega) (by omega)
  have ina : vp_in (nI a) 4 := vp_in_nI ha (by omega)
  have ca : (nI a).toNatClampNeg = a := nI_clamp (by omega)
  refine rx_switch (k := 16) (by omega) (by rw [(hK i hi).1, h16]) (by omega) ?_ ?_ ?_ ?_ ?_ ?_ ?_ ?_ ?_ ?_ (fun _ => ?_)
  case refine_11 =>
    unfold wpX_takeFrom
    refine rx_isDropped hdw ht edr (fun h' => by rw [hd] at h'; cases h') (fun _ => br_t rfl ?_)
    refine ⟨ii, nm_c ci ea ⟨ina, nm_e ?_⟩⟩
    refine rx_read (K := K) (n := n) (T := T) (s := 1) hP hR hgT hi (by omega) ht (fun _ => ⟨ina, ?_⟩) (fun h' => absurd (by unfold sc_us; omega) h')
    rw [ca]
    exact nm_e h
  all_goals first | (intro h'; exact absurd h' (by omega)) | (intro h' h''; exact absurd h'' (by omega))
theorem tx_off (hP : xv_P K n a_kinds a_firsts a_seconds a_thirds a_home a_mate a_operands) {i t dw : Nat} (hi : i < n) (h16 : K i = 16) (ht : t < 4) (hdw : dw < 16) (edr : f_dropped = nI dw) (hd : dw.testBit t = true) {post : Int32 → SX → Prop} (h : post 0 (f_lines, f_studied, f_wrong, f_wrongAt, f_brief, f_on, f_dropped, f_steps, f_nextLine, f_repeats, a_kinds, a_firsts, a_seconds, a_thirds, a_inputs, a_home, a_depth, a_closer, a_mate, a_operands, a_varies, a_parted, a_variableVaries, a_same, a_fixed, a_worth, a_needed, a_variableNeeded, a_values, a_variables, a_outputs, a_cells, a_whole, a_waiting)) : wpX_valueFor post (f_lines, f_studied, f_wrong, f_wrongAt, f_brief, f_on, f_dropped, f_steps, f_nextLine, f_repeats, a_kinds, a_firsts, a_seconds, a_thirds, a_inputs, a_home, a_depth, a_closer, a_mate, a_operands, a_varies, a_parted, a_variableVaries, a_same, a_fixed, a_worth, a_needed, a_variableNeeded, a_values, a_variables, a_outputs, a_cells, a_whole, a_waiting) (nI i) (nI t) := by
  obtain ⟨hn, hK, hgd, h4, hok, hH, hO⟩ := hP
  refine rx_switch (k := 16) (by omega) (by rw [(hK i hi).1, h16]) (by omega) ?_ ?_ ?_ ?_ ?_ ?_ ?_ ?_ ?_ ?_ (fun _ => ?_)
  case refine_11 =>
    unfold wpX_takeFrom
    exact rx_isDropped hdw ht edr (fun _ => br_f (by decide) h) (fun h' => by rw [hd] at h'; cases h')
  all_goals first | (intro h'; exact absurd h' (by omega)) | (intro h' h''; exact absurd h'' (by omega))
theorem ty_off {post : SY → Prop} {i t w d : Nat} (ht : t < 4) (hw : w < 16) (eon : yf_on = nI w) (hb : w.testBit t = false) (h : wY_take_2 post (nI i) br yf_lines yf_known yf_wrong yf_place yf_blocks yf_steps yf_dropped yf_on yf_next yf_again yf_depth d (nI (t + 1)) ya_ops ya_as ya_bs ya_cs ya_blockOf ya_opener ya_around ya_other ya_end ya_open ya_varied ya_loose ya_variedVariable ya_stands ya_number ya_isConst ya_needed ya_inputs ya_values ya_variables ya_cells ya_outs ya_was ya_rest ya_line) : wY_take_2 post (nI i) br yf_lines yf_known yf_wrong yf_place yf_blocks yf_steps yf_dropped yf_on yf_next yf_again yf_depth (d + 1) (nI t) ya_ops ya_as ya_bs ya_cs ya_blockOf ya_opener ya_around ya_other ya_end ya_open ya_varied ya_loose ya_variedVariable ya_stands ya_number ya_isConst ya_needed ya_inputs ya_values ya_variables ya_cells ya_outs ya_was ya_rest ya_line :=
  br_f (nI_ge (b := 4) ht (by decide)) (br_t (by rw [eon]; exact (mk_bit w hw t ht).1.mpr hb) (nm_r (nI_1 t) h))
theorem ty_drop {post : SY → Prop} {i t w dw d : Nat} (hi : i < 48) (ht : t < 4) (hw : w < 16) (eon : yf_on = nI w) (hb : w.testBit t = true) (hdw : dw < 16) (edr : yf_dropped = nI dw) (hd : dw.testBit t = true) (h : wY_take_2 post (nI i) br yf_lines yf_known yf_wrong yf_place yf_blocks yf_steps yf_dropped yf_on yf_next yf_again yf_depth d (nI (t + 1)) ya_ops ya_as ya_bs ya_cs ya_blockOf ya_opener ya_around ya_other ya_end ya_open ya_varied ya_loose ya_variedVariable ya_stands ya_number ya_isConst ya_needed ya_inputs (upd ya_values (4 * i + t) 0) ya_variables ya_cells ya_outs ya_was ya_rest ya_line) : wY_take_2 post (nI i) br yf_lines yf_known yf_wrong yf_place yf_blocks yf_steps yf_dropped yf_on yf_next yf_again yf_depth (d + 1) (nI t) ya_ops ya_as ya_bs ya_cs ya_blockOf ya_opener ya_around ya_other ya_end ya_open ya_varied ya_loose ya_variedVariable ya_stands ya_number ya_isConst ya_needed ya_inputs ya_values ya_variables ya_cells ya_outs ya_was ya_rest ya_line := by
  have e44 : (4 * nI i + nI t).toNatClampNeg = 4 * i + t := by rw [e_44, nI_clamp (by omega)]
  have i44 : vp_in (4 * nI i + nI t) 192 := by rw [e_44]; exact vp_in_nI (by omega) (by omega)
  refine br_f (nI_ge (b := 4) ht (by decide)) (br_f (fun h' => ?_) (br_f (fun h' => ?_) (br_t rfl ⟨i44, nm_r (by rw [e44]) (br_t rfl (nm_r (nI_1 t) h))⟩)))
  · rw [eon] at h'; have := (mk_bit w hw t ht).1.mp h'; rw [hb] at this; cases this
  · rw [edr] at h'; have := (mk_bit dw hdw t ht).1.mp h'; rw [hd] at this; cases this
theorem ty_on (hn : n ≤ 48) (hR : sh_R T n ya_stands ya_isConst ya_number) (hgT : ∀ j, j < n → sh_good T j) {post : SY → Prop} {i t w dw d a o : Nat} (hi : i < 48) (ht : t < 4) (hw : w < 16) (eon : yf_on = nI w) (hb : w.testBit t = true) (hdw : dw < 16) (edr : yf_dropped = nI dw) (hd : dw.testBit t = false) (ha : a < 4) (ea : ya_as i = nI a) (ho : o < n) (eo : ya_bs i = nI o) (h : wY_take_2 post (nI i) br yf_lines yf_known yf_wrong yf_place yf_blocks yf_steps yf_dropped yf_on yf_next yf_again yf_depth d (nI (t + 1)) ya_ops ya_as ya_bs ya_cs ya_blockOf ya_opener ya_around ya_other ya_end ya_open ya_varied ya_loose ya_variedVariable ya_stands ya_number ya_isConst ya_needed ya_inputs (upd ya_values (4 * i + t) (ya_cells a)) ya_variables (upd ya_cells a (ya_cells a + rv br T (upd ya_values (4 * i + t) (ya_cells a)) o t)) ya_outs ya_was ya_rest ya_line) : wY_take_2 post (nI i) br yf_lines yf_known yf_wrong yf_place yf_blocks yf_steps yf_dropped yf_on yf_next yf_again yf_depth (d + 1) (nI t) ya_ops ya_as ya_bs ya_cs ya_blockOf ya_opener ya_around ya_other ya_end ya_open ya_varied ya_loose ya_variedVariable ya_stands ya_number ya_isConst ya_needed ya_inputs ya_values ya_variables ya_cells ya_outs ya_was ya_rest ya_line := by
  have e44 : (4 * nI i + nI t).toNatClampNeg = 4 * i + t := by rw [e_44, nI_clamp (by omega)]
  have i44 : vp_in (4 * nI i + nI t) 192 := by rw [e_44]; exact vp_in_nI (by omega) (by omega)
  have ci : (nI i).toNatClampNeg = i := nI_clamp (by omega)
  have ii : vp_in (nI i) 48 := vp_in_nI (by omega) (by omega)
  have ina : vp_in (nI a) 4 := vp_in_nI ha (by omega)
  have ca : (nI a).toNatClampNeg = a := nI_clamp (by omega)
  refine br_f (nI_ge (b := 4) ht (by decide)) (br_f (fun h' => ?_) (br_t ?_ (br_f (by decide) ⟨ii, ?_⟩)))
  · rw [eon] at h'; have := (mk_bit w hw t ht).1.mp h'; rw [hb] at this; cases this
  · rw [edr]; exact (mk_bit dw hdw t ht).1.mpr hd
  · rw [ci, ea, ca]
    refine ⟨ina, i44, nm_r (e' := upd ya_values (4 * i + t) (ya_cells a)) (by rw [e44]) (br_f (by decide) ⟨ii, ?_⟩)⟩
    rw [ci, ea, eo]
    refine ⟨ina, ii, ?_⟩
    refine ry_value (n := n) (T := T) hn hR hgT ho ht ⟨ina, ?_⟩
    rw [ca]
    exact nm_e (nm_r (nI_1 t) h)
theorem rn_take (hS : rn_stat K n T br f_lines f_brief a_kinds a_firsts a_seconds a_thirds a_inputs a_home a_depth a_closer a_mate a_operands a_same a_fixed a_worth a_needed yf_lines ya_ops ya_as ya_bs ya_cs ya_blockOf ya_opener ya_around ya_other ya_end ya_stands ya_number ya_isConst ya_needed ya_inputs) {i w dw : Nat} (hi : i < n) (h16 : K i = 16) (hw : w < 16) (eon : f_on = nI w) (eyn : yf_on = f_on) (hdw : dw < 16) (edr : f_dropped = nI dw) (eyd : yf_dropped = f_dropped) : ∀ (d t : Nat) (vx vy cx cy : Nat → Int32), t + d = 4 → (∀ q, q < 192 → vx q = vy q) → (∀ q, q < 4 → cx q = cy q) → ∃ vx' vy' cx' cy', (∀ q, q < 192 → vx' q = vy' q) ∧ (∀ q, q < 4 → cx' q = cy' q) ∧ (vx', cx') = la_f w (fun t (s : (Nat → Int32) × (Nat → Int32)) => if dw.testBit t = true then (upd s.1 (4 * i + t) 0, s.2) else (upd s.1 (4 * i + t) (s.2 (a_firsts i).toNatClampNeg), upd s.2 (a_firsts i).toNatClampNeg (s.2 (a_firsts i).toNatClampNeg + rv br T s.1 (sh_o a_firsts a_seconds a_thirds 1 i) t))) d t (vx, cx) ∧
    (∀ post : SX → Prop, post (f_lines, f_studied, f_wrong, f_wrongAt, f_brief, f_on, f_dropped, f_steps, f_nextLine, f_repeats, a_kinds, a_firsts, a_seconds, a_thirds, a_inputs, a_home, a_depth, a_closer, a_mate, a_operands, a_varies, a_parted, a_variableVaries, a_same, a_fixed, a_worth, a_needed, a_variableNeeded, vx', a_variables, a_outputs, cx', a_whole, a_waiting) → wX_giveValue_2 post (nI i) (d + 1) (nI t) f_lines f_studied f_wrong f_wrongAt f_brief f_on f_dropped f_steps f_nextLine f_repeats a_kinds a_firsts a_seconds a_thirds a_inputs a_home a_depth a_closer a_mate a_operands a_varies a_parted a_variableVaries a_same a_fixed a_worth a_needed a_variableNeeded vx a_variables a_outputs cx a_whole a_waiting) ∧ (∀ post : SY → Prop, post (yf_lines, yf_known, yf_wrong, yf_place, yf_blocks, yf_steps, yf_dropped, yf_on, yf_next, yf_again, yf_depth, ya_ops, ya_as, ya_bs, ya_cs, ya_blockOf, ya_opener, ya_around, ya_other, ya_end, ya_open, ya_varied, ya_loose, ya_variedVariable, ya_stands, ya_number, ya_isConst, ya_needed, ya_inputs, vy', ya_variables, cy', ya_outs, ya_was, ya_rest, ya_line) → wY_take_2 post (nI i) br yf_lines yf_known yf_wrong yf_place yf_blocks yf_steps yf_dropped yf_on yf_next yf_again yf_depth (d + 1) (nI t) ya_ops ya_as ya_bs ya_cs ya_blockOf ya_opener ya_around ya_other ya_end ya_open ya_varied ya_loose ya_variedVariable ya_stands ya_number ya_isConst ya_needed ya_inputs vy ya_variables cy ya_outs ya_was ya_rest ya_line) := by
  obtain ⟨hW, hok, hfr, hA, hc0, hB, ⟨e1, e2, e3, e4, e5⟩, ⟨hR, hR', hgT, hc10⟩, hnd, hself, hini, eb, hbr, el, el'⟩ := hS
  have hP := pg_xvP hW hok hA
  have hn := hW.1
  have hov := (sc_ck0 (hok i hi)).2.1
  obtain ⟨a, ha, ea⟩ := hW.2.2 i hi (by omega)
  obtain ⟨o, eo, _⟩ := sh_ov_lt (by omega) (hov 1 (by omega) (by unfold sc_us; omega))
  have eo' : ya_bs i = nI (sh_o a_firsts a_seconds a_thirds 1 i) := by rw [e3]; exact eo
  have ea' : ya_as i = nI a := by rw [e2]; exact ea
  have eyw : yf_on = nI w := by rw [eyn]; exact eon
  have eyd' : yf_dropped = nI dw := by rw [eyd]; exact edr
  have ca : (a_firsts i).toNatClampNeg = a := by rw [ea, nI_clamp (by omega)]
  subst eb
  intro d
  induction d with
  | zero =>
    intro t vx vy cx cy ht hv hc
    cases (show t = 4 by omega)
    exact ⟨vx, vy, cx, cy, hv, hc, rfl, fun post h => br_t (by decide) h, fun post h => br_t (by decide) h⟩
  | succ d ih =>
    intro t vx vy cx cy ht hv hc
    have agree : ∀ r q, q < 192 → upd vx (4 * i + t) r q = upd vy (4 * i + t) r q := fun r q hq => by
      by_cases e : q = 4 * i + t
      · rw [e, pk_us, pk_us]
      · rw [pk_un e, pk_un e]; exact hv q hq
    cases hb : w.testBit t with
    | false =>
      obtain ⟨vx', vy', cx', cy', h0, h1, hq, h2, h3⟩ := ih (t + 1) vx vy cx cy (by omega) hv hc
      exact ⟨vx', vy', cx', cy', h0, h1, hq.trans (la_n hb).symm, fun post h => gx_off (by omega) hw eon hb (h2 post h), fun post h => ty_off (by omega) hw eyw hb (h3 post h)⟩
    | true =>
      cases hd : dw.testBit t with
      | true =>
        obtain ⟨vx', vy', cx', cy', h0, h1, hq, h2, h3⟩ := ih (t + 1) (upd vx (4 * i + t) 0) (upd vy (4 * i + t) 0) cx cy (by omega) (agree 0) hc
        exact ⟨vx', vy', cx', cy', h0, h1, by rw [hq, la_t hb, if_pos hd], fun post h => gx_on (by omega) (by omega) hw eon hb (fun p hp => tx_off (K := K) (n := n) hP hi h16 (by omega) hdw edr hd hp) (h2 post h), fun post h => ty_drop (by omega) (by omega) hw eyw hb hdw eyd' hd (h3 post h)⟩
      | false =>
        have er : rv f_brief T (upd vy (4 * i + t) (cy a)) (sh_o a_firsts a_seconds a_thirds 1 i) t = rv f_brief T vx (sh_o a_firsts a_seconds a_thirds 1 i) t := rv_eq (hgT _ (by omega)).1 (fun q hq => by
          rw [pk_un (by omega)]; exact (hv q (by omega)).symm)
        obtain ⟨vx', vy', cx', cy', h0, h1, hq, h2, h3⟩ := ih (t + 1) (upd vx (4 * i + t) (cx a)) (upd vy (4 * i + t) (cx a)) (upd cx a (cx a + rv f_brief T vx (sh_o a_firsts a_seconds a_thirds 1 i) t)) (upd cy a (cx a + rv f_brief T vx (sh_o a_firsts a_seconds a_thirds 1 i) t)) (by omega) (agree _) (fun q hq => by
          by_cases e : q = a
          · rw [e, pk_us, pk_us]
          · rw [pk_un e, pk_un e]; exact hc q hq)
        refine ⟨vx', vy', cx', cy', h0, h1, by rw [hq, la_t hb, if_neg (by rw [hd]; decide), ca], fun post h => gx_on (by omega) (by omega) hw eon hb (fun p hp => tx_on (K := K) (n := n) (T := T) hP hR hgT hi h16 (by omega) ha ea hdw edr hd hp) (h2 post h), fun post h => ty_on (n := n) (T := T) (a := a) (o := sh_o a_firsts a_seconds a_thirds 1 i) hn hR' hgT (by omega) (by omega) hw eyw hb hdw eyd' hd ha ea' (by omega) eo' ?_⟩
        rw [er, ← hc a ha]
        exact h3 post h
end
end
section
section
variable {K : Nat → Nat} {n : Nat} {T : Nat → Nat × Bool × Int32} {br : Int32}
variable {f_lines f_studied f_wrong f_wrongAt f_brief f_on f_dropped f_steps f_nextLine f_repeats : Int32} {a_kinds a_firsts a_seconds a_thirds a_inputs a_home a_depth a_closer a_mate a_operands a_varies a_parted a_variableVaries a_same a_fixed a_worth a_needed a_variableNeeded a_values a_variables a_outputs a_cells a_whole a_waiting : Nat → Int32}
/-- X's switch over lines -/
theorem rx_do {post : Int32 → SX → Prop} {i k : Nat} (hi : i < 48) (ki : a_kinds i = nI k) (hk : k ≤ 25)
    (cv : k ≤ 16 → wpX_giveValue (fun u => match u with | (f_lines, f_studied, f_wrong, f_wrongAt, f_brief, f_on, f_dropped, f_steps, f_nextLine, f_repeats, a_kinds, a_firsts, a_seconds, a_thirds, a_inputs, a_home, a_depth, a_closer, a_mate, a_operands, a_varies, a_parted, a_variableVaries, a_same, a_fixed, a_worth, a_needed, a_variableNeeded, a_values, a_variables, a_outputs, a_cells, a_whole, a_waiting) => (post (nI (i + 1)) (f_lines, f_studied, f_wrong, f_wrongAt, f_brief, f_on, f_dropped, f_steps, f_nextLine, f_repeats, a_kinds, a_firsts, a_seconds, a_thirds, a_inputs, a_home, a_depth, a_closer, a_mate, a_operands, a_varies, a_parted, a_variableVaries, a_same, a_fixed, a_worth, a_needed, a_variableNeeded, a_values, a_variables, a_outputs, a_cells, a_whole, a_waiting))) (f_lines, f_studied, f_wrong, f_wrongAt, f_brief, f_on, f_dropped, f_steps, f_nextLine, f_repeats, a_kinds, a_firsts, a_seconds, a_thirds, a_inputs, a_home, a_depth, a_closer, a_mate, a_operands, a_varies, a_parted, a_variableVaries, a_same, a_fixed, a_worth, a_needed, a_variableNeeded, a_values, a_variables, a_outputs, a_cells, a_whole, a_waiting) (nI i)) (c17 : k = 17 → wpX_putVariable (fun u => match u with | (f_lines, f_studied, f_wrong, f_wrongAt, f_brief, f_on, f_dropped, f_steps, f_nextLine, f_repeats, a_kinds, a_firsts, a_seconds, a_thirds, a_inputs, a_home, a_depth, a_closer, a_mate, a_operands, a_varies, a_parted, a_variableVaries, a_same, a_fixed, a_worth, a_needed, a_variableNeeded, a_values, a_variables, a_outputs, a_cells, a_whole, a_waiting) => (post (nI (i + 1)) (f_lines, f_studied, f_wrong, f_wrongAt, f_brief, f_on, f_dropped, f_steps, f_nextLine, f_repeats, a_kinds, a_firsts, a_seconds, a_thirds, a_inputs, a_home, a_depth, a_closer, a_mate, a_operands, a_varies, a_parted, a_variableVaries, a_same, a_fixed, a_worth, a_needed, a_variableNeeded, a_values, a_variables, a_outputs, a_cells, a_whole, a_waiting))) (f_lines, f_studied, f_wrong, f_wrongAt, f_brief, f_on, f_dropped, f_steps, f_nextLine, f_repeats, a_kinds, a_firsts, a_seconds, a_thirds, a_inputs, a_home, a_depth, a_closer, a_mate, a_operands, a_varies, a_parted, a_variableVaries, a_same, a_fixed, a_worth, a_needed, a_variableNeeded, a_values, a_variables, a_outputs, a_cells, a_whole, a_waiting) (nI i)) (c18 : k = 18 → wpX_putOutput (fun u => match u with | (f_lines, f_studied, f_wrong, f_wrongAt, f_brief, f_on, f_dropped, f_steps, f_nextLine, f_repeats, a_kinds, a_firsts, a_seconds, a_thirds, a_inputs, a_home, a_depth, a_closer, a_mate, a_operands, a_varies, a_parted, a_variableVaries, a_same, a_fixed, a_worth, a_needed, a_variableNeeded, a_values, a_variables, a_outputs, a_cells, a_whole, a_waiting) => (post (nI (i + 1)) (f_lines, f_studied, f_wrong, f_wrongAt, f_brief, f_on, f_dropped, f_steps, f_nextLine, f_repeats, a_kinds, a_firsts, a_seconds, a_thirds, a_inputs, a_home, a_depth, a_closer, a_mate, a_operands, a_varies, a_parted, a_variableVaries, a_same, a_fixed, a_worth, a_needed, a_variableNeeded, a_values, a_variables, a_outputs, a_cells, a_whole, a_waiting))) (f_lines, f_studied, f_wrong, f_wrongAt, f_brief, f_on, f_dropped, f_steps, f_nextLine, f_repeats, a_kinds, a_firsts, a_seconds, a_thirds, a_inputs, a_home, a_depth, a_closer, a_mate, a_operands, a_varies, a_parted, a_variableVaries, a_same, a_fixed, a_worth, a_needed, a_variableNeeded, a_values, a_variables, a_outputs, a_cells, a_whole, a_waiting) (nI i))
    (c19 : k = 19 → wpX_enterFirstPart (fun r_148 u => match u with | (f_lines, f_studied, f_wrong, f_wrongAt, f_brief, f_on, f_dropped, f_steps, f_nextLine, f_repeats, a_kinds, a_firsts, a_seconds, a_thirds, a_inputs, a_home, a_depth, a_closer, a_mate, a_operands, a_varies, a_parted, a_variableVaries, a_same, a_fixed, a_worth, a_needed, a_variableNeeded, a_values, a_variables, a_outputs, a_cells, a_whole, a_waiting) => (post r_148 (f_lines, f_studied, f_wrong, f_wrongAt, f_brief, f_on, f_dropped, f_steps, f_nextLine, f_repeats, a_kinds, a_firsts, a_seconds, a_thirds, a_inputs, a_home, a_depth, a_closer, a_mate, a_operands, a_varies, a_parted, a_variableVaries, a_same, a_fixed, a_worth, a_needed, a_variableNeeded, a_values, a_variables, a_outputs, a_cells, a_whole, a_waiting))) (f_lines, f_studied, f_wrong, f_wrongAt, f_brief, f_on, f_dropped, f_steps, f_nextLine, f_repeats, a_kinds, a_firsts, a_seconds, a_thirds, a_inputs, a_home, a_depth, a_closer, a_mate, a_operands, a_varies, a_parted, a_variableVaries, a_same, a_fixed, a_worth, a_needed, a_variableNeeded, a_values, a_variables, a_outputs, a_cells, a_whole, a_waiting) (nI i)) (c20 : k = 20 → wpX_enterSecondPart (fun r_148 u => match u with | (f_lines, f_studied, f_wrong, f_wrongAt, f_brief, f_on, f_dropped, f_steps, f_nextLine, f_repeats, a_kinds, a_firsts, a_seconds, a_thirds, a_inputs, a_home, a_depth, a_closer, a_mate, a_operands, a_varies, a_parted, a_variableVaries, a_same, a_fixed, a_worth, a_needed, a_variableNeeded, a_values, a_variables, a_outputs, a_cells, a_whole, a_waiting) => (post r_148 (f_lines, f_studied, f_wrong, f_wrongAt, f_brief, f_on, f_dropped, f_steps, f_nextLine, f_repeats, a_kinds, a_firsts, a_seconds, a_thirds, a_inputs, a_home, a_depth, a_closer, a_mate, a_operands, a_varies, a_parted, a_variableVaries, a_same, a_fixed, a_worth, a_needed, a_variableNeeded, a_values, a_variables, a_outputs, a_cells, a_whole, a_waiting))) (f_lines, f_studied, f_wrong, f_wrongAt, f_brief, f_on, f_dropped, f_steps, f_nextLine, f_repeats, a_kinds, a_firsts, a_seconds, a_thirds, a_inputs, a_home, a_depth, a_closer, a_mate, a_operands, a_varies, a_parted, a_variableVaries, a_same, a_fixed, a_worth, a_needed, a_variableNeeded, a_values, a_variables, a_outputs, a_cells, a_whole, a_waiting) (nI i))
    (c21 : k = 21 → (vp_in (a_depth i) 4 ∧ (∀ f_on_222 : Int32, f_on_222 = a_whole (a_depth i).toNatClampNeg → (post (nI (i + 1)) (f_lines, f_studied, f_wrong, f_wrongAt, f_brief, f_on_222, f_dropped, f_steps, f_nextLine, f_repeats, a_kinds, a_firsts, a_seconds, a_thirds, a_inputs, a_home, a_depth, a_closer, a_mate, a_operands, a_varies, a_parted, a_variableVaries, a_same, a_fixed, a_worth, a_needed, a_variableNeeded, a_values, a_variables, a_outputs, a_cells, a_whole, a_waiting)))))
    (c22 : k = 22 → (vp_in (a_depth i) 4 ∧ (∀ a_whole_226 : Nat → Int32, a_whole_226 = upd a_whole (a_depth i).toNatClampNeg f_on → (post (nI (i + 1)) (f_lines, f_studied, f_wrong, f_wrongAt, f_brief, f_on, f_dropped, f_steps, f_nextLine, f_repeats, a_kinds, a_firsts, a_seconds, a_thirds, a_inputs, a_home, a_depth, a_closer, a_mate, a_operands, a_varies, a_parted, a_variableVaries, a_same, a_fixed, a_worth, a_needed, a_variableNeeded, a_values, a_variables, a_outputs, a_cells, a_whole_226, a_waiting)))))
    (c23 : k = 23 → wpX_endRound (fun r_148 u => match u with | (f_lines, f_studied, f_wrong, f_wrongAt, f_brief, f_on, f_dropped, f_steps, f_nextLine, f_repeats, a_kinds, a_firsts, a_seconds, a_thirds, a_inputs, a_home, a_depth, a_closer, a_mate, a_operands, a_varies, a_parted, a_variableVaries, a_same, a_fixed, a_worth, a_needed, a_variableNeeded, a_values, a_variables, a_outputs, a_cells, a_whole, a_waiting) => (post r_148 (f_lines, f_studied, f_wrong, f_wrongAt, f_brief, f_on, f_dropped, f_steps, f_nextLine, f_repeats, a_kinds, a_firsts, a_seconds, a_thirds, a_inputs, a_home, a_depth, a_closer, a_mate, a_operands, a_varies, a_parted, a_variableVaries, a_same, a_fixed, a_worth, a_needed, a_variableNeeded, a_values, a_variables, a_outputs, a_cells, a_whole, a_waiting))) (f_lines, f_studied, f_wrong, f_wrongAt, f_brief, f_on, f_dropped, f_steps, f_nextLine, f_repeats, a_kinds, a_firsts, a_seconds, a_thirds, a_inputs, a_home, a_depth, a_closer, a_mate, a_operands, a_varies, a_parted, a_variableVaries, a_same, a_fixed, a_worth, a_needed, a_variableNeeded, a_values, a_variables, a_outputs, a_cells, a_whole, a_waiting) (nI i)) (c24 : k = 24 → wpX_leaveLoop (fun u => match u with | (f_lines, f_studied, f_wrong, f_wrongAt, f_brief, f_on, f_dropped, f_steps, f_nextLine, f_repeats, a_kinds, a_firsts, a_seconds, a_thirds, a_inputs, a_home, a_depth, a_closer, a_mate, a_operands, a_varies, a_parted, a_variableVaries, a_same, a_fixed, a_worth, a_needed, a_variableNeeded, a_values, a_variables, a_outputs, a_cells, a_whole, a_waiting) => (post (nI (i + 1)) (f_lines, f_studied, f_wrong, f_wrongAt, f_brief, f_on, f_dropped, f_steps, f_nextLine, f_repeats, a_kinds, a_firsts, a_seconds, a_thirds, a_inputs, a_home, a_depth, a_closer, a_mate, a_operands, a_varies, a_parted, a_variableVaries, a_same, a_fixed, a_worth, a_needed, a_variableNeeded, a_values, a_variables, a_outputs, a_cells, a_whole, a_waiting))) (f_lines, f_studied, f_wrong, f_wrongAt, f_brief, f_on, f_dropped, f_steps, f_nextLine, f_repeats, a_kinds, a_firsts, a_seconds, a_thirds, a_inputs, a_home, a_depth, a_closer, a_mate, a_operands, a_varies, a_parted, a_variableVaries, a_same, a_fixed, a_worth, a_needed, a_variableNeeded, a_values, a_variables, a_outputs, a_cells, a_whole, a_waiting) (nI i))
    (c25 : k = 25 → post (nI (i + 1)) (f_lines, f_studied, f_wrong, f_wrongAt, f_brief, f_on, f_dropped ||| f_on, f_steps, f_nextLine, f_repeats, a_kinds, a_firsts, a_seconds, a_thirds, a_inputs, a_home, a_depth, a_closer, a_mate, a_operands, a_varies, a_parted, a_variableVaries, a_same, a_fixed, a_worth, a_needed, a_variableNeeded, a_values, a_variables, a_outputs, a_cells, a_whole, a_waiting)) : wpX_doLine post (f_lines, f_studied, f_wrong, f_wrongAt, f_brief, f_on, f_dropped, f_steps, f_nextLine, f_repeats, a_kinds, a_firsts, a_seconds, a_thirds, a_inputs, a_home, a_depth, a_closer, a_mate, a_operands, a_varies, a_parted, a_variableVaries, a_same, a_fixed, a_worth, a_needed, a_variableNeeded, a_values, a_variables, a_outputs, a_cells, a_whole, a_waiting) (nI i) := by
  have ci : (nI i).toNatClampNeg = i := nI_clamp (by omega)
  have ii : vp_in (nI i) 48 := vp_in_nI (by omega) (by omega)
  refine ⟨ii, nm_c ci ki ?_⟩
  rw [nI_1, ci]
  exact pk_lt k 17 (fun h => cv (by omega)) (fun h17 => pk_lt 25 k (fun h => absurd h (by omega)) (fun _ => pk_eq k 17 c17 (fun _ => pk_eq k 18 c18 (fun _ => pk_eq k 19 c19 (fun _ => pk_eq k 20 c20 (fun _ => pk_eq k 21 (fun h => ⟨ii, c21 h⟩) (fun _ => pk_eq k 22 (fun h => ⟨ii, c22 h⟩) (fun _ => pk_eq k 23 c23 (fun _ => pk_eq k 24 c24 (fun _ => pk_eq k 25 (fun h => nm_e (c25 h)) (fun _ => trivial)))))))))))
/-- X at an IF -/
theorem rx_if4 (hP : xv_P K n a_kinds a_firsts a_seconds a_thirds a_home a_mate a_operands) (hR : sh_R T n a_same a_fixed a_worth) (hgT : ∀ j, j < n → sh_good T j) {post : Int32 → SX → Prop} {i w tk L q : Nat} (hi : i < n) (k19 : K i = 19) (hw : w < 16) (htk : tk < 16) (hL : L < 4) (eD : a_depth i = nI L) (hq : q < n) (eC : a_closer (i + 1) = nI q)
    (hb : ∀ l, l < 4 → tk.testBit l = (w.testBit l && !(rv f_brief T a_values (sh_o a_firsts a_seconds a_thirds 0 i) l == 0)))
    (h1 : tk ≠ 0 → post (nI (i + 1)) (f_lines, f_studied, f_wrong, f_wrongAt, f_brief, nI tk, f_dropped, f_steps, f_nextLine, f_repeats, a_kinds, a_firsts, a_seconds, a_thirds, a_inputs, a_home, a_depth, a_closer, a_mate, a_operands, a_varies, a_parted, a_variableVaries, a_same, a_fixed, a_worth, a_needed, a_variableNeeded, a_values, a_variables, a_outputs, a_cells, upd a_whole L (nI w), upd a_waiting L (nI (w &&& (15 ^^^ tk)))))
    (h2 : tk = 0 → K q = 20 → post (nI (q + 1)) (f_lines, f_studied, f_wrong, f_wrongAt, f_brief, nI (w &&& (15 ^^^ tk)), f_dropped, f_steps, f_nextLine, f_repeats, a_kinds, a_firsts, a_seconds, a_thirds, a_inputs, a_home, a_depth, a_closer, a_mate, a_operands, a_varies, a_parted, a_variableVaries, a_same, a_fixed, a_worth, a_needed, a_variableNeeded, a_values, a_variables, a_outputs, a_cells, upd a_whole L (nI w), upd a_waiting L (nI (w &&& (15 ^^^ tk)))))
    (h3 : tk = 0 → K q ≠ 20 → post (nI q) (f_lines, f_studied, f_wrong, f_wrongAt, f_brief, 0, f_dropped, f_steps, f_nextLine, f_repeats, a_kinds, a_firsts, a_seconds, a_thirds, a_inputs, a_home, a_depth, a_closer, a_mate, a_operands, a_varies, a_parted, a_variableVaries, a_same, a_fixed, a_worth, a_needed, a_variableNeeded, a_values, a_variables, a_outputs, a_cells, upd a_whole L (nI w), upd a_waiting L (nI (w &&& (15 ^^^ tk))))) :
    ∀ d t m : Nat, t + d = 4 → m < 16 → (∀ l, l < 4 → m.testBit l = (decide (l < t) && (w.testBit l && !(rv f_brief T a_values (sh_o a_firsts a_seconds a_thirds 0 i) l == 0)))) → wX_enterFirstPart_4 post (nI i) f_lines f_studied f_wrong f_wrongAt f_brief (nI w) f_dropped f_steps f_nextLine f_repeats a_kinds a_firsts a_seconds a_thirds a_inputs a_home a_depth a_closer a_mate a_operands a_varies a_parted a_variableVaries a_same a_fixed a_worth a_needed a_variableNeeded a_values a_variables a_outputs a_cells a_whole a_waiting (d + 1) (nI m) (nI t) := by
  have hP' := hP
  obtain ⟨hn, hK, hgd, h4, hok, hH, hO⟩ := hP'
  have ci : (nI i).toNatClampNeg = i := nI_clamp (by omega)
  have ii : vp_in (nI i) 48 := vp_in_nI (by omega) (by omega)
  have iL : vp_in (nI L) 4 := vp_in_nI hL (by omega)
  have cL : (nI L).toNatClampNeg = L := nI_clamp (by omega)
  intro d
  induction d with
  | zero =>
    intro t m ht hm hbm
    cases (show t = 4 by omega)
    have em : m = tk := mk_ext m hm tk htk (fun l hl => by rw [hbm l hl, hb l hl]; simp [hl])
    subst em
    refine br_t (by decide) ⟨ii, ?_⟩
    rw [ci, eD, cL]
    refine ⟨iL, nm_e ⟨ii, iL, nm_r (e' := upd a_waiting L (nI (w &&& (15 ^^^ m)))) (by rw [mk_an w hw m hm]) ?_⟩⟩
    refine pk_eq m 0 (fun e0 => ⟨?_, ?_⟩) (fun e0 => ?_)
    · rw [nI_1]; exact vp_in_nI (by omega) (by omega)
    · rw [nI_1, nI_clamp (show i + 1 < 2 ^ 31 by omega), eC]
      refine nm_e ⟨vp_in_nI (by omega) (by omega), ?_⟩
      rw [nI_clamp (show q < 2 ^ 31 by omega), (hK q hq).1]
      have kq := (hK q hq).2
      refine pk_eq (K q) 20 (fun e => ⟨ii, iL, nm_r (e' := nI (w &&& (15 ^^^ m))) pk_us ?_⟩) (fun e => ?_)
      · rw [nI_1]; exact h2 e0 e
      · have := h3 e0 e
        subst e0
        exact this
    · rw [nI_1]; exact h1 e0
  | succ d ih =>
    intro t m ht hm hbm
    have stay : (w.testBit t && !(rv f_brief T a_values (sh_o a_firsts a_seconds a_thirds 0 i) t == 0)) = false → wX_enterFirstPart_4 post (nI i) f_lines f_studied f_wrong f_wrongAt f_brief (nI w) f_dropped f_steps f_nextLine f_repeats a_kinds a_firsts a_seconds a_thirds a_inputs a_home a_depth a_closer a_mate a_operands a_varies a_parted a_variableVaries a_same a_fixed a_worth a_needed a_variableNeeded a_values a_variables a_outputs a_cells a_whole a_waiting (d + 1) (nI m) (nI (t + 1)) := fun hf => ih (t + 1) m (by omega) hm (fun l hl => by
      rw [hbm l hl]
      by_cases e : l = t
      · subst e; rw [hf]; simp
      · have : decide (l < t) = decide (l < t + 1) := by
          have : (l < t) ↔ (l < t + 1) := by omega
          simp only [this]
        rw [this])
    refine br_f (nI_ge (b := 4) (by omega) (by decide)) ?_
    refine rx_isOn hw (by omega) rfl (fun ho => br_f (by decide) ?_) (fun ho => br_t rfl (nm_r (nI_1 t) (stay (by rw [ho]; rfl))))
    refine rx_read (K := K) (n := n) (T := T) (s := 0) hP hR hgT hi (by omega) (by omega) (fun _ => br_c (fun hz => nm_r (nI_1 t) (stay (by rw [hz]; simp))) (fun hz => nm_r (mk_set m hm t (by omega)).1 (nm_r (nI_1 t) (ih (t + 1) (m ||| 2 ^ t) (by omega) (mk_set m hm t (by omega)).2 (fun l hl => ?_))))) (fun h' => absurd (by unfold sc_us; omega) h')
    rw [mk_setb m hm t (by omega) l hl, hbm l hl]
    by_cases e : l = t
    · subst e; rw [ho]; simp [hz]
    · have h1 : decide (l < t) = decide (l < t + 1) := by
        have : (l < t) ↔ (l < t + 1) := by omega
        simp only [this]
      rw [h1]; simp [e]
/-- masks behind a BREAK -/
def bk (K : Nat → Nat) (on : Int32) : List (Nat × Nat) → (Nat → Int32) → Nat → Int32
  | [], wh => wh
  | f :: r, wh => if K f.2 = 22 then wh else bk K on r (upd wh r.length (wh r.length &&& (on ^^^ (-1))))
/-- X at a BREAK -/
theorem rx_break9 (hn : n ≤ 48) (hK : ∀ j, j < n → a_kinds j = nI (K j) ∧ K j ≤ 25) (hg : sc_good K n) (hA : ∀ j, j < n → a_home j = nI (sc_hd (sc_lf K j)) ∧ a_depth j = nI (sc_lf K j).length) {post : SX → Prop} :
    ∀ (l : List (Nat × Nat)) (j t : Nat) (wh : Nat → Int32), j ≤ n → sc_fr K j = l → t + l.length ≤ 4 → post (f_lines, f_studied, f_wrong, f_wrongAt, f_brief, 0, f_dropped, f_steps, f_nextLine, f_repeats, a_kinds, a_firsts, a_seconds, a_thirds, a_inputs, a_home, a_depth, a_closer, a_mate, a_operands, a_varies, a_parted, a_variableVaries, a_same, a_fixed, a_worth, a_needed, a_variableNeeded, a_values, a_variables, a_outputs, a_cells, bk K f_on l wh, a_waiting) → ∀ d, l.length < d → wX_leaveLoop_9 post f_lines f_studied f_wrong f_wrongAt f_brief f_on f_dropped f_steps f_nextLine f_repeats d (nI (sc_hd l)) (nI t) a_kinds a_firsts a_seconds a_thirds a_inputs a_home a_depth a_closer a_mate a_operands a_varies a_parted a_variableVaries a_same a_fixed a_worth a_needed a_variableNeeded a_values a_variables a_outputs a_cells wh a_waiting := by
  intro l
  induction l with
  | nil =>
    intro j t wh hj e ht h d hd
    obtain ⟨d, rfl⟩ : ∃ e, d = e + 1 := ⟨d - 1, by simp at hd; omega⟩
    exact br_c (fun _ => h) (fun _ => br_t rfl h)
  | cons f r ih =>
    obtain ⟨b, m⟩ := f
    intro j t wh hj e ht h d hd
    have T := sc_top j (sc_good_le hg hj) _ _ _ e
    simp only [List.length_cons] at ht hd
    obtain ⟨d, rfl⟩ : ∃ e, d = e + 1 := ⟨d - 1, by omega⟩
    have tb : b ≤ n := by have := T.2.1; omega
    have tb1 := T.1
    have tm := T.2.2.1
    have ei : nI b - 1 = nI (b - 1) := nb_m1 tb1
    have cl : (nI b - 1).toNatClampNeg = b - 1 := by rw [ei, nI_clamp (by omega)]
    have hin : vp_in (nI b - 1) 48 := by rw [ei]; exact vp_in_nI (by omega) (by omega)
    have kb := hK (b - 1) (by omega)
    have hb := hA (b - 1) (by omega)
    rw [sc_hd_cons]
    refine br_f (nI_ge (b := 4) (by omega) (by decide)) (br_f (nI_ne0 (by omega) (by omega)) ⟨hin, ?_⟩)
    rw [cl, kb.1, hb.1, hb.2, T.2.2.2.2.1, nI_clamp (show r.length < 2 ^ 31 by omega)]
    unfold bk at h
    refine pk_eq (K (b - 1)) 22 (fun h22 => ?_) (fun h22 => ⟨hin, vp_in_nI (by omega) (by omega), vp_in_nI (by omega) (by omega), nm_e ⟨hin, nm_e (nm_r (nI_1 t) (ih m (t + 1) _ (by omega) T.2.2.2.2.2.1 (by omega) ?_ d (by omega)))⟩⟩)
    · have km : K m = 22 := by
        rcases T.2.2.2.1 with ⟨h, _⟩ | ⟨h, _⟩
        · rw [h, Nat.add_sub_cancel] at h22; exact h22
        · omega
      rw [if_pos km] at h; exact h
    · have km : K m ≠ 22 := by
        rcases T.2.2.2.1 with ⟨h, _⟩ | ⟨_, h, _⟩
        · rw [h, Nat.add_sub_cancel] at h22; exact h22
        · omega
      rw [if_neg km] at h; exact h
end
section
variable {K : Nat → Nat} {n : Nat} {T : Nat → Nat × Bool × Int32} {br : Int32}
variable {f_lines f_known f_wrong f_place f_blocks f_steps f_dropped f_on f_next f_again f_depth : Int32} {a_ops a_as a_bs a_cs a_blockOf a_opener a_around a_other a_end a_open a_varied a_loose a_variedVariable a_stands a_number a_isConst a_needed a_inputs a_values a_variables a_cells a_outs a_was a_rest a_line : Nat → Int32}
theorem ry_do {post : SY → Prop} {i k : Nat} (hi : i < 48) (ki : a_ops i = nI k) (hk : k ≤ 25)
    (c16 : k = 16 → wpY_take (fun u => match u with | (f_lines, f_known, f_wrong, f_place, f_blocks, f_steps, f_dropped, f_on, f_next, f_again, f_depth, a_ops, a_as, a_bs, a_cs, a_blockOf, a_opener, a_around, a_other, a_end, a_open, a_varied, a_loose, a_variedVariable, a_stands, a_number, a_isConst, a_needed, a_inputs, a_values, a_variables, a_cells, a_outs, a_was, a_rest, a_line) => (post (f_lines, f_known, f_wrong, f_place, f_blocks, f_steps, f_dropped, f_on, f_next, f_again, f_depth, a_ops, a_as, a_bs, a_cs, a_blockOf, a_opener, a_around, a_other, a_end, a_open, a_varied, a_loose, a_variedVariable, a_stands, a_number, a_isConst, a_needed, a_inputs, a_values, a_variables, a_cells, a_outs, a_was, a_rest, a_line))) (f_lines, f_known, f_wrong, f_place, f_blocks, f_steps, f_dropped, f_on, nI (i + 1), f_again, f_depth, a_ops, a_as, a_bs, a_cs, a_blockOf, a_opener, a_around, a_other, a_end, a_open, a_varied, a_loose, a_variedVariable, a_stands, a_number, a_isConst, a_needed, a_inputs, a_values, a_variables, a_cells, a_outs, a_was, a_rest, a_line) (nI i) br) (cv : k ≤ 15 → ∃ m, wY_step_39 post (nI i) br f_lines f_known f_wrong f_place f_blocks f_steps f_dropped f_on (nI (i + 1)) f_again f_depth m 0 a_ops a_as a_bs a_cs a_blockOf a_opener a_around a_other a_end a_open a_varied a_loose a_variedVariable a_stands a_number a_isConst a_needed a_inputs a_values a_variables a_cells a_outs a_was a_rest a_line)
    (c17 : k = 17 → ∃ m, wY_step_101 post (nI i) br 17 f_lines f_known f_wrong f_place f_blocks f_steps f_dropped f_on (nI (i + 1)) f_again f_depth m 0 a_ops a_as a_bs a_cs a_blockOf a_opener a_around a_other a_end a_open a_varied a_loose a_variedVariable a_stands a_number a_isConst a_needed a_inputs a_values a_variables a_cells a_outs a_was a_rest a_line) (c18 : k = 18 → ∃ m, wY_step_101 post (nI i) br 18 f_lines f_known f_wrong f_place f_blocks f_steps f_dropped f_on (nI (i + 1)) f_again f_depth m 0 a_ops a_as a_bs a_cs a_blockOf a_opener a_around a_other a_end a_open a_varied a_loose a_variedVariable a_stands a_number a_isConst a_needed a_inputs a_values a_variables a_cells a_outs a_was a_rest a_line)
    (c25 : k = 25 → post (f_lines, f_known, f_wrong, f_place, f_blocks, f_steps, f_dropped ||| f_on, f_on, nI (i + 1), f_again, f_depth, a_ops, a_as, a_bs, a_cs, a_blockOf, a_opener, a_around, a_other, a_end, a_open, a_varied, a_loose, a_variedVariable, a_stands, a_number, a_isConst, a_needed, a_inputs, a_values, a_variables, a_cells, a_outs, a_was, a_rest, a_line)) (cf : 19 ≤ k → k ≤ 24 → wpY_flow (fun u => match u with | (f_lines, f_known, f_wrong, f_place, f_blocks, f_steps, f_dropped, f_on, f_next, f_again, f_depth, a_ops, a_as, a_bs, a_cs, a_blockOf, a_opener, a_around, a_other, a_end, a_open, a_varied, a_loose, a_variedVariable, a_stands, a_number, a_isConst, a_needed, a_inputs, a_values, a_variables, a_cells, a_outs, a_was, a_rest, a_line) => (post (f_lines, f_known, f_wrong, f_place, f_blocks, f_steps, f_dropped, f_on, f_next, f_again, f_depth, a_ops, a_as, a_bs, a_cs, a_blockOf, a_opener, a_around, a_other, a_end, a_open, a_varied, a_loose, a_variedVariable, a_stands, a_number, a_isConst, a_needed, a_inputs, a_values, a_variables, a_cells, a_outs, a_was, a_rest, a_line))) (f_lines, f_known, f_wrong, f_place, f_blocks, f_steps, f_dropped, f_on, nI (i + 1), f_again, f_depth, a_ops, a_as, a_bs, a_cs, a_blockOf, a_opener, a_around, a_other, a_end, a_open, a_varied, a_loose, a_variedVariable, a_stands, a_number, a_isConst, a_needed, a_inputs, a_values, a_variables, a_cells, a_outs, a_was, a_rest, a_line) (nI i) (nI k) br) : wpY_step post (f_lines, f_known, f_wrong, f_place, f_blocks, f_steps, f_dropped, f_on, f_next, f_again, f_depth, a_ops, a_as, a_bs, a_cs, a_blockOf, a_opener, a_around, a_other, a_end, a_open, a_varied, a_loose, a_variedVariable, a_stands, a_number, a_isConst, a_needed, a_inputs, a_values, a_variables, a_cells, a_outs, a_was, a_rest, a_line) (nI i) br := by
  have ci : (nI i).toNatClampNeg = i := nI_clamp (by omega)
  have ii : vp_in (nI i) 48 := vp_in_nI (by omega) (by omega)
  refine ⟨ii, nm_c ci ki (nm_r (nI_1 i) ?_)⟩
  refine pk_eq k 16 c16 (fun n16 => ?_)
  refine ys_gives hk (fun h16 => br_f (by decide) (cv (by omega))) (fun h16 => br_t rfl ?_)
  refine pk_eq k 17 (fun e => ?_) (fun n17 => pk_eq k 18 (fun e => ?_) (fun n18 => pk_eq k 25 (fun e => nm_e (c25 e)) (fun n25 => cf (by omega) (by omega))))
  · rw [e]; exact c17 e
  · rw [e]; exact c18 e
/-- Y at a BREAK -/
theorem ry_break7 (hn : n ≤ 48) (hK : ∀ j, j < n → a_ops j = nI (K j) ∧ K j ≤ 25) (hg : sc_good K n) {post : SY → Prop} :
    ∀ (l : List (Nat × Nat)) (j : Nat) (ws : Nat → Int32), j ≤ n → sc_fr K j = l → (∃ f, f ∈ l ∧ K f.2 = 22) → ys_O a_line l → post (f_lines, f_known, f_wrong, f_place, f_blocks, f_steps, f_dropped, 0, f_next, f_again, f_depth, a_ops, a_as, a_bs, a_cs, a_blockOf, a_opener, a_around, a_other, a_end, a_open, a_varied, a_loose, a_variedVariable, a_stands, a_number, a_isConst, a_needed, a_inputs, a_values, a_variables, a_cells, a_outs, bk K f_on l ws, a_rest, a_line) → ∀ d, l.length < d → wY_leave_7 post f_lines f_known f_wrong f_place f_blocks f_steps f_dropped f_on f_next f_again f_depth d (nI l.length + (-1)) a_ops a_as a_bs a_cs a_blockOf a_opener a_around a_other a_end a_open a_varied a_loose a_variedVariable a_stands a_number a_isConst a_needed a_inputs a_values a_variables a_cells a_outs ws a_rest a_line := by
  intro l
  induction l with
  | nil =>
    intro j ws hj e hl hO h d hd
    obtain ⟨f, hf, _⟩ := hl
    cases hf
  | cons f r ih =>
    obtain ⟨b, m⟩ := f
    intro j ws hj e hl hO h d hd
    have T := sc_top j (sc_good_le hg hj) _ _ _ e
    have len := sc_len j (sc_good_le hg hj)
    rw [e] at len
    simp only [List.length_cons] at hd len
    obtain ⟨d, rfl⟩ : ∃ e, d = e + 1 := ⟨d - 1, by omega⟩
    have tb : b ≤ n := by have := T.2.1; omega
    have tm := T.2.2.1
    have km := hK m (by omega)
    have el : nI ((b, m) :: r).length + (-1) = nI r.length := pk_m1 _
    have iL : vp_in (nI r.length) 4 := vp_in_nI (by omega) (by omega)
    have cL : (nI r.length).toNatClampNeg = r.length := nI_clamp (by omega)
    obtain ⟨o1, o2⟩ := hO
    rw [el]
    refine ⟨iL, ?_⟩
    rw [cL, show a_line r.length = nI m from o1, nI_clamp (show m < 2 ^ 31 by omega), km.1]
    unfold bk at h
    refine ⟨vp_in_nI (by omega) (by omega), pk_eq (K m) 19 (fun h19 => ⟨iL, iL, nm_e (nm_e (ih m _ (by omega) T.2.2.2.2.2.1 ?_ o2 ?_ d (by omega)))⟩) (fun h19 => ?_)⟩
    · obtain ⟨f, hf, kf⟩ := hl
      rcases List.mem_cons.mp hf with h' | h'
      · rw [h'] at kf; have kf' : K m = 22 := kf; omega
      · exact ⟨f, h', kf⟩
    · rw [if_neg (by show K m ≠ 22; omega)] at h; exact h
    · have k22 : K m = 22 := by
        rcases T.2.2.2.1 with ⟨_, h'⟩ | ⟨_, h', _⟩
        · omega
        · exact absurd h' h19
      rw [if_pos k22] at h; exact h
end
section
variable {K : Nat → Nat}
theorem st_O {wh ws ln : Nat → Int32} : ∀ l : List (Nat × Nat), st_R K wh ws ln l → ys_O ln l := by
  intro l
  induction l with
  | nil => intro _; trivial
  | cons f r ih => intro h; exact ⟨h.1, ih h.2.2.2.2.2⟩
theorem bk_ge {on : Int32} : ∀ (l : List (Nat × Nat)) (wh : Nat → Int32) (k : Nat), l.length ≤ k → bk K on l wh k = wh k := by
  intro l
  induction l with
  | nil => intro wh k _; rfl
  | cons f r ih =>
    intro wh k hk
    simp only [List.length_cons] at hk
    unfold bk
    split
    · rfl
    · rw [ih _ k (by omega), pk_un (by omega)]
/-- a BREAK keeps what holds of the masks -/
theorem bk_st {wo : Nat} (hwo : wo < 16) : ∀ (l : List (Nat × Nat)) (wh ws ln : Nat → Int32), (∃ f, f ∈ l ∧ K f.2 = 22) → st_R K wh ws ln l → st_R K (bk K (nI wo) l wh) (bk K (nI wo) l ws) ln l := by
  intro l
  induction l with
  | nil => intro wh ws ln _ _; trivial
  | cons f r ih =>
    intro wh ws ln hl h
    by_cases k22 : K f.2 = 22
    · have e1 : ∀ z, bk K (nI wo) (f :: r) z = z := fun z => by unfold bk; rw [if_pos k22]
      rw [e1, e1]; exact h
    · have e1 : ∀ z, bk K (nI wo) (f :: r) z = bk K (nI wo) r (upd z r.length (z r.length &&& (nI wo ^^^ (-1)))) := fun z => by
        show (if _ then _ else _) = _
        rw [if_neg k22]
      rw [e1, e1]
      have hl' : ∃ g, g ∈ r ∧ K g.2 = 22 := by
        obtain ⟨g, hg, kg⟩ := hl
        rcases List.mem_cons.mp hg with h' | h'
        · rw [h'] at kg; exact absurd kg k22
        · exact ⟨g, h', kg⟩
      obtain ⟨h1, h2, ⟨w, hw, ew⟩, h4, h5, h6⟩ := h
      refine ⟨h1, ?_, ?_, fun h' => absurd h' k22, fun _ => hl', ?_⟩
      · rw [bk_ge _ _ _ (Nat.le_refl _), bk_ge _ _ _ (Nat.le_refl _), pk_us, pk_us, h2]
      · rw [bk_ge _ _ _ (Nat.le_refl _), pk_us, ew, mk_an w hw wo hwo]
        exact ⟨_, (mk_lt w hw wo hwo).1, rfl⟩
      · refine ih _ _ ln hl' ?_
        have := st_R_upd (x := wh r.length &&& (nI wo ^^^ (-1))) (y := ws r.length &&& (nI wo ^^^ (-1))) (z := ln r.length) r r.length (Nat.le_refl _) h6
        rw [up_same (f := ln) rfl] at this
        exact this
end
end
section
section
/-- a mask by its bits -/
def mk_m (f : Nat → Bool) : Nat := (f 0).toNat + 2 * (f 1).toNat + 4 * (f 2).toNat + 8 * (f 3).toNat
theorem mk_ex (f : Nat → Bool) : mk_m f < 16 ∧ ∀ l, l < 4 → (mk_m f).testBit l = f l := by
  have h : ∀ a b c d : Bool, (a.toNat + 2 * b.toNat + 4 * c.toNat + 8 * d.toNat) < 16 ∧ (a.toNat + 2 * b.toNat + 4 * c.toNat + 8 * d.toNat).testBit 0 = a ∧ (a.toNat + 2 * b.toNat + 4 * c.toNat + 8 * d.toNat).testBit 1 = b ∧ (a.toNat + 2 * b.toNat + 4 * c.toNat + 8 * d.toNat).testBit 2 = c ∧ (a.toNat + 2 * b.toNat + 4 * c.toNat + 8 * d.toNat).testBit 3 = d := by decide
  obtain ⟨h0, h1, h2, h3, h4⟩ := h (f 0) (f 1) (f 2) (f 3)
  refine ⟨h0, fun l hl => ?_⟩
  rcases (show l = 0 ∨ l = 1 ∨ l = 2 ∨ l = 3 by omega) with rfl | rfl | rfl | rfl
  · exact h1
  · exact h2
  · exact h3
  · exact h4
/-- what line i makes of X's state: the line behind it, and all that it may change -/
abbrev xf_Z : Type := Nat × Int32 × Int32 × Int32 × (Nat → Int32) × (Nat → Int32) × (Nat → Int32) × (Nat → Int32) × (Nat → Int32) × (Nat → Int32)
def xf_tk (T : Nat → Nat × Bool × Int32) (br : Int32) (a_firsts a_seconds a_thirds a_values : Nat → Int32) (i : Nat) : Nat := mk_m (fun l => !(rv br T a_values (sh_o a_firsts a_seconds a_thirds 0 i) l == 0))
def xf_cells (T : Nat → Nat × Bool × Int32) (br : Int32) (a_firsts a_seconds a_thirds : Nat → Int32) (w dw i : Nat) (s : (Nat → Int32) × (Nat → Int32)) : (Nat → Int32) × (Nat → Int32) := la_f w (fun t (s : (Nat → Int32) × (Nat → Int32)) => if dw.testBit t = true then (upd s.1 (4 * i + t) 0, s.2) else (upd s.1 (4 * i + t) (s.2 (a_firsts i).toNatClampNeg), upd s.2 (a_firsts i).toNatClampNeg (s.2 (a_firsts i).toNatClampNeg + rv br T s.1 (sh_o a_firsts a_seconds a_thirds 1 i) t))) 4 0 s
noncomputable def xf (K : Nat → Nat) (T : Nat → Nat × Bool × Int32) (br : Int32) (i : Nat) (f_on f_dropped f_repeats : Int32) (a_firsts a_seconds a_thirds a_inputs a_depth a_closer a_mate a_values a_variables a_outputs a_cells a_whole a_waiting : Nat → Int32) : xf_Z :=
  if K i ≤ 15 then (i + 1, f_on, f_dropped, f_repeats, la_f f_on.toNatClampNeg (fun t s => upd s (4 * i + t) (vf K a_firsts a_seconds a_thirds a_inputs a_variables T br f_on.toNatClampNeg f_dropped.toNatClampNeg i s t)) 4 0 a_values, a_variables, a_outputs, a_cells, a_whole, a_waiting)
  else if K i = 16 then (i + 1, f_on, f_dropped, f_repeats, (xf_cells T br a_firsts a_seconds a_thirds f_on.toNatClampNeg f_dropped.toNatClampNeg i (a_values, a_cells)).1, a_variables, a_outputs, (xf_cells T br a_firsts a_seconds a_thirds f_on.toNatClampNeg f_dropped.toNatClampNeg i (a_values, a_cells)).2, a_whole, a_waiting)
  else if K i = 17 then (i + 1, f_on, f_dropped, f_repeats, a_values, la_f f_on.toNatClampNeg (fun t s => upd s (t * 4 + (a_firsts i).toNatClampNeg) (rv br T a_values (sh_o a_firsts a_seconds a_thirds 1 i) t)) 4 0 a_variables, a_outputs, a_cells, a_whole, a_waiting)
  else if K i = 18 then (i + 1, f_on, f_dropped, f_repeats, a_values, a_variables, la_f f_on.toNatClampNeg (fun t s => if f_dropped.toNatClampNeg.testBit t = true then s else upd s (t * 4 + (a_firsts i).toNatClampNeg) (rv br T a_values (sh_o a_firsts a_seconds a_thirds 1 i) t)) 4 0 a_outputs, a_cells, a_whole, a_waiting)
  else if K i = 19 then
    (if f_on.toNatClampNeg &&& xf_tk T br a_firsts a_seconds a_thirds a_values i = 0 then
      (if K (a_closer (i + 1)).toNatClampNeg = 20 then ((a_closer (i + 1)).toNatClampNeg + 1, nI (f_on.toNatClampNeg &&& (15 ^^^ xf_tk T br a_firsts a_seconds a_thirds a_values i)), f_dropped, f_repeats, a_values, a_variables, a_outputs, a_cells, upd a_whole (a_depth i).toNatClampNeg f_on, upd a_waiting (a_depth i).toNatClampNeg (nI (f_on.toNatClampNeg &&& (15 ^^^ xf_tk T br a_firsts a_seconds a_thirds a_values i))))
       else ((a_closer (i + 1)).toNatClampNeg, 0, f_dropped, f_repeats, a_values, a_variables, a_outputs, a_cells, upd a_whole (a_depth i).toNatClampNeg f_on, upd a_waiting (a_depth i).toNatClampNeg (nI (f_on.toNatClampNeg &&& (15 ^^^ xf_tk T br a_firsts a_seconds a_thirds a_values i)))))
     else (i + 1, nI (f_on.toNatClampNeg &&& xf_tk T br a_firsts a_seconds a_thirds a_values i), f_dropped, f_repeats, a_values, a_variables, a_outputs, a_cells, upd a_whole (a_depth i).toNatClampNeg f_on, upd a_waiting (a_depth i).toNatClampNeg (nI (f_on.toNatClampNeg &&& (15 ^^^ xf_tk T br a_firsts a_seconds a_thirds a_values i)))))
  else if K i = 20 then
    (if a_waiting (a_depth i).toNatClampNeg = 0 then ((a_closer (i + 1)).toNatClampNeg, a_waiting (a_depth i).toNatClampNeg, f_dropped, f_repeats, a_values, a_variables, a_outputs, a_cells, a_whole, a_waiting)
     else (i + 1, a_waiting (a_depth i).toNatClampNeg, f_dropped, f_repeats, a_values, a_variables, a_outputs, a_cells, a_whole, a_waiting))
  else if K i = 21 then (i + 1, a_whole (a_depth i).toNatClampNeg, f_dropped, f_repeats, a_values, a_variables, a_outputs, a_cells, a_whole, a_waiting)
  else if K i = 22 then (i + 1, f_on, f_dropped, f_repeats, a_values, a_variables, a_outputs, a_cells, upd a_whole (a_depth i).toNatClampNeg f_on, a_waiting)
  else if K i = 23 then
    (if f_on = 0 then (i + 1, a_whole (a_depth i).toNatClampNeg, f_dropped, f_repeats, a_values, a_variables, a_outputs, a_cells, a_whole, a_waiting)
     else ((a_mate i).toNatClampNeg + 1, f_on, f_dropped, f_repeats + 1, a_values, a_variables, a_outputs, a_cells, a_whole, a_waiting))
  else if K i = 24 then (i + 1, 0, f_dropped, f_repeats, a_values, a_variables, a_outputs, a_cells, bk K f_on (sc_fr K i) a_whole, a_waiting)
  else (i + 1, f_on, f_dropped ||| f_on, f_repeats, a_values, a_variables, a_outputs, a_cells, a_whole, a_waiting)
/-- from line i both go on to one line, in states that hold again -/
def rn_goes (K : Nat → Nat) (n : Nat) (T : Nat → Nat × Bool × Int32) (i : Nat) (br : Int32) (u : SX) (v : SY) : Prop := match u, v with
  | (f_lines, f_studied, f_wrong, f_wrongAt, f_brief, f_on, f_dropped, f_steps, f_nextLine, f_repeats, a_kinds, a_firsts, a_seconds, a_thirds, a_inputs, a_home, a_depth, a_closer, a_mate, a_operands, a_varies, a_parted, a_variableVaries, a_same, a_fixed, a_worth, a_needed, a_variableNeeded, a_values, a_variables, a_outputs, a_cells, a_whole, a_waiting), (yf_lines, yf_known, yf_wrong, yf_place, yf_blocks, yf_steps, yf_dropped, yf_on, yf_next, yf_again, yf_depth, ya_ops, ya_as, ya_bs, ya_cs, ya_blockOf, ya_opener, ya_around, ya_other, ya_end, ya_open, ya_varied, ya_loose, ya_variedVariable, ya_stands, ya_number, ya_isConst, ya_needed, ya_inputs, ya_values, ya_variables, ya_cells, ya_outs, ya_was, ya_rest, ya_line) => ∃ (i' : Nat) (on dr rp : Int32) (va vr ou ce wh wt : Nat → Int32) (ydr yon yag yde : Int32) (yva yvr yce you yws yrs yln : Nat → Int32),
    rn_pos K n i' (f_lines, f_studied, f_wrong, f_wrongAt, f_brief, on, dr, f_steps, f_nextLine, rp, a_kinds, a_firsts, a_seconds, a_thirds, a_inputs, a_home, a_depth, a_closer, a_mate, a_operands, a_varies, a_parted, a_variableVaries, a_same, a_fixed, a_worth, a_needed, a_variableNeeded, va, vr, ou, ce, wh, wt) (yf_lines, yf_known, yf_wrong, yf_place, yf_blocks, yf_steps, ydr, yon, nI i', yag, yde, ya_ops, ya_as, ya_bs, ya_cs, ya_blockOf, ya_opener, ya_around, ya_other, ya_end, ya_open, ya_varied, ya_loose, ya_variedVariable, ya_stands, ya_number, ya_isConst, ya_needed, ya_inputs, yva, yvr, yce, you, yws, yrs, yln) ∧
    rn_dyn (f_lines, f_studied, f_wrong, f_wrongAt, f_brief, on, dr, f_steps, f_nextLine, rp, a_kinds, a_firsts, a_seconds, a_thirds, a_inputs, a_home, a_depth, a_closer, a_mate, a_operands, a_varies, a_parted, a_variableVaries, a_same, a_fixed, a_worth, a_needed, a_variableNeeded, va, vr, ou, ce, wh, wt) (yf_lines, yf_known, yf_wrong, yf_place, yf_blocks, yf_steps, ydr, yon, nI i', yag, yde, ya_ops, ya_as, ya_bs, ya_cs, ya_blockOf, ya_opener, ya_around, ya_other, ya_end, ya_open, ya_varied, ya_loose, ya_variedVariable, ya_stands, ya_number, ya_isConst, ya_needed, ya_inputs, yva, yvr, yce, you, yws, yrs, yln) ∧
    (i', on, dr, rp, va, vr, ou, ce, wh, wt) = xf K T br i f_on f_dropped f_repeats a_firsts a_seconds a_thirds a_inputs a_depth a_closer a_mate a_values a_variables a_outputs a_cells a_whole a_waiting ∧
    (∀ post : Int32 → SX → Prop, post (nI i') (f_lines, f_studied, f_wrong, f_wrongAt, f_brief, on, dr, f_steps, f_nextLine, rp, a_kinds, a_firsts, a_seconds, a_thirds, a_inputs, a_home, a_depth, a_closer, a_mate, a_operands, a_varies, a_parted, a_variableVaries, a_same, a_fixed, a_worth, a_needed, a_variableNeeded, va, vr, ou, ce, wh, wt) → wpX_doLine post (f_lines, f_studied, f_wrong, f_wrongAt, f_brief, f_on, f_dropped, f_steps, f_nextLine, f_repeats, a_kinds, a_firsts, a_seconds, a_thirds, a_inputs, a_home, a_depth, a_closer, a_mate, a_operands, a_varies, a_parted, a_variableVaries, a_same, a_fixed, a_worth, a_needed, a_variableNeeded, a_values, a_variables, a_outputs, a_cells, a_whole, a_waiting) (nI i)) ∧
    (∀ post : SY → Prop, post (yf_lines, yf_known, yf_wrong, yf_place, yf_blocks, yf_steps, ydr, yon, nI i', yag, yde, ya_ops, ya_as, ya_bs, ya_cs, ya_blockOf, ya_opener, ya_around, ya_other, ya_end, ya_open, ya_varied, ya_loose, ya_variedVariable, ya_stands, ya_number, ya_isConst, ya_needed, ya_inputs, yva, yvr, yce, you, yws, yrs, yln) → wpY_step post (yf_lines, yf_known, yf_wrong, yf_place, yf_blocks, yf_steps, yf_dropped, yf_on, yf_next, yf_again, yf_depth, ya_ops, ya_as, ya_bs, ya_cs, ya_blockOf, ya_opener, ya_around, ya_other, ya_end, ya_open, ya_varied, ya_loose, ya_variedVariable, ya_stands, ya_number, ya_isConst, ya_needed, ya_inputs, ya_values, ya_variables, ya_cells, ya_outs, ya_was, ya_rest, ya_line) (nI i) br)
end
section
variable {K : Nat → Nat} {n : Nat} {T : Nat → Nat × Bool × Int32} {br : Int32}
variable {f_lines f_studied f_wrong f_wrongAt f_brief f_on f_dropped f_steps f_nextLine f_repeats : Int32} {a_kinds a_firsts a_seconds a_thirds a_inputs a_home a_depth a_closer a_mate a_operands a_varies a_parted a_variableVaries a_same a_fixed a_worth a_needed a_variableNeeded a_values a_variables a_outputs a_cells a_whole a_waiting : Nat → Int32}
variable {yf_lines yf_known yf_wrong yf_place yf_blocks yf_steps yf_dropped yf_on yf_next yf_again yf_depth : Int32} {ya_ops ya_as ya_bs ya_cs ya_blockOf ya_opener ya_around ya_other ya_end ya_open ya_varied ya_loose ya_variedVariable ya_stands ya_number ya_isConst ya_needed ya_inputs ya_values ya_variables ya_cells ya_outs ya_was ya_rest ya_line : Nat → Int32}
theorem ln_val (hS : rn_stat K n T br f_lines f_brief a_kinds a_firsts a_seconds a_thirds a_inputs a_home a_depth a_closer a_mate a_operands a_same a_fixed a_worth a_needed yf_lines ya_ops ya_as ya_bs ya_cs ya_blockOf ya_opener ya_around ya_other ya_end ya_stands ya_number ya_isConst ya_needed ya_inputs) {i : Nat} (hp : rn_pos K n i (f_lines, f_studied, f_wrong, f_wrongAt, f_brief, f_on, f_dropped, f_steps, f_nextLine, f_repeats, a_kinds, a_firsts, a_seconds, a_thirds, a_inputs, a_home, a_depth, a_closer, a_mate, a_operands, a_varies, a_parted, a_variableVaries, a_same, a_fixed, a_worth, a_needed, a_variableNeeded, a_values, a_variables, a_outputs, a_cells, a_whole, a_waiting) (yf_lines, yf_known, yf_wrong, yf_place, yf_blocks, yf_steps, yf_dropped, yf_on, yf_next, yf_again, yf_depth, ya_ops, ya_as, ya_bs, ya_cs, ya_blockOf, ya_opener, ya_around, ya_other, ya_end, ya_open, ya_varied, ya_loose, ya_variedVariable, ya_stands, ya_number, ya_isConst, ya_needed, ya_inputs, ya_values, ya_variables, ya_cells, ya_outs, ya_was, ya_rest, ya_line)) (hd : rn_dyn (f_lines, f_studied, f_wrong, f_wrongAt, f_brief, f_on, f_dropped, f_steps, f_nextLine, f_repeats, a_kinds, a_firsts, a_seconds, a_thirds, a_inputs, a_home, a_depth, a_closer, a_mate, a_operands, a_varies, a_parted, a_variableVaries, a_same, a_fixed, a_worth, a_needed, a_variableNeeded, a_values, a_variables, a_outputs, a_cells, a_whole, a_waiting) (yf_lines, yf_known, yf_wrong, yf_place, yf_blocks, yf_steps, yf_dropped, yf_on, yf_next, yf_again, yf_depth, ya_ops, ya_as, ya_bs, ya_cs, ya_blockOf, ya_opener, ya_around, ya_other, ya_end, ya_open, ya_varied, ya_loose, ya_variedVariable, ya_stands, ya_number, ya_isConst, ya_needed, ya_inputs, ya_values, ya_variables, ya_cells, ya_outs, ya_was, ya_rest, ya_line)) (hi : i < n) (hon : f_on ≠ 0) (hk : K i ≤ 15) : rn_goes K n T i br (f_lines, f_studied, f_wrong, f_wrongAt, f_brief, f_on, f_dropped, f_steps, f_nextLine, f_repeats, a_kinds, a_firsts, a_seconds, a_thirds, a_inputs, a_home, a_depth, a_closer, a_mate, a_operands, a_varies, a_parted, a_variableVaries, a_same, a_fixed, a_worth, a_needed, a_variableNeeded, a_values, a_variables, a_outputs, a_cells, a_whole, a_waiting) (yf_lines, yf_known, yf_wrong, yf_place, yf_blocks, yf_steps, yf_dropped, yf_on, yf_next, yf_again, yf_depth, ya_ops, ya_as, ya_bs, ya_cs, ya_blockOf, ya_opener, ya_around, ya_other, ya_end, ya_open, ya_varied, ya_loose, ya_variedVariable, ya_stands, ya_number, ya_isConst, ya_needed, ya_inputs, ya_values, ya_variables, ya_cells, ya_outs, ya_was, ya_rest, ya_line) := by
  obtain ⟨hin, en, ed, hst, ⟨w, hw, eon⟩, hmode⟩ := hp
  obtain ⟨d1, ⟨dw, hdw, edr⟩, d3, d4, d5, d6, d7, d8⟩ := hd
  have hs : sc_fr K (i + 1) = sc_fr K i := sc_s_plain (by omega)
  rcases hmode with ⟨ey, hne, hsw⟩ | ⟨_, k21, _⟩
  · obtain ⟨vx, vy, h1, h0, h2, h3⟩ := rn_give (f_lines := f_lines) (f_studied := f_studied) (f_wrong := f_wrong) (f_wrongAt := f_wrongAt) (f_brief := f_brief) (f_on := f_on) (f_dropped := f_dropped) (f_steps := f_steps) (f_nextLine := f_nextLine) (f_repeats := f_repeats) (a_kinds := a_kinds) (a_firsts := a_firsts) (a_seconds := a_seconds) (a_thirds := a_thirds) (a_inputs := a_inputs) (a_home := a_home) (a_depth := a_depth) (a_closer := a_closer) (a_mate := a_mate) (a_operands := a_operands) (a_varies := a_varies) (a_parted := a_parted) (a_variableVaries := a_variableVaries) (a_same := a_same) (a_fixed := a_fixed) (a_worth := a_worth) (a_needed := a_needed) (a_variableNeeded := a_variableNeeded) (a_variables := a_variables) (a_outputs := a_outputs) (a_cells := a_cells) (a_whole := a_whole) (a_waiting := a_waiting) (yf_lines := yf_lines) (yf_known := yf_known) (yf_wrong := yf_wrong) (yf_place := yf_place) (yf_blocks := yf_blocks) (yf_steps := yf_steps) (yf_dropped := yf_dropped) (yf_on := yf_on) (yf_next := nI (i + 1)) (yf_again := yf_again) (yf_depth := yf_depth) (ya_ops := ya_ops) (ya_as := ya_as) (ya_bs := ya_bs) (ya_cs := ya_cs) (ya_blockOf := ya_blockOf) (ya_opener := ya_opener) (ya_around := ya_around) (ya_other := ya_other) (ya_end := ya_end) (ya_open := ya_open) (ya_varied := ya_varied) (ya_loose := ya_loose) (ya_variedVariable := ya_variedVariable) (ya_stands := ya_stands) (ya_number := ya_number) (ya_isConst := ya_isConst) (ya_needed := ya_needed) (ya_inputs := ya_inputs) (ya_variables := ya_variables) (ya_cells := ya_cells) (ya_outs := ya_outs) (ya_was := ya_was) (ya_rest := ya_rest) (ya_line := ya_line) hS hi hk hw eon ey hdw edr d1 d6 4 0 a_values ya_values rfl d5
    obtain ⟨hW, _, _, _, _, _, ⟨e1, _⟩, _⟩ := hS
    have hn := hW.1
    have ki := hW.2.1 i hi
    have cw : f_on.toNatClampNeg = w := by rw [eon, nI_clamp (by omega)]
    have cdw : f_dropped.toNatClampNeg = dw := by rw [edr, nI_clamp (by omega)]
    refine ⟨i + 1, f_on, f_dropped, f_repeats, vx, a_variables, a_outputs, a_cells, a_whole, a_waiting, yf_dropped, yf_on, yf_again, yf_depth, vy, ya_variables, ya_cells, ya_outs, ya_was, ya_rest, ya_line, ⟨by omega, rfl, by rw [hs]; exact ed, by rw [hs]; exact hst, ⟨w, hw, eon⟩, Or.inl ⟨ey, fun h => absurd h hon, by rw [hs]; exact hsw⟩⟩, ⟨d1, ⟨dw, hdw, edr⟩, d3, d4, h1, d6, d7, d8⟩, by unfold xf; rw [if_pos hk, cw, cdw, ← h0], fun post h => ?_, fun post h => ?_⟩
    · exact rx_do (k := K i) (by omega) ki.1 ki.2 (fun _ => ⟨5, h2 _ h⟩) (fun z => absurd z (by omega)) (fun z => absurd z (by omega)) (fun z => absurd z (by omega)) (fun z => absurd z (by omega)) (fun z => absurd z (by omega)) (fun z => absurd z (by omega)) (fun z => absurd z (by omega)) (fun z => absurd z (by omega)) (fun z => absurd z (by omega))
    · exact ry_do (k := K i) (by omega) (by rw [e1]; exact ki.1) ki.2 (fun z => absurd z (by omega)) (fun _ => ⟨5, h3 _ h⟩) (fun z => absurd z (by omega)) (fun z => absurd z (by omega)) (fun z => absurd z (by omega)) (fun z _ => absurd z (by omega))
  · omega
theorem ln_take (hS : rn_stat K n T br f_lines f_brief a_kinds a_firsts a_seconds a_thirds a_inputs a_home a_depth a_closer a_mate a_operands a_same a_fixed a_worth a_needed yf_lines ya_ops ya_as ya_bs ya_cs ya_blockOf ya_opener ya_around ya_other ya_end ya_stands ya_number ya_isConst ya_needed ya_inputs) {i : Nat} (hp : rn_pos K n i (f_lines, f_studied, f_wrong, f_wrongAt, f_brief, f_on, f_dropped, f_steps, f_nextLine, f_repeats, a_kinds, a_firsts, a_seconds, a_thirds, a_inputs, a_home, a_depth, a_closer, a_mate, a_operands, a_varies, a_parted, a_variableVaries, a_same, a_fixed, a_worth, a_needed, a_variableNeeded, a_values, a_variables, a_outputs, a_cells, a_whole, a_waiting) (yf_lines, yf_known, yf_wrong, yf_place, yf_blocks, yf_steps, yf_dropped, yf_on, yf_next, yf_again, yf_depth, ya_ops, ya_as, ya_bs, ya_cs, ya_blockOf, ya_opener, ya_around, ya_other, ya_end, ya_open, ya_varied, ya_loose, ya_variedVariable, ya_stands, ya_number, ya_isConst, ya_needed, ya_inputs, ya_values, ya_variables, ya_cells, ya_outs, ya_was, ya_rest, ya_line)) (hd : rn_dyn (f_lines, f_studied, f_wrong, f_wrongAt, f_brief, f_on, f_dropped, f_steps, f_nextLine, f_repeats, a_kinds, a_firsts, a_seconds, a_thirds, a_inputs, a_home, a_depth, a_closer, a_mate, a_operands, a_varies, a_parted, a_variableVaries, a_same, a_fixed, a_worth, a_needed, a_variableNeeded, a_values, a_variables, a_outputs, a_cells, a_whole, a_waiting) (yf_lines, yf_known, yf_wrong, yf_place, yf_blocks, yf_steps, yf_dropped, yf_on, yf_next, yf_again, yf_depth, ya_ops, ya_as, ya_bs, ya_cs, ya_blockOf, ya_opener, ya_around, ya_other, ya_end, ya_open, ya_varied, ya_loose, ya_variedVariable, ya_stands, ya_number, ya_isConst, ya_needed, ya_inputs, ya_values, ya_variables, ya_cells, ya_outs, ya_was, ya_rest, ya_line)) (hi : i < n) (hon : f_on ≠ 0) (hk : K i = 16) : rn_goes K n T i br (f_lines, f_studied, f_wrong, f_wrongAt, f_brief, f_on, f_dropped, f_steps, f_nextLine, f_repeats, a_kinds, a_firsts, a_seconds, a_thirds, a_inputs, a_home, a_depth, a_closer, a_mate, a_operands, a_varies, a_parted, a_variableVaries, a_same, a_fixed, a_worth, a_needed, a_variableNeeded, a_values, a_variables, a_outputs, a_cells, a_whole, a_waiting) (yf_lines, yf_known, yf_wrong, yf_place, yf_blocks, yf_steps, yf_dropped, yf_on, yf_next, yf_again, yf_depth, ya_ops, ya_as, ya_bs, ya_cs, ya_blockOf, ya_opener, ya_around, ya_other, ya_end, ya_open, ya_varied, ya_loose, ya_variedVariable, ya_stands, ya_number, ya_isConst, ya_needed, ya_inputs, ya_values, ya_variables, ya_cells, ya_outs, ya_was, ya_rest, ya_line) := by
  obtain ⟨hin, en, ed, hst, ⟨w, hw, eon⟩, hmode⟩ := hp
  obtain ⟨d1, ⟨dw, hdw, edr⟩, d3, d4, d5, d6, d7, d8⟩ := hd
  have hs : sc_fr K (i + 1) = sc_fr K i := sc_s_plain (by omega)
  rcases hmode with ⟨ey, hne, hsw⟩ | ⟨_, k21, _⟩
  · obtain ⟨vx, vy, cx, cy, h0, h1, hq, h2, h3⟩ := rn_take (f_lines := f_lines) (f_studied := f_studied) (f_wrong := f_wrong) (f_wrongAt := f_wrongAt) (f_brief := f_brief) (f_on := f_on) (f_dropped := f_dropped) (f_steps := f_steps) (f_nextLine := f_nextLine) (f_repeats := f_repeats) (a_kinds := a_kinds) (a_firsts := a_firsts) (a_seconds := a_seconds) (a_thirds := a_thirds) (a_inputs := a_inputs) (a_home := a_home) (a_depth := a_depth) (a_closer := a_closer) (a_mate := a_mate) (a_operands := a_operands) (a_varies := a_varies) (a_parted := a_parted) (a_variableVaries := a_variableVaries) (a_same := a_same) (a_fixed := a_fixed) (a_worth := a_worth) (a_needed := a_needed) (a_variableNeeded := a_variableNeeded) (a_variables := a_variables) (a_outputs := a_outputs) (a_whole := a_whole) (a_waiting := a_waiting) (yf_lines := yf_lines) (yf_known := yf_known) (yf_wrong := yf_wrong) (yf_place := yf_place) (yf_blocks := yf_blocks) (yf_steps := yf_steps) (yf_dropped := yf_dropped) (yf_on := yf_on) (yf_next := nI (i + 1)) (yf_again := yf_again) (yf_depth := yf_depth) (ya_ops := ya_ops) (ya_as := ya_as) (ya_bs := ya_bs) (ya_cs := ya_cs) (ya_blockOf := ya_blockOf) (ya_opener := ya_opener) (ya_around := ya_around) (ya_other := ya_other) (ya_end := ya_end) (ya_open := ya_open) (ya_varied := ya_varied) (ya_loose := ya_loose) (ya_variedVariable := ya_variedVariable) (ya_stands := ya_stands) (ya_number := ya_number) (ya_isConst := ya_isConst) (ya_needed := ya_needed) (ya_inputs := ya_inputs) (ya_variables := ya_variables) (ya_outs := ya_outs) (ya_was := ya_was) (ya_rest := ya_rest) (ya_line := ya_line) hS hi hk hw eon ey hdw edr d1 4 0 a_values ya_values a_cells ya_cells rfl d5 d8
    obtain ⟨hW, _, _, _, _, _, ⟨e1, _⟩, _⟩ := hS
    have hn := hW.1
    have ki := hW.2.1 i hi
    have cw : f_on.toNatClampNeg = w := by rw [eon, nI_clamp (by omega)]
    have cdw : f_dropped.toNatClampNeg = dw := by rw [edr, nI_clamp (by omega)]
    refine ⟨i + 1, f_on, f_dropped, f_repeats, vx, a_variables, a_outputs, cx, a_whole, a_waiting, yf_dropped, yf_on, yf_again, yf_depth, vy, ya_variables, cy, ya_outs, ya_was, ya_rest, ya_line, ⟨by omega, rfl, by rw [hs]; exact ed, by rw [hs]; exact hst, ⟨w, hw, eon⟩, Or.inl ⟨ey, fun h => absurd h hon, by rw [hs]; exact hsw⟩⟩, ⟨d1, ⟨dw, hdw, edr⟩, d3, d4, h0, d6, d7, h1⟩, by unfold xf xf_cells; rw [if_neg (by omega), if_pos hk, cw, cdw, ← hq], fun post h => ?_, fun post h => ?_⟩
    · exact rx_do (k := K i) (by omega) ki.1 ki.2 (fun _ => ⟨5, h2 _ h⟩) (fun z => absurd z (by omega)) (fun z => absurd z (by omega)) (fun z => absurd z (by omega)) (fun z => absurd z (by omega)) (fun z => absurd z (by omega)) (fun z => absurd z (by omega)) (fun z => absurd z (by omega)) (fun z => absurd z (by omega)) (fun z => absurd z (by omega))
    · exact ry_do (k := K i) (by omega) (by rw [e1]; exact ki.1) ki.2 (fun _ => ⟨5, h3 _ h⟩) (fun z => absurd z (by omega)) (fun z => absurd z (by omega)) (fun z => absurd z (by omega)) (fun z => absurd z (by omega)) (fun z _ => absurd z (by omega))
  · omega
theorem ln_put (hS : rn_stat K n T br f_lines f_brief a_kinds a_firsts a_seconds a_thirds a_inputs a_home a_depth a_closer a_mate a_operands a_same a_fixed a_worth a_needed yf_lines ya_ops ya_as ya_bs ya_cs ya_blockOf ya_opener ya_around ya_other ya_end ya_stands ya_number ya_isConst ya_needed ya_inputs) {i : Nat} (hp : rn_pos K n i (f_lines, f_studied, f_wrong, f_wrongAt, f_brief, f_on, f_dropped, f_steps, f_nextLine, f_repeats, a_kinds, a_firsts, a_seconds, a_thirds, a_inputs, a_home, a_depth, a_closer, a_mate, a_operands, a_varies, a_parted, a_variableVaries, a_same, a_fixed, a_worth, a_needed, a_variableNeeded, a_values, a_variables, a_outputs, a_cells, a_whole, a_waiting) (yf_lines, yf_known, yf_wrong, yf_place, yf_blocks, yf_steps, yf_dropped, yf_on, yf_next, yf_again, yf_depth, ya_ops, ya_as, ya_bs, ya_cs, ya_blockOf, ya_opener, ya_around, ya_other, ya_end, ya_open, ya_varied, ya_loose, ya_variedVariable, ya_stands, ya_number, ya_isConst, ya_needed, ya_inputs, ya_values, ya_variables, ya_cells, ya_outs, ya_was, ya_rest, ya_line)) (hd : rn_dyn (f_lines, f_studied, f_wrong, f_wrongAt, f_brief, f_on, f_dropped, f_steps, f_nextLine, f_repeats, a_kinds, a_firsts, a_seconds, a_thirds, a_inputs, a_home, a_depth, a_closer, a_mate, a_operands, a_varies, a_parted, a_variableVaries, a_same, a_fixed, a_worth, a_needed, a_variableNeeded, a_values, a_variables, a_outputs, a_cells, a_whole, a_waiting) (yf_lines, yf_known, yf_wrong, yf_place, yf_blocks, yf_steps, yf_dropped, yf_on, yf_next, yf_again, yf_depth, ya_ops, ya_as, ya_bs, ya_cs, ya_blockOf, ya_opener, ya_around, ya_other, ya_end, ya_open, ya_varied, ya_loose, ya_variedVariable, ya_stands, ya_number, ya_isConst, ya_needed, ya_inputs, ya_values, ya_variables, ya_cells, ya_outs, ya_was, ya_rest, ya_line)) (hi : i < n) (hon : f_on ≠ 0) (hk : K i = 17) : rn_goes K n T i br (f_lines, f_studied, f_wrong, f_wrongAt, f_brief, f_on, f_dropped, f_steps, f_nextLine, f_repeats, a_kinds, a_firsts, a_seconds, a_thirds, a_inputs, a_home, a_depth, a_closer, a_mate, a_operands, a_varies, a_parted, a_variableVaries, a_same, a_fixed, a_worth, a_needed, a_variableNeeded, a_values, a_variables, a_outputs, a_cells, a_whole, a_waiting) (yf_lines, yf_known, yf_wrong, yf_place, yf_blocks, yf_steps, yf_dropped, yf_on, yf_next, yf_again, yf_depth, ya_ops, ya_as, ya_bs, ya_cs, ya_blockOf, ya_opener, ya_around, ya_other, ya_end, ya_open, ya_varied, ya_loose, ya_variedVariable, ya_stands, ya_number, ya_isConst, ya_needed, ya_inputs, ya_values, ya_variables, ya_cells, ya_outs, ya_was, ya_rest, ya_line) := by
  obtain ⟨hin, en, ed, hst, ⟨w, hw, eon⟩, hmode⟩ := hp
  obtain ⟨d1, ⟨dw, hdw, edr⟩, d3, d4, d5, d6, d7, d8⟩ := hd
  have hs : sc_fr K (i + 1) = sc_fr K i := sc_s_plain (by omega)
  rcases hmode with ⟨ey, hne, hsw⟩ | ⟨_, k21, _⟩
  · obtain ⟨vx, vy, h1, h0, h2, h3⟩ := rn_put (f_lines := f_lines) (f_studied := f_studied) (f_wrong := f_wrong) (f_wrongAt := f_wrongAt) (f_brief := f_brief) (f_on := f_on) (f_dropped := f_dropped) (f_steps := f_steps) (f_nextLine := f_nextLine) (f_repeats := f_repeats) (a_kinds := a_kinds) (a_firsts := a_firsts) (a_seconds := a_seconds) (a_thirds := a_thirds) (a_inputs := a_inputs) (a_home := a_home) (a_depth := a_depth) (a_closer := a_closer) (a_mate := a_mate) (a_operands := a_operands) (a_varies := a_varies) (a_parted := a_parted) (a_variableVaries := a_variableVaries) (a_same := a_same) (a_fixed := a_fixed) (a_worth := a_worth) (a_needed := a_needed) (a_variableNeeded := a_variableNeeded) (a_values := a_values) (a_outputs := a_outputs) (a_cells := a_cells) (a_whole := a_whole) (a_waiting := a_waiting) (yf_lines := yf_lines) (yf_known := yf_known) (yf_wrong := yf_wrong) (yf_place := yf_place) (yf_blocks := yf_blocks) (yf_steps := yf_steps) (yf_dropped := yf_dropped) (yf_on := yf_on) (yf_next := nI (i + 1)) (yf_again := yf_again) (yf_depth := yf_depth) (ya_ops := ya_ops) (ya_as := ya_as) (ya_bs := ya_bs) (ya_cs := ya_cs) (ya_blockOf := ya_blockOf) (ya_opener := ya_opener) (ya_around := ya_around) (ya_other := ya_other) (ya_end := ya_end) (ya_open := ya_open) (ya_varied := ya_varied) (ya_loose := ya_loose) (ya_variedVariable := ya_variedVariable) (ya_stands := ya_stands) (ya_number := ya_number) (ya_isConst := ya_isConst) (ya_needed := ya_needed) (ya_inputs := ya_inputs) (ya_values := ya_values) (ya_cells := ya_cells) (ya_outs := ya_outs) (ya_was := ya_was) (ya_rest := ya_rest) (ya_line := ya_line) hS hi hk hw eon ey d5 4 0 a_variables ya_variables rfl d6
    obtain ⟨hW, _, _, _, _, _, ⟨e1, _⟩, _⟩ := hS
    have hn := hW.1
    have ki := hW.2.1 i hi
    have cw : f_on.toNatClampNeg = w := by rw [eon, nI_clamp (by omega)]
    have cdw : f_dropped.toNatClampNeg = dw := by rw [edr, nI_clamp (by omega)]
    refine ⟨i + 1, f_on, f_dropped, f_repeats, a_values, vx, a_outputs, a_cells, a_whole, a_waiting, yf_dropped, yf_on, yf_again, yf_depth, ya_values, vy, ya_cells, ya_outs, ya_was, ya_rest, ya_line, ⟨by omega, rfl, by rw [hs]; exact ed, by rw [hs]; exact hst, ⟨w, hw, eon⟩, Or.inl ⟨ey, fun h => absurd h hon, by rw [hs]; exact hsw⟩⟩, ⟨d1, ⟨dw, hdw, edr⟩, d3, d4, d5, h1, d7, d8⟩, by unfold xf; rw [if_neg (by omega), if_neg (by omega), if_pos hk, cw, ← h0], fun post h => ?_, fun post h => ?_⟩
    · exact rx_do (k := K i) (by omega) ki.1 ki.2 (fun z => absurd z (by omega)) (fun _ => ⟨5, h2 _ h⟩) (fun z => absurd z (by omega)) (fun z => absurd z (by omega)) (fun z => absurd z (by omega)) (fun z => absurd z (by omega)) (fun z => absurd z (by omega)) (fun z => absurd z (by omega)) (fun z => absurd z (by omega)) (fun z => absurd z (by omega))
    · exact ry_do (k := K i) (by omega) (by rw [e1]; exact ki.1) ki.2 (fun z => absurd z (by omega)) (fun z => absurd z (by omega)) (fun _ => ⟨5, h3 _ h⟩) (fun z => absurd z (by omega)) (fun z => absurd z (by omega)) (fun z _ => absurd z (by omega))
  · omega
theorem ln_out (hS : rn_stat K n T br f_lines f_brief a_kinds a_firsts a_seconds a_thirds a_inputs a_home a_depth a_closer a_mate a_operands a_same a_fixed a_worth a_needed yf_lines ya_ops ya_as ya_bs ya_cs ya_blockOf ya_opener ya_around ya_other ya_end ya_stands ya_number ya_isConst ya_needed ya_inputs) {i : Nat} (hp : rn_pos K n i (f_lines, f_studied, f_wrong, f_wrongAt, f_brief, f_on, f_dropped, f_steps, f_nextLine, f_repeats, a_kinds, a_firsts, a_seconds, a_thirds, a_inputs, a_home, a_depth, a_closer, a_mate, a_operands, a_varies, a_parted, a_variableVaries, a_same, a_fixed, a_worth, a_needed, a_variableNeeded, a_values, a_variables, a_outputs, a_cells, a_whole, a_waiting) (yf_lines, yf_known, yf_wrong, yf_place, yf_blocks, yf_steps, yf_dropped, yf_on, yf_next, yf_again, yf_depth, ya_ops, ya_as, ya_bs, ya_cs, ya_blockOf, ya_opener, ya_around, ya_other, ya_end, ya_open, ya_varied, ya_loose, ya_variedVariable, ya_stands, ya_number, ya_isConst, ya_needed, ya_inputs, ya_values, ya_variables, ya_cells, ya_outs, ya_was, ya_rest, ya_line)) (hd : rn_dyn (f_lines, f_studied, f_wrong, f_wrongAt, f_brief, f_on, f_dropped, f_steps, f_nextLine, f_repeats, a_kinds, a_firsts, a_seconds, a_thirds, a_inputs, a_home, a_depth, a_closer, a_mate, a_operands, a_varies, a_parted, a_variableVaries, a_same, a_fixed, a_worth, a_needed, a_variableNeeded, a_values, a_variables, a_outputs, a_cells, a_whole, a_waiting) (yf_lines, yf_known, yf_wrong, yf_place, yf_blocks, yf_steps, yf_dropped, yf_on, yf_next, yf_again, yf_depth, ya_ops, ya_as, ya_bs, ya_cs, ya_blockOf, ya_opener, ya_around, ya_other, ya_end, ya_open, ya_varied, ya_loose, ya_variedVariable, ya_stands, ya_number, ya_isConst, ya_needed, ya_inputs, ya_values, ya_variables, ya_cells, ya_outs, ya_was, ya_rest, ya_line)) (hi : i < n) (hon : f_on ≠ 0) (hk : K i = 18) : rn_goes K n T i br (f_lines, f_studied, f_wrong, f_wrongAt, f_brief, f_on, f_dropped, f_steps, f_nextLine, f_repeats, a_kinds, a_firsts, a_seconds, a_thirds, a_inputs, a_home, a_depth, a_closer, a_mate, a_operands, a_varies, a_parted, a_variableVaries, a_same, a_fixed, a_worth, a_needed, a_variableNeeded, a_values, a_variables, a_outputs, a_cells, a_whole, a_waiting) (yf_lines, yf_known, yf_wrong, yf_place, yf_blocks, yf_steps, yf_dropped, yf_on, yf_next, yf_again, yf_depth, ya_ops, ya_as, ya_bs, ya_cs, ya_blockOf, ya_opener, ya_around, ya_other, ya_end, ya_open, ya_varied, ya_loose, ya_variedVariable, ya_stands, ya_number, ya_isConst, ya_needed, ya_inputs, ya_values, ya_variables, ya_cells, ya_outs, ya_was, ya_rest, ya_line) := by
  obtain ⟨hin, en, ed, hst, ⟨w, hw, eon⟩, hmode⟩ := hp
  obtain ⟨d1, ⟨dw, hdw, edr⟩, d3, d4, d5, d6, d7, d8⟩ := hd
  have hs : sc_fr K (i + 1) = sc_fr K i := sc_s_plain (by omega)
  rcases hmode with ⟨ey, hne, hsw⟩ | ⟨_, k21, _⟩
  · obtain ⟨vx, vy, h1, h0, h2, h3⟩ := rn_out (f_lines := f_lines) (f_studied := f_studied) (f_wrong := f_wrong) (f_wrongAt := f_wrongAt) (f_brief := f_brief) (f_on := f_on) (f_dropped := f_dropped) (f_steps := f_steps) (f_nextLine := f_nextLine) (f_repeats := f_repeats) (a_kinds := a_kinds) (a_firsts := a_firsts) (a_seconds := a_seconds) (a_thirds := a_thirds) (a_inputs := a_inputs) (a_home := a_home) (a_depth := a_depth) (a_closer := a_closer) (a_mate := a_mate) (a_operands := a_operands) (a_varies := a_varies) (a_parted := a_parted) (a_variableVaries := a_variableVaries) (a_same := a_same) (a_fixed := a_fixed) (a_worth := a_worth) (a_needed := a_needed) (a_variableNeeded := a_variableNeeded) (a_values := a_values) (a_variables := a_variables) (a_cells := a_cells) (a_whole := a_whole) (a_waiting := a_waiting) (yf_lines := yf_lines) (yf_known := yf_known) (yf_wrong := yf_wrong) (yf_place := yf_place) (yf_blocks := yf_blocks) (yf_steps := yf_steps) (yf_dropped := yf_dropped) (yf_on := yf_on) (yf_next := nI (i + 1)) (yf_again := yf_again) (yf_depth := yf_depth) (ya_ops := ya_ops) (ya_as := ya_as) (ya_bs := ya_bs) (ya_cs := ya_cs) (ya_blockOf := ya_blockOf) (ya_opener := ya_opener) (ya_around := ya_around) (ya_other := ya_other) (ya_end := ya_end) (ya_open := ya_open) (ya_varied := ya_varied) (ya_loose := ya_loose) (ya_variedVariable := ya_variedVariable) (ya_stands := ya_stands) (ya_number := ya_number) (ya_isConst := ya_isConst) (ya_needed := ya_needed) (ya_inputs := ya_inputs) (ya_values := ya_values) (ya_variables := ya_variables) (ya_cells := ya_cells) (ya_was := ya_was) (ya_rest := ya_rest) (ya_line := ya_line) hS hi hk hw eon ey hdw edr d1 d5 4 0 a_outputs ya_outs rfl d7
    obtain ⟨hW, _, _, _, _, _, ⟨e1, _⟩, _⟩ := hS
    have hn := hW.1
    have ki := hW.2.1 i hi
    have cw : f_on.toNatClampNeg = w := by rw [eon, nI_clamp (by omega)]
    have cdw : f_dropped.toNatClampNeg = dw := by rw [edr, nI_clamp (by omega)]
    refine ⟨i + 1, f_on, f_dropped, f_repeats, a_values, a_variables, vx, a_cells, a_whole, a_waiting, yf_dropped, yf_on, yf_again, yf_depth, ya_values, ya_variables, ya_cells, vy, ya_was, ya_rest, ya_line, ⟨by omega, rfl, by rw [hs]; exact ed, by rw [hs]; exact hst, ⟨w, hw, eon⟩, Or.inl ⟨ey, fun h => absurd h hon, by rw [hs]; exact hsw⟩⟩, ⟨d1, ⟨dw, hdw, edr⟩, d3, d4, d5, d6, h1, d8⟩, by unfold xf; rw [if_neg (by omega), if_neg (by omega), if_neg (by omega), if_pos hk, cw, cdw, ← h0], fun post h => ?_, fun post h => ?_⟩
    · exact rx_do (k := K i) (by omega) ki.1 ki.2 (fun z => absurd z (by omega)) (fun z => absurd z (by omega)) (fun _ => ⟨5, h2 _ h⟩) (fun z => absurd z (by omega)) (fun z => absurd z (by omega)) (fun z => absurd z (by omega)) (fun z => absurd z (by omega)) (fun z => absurd z (by omega)) (fun z => absurd z (by omega)) (fun z => absurd z (by omega))
    · exact ry_do (k := K i) (by omega) (by rw [e1]; exact ki.1) ki.2 (fun z => absurd z (by omega)) (fun z => absurd z (by omega)) (fun z => absurd z (by omega)) (fun _ => ⟨5, h3 _ h⟩) (fun z => absurd z (by omega)) (fun z _ => absurd z (by omega))
  · omega
theorem ln_drop (hS : rn_stat K n T br f_lines f_brief a_kinds a_firsts a_seconds a_thirds a_inputs a_home a_depth a_closer a_mate a_operands a_same a_fixed a_worth a_needed yf_lines ya_ops ya_as ya_bs ya_cs ya_blockOf ya_opener ya_around ya_other ya_end ya_stands ya_number ya_isConst ya_needed ya_inputs) {i : Nat} (hp : rn_pos K n i (f_lines, f_studied, f_wrong, f_wrongAt, f_brief, f_on, f_dropped, f_steps, f_nextLine, f_repeats, a_kinds, a_firsts, a_seconds, a_thirds, a_inputs, a_home, a_depth, a_closer, a_mate, a_operands, a_varies, a_parted, a_variableVaries, a_same, a_fixed, a_worth, a_needed, a_variableNeeded, a_values, a_variables, a_outputs, a_cells, a_whole, a_waiting) (yf_lines, yf_known, yf_wrong, yf_place, yf_blocks, yf_steps, yf_dropped, yf_on, yf_next, yf_again, yf_depth, ya_ops, ya_as, ya_bs, ya_cs, ya_blockOf, ya_opener, ya_around, ya_other, ya_end, ya_open, ya_varied, ya_loose, ya_variedVariable, ya_stands, ya_number, ya_isConst, ya_needed, ya_inputs, ya_values, ya_variables, ya_cells, ya_outs, ya_was, ya_rest, ya_line)) (hd : rn_dyn (f_lines, f_studied, f_wrong, f_wrongAt, f_brief, f_on, f_dropped, f_steps, f_nextLine, f_repeats, a_kinds, a_firsts, a_seconds, a_thirds, a_inputs, a_home, a_depth, a_closer, a_mate, a_operands, a_varies, a_parted, a_variableVaries, a_same, a_fixed, a_worth, a_needed, a_variableNeeded, a_values, a_variables, a_outputs, a_cells, a_whole, a_waiting) (yf_lines, yf_known, yf_wrong, yf_place, yf_blocks, yf_steps, yf_dropped, yf_on, yf_next, yf_again, yf_depth, ya_ops, ya_as, ya_bs, ya_cs, ya_blockOf, ya_opener, ya_around, ya_other, ya_end, ya_open, ya_varied, ya_loose, ya_variedVariable, ya_stands, ya_number, ya_isConst, ya_needed, ya_inputs, ya_values, ya_variables, ya_cells, ya_outs, ya_was, ya_rest, ya_line)) (hi : i < n) (hon : f_on ≠ 0) (hk : K i = 25) : rn_goes K n T i br (f_lines, f_studied, f_wrong, f_wrongAt, f_brief, f_on, f_dropped, f_steps, f_nextLine, f_repeats, a_kinds, a_firsts, a_seconds, a_thirds, a_inputs, a_home, a_depth, a_closer, a_mate, a_operands, a_varies, a_parted, a_variableVaries, a_same, a_fixed, a_worth, a_needed, a_variableNeeded, a_values, a_variables, a_outputs, a_cells, a_whole, a_waiting) (yf_lines, yf_known, yf_wrong, yf_place, yf_blocks, yf_steps, yf_dropped, yf_on, yf_next, yf_again, yf_depth, ya_ops, ya_as, ya_bs, ya_cs, ya_blockOf, ya_opener, ya_around, ya_other, ya_end, ya_open, ya_varied, ya_loose, ya_variedVariable, ya_stands, ya_number, ya_isConst, ya_needed, ya_inputs, ya_values, ya_variables, ya_cells, ya_outs, ya_was, ya_rest, ya_line) := by
  obtain ⟨hin, en, ed, hst, ⟨w, hw, eon⟩, hmode⟩ := hp
  obtain ⟨d1, ⟨dw, hdw, edr⟩, d3, d4, d5, d6, d7, d8⟩ := hd
  have hs : sc_fr K (i + 1) = sc_fr K i := sc_s_plain (by omega)
  obtain ⟨hW, _, _, _, _, _, ⟨e1, _⟩, _⟩ := hS
  have hn := hW.1
  have ki := hW.2.1 i hi
  rcases hmode with ⟨ey, hne, hsw⟩ | ⟨_, k21, _⟩
  · refine ⟨i + 1, f_on, f_dropped ||| f_on, f_repeats, a_values, a_variables, a_outputs, a_cells, a_whole, a_waiting, yf_dropped ||| yf_on, yf_on, yf_again, yf_depth, ya_values, ya_variables, ya_cells, ya_outs, ya_was, ya_rest, ya_line, ⟨by omega, rfl, by rw [hs]; exact ed, by rw [hs]; exact hst, ⟨w, hw, eon⟩, Or.inl ⟨ey, fun h => absurd h hon, by rw [hs]; exact hsw⟩⟩, ⟨by rw [d1, ey], ⟨dw ||| w, (mk_lt dw hdw w hw).2.2, by rw [edr, eon, mk_or dw hdw w hw]⟩, d3, d4, d5, d6, d7, d8⟩, by unfold xf; rw [if_neg (by omega), if_neg (by omega), if_neg (by omega), if_neg (by omega), if_neg (by omega), if_neg (by omega), if_neg (by omega), if_neg (by omega), if_neg (by omega), if_neg (by omega)], fun post h => ?_, fun post h => ?_⟩
    · exact rx_do (k := K i) (by omega) ki.1 ki.2 (fun z => absurd z (by omega)) (fun z => absurd z (by omega)) (fun z => absurd z (by omega)) (fun z => absurd z (by omega)) (fun z => absurd z (by omega)) (fun z => absurd z (by omega)) (fun z => absurd z (by omega)) (fun z => absurd z (by omega)) (fun z => absurd z (by omega)) (fun _ => h)
    · exact ry_do (k := K i) (by omega) (by rw [e1]; exact ki.1) ki.2 (fun z => absurd z (by omega)) (fun z => absurd z (by omega)) (fun z => absurd z (by omega)) (fun z => absurd z (by omega)) (fun _ => h) (fun _ z => absurd z (by omega))
  · omega
end
end
section
section
variable {K : Nat → Nat} {n : Nat} {T : Nat → Nat × Bool × Int32} {br : Int32}
variable {f_lines f_known f_wrong f_place f_blocks f_steps f_dropped f_on f_next f_again f_depth : Int32} {a_ops a_as a_bs a_cs a_blockOf a_opener a_around a_other a_end a_open a_varied a_loose a_variedVariable a_stands a_number a_isConst a_needed a_inputs a_values a_variables a_cells a_outs a_was a_rest a_line : Nat → Int32}
theorem ry_second {post : SY → Prop} {L m : Nat} {on : Int32} (hL : L < 4) (hm : m < 48) (el : a_line L = nI m) (er : a_rest L = on)
    (h0 : a_other m < 0 → post (f_lines, f_known, f_wrong, f_place, f_blocks, f_steps, f_dropped, on, a_end m, f_again, f_depth, a_ops, a_as, a_bs, a_cs, a_blockOf, a_opener, a_around, a_other, a_end, a_open, a_varied, a_loose, a_variedVariable, a_stands, a_number, a_isConst, a_needed, a_inputs, a_values, a_variables, a_cells, a_outs, a_was, upd a_rest L (-1), a_line)) (h1 : ¬ a_other m < 0 → on = 0 → post (f_lines, f_known, f_wrong, f_place, f_blocks, f_steps, f_dropped, on, a_end m, f_again, f_depth, a_ops, a_as, a_bs, a_cs, a_blockOf, a_opener, a_around, a_other, a_end, a_open, a_varied, a_loose, a_variedVariable, a_stands, a_number, a_isConst, a_needed, a_inputs, a_values, a_variables, a_cells, a_outs, a_was, upd a_rest L (-1), a_line)) (h2 : ¬ a_other m < 0 → on ≠ 0 → post (f_lines, f_known, f_wrong, f_place, f_blocks, f_steps, f_dropped, on, a_other m + 1, f_again, f_depth, a_ops, a_as, a_bs, a_cs, a_blockOf, a_opener, a_around, a_other, a_end, a_open, a_varied, a_loose, a_variedVariable, a_stands, a_number, a_isConst, a_needed, a_inputs, a_values, a_variables, a_cells, a_outs, a_was, upd a_rest L (-1), a_line)) : wpY_second post (f_lines, f_known, f_wrong, f_place, f_blocks, f_steps, f_dropped, f_on, f_next, f_again, f_depth, a_ops, a_as, a_bs, a_cs, a_blockOf, a_opener, a_around, a_other, a_end, a_open, a_varied, a_loose, a_variedVariable, a_stands, a_number, a_isConst, a_needed, a_inputs, a_values, a_variables, a_cells, a_outs, a_was, a_rest, a_line) (nI L) := by
  have iL : vp_in (nI L) 4 := vp_in_nI hL (by omega)
  have cL : (nI L).toNatClampNeg = L := nI_clamp (by omega)
  have im : vp_in (nI m) 48 := vp_in_nI hm (by omega)
  have cm : (nI m).toNatClampNeg = m := nI_clamp (by omega)
  refine ⟨iL, nm_c cL el ⟨iL, nm_c cL er ⟨iL, nm_r (e' := upd a_rest L (-1)) (by rw [cL]) ⟨im, ?_⟩⟩⟩⟩
  rw [cm]
  exact br_c (fun h => ⟨im, nm_e (h0 h)⟩) (fun h => br_c (fun hz => ⟨im, nm_e (h1 h hz)⟩) (fun hz => ⟨im, nm_e (h2 h hz)⟩))
theorem ry_f19 {post : SY → Prop} {i w m L : Nat} (hi : i < 48) (hL : L < 4) (eD : f_depth = nI L) (hw : w < 16) (hm : m < 16) (eon : f_on = nI w) (mask : ∀ P : Int32 → Prop, P (nI m) → wpY_mask P (f_lines, f_known, f_wrong, f_place, f_blocks, f_steps, f_dropped, f_on, f_next, f_again, f_depth, a_ops, a_as, a_bs, a_cs, a_blockOf, a_opener, a_around, a_other, a_end, a_open, a_varied, a_loose, a_variedVariable, a_stands, a_number, a_isConst, a_needed, a_inputs, a_values, a_variables, a_cells, a_outs, a_was, a_rest, a_line) (a_as i) br)
    (h1 : w &&& m ≠ 0 → post (f_lines, f_known, f_wrong, f_place, f_blocks, f_steps, f_dropped, nI (w &&& m), f_next, f_again, nI (L + 1), a_ops, a_as, a_bs, a_cs, a_blockOf, a_opener, a_around, a_other, a_end, a_open, a_varied, a_loose, a_variedVariable, a_stands, a_number, a_isConst, a_needed, a_inputs, a_values, a_variables, a_cells, a_outs, upd a_was L (nI w), upd a_rest L (nI (w &&& (15 ^^^ m))), upd a_line L (nI i)))
    (h2 : w &&& m = 0 → wpY_second (fun u => match u with | (f_lines, f_known, f_wrong, f_place, f_blocks, f_steps, f_dropped, f_on, f_next, f_again, f_depth, a_ops, a_as, a_bs, a_cs, a_blockOf, a_opener, a_around, a_other, a_end, a_open, a_varied, a_loose, a_variedVariable, a_stands, a_number, a_isConst, a_needed, a_inputs, a_values, a_variables, a_cells, a_outs, a_was, a_rest, a_line) => post (f_lines, f_known, f_wrong, f_place, f_blocks, f_steps, f_dropped, f_on, f_next, f_again, f_depth, a_ops, a_as, a_bs, a_cs, a_blockOf, a_opener, a_around, a_other, a_end, a_open, a_varied, a_loose, a_variedVariable, a_stands, a_number, a_isConst, a_needed, a_inputs, a_values, a_variables, a_cells, a_outs, a_was, a_rest, a_line)) (f_lines, f_known, f_wrong, f_place, f_blocks, f_steps, f_dropped, nI (w &&& m), f_next, f_again, nI (L + 1), a_ops, a_as, a_bs, a_cs, a_blockOf, a_opener, a_around, a_other, a_end, a_open, a_varied, a_loose, a_variedVariable, a_stands, a_number, a_isConst, a_needed, a_inputs, a_values, a_variables, a_cells, a_outs, upd a_was L (nI w), upd a_rest L (nI (w &&& (15 ^^^ m))), upd a_line L (nI i)) (nI L)) : wpY_flow post (f_lines, f_known, f_wrong, f_place, f_blocks, f_steps, f_dropped, f_on, f_next, f_again, f_depth, a_ops, a_as, a_bs, a_cs, a_blockOf, a_opener, a_around, a_other, a_end, a_open, a_varied, a_loose, a_variedVariable, a_stands, a_number, a_isConst, a_needed, a_inputs, a_values, a_variables, a_cells, a_outs, a_was, a_rest, a_line) (nI i) (nI 19) br := by
  subst eD eon
  have iL : vp_in (nI L) 4 := vp_in_nI hL (by omega)
  have cL : (nI L).toNatClampNeg = L := nI_clamp (by omega)
  have ci : (nI i).toNatClampNeg = i := nI_clamp (by omega)
  have lt := (mk_lt w hw m hm).2.1
  refine nm_e (br_f (by decide) (br_f (by decide) (br_t rfl ⟨vp_in_nI hi (by omega), ?_⟩)))
  rw [ci]
  refine mask _ ⟨iL, nm_r (e' := upd a_was L (nI w)) (by rw [cL]) ⟨iL, nm_r (e' := upd a_rest L (nI (w &&& (15 ^^^ m)))) (by rw [cL, mk_an w hw m hm]) (nm_r (nI_1 L) ⟨iL, nm_r (e' := upd a_line L (nI i)) (by rw [cL]) (nm_r (mk_and w hw m hm) ?_)⟩)⟩⟩
  refine pk_eq (w &&& m) 0 (fun e => ?_) (fun e => h1 e)
  rw [nI_pred]
  exact h2 e
theorem ry_f20 {post : SY → Prop} {i L : Nat} (eD : f_depth = nI (L + 1)) (h : wpY_second (fun u => match u with | (f_lines, f_known, f_wrong, f_place, f_blocks, f_steps, f_dropped, f_on, f_next, f_again, f_depth, a_ops, a_as, a_bs, a_cs, a_blockOf, a_opener, a_around, a_other, a_end, a_open, a_varied, a_loose, a_variedVariable, a_stands, a_number, a_isConst, a_needed, a_inputs, a_values, a_variables, a_cells, a_outs, a_was, a_rest, a_line) => post (f_lines, f_known, f_wrong, f_place, f_blocks, f_steps, f_dropped, f_on, f_next, f_again, f_depth, a_ops, a_as, a_bs, a_cs, a_blockOf, a_opener, a_around, a_other, a_end, a_open, a_varied, a_loose, a_variedVariable, a_stands, a_number, a_isConst, a_needed, a_inputs, a_values, a_variables, a_cells, a_outs, a_was, a_rest, a_line)) (f_lines, f_known, f_wrong, f_place, f_blocks, f_steps, f_dropped, f_on, f_next, f_again, f_depth, a_ops, a_as, a_bs, a_cs, a_blockOf, a_opener, a_around, a_other, a_end, a_open, a_varied, a_loose, a_variedVariable, a_stands, a_number, a_isConst, a_needed, a_inputs, a_values, a_variables, a_cells, a_outs, a_was, a_rest, a_line) (nI L)) : wpY_flow post (f_lines, f_known, f_wrong, f_place, f_blocks, f_steps, f_dropped, f_on, f_next, f_again, f_depth, a_ops, a_as, a_bs, a_cs, a_blockOf, a_opener, a_around, a_other, a_end, a_open, a_varied, a_loose, a_variedVariable, a_stands, a_number, a_isConst, a_needed, a_inputs, a_values, a_variables, a_cells, a_outs, a_was, a_rest, a_line) (nI i) (nI 20) br := by
  subst eD
  exact nm_r (nI_pred L) (br_f (by decide) (br_f (by decide) (br_f (by decide) (br_t rfl h))))
theorem ry_f21 {post : SY → Prop} {i L : Nat} (hL : L < 4) (eD : f_depth = nI (L + 1)) (h : post (f_lines, f_known, f_wrong, f_place, f_blocks, f_steps, f_dropped, a_was L, f_next, f_again, nI L, a_ops, a_as, a_bs, a_cs, a_blockOf, a_opener, a_around, a_other, a_end, a_open, a_varied, a_loose, a_variedVariable, a_stands, a_number, a_isConst, a_needed, a_inputs, a_values, a_variables, a_cells, a_outs, a_was, a_rest, a_line)) : wpY_flow post (f_lines, f_known, f_wrong, f_place, f_blocks, f_steps, f_dropped, f_on, f_next, f_again, f_depth, a_ops, a_as, a_bs, a_cs, a_blockOf, a_opener, a_around, a_other, a_end, a_open, a_varied, a_loose, a_variedVariable, a_stands, a_number, a_isConst, a_needed, a_inputs, a_values, a_variables, a_cells, a_outs, a_was, a_rest, a_line) (nI i) (nI 21) br := by
  subst eD
  exact nm_r (nI_pred L) (br_f (by decide) (br_f (by decide) (br_f (by decide) (br_f (by decide) (br_t rfl ⟨vp_in_nI hL (by omega), nm_r (by rw [nI_clamp (by omega)]) h⟩)))))
theorem ry_f22 {post : SY → Prop} {i L : Nat} (hL : L < 4) (eD : f_depth = nI L) (h : post (f_lines, f_known, f_wrong, f_place, f_blocks, f_steps, f_dropped, f_on, f_next, f_again, nI (L + 1), a_ops, a_as, a_bs, a_cs, a_blockOf, a_opener, a_around, a_other, a_end, a_open, a_varied, a_loose, a_variedVariable, a_stands, a_number, a_isConst, a_needed, a_inputs, a_values, a_variables, a_cells, a_outs, upd a_was L f_on, upd a_rest L 0, upd a_line L (nI i))) : wpY_flow post (f_lines, f_known, f_wrong, f_place, f_blocks, f_steps, f_dropped, f_on, f_next, f_again, f_depth, a_ops, a_as, a_bs, a_cs, a_blockOf, a_opener, a_around, a_other, a_end, a_open, a_varied, a_loose, a_variedVariable, a_stands, a_number, a_isConst, a_needed, a_inputs, a_values, a_variables, a_cells, a_outs, a_was, a_rest, a_line) (nI i) (nI 22) br := by
  subst eD
  have iL : vp_in (nI L) 4 := vp_in_nI hL (by omega)
  have cL : (nI L).toNatClampNeg = L := nI_clamp (by omega)
  exact nm_e (br_f (by decide) (br_f (by decide) (br_f (by decide) (br_f (by decide) (br_f (by decide) (br_t rfl ⟨iL, nm_r (e' := upd a_was L f_on) (by rw [cL]) ⟨iL, nm_r (e' := upd a_rest L 0) (by rw [cL]) (nm_r (nI_1 L) ⟨iL, nm_r (e' := upd a_line L (nI i)) (by rw [cL]) h⟩)⟩⟩))))))
theorem ry_f23 {post : SY → Prop} {i L : Nat} (hL : L < 4) (eD : f_depth = nI (L + 1)) (h0 : f_on = 0 → post (f_lines, f_known, f_wrong, f_place, f_blocks, f_steps, f_dropped, a_was L, f_next, f_again, nI L, a_ops, a_as, a_bs, a_cs, a_blockOf, a_opener, a_around, a_other, a_end, a_open, a_varied, a_loose, a_variedVariable, a_stands, a_number, a_isConst, a_needed, a_inputs, a_values, a_variables, a_cells, a_outs, a_was, a_rest, a_line)) (h1 : f_on ≠ 0 → post (f_lines, f_known, f_wrong, f_place, f_blocks, f_steps, f_dropped, f_on, a_line L + 1, f_again + 1, nI (L + 1), a_ops, a_as, a_bs, a_cs, a_blockOf, a_opener, a_around, a_other, a_end, a_open, a_varied, a_loose, a_variedVariable, a_stands, a_number, a_isConst, a_needed, a_inputs, a_values, a_variables, a_cells, a_outs, a_was, a_rest, a_line)) : wpY_flow post (f_lines, f_known, f_wrong, f_place, f_blocks, f_steps, f_dropped, f_on, f_next, f_again, f_depth, a_ops, a_as, a_bs, a_cs, a_blockOf, a_opener, a_around, a_other, a_end, a_open, a_varied, a_loose, a_variedVariable, a_stands, a_number, a_isConst, a_needed, a_inputs, a_values, a_variables, a_cells, a_outs, a_was, a_rest, a_line) (nI i) (nI 23) br := by
  subst eD
  have iL : vp_in (nI L) 4 := vp_in_nI hL (by omega)
  have cL : (nI L).toNatClampNeg = L := nI_clamp (by omega)
  exact nm_r (nI_pred L) (br_f (by decide) (br_f (by decide) (br_f (by decide) (br_f (by decide) (br_f (by decide) (br_f (by decide) (br_t rfl (br_c (fun hz => ⟨iL, nm_r (by rw [cL]) (h0 hz)⟩) (fun hz => ⟨iL, nm_r (by rw [cL]) (nm_e (h1 hz))⟩)))))))))
theorem ry_f24 {post : SY → Prop} {i : Nat} (h : wpY_leave (fun u => match u with | (f_lines, f_known, f_wrong, f_place, f_blocks, f_steps, f_dropped, f_on, f_next, f_again, f_depth, a_ops, a_as, a_bs, a_cs, a_blockOf, a_opener, a_around, a_other, a_end, a_open, a_varied, a_loose, a_variedVariable, a_stands, a_number, a_isConst, a_needed, a_inputs, a_values, a_variables, a_cells, a_outs, a_was, a_rest, a_line) => post (f_lines, f_known, f_wrong, f_place, f_blocks, f_steps, f_dropped, f_on, f_next, f_again, f_depth, a_ops, a_as, a_bs, a_cs, a_blockOf, a_opener, a_around, a_other, a_end, a_open, a_varied, a_loose, a_variedVariable, a_stands, a_number, a_isConst, a_needed, a_inputs, a_values, a_variables, a_cells, a_outs, a_was, a_rest, a_line)) (f_lines, f_known, f_wrong, f_place, f_blocks, f_steps, f_dropped, f_on, f_next, f_again, f_depth, a_ops, a_as, a_bs, a_cs, a_blockOf, a_opener, a_around, a_other, a_end, a_open, a_varied, a_loose, a_variedVariable, a_stands, a_number, a_isConst, a_needed, a_inputs, a_values, a_variables, a_cells, a_outs, a_was, a_rest, a_line)) : wpY_flow post (f_lines, f_known, f_wrong, f_place, f_blocks, f_steps, f_dropped, f_on, f_next, f_again, f_depth, a_ops, a_as, a_bs, a_cs, a_blockOf, a_opener, a_around, a_other, a_end, a_open, a_varied, a_loose, a_variedVariable, a_stands, a_number, a_isConst, a_needed, a_inputs, a_values, a_variables, a_cells, a_outs, a_was, a_rest, a_line) (nI i) (nI 24) br :=
  nm_e (br_f (by decide) (br_t (by decide) h))
end
section
variable {K : Nat → Nat} {n : Nat} {T : Nat → Nat × Bool × Int32} {br : Int32}
variable {f_lines f_studied f_wrong f_wrongAt f_brief f_on f_dropped f_steps f_nextLine f_repeats : Int32} {a_kinds a_firsts a_seconds a_thirds a_inputs a_home a_depth a_closer a_mate a_operands a_varies a_parted a_variableVaries a_same a_fixed a_worth a_needed a_variableNeeded a_values a_variables a_outputs a_cells a_whole a_waiting : Nat → Int32}
variable {yf_lines yf_known yf_wrong yf_place yf_blocks yf_steps yf_dropped yf_on yf_next yf_again yf_depth : Int32} {ya_ops ya_as ya_bs ya_cs ya_blockOf ya_opener ya_around ya_other ya_end ya_open ya_varied ya_loose ya_variedVariable ya_stands ya_number ya_isConst ya_needed ya_inputs ya_values ya_variables ya_cells ya_outs ya_was ya_rest ya_line : Nat → Int32}
/-- a line of flow, by both switches -/
theorem ln_fx {post : Int32 → SX → Prop} {i : Nat} (hn : n ≤ 48) (hK : ∀ j, j < n → a_kinds j = nI (K j) ∧ K j ≤ 25) (hi : i < n) (hk : 19 ≤ K i) (hk' : K i ≤ 24)
    (c19 : K i = 19 → wpX_enterFirstPart (fun r_148 u => match u with | (f_lines, f_studied, f_wrong, f_wrongAt, f_brief, f_on, f_dropped, f_steps, f_nextLine, f_repeats, a_kinds, a_firsts, a_seconds, a_thirds, a_inputs, a_home, a_depth, a_closer, a_mate, a_operands, a_varies, a_parted, a_variableVaries, a_same, a_fixed, a_worth, a_needed, a_variableNeeded, a_values, a_variables, a_outputs, a_cells, a_whole, a_waiting) => (post r_148 (f_lines, f_studied, f_wrong, f_wrongAt, f_brief, f_on, f_dropped, f_steps, f_nextLine, f_repeats, a_kinds, a_firsts, a_seconds, a_thirds, a_inputs, a_home, a_depth, a_closer, a_mate, a_operands, a_varies, a_parted, a_variableVaries, a_same, a_fixed, a_worth, a_needed, a_variableNeeded, a_values, a_variables, a_outputs, a_cells, a_whole, a_waiting))) (f_lines, f_studied, f_wrong, f_wrongAt, f_brief, f_on, f_dropped, f_steps, f_nextLine, f_repeats, a_kinds, a_firsts, a_seconds, a_thirds, a_inputs, a_home, a_depth, a_closer, a_mate, a_operands, a_varies, a_parted, a_variableVaries, a_same, a_fixed, a_worth, a_needed, a_variableNeeded, a_values, a_variables, a_outputs, a_cells, a_whole, a_waiting) (nI i)) (c20 : K i = 20 → wpX_enterSecondPart (fun r_148 u => match u with | (f_lines, f_studied, f_wrong, f_wrongAt, f_brief, f_on, f_dropped, f_steps, f_nextLine, f_repeats, a_kinds, a_firsts, a_seconds, a_thirds, a_inputs, a_home, a_depth, a_closer, a_mate, a_operands, a_varies, a_parted, a_variableVaries, a_same, a_fixed, a_worth, a_needed, a_variableNeeded, a_values, a_variables, a_outputs, a_cells, a_whole, a_waiting) => (post r_148 (f_lines, f_studied, f_wrong, f_wrongAt, f_brief, f_on, f_dropped, f_steps, f_nextLine, f_repeats, a_kinds, a_firsts, a_seconds, a_thirds, a_inputs, a_home, a_depth, a_closer, a_mate, a_operands, a_varies, a_parted, a_variableVaries, a_same, a_fixed, a_worth, a_needed, a_variableNeeded, a_values, a_variables, a_outputs, a_cells, a_whole, a_waiting))) (f_lines, f_studied, f_wrong, f_wrongAt, f_brief, f_on, f_dropped, f_steps, f_nextLine, f_repeats, a_kinds, a_firsts, a_seconds, a_thirds, a_inputs, a_home, a_depth, a_closer, a_mate, a_operands, a_varies, a_parted, a_variableVaries, a_same, a_fixed, a_worth, a_needed, a_variableNeeded, a_values, a_variables, a_outputs, a_cells, a_whole, a_waiting) (nI i))
    (c21 : K i = 21 → (vp_in (a_depth i) 4 ∧ (∀ f_on_222 : Int32, f_on_222 = a_whole (a_depth i).toNatClampNeg → (post (nI (i + 1)) (f_lines, f_studied, f_wrong, f_wrongAt, f_brief, f_on_222, f_dropped, f_steps, f_nextLine, f_repeats, a_kinds, a_firsts, a_seconds, a_thirds, a_inputs, a_home, a_depth, a_closer, a_mate, a_operands, a_varies, a_parted, a_variableVaries, a_same, a_fixed, a_worth, a_needed, a_variableNeeded, a_values, a_variables, a_outputs, a_cells, a_whole, a_waiting)))))
    (c22 : K i = 22 → (vp_in (a_depth i) 4 ∧ (∀ a_whole_226 : Nat → Int32, a_whole_226 = upd a_whole (a_depth i).toNatClampNeg f_on → (post (nI (i + 1)) (f_lines, f_studied, f_wrong, f_wrongAt, f_brief, f_on, f_dropped, f_steps, f_nextLine, f_repeats, a_kinds, a_firsts, a_seconds, a_thirds, a_inputs, a_home, a_depth, a_closer, a_mate, a_operands, a_varies, a_parted, a_variableVaries, a_same, a_fixed, a_worth, a_needed, a_variableNeeded, a_values, a_variables, a_outputs, a_cells, a_whole_226, a_waiting)))))
    (c23 : K i = 23 → wpX_endRound (fun r_148 u => match u with | (f_lines, f_studied, f_wrong, f_wrongAt, f_brief, f_on, f_dropped, f_steps, f_nextLine, f_repeats, a_kinds, a_firsts, a_seconds, a_thirds, a_inputs, a_home, a_depth, a_closer, a_mate, a_operands, a_varies, a_parted, a_variableVaries, a_same, a_fixed, a_worth, a_needed, a_variableNeeded, a_values, a_variables, a_outputs, a_cells, a_whole, a_waiting) => (post r_148 (f_lines, f_studied, f_wrong, f_wrongAt, f_brief, f_on, f_dropped, f_steps, f_nextLine, f_repeats, a_kinds, a_firsts, a_seconds, a_thirds, a_inputs, a_home, a_depth, a_closer, a_mate, a_operands, a_varies, a_parted, a_variableVaries, a_same, a_fixed, a_worth, a_needed, a_variableNeeded, a_values, a_variables, a_outputs, a_cells, a_whole, a_waiting))) (f_lines, f_studied, f_wrong, f_wrongAt, f_brief, f_on, f_dropped, f_steps, f_nextLine, f_repeats, a_kinds, a_firsts, a_seconds, a_thirds, a_inputs, a_home, a_depth, a_closer, a_mate, a_operands, a_varies, a_parted, a_variableVaries, a_same, a_fixed, a_worth, a_needed, a_variableNeeded, a_values, a_variables, a_outputs, a_cells, a_whole, a_waiting) (nI i)) (c24 : K i = 24 → wpX_leaveLoop (fun u => match u with | (f_lines, f_studied, f_wrong, f_wrongAt, f_brief, f_on, f_dropped, f_steps, f_nextLine, f_repeats, a_kinds, a_firsts, a_seconds, a_thirds, a_inputs, a_home, a_depth, a_closer, a_mate, a_operands, a_varies, a_parted, a_variableVaries, a_same, a_fixed, a_worth, a_needed, a_variableNeeded, a_values, a_variables, a_outputs, a_cells, a_whole, a_waiting) => (post (nI (i + 1)) (f_lines, f_studied, f_wrong, f_wrongAt, f_brief, f_on, f_dropped, f_steps, f_nextLine, f_repeats, a_kinds, a_firsts, a_seconds, a_thirds, a_inputs, a_home, a_depth, a_closer, a_mate, a_operands, a_varies, a_parted, a_variableVaries, a_same, a_fixed, a_worth, a_needed, a_variableNeeded, a_values, a_variables, a_outputs, a_cells, a_whole, a_waiting))) (f_lines, f_studied, f_wrong, f_wrongAt, f_brief, f_on, f_dropped, f_steps, f_nextLine, f_repeats, a_kinds, a_firsts, a_seconds, a_thirds, a_inputs, a_home, a_depth, a_closer, a_mate, a_operands, a_varies, a_parted, a_variableVaries, a_same, a_fixed, a_worth, a_needed, a_variableNeeded, a_values, a_variables, a_outputs, a_cells, a_whole, a_waiting) (nI i)) : wpX_doLine post (f_lines, f_studied, f_wrong, f_wrongAt, f_brief, f_on, f_dropped, f_steps, f_nextLine, f_repeats, a_kinds, a_firsts, a_seconds, a_thirds, a_inputs, a_home, a_depth, a_closer, a_mate, a_operands, a_varies, a_parted, a_variableVaries, a_same, a_fixed, a_worth, a_needed, a_variableNeeded, a_values, a_variables, a_outputs, a_cells, a_whole, a_waiting) (nI i) :=
  rx_do (k := K i) (by omega) (hK i hi).1 (hK i hi).2 (fun z => absurd z (by omega)) (fun z => absurd z (by omega)) (fun z => absurd z (by omega)) c19 c20 c21 c22 c23 c24 (fun z => absurd z (by omega))
theorem ln_fy {post : SY → Prop} {i : Nat} (hn : n ≤ 48) (hK : ∀ j, j < n → ya_ops j = nI (K j) ∧ K j ≤ 25) (hi : i < n) (hk : 19 ≤ K i) (hk' : K i ≤ 24) (h : wpY_flow (fun u => match u with | (yf_lines, yf_known, yf_wrong, yf_place, yf_blocks, yf_steps, yf_dropped, yf_on, yf_next, yf_again, yf_depth, ya_ops, ya_as, ya_bs, ya_cs, ya_blockOf, ya_opener, ya_around, ya_other, ya_end, ya_open, ya_varied, ya_loose, ya_variedVariable, ya_stands, ya_number, ya_isConst, ya_needed, ya_inputs, ya_values, ya_variables, ya_cells, ya_outs, ya_was, ya_rest, ya_line) => (post (yf_lines, yf_known, yf_wrong, yf_place, yf_blocks, yf_steps, yf_dropped, yf_on, yf_next, yf_again, yf_depth, ya_ops, ya_as, ya_bs, ya_cs, ya_blockOf, ya_opener, ya_around, ya_other, ya_end, ya_open, ya_varied, ya_loose, ya_variedVariable, ya_stands, ya_number, ya_isConst, ya_needed, ya_inputs, ya_values, ya_variables, ya_cells, ya_outs, ya_was, ya_rest, ya_line))) (yf_lines, yf_known, yf_wrong, yf_place, yf_blocks, yf_steps, yf_dropped, yf_on, nI (i + 1), yf_again, yf_depth, ya_ops, ya_as, ya_bs, ya_cs, ya_blockOf, ya_opener, ya_around, ya_other, ya_end, ya_open, ya_varied, ya_loose, ya_variedVariable, ya_stands, ya_number, ya_isConst, ya_needed, ya_inputs, ya_values, ya_variables, ya_cells, ya_outs, ya_was, ya_rest, ya_line) (nI i) (nI (K i)) br) : wpY_step post (yf_lines, yf_known, yf_wrong, yf_place, yf_blocks, yf_steps, yf_dropped, yf_on, yf_next, yf_again, yf_depth, ya_ops, ya_as, ya_bs, ya_cs, ya_blockOf, ya_opener, ya_around, ya_other, ya_end, ya_open, ya_varied, ya_loose, ya_variedVariable, ya_stands, ya_number, ya_isConst, ya_needed, ya_inputs, ya_values, ya_variables, ya_cells, ya_outs, ya_was, ya_rest, ya_line) (nI i) br :=
  ry_do (k := K i) (by omega) (hK i hi).1 (hK i hi).2 (fun z => absurd z (by omega)) (fun z => absurd z (by omega)) (fun z => absurd z (by omega)) (fun z => absurd z (by omega)) (fun z => absurd z (by omega)) (fun _ _ => h)
theorem ln_end (hS : rn_stat K n T br f_lines f_brief a_kinds a_firsts a_seconds a_thirds a_inputs a_home a_depth a_closer a_mate a_operands a_same a_fixed a_worth a_needed yf_lines ya_ops ya_as ya_bs ya_cs ya_blockOf ya_opener ya_around ya_other ya_end ya_stands ya_number ya_isConst ya_needed ya_inputs) {i : Nat} (hp : rn_pos K n i (f_lines, f_studied, f_wrong, f_wrongAt, f_brief, f_on, f_dropped, f_steps, f_nextLine, f_repeats, a_kinds, a_firsts, a_seconds, a_thirds, a_inputs, a_home, a_depth, a_closer, a_mate, a_operands, a_varies, a_parted, a_variableVaries, a_same, a_fixed, a_worth, a_needed, a_variableNeeded, a_values, a_variables, a_outputs, a_cells, a_whole, a_waiting) (yf_lines, yf_known, yf_wrong, yf_place, yf_blocks, yf_steps, yf_dropped, yf_on, yf_next, yf_again, yf_depth, ya_ops, ya_as, ya_bs, ya_cs, ya_blockOf, ya_opener, ya_around, ya_other, ya_end, ya_open, ya_varied, ya_loose, ya_variedVariable, ya_stands, ya_number, ya_isConst, ya_needed, ya_inputs, ya_values, ya_variables, ya_cells, ya_outs, ya_was, ya_rest, ya_line)) (hd : rn_dyn (f_lines, f_studied, f_wrong, f_wrongAt, f_brief, f_on, f_dropped, f_steps, f_nextLine, f_repeats, a_kinds, a_firsts, a_seconds, a_thirds, a_inputs, a_home, a_depth, a_closer, a_mate, a_operands, a_varies, a_parted, a_variableVaries, a_same, a_fixed, a_worth, a_needed, a_variableNeeded, a_values, a_variables, a_outputs, a_cells, a_whole, a_waiting) (yf_lines, yf_known, yf_wrong, yf_place, yf_blocks, yf_steps, yf_dropped, yf_on, yf_next, yf_again, yf_depth, ya_ops, ya_as, ya_bs, ya_cs, ya_blockOf, ya_opener, ya_around, ya_other, ya_end, ya_open, ya_varied, ya_loose, ya_variedVariable, ya_stands, ya_number, ya_isConst, ya_needed, ya_inputs, ya_values, ya_variables, ya_cells, ya_outs, ya_was, ya_rest, ya_line)) (hi : i < n) (hk : K i = 21) : rn_goes K n T i br (f_lines, f_studied, f_wrong, f_wrongAt, f_brief, f_on, f_dropped, f_steps, f_nextLine, f_repeats, a_kinds, a_firsts, a_seconds, a_thirds, a_inputs, a_home, a_depth, a_closer, a_mate, a_operands, a_varies, a_parted, a_variableVaries, a_same, a_fixed, a_worth, a_needed, a_variableNeeded, a_values, a_variables, a_outputs, a_cells, a_whole, a_waiting) (yf_lines, yf_known, yf_wrong, yf_place, yf_blocks, yf_steps, yf_dropped, yf_on, yf_next, yf_again, yf_depth, ya_ops, ya_as, ya_bs, ya_cs, ya_blockOf, ya_opener, ya_around, ya_other, ya_end, ya_open, ya_varied, ya_loose, ya_variedVariable, ya_stands, ya_number, ya_isConst, ya_needed, ya_inputs, ya_values, ya_variables, ya_cells, ya_outs, ya_was, ya_rest, ya_line) := by
  obtain ⟨hin, en, ed, hst, hw, hmode⟩ := hp
  obtain ⟨hW, hok, hfr, hA, hc0, hB, ⟨e1, e2, e3, e4, e5⟩, _⟩ := hS
  have hn := hW.1
  have hK := hW.2.1
  have hKy : ∀ j, j < n → ya_ops j = nI (K j) ∧ K j ≤ 25 := by rw [e1]; exact hK
  have hg := sc_ok_good hok
  obtain ⟨b, m, r, e, km⟩ := (hg i hi).2.2.1 hk
  have fr1 : sc_fr K (i + 1) = r := by rw [sc_s_end (Or.inl hk), e]; rfl
  have len := sc_len i (sc_good_le hg hin)
  have aD := (hA i hi).2.1
  rw [sc_lf_cl (by omega), e, List.tail_cons] at aD
  rw [e] at len ed hst hmode
  simp only [List.length_cons] at len ed
  obtain ⟨s1, s2, s3, s4, s5, s6⟩ := hst
  have hr4 : r.length < 4 := by omega
  have hmode' : st_W K a_waiting ya_rest r := by
    rcases hmode with ⟨_, _, hsw⟩ | ⟨_, _, _, _, hsw⟩
    · exact hsw.2
    · exact hsw
  refine ⟨i + 1, a_whole r.length, f_dropped, f_repeats, a_values, a_variables, a_outputs, a_cells, a_whole, a_waiting, yf_dropped, ya_was r.length, yf_again, nI r.length, ya_values, ya_variables, ya_cells, ya_outs, ya_was, ya_rest, ya_line, ⟨by omega, rfl, by rw [fr1], by rw [fr1]; exact s6, s3, Or.inl ⟨s2, fun h => ?_, by rw [fr1]; exact hmode'⟩⟩, hd, by unfold xf; rw [if_neg (by omega), if_neg (by omega), if_neg (by omega), if_neg (by omega), if_neg (by omega), if_neg (by omega), if_pos hk, aD, nI_clamp (by omega)], fun post h => ?_, fun post h => ?_⟩
  · rw [fr1]
    obtain ⟨g, hg', _⟩ := s5 h
    intro h'; rw [h'] at hg'; cases hg'
  · refine ln_fx (K := K) (n := n) hn hK hi (by omega) (by omega) (fun z => absurd z (by omega)) (fun z => absurd z (by omega)) (fun _ => ?_) (fun z => absurd z (by omega)) (fun z => absurd z (by omega)) (fun z => absurd z (by omega))
    rw [aD, nI_clamp (by omega)]
    exact ⟨vp_in_nI hr4 (by omega), nm_e h⟩
  · refine ln_fy (K := K) (n := n) hn hKy hi (by omega) (by omega) ?_
    rw [hk]
    exact ry_f21 hr4 ed h
theorem ln_loop (hS : rn_stat K n T br f_lines f_brief a_kinds a_firsts a_seconds a_thirds a_inputs a_home a_depth a_closer a_mate a_operands a_same a_fixed a_worth a_needed yf_lines ya_ops ya_as ya_bs ya_cs ya_blockOf ya_opener ya_around ya_other ya_end ya_stands ya_number ya_isConst ya_needed ya_inputs) {i : Nat} (hp : rn_pos K n i (f_lines, f_studied, f_wrong, f_wrongAt, f_brief, f_on, f_dropped, f_steps, f_nextLine, f_repeats, a_kinds, a_firsts, a_seconds, a_thirds, a_inputs, a_home, a_depth, a_closer, a_mate, a_operands, a_varies, a_parted, a_variableVaries, a_same, a_fixed, a_worth, a_needed, a_variableNeeded, a_values, a_variables, a_outputs, a_cells, a_whole, a_waiting) (yf_lines, yf_known, yf_wrong, yf_place, yf_blocks, yf_steps, yf_dropped, yf_on, yf_next, yf_again, yf_depth, ya_ops, ya_as, ya_bs, ya_cs, ya_blockOf, ya_opener, ya_around, ya_other, ya_end, ya_open, ya_varied, ya_loose, ya_variedVariable, ya_stands, ya_number, ya_isConst, ya_needed, ya_inputs, ya_values, ya_variables, ya_cells, ya_outs, ya_was, ya_rest, ya_line)) (hd : rn_dyn (f_lines, f_studied, f_wrong, f_wrongAt, f_brief, f_on, f_dropped, f_steps, f_nextLine, f_repeats, a_kinds, a_firsts, a_seconds, a_thirds, a_inputs, a_home, a_depth, a_closer, a_mate, a_operands, a_varies, a_parted, a_variableVaries, a_same, a_fixed, a_worth, a_needed, a_variableNeeded, a_values, a_variables, a_outputs, a_cells, a_whole, a_waiting) (yf_lines, yf_known, yf_wrong, yf_place, yf_blocks, yf_steps, yf_dropped, yf_on, yf_next, yf_again, yf_depth, ya_ops, ya_as, ya_bs, ya_cs, ya_blockOf, ya_opener, ya_around, ya_other, ya_end, ya_open, ya_varied, ya_loose, ya_variedVariable, ya_stands, ya_number, ya_isConst, ya_needed, ya_inputs, ya_values, ya_variables, ya_cells, ya_outs, ya_was, ya_rest, ya_line)) (hi : i < n) (hon : f_on ≠ 0) (hk : K i = 22) : rn_goes K n T i br (f_lines, f_studied, f_wrong, f_wrongAt, f_brief, f_on, f_dropped, f_steps, f_nextLine, f_repeats, a_kinds, a_firsts, a_seconds, a_thirds, a_inputs, a_home, a_depth, a_closer, a_mate, a_operands, a_varies, a_parted, a_variableVaries, a_same, a_fixed, a_worth, a_needed, a_variableNeeded, a_values, a_variables, a_outputs, a_cells, a_whole, a_waiting) (yf_lines, yf_known, yf_wrong, yf_place, yf_blocks, yf_steps, yf_dropped, yf_on, yf_next, yf_again, yf_depth, ya_ops, ya_as, ya_bs, ya_cs, ya_blockOf, ya_opener, ya_around, ya_other, ya_end, ya_open, ya_varied, ya_loose, ya_variedVariable, ya_stands, ya_number, ya_isConst, ya_needed, ya_inputs, ya_values, ya_variables, ya_cells, ya_outs, ya_was, ya_rest, ya_line) := by
  obtain ⟨hin, en, ed, hst, ⟨w, hw, eon⟩, hmode⟩ := hp
  obtain ⟨hW, hok, hfr, hA, hc0, hB, ⟨e1, e2, e3, e4, e5⟩, _⟩ := hS
  have hn := hW.1
  have hK := hW.2.1
  have hKy : ∀ j, j < n → ya_ops j = nI (K j) ∧ K j ≤ 25 := by rw [e1]; exact hK
  have hg := sc_ok_good hok
  have L4 := (hg i hi).1 (Or.inr hk)
  have fr1 : sc_fr K (i + 1) = (i + 1, i) :: sc_fr K i := sc_s_open (Or.inr hk)
  have aD := (hA i hi).2.1
  rw [sc_lf_n (by omega)] at aD
  rcases hmode with ⟨ey, hne, hsw⟩ | ⟨_, k21, _⟩
  · refine ⟨i + 1, f_on, f_dropped, f_repeats, a_values, a_variables, a_outputs, a_cells, upd a_whole (sc_fr K i).length f_on, a_waiting, yf_dropped, yf_on, yf_again, nI ((sc_fr K i).length + 1), ya_values, ya_variables, ya_cells, ya_outs, upd ya_was (sc_fr K i).length yf_on, upd ya_rest (sc_fr K i).length 0, upd ya_line (sc_fr K i).length (nI i), ⟨by omega, rfl, by rw [fr1]; rfl, ?_, ⟨w, hw, eon⟩, Or.inl ⟨ey, fun h => absurd h hon, ?_⟩⟩, hd, by unfold xf; rw [if_neg (by omega), if_neg (by omega), if_neg (by omega), if_neg (by omega), if_neg (by omega), if_neg (by omega), if_neg (by omega), if_pos hk, aD, nI_clamp (by omega)], fun post h => ?_, fun post h => ?_⟩
    · rw [fr1]
      refine ⟨pk_us, by rw [pk_us, pk_us]; exact ey, ⟨w, hw, by rw [pk_us]; exact eon⟩, fun _ => by rw [pk_us]; exact hon, fun h => absurd (by rw [pk_us] at h; exact h) hon, st_R_upd _ _ (Nat.le_refl _) hst⟩
    · rw [fr1]
      exact ⟨fun h => absurd (show K i = 19 from h) (by omega), st_W_updY _ _ (Nat.le_refl _) hsw⟩
    · refine ln_fx (K := K) (n := n) hn hK hi (by omega) (by omega) (fun z => absurd z (by omega)) (fun z => absurd z (by omega)) (fun z => absurd z (by omega)) (fun _ => ?_) (fun z => absurd z (by omega)) (fun z => absurd z (by omega))
      rw [aD, nI_clamp (by omega)]
      exact ⟨vp_in_nI L4 (by omega), nm_e h⟩
    · refine ln_fy (K := K) (n := n) hn hKy hi (by omega) (by omega) ?_
      rw [hk]
      exact ry_f22 L4 ed h
  · omega
theorem ln_again (hS : rn_stat K n T br f_lines f_brief a_kinds a_firsts a_seconds a_thirds a_inputs a_home a_depth a_closer a_mate a_operands a_same a_fixed a_worth a_needed yf_lines ya_ops ya_as ya_bs ya_cs ya_blockOf ya_opener ya_around ya_other ya_end ya_stands ya_number ya_isConst ya_needed ya_inputs) {i : Nat} (hp : rn_pos K n i (f_lines, f_studied, f_wrong, f_wrongAt, f_brief, f_on, f_dropped, f_steps, f_nextLine, f_repeats, a_kinds, a_firsts, a_seconds, a_thirds, a_inputs, a_home, a_depth, a_closer, a_mate, a_operands, a_varies, a_parted, a_variableVaries, a_same, a_fixed, a_worth, a_needed, a_variableNeeded, a_values, a_variables, a_outputs, a_cells, a_whole, a_waiting) (yf_lines, yf_known, yf_wrong, yf_place, yf_blocks, yf_steps, yf_dropped, yf_on, yf_next, yf_again, yf_depth, ya_ops, ya_as, ya_bs, ya_cs, ya_blockOf, ya_opener, ya_around, ya_other, ya_end, ya_open, ya_varied, ya_loose, ya_variedVariable, ya_stands, ya_number, ya_isConst, ya_needed, ya_inputs, ya_values, ya_variables, ya_cells, ya_outs, ya_was, ya_rest, ya_line)) (hd : rn_dyn (f_lines, f_studied, f_wrong, f_wrongAt, f_brief, f_on, f_dropped, f_steps, f_nextLine, f_repeats, a_kinds, a_firsts, a_seconds, a_thirds, a_inputs, a_home, a_depth, a_closer, a_mate, a_operands, a_varies, a_parted, a_variableVaries, a_same, a_fixed, a_worth, a_needed, a_variableNeeded, a_values, a_variables, a_outputs, a_cells, a_whole, a_waiting) (yf_lines, yf_known, yf_wrong, yf_place, yf_blocks, yf_steps, yf_dropped, yf_on, yf_next, yf_again, yf_depth, ya_ops, ya_as, ya_bs, ya_cs, ya_blockOf, ya_opener, ya_around, ya_other, ya_end, ya_open, ya_varied, ya_loose, ya_variedVariable, ya_stands, ya_number, ya_isConst, ya_needed, ya_inputs, ya_values, ya_variables, ya_cells, ya_outs, ya_was, ya_rest, ya_line)) (hi : i < n) (hk : K i = 23) : rn_goes K n T i br (f_lines, f_studied, f_wrong, f_wrongAt, f_brief, f_on, f_dropped, f_steps, f_nextLine, f_repeats, a_kinds, a_firsts, a_seconds, a_thirds, a_inputs, a_home, a_depth, a_closer, a_mate, a_operands, a_varies, a_parted, a_variableVaries, a_same, a_fixed, a_worth, a_needed, a_variableNeeded, a_values, a_variables, a_outputs, a_cells, a_whole, a_waiting) (yf_lines, yf_known, yf_wrong, yf_place, yf_blocks, yf_steps, yf_dropped, yf_on, yf_next, yf_again, yf_depth, ya_ops, ya_as, ya_bs, ya_cs, ya_blockOf, ya_opener, ya_around, ya_other, ya_end, ya_open, ya_varied, ya_loose, ya_variedVariable, ya_stands, ya_number, ya_isConst, ya_needed, ya_inputs, ya_values, ya_variables, ya_cells, ya_outs, ya_was, ya_rest, ya_line) := by
  obtain ⟨hin, en, ed, hst, ⟨w, hw, eon⟩, hmode⟩ := hp
  obtain ⟨hW, hok, hfr, hA, hc0, hB, ⟨e1, e2, e3, e4, e5⟩, _⟩ := hS
  have hn := hW.1
  have hK := hW.2.1
  have hKy : ∀ j, j < n → ya_ops j = nI (K j) ∧ K j ≤ 25 := by rw [e1]; exact hK
  have hg := sc_ok_good hok
  obtain ⟨b, m, r, e, km⟩ := (hg i hi).2.2.2.1 hk
  have T := sc_top i (sc_good_le hg hin) _ _ _ e
  have tb := T.2.1
  have tm := T.2.2.1
  have eb : b = m + 1 := by
    rcases T.2.2.2.1 with ⟨h, _⟩ | ⟨_, h, _⟩
    · exact h
    · omega
  have fr1 : sc_fr K (i + 1) = r := by rw [sc_s_end (Or.inr hk), e]; rfl
  have frm : sc_fr K (m + 1) = (m + 1, m) :: r := by rw [sc_s_open (Or.inr km), T.2.2.2.2.2.1]
  have len := sc_len i (sc_good_le hg hin)
  have aD := (hA i hi).2.1
  have aM := (hA i hi).2.2.1
  rw [sc_mt_cl (by omega), e] at aM
  rw [sc_lf_cl (by omega), e, List.tail_cons] at aD
  have aM' : a_mate i = nI m := aM
  rw [e] at len ed hst
  simp only [List.length_cons] at len ed
  have hr4 : r.length < 4 := by omega
  have ci : (nI i).toNatClampNeg = i := nI_clamp (by omega)
  have ii : vp_in (nI i) 48 := vp_in_nI (by omega) (by omega)
  have cr : (nI r.length).toNatClampNeg = r.length := nI_clamp (by omega)
  obtain ⟨d1, d2, d3, d4, d5, d6, d7, d8⟩ := hd
  rcases hmode with ⟨ey, hne, hsw⟩ | ⟨_, k21, _⟩
  · rw [e] at hsw
    by_cases hz : f_on = 0
    · obtain ⟨s1, s2, s3, s4, s5, s6⟩ := hst
      refine ⟨i + 1, a_whole r.length, f_dropped, f_repeats, a_values, a_variables, a_outputs, a_cells, a_whole, a_waiting, yf_dropped, ya_was r.length, yf_again, nI r.length, ya_values, ya_variables, ya_cells, ya_outs, ya_was, ya_rest, ya_line, ⟨by omega, rfl, by rw [fr1], by rw [fr1]; exact s6, s3, Or.inl ⟨s2, fun h => absurd h (s4 km), by rw [fr1]; exact hsw.2⟩⟩, ⟨d1, d2, d3, d4, d5, d6, d7, d8⟩, by unfold xf; rw [if_neg (by omega), if_neg (by omega), if_neg (by omega), if_neg (by omega), if_neg (by omega), if_neg (by omega), if_neg (by omega), if_neg (by omega), if_pos hk, if_pos hz, aD, cr], fun post h => ?_, fun post h => ?_⟩
      · refine ln_fx (K := K) (n := n) hn hK hi (by omega) (by omega) (fun z => absurd z (by omega)) (fun z => absurd z (by omega)) (fun z => absurd z (by omega)) (fun z => absurd z (by omega)) (fun _ => br_t hz ⟨ii, ?_⟩) (fun z => absurd z (by omega))
        rw [ci, aD, cr, nI_1]
        exact ⟨vp_in_nI hr4 (by omega), nm_e h⟩
      · refine ln_fy (K := K) (n := n) hn hKy hi (by omega) (by omega) ?_
        rw [hk]
        exact ry_f23 hr4 ed (fun _ => h) (fun hz' => absurd (ey.trans hz) hz')
    · refine ⟨m + 1, f_on, f_dropped, f_repeats + 1, a_values, a_variables, a_outputs, a_cells, a_whole, a_waiting, yf_dropped, yf_on, yf_again + 1, nI (r.length + 1), ya_values, ya_variables, ya_cells, ya_outs, ya_was, ya_rest, ya_line, ⟨by omega, rfl, by rw [frm]; rfl, by rw [frm, ← eb]; exact hst, ⟨w, hw, eon⟩, Or.inl ⟨ey, fun h => absurd h hz, by rw [frm, ← eb]; exact hsw⟩⟩, ⟨d1, d2, d3, by rw [d4], d5, d6, d7, d8⟩, by unfold xf; rw [if_neg (by omega), if_neg (by omega), if_neg (by omega), if_neg (by omega), if_neg (by omega), if_neg (by omega), if_neg (by omega), if_neg (by omega), if_pos hk, if_neg hz, aM', nI_clamp (by omega)], fun post h => ?_, fun post h => ?_⟩
      · refine ln_fx (K := K) (n := n) hn hK hi (by omega) (by omega) (fun z => absurd z (by omega)) (fun z => absurd z (by omega)) (fun z => absurd z (by omega)) (fun z => absurd z (by omega)) (fun _ => br_f hz (nm_e ⟨ii, ?_⟩)) (fun z => absurd z (by omega))
        rw [ci, aM', nI_1]
        exact h
      · refine ln_fy (K := K) (n := n) hn hKy hi (by omega) (by omega) ?_
        rw [hk]
        refine ry_f23 hr4 ed (fun hz' => absurd (ey.symm.trans hz') hz) (fun _ => ?_)
        rw [show ya_line r.length = nI m from hst.1, nI_1]
        exact h
  · omega
end
end
section
section
variable {K : Nat → Nat} {n : Nat} {T : Nat → Nat × Bool × Int32} {br : Int32}
variable {f_lines f_studied f_wrong f_wrongAt f_brief f_on f_dropped f_steps f_nextLine f_repeats : Int32} {a_kinds a_firsts a_seconds a_thirds a_inputs a_home a_depth a_closer a_mate a_operands a_varies a_parted a_variableVaries a_same a_fixed a_worth a_needed a_variableNeeded a_values a_variables a_outputs a_cells a_whole a_waiting : Nat → Int32}
variable {yf_lines yf_known yf_wrong yf_place yf_blocks yf_steps yf_dropped yf_on yf_next yf_again yf_depth : Int32} {ya_ops ya_as ya_bs ya_cs ya_blockOf ya_opener ya_around ya_other ya_end ya_open ya_varied ya_loose ya_variedVariable ya_stands ya_number ya_isConst ya_needed ya_inputs ya_values ya_variables ya_cells ya_outs ya_was ya_rest ya_line : Nat → Int32}
theorem ln_break (hS : rn_stat K n T br f_lines f_brief a_kinds a_firsts a_seconds a_thirds a_inputs a_home a_depth a_closer a_mate a_operands a_same a_fixed a_worth a_needed yf_lines ya_ops ya_as ya_bs ya_cs ya_blockOf ya_opener ya_around ya_other ya_end ya_stands ya_number ya_isConst ya_needed ya_inputs) {i : Nat} (hp : rn_pos K n i (f_lines, f_studied, f_wrong, f_wrongAt, f_brief, f_on, f_dropped, f_steps, f_nextLine, f_repeats, a_kinds, a_firsts, a_seconds, a_thirds, a_inputs, a_home, a_depth, a_closer, a_mate, a_operands, a_varies, a_parted, a_variableVaries, a_same, a_fixed, a_worth, a_needed, a_variableNeeded, a_values, a_variables, a_outputs, a_cells, a_whole, a_waiting) (yf_lines, yf_known, yf_wrong, yf_place, yf_blocks, yf_steps, yf_dropped, yf_on, yf_next, yf_again, yf_depth, ya_ops, ya_as, ya_bs, ya_cs, ya_blockOf, ya_opener, ya_around, ya_other, ya_end, ya_open, ya_varied, ya_loose, ya_variedVariable, ya_stands, ya_number, ya_isConst, ya_needed, ya_inputs, ya_values, ya_variables, ya_cells, ya_outs, ya_was, ya_rest, ya_line)) (hd : rn_dyn (f_lines, f_studied, f_wrong, f_wrongAt, f_brief, f_on, f_dropped, f_steps, f_nextLine, f_repeats, a_kinds, a_firsts, a_seconds, a_thirds, a_inputs, a_home, a_depth, a_closer, a_mate, a_operands, a_varies, a_parted, a_variableVaries, a_same, a_fixed, a_worth, a_needed, a_variableNeeded, a_values, a_variables, a_outputs, a_cells, a_whole, a_waiting) (yf_lines, yf_known, yf_wrong, yf_place, yf_blocks, yf_steps, yf_dropped, yf_on, yf_next, yf_again, yf_depth, ya_ops, ya_as, ya_bs, ya_cs, ya_blockOf, ya_opener, ya_around, ya_other, ya_end, ya_open, ya_varied, ya_loose, ya_variedVariable, ya_stands, ya_number, ya_isConst, ya_needed, ya_inputs, ya_values, ya_variables, ya_cells, ya_outs, ya_was, ya_rest, ya_line)) (hi : i < n) (hon : f_on ≠ 0) (hk : K i = 24) : rn_goes K n T i br (f_lines, f_studied, f_wrong, f_wrongAt, f_brief, f_on, f_dropped, f_steps, f_nextLine, f_repeats, a_kinds, a_firsts, a_seconds, a_thirds, a_inputs, a_home, a_depth, a_closer, a_mate, a_operands, a_varies, a_parted, a_variableVaries, a_same, a_fixed, a_worth, a_needed, a_variableNeeded, a_values, a_variables, a_outputs, a_cells, a_whole, a_waiting) (yf_lines, yf_known, yf_wrong, yf_place, yf_blocks, yf_steps, yf_dropped, yf_on, yf_next, yf_again, yf_depth, ya_ops, ya_as, ya_bs, ya_cs, ya_blockOf, ya_opener, ya_around, ya_other, ya_end, ya_open, ya_varied, ya_loose, ya_variedVariable, ya_stands, ya_number, ya_isConst, ya_needed, ya_inputs, ya_values, ya_variables, ya_cells, ya_outs, ya_was, ya_rest, ya_line) := by
  obtain ⟨hin, en, ed, hst, ⟨w, hw, eon⟩, hmode⟩ := hp
  obtain ⟨hW, hok, hfr, hA, hc0, hB, ⟨e1, e2, e3, e4, e5⟩, _⟩ := hS
  have hn := hW.1
  have hK := hW.2.1
  have hKy : ∀ j, j < n → ya_ops j = nI (K j) ∧ K j ≤ 25 := by rw [e1]; exact hK
  have hg := sc_ok_good hok
  have hl := (hg i hi).2.2.2.2 hk
  have hs : sc_fr K (i + 1) = sc_fr K i := sc_s_plain (by omega)
  have aH := (hA i hi).1
  rw [sc_lf_n (by omega)] at aH
  have len := sc_len i (sc_good_le hg hin)
  have hne0 : sc_fr K i ≠ [] := by
    obtain ⟨f, hf, _⟩ := hl
    intro h'; rw [h'] at hf; cases hf
  have ci : (nI i).toNatClampNeg = i := nI_clamp (by omega)
  have ii : vp_in (nI i) 48 := vp_in_nI (by omega) (by omega)
  rcases hmode with ⟨ey, hne, hsw⟩ | ⟨_, k21, _⟩
  · subst ey
    refine ⟨i + 1, 0, f_dropped, f_repeats, a_values, a_variables, a_outputs, a_cells, bk K yf_on (sc_fr K i) a_whole, a_waiting, yf_dropped, 0, yf_again, yf_depth, ya_values, ya_variables, ya_cells, ya_outs, bk K yf_on (sc_fr K i) ya_was, ya_rest, ya_line, ⟨by omega, rfl, by rw [hs]; exact ed, ?_, ⟨0, by omega, rfl⟩, Or.inl ⟨rfl, fun _ => by rw [hs]; exact hne0, by rw [hs]; exact hsw⟩⟩, hd, by unfold xf; rw [if_neg (by omega), if_neg (by omega), if_neg (by omega), if_neg (by omega), if_neg (by omega), if_neg (by omega), if_neg (by omega), if_neg (by omega), if_neg (by omega), if_pos hk], fun post h => ?_, fun post h => ?_⟩
    · rw [hs, eon]
      exact bk_st hw _ _ _ _ hl hst
    · refine ln_fx (K := K) (n := n) hn hK hi (by omega) (by omega) (fun z => absurd z (by omega)) (fun z => absurd z (by omega)) (fun z => absurd z (by omega)) (fun z => absurd z (by omega)) (fun z => absurd z (by omega)) (fun _ => ⟨ii, nm_c ci aH ⟨5, ?_⟩⟩)
      exact rx_break9 (K := K) (n := n) hn hK hg (fun j hj => ⟨(hA j hj).1, (hA j hj).2.1⟩) _ i 0 a_whole hin rfl (by omega) h 5 (by omega)
    · refine ln_fy (K := K) (n := n) hn hKy hi (by omega) (by omega) ?_
      rw [hk]
      refine ry_f24 (nm_r (e' := nI (sc_fr K i).length + (-1)) ?_ ⟨5, ?_⟩)
      · rw [ed]
        cases he : sc_fr K i with
        | nil => exact absurd he hne0
        | cons f r => exact (nI_pred r.length).trans (pk_m1 r.length).symm
      · exact ry_break7 (K := K) (n := n) hn hKy hg _ i ya_was hin rfl hl (st_O _ hst) h 5 (by omega)
  · omega
theorem ln_else (hS : rn_stat K n T br f_lines f_brief a_kinds a_firsts a_seconds a_thirds a_inputs a_home a_depth a_closer a_mate a_operands a_same a_fixed a_worth a_needed yf_lines ya_ops ya_as ya_bs ya_cs ya_blockOf ya_opener ya_around ya_other ya_end ya_stands ya_number ya_isConst ya_needed ya_inputs) {i : Nat} (hp : rn_pos K n i (f_lines, f_studied, f_wrong, f_wrongAt, f_brief, f_on, f_dropped, f_steps, f_nextLine, f_repeats, a_kinds, a_firsts, a_seconds, a_thirds, a_inputs, a_home, a_depth, a_closer, a_mate, a_operands, a_varies, a_parted, a_variableVaries, a_same, a_fixed, a_worth, a_needed, a_variableNeeded, a_values, a_variables, a_outputs, a_cells, a_whole, a_waiting) (yf_lines, yf_known, yf_wrong, yf_place, yf_blocks, yf_steps, yf_dropped, yf_on, yf_next, yf_again, yf_depth, ya_ops, ya_as, ya_bs, ya_cs, ya_blockOf, ya_opener, ya_around, ya_other, ya_end, ya_open, ya_varied, ya_loose, ya_variedVariable, ya_stands, ya_number, ya_isConst, ya_needed, ya_inputs, ya_values, ya_variables, ya_cells, ya_outs, ya_was, ya_rest, ya_line)) (hd : rn_dyn (f_lines, f_studied, f_wrong, f_wrongAt, f_brief, f_on, f_dropped, f_steps, f_nextLine, f_repeats, a_kinds, a_firsts, a_seconds, a_thirds, a_inputs, a_home, a_depth, a_closer, a_mate, a_operands, a_varies, a_parted, a_variableVaries, a_same, a_fixed, a_worth, a_needed, a_variableNeeded, a_values, a_variables, a_outputs, a_cells, a_whole, a_waiting) (yf_lines, yf_known, yf_wrong, yf_place, yf_blocks, yf_steps, yf_dropped, yf_on, yf_next, yf_again, yf_depth, ya_ops, ya_as, ya_bs, ya_cs, ya_blockOf, ya_opener, ya_around, ya_other, ya_end, ya_open, ya_varied, ya_loose, ya_variedVariable, ya_stands, ya_number, ya_isConst, ya_needed, ya_inputs, ya_values, ya_variables, ya_cells, ya_outs, ya_was, ya_rest, ya_line)) (hi : i < n) (hk : K i = 20) : rn_goes K n T i br (f_lines, f_studied, f_wrong, f_wrongAt, f_brief, f_on, f_dropped, f_steps, f_nextLine, f_repeats, a_kinds, a_firsts, a_seconds, a_thirds, a_inputs, a_home, a_depth, a_closer, a_mate, a_operands, a_varies, a_parted, a_variableVaries, a_same, a_fixed, a_worth, a_needed, a_variableNeeded, a_values, a_variables, a_outputs, a_cells, a_whole, a_waiting) (yf_lines, yf_known, yf_wrong, yf_place, yf_blocks, yf_steps, yf_dropped, yf_on, yf_next, yf_again, yf_depth, ya_ops, ya_as, ya_bs, ya_cs, ya_blockOf, ya_opener, ya_around, ya_other, ya_end, ya_open, ya_varied, ya_loose, ya_variedVariable, ya_stands, ya_number, ya_isConst, ya_needed, ya_inputs, ya_values, ya_variables, ya_cells, ya_outs, ya_was, ya_rest, ya_line) := by
  obtain ⟨hin, en, ed, hst, _, hmode⟩ := hp
  obtain ⟨hW, hok, hfr, hA, hc0, hB, ⟨e1, e2, e3, e4, e5⟩, _⟩ := hS
  have hn := hW.1
  have hK := hW.2.1
  have hKy : ∀ j, j < n → ya_ops j = nI (K j) ∧ K j ≤ 25 := by rw [e1]; exact hK
  have hg := sc_ok_good hok
  obtain ⟨m, r, e, km⟩ := (hg i hi).2.1 hk
  have T := sc_top i (sc_good_le hg hin) _ _ _ e
  have tb := T.2.1
  have fr1 : sc_fr K (i + 1) = (i + 1, m) :: r := by rw [sc_s_else hk, e]; rfl
  obtain ⟨q, hiq, hq, hc, eq, em⟩ := rn_close hg hfr (show i + 1 ≤ n by omega) fr1
  have eC := (hA q hq).2.2.2.1 hc
  rw [eq, sc_hd_cons] at eC
  obtain ⟨_, c2, _⟩ := rn_closeY hg (show i + 1 ≤ n by omega) fr1 hiq hq hc eq em hB
  obtain ⟨kq, eE, eO⟩ := c2 km (by omega)
  rw [Nat.add_sub_cancel] at eO
  have len := sc_len i (sc_good_le hg hin)
  have aD := (hA i hi).2.1
  rw [sc_lf_cl (by omega), e, List.tail_cons] at aD
  rw [e] at len ed hst
  simp only [List.length_cons] at len ed
  have hr4 : r.length < 4 := by omega
  have ci : (nI i).toNatClampNeg = i := nI_clamp (by omega)
  have ii : vp_in (nI i) 48 := vp_in_nI (by omega) (by omega)
  have cr : (nI r.length).toNatClampNeg = r.length := nI_clamp (by omega)
  have ci1 : (nI (i + 1)).toNatClampNeg = i + 1 := nI_clamp (by omega)
  have no0 : ¬ ya_other m < 0 := by rw [eO]; exact nI_pos (by omega)
  rcases hmode with ⟨ey, hne, hsw⟩ | ⟨_, k21, _⟩
  · rw [e] at hsw
    obtain ⟨wr, w, hw, ew⟩ := hsw.1 km rfl
    have stR : st_R K a_whole ya_was ya_line ((i + 1, m) :: r) := hst
    have stW : st_W K a_waiting (upd ya_rest r.length (-1)) ((i + 1, m) :: r) := ⟨fun _ h => absurd (show i + 1 = m + 1 from h) (by omega), st_W_updY _ _ (Nat.le_refl _) hsw.2⟩
    by_cases hz : w = 0
    · refine ⟨q, a_waiting r.length, f_dropped, f_repeats, a_values, a_variables, a_outputs, a_cells, a_whole, a_waiting, yf_dropped, a_waiting r.length, yf_again, nI (r.length + 1), ya_values, ya_variables, ya_cells, ya_outs, ya_was, upd ya_rest r.length (-1), ya_line, ⟨by omega, rfl, by rw [eq]; rfl, by rw [eq]; exact stR, ⟨w, hw, ew⟩, Or.inl ⟨rfl, fun _ => by rw [eq]; exact List.cons_ne_nil _ _, by rw [eq]; exact stW⟩⟩, hd, by unfold xf; rw [if_neg (by omega), if_neg (by omega), if_neg (by omega), if_neg (by omega), if_neg (by omega), if_pos hk, aD, cr, if_pos (by rw [ew, hz]; rfl), eC, nI_clamp (by omega)], fun post h => ?_, fun post h => ?_⟩
      · refine ln_fx (K := K) (n := n) hn hK hi (by omega) (by omega) (fun z => absurd z (by omega)) (fun _ => ⟨ii, ?_⟩) (fun z => absurd z (by omega)) (fun z => absurd z (by omega)) (fun z => absurd z (by omega)) (fun z => absurd z (by omega))
        rw [ci, aD, cr]
        refine ⟨vp_in_nI hr4 (by omega), nm_e (br_t (by rw [ew, hz]; rfl) ⟨?_, ?_⟩)⟩
        · rw [nI_1]; exact vp_in_nI (by omega) (by omega)
        · rw [nI_1, ci1, eC]; exact h
      · refine ln_fy (K := K) (n := n) hn hKy hi (by omega) (by omega) ?_
        rw [hk]
        refine ry_f20 ed (ry_second hr4 (show m < 48 by omega) hst.1 wr (fun h' => absurd h' no0) (fun _ _ => ?_) (fun _ h' => absurd (by rw [ew, hz]; rfl) h'))
        rw [eE, ed]; exact h
    · refine ⟨i + 1, a_waiting r.length, f_dropped, f_repeats, a_values, a_variables, a_outputs, a_cells, a_whole, a_waiting, yf_dropped, a_waiting r.length, yf_again, nI (r.length + 1), ya_values, ya_variables, ya_cells, ya_outs, ya_was, upd ya_rest r.length (-1), ya_line, ⟨by omega, rfl, by rw [fr1]; rfl, by rw [fr1]; exact stR, ⟨w, hw, ew⟩, Or.inl ⟨rfl, fun _ => by rw [fr1]; exact List.cons_ne_nil _ _, by rw [fr1]; exact stW⟩⟩, hd, by unfold xf; rw [if_neg (by omega), if_neg (by omega), if_neg (by omega), if_neg (by omega), if_neg (by omega), if_pos hk, aD, cr, if_neg (fun h' => hz ((mk_ne w hw).mp (ew ▸ h')))], fun post h => ?_, fun post h => ?_⟩
      · refine ln_fx (K := K) (n := n) hn hK hi (by omega) (by omega) (fun z => absurd z (by omega)) (fun _ => ⟨ii, ?_⟩) (fun z => absurd z (by omega)) (fun z => absurd z (by omega)) (fun z => absurd z (by omega)) (fun z => absurd z (by omega))
        rw [ci, aD, cr]
        refine ⟨vp_in_nI hr4 (by omega), nm_e (br_f (fun h' => hz ((mk_ne w hw).mp (ew ▸ h'))) ?_)⟩
        rw [nI_1]; exact h
      · refine ln_fy (K := K) (n := n) hn hKy hi (by omega) (by omega) ?_
        rw [hk]
        refine ry_f20 ed (ry_second hr4 (show m < 48 by omega) hst.1 wr (fun h' => absurd h' no0) (fun _ h' => absurd ((mk_ne w hw).mp (ew ▸ h')) hz) (fun _ _ => ?_))
        rw [eO, nI_1, ed]; exact h
  · omega
theorem ln_if (hS : rn_stat K n T br f_lines f_brief a_kinds a_firsts a_seconds a_thirds a_inputs a_home a_depth a_closer a_mate a_operands a_same a_fixed a_worth a_needed yf_lines ya_ops ya_as ya_bs ya_cs ya_blockOf ya_opener ya_around ya_other ya_end ya_stands ya_number ya_isConst ya_needed ya_inputs) {i : Nat} (hp : rn_pos K n i (f_lines, f_studied, f_wrong, f_wrongAt, f_brief, f_on, f_dropped, f_steps, f_nextLine, f_repeats, a_kinds, a_firsts, a_seconds, a_thirds, a_inputs, a_home, a_depth, a_closer, a_mate, a_operands, a_varies, a_parted, a_variableVaries, a_same, a_fixed, a_worth, a_needed, a_variableNeeded, a_values, a_variables, a_outputs, a_cells, a_whole, a_waiting) (yf_lines, yf_known, yf_wrong, yf_place, yf_blocks, yf_steps, yf_dropped, yf_on, yf_next, yf_again, yf_depth, ya_ops, ya_as, ya_bs, ya_cs, ya_blockOf, ya_opener, ya_around, ya_other, ya_end, ya_open, ya_varied, ya_loose, ya_variedVariable, ya_stands, ya_number, ya_isConst, ya_needed, ya_inputs, ya_values, ya_variables, ya_cells, ya_outs, ya_was, ya_rest, ya_line)) (hd : rn_dyn (f_lines, f_studied, f_wrong, f_wrongAt, f_brief, f_on, f_dropped, f_steps, f_nextLine, f_repeats, a_kinds, a_firsts, a_seconds, a_thirds, a_inputs, a_home, a_depth, a_closer, a_mate, a_operands, a_varies, a_parted, a_variableVaries, a_same, a_fixed, a_worth, a_needed, a_variableNeeded, a_values, a_variables, a_outputs, a_cells, a_whole, a_waiting) (yf_lines, yf_known, yf_wrong, yf_place, yf_blocks, yf_steps, yf_dropped, yf_on, yf_next, yf_again, yf_depth, ya_ops, ya_as, ya_bs, ya_cs, ya_blockOf, ya_opener, ya_around, ya_other, ya_end, ya_open, ya_varied, ya_loose, ya_variedVariable, ya_stands, ya_number, ya_isConst, ya_needed, ya_inputs, ya_values, ya_variables, ya_cells, ya_outs, ya_was, ya_rest, ya_line)) (hi : i < n) (hon : f_on ≠ 0) (hk : K i = 19) : rn_goes K n T i br (f_lines, f_studied, f_wrong, f_wrongAt, f_brief, f_on, f_dropped, f_steps, f_nextLine, f_repeats, a_kinds, a_firsts, a_seconds, a_thirds, a_inputs, a_home, a_depth, a_closer, a_mate, a_operands, a_varies, a_parted, a_variableVaries, a_same, a_fixed, a_worth, a_needed, a_variableNeeded, a_values, a_variables, a_outputs, a_cells, a_whole, a_waiting) (yf_lines, yf_known, yf_wrong, yf_place, yf_blocks, yf_steps, yf_dropped, yf_on, yf_next, yf_again, yf_depth, ya_ops, ya_as, ya_bs, ya_cs, ya_blockOf, ya_opener, ya_around, ya_other, ya_end, ya_open, ya_varied, ya_loose, ya_variedVariable, ya_stands, ya_number, ya_isConst, ya_needed, ya_inputs, ya_values, ya_variables, ya_cells, ya_outs, ya_was, ya_rest, ya_line) := by
  obtain ⟨hin, en, ed, hst, ⟨w, hw, eon⟩, hmode⟩ := hp
  obtain ⟨hW, hok, hfr, hA, hc0, hB, ⟨e1, e2, e3, e4, e5⟩, ⟨hR, hR', hgT, hc10⟩, hnd, hself, hini, eb, hbr, el, el'⟩ := hS
  have hP := pg_xvP hW hok hA
  have hn := hW.1
  have hK := hW.2.1
  have hKy : ∀ j, j < n → ya_ops j = nI (K j) ∧ K j ≤ 25 := by rw [e1]; exact hK
  have hg := sc_ok_good hok
  have L4 := (hg i hi).1 (Or.inl hk)
  have fr1 : sc_fr K (i + 1) = (i + 1, i) :: sc_fr K i := sc_s_open (Or.inl hk)
  have aD := (hA i hi).2.1
  rw [sc_lf_n (by omega)] at aD
  obtain ⟨q, hiq, hq, hc, eq, em⟩ := rn_close hg hfr (show i + 1 ≤ n by omega) fr1
  have eC := (hA q hq).2.2.2.1 hc
  rw [eq, sc_hd_cons] at eC
  obtain ⟨_, _, c3⟩ := rn_closeY hg (show i + 1 ≤ n by omega) fr1 hiq hq hc eq em hB
  have c3 := c3 hk rfl
  have u0 : sc_us (K i) 0 := by unfold sc_us; omega
  obtain ⟨o, eo, _⟩ := sh_ov_lt (by omega) ((sc_ck0 (hok i hi)).2.1 0 (by omega) u0)
  have eo' : ya_as i = nI (sh_o a_firsts a_seconds a_thirds 0 i) := by rw [e2]; exact eo
  obtain ⟨d1, d2, d3, d4, d5, d6, d7, d8⟩ := hd
  rcases hmode with ⟨ey, hne, hsw⟩ | ⟨_, k21, _⟩
  · obtain ⟨m, emm⟩ : ∃ m, m = xf_tk T br a_firsts a_seconds a_thirds a_values i := ⟨_, rfl⟩
    obtain ⟨hm, hmb⟩ : m < 16 ∧ ∀ l, l < 4 → m.testBit l = !(rv f_brief T a_values (sh_o a_firsts a_seconds a_thirds 0 i) l == 0) := by
      rw [emm, eb]; exact mk_ex _
    have cw : f_on.toNatClampNeg = w := by rw [eon, nI_clamp (by omega)]
    have cL : (a_depth i).toNatClampNeg = (sc_fr K i).length := by rw [aD, nI_clamp (by omega)]
    have cq : (a_closer (i + 1)).toNatClampNeg = q := by rw [eC, nI_clamp (by omega)]
    have eyw : yf_on = nI w := by rw [ey]; exact eon
    have htk := (mk_lt w hw m hm).2.1
    have haa := mk_aa w hw m hm
    have hb : ∀ l, l < 4 → (w &&& m).testBit l = (w.testBit l && !(rv f_brief T a_values (sh_o a_firsts a_seconds a_thirds 0 i) l == 0)) := fun l hl => by
      rw [Nat.testBit_and, hmb l hl]
    have hw0 : w ≠ 0 := fun h => hon (by rw [eon, h]; rfl)
    have mask : ∀ P : Int32 → Prop, P (nI m) → wpY_mask P (yf_lines, yf_known, yf_wrong, yf_place, yf_blocks, yf_steps, yf_dropped, yf_on, nI (i + 1), yf_again, yf_depth, ya_ops, ya_as, ya_bs, ya_cs, ya_blockOf, ya_opener, ya_around, ya_other, ya_end, ya_open, ya_varied, ya_loose, ya_variedVariable, ya_stands, ya_number, ya_isConst, ya_needed, ya_inputs, ya_values, ya_variables, ya_cells, ya_outs, ya_was, ya_rest, ya_line) (ya_as i) br := fun P h => by
      rw [eo']
      refine ry_mask (n := n) (T := T) hn hR' hgT (by omega) (fun m' hm' hb' => ?_)
      have : m' = m := mk_ext m' hm' m hm (fun l hl => by
        rw [hb' l hl, hmb l hl, rv_eq (v := ya_values) (v' := a_values) (hgT _ (by omega)).1 (fun q hq => (d5 q (by omega)).symm), eb])
      rw [this]; exact h
    have stR : st_R K (upd a_whole (sc_fr K i).length (nI w)) (upd ya_was (sc_fr K i).length (nI w)) (upd ya_line (sc_fr K i).length (nI i)) ((i + 1, i) :: sc_fr K i) :=
      ⟨pk_us, by rw [pk_us, pk_us], ⟨w, hw, pk_us⟩, fun h => absurd (show K i = 22 from h) (by omega), fun h => absurd ((mk_ne w hw).mp (by rw [pk_us] at h; exact h)) hw0, st_R_upd _ _ (Nat.le_refl _) hst⟩
    have stT : st_W K (upd a_waiting (sc_fr K i).length (nI (w &&& (15 ^^^ m)))) (upd ya_rest (sc_fr K i).length (nI (w &&& (15 ^^^ m)))) (sc_fr K i) := st_W_upd _ _ (Nat.le_refl _) hsw
    have fX : ∀ post : Int32 → SX → Prop, (w &&& m ≠ 0 → post (nI (i + 1)) (f_lines, f_studied, f_wrong, f_wrongAt, f_brief, nI (w &&& m), f_dropped, f_steps, f_nextLine, f_repeats, a_kinds, a_firsts, a_seconds, a_thirds, a_inputs, a_home, a_depth, a_closer, a_mate, a_operands, a_varies, a_parted, a_variableVaries, a_same, a_fixed, a_worth, a_needed, a_variableNeeded, a_values, a_variables, a_outputs, a_cells, upd a_whole (sc_fr K i).length (nI w), upd a_waiting (sc_fr K i).length (nI (w &&& (15 ^^^ m))))) → (w &&& m = 0 → K q = 20 → post (nI (q + 1)) (f_lines, f_studied, f_wrong, f_wrongAt, f_brief, nI (w &&& (15 ^^^ m)), f_dropped, f_steps, f_nextLine, f_repeats, a_kinds, a_firsts, a_seconds, a_thirds, a_inputs, a_home, a_depth, a_closer, a_mate, a_operands, a_varies, a_parted, a_variableVaries, a_same, a_fixed, a_worth, a_needed, a_variableNeeded, a_values, a_variables, a_outputs, a_cells, upd a_whole (sc_fr K i).length (nI w), upd a_waiting (sc_fr K i).length (nI (w &&& (15 ^^^ m))))) → (w &&& m = 0 → K q ≠ 20 → post (nI q) (f_lines, f_studied, f_wrong, f_wrongAt, f_brief, 0, f_dropped, f_steps, f_nextLine, f_repeats, a_kinds, a_firsts, a_seconds, a_thirds, a_inputs, a_home, a_depth, a_closer, a_mate, a_operands, a_varies, a_parted, a_variableVaries, a_same, a_fixed, a_worth, a_needed, a_variableNeeded, a_values, a_variables, a_outputs, a_cells, upd a_whole (sc_fr K i).length (nI w), upd a_waiting (sc_fr K i).length (nI (w &&& (15 ^^^ m))))) → wpX_doLine post (f_lines, f_studied, f_wrong, f_wrongAt, f_brief, f_on, f_dropped, f_steps, f_nextLine, f_repeats, a_kinds, a_firsts, a_seconds, a_thirds, a_inputs, a_home, a_depth, a_closer, a_mate, a_operands, a_varies, a_parted, a_variableVaries, a_same, a_fixed, a_worth, a_needed, a_variableNeeded, a_values, a_variables, a_outputs, a_cells, a_whole, a_waiting) (nI i) := fun post h1 h2 h3 => by
      refine ln_fx (K := K) (n := n) hn hK hi (by omega) (by omega) (fun _ => ⟨5, ?_⟩) (fun z => absurd z (by omega)) (fun z => absurd z (by omega)) (fun z => absurd z (by omega)) (fun z => absurd z (by omega)) (fun z => absurd z (by omega))
      subst eon
      refine rx_if4 (K := K) (n := n) (T := T) (w := w) (tk := w &&& m) (L := (sc_fr K i).length) (q := q) hP hR hgT hi hk hw htk L4 aD hq eC hb ?_ ?_ ?_ 4 0 0 rfl (by omega) (fun l hl => by simp)
      · rw [haa]; exact h1
      · rw [haa]; exact h2
      · rw [haa]; exact h3
    have fY : ∀ post : SY → Prop, (w &&& m ≠ 0 → post (yf_lines, yf_known, yf_wrong, yf_place, yf_blocks, yf_steps, yf_dropped, nI (w &&& m), nI (i + 1), yf_again, nI ((sc_fr K i).length + 1), ya_ops, ya_as, ya_bs, ya_cs, ya_blockOf, ya_opener, ya_around, ya_other, ya_end, ya_open, ya_varied, ya_loose, ya_variedVariable, ya_stands, ya_number, ya_isConst, ya_needed, ya_inputs, ya_values, ya_variables, ya_cells, ya_outs, upd ya_was (sc_fr K i).length (nI w), upd ya_rest (sc_fr K i).length (nI (w &&& (15 ^^^ m))), upd ya_line (sc_fr K i).length (nI i))) → (w &&& m = 0 → K q = 20 → post (yf_lines, yf_known, yf_wrong, yf_place, yf_blocks, yf_steps, yf_dropped, nI (w &&& (15 ^^^ m)), nI (q + 1), yf_again, nI ((sc_fr K i).length + 1), ya_ops, ya_as, ya_bs, ya_cs, ya_blockOf, ya_opener, ya_around, ya_other, ya_end, ya_open, ya_varied, ya_loose, ya_variedVariable, ya_stands, ya_number, ya_isConst, ya_needed, ya_inputs, ya_values, ya_variables, ya_cells, ya_outs, upd ya_was (sc_fr K i).length (nI w), upd (upd ya_rest (sc_fr K i).length (nI (w &&& (15 ^^^ m)))) (sc_fr K i).length (-1), upd ya_line (sc_fr K i).length (nI i))) → (w &&& m = 0 → K q ≠ 20 → post (yf_lines, yf_known, yf_wrong, yf_place, yf_blocks, yf_steps, yf_dropped, nI (w &&& (15 ^^^ m)), nI q, yf_again, nI ((sc_fr K i).length + 1), ya_ops, ya_as, ya_bs, ya_cs, ya_blockOf, ya_opener, ya_around, ya_other, ya_end, ya_open, ya_varied, ya_loose, ya_variedVariable, ya_stands, ya_number, ya_isConst, ya_needed, ya_inputs, ya_values, ya_variables, ya_cells, ya_outs, upd ya_was (sc_fr K i).length (nI w), upd (upd ya_rest (sc_fr K i).length (nI (w &&& (15 ^^^ m)))) (sc_fr K i).length (-1), upd ya_line (sc_fr K i).length (nI i))) → wpY_step post (yf_lines, yf_known, yf_wrong, yf_place, yf_blocks, yf_steps, yf_dropped, yf_on, yf_next, yf_again, yf_depth, ya_ops, ya_as, ya_bs, ya_cs, ya_blockOf, ya_opener, ya_around, ya_other, ya_end, ya_open, ya_varied, ya_loose, ya_variedVariable, ya_stands, ya_number, ya_isConst, ya_needed, ya_inputs, ya_values, ya_variables, ya_cells, ya_outs, ya_was, ya_rest, ya_line) (nI i) br := fun post h1 h2 h3 => by
      refine ln_fy (K := K) (n := n) hn hKy hi (by omega) (by omega) ?_
      rw [hk]
      refine ry_f19 (m := m) (by omega) L4 ed hw hm eyw mask h1 (fun hz => ?_)
      have wz : w &&& (15 ^^^ m) = w := mk_a0 w hw m hm hz
      rcases c3 with ⟨k20, eO⟩ | ⟨k21, eO, eE⟩
      · have no0 : ¬ ya_other i < 0 := by rw [eO]; exact nI_pos (by omega)
        refine ry_second L4 (show i < 48 by omega) pk_us pk_us (fun h' => absurd h' no0) (fun _ h' => absurd ((mk_ne _ hw).mp (wz ▸ h')) hw0) (fun _ _ => ?_)
        rw [eO, nI_1]; exact h2 hz k20
      · refine ry_second L4 (show i < 48 by omega) pk_us pk_us (fun _ => ?_) (fun h' => absurd (by rw [eO]; decide) h') (fun h' => absurd (by rw [eO]; decide) h')
        rw [eE]; exact h3 hz (by omega)
    by_cases hz : w &&& m = 0
    · have wz : w &&& (15 ^^^ m) = w := mk_a0 w hw m hm hz
      by_cases k20 : K q = 20
      · have frq : sc_fr K (q + 1) = (q + 1, i) :: sc_fr K i := by rw [sc_s_else k20, eq]; rfl
        refine ⟨q + 1, nI (w &&& (15 ^^^ m)), f_dropped, f_repeats, a_values, a_variables, a_outputs, a_cells, upd a_whole (sc_fr K i).length (nI w), upd a_waiting (sc_fr K i).length (nI (w &&& (15 ^^^ m))), yf_dropped, nI (w &&& (15 ^^^ m)), yf_again, nI ((sc_fr K i).length + 1), ya_values, ya_variables, ya_cells, ya_outs, upd ya_was (sc_fr K i).length (nI w), upd (upd ya_rest (sc_fr K i).length (nI (w &&& (15 ^^^ m)))) (sc_fr K i).length (-1), upd ya_line (sc_fr K i).length (nI i), ⟨by omega, rfl, by rw [frq]; rfl, by rw [frq]; exact stR, ⟨_, (mk_lt w hw m hm).1, rfl⟩, Or.inl ⟨rfl, fun _ => by rw [frq]; exact List.cons_ne_nil _ _, ?_⟩⟩, ⟨d1, d2, d3, d4, d5, d6, d7, d8⟩, by unfold xf; rw [if_neg (by omega), if_neg (by omega), if_neg (by omega), if_neg (by omega), if_pos hk, ← emm, cw, cL, cq, if_pos hz, if_pos k20, eon], fun post h => fX post (fun h' => absurd hz h') (fun _ _ => h) (fun _ h' => absurd k20 h'), fun post h => fY post (fun h' => absurd hz h') (fun _ _ => h) (fun _ h' => absurd k20 h')⟩
        rw [frq]
        exact ⟨fun _ h => absurd (show q + 1 = i + 1 from h) (by omega), st_W_updY _ _ (Nat.le_refl _) stT⟩
      · have k21 : K q = 21 := by
          rcases c3 with ⟨h, _⟩ | ⟨h, _⟩
          · exact absurd h k20
          · exact h
        refine ⟨q, 0, f_dropped, f_repeats, a_values, a_variables, a_outputs, a_cells, upd a_whole (sc_fr K i).length (nI w), upd a_waiting (sc_fr K i).length (nI (w &&& (15 ^^^ m))), yf_dropped, nI (w &&& (15 ^^^ m)), yf_again, nI ((sc_fr K i).length + 1), ya_values, ya_variables, ya_cells, ya_outs, upd ya_was (sc_fr K i).length (nI w), upd (upd ya_rest (sc_fr K i).length (nI (w &&& (15 ^^^ m)))) (sc_fr K i).length (-1), upd ya_line (sc_fr K i).length (nI i), ⟨by omega, rfl, by rw [eq]; rfl, by rw [eq]; exact stR, ⟨0, by omega, rfl⟩, Or.inr ⟨hq, k21, rfl, ?_, ?_⟩⟩, ⟨d1, d2, d3, d4, d5, d6, d7, d8⟩, by unfold xf; rw [if_neg (by omega), if_neg (by omega), if_neg (by omega), if_neg (by omega), if_pos hk, ← emm, cw, cL, cq, if_pos hz, if_neg k20, eon], fun post h => fX post (fun h' => absurd hz h') (fun _ h' => absurd h' k20) (fun _ _ => h), fun post h => fY post (fun h' => absurd hz h') (fun _ h' => absurd h' k20) (fun _ _ => h)⟩
        · intro h; rw [wz] at h; exact hw0 ((mk_ne w hw).mp h)
        · rw [eq]; exact st_W_updY _ _ (Nat.le_refl _) stT
    · refine ⟨i + 1, nI (w &&& m), f_dropped, f_repeats, a_values, a_variables, a_outputs, a_cells, upd a_whole (sc_fr K i).length (nI w), upd a_waiting (sc_fr K i).length (nI (w &&& (15 ^^^ m))), yf_dropped, nI (w &&& m), yf_again, nI ((sc_fr K i).length + 1), ya_values, ya_variables, ya_cells, ya_outs, upd ya_was (sc_fr K i).length (nI w), upd ya_rest (sc_fr K i).length (nI (w &&& (15 ^^^ m))), upd ya_line (sc_fr K i).length (nI i), ⟨by omega, rfl, by rw [fr1]; rfl, by rw [fr1]; exact stR, ⟨_, htk, rfl⟩, Or.inl ⟨rfl, fun _ => by rw [fr1]; exact List.cons_ne_nil _ _, ?_⟩⟩, ⟨d1, d2, d3, d4, d5, d6, d7, d8⟩, by unfold xf; rw [if_neg (by omega), if_neg (by omega), if_neg (by omega), if_neg (by omega), if_pos hk, ← emm, cw, cL, cq, if_neg hz, eon], fun post h => fX post (fun _ => h) (fun h' => absurd h' hz) (fun h' => absurd h' hz), fun post h => fY post (fun _ => h) (fun h' => absurd h' hz) (fun h' => absurd h' hz)⟩
      rw [fr1]
      exact ⟨fun _ _ => ⟨by rw [pk_us, pk_us], ⟨_, (mk_lt w hw m hm).1, pk_us⟩⟩, stT⟩
  · omega
/-- every line -/
theorem rn_line (hS : rn_stat K n T br f_lines f_brief a_kinds a_firsts a_seconds a_thirds a_inputs a_home a_depth a_closer a_mate a_operands a_same a_fixed a_worth a_needed yf_lines ya_ops ya_as ya_bs ya_cs ya_blockOf ya_opener ya_around ya_other ya_end ya_stands ya_number ya_isConst ya_needed ya_inputs) {i : Nat} (hp : rn_pos K n i (f_lines, f_studied, f_wrong, f_wrongAt, f_brief, f_on, f_dropped, f_steps, f_nextLine, f_repeats, a_kinds, a_firsts, a_seconds, a_thirds, a_inputs, a_home, a_depth, a_closer, a_mate, a_operands, a_varies, a_parted, a_variableVaries, a_same, a_fixed, a_worth, a_needed, a_variableNeeded, a_values, a_variables, a_outputs, a_cells, a_whole, a_waiting) (yf_lines, yf_known, yf_wrong, yf_place, yf_blocks, yf_steps, yf_dropped, yf_on, yf_next, yf_again, yf_depth, ya_ops, ya_as, ya_bs, ya_cs, ya_blockOf, ya_opener, ya_around, ya_other, ya_end, ya_open, ya_varied, ya_loose, ya_variedVariable, ya_stands, ya_number, ya_isConst, ya_needed, ya_inputs, ya_values, ya_variables, ya_cells, ya_outs, ya_was, ya_rest, ya_line)) (hd : rn_dyn (f_lines, f_studied, f_wrong, f_wrongAt, f_brief, f_on, f_dropped, f_steps, f_nextLine, f_repeats, a_kinds, a_firsts, a_seconds, a_thirds, a_inputs, a_home, a_depth, a_closer, a_mate, a_operands, a_varies, a_parted, a_variableVaries, a_same, a_fixed, a_worth, a_needed, a_variableNeeded, a_values, a_variables, a_outputs, a_cells, a_whole, a_waiting) (yf_lines, yf_known, yf_wrong, yf_place, yf_blocks, yf_steps, yf_dropped, yf_on, yf_next, yf_again, yf_depth, ya_ops, ya_as, ya_bs, ya_cs, ya_blockOf, ya_opener, ya_around, ya_other, ya_end, ya_open, ya_varied, ya_loose, ya_variedVariable, ya_stands, ya_number, ya_isConst, ya_needed, ya_inputs, ya_values, ya_variables, ya_cells, ya_outs, ya_was, ya_rest, ya_line)) (hi : i < n) (hon : f_on ≠ 0 ∨ (K i = 20 ∨ K i = 21 ∨ K i = 23)) : rn_goes K n T i br (f_lines, f_studied, f_wrong, f_wrongAt, f_brief, f_on, f_dropped, f_steps, f_nextLine, f_repeats, a_kinds, a_firsts, a_seconds, a_thirds, a_inputs, a_home, a_depth, a_closer, a_mate, a_operands, a_varies, a_parted, a_variableVaries, a_same, a_fixed, a_worth, a_needed, a_variableNeeded, a_values, a_variables, a_outputs, a_cells, a_whole, a_waiting) (yf_lines, yf_known, yf_wrong, yf_place, yf_blocks, yf_steps, yf_dropped, yf_on, yf_next, yf_again, yf_depth, ya_ops, ya_as, ya_bs, ya_cs, ya_blockOf, ya_opener, ya_around, ya_other, ya_end, ya_open, ya_varied, ya_loose, ya_variedVariable, ya_stands, ya_number, ya_isConst, ya_needed, ya_inputs, ya_values, ya_variables, ya_cells, ya_outs, ya_was, ya_rest, ya_line) := by
  have k25 : K i ≤ 25 := by obtain ⟨hW, _⟩ := hS; exact (hW.2.1 i hi).2
  by_cases h20 : K i = 20
  · exact ln_else hS hp hd hi h20
  by_cases h21 : K i = 21
  · exact ln_end hS hp hd hi h21
  by_cases h23 : K i = 23
  · exact ln_again hS hp hd hi h23
  have hon' : f_on ≠ 0 := hon.resolve_right (by omega)
  by_cases h15 : K i ≤ 15
  · exact ln_val hS hp hd hi hon' h15
  by_cases h16 : K i = 16
  · exact ln_take hS hp hd hi hon' h16
  by_cases h17 : K i = 17
  · exact ln_put hS hp hd hi hon' h17
  by_cases h18 : K i = 18
  · exact ln_out hS hp hd hi hon' h18
  by_cases h19 : K i = 19
  · exact ln_if hS hp hd hi hon' h19
  by_cases h22 : K i = 22
  · exact ln_loop hS hp hd hi hon' h22
  by_cases h24 : K i = 24
  · exact ln_break hS hp hd hi hon' h24
  exact ln_drop hS hp hd hi hon' (by omega)
end
end
section
section
/-- how a run goes on from line i behind t steps: X by itself, then Y with it -/
def rn_ends (K : Nat → Nat) (n : Nat) (T : Nat → Nat × Bool × Int32) (br : Int32) (i t d : Nat) (u : SX) : Prop := match u with
  | (f_lines, f_studied, f_wrong, f_wrongAt, f_brief, f_on, f_dropped, f_steps, f_nextLine, f_repeats, a_kinds, a_firsts, a_seconds, a_thirds, a_inputs, a_home, a_depth, a_closer, a_mate, a_operands, a_varies, a_parted, a_variableVaries, a_same, a_fixed, a_worth, a_needed, a_variableNeeded, a_values, a_variables, a_outputs, a_cells, a_whole, a_waiting) => ∃ (r : Int32) (a : Nat) (on : Int32) (dr : Int32) (st : Int32) (rp : Int32) (va : Nat → Int32) (vr : Nat → Int32) (ou : Nat → Int32) (ce : Nat → Int32) (wh : Nat → Int32) (wt : Nat → Int32),
    (∀ (post : Int32 → SX → Prop) (Q : Int32 → Prop), (∀ q, wX_run_30 post (d + 1) q (nI t) f_lines f_studied f_wrong f_wrongAt f_brief f_on f_dropped f_steps f_nextLine f_repeats a_kinds a_firsts a_seconds a_thirds a_inputs a_home a_depth a_closer a_mate a_operands a_varies a_parted a_variableVaries a_same a_fixed a_worth a_needed a_variableNeeded a_values a_variables a_outputs a_cells a_whole a_waiting → Q q) → post r (f_lines, f_studied, f_wrong, f_wrongAt, f_brief, on, dr, st, nI a, rp, a_kinds, a_firsts, a_seconds, a_thirds, a_inputs, a_home, a_depth, a_closer, a_mate, a_operands, a_varies, a_parted, a_variableVaries, a_same, a_fixed, a_worth, a_needed, a_variableNeeded, va, vr, ou, ce, wh, wt) → wpX_nextStep Q (f_lines, f_studied, f_wrong, f_wrongAt, f_brief, f_on, f_dropped, f_steps, f_nextLine, f_repeats, a_kinds, a_firsts, a_seconds, a_thirds, a_inputs, a_home, a_depth, a_closer, a_mate, a_operands, a_varies, a_parted, a_variableVaries, a_same, a_fixed, a_worth, a_needed, a_variableNeeded, a_values, a_variables, a_outputs, a_cells, a_whole, a_waiting) (nI i)) ∧
    ∀ {yf_lines yf_known yf_wrong yf_place yf_blocks yf_steps yf_dropped yf_on yf_next yf_again yf_depth : Int32} {ya_ops ya_as ya_bs ya_cs ya_blockOf ya_opener ya_around ya_other ya_end ya_open ya_varied ya_loose ya_variedVariable ya_stands ya_number ya_isConst ya_needed ya_inputs ya_values ya_variables ya_cells ya_outs ya_was ya_rest ya_line : Nat → Int32}, rn_stat K n T br f_lines f_brief a_kinds a_firsts a_seconds a_thirds a_inputs a_home a_depth a_closer a_mate a_operands a_same a_fixed a_worth a_needed yf_lines ya_ops ya_as ya_bs ya_cs ya_blockOf ya_opener ya_around ya_other ya_end ya_stands ya_number ya_isConst ya_needed ya_inputs → rn_pos K n i (f_lines, f_studied, f_wrong, f_wrongAt, f_brief, f_on, f_dropped, f_steps, f_nextLine, f_repeats, a_kinds, a_firsts, a_seconds, a_thirds, a_inputs, a_home, a_depth, a_closer, a_mate, a_operands, a_varies, a_parted, a_variableVaries, a_same, a_fixed, a_worth, a_needed, a_variableNeeded, a_values, a_variables, a_outputs, a_cells, a_whole, a_waiting) (yf_lines, yf_known, yf_wrong, yf_place, yf_blocks, yf_steps, yf_dropped, yf_on, yf_next, yf_again, yf_depth, ya_ops, ya_as, ya_bs, ya_cs, ya_blockOf, ya_opener, ya_around, ya_other, ya_end, ya_open, ya_varied, ya_loose, ya_variedVariable, ya_stands, ya_number, ya_isConst, ya_needed, ya_inputs, ya_values, ya_variables, ya_cells, ya_outs, ya_was, ya_rest, ya_line) → rn_dyn (f_lines, f_studied, f_wrong, f_wrongAt, f_brief, f_on, f_dropped, f_steps, f_nextLine, f_repeats, a_kinds, a_firsts, a_seconds, a_thirds, a_inputs, a_home, a_depth, a_closer, a_mate, a_operands, a_varies, a_parted, a_variableVaries, a_same, a_fixed, a_worth, a_needed, a_variableNeeded, a_values, a_variables, a_outputs, a_cells, a_whole, a_waiting) (yf_lines, yf_known, yf_wrong, yf_place, yf_blocks, yf_steps, yf_dropped, yf_on, yf_next, yf_again, yf_depth, ya_ops, ya_as, ya_bs, ya_cs, ya_blockOf, ya_opener, ya_around, ya_other, ya_end, ya_open, ya_varied, ya_loose, ya_variedVariable, ya_stands, ya_number, ya_isConst, ya_needed, ya_inputs, ya_values, ya_variables, ya_cells, ya_outs, ya_was, ya_rest, ya_line) → ∃ (ydr : Int32) (yon : Int32) (yst : Int32) (yag : Int32) (yde : Int32) (yva : Nat → Int32) (yvr : Nat → Int32) (yce : Nat → Int32) (you : Nat → Int32) (yws : Nat → Int32) (yrs : Nat → Int32) (yln : Nat → Int32),
      rn_dyn (f_lines, f_studied, f_wrong, f_wrongAt, f_brief, on, dr, st, nI a, rp, a_kinds, a_firsts, a_seconds, a_thirds, a_inputs, a_home, a_depth, a_closer, a_mate, a_operands, a_varies, a_parted, a_variableVaries, a_same, a_fixed, a_worth, a_needed, a_variableNeeded, va, vr, ou, ce, wh, wt) (yf_lines, yf_known, yf_wrong, yf_place, yf_blocks, yst, ydr, yon, nI a, yag, yde, ya_ops, ya_as, ya_bs, ya_cs, ya_blockOf, ya_opener, ya_around, ya_other, ya_end, ya_open, ya_varied, ya_loose, ya_variedVariable, ya_stands, ya_number, ya_isConst, ya_needed, ya_inputs, yva, yvr, yce, you, yws, yrs, yln) ∧ ∀ post : Int32 → SY → Prop, post r (yf_lines, yf_known, yf_wrong, yf_place, yf_blocks, yst, ydr, yon, nI a, yag, yde, ya_ops, ya_as, ya_bs, ya_cs, ya_blockOf, ya_opener, ya_around, ya_other, ya_end, ya_open, ya_varied, ya_loose, ya_variedVariable, ya_stands, ya_number, ya_isConst, ya_needed, ya_inputs, yva, yvr, yce, you, yws, yrs, yln) → wY_run_103 post br (d + 1) yf_lines yf_known yf_wrong yf_place yf_blocks yf_steps yf_dropped yf_on yf_next yf_again yf_depth ya_ops ya_as ya_bs ya_cs ya_blockOf ya_opener ya_around ya_other ya_end ya_open ya_varied ya_loose ya_variedVariable ya_stands ya_number ya_isConst ya_needed ya_inputs ya_values ya_variables ya_cells ya_outs ya_was ya_rest ya_line
end
section
variable {K : Nat → Nat} {n : Nat} {T : Nat → Nat × Bool × Int32} {br : Int32}
variable {f_lines f_studied f_wrong f_wrongAt f_brief f_on f_dropped f_steps f_nextLine f_repeats : Int32} {a_kinds a_firsts a_seconds a_thirds a_inputs a_home a_depth a_closer a_mate a_operands a_varies a_parted a_variableVaries a_same a_fixed a_worth a_needed a_variableNeeded a_values a_variables a_outputs a_cells a_whole a_waiting : Nat → Int32}
variable {yf_lines yf_known yf_wrong yf_place yf_blocks yf_steps yf_dropped yf_on yf_next yf_again yf_depth : Int32} {ya_ops ya_as ya_bs ya_cs ya_blockOf ya_opener ya_around ya_other ya_end ya_open ya_varied ya_loose ya_variedVariable ya_stands ya_number ya_isConst ya_needed ya_inputs ya_values ya_variables ya_cells ya_outs ya_was ya_rest ya_line : Nat → Int32}
theorem rn_done {i t d : Nat} (hS : rn_stat K n T br f_lines f_brief a_kinds a_firsts a_seconds a_thirds a_inputs a_home a_depth a_closer a_mate a_operands a_same a_fixed a_worth a_needed yf_lines ya_ops ya_as ya_bs ya_cs ya_blockOf ya_opener ya_around ya_other ya_end ya_stands ya_number ya_isConst ya_needed ya_inputs) (hq : pa_q K n br a_needed f_on i n) (hX : ∀ post : Int32 → Prop, post (nI n) → wpX_nextStep post (f_lines, f_studied, f_wrong, f_wrongAt, f_brief, f_on, f_dropped, f_steps, f_nextLine, f_repeats, a_kinds, a_firsts, a_seconds, a_thirds, a_inputs, a_home, a_depth, a_closer, a_mate, a_operands, a_varies, a_parted, a_variableVaries, a_same, a_fixed, a_worth, a_needed, a_variableNeeded, a_values, a_variables, a_outputs, a_cells, a_whole, a_waiting) (nI i)) : rn_ends K n T br i t d (f_lines, f_studied, f_wrong, f_wrongAt, f_brief, f_on, f_dropped, f_steps, f_nextLine, f_repeats, a_kinds, a_firsts, a_seconds, a_thirds, a_inputs, a_home, a_depth, a_closer, a_mate, a_operands, a_varies, a_parted, a_variableVaries, a_same, a_fixed, a_worth, a_needed, a_variableNeeded, a_values, a_variables, a_outputs, a_cells, a_whole, a_waiting) := by
  obtain ⟨hW, hok, _, _, _, _, _, _, _, _, _, _, _, el, _⟩ := hS
  have hn := hW.1
  have hg := sc_ok_good hok
  have hle : f_lines ≤ nI n := by rw [el]; exact nI_le (Nat.le_refl _) (by omega)
  refine ⟨0, n, f_on, f_dropped, f_steps, f_repeats, a_values, a_variables, a_outputs, a_cells, a_whole, a_waiting, fun post Q hQ h => hX Q (hQ _ (br_c (fun _ => br_t hle h) (fun _ => br_t hle (br_t hle h)))), ?_⟩
  intro zf_lines zf_known zf_wrong zf_place zf_blocks zf_steps zf_dropped zf_on zf_next zf_again zf_depth za_ops za_as za_bs za_cs za_blockOf za_opener za_around za_other za_end za_open za_varied za_loose za_variedVariable za_stands za_number za_isConst za_needed za_inputs za_values za_variables za_cells za_outs za_was za_rest za_line hS hp hd
  obtain ⟨a, hpa, hqa, _, _, hY⟩ := rn_pass hS hp
  have e : a = n := pa_q_uniq hg hqa hq
  subst e
  obtain ⟨_, _, _, _, _, _, _, _, _, _, _, _, _, _, el'⟩ := hS
  refine ⟨zf_dropped, zf_on, zf_steps, zf_again, zf_depth, za_values, za_variables, za_cells, za_outs, za_was, za_rest, za_line, hd, fun post h => ?_⟩
  unfold wY_run_103
  exact hY _ (br_t el'.symm h)
theorem rn_long {i a : Nat} (hS : rn_stat K n T br f_lines f_brief a_kinds a_firsts a_seconds a_thirds a_inputs a_home a_depth a_closer a_mate a_operands a_same a_fixed a_worth a_needed yf_lines ya_ops ya_as ya_bs ya_cs ya_blockOf ya_opener ya_around ya_other ya_end ya_stands ya_number ya_isConst ya_needed ya_inputs) (ha : a < n) (est : f_steps = nI 400) (hq : pa_q K n br a_needed f_on i a) (hX : ∀ post : Int32 → Prop, post (nI a) → wpX_nextStep post (f_lines, f_studied, f_wrong, f_wrongAt, f_brief, f_on, f_dropped, f_steps, f_nextLine, f_repeats, a_kinds, a_firsts, a_seconds, a_thirds, a_inputs, a_home, a_depth, a_closer, a_mate, a_operands, a_varies, a_parted, a_variableVaries, a_same, a_fixed, a_worth, a_needed, a_variableNeeded, a_values, a_variables, a_outputs, a_cells, a_whole, a_waiting) (nI i)) : rn_ends K n T br i 400 0 (f_lines, f_studied, f_wrong, f_wrongAt, f_brief, f_on, f_dropped, f_steps, f_nextLine, f_repeats, a_kinds, a_firsts, a_seconds, a_thirds, a_inputs, a_home, a_depth, a_closer, a_mate, a_operands, a_varies, a_parted, a_variableVaries, a_same, a_fixed, a_worth, a_needed, a_variableNeeded, a_values, a_variables, a_outputs, a_cells, a_whole, a_waiting) := by
  obtain ⟨hW, hok, _, _, _, _, _, _, _, _, _, _, _, el, _⟩ := hS
  have hn := hW.1
  have hg := sc_ok_good hok
  have hle : ¬ f_lines ≤ nI a := by rw [el]; exact nI_ge ha (by omega)
  refine ⟨1, a, f_on, f_dropped, f_steps, f_repeats, a_values, a_variables, a_outputs, a_cells, a_whole, a_waiting, fun post Q hQ h => hX Q (hQ _ (br_t (by decide) (br_f hle h))), ?_⟩
  intro zf_lines zf_known zf_wrong zf_place zf_blocks zf_steps zf_dropped zf_on zf_next zf_again zf_depth za_ops za_as za_bs za_cs za_blockOf za_opener za_around za_other za_end za_open za_varied za_loose za_variedVariable za_stands za_number za_isConst za_needed za_inputs za_values za_variables za_cells za_outs za_was za_rest za_line hS hp hd
  obtain ⟨a', hpa, hqa, _, _, hY⟩ := rn_pass hS hp
  have e : a' = a := pa_q_uniq hg hqa hq
  subst e
  obtain ⟨_, _, _, _, _, _, _, _, _, _, _, _, _, _, el'⟩ := hS
  have d3 := hd.2.2.1
  refine ⟨zf_dropped, zf_on, zf_steps, zf_again, zf_depth, za_values, za_variables, za_cells, za_outs, za_was, za_rest, za_line, hd, fun post h => ?_⟩
  unfold wY_run_103
  refine hY _ (br_f (fun h' => ?_) (br_t (d3.trans est) h))
  rw [el'] at h'
  exact nI_ge ha (by omega) (by rw [h']; exact Int32.le_refl _)
end
section
variable {K : Nat → Nat} {n : Nat} {T : Nat → Nat × Bool × Int32} {br : Int32}
theorem rn_loop : ∀ (d t i : Nat) {f_lines f_studied f_wrong f_wrongAt f_brief f_on f_dropped f_steps f_nextLine f_repeats : Int32} {a_kinds a_firsts a_seconds a_thirds a_inputs a_home a_depth a_closer a_mate a_operands a_varies a_parted a_variableVaries a_same a_fixed a_worth a_needed a_variableNeeded a_values a_variables a_outputs a_cells a_whole a_waiting : Nat → Int32} {yf_lines yf_known yf_wrong yf_place yf_blocks yf_steps yf_dropped yf_on yf_next yf_again yf_depth : Int32} {ya_ops ya_as ya_bs ya_cs ya_blockOf ya_opener ya_around ya_other ya_end ya_open ya_varied ya_loose ya_variedVariable ya_stands ya_number ya_isConst ya_needed ya_inputs ya_values ya_variables ya_cells ya_outs ya_was ya_rest ya_line : Nat → Int32}, t + d = 400 → f_steps = nI t → rn_stat K n T br f_lines f_brief a_kinds a_firsts a_seconds a_thirds a_inputs a_home a_depth a_closer a_mate a_operands a_same a_fixed a_worth a_needed yf_lines ya_ops ya_as ya_bs ya_cs ya_blockOf ya_opener ya_around ya_other ya_end ya_stands ya_number ya_isConst ya_needed ya_inputs → rn_pos K n i (f_lines, f_studied, f_wrong, f_wrongAt, f_brief, f_on, f_dropped, f_steps, f_nextLine, f_repeats, a_kinds, a_firsts, a_seconds, a_thirds, a_inputs, a_home, a_depth, a_closer, a_mate, a_operands, a_varies, a_parted, a_variableVaries, a_same, a_fixed, a_worth, a_needed, a_variableNeeded, a_values, a_variables, a_outputs, a_cells, a_whole, a_waiting) (yf_lines, yf_known, yf_wrong, yf_place, yf_blocks, yf_steps, yf_dropped, yf_on, yf_next, yf_again, yf_depth, ya_ops, ya_as, ya_bs, ya_cs, ya_blockOf, ya_opener, ya_around, ya_other, ya_end, ya_open, ya_varied, ya_loose, ya_variedVariable, ya_stands, ya_number, ya_isConst, ya_needed, ya_inputs, ya_values, ya_variables, ya_cells, ya_outs, ya_was, ya_rest, ya_line) → rn_dyn (f_lines, f_studied, f_wrong, f_wrongAt, f_brief, f_on, f_dropped, f_steps, f_nextLine, f_repeats, a_kinds, a_firsts, a_seconds, a_thirds, a_inputs, a_home, a_depth, a_closer, a_mate, a_operands, a_varies, a_parted, a_variableVaries, a_same, a_fixed, a_worth, a_needed, a_variableNeeded, a_values, a_variables, a_outputs, a_cells, a_whole, a_waiting) (yf_lines, yf_known, yf_wrong, yf_place, yf_blocks, yf_steps, yf_dropped, yf_on, yf_next, yf_again, yf_depth, ya_ops, ya_as, ya_bs, ya_cs, ya_blockOf, ya_opener, ya_around, ya_other, ya_end, ya_open, ya_varied, ya_loose, ya_variedVariable, ya_stands, ya_number, ya_isConst, ya_needed, ya_inputs, ya_values, ya_variables, ya_cells, ya_outs, ya_was, ya_rest, ya_line) → rn_ends K n T br i t d (f_lines, f_studied, f_wrong, f_wrongAt, f_brief, f_on, f_dropped, f_steps, f_nextLine, f_repeats, a_kinds, a_firsts, a_seconds, a_thirds, a_inputs, a_home, a_depth, a_closer, a_mate, a_operands, a_varies, a_parted, a_variableVaries, a_same, a_fixed, a_worth, a_needed, a_variableNeeded, a_values, a_variables, a_outputs, a_cells, a_whole, a_waiting) := by
  intro d
  induction d with
  | zero =>
    intro t i f_lines f_studied f_wrong f_wrongAt f_brief f_on f_dropped f_steps f_nextLine f_repeats a_kinds a_firsts a_seconds a_thirds a_inputs a_home a_depth a_closer a_mate a_operands a_varies a_parted a_variableVaries a_same a_fixed a_worth a_needed a_variableNeeded a_values a_variables a_outputs a_cells a_whole a_waiting yf_lines yf_known yf_wrong yf_place yf_blocks yf_steps yf_dropped yf_on yf_next yf_again yf_depth ya_ops ya_as ya_bs ya_cs ya_blockOf ya_opener ya_around ya_other ya_end ya_open ya_varied ya_loose ya_variedVariable ya_stands ya_number ya_isConst ya_needed ya_inputs ya_values ya_variables ya_cells ya_outs ya_was ya_rest ya_line ht est hS hp hd
    obtain ⟨a, hpa, hqa, hona, hX, _⟩ := rn_pass hS hp
    cases (show t = 400 by omega)
    by_cases ha : a = n
    · subst ha; exact rn_done hS hqa hX
    · exact rn_long hS (by have := hpa.1; omega) est hqa hX
  | succ d ih =>
    intro t i f_lines f_studied f_wrong f_wrongAt f_brief f_on f_dropped f_steps f_nextLine f_repeats a_kinds a_firsts a_seconds a_thirds a_inputs a_home a_depth a_closer a_mate a_operands a_varies a_parted a_variableVaries a_same a_fixed a_worth a_needed a_variableNeeded a_values a_variables a_outputs a_cells a_whole a_waiting yf_lines yf_known yf_wrong yf_place yf_blocks yf_steps yf_dropped yf_on yf_next yf_again yf_depth ya_ops ya_as ya_bs ya_cs ya_blockOf ya_opener ya_around ya_other ya_end ya_open ya_varied ya_loose ya_variedVariable ya_stands ya_number ya_isConst ya_needed ya_inputs ya_values ya_variables ya_cells ya_outs ya_was ya_rest ya_line ht est hS hp hd
    obtain ⟨a, hpa, hqa, hona, hX, _⟩ := rn_pass hS hp
    by_cases ha : a = n
    · subst ha; exact rn_done hS hqa hX
    have han : a < n := by have := hpa.1; omega
    have hS0 := hS
    obtain ⟨hW, hok, _, _, _, _, _, _, _, _, _, _, _, el, _⟩ := hS0
    have hn := hW.1
    have hg := sc_ok_good hok
    have hle : ¬ f_lines ≤ nI a := by rw [el]; exact nI_ge han (by omega)
    obtain ⟨d1, d2, d3, d4, d5, d6, d7, d8⟩ := hd
    have hp1 : rn_pos K n a (f_lines, f_studied, f_wrong, f_wrongAt, f_brief, f_on, f_dropped, nI (t + 1), f_nextLine, f_repeats, a_kinds, a_firsts, a_seconds, a_thirds, a_inputs, a_home, a_depth, a_closer, a_mate, a_operands, a_varies, a_parted, a_variableVaries, a_same, a_fixed, a_worth, a_needed, a_variableNeeded, a_values, a_variables, a_outputs, a_cells, a_whole, a_waiting) (yf_lines, yf_known, yf_wrong, yf_place, yf_blocks, nI (t + 1), yf_dropped, yf_on, nI a, yf_again, yf_depth, ya_ops, ya_as, ya_bs, ya_cs, ya_blockOf, ya_opener, ya_around, ya_other, ya_end, ya_open, ya_varied, ya_loose, ya_variedVariable, ya_stands, ya_number, ya_isConst, ya_needed, ya_inputs, ya_values, ya_variables, ya_cells, ya_outs, ya_was, ya_rest, ya_line) := hpa
    have hd1 : rn_dyn (f_lines, f_studied, f_wrong, f_wrongAt, f_brief, f_on, f_dropped, nI (t + 1), f_nextLine, f_repeats, a_kinds, a_firsts, a_seconds, a_thirds, a_inputs, a_home, a_depth, a_closer, a_mate, a_operands, a_varies, a_parted, a_variableVaries, a_same, a_fixed, a_worth, a_needed, a_variableNeeded, a_values, a_variables, a_outputs, a_cells, a_whole, a_waiting) (yf_lines, yf_known, yf_wrong, yf_place, yf_blocks, nI (t + 1), yf_dropped, yf_on, nI a, yf_again, yf_depth, ya_ops, ya_as, ya_bs, ya_cs, ya_blockOf, ya_opener, ya_around, ya_other, ya_end, ya_open, ya_varied, ya_loose, ya_variedVariable, ya_stands, ya_number, ya_isConst, ya_needed, ya_inputs, ya_values, ya_variables, ya_cells, ya_outs, ya_was, ya_rest, ya_line) := ⟨d1, d2, rfl, d4, d5, d6, d7, d8⟩
    obtain ⟨i', on, dr, rp, va, vr, ou, ce, wh, wt, ydr, yon, yag, yde, yva, yvr, yce, you, yws, yrs, yln, gp, gd, gx, gX, gY⟩ := rn_line hS hp1 hd1 han (hona han)
    obtain ⟨r, a2, on2, dr2, st2, rp2, va2, vr2, ou2, ce2, wh2, wt2, fX, fY⟩ := ih (t + 1) i' (by omega) rfl hS gp gd
    refine ⟨r, a2, on2, dr2, st2, rp2, va2, vr2, ou2, ce2, wh2, wt2, fun post Q hQ h => hX Q (hQ _ ?_), ?_⟩
    · refine br_f (nI_ge (b := 400) (by omega) (by decide)) (br_f hle (nm_r (by rw [est]; exact nI_1 t) (gX _ ?_)))
      exact fX post _ (fun q hq => nm_r (nI_1 t) hq) h
    · intro zf_lines zf_known zf_wrong zf_place zf_blocks zf_steps zf_dropped zf_on zf_next zf_again zf_depth za_ops za_as za_bs za_cs za_blockOf za_opener za_around za_other za_end za_open za_varied za_loose za_variedVariable za_stands za_number za_isConst za_needed za_inputs za_values za_variables za_cells za_outs za_was za_rest za_line hS' hp' hd'
      obtain ⟨a', hpa', hqa', hona', _, hY'⟩ := rn_pass hS' hp'
      have e : a' = a := pa_q_uniq hg hqa' hqa
      subst e
      obtain ⟨c1, c2, c3, c4, c5, c6, c7, c8⟩ := hd'
      have hp2 : rn_pos K n a' (f_lines, f_studied, f_wrong, f_wrongAt, f_brief, f_on, f_dropped, nI (t + 1), f_nextLine, f_repeats, a_kinds, a_firsts, a_seconds, a_thirds, a_inputs, a_home, a_depth, a_closer, a_mate, a_operands, a_varies, a_parted, a_variableVaries, a_same, a_fixed, a_worth, a_needed, a_variableNeeded, a_values, a_variables, a_outputs, a_cells, a_whole, a_waiting) (zf_lines, zf_known, zf_wrong, zf_place, zf_blocks, nI (t + 1), zf_dropped, zf_on, nI a', zf_again, zf_depth, za_ops, za_as, za_bs, za_cs, za_blockOf, za_opener, za_around, za_other, za_end, za_open, za_varied, za_loose, za_variedVariable, za_stands, za_number, za_isConst, za_needed, za_inputs, za_values, za_variables, za_cells, za_outs, za_was, za_rest, za_line) := hpa'
      have hd2 : rn_dyn (f_lines, f_studied, f_wrong, f_wrongAt, f_brief, f_on, f_dropped, nI (t + 1), f_nextLine, f_repeats, a_kinds, a_firsts, a_seconds, a_thirds, a_inputs, a_home, a_depth, a_closer, a_mate, a_operands, a_varies, a_parted, a_variableVaries, a_same, a_fixed, a_worth, a_needed, a_variableNeeded, a_values, a_variables, a_outputs, a_cells, a_whole, a_waiting) (zf_lines, zf_known, zf_wrong, zf_place, zf_blocks, nI (t + 1), zf_dropped, zf_on, nI a', zf_again, zf_depth, za_ops, za_as, za_bs, za_cs, za_blockOf, za_opener, za_around, za_other, za_end, za_open, za_varied, za_loose, za_variedVariable, za_stands, za_number, za_isConst, za_needed, za_inputs, za_values, za_variables, za_cells, za_outs, za_was, za_rest, za_line) := ⟨c1, c2, rfl, c4, c5, c6, c7, c8⟩
      obtain ⟨i3, on3, dr3, rp3, va3, vr3, ou3, ce3, wh3, wt3, ydr3, yon3, yag3, yde3, yva3, yvr3, yce3, you3, yws3, yrs3, yln3, gp', gd', gx', _, gY'⟩ := rn_line hS' hp2 hd2 han (hona' han)
      have eg := gx'.trans gx.symm
      simp only [Prod.mk.injEq] at eg
      obtain ⟨rfl, rfl, rfl, rfl, rfl, rfl, rfl, rfl, rfl, rfl⟩ := eg
      obtain ⟨ydr4, yon4, yst4, yag4, yde4, yva4, yvr4, yce4, you4, yws4, yrs4, yln4, fd, fY'⟩ := fY hS' gp' gd'
      obtain ⟨_, _, _, _, _, _, _, _, _, _, _, _, _, _, el'⟩ := hS'
      refine ⟨ydr4, yon4, yst4, yag4, yde4, yva4, yvr4, yce4, you4, yws4, yrs4, yln4, fd, fun post h => ?_⟩
      unfold wY_run_103
      refine hY' _ (br_f (fun h' => ?_) (br_f (fun h' => ?_) (nm_r (by rw [c3, est]; exact nI_1 t) (gY' _ (fY' post h)))))
      · rw [el'] at h'
        exact nI_ge han (by omega) (by rw [h']; exact Int32.le_refl _)
      · rw [c3, est] at h'
        have := nI_ge (a := t) (b := 400) (by omega) (by decide)
        rw [h'] at this
        exact this (Int32.le_refl _)
end
end
section
section
/-- a function by a relation -/
theorem cn_fun {P : Nat → Nat → Prop} (F : Nat → Int32) (z : Int32) (hu : ∀ c j j', P c j → P c j' → j = j') : ∃ f : Nat → Int32, (∀ c j, P c j → f c = F j) ∧ (∀ c, (¬ ∃ j, P c j) → f c = z) := by
  refine ⟨fun c => @dite _ (∃ j, P c j) (Classical.propDecidable _) (fun h => F (Classical.choose h)) (fun _ => z), fun c j h => ?_, fun c h => dif_neg h⟩
  dsimp only
  have hex : ∃ j, P c j := ⟨j, h⟩
  rw [dif_pos hex, hu c _ j (Classical.choose_spec hex) h]
variable {K : Nat → Nat} {n : Nat}
/-- there are marks such as Y makes -/
theorem cn_A (hg : sc_good K n) : ∃ blockOf opener around other end_, ys_A K n blockOf opener around other end_ := by
  have u1 : ∀ c j j' : Nat, (j < n ∧ (K j = 19 ∨ K j = 20 ∨ K j = 22) ∧ sc_cnt K (j + 1) = c) → (j' < n ∧ (K j' = 19 ∨ K j' = 20 ∨ K j' = 22) ∧ sc_cnt K (j' + 1) = c) → j = j' := by
    rintro c j j' ⟨_, k, e⟩ ⟨_, k', e'⟩
    have := sc_cnt_inj (K := K) (b := j + 1) (c := j' + 1) (Or.inr (by rw [Nat.add_sub_cancel]; exact k)) (Or.inr (by rw [Nat.add_sub_cancel]; exact k')) (e.trans e'.symm)
    omega
  obtain ⟨around, ar, _⟩ := cn_fun (fun j => nI (sc_cnt K (sc_hd (sc_lf K j)))) 0 u1
  obtain ⟨opener, op, _⟩ := cn_fun (fun j => nI (sc_mt K j)) 0 u1
  obtain ⟨other, ot, ot'⟩ := cn_fun (P := fun c j => j < n ∧ K j = 20 ∧ sc_mt K j = c) nI (-1) (by
    rintro c j j' ⟨hj, k, e⟩ ⟨hj', k', e'⟩
    obtain ⟨m, r, f, _⟩ := (hg j hj).2.1 k
    obtain ⟨m', r', f', _⟩ := (hg j' hj').2.1 k'
    have em : m = c := by rw [← e, sc_mt_cl (Or.inl k), f]; rfl
    have em' : m' = c := by rw [← e', sc_mt_cl (Or.inl k'), f']; rfl
    subst em
    subst em'
    exact sc_uniqE hg hj hj' ⟨Or.inl k, _, _, f⟩ ⟨Or.inl k', _, _, f'⟩)
  obtain ⟨end_, en, _⟩ := cn_fun (P := fun c j => j < n ∧ (K j = 21 ∨ K j = 23) ∧ sc_mt K j = c) nI 0 (by
    rintro c j j' ⟨hj, k, e⟩ ⟨hj', k', e'⟩
    obtain ⟨b, r, f, _⟩ := sc_clTop (hg j hj) (Or.inr k)
    obtain ⟨b', r', f', _⟩ := sc_clTop (hg j' hj') (Or.inr k')
    rw [e] at f
    rw [e'] at f'
    rcases Nat.lt_trichotomy j j' with l | l | l
    · exact (sc_uniqM (sc_good_le hg (by omega)) l k f f').elim
    · exact l
    · exact (sc_uniqM (sc_good_le hg (by omega)) l k' f' f).elim)
  refine ⟨fun j => nI (sc_cnt K (sc_hd (sc_lf K j))), opener, around, other, end_, fun j hj => ⟨rfl, fun k => ⟨ar _ j ⟨hj, k, rfl⟩, op _ j ⟨hj, k, rfl⟩⟩, fun k => ot _ j ⟨hj, k, rfl⟩, fun _ h => ot' j ?_, fun k => en _ j ⟨hj, k, rfl⟩⟩⟩
  rintro ⟨e, he, k, em⟩
  exact h e he k em
variable {A B C : Nat → Int32} {T : Nat → Nat × Bool × Int32}
/-- what stands for itself -/
theorem cn_T {j : Nat} (hl : sh_line K A B C T j (T j)) (h : 10 < K j) (h' : K j ≠ 12 ∧ K j ≠ 13) : T j = (j, false, 0) := by
  have e1 : sh_1 K A B C T j = (j, false, 0) := by unfold sh_1; rw [if_neg (by omega), if_neg (by omega), if_neg (by omega)]
  rcases hl with ⟨_, e⟩ | ⟨⟨_, hc⟩, _⟩
  · rw [e, e1]
  · unfold sh_cmp at hc; omega
theorem cn_need {N : Nat → Prop} (hn : n < 2 ^ 31) (hov : ∀ j, j < n → ∀ s, s < 3 → sc_us (K j) s → sc_ov K A B C s j) (hgT : ∀ j, j < n → sh_good T j) (hl : ∀ j, j < n → sh_line K A B C T j (T j)) (h : nd_least K A B C T n N) : ∀ i, i < n → N i → (T i).2.1 = false ∧ (T i).1 = i := by
  intro i hi ni
  have := h.2 (fun j => N j ∧ (T j).2.1 = false ∧ (T j).1 = j) (fun i hi => ?_) i hi ni
  · exact this.2
  obtain ⟨a, b, c⟩ := h.1 i hi
  refine ⟨fun k => ?_, fun k hx => ?_, fun hN s hs hu hc => ?_⟩
  · have e := cn_T (hl i hi) (by omega) (by omega)
    exact ⟨a k, by rw [e], by rw [e]⟩
  · have e := cn_T (hl i hi) (by omega) (by omega)
    obtain ⟨j, hj, kj, ej, nj⟩ := hx
    exact ⟨b k ⟨j, hj, kj, ej, nj.1⟩, by rw [e], by rw [e]⟩
  · have o := (sh_ov_lt (by omega) (hov i hi s hs hu)).1
    exact ⟨c hN.1 s hs hu hc, hc, (hgT _ (by omega)).2.1⟩
end
section
variable {K : Nat → Nat} {n : Nat} {T : Nat → Nat × Bool × Int32} {br : Int32}
variable {f_lines f_studied f_wrong f_wrongAt f_brief f_on f_dropped f_steps f_nextLine f_repeats : Int32} {a_kinds a_firsts a_seconds a_thirds a_inputs a_home a_depth a_closer a_mate a_operands a_varies a_parted a_variableVaries a_same a_fixed a_worth a_needed a_variableNeeded a_values a_variables a_outputs a_cells a_whole a_waiting : Nat → Int32}
variable {yf_lines yf_known yf_wrong yf_place yf_blocks yf_steps yf_dropped yf_on yf_next yf_again yf_depth : Int32} {ya_ops ya_as ya_bs ya_cs ya_blockOf ya_opener ya_around ya_other ya_end ya_open ya_varied ya_loose ya_variedVariable ya_stands ya_number ya_isConst ya_needed ya_inputs ya_values ya_variables ya_cells ya_outs ya_was ya_rest ya_line : Nat → Int32}
/-- what holds of X's marks for the run -/
def rn_xm (K : Nat → Nat) (n : Nat) (T : Nat → Nat × Bool × Int32) (A B C home depth closer mate operands same fixed worth nd : Nat → Int32) : Prop :=
  sc_ok K A B C n ∧ sc_fr K n = [] ∧ xs_A K A B C n home depth closer mate operands ∧ closer 0 = nI n ∧ sh_R T n same fixed worth ∧ (∀ j, j < n → sh_good T j) ∧ (∀ j, j < n → sh_line K A B C T j (T j)) ∧ nd_least K A B C T n (fun j => nd j ≠ 0)
theorem rn_stX (hW : pg_W K n a_kinds a_firsts) (hx : rn_xm K n T a_firsts a_seconds a_thirds a_home a_depth a_closer a_mate a_operands a_same a_fixed a_worth a_needed) (eb : f_brief = br) (hbr : br = 0 ∨ br = 1) (el : f_lines = nI n) (el' : yf_lines = nI n)
    (e1 : ya_ops = a_kinds) (e2 : ya_as = a_firsts) (e3 : ya_bs = a_seconds) (e4 : ya_cs = a_thirds) (e5 : ya_inputs = a_inputs) (hB : ys_A K n ya_blockOf ya_opener ya_around ya_other ya_end) (hR' : sh_R T n ya_stands ya_isConst ya_number) (hnd : ∀ i, i < n → (a_needed i ≠ 0 ↔ ya_needed i ≠ 0 ∧ (T i).2.1 = false)) : rn_stat K n T br f_lines f_brief a_kinds a_firsts a_seconds a_thirds a_inputs a_home a_depth a_closer a_mate a_operands a_same a_fixed a_worth a_needed yf_lines ya_ops ya_as ya_bs ya_cs ya_blockOf ya_opener ya_around ya_other ya_end ya_stands ya_number ya_isConst ya_needed ya_inputs := by
  obtain ⟨hok, hfr, hA, hc0, hR, hg, hl, hnl⟩ := hx
  have hn := hW.1
  have hov : ∀ j, j < n → ∀ s, s < 3 → sc_us (K j) s → sc_ov K a_firsts a_seconds a_thirds s j := fun j hj => (sc_ck0 (hok j hj)).2.1
  refine ⟨hW, hok, hfr, hA, hc0, hB, ⟨e1, e2, e3, e4, e5⟩, ⟨hR, hR', hg, fun j hj h => ?_⟩, hnd, fun i hi h => (cn_need (by omega) hov hg hl hnl i hi h).2, fun i hi h => (hnl.1 i hi).1 h, eb, hbr, el, el'⟩
  rcases Nat.lt_or_ge 16 (K j) with h' | h'
  · rw [cn_T (hl j hj) (by omega) (by omega)] at h; cases h
  · exact h'
/-- there is a Y that X's state fits to -/
theorem rn_stC (hW : pg_W K n a_kinds a_firsts) (hx : rn_xm K n T a_firsts a_seconds a_thirds a_home a_depth a_closer a_mate a_operands a_same a_fixed a_worth a_needed) (eb : f_brief = br) (hbr : br = 0 ∨ br = 1) (el : f_lines = nI n) :
    ∃ blockOf opener around other end_, rn_stat K n T br f_lines f_brief a_kinds a_firsts a_seconds a_thirds a_inputs a_home a_depth a_closer a_mate a_operands a_same a_fixed a_worth a_needed (nI n) a_kinds a_firsts a_seconds a_thirds blockOf opener around other end_ a_same a_worth a_fixed a_needed a_inputs := by
  have hx' := hx
  obtain ⟨hok, hfr, hA, hc0, hR, hg, hl, hnl⟩ := hx'
  have hn := hW.1
  have hov : ∀ j, j < n → ∀ s, s < 3 → sc_us (K j) s → sc_ov K a_firsts a_seconds a_thirds s j := fun j hj => (sc_ck0 (hok j hj)).2.1
  obtain ⟨blockOf, opener, around, other, end_, hB⟩ := cn_A (sc_ok_good hok)
  exact ⟨blockOf, opener, around, other, end_, rn_stX hW hx eb hbr el rfl rfl rfl rfl rfl rfl hB hR (fun i hi => ⟨fun h => ⟨h, (cn_need (by omega) hov hg hl hnl i hi h).1⟩, fun h => h.1⟩)⟩
/-- the Y that has looked fits to it -/
theorem rn_stY {w p : Int32} {va lo vv : Nat → Int32} (hW : pg_W K n a_kinds a_firsts) (hx : rn_xm K n T a_firsts a_seconds a_thirds a_home a_depth a_closer a_mate a_operands a_same a_fixed a_worth a_needed) (eb : f_brief = br) (hbr : br = 0 ∨ br = 1) (el : f_lines = nI n) (el' : yf_lines = nI n)
    (e1 : ya_ops = a_kinds) (e2 : ya_as = a_firsts) (e3 : ya_bs = a_seconds) (e4 : ya_cs = a_thirds) (e5 : ya_inputs = a_inputs) (hY : pg_Y K n a_firsts a_seconds a_thirds w p ya_blockOf ya_opener ya_around ya_other ya_end va lo vv ya_stands ya_isConst ya_number ya_needed) : rn_stat K n T br f_lines f_brief a_kinds a_firsts a_seconds a_thirds a_inputs a_home a_depth a_closer a_mate a_operands a_same a_fixed a_worth a_needed yf_lines ya_ops ya_as ya_bs ya_cs ya_blockOf ya_opener ya_around ya_other ya_end ya_stands ya_number ya_isConst ya_needed ya_inputs := by
  have hx' := hx
  obtain ⟨hok, hfr, hA, hc0, hR, hg, hl, hnl⟩ := hx'
  obtain ⟨hok', hfr', hA', hl', h4', T', hR', hg', hln', hnd'⟩ := hY
  have hn := hW.1
  have hov : ∀ j, j < n → ∀ s, s < 3 → sc_us (K j) s → sc_ov K a_firsts a_seconds a_thirds s j := fun j hj => (sc_ck0 (hok j hj)).2.1
  have eT : ∀ j, j < n → T j = T' j := sh_uniq (by omega) hov (fun j hj => (hg j hj).1) hl hln'
  have nd2 := nd_least_eq (by omega) hov (fun j hj => (hg' j hj).1) (fun j hj => (eT j hj).symm) hnd'
  refine rn_stX hW hx eb hbr el el' e1 e2 e3 e4 e5 hA' (fun j hj => by rw [eT j hj]; exact hR' j hj) (fun i hi => ?_)
  have := nd_uniq hnl nd2 i hi
  rw [← eT i hi] at this
  exact this
end
end
section
section
/-- X has studied -/
def xs_S (K : Nat → Nat) (n : Nat) (u : SX) : Prop := match u with
  | (f_lines, f_studied, f_wrong, f_wrongAt, f_brief, f_on, f_dropped, f_steps, f_nextLine, f_repeats, a_kinds, a_firsts, a_seconds, a_thirds, a_inputs, a_home, a_depth, a_closer, a_mate, a_operands, a_varies, a_parted, a_variableVaries, a_same, a_fixed, a_worth, a_needed, a_variableNeeded, a_values, a_variables, a_outputs, a_cells, a_whole, a_waiting) => pg_W K n a_kinds a_firsts ∧ f_lines = nI n ∧ f_studied = 1 ∧ (pg_bad K n a_firsts a_seconds a_thirds f_wrong f_wrongAt ∨ pg_X K n a_firsts a_seconds a_thirds f_wrong f_wrongAt a_home a_depth a_closer a_mate a_operands a_varies a_parted a_variableVaries a_same a_fixed a_worth a_needed)
/-- and Y has looked -/
def ys_S (K : Nat → Nat) (n : Nat) (u : SX) (v : SY) : Prop := match u, v with
  | (f_lines, f_studied, f_wrong, f_wrongAt, f_brief, f_on, f_dropped, f_steps, f_nextLine, f_repeats, a_kinds, a_firsts, a_seconds, a_thirds, a_inputs, a_home, a_depth, a_closer, a_mate, a_operands, a_varies, a_parted, a_variableVaries, a_same, a_fixed, a_worth, a_needed, a_variableNeeded, a_values, a_variables, a_outputs, a_cells, a_whole, a_waiting), (yf_lines, yf_known, yf_wrong, yf_place, yf_blocks, yf_steps, yf_dropped, yf_on, yf_next, yf_again, yf_depth, ya_ops, ya_as, ya_bs, ya_cs, ya_blockOf, ya_opener, ya_around, ya_other, ya_end, ya_open, ya_varied, ya_loose, ya_variedVariable, ya_stands, ya_number, ya_isConst, ya_needed, ya_inputs, ya_values, ya_variables, ya_cells, ya_outs, ya_was, ya_rest, ya_line) => yf_lines = nI n ∧ yf_known = 1 ∧ yf_wrong = f_wrong ∧ yf_place = f_wrongAt ∧ (ya_ops = a_kinds ∧ ya_as = a_firsts ∧ ya_bs = a_seconds ∧ ya_cs = a_thirds ∧ ya_inputs = a_inputs) ∧
    (pg_bad K n a_firsts a_seconds a_thirds f_wrong f_wrongAt ∨ (pg_X K n a_firsts a_seconds a_thirds f_wrong f_wrongAt a_home a_depth a_closer a_mate a_operands a_varies a_parted a_variableVaries a_same a_fixed a_worth a_needed ∧ pg_Y K n a_firsts a_seconds a_thirds yf_wrong yf_place ya_blockOf ya_opener ya_around ya_other ya_end ya_varied ya_loose ya_variedVariable ya_stands ya_isConst ya_number ya_needed)) ∧
    rn_dyn (f_lines, f_studied, f_wrong, f_wrongAt, f_brief, f_on, f_dropped, f_steps, f_nextLine, f_repeats, a_kinds, a_firsts, a_seconds, a_thirds, a_inputs, a_home, a_depth, a_closer, a_mate, a_operands, a_varies, a_parted, a_variableVaries, a_same, a_fixed, a_worth, a_needed, a_variableNeeded, a_values, a_variables, a_outputs, a_cells, a_whole, a_waiting) (yf_lines, yf_known, yf_wrong, yf_place, yf_blocks, yf_steps, yf_dropped, yf_on, yf_next, yf_again, yf_depth, ya_ops, ya_as, ya_bs, ya_cs, ya_blockOf, ya_opener, ya_around, ya_other, ya_end, ya_open, ya_varied, ya_loose, ya_variedVariable, ya_stands, ya_number, ya_isConst, ya_needed, ya_inputs, ya_values, ya_variables, ya_cells, ya_outs, ya_was, ya_rest, ya_line) ∧ yf_next = f_nextLine
/-- the relation -/
def rl_R (u : SX) (v : SY) : Prop := match u, v with
  | (f_lines, f_studied, f_wrong, f_wrongAt, f_brief, f_on, f_dropped, f_steps, f_nextLine, f_repeats, a_kinds, a_firsts, a_seconds, a_thirds, a_inputs, a_home, a_depth, a_closer, a_mate, a_operands, a_varies, a_parted, a_variableVaries, a_same, a_fixed, a_worth, a_needed, a_variableNeeded, a_values, a_variables, a_outputs, a_cells, a_whole, a_waiting), (yf_lines, yf_known, yf_wrong, yf_place, yf_blocks, yf_steps, yf_dropped, yf_on, yf_next, yf_again, yf_depth, ya_ops, ya_as, ya_bs, ya_cs, ya_blockOf, ya_opener, ya_around, ya_other, ya_end, ya_open, ya_varied, ya_loose, ya_variedVariable, ya_stands, ya_number, ya_isConst, ya_needed, ya_inputs, ya_values, ya_variables, ya_cells, ya_outs, ya_was, ya_rest, ya_line) => ∃ (K : Nat → Nat) (n : Nat), pg_W K n a_kinds a_firsts ∧ f_lines = nI n ∧ yf_lines = nI n ∧ (ya_ops = a_kinds ∧ ya_as = a_firsts ∧ ya_bs = a_seconds ∧ ya_cs = a_thirds ∧ ya_inputs = a_inputs) ∧
    ((f_studied = 0 ∧ yf_known = 0) ∨ (xs_S K n (f_lines, f_studied, f_wrong, f_wrongAt, f_brief, f_on, f_dropped, f_steps, f_nextLine, f_repeats, a_kinds, a_firsts, a_seconds, a_thirds, a_inputs, a_home, a_depth, a_closer, a_mate, a_operands, a_varies, a_parted, a_variableVaries, a_same, a_fixed, a_worth, a_needed, a_variableNeeded, a_values, a_variables, a_outputs, a_cells, a_whole, a_waiting) ∧ ys_S K n (f_lines, f_studied, f_wrong, f_wrongAt, f_brief, f_on, f_dropped, f_steps, f_nextLine, f_repeats, a_kinds, a_firsts, a_seconds, a_thirds, a_inputs, a_home, a_depth, a_closer, a_mate, a_operands, a_varies, a_parted, a_variableVaries, a_same, a_fixed, a_worth, a_needed, a_variableNeeded, a_values, a_variables, a_outputs, a_cells, a_whole, a_waiting) (yf_lines, yf_known, yf_wrong, yf_place, yf_blocks, yf_steps, yf_dropped, yf_on, yf_next, yf_again, yf_depth, ya_ops, ya_as, ya_bs, ya_cs, ya_blockOf, ya_opener, ya_around, ya_other, ya_end, ya_open, ya_varied, ya_loose, ya_variedVariable, ya_stands, ya_number, ya_isConst, ya_needed, ya_inputs, ya_values, ya_variables, ya_cells, ya_outs, ya_was, ya_rest, ya_line))) ∧ rn_dyn (f_lines, f_studied, f_wrong, f_wrongAt, f_brief, f_on, f_dropped, f_steps, f_nextLine, f_repeats, a_kinds, a_firsts, a_seconds, a_thirds, a_inputs, a_home, a_depth, a_closer, a_mate, a_operands, a_varies, a_parted, a_variableVaries, a_same, a_fixed, a_worth, a_needed, a_variableNeeded, a_values, a_variables, a_outputs, a_cells, a_whole, a_waiting) (yf_lines, yf_known, yf_wrong, yf_place, yf_blocks, yf_steps, yf_dropped, yf_on, yf_next, yf_again, yf_depth, ya_ops, ya_as, ya_bs, ya_cs, ya_blockOf, ya_opener, ya_around, ya_other, ya_end, ya_open, ya_varied, ya_loose, ya_variedVariable, ya_stands, ya_number, ya_isConst, ya_needed, ya_inputs, ya_values, ya_variables, ya_cells, ya_outs, ya_was, ya_rest, ya_line) ∧ yf_next = f_nextLine
end
section
variable {K : Nat → Nat} {n : Nat}
variable {f_lines f_studied f_wrong f_wrongAt f_brief f_on f_dropped f_steps f_nextLine f_repeats : Int32} {a_kinds a_firsts a_seconds a_thirds a_inputs a_home a_depth a_closer a_mate a_operands a_varies a_parted a_variableVaries a_same a_fixed a_worth a_needed a_variableNeeded a_values a_variables a_outputs a_cells a_whole a_waiting : Nat → Int32}
variable {yf_lines yf_known yf_wrong yf_place yf_blocks yf_steps yf_dropped yf_on yf_next yf_again yf_depth : Int32} {ya_ops ya_as ya_bs ya_cs ya_blockOf ya_opener ya_around ya_other ya_end ya_open ya_varied ya_loose ya_variedVariable ya_stands ya_number ya_isConst ya_needed ya_inputs ya_values ya_variables ya_cells ya_outs ya_was ya_rest ya_line : Nat → Int32}
theorem rl_SR (hx : xs_S K n (f_lines, f_studied, f_wrong, f_wrongAt, f_brief, f_on, f_dropped, f_steps, f_nextLine, f_repeats, a_kinds, a_firsts, a_seconds, a_thirds, a_inputs, a_home, a_depth, a_closer, a_mate, a_operands, a_varies, a_parted, a_variableVaries, a_same, a_fixed, a_worth, a_needed, a_variableNeeded, a_values, a_variables, a_outputs, a_cells, a_whole, a_waiting)) (hy : ys_S K n (f_lines, f_studied, f_wrong, f_wrongAt, f_brief, f_on, f_dropped, f_steps, f_nextLine, f_repeats, a_kinds, a_firsts, a_seconds, a_thirds, a_inputs, a_home, a_depth, a_closer, a_mate, a_operands, a_varies, a_parted, a_variableVaries, a_same, a_fixed, a_worth, a_needed, a_variableNeeded, a_values, a_variables, a_outputs, a_cells, a_whole, a_waiting) (yf_lines, yf_known, yf_wrong, yf_place, yf_blocks, yf_steps, yf_dropped, yf_on, yf_next, yf_again, yf_depth, ya_ops, ya_as, ya_bs, ya_cs, ya_blockOf, ya_opener, ya_around, ya_other, ya_end, ya_open, ya_varied, ya_loose, ya_variedVariable, ya_stands, ya_number, ya_isConst, ya_needed, ya_inputs, ya_values, ya_variables, ya_cells, ya_outs, ya_was, ya_rest, ya_line)) : rl_R (f_lines, f_studied, f_wrong, f_wrongAt, f_brief, f_on, f_dropped, f_steps, f_nextLine, f_repeats, a_kinds, a_firsts, a_seconds, a_thirds, a_inputs, a_home, a_depth, a_closer, a_mate, a_operands, a_varies, a_parted, a_variableVaries, a_same, a_fixed, a_worth, a_needed, a_variableNeeded, a_values, a_variables, a_outputs, a_cells, a_whole, a_waiting) (yf_lines, yf_known, yf_wrong, yf_place, yf_blocks, yf_steps, yf_dropped, yf_on, yf_next, yf_again, yf_depth, ya_ops, ya_as, ya_bs, ya_cs, ya_blockOf, ya_opener, ya_around, ya_other, ya_end, ya_open, ya_varied, ya_loose, ya_variedVariable, ya_stands, ya_number, ya_isConst, ya_needed, ya_inputs, ya_values, ya_variables, ya_cells, ya_outs, ya_was, ya_rest, ya_line) :=
  ⟨K, n, hx.1, hx.2.1, hy.1, hy.2.2.2.2.1, Or.inr ⟨hx, hy⟩, hy.2.2.2.2.2.2.1, hy.2.2.2.2.2.2.2⟩
theorem rl_study (I : rl_R (f_lines, f_studied, f_wrong, f_wrongAt, f_brief, f_on, f_dropped, f_steps, f_nextLine, f_repeats, a_kinds, a_firsts, a_seconds, a_thirds, a_inputs, a_home, a_depth, a_closer, a_mate, a_operands, a_varies, a_parted, a_variableVaries, a_same, a_fixed, a_worth, a_needed, a_variableNeeded, a_values, a_variables, a_outputs, a_cells, a_whole, a_waiting) (yf_lines, yf_known, yf_wrong, yf_place, yf_blocks, yf_steps, yf_dropped, yf_on, yf_next, yf_again, yf_depth, ya_ops, ya_as, ya_bs, ya_cs, ya_blockOf, ya_opener, ya_around, ya_other, ya_end, ya_open, ya_varied, ya_loose, ya_variedVariable, ya_stands, ya_number, ya_isConst, ya_needed, ya_inputs, ya_values, ya_variables, ya_cells, ya_outs, ya_was, ya_rest, ya_line)) {post : SX → Prop} (h : ∀ (K : Nat → Nat) (n : Nat) (u : SX), xs_S K n u → (∀ postY : SY → Prop, (∀ v, ys_S K n u v → postY v) → wpY_look postY (yf_lines, yf_known, yf_wrong, yf_place, yf_blocks, yf_steps, yf_dropped, yf_on, yf_next, yf_again, yf_depth, ya_ops, ya_as, ya_bs, ya_cs, ya_blockOf, ya_opener, ya_around, ya_other, ya_end, ya_open, ya_varied, ya_loose, ya_variedVariable, ya_stands, ya_number, ya_isConst, ya_needed, ya_inputs, ya_values, ya_variables, ya_cells, ya_outs, ya_was, ya_rest, ya_line)) → post u) : wpX_study post (f_lines, f_studied, f_wrong, f_wrongAt, f_brief, f_on, f_dropped, f_steps, f_nextLine, f_repeats, a_kinds, a_firsts, a_seconds, a_thirds, a_inputs, a_home, a_depth, a_closer, a_mate, a_operands, a_varies, a_parted, a_variableVaries, a_same, a_fixed, a_worth, a_needed, a_variableNeeded, a_values, a_variables, a_outputs, a_cells, a_whole, a_waiting) := by
  obtain ⟨K, n, hW, el, el', ⟨e1, e2, e3, e4, e5⟩, hst, hd, hnx⟩ := I
  rcases hst with ⟨es, ek⟩ | ⟨hx, hy⟩
  · have hWy : pg_W K n ya_ops ya_as := by rw [e1, e2]; exact hW
    subst el es el' ek
    refine pg_study (K := K) (n := n) hW (fun w p home depth closer mate operands hb => h K n _ ⟨hW, rfl, rfl, Or.inl hb⟩ (fun postY hy => ?_)) (fun w p home depth closer mate operands va pa vv same fixed worth nd vn hg => h K n _ ⟨hW, rfl, rfl, Or.inr hg⟩ (fun postY hy => ?_))
    · refine pg_look (K := K) (n := n) hWy (fun w' p' bl blockOf opener around other end_ opn hb' => hy _ ?_) (fun w' p' bl blockOf opener around other end_ opn va lo vv stands isc num nd hg' => ?_)
      · rw [e2, e3, e4] at hb'
        obtain ⟨ew, ep⟩ := pg_bad_uniq hb hb'
        exact ⟨rfl, rfl, ew.symm, ep.symm, ⟨e1, e2, e3, e4, e5⟩, Or.inl hb, hd, hnx⟩
      · rw [e2, e3, e4] at hg'
        exact (pg_bad_good hb hg'.1 hg'.2.1).elim
    · refine pg_look (K := K) (n := n) hWy (fun w' p' bl blockOf opener around other end_ opn hb' => ?_) (fun w' p' bl blockOf opener around other end_ opn va' lo vv' stands isc num nd' hg' => hy _ ?_)
      · rw [e2, e3, e4] at hb'
        exact (pg_bad_good hb' hg.1 hg.2.1).elim
      · rw [e2, e3, e4] at hg'
        obtain ⟨⟨ew, ep⟩, _⟩ := pg_join hW.1 hg hg'
        exact ⟨rfl, rfl, ew.symm, ep.symm, ⟨e1, e2, e3, e4, e5⟩, Or.inr ⟨hg, hg'⟩, hd, hnx⟩
  · have es := hx.2.2.1
    have ek := hy.2.1
    exact br_f (by rw [es]; decide) (h K n _ hx (fun postY hY => br_f (by rw [ek]; decide) (hY _ hy)))
theorem rl_inpE (I : rl_R (f_lines, f_studied, f_wrong, f_wrongAt, f_brief, f_on, f_dropped, f_steps, f_nextLine, f_repeats, a_kinds, a_firsts, a_seconds, a_thirds, a_inputs, a_home, a_depth, a_closer, a_mate, a_operands, a_varies, a_parted, a_variableVaries, a_same, a_fixed, a_worth, a_needed, a_variableNeeded, a_values, a_variables, a_outputs, a_cells, a_whole, a_waiting) (yf_lines, yf_known, yf_wrong, yf_place, yf_blocks, yf_steps, yf_dropped, yf_on, yf_next, yf_again, yf_depth, ya_ops, ya_as, ya_bs, ya_cs, ya_blockOf, ya_opener, ya_around, ya_other, ya_end, ya_open, ya_varied, ya_loose, ya_variedVariable, ya_stands, ya_number, ya_isConst, ya_needed, ya_inputs, ya_values, ya_variables, ya_cells, ya_outs, ya_was, ya_rest, ya_line)) : ya_inputs = a_inputs := by
  obtain ⟨K, n, hW, el, el', ⟨c1, c2, c3, c4, c5⟩, hst, hd, hnx⟩ := I
  exact c5
theorem rl_inp {inp inp' : Nat → Int32} (I : rl_R (f_lines, f_studied, f_wrong, f_wrongAt, f_brief, f_on, f_dropped, f_steps, f_nextLine, f_repeats, a_kinds, a_firsts, a_seconds, a_thirds, a_inputs, a_home, a_depth, a_closer, a_mate, a_operands, a_varies, a_parted, a_variableVaries, a_same, a_fixed, a_worth, a_needed, a_variableNeeded, a_values, a_variables, a_outputs, a_cells, a_whole, a_waiting) (yf_lines, yf_known, yf_wrong, yf_place, yf_blocks, yf_steps, yf_dropped, yf_on, yf_next, yf_again, yf_depth, ya_ops, ya_as, ya_bs, ya_cs, ya_blockOf, ya_opener, ya_around, ya_other, ya_end, ya_open, ya_varied, ya_loose, ya_variedVariable, ya_stands, ya_number, ya_isConst, ya_needed, ya_inputs, ya_values, ya_variables, ya_cells, ya_outs, ya_was, ya_rest, ya_line)) (e : inp' = inp) : rl_R (f_lines, f_studied, f_wrong, f_wrongAt, f_brief, f_on, f_dropped, f_steps, f_nextLine, f_repeats, a_kinds, a_firsts, a_seconds, a_thirds, inp, a_home, a_depth, a_closer, a_mate, a_operands, a_varies, a_parted, a_variableVaries, a_same, a_fixed, a_worth, a_needed, a_variableNeeded, a_values, a_variables, a_outputs, a_cells, a_whole, a_waiting) (yf_lines, yf_known, yf_wrong, yf_place, yf_blocks, yf_steps, yf_dropped, yf_on, yf_next, yf_again, yf_depth, ya_ops, ya_as, ya_bs, ya_cs, ya_blockOf, ya_opener, ya_around, ya_other, ya_end, ya_open, ya_varied, ya_loose, ya_variedVariable, ya_stands, ya_number, ya_isConst, ya_needed, inp', ya_values, ya_variables, ya_cells, ya_outs, ya_was, ya_rest, ya_line) := by
  obtain ⟨K, n, hW, el, el', ⟨c1, c2, c3, c4, c5⟩, hst, hd, hnx⟩ := I
  obtain ⟨d1, d2, d3, d4, d5, d6, d7, d8⟩ := hd
  refine ⟨K, n, hW, el, el', ⟨c1, c2, c3, c4, e⟩, ?_, ⟨d1, d2, d3, d4, d5, d6, d7, d8⟩, hnx⟩
  rcases hst with hs | ⟨hx, hy⟩
  · exact Or.inl hs
  · obtain ⟨x1, x2, x3, x4⟩ := hx
    obtain ⟨y1, y2, y3, y4, _, y6, _, y8⟩ := hy
    exact Or.inr ⟨⟨x1, x2, x3, x4⟩, ⟨y1, y2, y3, y4, ⟨c1, c2, c3, c4, e⟩, y6, ⟨d1, d2, d3, d4, d5, d6, d7, d8⟩, y8⟩⟩
end
section
variable {u : SX} {v : SY}
theorem g_check {Q : Int32 → SX → Int32 → SY → Prop} (I : rl_R u v) (h : ∀ r u' v', rl_R u' v' → Q r u' r v') : wpX_check (fun r u' => wpY_check (fun r' v' => Q r u' r' v') v) u := by
  obtain ⟨f_lines, f_studied, f_wrong, f_wrongAt, f_brief, f_on, f_dropped, f_steps, f_nextLine, f_repeats, a_kinds, a_firsts, a_seconds, a_thirds, a_inputs, a_home, a_depth, a_closer, a_mate, a_operands, a_varies, a_parted, a_variableVaries, a_same, a_fixed, a_worth, a_needed, a_variableNeeded, a_values, a_variables, a_outputs, a_cells, a_whole, a_waiting⟩ := u
  obtain ⟨yf_lines, yf_known, yf_wrong, yf_place, yf_blocks, yf_steps, yf_dropped, yf_on, yf_next, yf_again, yf_depth, ya_ops, ya_as, ya_bs, ya_cs, ya_blockOf, ya_opener, ya_around, ya_other, ya_end, ya_open, ya_varied, ya_loose, ya_variedVariable, ya_stands, ya_number, ya_isConst, ya_needed, ya_inputs, ya_values, ya_variables, ya_cells, ya_outs, ya_was, ya_rest, ya_line⟩ := v
  unfold wpX_check wpY_check
  refine rl_study I (fun K n u' hx hY => ?_)
  obtain ⟨zf_lines, zf_studied, zf_wrong, zf_wrongAt, zf_brief, zf_on, zf_dropped, zf_steps, zf_nextLine, zf_repeats, za_kinds, za_firsts, za_seconds, za_thirds, za_inputs, za_home, za_depth, za_closer, za_mate, za_operands, za_varies, za_parted, za_variableVaries, za_same, za_fixed, za_worth, za_needed, za_variableNeeded, za_values, za_variables, za_outputs, za_cells, za_whole, za_waiting⟩ := u'
  refine hY _ (fun v' hy => ?_)
  obtain ⟨wf_lines, wf_known, wf_wrong, wf_place, wf_blocks, wf_steps, wf_dropped, wf_on, wf_next, wf_again, wf_depth, wa_ops, wa_as, wa_bs, wa_cs, wa_blockOf, wa_opener, wa_around, wa_other, wa_end, wa_open, wa_varied, wa_loose, wa_variedVariable, wa_stands, wa_number, wa_isConst, wa_needed, wa_inputs, wa_values, wa_variables, wa_cells, wa_outs, wa_was, wa_rest, wa_line⟩ := v'
  have e : wf_wrong = zf_wrong := hy.2.2.1
  have := h zf_wrong _ _ (rl_SR hx hy)
  rw [← e] at this ⊢
  exact this
theorem g_place {Q : Int32 → SX → Int32 → SY → Prop} (I : rl_R u v) (h : ∀ r u' v', rl_R u' v' → Q r u' r v') : wpX_place (fun r u' => wpY_place (fun r' v' => Q r u' r' v') v) u := by
  obtain ⟨f_lines, f_studied, f_wrong, f_wrongAt, f_brief, f_on, f_dropped, f_steps, f_nextLine, f_repeats, a_kinds, a_firsts, a_seconds, a_thirds, a_inputs, a_home, a_depth, a_closer, a_mate, a_operands, a_varies, a_parted, a_variableVaries, a_same, a_fixed, a_worth, a_needed, a_variableNeeded, a_values, a_variables, a_outputs, a_cells, a_whole, a_waiting⟩ := u
  obtain ⟨yf_lines, yf_known, yf_wrong, yf_place, yf_blocks, yf_steps, yf_dropped, yf_on, yf_next, yf_again, yf_depth, ya_ops, ya_as, ya_bs, ya_cs, ya_blockOf, ya_opener, ya_around, ya_other, ya_end, ya_open, ya_varied, ya_loose, ya_variedVariable, ya_stands, ya_number, ya_isConst, ya_needed, ya_inputs, ya_values, ya_variables, ya_cells, ya_outs, ya_was, ya_rest, ya_line⟩ := v
  unfold wpX_place wpY_place
  refine rl_study I (fun K n u' hx hY => ?_)
  obtain ⟨zf_lines, zf_studied, zf_wrong, zf_wrongAt, zf_brief, zf_on, zf_dropped, zf_steps, zf_nextLine, zf_repeats, za_kinds, za_firsts, za_seconds, za_thirds, za_inputs, za_home, za_depth, za_closer, za_mate, za_operands, za_varies, za_parted, za_variableVaries, za_same, za_fixed, za_worth, za_needed, za_variableNeeded, za_values, za_variables, za_outputs, za_cells, za_whole, za_waiting⟩ := u'
  refine hY _ (fun v' hy => ?_)
  obtain ⟨wf_lines, wf_known, wf_wrong, wf_place, wf_blocks, wf_steps, wf_dropped, wf_on, wf_next, wf_again, wf_depth, wa_ops, wa_as, wa_bs, wa_cs, wa_blockOf, wa_opener, wa_around, wa_other, wa_end, wa_open, wa_varied, wa_loose, wa_variedVariable, wa_stands, wa_number, wa_isConst, wa_needed, wa_inputs, wa_values, wa_variables, wa_cells, wa_outs, wa_was, wa_rest, wa_line⟩ := v'
  have e : wf_place = zf_wrongAt := hy.2.2.2.1
  subst e
  exact h _ _ _ (rl_SR hx hy)
theorem g_wipe {Q : Int32 → SX → Int32 → SY → Prop} (I : rl_R u v) (h : ∀ r u' v', rl_R u' v' → Q r u' r v') : wpX_wipe (fun r u' => wpY_wipe (fun r' v' => Q r u' r' v') v) u := by
  obtain ⟨f_lines, f_studied, f_wrong, f_wrongAt, f_brief, f_on, f_dropped, f_steps, f_nextLine, f_repeats, a_kinds, a_firsts, a_seconds, a_thirds, a_inputs, a_home, a_depth, a_closer, a_mate, a_operands, a_varies, a_parted, a_variableVaries, a_same, a_fixed, a_worth, a_needed, a_variableNeeded, a_values, a_variables, a_outputs, a_cells, a_whole, a_waiting⟩ := u
  obtain ⟨yf_lines, yf_known, yf_wrong, yf_place, yf_blocks, yf_steps, yf_dropped, yf_on, yf_next, yf_again, yf_depth, ya_ops, ya_as, ya_bs, ya_cs, ya_blockOf, ya_opener, ya_around, ya_other, ya_end, ya_open, ya_varied, ya_loose, ya_variedVariable, ya_stands, ya_number, ya_isConst, ya_needed, ya_inputs, ya_values, ya_variables, ya_cells, ya_outs, ya_was, ya_rest, ya_line⟩ := v
  obtain ⟨K, n, hW, el, el', he, hst, hd, hnx⟩ := I
  have e : yf_lines = f_lines := el'.trans el.symm
  have := h f_lines (0, 0, f_wrong, f_wrongAt, f_brief, f_on, f_dropped, f_steps, f_nextLine, f_repeats, a_kinds, a_firsts, a_seconds, a_thirds, a_inputs, a_home, a_depth, a_closer, a_mate, a_operands, a_varies, a_parted, a_variableVaries, a_same, a_fixed, a_worth, a_needed, a_variableNeeded, a_values, a_variables, a_outputs, a_cells, a_whole, a_waiting) (0, 0, yf_wrong, yf_place, yf_blocks, yf_steps, yf_dropped, yf_on, yf_next, yf_again, yf_depth, ya_ops, ya_as, ya_bs, ya_cs, ya_blockOf, ya_opener, ya_around, ya_other, ya_end, ya_open, ya_varied, ya_loose, ya_variedVariable, ya_stands, ya_number, ya_isConst, ya_needed, ya_inputs, ya_values, ya_variables, ya_cells, ya_outs, ya_was, ya_rest, ya_line) ⟨K, 0, ⟨by omega, fun j hj => by omega, fun j hj => by omega⟩, rfl, rfl, he, Or.inl ⟨rfl, rfl⟩, hd, hnx⟩
  show Q f_lines _ yf_lines _
  rw [e]
  exact this
theorem g_add {Q : Int32 → SX → Int32 → SY → Prop} (I : rl_R u v) (h : ∀ r u' v', rl_R u' v' → Q r u' r v') (v1 v2 v3 v4 : Int32) : wpX_add (fun r u' => wpY_add (fun r' v' => Q r u' r' v') v v1 v2 v3 v4) u v1 v2 v3 v4 := by
  obtain ⟨f_lines, f_studied, f_wrong, f_wrongAt, f_brief, f_on, f_dropped, f_steps, f_nextLine, f_repeats, a_kinds, a_firsts, a_seconds, a_thirds, a_inputs, a_home, a_depth, a_closer, a_mate, a_operands, a_varies, a_parted, a_variableVaries, a_same, a_fixed, a_worth, a_needed, a_variableNeeded, a_values, a_variables, a_outputs, a_cells, a_whole, a_waiting⟩ := u
  obtain ⟨yf_lines, yf_known, yf_wrong, yf_place, yf_blocks, yf_steps, yf_dropped, yf_on, yf_next, yf_again, yf_depth, ya_ops, ya_as, ya_bs, ya_cs, ya_blockOf, ya_opener, ya_around, ya_other, ya_end, ya_open, ya_varied, ya_loose, ya_variedVariable, ya_stands, ya_number, ya_isConst, ya_needed, ya_inputs, ya_values, ya_variables, ya_cells, ya_outs, ya_was, ya_rest, ya_line⟩ := v
  have I0 := I
  obtain ⟨K, n, hW, el, el', ⟨e1, e2, e3, e4, e5⟩, hst, hd, hnx⟩ := I
  subst el el'
  have hn := hW.1
  refine ad_X hn v1 v2 v3 v4 (fun hb => ?_) (fun hb hf => ?_) (fun hb hf => ?_)
  · exact ad_Y hn v1 v2 v3 v4 (fun _ => h _ _ _ I0) (fun h' => absurd hb h') (fun h' => absurd hb h')
  · exact ad_Y hn v1 v2 v3 v4 (fun h' => absurd h' hb) (fun _ _ => h _ _ _ I0) (fun _ h' => absurd h' (by omega))
  · refine ad_Y hn v1 v2 v3 v4 (fun h' => absurd h' hb) (fun _ h' => absurd h' (by omega)) (fun _ _ => h _ _ _ ?_)
    have hop : ∃ k, k ≤ 25 ∧ v1 = nI k := by
      rcases pk_ix v1 (show 26 < 2 ^ 31 by omega) with h0 | h0 | ⟨k, hk, e⟩
      · exact absurd (Or.inl h0) hb
      · refine absurd (Or.inr (Or.inl ?_)) hb
        rw [Int32.lt_iff_toInt_lt]
        rw [Int32.le_iff_toInt_le, nI_toInt (by omega)] at h0
        have : (25 : Int32).toInt = 25 := by decide
        omega
      · exact ⟨k, by omega, e⟩
    obtain ⟨k, hk, ek⟩ := hop
    have few : (k = 1 ∨ k = 11 ∨ k = 16 ∨ k = 17 ∨ k = 18) → ∃ a, a < 4 ∧ v2 = nI a := fun hf => by
      have hf' : v1 = 1 ∨ v1 = 11 ∨ v1 = 16 ∨ v1 = 17 ∨ v1 = 18 := by
        rcases hf with r | r | r | r | r <;> subst r <;> simp only [ek] <;> decide
      rcases ez_4 v2 with h0 | ⟨a, ha, e⟩
      · exact absurd (Or.inr (Or.inr ⟨hf', h0⟩)) hb
      · exact ⟨a, ha, e⟩
    refine ⟨fun j => if j = n then k else K j, n + 1, ⟨by omega, fun j hj => ?_, fun j hj => ?_⟩, rfl, rfl, ⟨by rw [e1], by rw [e2], by rw [e3], by rw [e4], e5⟩, Or.inl ⟨rfl, rfl⟩, hd, hnx⟩
    · dsimp only
      by_cases e : j = n
      · subst e; rw [pk_us, if_pos rfl]; exact ⟨ek, hk⟩
      · rw [pk_un e, if_neg e]; exact hW.2.1 j (by omega)
    · dsimp only
      by_cases e : j = n
      · subst e; rw [pk_us, if_pos rfl]; exact few
      · rw [pk_un e, if_neg e]; exact hW.2.2 j (by omega)
theorem g_input {Q : Int32 → SX → Int32 → SY → Prop} (I : rl_R u v) (h : ∀ r u' v', rl_R u' v' → Q r u' r v') (v1 v2 v3 : Int32) : wpX_input (fun r u' => wpY_input (fun r' v' => Q r u' r' v') v v1 v2 v3) u v1 v2 v3 := by
  obtain ⟨f_lines, f_studied, f_wrong, f_wrongAt, f_brief, f_on, f_dropped, f_steps, f_nextLine, f_repeats, a_kinds, a_firsts, a_seconds, a_thirds, a_inputs, a_home, a_depth, a_closer, a_mate, a_operands, a_varies, a_parted, a_variableVaries, a_same, a_fixed, a_worth, a_needed, a_variableNeeded, a_values, a_variables, a_outputs, a_cells, a_whole, a_waiting⟩ := u
  obtain ⟨yf_lines, yf_known, yf_wrong, yf_place, yf_blocks, yf_steps, yf_dropped, yf_on, yf_next, yf_again, yf_depth, ya_ops, ya_as, ya_bs, ya_cs, ya_blockOf, ya_opener, ya_around, ya_other, ya_end, ya_open, ya_varied, ya_loose, ya_variedVariable, ya_stands, ya_number, ya_isConst, ya_needed, ya_inputs, ya_values, ya_variables, ya_cells, ya_outs, ya_was, ya_rest, ya_line⟩ := v
  have no : ∀ {p : Int32} {l : Nat}, l < 4 → p = nI l → (p < 0 ∨ 4 ≤ p) → False := fun hl e h => by
    subst e; exact h.elim (ez_n4 hl).1 (ez_n4 hl).2.1
  have inj : ∀ {p : Int32} {l l' : Nat}, l < 4 → l' < 4 → p = nI l → p = nI l' → l = l' := fun hl hl' e e' => by
    rw [e] at e'
    exact (nI_eq (by omega) (by omega)).mp e'
  refine in_X _ _ _ (fun hb => ?_) (fun l k hl hk e1 e2 => ?_)
  · exact in_Y _ _ _ (fun _ => h _ _ _ I) (fun l k hl hk e1 e2 => absurd hb (fun h => h.elim (no hl e1) (no hk e2)))
  · refine in_Y _ _ _ (fun hb => absurd hb (fun h => h.elim (no hl e1) (no hk e2))) (fun l' k' hl' hk' e1' e2' => h _ _ _ ?_)
    cases inj hl hl' e1 e1'
    cases inj hk hk' e2 e2'
    exact rl_inp I (by rw [rl_inpE I])
theorem g_out {Q : Int32 → Int32 → Prop} (I : rl_R u v) (h : ∀ r, Q r r) (v1 v2 : Int32) : wpX_out (fun r => wpY_out (fun r' => Q r r') v v1 v2) u v1 v2 := by
  obtain ⟨f_lines, f_studied, f_wrong, f_wrongAt, f_brief, f_on, f_dropped, f_steps, f_nextLine, f_repeats, a_kinds, a_firsts, a_seconds, a_thirds, a_inputs, a_home, a_depth, a_closer, a_mate, a_operands, a_varies, a_parted, a_variableVaries, a_same, a_fixed, a_worth, a_needed, a_variableNeeded, a_values, a_variables, a_outputs, a_cells, a_whole, a_waiting⟩ := u
  obtain ⟨yf_lines, yf_known, yf_wrong, yf_place, yf_blocks, yf_steps, yf_dropped, yf_on, yf_next, yf_again, yf_depth, ya_ops, ya_as, ya_bs, ya_cs, ya_blockOf, ya_opener, ya_around, ya_other, ya_end, ya_open, ya_varied, ya_loose, ya_variedVariable, ya_stands, ya_number, ya_isConst, ya_needed, ya_inputs, ya_values, ya_variables, ya_cells, ya_outs, ya_was, ya_rest, ya_line⟩ := v
  obtain ⟨K, n, _, _, _, _, _, ⟨d1, d2, d3, d4, d5, d6, d7, d8⟩, hnx⟩ := I
  have no : ∀ {p : Int32} {l : Nat}, l < 4 → p = nI l → (p < 0 ∨ 4 ≤ p) → False := fun hl e h => by
    subst e; exact h.elim (ez_n4 hl).1 (ez_n4 hl).2.1
  have inj : ∀ {p : Int32} {l l' : Nat}, l < 4 → l' < 4 → p = nI l → p = nI l' → l = l' := fun hl hl' e e' => by
    rw [e] at e'
    exact (nI_eq (by omega) (by omega)).mp e'
  refine ou_X _ _ (fun hb => ?_) (fun l k hl hk e1 e2 => ?_)
  · exact ou_Y _ _ (fun _ => h _) (fun l k hl hk e1 e2 => absurd hb (fun h => h.elim (no hl e1) (no hk e2)))
  · refine ou_Y _ _ (fun hb => absurd hb (fun h => h.elim (no hl e1) (no hk e2))) (fun l' k' hl' hk' e1' e2' => ?_)
    cases inj hl hl' e1 e1'
    cases inj hk hk' e2 e2'
    rw [← d7 l hl k hk]; exact h _
theorem g_kept {Q : Int32 → Int32 → Prop} (I : rl_R u v) (h : ∀ r, Q r r) (v1 v2 : Int32) : wpX_kept (fun r => wpY_kept (fun r' => Q r r') v v1 v2) u v1 v2 := by
  obtain ⟨f_lines, f_studied, f_wrong, f_wrongAt, f_brief, f_on, f_dropped, f_steps, f_nextLine, f_repeats, a_kinds, a_firsts, a_seconds, a_thirds, a_inputs, a_home, a_depth, a_closer, a_mate, a_operands, a_varies, a_parted, a_variableVaries, a_same, a_fixed, a_worth, a_needed, a_variableNeeded, a_values, a_variables, a_outputs, a_cells, a_whole, a_waiting⟩ := u
  obtain ⟨yf_lines, yf_known, yf_wrong, yf_place, yf_blocks, yf_steps, yf_dropped, yf_on, yf_next, yf_again, yf_depth, ya_ops, ya_as, ya_bs, ya_cs, ya_blockOf, ya_opener, ya_around, ya_other, ya_end, ya_open, ya_varied, ya_loose, ya_variedVariable, ya_stands, ya_number, ya_isConst, ya_needed, ya_inputs, ya_values, ya_variables, ya_cells, ya_outs, ya_was, ya_rest, ya_line⟩ := v
  obtain ⟨K, n, _, _, _, _, _, ⟨d1, d2, d3, d4, d5, d6, d7, d8⟩, hnx⟩ := I
  have no : ∀ {p : Int32} {l : Nat}, l < 4 → p = nI l → (p < 0 ∨ 4 ≤ p) → False := fun hl e h => by
    subst e; exact h.elim (ez_n4 hl).1 (ez_n4 hl).2.1
  have no8 : ∀ {p : Int32} {l : Nat}, l < 8 → p = nI l → (p < 0 ∨ 8 ≤ p) → False := fun hl e h => by
    subst e; exact h.elim (nI_pos (by omega)) (nI_ge (b := 8) hl (by decide))
  have inj : ∀ {p : Int32} {l l' : Nat}, l < 8 → l' < 8 → p = nI l → p = nI l' → l = l' := fun hl hl' e e' => by
    rw [e] at e'
    exact (nI_eq (by omega) (by omega)).mp e'
  refine ke_X _ _ (fun hb => ?_) (fun l k hl hk e1 e2 => ?_) (fun l k hl hk e1 e2 => ?_)
  · exact ke_Y _ _ (fun _ => h _) (fun l k hl hk e1 e2 => absurd hb (fun h => h.elim (no hl e1) (no8 (by omega) e2))) (fun l k hl hk e1 e2 => absurd hb (fun h => h.elim (no hl e1) (no8 (by omega) e2)))
  · refine ke_Y _ _ (fun hb => absurd hb (fun h => h.elim (no hl e1) (no8 (by omega) e2))) (fun l' k' hl' hk' e1' e2' => ?_) (fun l' k' hl' hk' e1' e2' => ?_)
    · cases inj (by omega) (by omega) e1 e1'
      cases inj (by omega) (by omega) e2 e2'
      rw [← d6 l hl k hk]; exact h _
    · have := inj (by omega) (by omega) e2 e2'
      omega
  · refine ke_Y _ _ (fun hb => absurd hb (fun h => h.elim (no hl e1) (no8 (by omega) e2))) (fun l' k' hl' hk' e1' e2' => ?_) (fun l' k' hl' hk' e1' e2' => ?_)
    · have := inj (by omega) (by omega) e2 e2'
      omega
    · have := inj (by omega) (by omega) e2 e2'
      cases (show k = k' by omega)
      rw [← d8 k hk]; exact h _
theorem g_state {Q : Int32 → Int32 → Prop} (h : ∀ r r', Q r r') (v1 : Int32) : wpX_state (fun r => wpY_state (fun r' => Q r r') v v1) u v1 := by
  obtain ⟨f_lines, f_studied, f_wrong, f_wrongAt, f_brief, f_on, f_dropped, f_steps, f_nextLine, f_repeats, a_kinds, a_firsts, a_seconds, a_thirds, a_inputs, a_home, a_depth, a_closer, a_mate, a_operands, a_varies, a_parted, a_variableVaries, a_same, a_fixed, a_worth, a_needed, a_variableNeeded, a_values, a_variables, a_outputs, a_cells, a_whole, a_waiting⟩ := u
  obtain ⟨yf_lines, yf_known, yf_wrong, yf_place, yf_blocks, yf_steps, yf_dropped, yf_on, yf_next, yf_again, yf_depth, ya_ops, ya_as, ya_bs, ya_cs, ya_blockOf, ya_opener, ya_around, ya_other, ya_end, ya_open, ya_varied, ya_loose, ya_variedVariable, ya_stands, ya_number, ya_isConst, ya_needed, ya_inputs, ya_values, ya_variables, ya_cells, ya_outs, ya_was, ya_rest, ya_line⟩ := v
  refine sa_X _ (fun _ => ?_) (fun _ => ?_) (fun _ => ?_) (fun _ => ?_) (fun _ => ?_) (fun _ => ?_) <;> exact sa_Y _ (fun _ => h _ _) (fun _ => h _ _) (fun _ => h _ _) (fun _ => h _ _) (fun _ => h _ _) (fun _ => h _ _)
end
end
section
section
theorem ez_23 (x : Int32) : 2 < x ↔ 3 ≤ x := by
  rw [Int32.lt_iff_toInt_lt, Int32.le_iff_toInt_le]
  have : (2 : Int32).toInt = 2 := by decide
  have : (3 : Int32).toInt = 3 := by decide
  omega
theorem rl_w : ∀ c, c < 4 → c ≠ 0 → (¬ nI c = 0 ∧ ¬ nI c = 4 ∧ ¬ nI c ≤ 0 ∧ nI c < 4 ∧ ¬ 4 ≤ nI c) := by decide +kernel
theorem rl_lt {x : Int32} {n : Nat} (hn : n < 2 ^ 31) (h : nI n ≤ x) : ¬ x < 0 := by
  rw [Int32.lt_iff_toInt_lt, Int32.toInt_zero]
  rw [Int32.le_iff_toInt_le, nI_toInt hn] at h
  omega
end
section
variable {K : Nat → Nat} {n : Nat}
variable {f_lines f_known f_wrong f_place f_blocks f_steps f_dropped f_on f_next f_again f_depth : Int32} {a_ops a_as a_bs a_cs a_blockOf a_opener a_around a_other a_end a_open a_varied a_loose a_variedVariable a_stands a_number a_isConst a_needed a_inputs a_values a_variables a_cells a_outs a_was a_rest a_line : Nat → Int32}
theorem ly_68 (hn : n ≤ 48) (hg : sc_good K n) (hA : ∀ j, j < n → (K j = 19 ∨ K j = 20 ∨ K j = 22) → a_around (sc_cnt K (j + 1)) = nI (sc_cnt K (sc_hd (sc_lf K j)))) {post : Int32 → SY → Prop} {x1 x2 : Int32} :
    ∀ (l : List (Nat × Nat)) (j c : Nat), j ≤ n → sc_fr K j = l → (((x2 = 0 → (vp_in x1 48 ∧ ((((a_varied x1.toNatClampNeg) = 0 → (post 0 (f_lines, f_known, f_wrong, f_place, f_blocks, f_steps, f_dropped, f_on, f_next, f_again, f_depth, a_ops, a_as, a_bs, a_cs, a_blockOf, a_opener, a_around, a_other, a_end, a_open, a_varied, a_loose, a_variedVariable, a_stands, a_number, a_isConst, a_needed, a_inputs, a_values, a_variables, a_cells, a_outs, a_was, a_rest, a_line))) ∧ (¬ (a_varied x1.toNatClampNeg) = 0 → (post 1 (f_lines, f_known, f_wrong, f_place, f_blocks, f_steps, f_dropped, f_on, f_next, f_again, f_depth, a_ops, a_as, a_bs, a_cs, a_blockOf, a_opener, a_around, a_other, a_end, a_open, a_varied, a_loose, a_variedVariable, a_stands, a_number, a_isConst, a_needed, a_inputs, a_values, a_variables, a_cells, a_outs, a_was, a_rest, a_line))))))) ∧ (¬ x2 = 0 → (((x2 = 2 → (post (nI (c + l.length)) (f_lines, f_known, f_wrong, f_place, f_blocks, f_steps, f_dropped, f_on, f_next, f_again, f_depth, a_ops, a_as, a_bs, a_cs, a_blockOf, a_opener, a_around, a_other, a_end, a_open, a_varied, a_loose, a_variedVariable, a_stands, a_number, a_isConst, a_needed, a_inputs, a_values, a_variables, a_cells, a_outs, a_was, a_rest, a_line))) ∧ (¬ x2 = 2 → (vp_in x1 49 ∧ (vp_in (a_blockOf x1.toNatClampNeg) 97 ∧ ((((a_loose (a_blockOf x1.toNatClampNeg).toNatClampNeg) = 0 → (post 0 (f_lines, f_known, f_wrong, f_place, f_blocks, f_steps, f_dropped, f_on, f_next, f_again, f_depth, a_ops, a_as, a_bs, a_cs, a_blockOf, a_opener, a_around, a_other, a_end, a_open, a_varied, a_loose, a_variedVariable, a_stands, a_number, a_isConst, a_needed, a_inputs, a_values, a_variables, a_cells, a_outs, a_was, a_rest, a_line))) ∧ (¬ (a_loose (a_blockOf x1.toNatClampNeg).toNatClampNeg) = 0 → (post 1 (f_lines, f_known, f_wrong, f_place, f_blocks, f_steps, f_dropped, f_on, f_next, f_again, f_depth, a_ops, a_as, a_bs, a_cs, a_blockOf, a_opener, a_around, a_other, a_end, a_open, a_varied, a_loose, a_variedVariable, a_stands, a_number, a_isConst, a_needed, a_inputs, a_values, a_variables, a_cells, a_outs, a_was, a_rest, a_line))))))))))))) → ∀ d, l.length < d → wY_lanes_68 post x1 x2 f_lines f_known f_wrong f_place f_blocks f_steps f_dropped f_on f_next f_again f_depth a_ops a_as a_bs a_cs a_blockOf a_opener a_around a_other a_end a_open a_varied a_loose a_variedVariable a_stands a_number a_isConst a_needed a_inputs a_values a_variables a_cells a_outs a_was a_rest a_line d (nI c) (nI (sc_cnt K (sc_hd l))) := by
  intro l
  induction l with
  | nil =>
    intro j c hj e h d hd
    obtain ⟨d, rfl⟩ : ∃ e, d = e + 1 := ⟨d - 1, by simp at hd; omega⟩
    exact br_t (show nI 0 ≤ 0 by decide) h
  | cons f r ih =>
    obtain ⟨b, m⟩ := f
    intro j c hj e h d hd
    have T := sc_top j (sc_good_le hg hj) _ _ _ e
    simp only [List.length_cons] at hd
    obtain ⟨d, rfl⟩ : ∃ e, d = e + 1 := ⟨d - 1, by omega⟩
    have tb : b ≤ n := by have := T.2.1; omega
    have tb1 := T.1
    have tm := T.2.2.1
    obtain ⟨b', rfl⟩ : ∃ e, b = e + 1 := ⟨b - 1, by omega⟩
    have hop : K b' = 19 ∨ K b' = 20 ∨ K b' = 22 := T.2.2.2.2.2.2.2.1
    have har := hA b' (by omega) hop
    have hlf : sc_lf K b' = r := T.2.2.2.2.1
    rw [hlf] at har
    have hcnt := sc_cnt_op hop
    have hle := sc_cnt_le (K := K) (b' + 1)
    rw [sc_hd_cons]
    refine br_f (fun h' => ?_) (nm_r (nI_1 c) ⟨vp_in_nI (by omega) (by omega), nm_c (nI_clamp (by omega)) har (ih m (c + 1) (by omega) T.2.2.2.2.2.1 ?_ d (by omega))⟩)
    · exact nI_ge (a := 0) (b := sc_cnt K (b' + 1)) (by omega) (by omega) h'
    · rw [show c + 1 + r.length = c + (r.length + 1) by omega]
      exact h
theorem ly_31 (hn : n ≤ 48) (hK : ∀ j, j < n → a_ops j = nI (K j) ∧ K j ≤ 25) (hg : sc_good K n) (hA : ys_A K n a_blockOf a_opener a_around a_other a_end) {post : Int32 → SY → Prop} {j : Nat} (hj : j < n) {p1 : Int32}
    (am : (p1 < 0 ∨ 2 < p1) → post (-1) (f_lines, f_known, f_wrong, f_place, f_blocks, f_steps, f_dropped, f_on, f_next, f_again, f_depth, a_ops, a_as, a_bs, a_cs, a_blockOf, a_opener, a_around, a_other, a_end, a_open, a_varied, a_loose, a_variedVariable, a_stands, a_number, a_isConst, a_needed, a_inputs, a_values, a_variables, a_cells, a_outs, a_was, a_rest, a_line)) (a0n : p1 = 0 → ¬ K j ≤ 16 → post (-1) (f_lines, f_known, f_wrong, f_place, f_blocks, f_steps, f_dropped, f_on, f_next, f_again, f_depth, a_ops, a_as, a_bs, a_cs, a_blockOf, a_opener, a_around, a_other, a_end, a_open, a_varied, a_loose, a_variedVariable, a_stands, a_number, a_isConst, a_needed, a_inputs, a_values, a_variables, a_cells, a_outs, a_was, a_rest, a_line)) (a0 : p1 = 0 → K j ≤ 16 → ((a_varied j = 0 → post 0 (f_lines, f_known, f_wrong, f_place, f_blocks, f_steps, f_dropped, f_on, f_next, f_again, f_depth, a_ops, a_as, a_bs, a_cs, a_blockOf, a_opener, a_around, a_other, a_end, a_open, a_varied, a_loose, a_variedVariable, a_stands, a_number, a_isConst, a_needed, a_inputs, a_values, a_variables, a_cells, a_outs, a_was, a_rest, a_line)) ∧ (¬ a_varied j = 0 → post 1 (f_lines, f_known, f_wrong, f_place, f_blocks, f_steps, f_dropped, f_on, f_next, f_again, f_depth, a_ops, a_as, a_bs, a_cs, a_blockOf, a_opener, a_around, a_other, a_end, a_open, a_varied, a_loose, a_variedVariable, a_stands, a_number, a_isConst, a_needed, a_inputs, a_values, a_variables, a_cells, a_outs, a_was, a_rest, a_line))))
    (a1 : p1 = 1 → ((a_loose (sc_cnt K (sc_hd (sc_lf K j))) = 0 → post 0 (f_lines, f_known, f_wrong, f_place, f_blocks, f_steps, f_dropped, f_on, f_next, f_again, f_depth, a_ops, a_as, a_bs, a_cs, a_blockOf, a_opener, a_around, a_other, a_end, a_open, a_varied, a_loose, a_variedVariable, a_stands, a_number, a_isConst, a_needed, a_inputs, a_values, a_variables, a_cells, a_outs, a_was, a_rest, a_line)) ∧ (¬ a_loose (sc_cnt K (sc_hd (sc_lf K j))) = 0 → post 1 (f_lines, f_known, f_wrong, f_place, f_blocks, f_steps, f_dropped, f_on, f_next, f_again, f_depth, a_ops, a_as, a_bs, a_cs, a_blockOf, a_opener, a_around, a_other, a_end, a_open, a_varied, a_loose, a_variedVariable, a_stands, a_number, a_isConst, a_needed, a_inputs, a_values, a_variables, a_cells, a_outs, a_was, a_rest, a_line)))) (a2 : p1 = 2 → post (nI (sc_lf K j).length) (f_lines, f_known, f_wrong, f_place, f_blocks, f_steps, f_dropped, f_on, f_next, f_again, f_depth, a_ops, a_as, a_bs, a_cs, a_blockOf, a_opener, a_around, a_other, a_end, a_open, a_varied, a_loose, a_variedVariable, a_stands, a_number, a_isConst, a_needed, a_inputs, a_values, a_variables, a_cells, a_outs, a_was, a_rest, a_line)) : wY_lanes_31 post (nI j) p1 f_lines f_known f_wrong f_place f_blocks f_steps f_dropped f_on f_next f_again f_depth a_ops a_as a_bs a_cs a_blockOf a_opener a_around a_other a_end a_open a_varied a_loose a_variedVariable a_stands a_number a_isConst a_needed a_inputs a_values a_variables a_cells a_outs a_was a_rest a_line := by
  have cj : (nI j).toNatClampNeg = j := nI_clamp (by omega)
  have ij : vp_in (nI j) 48 := vp_in_nI (by omega) (by omega)
  have ij' : vp_in (nI j) 49 := vp_in_nI (by omega) (by omega)
  have gj : sc_good K (j + 1) := sc_good_le hg (by omega)
  have hb := (hA j hj).1
  have hle := sc_cnt_le (K := K) (sc_hd (sc_lf K j))
  have hhd := sc_hdl_le gj
  have kj := hK j hj
  obtain ⟨q, hq, eq⟩ := sc_lf_fr gj
  have len := sc_lf_len gj
  have lp : (((p1 = 0 → (vp_in (nI j) 48 ∧ ((((a_varied (nI j).toNatClampNeg) = 0 → (post 0 (f_lines, f_known, f_wrong, f_place, f_blocks, f_steps, f_dropped, f_on, f_next, f_again, f_depth, a_ops, a_as, a_bs, a_cs, a_blockOf, a_opener, a_around, a_other, a_end, a_open, a_varied, a_loose, a_variedVariable, a_stands, a_number, a_isConst, a_needed, a_inputs, a_values, a_variables, a_cells, a_outs, a_was, a_rest, a_line))) ∧ (¬ (a_varied (nI j).toNatClampNeg) = 0 → (post 1 (f_lines, f_known, f_wrong, f_place, f_blocks, f_steps, f_dropped, f_on, f_next, f_again, f_depth, a_ops, a_as, a_bs, a_cs, a_blockOf, a_opener, a_around, a_other, a_end, a_open, a_varied, a_loose, a_variedVariable, a_stands, a_number, a_isConst, a_needed, a_inputs, a_values, a_variables, a_cells, a_outs, a_was, a_rest, a_line))))))) ∧ (¬ p1 = 0 → (((p1 = 2 → (post (nI (0 + (sc_lf K j).length)) (f_lines, f_known, f_wrong, f_place, f_blocks, f_steps, f_dropped, f_on, f_next, f_again, f_depth, a_ops, a_as, a_bs, a_cs, a_blockOf, a_opener, a_around, a_other, a_end, a_open, a_varied, a_loose, a_variedVariable, a_stands, a_number, a_isConst, a_needed, a_inputs, a_values, a_variables, a_cells, a_outs, a_was, a_rest, a_line))) ∧ (¬ p1 = 2 → (vp_in (nI j) 49 ∧ (vp_in (a_blockOf (nI j).toNatClampNeg) 97 ∧ ((((a_loose (a_blockOf (nI j).toNatClampNeg).toNatClampNeg) = 0 → (post 0 (f_lines, f_known, f_wrong, f_place, f_blocks, f_steps, f_dropped, f_on, f_next, f_again, f_depth, a_ops, a_as, a_bs, a_cs, a_blockOf, a_opener, a_around, a_other, a_end, a_open, a_varied, a_loose, a_variedVariable, a_stands, a_number, a_isConst, a_needed, a_inputs, a_values, a_variables, a_cells, a_outs, a_was, a_rest, a_line))) ∧ (¬ (a_loose (a_blockOf (nI j).toNatClampNeg).toNatClampNeg) = 0 → (post 1 (f_lines, f_known, f_wrong, f_place, f_blocks, f_steps, f_dropped, f_on, f_next, f_again, f_depth, a_ops, a_as, a_bs, a_cs, a_blockOf, a_opener, a_around, a_other, a_end, a_open, a_varied, a_loose, a_variedVariable, a_stands, a_number, a_isConst, a_needed, a_inputs, a_values, a_variables, a_cells, a_outs, a_was, a_rest, a_line))))))))))))) → ∃ m, wY_lanes_68 post (nI j) p1 f_lines f_known f_wrong f_place f_blocks f_steps f_dropped f_on f_next f_again f_depth a_ops a_as a_bs a_cs a_blockOf a_opener a_around a_other a_end a_open a_varied a_loose a_variedVariable a_stands a_number a_isConst a_needed a_inputs a_values a_variables a_cells a_outs a_was a_rest a_line m 0 (nI (sc_cnt K (sc_hd (sc_lf K j)))) := fun h =>
    ⟨5, ly_68 (K := K) (n := n) hn hg (fun j hj ho => ((hA j hj).2.1 ho).1) (sc_lf K j) q 0 (by omega) eq h 5 (by omega)⟩
  rcases pk_ix p1 (show 3 < 2 ^ 31 by omega) with h | h | ⟨k, hk, rfl⟩
  · exact br_t h (am (Or.inl h))
  · exact br_f (rl_lt (by omega) h) (br_t ((ez_23 _).mpr h) (am (Or.inr ((ez_23 _).mpr h))))
  · have hk3 : k = 0 ∨ k = 1 ∨ k = 2 := by omega
    rcases hk3 with rfl | rfl | rfl
    · refine br_f (by decide) (br_f (by decide) (br_t rfl ⟨ij, ?_⟩))
      rw [cj, kj.1, hb]
      refine ys_gives kj.2 (fun h16 => br_f (by decide) ⟨ij', nm_e (lp ⟨fun _ => ⟨ij, ?_⟩, fun h => absurd rfl h⟩)⟩) (fun h16 => br_t rfl (a0n rfl h16))
      rw [cj]; exact a0 rfl h16
    · refine br_f (by decide) (br_f (by decide) (br_f (by decide) ⟨ij', nm_c cj hb (lp ⟨fun h => absurd h (by decide), fun _ => br_f (by decide) ⟨ij', ?_⟩⟩)⟩))
      rw [cj, hb, nI_clamp (by omega)]
      exact ⟨vp_in_nI (by omega) (by omega), a1 rfl⟩
    · refine br_f (by decide) (br_f (by decide) (br_f (by decide) ⟨ij', nm_c cj hb (lp ⟨fun h => absurd h (by decide), fun _ => br_t rfl ?_⟩)⟩))
      rw [Nat.zero_add]; exact a2 rfl
end
section
variable {u : SX} {v : SY}
theorem g_lanes {Q : Int32 → SX → Int32 → SY → Prop} (I : rl_R u v) (h : ∀ r u' v', rl_R u' v' → Q r u' r v') (v1 v2 : Int32) : wpX_lanes (fun r u' => wpY_lanes (fun r' v' => Q r u' r' v') v v1 v2) u v1 v2 := by
  obtain ⟨f_lines, f_studied, f_wrong, f_wrongAt, f_brief, f_on, f_dropped, f_steps, f_nextLine, f_repeats, a_kinds, a_firsts, a_seconds, a_thirds, a_inputs, a_home, a_depth, a_closer, a_mate, a_operands, a_varies, a_parted, a_variableVaries, a_same, a_fixed, a_worth, a_needed, a_variableNeeded, a_values, a_variables, a_outputs, a_cells, a_whole, a_waiting⟩ := u
  obtain ⟨yf_lines, yf_known, yf_wrong, yf_place, yf_blocks, yf_steps, yf_dropped, yf_on, yf_next, yf_again, yf_depth, ya_ops, ya_as, ya_bs, ya_cs, ya_blockOf, ya_opener, ya_around, ya_other, ya_end, ya_open, ya_varied, ya_loose, ya_variedVariable, ya_stands, ya_number, ya_isConst, ya_needed, ya_inputs, ya_values, ya_variables, ya_cells, ya_outs, ya_was, ya_rest, ya_line⟩ := v
  unfold wpX_lanes wpY_lanes
  refine rl_study I (fun K n u' hx hY => ?_)
  obtain ⟨zf_lines, zf_studied, zf_wrong, zf_wrongAt, zf_brief, zf_on, zf_dropped, zf_steps, zf_nextLine, zf_repeats, za_kinds, za_firsts, za_seconds, za_thirds, za_inputs, za_home, za_depth, za_closer, za_mate, za_operands, za_varies, za_parted, za_variableVaries, za_same, za_fixed, za_worth, za_needed, za_variableNeeded, za_values, za_variables, za_outputs, za_cells, za_whole, za_waiting⟩ := u'
  have hx' := hx
  obtain ⟨hW, el, es, hst⟩ := hx'
  have hn := hW.1
  rcases pk_ix v1 (show n < 2 ^ 31 by omega) with h0 | h1 | ⟨j, hj, rfl⟩
  · refine br_t h0 (hY _ (fun v' hy => ?_))
    obtain ⟨wf_lines, wf_known, wf_wrong, wf_place, wf_blocks, wf_steps, wf_dropped, wf_on, wf_next, wf_again, wf_depth, wa_ops, wa_as, wa_bs, wa_cs, wa_blockOf, wa_opener, wa_around, wa_other, wa_end, wa_open, wa_varied, wa_loose, wa_variedVariable, wa_stands, wa_number, wa_isConst, wa_needed, wa_inputs, wa_values, wa_variables, wa_cells, wa_outs, wa_was, wa_rest, wa_line⟩ := v'
    exact br_t h0 (h _ _ _ (rl_SR hx hy))
  · have h0 := rl_lt (by omega) h1
    refine br_f h0 (br_t (by rw [el]; exact h1) (hY _ (fun v' hy => ?_)))
    obtain ⟨wf_lines, wf_known, wf_wrong, wf_place, wf_blocks, wf_steps, wf_dropped, wf_on, wf_next, wf_again, wf_depth, wa_ops, wa_as, wa_bs, wa_cs, wa_blockOf, wa_opener, wa_around, wa_other, wa_end, wa_open, wa_varied, wa_loose, wa_variedVariable, wa_stands, wa_number, wa_isConst, wa_needed, wa_inputs, wa_values, wa_variables, wa_cells, wa_outs, wa_was, wa_rest, wa_line⟩ := v'
    have el' : wf_lines = nI n := hy.1
    exact br_f h0 (br_t (by rw [el']; exact h1) (h _ _ _ (rl_SR hx hy)))
  · have h0 : ¬ nI j < 0 := nI_pos (by omega)
    have h1 : ¬ zf_lines ≤ nI j := by rw [el]; exact nI_ge hj (by omega)
    have h2 : ∀ {x : Int32}, x = nI n → ¬ x ≤ nI j := fun e => by rw [e]; exact nI_ge hj (by omega)
    refine br_f h0 (br_f h1 ?_)
    rcases hst with hb | hg
    · obtain ⟨c, c0, c4, ec⟩ := pg_bad_w hb
      obtain ⟨w1, w2, w3, w4, w5⟩ := rl_w c c4 c0
      refine br_f (by rw [ec]; exact w1) (br_f (by rw [ec]; exact w2) (br_t rfl (hY _ (fun v' hy => ?_))))
      obtain ⟨wf_lines, wf_known, wf_wrong, wf_place, wf_blocks, wf_steps, wf_dropped, wf_on, wf_next, wf_again, wf_depth, wa_ops, wa_as, wa_bs, wa_cs, wa_blockOf, wa_opener, wa_around, wa_other, wa_end, wa_open, wa_varied, wa_loose, wa_variedVariable, wa_stands, wa_number, wa_isConst, wa_needed, wa_inputs, wa_values, wa_variables, wa_cells, wa_outs, wa_was, wa_rest, wa_line⟩ := v'
      have ew : wf_wrong = zf_wrong := hy.2.2.1
      rw [ec] at ew
      exact br_f h0 (br_f (h2 hy.1) (br_f (by rw [ew]; exact w3) (br_t (by rw [ew]; exact w4) (h _ _ _ (rl_SR hx hy)))))
    · have hw : zf_wrong = 0 ∨ zf_wrong = 4 := by
        rcases hg.2.2.2.2.2.1 with ⟨_, _, _, _, e, _⟩ | ⟨_, e, _⟩
        · exact Or.inr e
        · exact Or.inl e
      have hgd := sc_ok_good hg.1
      have gj : sc_good K (j + 1) := sc_good_le hgd (by omega)
      have hA := hg.2.2.1 j hj
      have hhd := sc_hdl_le gj
      have hop := sc_hdl_op gj
      have cj : (nI j).toNatClampNeg = j := nI_clamp (by omega)
      have ij : vp_in (nI j) 48 := vp_in_nI (by omega) (by omega)
      have shaped : ∀ P : Int32 → Prop, P 1 → wpX_isShaped P (zf_lines, zf_studied, zf_wrong, zf_wrongAt, zf_brief, zf_on, zf_dropped, zf_steps, zf_nextLine, zf_repeats, za_kinds, za_firsts, za_seconds, za_thirds, za_inputs, za_home, za_depth, za_closer, za_mate, za_operands, za_varies, za_parted, za_variableVaries, za_same, za_fixed, za_worth, za_needed, za_variableNeeded, za_values, za_variables, za_outputs, za_cells, za_whole, za_waiting) := fun P hp => by
        rcases hw with e | e
        · exact br_t e hp
        · exact br_f (by rw [e]; decide) (br_t e hp)
      have toY : ∀ (post : Int32 → SY → Prop) {wf_lines wf_known wf_wrong wf_place wf_blocks wf_steps wf_dropped wf_on wf_next wf_again wf_depth : Int32} {wa_ops wa_as wa_bs wa_cs wa_blockOf wa_opener wa_around wa_other wa_end wa_open wa_varied wa_loose wa_variedVariable wa_stands wa_number wa_isConst wa_needed wa_inputs wa_values wa_variables wa_cells wa_outs wa_was wa_rest wa_line : Nat → Int32}, ys_S K n (zf_lines, zf_studied, zf_wrong, zf_wrongAt, zf_brief, zf_on, zf_dropped, zf_steps, zf_nextLine, zf_repeats, za_kinds, za_firsts, za_seconds, za_thirds, za_inputs, za_home, za_depth, za_closer, za_mate, za_operands, za_varies, za_parted, za_variableVaries, za_same, za_fixed, za_worth, za_needed, za_variableNeeded, za_values, za_variables, za_outputs, za_cells, za_whole, za_waiting) (wf_lines, wf_known, wf_wrong, wf_place, wf_blocks, wf_steps, wf_dropped, wf_on, wf_next, wf_again, wf_depth, wa_ops, wa_as, wa_bs, wa_cs, wa_blockOf, wa_opener, wa_around, wa_other, wa_end, wa_open, wa_varied, wa_loose, wa_variedVariable, wa_stands, wa_number, wa_isConst, wa_needed, wa_inputs, wa_values, wa_variables, wa_cells, wa_outs, wa_was, wa_rest, wa_line) → wY_lanes_31 post (nI j) v2 wf_lines wf_known wf_wrong wf_place wf_blocks wf_steps wf_dropped wf_on wf_next wf_again wf_depth wa_ops wa_as wa_bs wa_cs wa_blockOf wa_opener wa_around wa_other wa_end wa_open wa_varied wa_loose wa_variedVariable wa_stands wa_number wa_isConst wa_needed wa_inputs wa_values wa_variables wa_cells wa_outs wa_was wa_rest wa_line → ((nI j < 0 → post (-1) (wf_lines, wf_known, wf_wrong, wf_place, wf_blocks, wf_steps, wf_dropped, wf_on, wf_next, wf_again, wf_depth, wa_ops, wa_as, wa_bs, wa_cs, wa_blockOf, wa_opener, wa_around, wa_other, wa_end, wa_open, wa_varied, wa_loose, wa_variedVariable, wa_stands, wa_number, wa_isConst, wa_needed, wa_inputs, wa_values, wa_variables, wa_cells, wa_outs, wa_was, wa_rest, wa_line)) ∧ (¬ nI j < 0 → ((wf_lines ≤ nI j → post (-1) (wf_lines, wf_known, wf_wrong, wf_place, wf_blocks, wf_steps, wf_dropped, wf_on, wf_next, wf_again, wf_depth, wa_ops, wa_as, wa_bs, wa_cs, wa_blockOf, wa_opener, wa_around, wa_other, wa_end, wa_open, wa_varied, wa_loose, wa_variedVariable, wa_stands, wa_number, wa_isConst, wa_needed, wa_inputs, wa_values, wa_variables, wa_cells, wa_outs, wa_was, wa_rest, wa_line)) ∧ (¬ wf_lines ≤ nI j → ((wf_wrong ≤ 0 → wY_lanes_31 post (nI j) v2 wf_lines wf_known wf_wrong wf_place wf_blocks wf_steps wf_dropped wf_on wf_next wf_again wf_depth wa_ops wa_as wa_bs wa_cs wa_blockOf wa_opener wa_around wa_other wa_end wa_open wa_varied wa_loose wa_variedVariable wa_stands wa_number wa_isConst wa_needed wa_inputs wa_values wa_variables wa_cells wa_outs wa_was wa_rest wa_line) ∧ (¬ wf_wrong ≤ 0 → ((wf_wrong < 4 → post (-1) (wf_lines, wf_known, wf_wrong, wf_place, wf_blocks, wf_steps, wf_dropped, wf_on, wf_next, wf_again, wf_depth, wa_ops, wa_as, wa_bs, wa_cs, wa_blockOf, wa_opener, wa_around, wa_other, wa_end, wa_open, wa_varied, wa_loose, wa_variedVariable, wa_stands, wa_number, wa_isConst, wa_needed, wa_inputs, wa_values, wa_variables, wa_cells, wa_outs, wa_was, wa_rest, wa_line)) ∧ (¬ wf_wrong < 4 → wY_lanes_31 post (nI j) v2 wf_lines wf_known wf_wrong wf_place wf_blocks wf_steps wf_dropped wf_on wf_next wf_again wf_depth wa_ops wa_as wa_bs wa_cs wa_blockOf wa_opener wa_around wa_other wa_end wa_open wa_varied wa_loose wa_variedVariable wa_stands wa_number wa_isConst wa_needed wa_inputs wa_values wa_variables wa_cells wa_outs wa_was wa_rest wa_line)))))))) := by
        intro post wf_lines wf_known wf_wrong wf_place wf_blocks wf_steps wf_dropped wf_on wf_next wf_again wf_depth wa_ops wa_as wa_bs wa_cs wa_blockOf wa_opener wa_around wa_other wa_end wa_open wa_varied wa_loose wa_variedVariable wa_stands wa_number wa_isConst wa_needed wa_inputs wa_values wa_variables wa_cells wa_outs wa_was wa_rest wa_line hy hp
        have ew : wf_wrong = zf_wrong := hy.2.2.1
        refine br_f h0 (br_f (h2 hy.1) ?_)
        rcases hw with e | e
        · exact br_t (by rw [ew, e]; decide) hp
        · exact br_f (by rw [ew, e]; decide) (br_f (by rw [ew, e]; decide) hp)
      have good : ∀ {wf_lines wf_known wf_wrong wf_place wf_blocks wf_steps wf_dropped wf_on wf_next wf_again wf_depth : Int32} {wa_ops wa_as wa_bs wa_cs wa_blockOf wa_opener wa_around wa_other wa_end wa_open wa_varied wa_loose wa_variedVariable wa_stands wa_number wa_isConst wa_needed wa_inputs wa_values wa_variables wa_cells wa_outs wa_was wa_rest wa_line : Nat → Int32}, ys_S K n (zf_lines, zf_studied, zf_wrong, zf_wrongAt, zf_brief, zf_on, zf_dropped, zf_steps, zf_nextLine, zf_repeats, za_kinds, za_firsts, za_seconds, za_thirds, za_inputs, za_home, za_depth, za_closer, za_mate, za_operands, za_varies, za_parted, za_variableVaries, za_same, za_fixed, za_worth, za_needed, za_variableNeeded, za_values, za_variables, za_outputs, za_cells, za_whole, za_waiting) (wf_lines, wf_known, wf_wrong, wf_place, wf_blocks, wf_steps, wf_dropped, wf_on, wf_next, wf_again, wf_depth, wa_ops, wa_as, wa_bs, wa_cs, wa_blockOf, wa_opener, wa_around, wa_other, wa_end, wa_open, wa_varied, wa_loose, wa_variedVariable, wa_stands, wa_number, wa_isConst, wa_needed, wa_inputs, wa_values, wa_variables, wa_cells, wa_outs, wa_was, wa_rest, wa_line) → (∀ j, j < n → wa_ops j = nI (K j) ∧ K j ≤ 25) ∧ ys_A K n wa_blockOf wa_opener wa_around wa_other wa_end ∧ (∀ i, i < n → (za_varies i ≠ 0 ↔ wa_varied i ≠ 0)) ∧ (∀ b, b ≤ n → (b = 0 ∨ sc_op (K (b - 1))) → (za_parted b ≠ 0 ↔ wa_loose (sc_cnt K b) ≠ 0)) := by
        intro wf_lines wf_known wf_wrong wf_place wf_blocks wf_steps wf_dropped wf_on wf_next wf_again wf_depth wa_ops wa_as wa_bs wa_cs wa_blockOf wa_opener wa_around wa_other wa_end wa_open wa_varied wa_loose wa_variedVariable wa_stands wa_number wa_isConst wa_needed wa_inputs wa_values wa_variables wa_cells wa_outs wa_was wa_rest wa_line hy
        obtain ⟨_, _, _, _, ⟨e1, _⟩, hd, _⟩ := hy
        rcases hd with hb | ⟨_, hg'⟩
        · exact (pg_bad_good hb hg.1 hg.2.1).elim
        · obtain ⟨_, v1, v2, _⟩ := pg_join hn hg hg'
          exact ⟨by rw [e1]; exact hW.2.1, hg'.2.2.1, v1, v2⟩
      refine shaped _ (br_f (by decide) ?_)
      rcases pk_ix v2 (show 3 < 2 ^ 31 by omega) with p0 | p3 | ⟨k, hk, rfl⟩
      · refine br_t p0 (hY _ (fun v' hy => ?_))
        obtain ⟨wf_lines, wf_known, wf_wrong, wf_place, wf_blocks, wf_steps, wf_dropped, wf_on, wf_next, wf_again, wf_depth, wa_ops, wa_as, wa_bs, wa_cs, wa_blockOf, wa_opener, wa_around, wa_other, wa_end, wa_open, wa_varied, wa_loose, wa_variedVariable, wa_stands, wa_number, wa_isConst, wa_needed, wa_inputs, wa_values, wa_variables, wa_cells, wa_outs, wa_was, wa_rest, wa_line⟩ := v'
        obtain ⟨gK, gA, gv, gl⟩ := good hy
        exact toY _ hy (ly_31 hn gK hgd gA hj (fun _ => h _ _ _ (rl_SR hx hy)) (fun e => absurd p0 (by rw [e]; decide)) (fun e => absurd p0 (by rw [e]; decide)) (fun e => absurd p0 (by rw [e]; decide)) (fun e => absurd p0 (by rw [e]; decide)))
      · refine br_f (rl_lt (by omega) p3) (br_t ((ez_23 _).mpr p3) (hY _ (fun v' hy => ?_)))
        obtain ⟨wf_lines, wf_known, wf_wrong, wf_place, wf_blocks, wf_steps, wf_dropped, wf_on, wf_next, wf_again, wf_depth, wa_ops, wa_as, wa_bs, wa_cs, wa_blockOf, wa_opener, wa_around, wa_other, wa_end, wa_open, wa_varied, wa_loose, wa_variedVariable, wa_stands, wa_number, wa_isConst, wa_needed, wa_inputs, wa_values, wa_variables, wa_cells, wa_outs, wa_was, wa_rest, wa_line⟩ := v'
        obtain ⟨gK, gA, gv, gl⟩ := good hy
        exact toY _ hy (ly_31 hn gK hgd gA hj (fun _ => h _ _ _ (rl_SR hx hy)) (fun e => absurd p3 (by rw [e]; decide)) (fun e => absurd p3 (by rw [e]; decide)) (fun e => absurd p3 (by rw [e]; decide)) (fun e => absurd p3 (by rw [e]; decide)))
      · have hk3 : k = 0 ∨ k = 1 ∨ k = 2 := by omega
        rcases hk3 with rfl | rfl | rfl
        · refine br_f (by decide) (br_f (by decide) (br_t rfl (xs_gives (K := K) (n := n) hW.2.1 hn hj (fun h16 => br_f (by decide) ⟨ij, ?_⟩) (fun h16 => br_t rfl (hY _ (fun v' hy => ?_))))))
          · rw [cj]
            refine br_c (fun hz => hY _ (fun v' hy => ?_)) (fun hz => hY _ (fun v' hy => ?_))
            · obtain ⟨wf_lines, wf_known, wf_wrong, wf_place, wf_blocks, wf_steps, wf_dropped, wf_on, wf_next, wf_again, wf_depth, wa_ops, wa_as, wa_bs, wa_cs, wa_blockOf, wa_opener, wa_around, wa_other, wa_end, wa_open, wa_varied, wa_loose, wa_variedVariable, wa_stands, wa_number, wa_isConst, wa_needed, wa_inputs, wa_values, wa_variables, wa_cells, wa_outs, wa_was, wa_rest, wa_line⟩ := v'
              obtain ⟨gK, gA, gv, gl⟩ := good hy
              refine toY _ hy (ly_31 hn gK hgd gA hj (fun e => absurd e (by decide)) (fun _ e => absurd h16 e) (fun _ _ => br_t ?_ (h _ _ _ (rl_SR hx hy))) (fun e => absurd e (by decide)) (fun e => absurd e (by decide)))
              exact Classical.byContradiction (fun h' => ((gv j hj).mpr h') hz)
            · obtain ⟨wf_lines, wf_known, wf_wrong, wf_place, wf_blocks, wf_steps, wf_dropped, wf_on, wf_next, wf_again, wf_depth, wa_ops, wa_as, wa_bs, wa_cs, wa_blockOf, wa_opener, wa_around, wa_other, wa_end, wa_open, wa_varied, wa_loose, wa_variedVariable, wa_stands, wa_number, wa_isConst, wa_needed, wa_inputs, wa_values, wa_variables, wa_cells, wa_outs, wa_was, wa_rest, wa_line⟩ := v'
              obtain ⟨gK, gA, gv, gl⟩ := good hy
              exact toY _ hy (ly_31 hn gK hgd gA hj (fun e => absurd e (by decide)) (fun _ e => absurd h16 e) (fun _ _ => br_f ((gv j hj).mp hz) (h _ _ _ (rl_SR hx hy))) (fun e => absurd e (by decide)) (fun e => absurd e (by decide)))
          · obtain ⟨wf_lines, wf_known, wf_wrong, wf_place, wf_blocks, wf_steps, wf_dropped, wf_on, wf_next, wf_again, wf_depth, wa_ops, wa_as, wa_bs, wa_cs, wa_blockOf, wa_opener, wa_around, wa_other, wa_end, wa_open, wa_varied, wa_loose, wa_variedVariable, wa_stands, wa_number, wa_isConst, wa_needed, wa_inputs, wa_values, wa_variables, wa_cells, wa_outs, wa_was, wa_rest, wa_line⟩ := v'
            obtain ⟨gK, gA, gv, gl⟩ := good hy
            exact toY _ hy (ly_31 hn gK hgd gA hj (fun e => absurd e (by decide)) (fun _ _ => h _ _ _ (rl_SR hx hy)) (fun _ e => absurd e h16) (fun e => absurd e (by decide)) (fun e => absurd e (by decide)))
        · refine br_f (by decide) (br_f (by decide) (br_f (by decide) (br_t rfl ⟨ij, ?_⟩)))
          rw [cj, hA.1, nI_clamp (by omega)]
          refine ⟨vp_in_nI (by omega) (by omega), br_c (fun hz => hY _ (fun v' hy => ?_)) (fun hz => hY _ (fun v' hy => ?_))⟩
          · obtain ⟨wf_lines, wf_known, wf_wrong, wf_place, wf_blocks, wf_steps, wf_dropped, wf_on, wf_next, wf_again, wf_depth, wa_ops, wa_as, wa_bs, wa_cs, wa_blockOf, wa_opener, wa_around, wa_other, wa_end, wa_open, wa_varied, wa_loose, wa_variedVariable, wa_stands, wa_number, wa_isConst, wa_needed, wa_inputs, wa_values, wa_variables, wa_cells, wa_outs, wa_was, wa_rest, wa_line⟩ := v'
            obtain ⟨gK, gA, gv, gl⟩ := good hy
            refine toY _ hy (ly_31 hn gK hgd gA hj (fun e => absurd e (by decide)) (fun e => absurd e (by decide)) (fun e => absurd e (by decide)) (fun _ => br_t ?_ (h _ _ _ (rl_SR hx hy))) (fun e => absurd e (by decide)))
            exact Classical.byContradiction (fun h' => ((gl _ (by omega) hop).mpr h') hz)
          · obtain ⟨wf_lines, wf_known, wf_wrong, wf_place, wf_blocks, wf_steps, wf_dropped, wf_on, wf_next, wf_again, wf_depth, wa_ops, wa_as, wa_bs, wa_cs, wa_blockOf, wa_opener, wa_around, wa_other, wa_end, wa_open, wa_varied, wa_loose, wa_variedVariable, wa_stands, wa_number, wa_isConst, wa_needed, wa_inputs, wa_values, wa_variables, wa_cells, wa_outs, wa_was, wa_rest, wa_line⟩ := v'
            obtain ⟨gK, gA, gv, gl⟩ := good hy
            exact toY _ hy (ly_31 hn gK hgd gA hj (fun e => absurd e (by decide)) (fun e => absurd e (by decide)) (fun e => absurd e (by decide)) (fun _ => br_f ((gl _ (by omega) hop).mp hz) (h _ _ _ (rl_SR hx hy))) (fun e => absurd e (by decide)))
        · refine br_f (by decide) (br_f (by decide) (br_f (by decide) (br_f (by decide) (br_t rfl ⟨ij, ?_⟩))))
          rw [cj, hA.2.1]
          refine hY _ (fun v' hy => ?_)
          obtain ⟨wf_lines, wf_known, wf_wrong, wf_place, wf_blocks, wf_steps, wf_dropped, wf_on, wf_next, wf_again, wf_depth, wa_ops, wa_as, wa_bs, wa_cs, wa_blockOf, wa_opener, wa_around, wa_other, wa_end, wa_open, wa_varied, wa_loose, wa_variedVariable, wa_stands, wa_number, wa_isConst, wa_needed, wa_inputs, wa_values, wa_variables, wa_cells, wa_outs, wa_was, wa_rest, wa_line⟩ := v'
          obtain ⟨gK, gA, gv, gl⟩ := good hy
          exact toY _ hy (ly_31 hn gK hgd gA hj (fun e => absurd e (by decide)) (fun e => absurd e (by decide)) (fun e => absurd e (by decide)) (fun e => absurd e (by decide)) (fun _ => h _ _ _ (rl_SR hx hy)))
end
end
section
section
variable {u : SX} {v : SY}
theorem g_varied {Q : Int32 → SX → Int32 → SY → Prop} (I : rl_R u v) (h : ∀ r u' v', rl_R u' v' → Q r u' r v') (v1 : Int32) : wpX_varied (fun r u' => wpY_varied (fun r' v' => Q r u' r' v') v v1) u v1 := by
  obtain ⟨f_lines, f_studied, f_wrong, f_wrongAt, f_brief, f_on, f_dropped, f_steps, f_nextLine, f_repeats, a_kinds, a_firsts, a_seconds, a_thirds, a_inputs, a_home, a_depth, a_closer, a_mate, a_operands, a_varies, a_parted, a_variableVaries, a_same, a_fixed, a_worth, a_needed, a_variableNeeded, a_values, a_variables, a_outputs, a_cells, a_whole, a_waiting⟩ := u
  obtain ⟨yf_lines, yf_known, yf_wrong, yf_place, yf_blocks, yf_steps, yf_dropped, yf_on, yf_next, yf_again, yf_depth, ya_ops, ya_as, ya_bs, ya_cs, ya_blockOf, ya_opener, ya_around, ya_other, ya_end, ya_open, ya_varied, ya_loose, ya_variedVariable, ya_stands, ya_number, ya_isConst, ya_needed, ya_inputs, ya_values, ya_variables, ya_cells, ya_outs, ya_was, ya_rest, ya_line⟩ := v
  unfold wpX_varied wpY_varied
  refine rl_study I (fun K n u' hx hY => ?_)
  obtain ⟨zf_lines, zf_studied, zf_wrong, zf_wrongAt, zf_brief, zf_on, zf_dropped, zf_steps, zf_nextLine, zf_repeats, za_kinds, za_firsts, za_seconds, za_thirds, za_inputs, za_home, za_depth, za_closer, za_mate, za_operands, za_varies, za_parted, za_variableVaries, za_same, za_fixed, za_worth, za_needed, za_variableNeeded, za_values, za_variables, za_outputs, za_cells, za_whole, za_waiting⟩ := u'
  have hx' := hx
  obtain ⟨hW, el, es, hst⟩ := hx'
  have hn := hW.1
  refine ez_four (fun hb => br_t rfl (hY _ (fun v' hy => ?_))) (fun j hj ej => br_f (by decide) ?_)
  · obtain ⟨wf_lines, wf_known, wf_wrong, wf_place, wf_blocks, wf_steps, wf_dropped, wf_on, wf_next, wf_again, wf_depth, wa_ops, wa_as, wa_bs, wa_cs, wa_blockOf, wa_opener, wa_around, wa_other, wa_end, wa_open, wa_varied, wa_loose, wa_variedVariable, wa_stands, wa_number, wa_isConst, wa_needed, wa_inputs, wa_values, wa_variables, wa_cells, wa_outs, wa_was, wa_rest, wa_line⟩ := v'
    rcases hb with h0 | h4
    · exact br_t h0 (h _ _ _ (rl_SR hx hy))
    · exact br_f (rl_lt (n := 4) (by omega) h4) (br_t ((ez_34 _).mpr h4) (h _ _ _ (rl_SR hx hy)))
  · subst ej
    obtain ⟨j0, _, j3, _⟩ := ez_n4 hj
    have cj : (nI j).toNatClampNeg = j := nI_clamp (by omega)
    have ij : vp_in (nI j) 4 := vp_in_nI hj (by omega)
    rcases hst with hb | hg
    · obtain ⟨c, c0, c4, ec⟩ := pg_bad_w hb
      obtain ⟨w1, w2, w3, w4, w5⟩ := rl_w c c4 c0
      refine br_f (by rw [ec]; exact w1) (br_f (by rw [ec]; exact w2) (br_t rfl (hY _ (fun v' hy => ?_))))
      obtain ⟨wf_lines, wf_known, wf_wrong, wf_place, wf_blocks, wf_steps, wf_dropped, wf_on, wf_next, wf_again, wf_depth, wa_ops, wa_as, wa_bs, wa_cs, wa_blockOf, wa_opener, wa_around, wa_other, wa_end, wa_open, wa_varied, wa_loose, wa_variedVariable, wa_stands, wa_number, wa_isConst, wa_needed, wa_inputs, wa_values, wa_variables, wa_cells, wa_outs, wa_was, wa_rest, wa_line⟩ := v'
      have ew : wf_wrong = zf_wrong := hy.2.2.1
      rw [ec] at ew
      exact br_f j0 (br_f j3 (br_f (by rw [ew]; exact w3) (br_f (by rw [ew]; exact w5) (h _ _ _ (rl_SR hx hy)))))
    · have hw : zf_wrong = 0 ∨ zf_wrong = 4 := by
        rcases hg.2.2.2.2.2.1 with ⟨_, _, _, _, e, _⟩ | ⟨_, e, _⟩
        · exact Or.inr e
        · exact Or.inl e
      have shaped : ∀ P : Int32 → Prop, P 1 → wpX_isShaped P (zf_lines, zf_studied, zf_wrong, zf_wrongAt, zf_brief, zf_on, zf_dropped, zf_steps, zf_nextLine, zf_repeats, za_kinds, za_firsts, za_seconds, za_thirds, za_inputs, za_home, za_depth, za_closer, za_mate, za_operands, za_varies, za_parted, za_variableVaries, za_same, za_fixed, za_worth, za_needed, za_variableNeeded, za_values, za_variables, za_outputs, za_cells, za_whole, za_waiting) := fun P hp => by
        rcases hw with e | e
        · exact br_t e hp
        · exact br_f (by rw [e]; decide) (br_t e hp)
      have toY : ∀ (post : Int32 → SY → Prop) {wf_lines wf_known wf_wrong wf_place wf_blocks wf_steps wf_dropped wf_on wf_next wf_again wf_depth : Int32} {wa_ops wa_as wa_bs wa_cs wa_blockOf wa_opener wa_around wa_other wa_end wa_open wa_varied wa_loose wa_variedVariable wa_stands wa_number wa_isConst wa_needed wa_inputs wa_values wa_variables wa_cells wa_outs wa_was wa_rest wa_line : Nat → Int32}, ys_S K n (zf_lines, zf_studied, zf_wrong, zf_wrongAt, zf_brief, zf_on, zf_dropped, zf_steps, zf_nextLine, zf_repeats, za_kinds, za_firsts, za_seconds, za_thirds, za_inputs, za_home, za_depth, za_closer, za_mate, za_operands, za_varies, za_parted, za_variableVaries, za_same, za_fixed, za_worth, za_needed, za_variableNeeded, za_values, za_variables, za_outputs, za_cells, za_whole, za_waiting) (wf_lines, wf_known, wf_wrong, wf_place, wf_blocks, wf_steps, wf_dropped, wf_on, wf_next, wf_again, wf_depth, wa_ops, wa_as, wa_bs, wa_cs, wa_blockOf, wa_opener, wa_around, wa_other, wa_end, wa_open, wa_varied, wa_loose, wa_variedVariable, wa_stands, wa_number, wa_isConst, wa_needed, wa_inputs, wa_values, wa_variables, wa_cells, wa_outs, wa_was, wa_rest, wa_line) → wY_varied_32 post (nI j) wf_lines wf_known wf_wrong wf_place wf_blocks wf_steps wf_dropped wf_on wf_next wf_again wf_depth wa_ops wa_as wa_bs wa_cs wa_blockOf wa_opener wa_around wa_other wa_end wa_open wa_varied wa_loose wa_variedVariable wa_stands wa_number wa_isConst wa_needed wa_inputs wa_values wa_variables wa_cells wa_outs wa_was wa_rest wa_line → ((nI j < 0 → post (-1) (wf_lines, wf_known, wf_wrong, wf_place, wf_blocks, wf_steps, wf_dropped, wf_on, wf_next, wf_again, wf_depth, wa_ops, wa_as, wa_bs, wa_cs, wa_blockOf, wa_opener, wa_around, wa_other, wa_end, wa_open, wa_varied, wa_loose, wa_variedVariable, wa_stands, wa_number, wa_isConst, wa_needed, wa_inputs, wa_values, wa_variables, wa_cells, wa_outs, wa_was, wa_rest, wa_line)) ∧ (¬ nI j < 0 → ((3 < nI j → post (-1) (wf_lines, wf_known, wf_wrong, wf_place, wf_blocks, wf_steps, wf_dropped, wf_on, wf_next, wf_again, wf_depth, wa_ops, wa_as, wa_bs, wa_cs, wa_blockOf, wa_opener, wa_around, wa_other, wa_end, wa_open, wa_varied, wa_loose, wa_variedVariable, wa_stands, wa_number, wa_isConst, wa_needed, wa_inputs, wa_values, wa_variables, wa_cells, wa_outs, wa_was, wa_rest, wa_line)) ∧ (¬ 3 < nI j → ((wf_wrong ≤ 0 → wY_varied_32 post (nI j) wf_lines wf_known wf_wrong wf_place wf_blocks wf_steps wf_dropped wf_on wf_next wf_again wf_depth wa_ops wa_as wa_bs wa_cs wa_blockOf wa_opener wa_around wa_other wa_end wa_open wa_varied wa_loose wa_variedVariable wa_stands wa_number wa_isConst wa_needed wa_inputs wa_values wa_variables wa_cells wa_outs wa_was wa_rest wa_line) ∧ (¬ wf_wrong ≤ 0 → ((4 ≤ wf_wrong → wY_varied_32 post (nI j) wf_lines wf_known wf_wrong wf_place wf_blocks wf_steps wf_dropped wf_on wf_next wf_again wf_depth wa_ops wa_as wa_bs wa_cs wa_blockOf wa_opener wa_around wa_other wa_end wa_open wa_varied wa_loose wa_variedVariable wa_stands wa_number wa_isConst wa_needed wa_inputs wa_values wa_variables wa_cells wa_outs wa_was wa_rest wa_line) ∧ (¬ 4 ≤ wf_wrong → post (-1) (wf_lines, wf_known, wf_wrong, wf_place, wf_blocks, wf_steps, wf_dropped, wf_on, wf_next, wf_again, wf_depth, wa_ops, wa_as, wa_bs, wa_cs, wa_blockOf, wa_opener, wa_around, wa_other, wa_end, wa_open, wa_varied, wa_loose, wa_variedVariable, wa_stands, wa_number, wa_isConst, wa_needed, wa_inputs, wa_values, wa_variables, wa_cells, wa_outs, wa_was, wa_rest, wa_line))))))))) := by
        intro post wf_lines wf_known wf_wrong wf_place wf_blocks wf_steps wf_dropped wf_on wf_next wf_again wf_depth wa_ops wa_as wa_bs wa_cs wa_blockOf wa_opener wa_around wa_other wa_end wa_open wa_varied wa_loose wa_variedVariable wa_stands wa_number wa_isConst wa_needed wa_inputs wa_values wa_variables wa_cells wa_outs wa_was wa_rest wa_line hy hp
        have ew : wf_wrong = zf_wrong := hy.2.2.1
        refine br_f j0 (br_f j3 ?_)
        rcases hw with e | e
        · exact br_t (by rw [ew, e]; decide) hp
        · exact br_f (by rw [ew, e]; decide) (br_t (by rw [ew, e]; decide) hp)
      have good : ∀ {wf_lines wf_known wf_wrong wf_place wf_blocks wf_steps wf_dropped wf_on wf_next wf_again wf_depth : Int32} {wa_ops wa_as wa_bs wa_cs wa_blockOf wa_opener wa_around wa_other wa_end wa_open wa_varied wa_loose wa_variedVariable wa_stands wa_number wa_isConst wa_needed wa_inputs wa_values wa_variables wa_cells wa_outs wa_was wa_rest wa_line : Nat → Int32}, ys_S K n (zf_lines, zf_studied, zf_wrong, zf_wrongAt, zf_brief, zf_on, zf_dropped, zf_steps, zf_nextLine, zf_repeats, za_kinds, za_firsts, za_seconds, za_thirds, za_inputs, za_home, za_depth, za_closer, za_mate, za_operands, za_varies, za_parted, za_variableVaries, za_same, za_fixed, za_worth, za_needed, za_variableNeeded, za_values, za_variables, za_outputs, za_cells, za_whole, za_waiting) (wf_lines, wf_known, wf_wrong, wf_place, wf_blocks, wf_steps, wf_dropped, wf_on, wf_next, wf_again, wf_depth, wa_ops, wa_as, wa_bs, wa_cs, wa_blockOf, wa_opener, wa_around, wa_other, wa_end, wa_open, wa_varied, wa_loose, wa_variedVariable, wa_stands, wa_number, wa_isConst, wa_needed, wa_inputs, wa_values, wa_variables, wa_cells, wa_outs, wa_was, wa_rest, wa_line) → (za_variableVaries j ≠ 0 ↔ wa_variedVariable j ≠ 0) := by
        intro wf_lines wf_known wf_wrong wf_place wf_blocks wf_steps wf_dropped wf_on wf_next wf_again wf_depth wa_ops wa_as wa_bs wa_cs wa_blockOf wa_opener wa_around wa_other wa_end wa_open wa_varied wa_loose wa_variedVariable wa_stands wa_number wa_isConst wa_needed wa_inputs wa_values wa_variables wa_cells wa_outs wa_was wa_rest wa_line hy
        obtain ⟨_, _, _, _, _, hd, _⟩ := hy
        rcases hd with hb | ⟨_, hg'⟩
        · exact (pg_bad_good hb hg.1 hg.2.1).elim
        · obtain ⟨_, _, _, v3, _⟩ := pg_join hn hg hg'
          exact v3 j hj
      refine shaped _ (br_f (by decide) ⟨ij, ?_⟩)
      rw [cj]
      refine br_c (fun hz => hY _ (fun v' hy => ?_)) (fun hz => hY _ (fun v' hy => ?_))
      · obtain ⟨wf_lines, wf_known, wf_wrong, wf_place, wf_blocks, wf_steps, wf_dropped, wf_on, wf_next, wf_again, wf_depth, wa_ops, wa_as, wa_bs, wa_cs, wa_blockOf, wa_opener, wa_around, wa_other, wa_end, wa_open, wa_varied, wa_loose, wa_variedVariable, wa_stands, wa_number, wa_isConst, wa_needed, wa_inputs, wa_values, wa_variables, wa_cells, wa_outs, wa_was, wa_rest, wa_line⟩ := v'
        have gv := good hy
        refine toY _ hy ⟨ij, ?_⟩
        rw [cj]
        exact br_t (Classical.byContradiction (fun h' => (gv.mpr h') hz)) (h _ _ _ (rl_SR hx hy))
      · obtain ⟨wf_lines, wf_known, wf_wrong, wf_place, wf_blocks, wf_steps, wf_dropped, wf_on, wf_next, wf_again, wf_depth, wa_ops, wa_as, wa_bs, wa_cs, wa_blockOf, wa_opener, wa_around, wa_other, wa_end, wa_open, wa_varied, wa_loose, wa_variedVariable, wa_stands, wa_number, wa_isConst, wa_needed, wa_inputs, wa_values, wa_variables, wa_cells, wa_outs, wa_was, wa_rest, wa_line⟩ := v'
        have gv := good hy
        refine toY _ hy ⟨ij, ?_⟩
        rw [cj]
        exact br_f (gv.mp hz) (h _ _ _ (rl_SR hx hy))
theorem g_shorter {Q : Int32 → SX → Int32 → SY → Prop} (I : rl_R u v) (h : ∀ r u' v', rl_R u' v' → Q r u' r v') (v1 v2 : Int32) : wpX_shorter (fun r u' => wpY_shorter (fun r' v' => Q r u' r' v') v v1 v2) u v1 v2 := by
  obtain ⟨f_lines, f_studied, f_wrong, f_wrongAt, f_brief, f_on, f_dropped, f_steps, f_nextLine, f_repeats, a_kinds, a_firsts, a_seconds, a_thirds, a_inputs, a_home, a_depth, a_closer, a_mate, a_operands, a_varies, a_parted, a_variableVaries, a_same, a_fixed, a_worth, a_needed, a_variableNeeded, a_values, a_variables, a_outputs, a_cells, a_whole, a_waiting⟩ := u
  obtain ⟨yf_lines, yf_known, yf_wrong, yf_place, yf_blocks, yf_steps, yf_dropped, yf_on, yf_next, yf_again, yf_depth, ya_ops, ya_as, ya_bs, ya_cs, ya_blockOf, ya_opener, ya_around, ya_other, ya_end, ya_open, ya_varied, ya_loose, ya_variedVariable, ya_stands, ya_number, ya_isConst, ya_needed, ya_inputs, ya_values, ya_variables, ya_cells, ya_outs, ya_was, ya_rest, ya_line⟩ := v
  unfold wpX_shorter wpY_shorter
  refine rl_study I (fun K n u' hx hY => ?_)
  obtain ⟨zf_lines, zf_studied, zf_wrong, zf_wrongAt, zf_brief, zf_on, zf_dropped, zf_steps, zf_nextLine, zf_repeats, za_kinds, za_firsts, za_seconds, za_thirds, za_inputs, za_home, za_depth, za_closer, za_mate, za_operands, za_varies, za_parted, za_variableVaries, za_same, za_fixed, za_worth, za_needed, za_variableNeeded, za_values, za_variables, za_outputs, za_cells, za_whole, za_waiting⟩ := u'
  have hx' := hx
  obtain ⟨hW, el, es, hst⟩ := hx'
  have hn := hW.1
  rcases pk_ix v1 (show n < 2 ^ 31 by omega) with h0 | h1 | ⟨j, hj, rfl⟩
  · refine br_t h0 (hY _ (fun v' hy => ?_))
    obtain ⟨wf_lines, wf_known, wf_wrong, wf_place, wf_blocks, wf_steps, wf_dropped, wf_on, wf_next, wf_again, wf_depth, wa_ops, wa_as, wa_bs, wa_cs, wa_blockOf, wa_opener, wa_around, wa_other, wa_end, wa_open, wa_varied, wa_loose, wa_variedVariable, wa_stands, wa_number, wa_isConst, wa_needed, wa_inputs, wa_values, wa_variables, wa_cells, wa_outs, wa_was, wa_rest, wa_line⟩ := v'
    exact br_t h0 (h _ _ _ (rl_SR hx hy))
  · have h0 := rl_lt (by omega) h1
    refine br_f h0 (br_t (by rw [el]; exact h1) (hY _ (fun v' hy => ?_)))
    obtain ⟨wf_lines, wf_known, wf_wrong, wf_place, wf_blocks, wf_steps, wf_dropped, wf_on, wf_next, wf_again, wf_depth, wa_ops, wa_as, wa_bs, wa_cs, wa_blockOf, wa_opener, wa_around, wa_other, wa_end, wa_open, wa_varied, wa_loose, wa_variedVariable, wa_stands, wa_number, wa_isConst, wa_needed, wa_inputs, wa_values, wa_variables, wa_cells, wa_outs, wa_was, wa_rest, wa_line⟩ := v'
    have el' : wf_lines = nI n := hy.1
    exact br_f h0 (br_t (by rw [el']; exact h1) (h _ _ _ (rl_SR hx hy)))
  · have h0 : ¬ nI j < 0 := nI_pos (by omega)
    have h1 : ¬ zf_lines ≤ nI j := by rw [el]; exact nI_ge hj (by omega)
    have h2 : ∀ {x : Int32}, x = nI n → ¬ x ≤ nI j := fun e => by rw [e]; exact nI_ge hj (by omega)
    have cj : (nI j).toNatClampNeg = j := nI_clamp (by omega)
    have ij : vp_in (nI j) 48 := vp_in_nI (by omega) (by omega)
    refine br_f h0 (br_f h1 ?_)
    have bad : ¬ zf_wrong = 0 → (∀ {wf_lines wf_known wf_wrong wf_place wf_blocks wf_steps wf_dropped wf_on wf_next wf_again wf_depth : Int32} {wa_ops wa_as wa_bs wa_cs wa_blockOf wa_opener wa_around wa_other wa_end wa_open wa_varied wa_loose wa_variedVariable wa_stands wa_number wa_isConst wa_needed wa_inputs wa_values wa_variables wa_cells wa_outs wa_was wa_rest wa_line : Nat → Int32}, ys_S K n (zf_lines, zf_studied, zf_wrong, zf_wrongAt, zf_brief, zf_on, zf_dropped, zf_steps, zf_nextLine, zf_repeats, za_kinds, za_firsts, za_seconds, za_thirds, za_inputs, za_home, za_depth, za_closer, za_mate, za_operands, za_varies, za_parted, za_variableVaries, za_same, za_fixed, za_worth, za_needed, za_variableNeeded, za_values, za_variables, za_outputs, za_cells, za_whole, za_waiting) (wf_lines, wf_known, wf_wrong, wf_place, wf_blocks, wf_steps, wf_dropped, wf_on, wf_next, wf_again, wf_depth, wa_ops, wa_as, wa_bs, wa_cs, wa_blockOf, wa_opener, wa_around, wa_other, wa_end, wa_open, wa_varied, wa_loose, wa_variedVariable, wa_stands, wa_number, wa_isConst, wa_needed, wa_inputs, wa_values, wa_variables, wa_cells, wa_outs, wa_was, wa_rest, wa_line) → ¬ wf_wrong ≤ 0) := by
      intro hz wf_lines wf_known wf_wrong wf_place wf_blocks wf_steps wf_dropped wf_on wf_next wf_again wf_depth wa_ops wa_as wa_bs wa_cs wa_blockOf wa_opener wa_around wa_other wa_end wa_open wa_varied wa_loose wa_variedVariable wa_stands wa_number wa_isConst wa_needed wa_inputs wa_values wa_variables wa_cells wa_outs wa_was wa_rest wa_line hy
      have ew : wf_wrong = zf_wrong := hy.2.2.1
      rw [ew]
      rcases hst with hb | hg
      · obtain ⟨c, c0, c4, ec⟩ := pg_bad_w hb
        rw [ec]; exact (rl_w c c4 c0).2.2.1
      · rcases hg.2.2.2.2.2.1 with ⟨_, _, _, _, e, _⟩ | ⟨_, e, _⟩
        · rw [e]; decide
        · exact absurd e hz
    refine br_c (fun hz => ?_) (fun hz => hY _ (fun v' hy => ?_))
    · have hg : pg_X K n za_firsts za_seconds za_thirds zf_wrong zf_wrongAt za_home za_depth za_closer za_mate za_operands za_varies za_parted za_variableVaries za_same za_fixed za_worth za_needed := by
        rcases hst with hb | hg
        · obtain ⟨c, c0, c4, ec⟩ := pg_bad_w hb
          rw [ec] at hz; exact absurd hz (rl_w c c4 c0).1
        · exact hg
      have good : ∀ {wf_lines wf_known wf_wrong wf_place wf_blocks wf_steps wf_dropped wf_on wf_next wf_again wf_depth : Int32} {wa_ops wa_as wa_bs wa_cs wa_blockOf wa_opener wa_around wa_other wa_end wa_open wa_varied wa_loose wa_variedVariable wa_stands wa_number wa_isConst wa_needed wa_inputs wa_values wa_variables wa_cells wa_outs wa_was wa_rest wa_line : Nat → Int32}, ys_S K n (zf_lines, zf_studied, zf_wrong, zf_wrongAt, zf_brief, zf_on, zf_dropped, zf_steps, zf_nextLine, zf_repeats, za_kinds, za_firsts, za_seconds, za_thirds, za_inputs, za_home, za_depth, za_closer, za_mate, za_operands, za_varies, za_parted, za_variableVaries, za_same, za_fixed, za_worth, za_needed, za_variableNeeded, za_values, za_variables, za_outputs, za_cells, za_whole, za_waiting) (wf_lines, wf_known, wf_wrong, wf_place, wf_blocks, wf_steps, wf_dropped, wf_on, wf_next, wf_again, wf_depth, wa_ops, wa_as, wa_bs, wa_cs, wa_blockOf, wa_opener, wa_around, wa_other, wa_end, wa_open, wa_varied, wa_loose, wa_variedVariable, wa_stands, wa_number, wa_isConst, wa_needed, wa_inputs, wa_values, wa_variables, wa_cells, wa_outs, wa_was, wa_rest, wa_line) → wa_stands j = za_same j ∧ wa_isConst j = za_fixed j ∧ wa_number j = za_worth j ∧ (za_fixed j = 0 → (za_needed j ≠ 0 ↔ wa_needed j ≠ 0)) := by
        intro wf_lines wf_known wf_wrong wf_place wf_blocks wf_steps wf_dropped wf_on wf_next wf_again wf_depth wa_ops wa_as wa_bs wa_cs wa_blockOf wa_opener wa_around wa_other wa_end wa_open wa_varied wa_loose wa_variedVariable wa_stands wa_number wa_isConst wa_needed wa_inputs wa_values wa_variables wa_cells wa_outs wa_was wa_rest wa_line hy
        obtain ⟨_, _, _, _, _, hd, _⟩ := hy
        rcases hd with hb | ⟨_, hg'⟩
        · exact (pg_bad_good hb hg.1 hg.2.1).elim
        · obtain ⟨_, _, _, _, T, r1, r2, _, _, r5⟩ := pg_join hn hg hg'
          obtain ⟨a1, a2, a3⟩ := r1 j hj
          obtain ⟨b1, b2, b3⟩ := r2 j hj
          refine ⟨by rw [a1, b1], by rw [a2, b2], by rw [a3, b3], fun hf => ?_⟩
          rw [a2] at hf
          rw [r5 j hj]
          exact ⟨fun h => h.1, fun h => ⟨h, sh_bI_0 hf⟩⟩
      have w0 : ∀ {wf_lines wf_known wf_wrong wf_place wf_blocks wf_steps wf_dropped wf_on wf_next wf_again wf_depth : Int32} {wa_ops wa_as wa_bs wa_cs wa_blockOf wa_opener wa_around wa_other wa_end wa_open wa_varied wa_loose wa_variedVariable wa_stands wa_number wa_isConst wa_needed wa_inputs wa_values wa_variables wa_cells wa_outs wa_was wa_rest wa_line : Nat → Int32}, ys_S K n (zf_lines, zf_studied, zf_wrong, zf_wrongAt, zf_brief, zf_on, zf_dropped, zf_steps, zf_nextLine, zf_repeats, za_kinds, za_firsts, za_seconds, za_thirds, za_inputs, za_home, za_depth, za_closer, za_mate, za_operands, za_varies, za_parted, za_variableVaries, za_same, za_fixed, za_worth, za_needed, za_variableNeeded, za_values, za_variables, za_outputs, za_cells, za_whole, za_waiting) (wf_lines, wf_known, wf_wrong, wf_place, wf_blocks, wf_steps, wf_dropped, wf_on, wf_next, wf_again, wf_depth, wa_ops, wa_as, wa_bs, wa_cs, wa_blockOf, wa_opener, wa_around, wa_other, wa_end, wa_open, wa_varied, wa_loose, wa_variedVariable, wa_stands, wa_number, wa_isConst, wa_needed, wa_inputs, wa_values, wa_variables, wa_cells, wa_outs, wa_was, wa_rest, wa_line) → wf_wrong ≤ 0 := by
        intro wf_lines wf_known wf_wrong wf_place wf_blocks wf_steps wf_dropped wf_on wf_next wf_again wf_depth wa_ops wa_as wa_bs wa_cs wa_blockOf wa_opener wa_around wa_other wa_end wa_open wa_varied wa_loose wa_variedVariable wa_stands wa_number wa_isConst wa_needed wa_inputs wa_values wa_variables wa_cells wa_outs wa_was wa_rest wa_line hy
        have ew : wf_wrong = zf_wrong := hy.2.2.1
        rw [ew, hz]; decide
      have toY : ∀ (post : Int32 → SY → Prop) {wf_lines wf_known wf_wrong wf_place wf_blocks wf_steps wf_dropped wf_on wf_next wf_again wf_depth : Int32} {wa_ops wa_as wa_bs wa_cs wa_blockOf wa_opener wa_around wa_other wa_end wa_open wa_varied wa_loose wa_variedVariable wa_stands wa_number wa_isConst wa_needed wa_inputs wa_values wa_variables wa_cells wa_outs wa_was wa_rest wa_line : Nat → Int32}, ys_S K n (zf_lines, zf_studied, zf_wrong, zf_wrongAt, zf_brief, zf_on, zf_dropped, zf_steps, zf_nextLine, zf_repeats, za_kinds, za_firsts, za_seconds, za_thirds, za_inputs, za_home, za_depth, za_closer, za_mate, za_operands, za_varies, za_parted, za_variableVaries, za_same, za_fixed, za_worth, za_needed, za_variableNeeded, za_values, za_variables, za_outputs, za_cells, za_whole, za_waiting) (wf_lines, wf_known, wf_wrong, wf_place, wf_blocks, wf_steps, wf_dropped, wf_on, wf_next, wf_again, wf_depth, wa_ops, wa_as, wa_bs, wa_cs, wa_blockOf, wa_opener, wa_around, wa_other, wa_end, wa_open, wa_varied, wa_loose, wa_variedVariable, wa_stands, wa_number, wa_isConst, wa_needed, wa_inputs, wa_values, wa_variables, wa_cells, wa_outs, wa_was, wa_rest, wa_line) → (∀ r : Int32, ((za_fixed j = 0 ∧ za_same j = nI j ∧ za_needed j = 0 ∧ r = 0) ∨ (za_fixed j = 0 ∧ za_same j = nI j ∧ za_needed j ≠ 0 ∧ r = 1) ∨ (za_fixed j = 0 ∧ za_same j ≠ nI j ∧ r = 2) ∨ (za_fixed j ≠ 0 ∧ r = 3)) → wY_shorter_66 post (nI j) v2 r wf_lines wf_known wf_wrong wf_place wf_blocks wf_steps wf_dropped wf_on wf_next wf_again wf_depth wa_ops wa_as wa_bs wa_cs wa_blockOf wa_opener wa_around wa_other wa_end wa_open wa_varied wa_loose wa_variedVariable wa_stands wa_number wa_isConst wa_needed wa_inputs wa_values wa_variables wa_cells wa_outs wa_was wa_rest wa_line) →
          ((nI j < 0 → post (-1) (wf_lines, wf_known, wf_wrong, wf_place, wf_blocks, wf_steps, wf_dropped, wf_on, wf_next, wf_again, wf_depth, wa_ops, wa_as, wa_bs, wa_cs, wa_blockOf, wa_opener, wa_around, wa_other, wa_end, wa_open, wa_varied, wa_loose, wa_variedVariable, wa_stands, wa_number, wa_isConst, wa_needed, wa_inputs, wa_values, wa_variables, wa_cells, wa_outs, wa_was, wa_rest, wa_line)) ∧ (¬ nI j < 0 → ((wf_lines ≤ nI j → post (-1) (wf_lines, wf_known, wf_wrong, wf_place, wf_blocks, wf_steps, wf_dropped, wf_on, wf_next, wf_again, wf_depth, wa_ops, wa_as, wa_bs, wa_cs, wa_blockOf, wa_opener, wa_around, wa_other, wa_end, wa_open, wa_varied, wa_loose, wa_variedVariable, wa_stands, wa_number, wa_isConst, wa_needed, wa_inputs, wa_values, wa_variables, wa_cells, wa_outs, wa_was, wa_rest, wa_line)) ∧ (¬ wf_lines ≤ nI j → ((wf_wrong ≤ 0 → (vp_in (nI j) 48 ∧ ((wa_isConst (nI j).toNatClampNeg = 0 → (vp_in (nI j) 48 ∧ ((wa_stands (nI j).toNatClampNeg = nI j → (vp_in (nI j) 48 ∧ ((wa_needed (nI j).toNatClampNeg = 0 → wY_shorter_66 post (nI j) v2 0 wf_lines wf_known wf_wrong wf_place wf_blocks wf_steps wf_dropped wf_on wf_next wf_again wf_depth wa_ops wa_as wa_bs wa_cs wa_blockOf wa_opener wa_around wa_other wa_end wa_open wa_varied wa_loose wa_variedVariable wa_stands wa_number wa_isConst wa_needed wa_inputs wa_values wa_variables wa_cells wa_outs wa_was wa_rest wa_line) ∧ (¬ wa_needed (nI j).toNatClampNeg = 0 → wY_shorter_66 post (nI j) v2 1 wf_lines wf_known wf_wrong wf_place wf_blocks wf_steps wf_dropped wf_on wf_next wf_again wf_depth wa_ops wa_as wa_bs wa_cs wa_blockOf wa_opener wa_around wa_other wa_end wa_open wa_varied wa_loose wa_variedVariable wa_stands wa_number wa_isConst wa_needed wa_inputs wa_values wa_variables wa_cells wa_outs wa_was wa_rest wa_line)))) ∧ (¬ wa_stands (nI j).toNatClampNeg = nI j → wY_shorter_66 post (nI j) v2 2 wf_lines wf_known wf_wrong wf_place wf_blocks wf_steps wf_dropped wf_on wf_next wf_again wf_depth wa_ops wa_as wa_bs wa_cs wa_blockOf wa_opener wa_around wa_other wa_end wa_open wa_varied wa_loose wa_variedVariable wa_stands wa_number wa_isConst wa_needed wa_inputs wa_values wa_variables wa_cells wa_outs wa_was wa_rest wa_line)))) ∧ (¬ wa_isConst (nI j).toNatClampNeg = 0 → wY_shorter_66 post (nI j) v2 3 wf_lines wf_known wf_wrong wf_place wf_blocks wf_steps wf_dropped wf_on wf_next wf_again wf_depth wa_ops wa_as wa_bs wa_cs wa_blockOf wa_opener wa_around wa_other wa_end wa_open wa_varied wa_loose wa_variedVariable wa_stands wa_number wa_isConst wa_needed wa_inputs wa_values wa_variables wa_cells wa_outs wa_was wa_rest wa_line)))) ∧ (¬ wf_wrong ≤ 0 → post (-1) (wf_lines, wf_known, wf_wrong, wf_place, wf_blocks, wf_steps, wf_dropped, wf_on, wf_next, wf_again, wf_depth, wa_ops, wa_as, wa_bs, wa_cs, wa_blockOf, wa_opener, wa_around, wa_other, wa_end, wa_open, wa_varied, wa_loose, wa_variedVariable, wa_stands, wa_number, wa_isConst, wa_needed, wa_inputs, wa_values, wa_variables, wa_cells, wa_outs, wa_was, wa_rest, wa_line))))))) := by
        intro post wf_lines wf_known wf_wrong wf_place wf_blocks wf_steps wf_dropped wf_on wf_next wf_again wf_depth wa_ops wa_as wa_bs wa_cs wa_blockOf wa_opener wa_around wa_other wa_end wa_open wa_varied wa_loose wa_variedVariable wa_stands wa_number wa_isConst wa_needed wa_inputs wa_values wa_variables wa_cells wa_outs wa_was wa_rest wa_line hy hp
        obtain ⟨g1, g2, g3, g4⟩ := good hy
        refine br_f h0 (br_f (h2 hy.1) (br_t (w0 hy) ⟨ij, ?_⟩))
        rw [cj, g1, g2]
        refine br_c (fun hf => ⟨ij, br_c (fun hs => ⟨ij, br_c (fun hnd => hp 0 (Or.inl ⟨hf, hs, ?_, rfl⟩)) (fun hnd => hp 1 (Or.inr (Or.inl ⟨hf, hs, (g4 hf).mpr hnd, rfl⟩)))⟩) (fun hs => hp 2 (Or.inr (Or.inr (Or.inl ⟨hf, hs, rfl⟩))))⟩) (fun hf => hp 3 (Or.inr (Or.inr (Or.inr ⟨hf, rfl⟩))))
        exact Classical.byContradiction (fun h' => ((g4 hf).mp h') hnd)
      have toY2 := toY
      rw [cj] at toY2
      rcases pk_ix v2 (show 3 < 2 ^ 31 by omega) with p0 | p3 | ⟨k, hk, rfl⟩
      · refine br_t p0 (hY _ (fun v' hy => ?_))
        obtain ⟨wf_lines, wf_known, wf_wrong, wf_place, wf_blocks, wf_steps, wf_dropped, wf_on, wf_next, wf_again, wf_depth, wa_ops, wa_as, wa_bs, wa_cs, wa_blockOf, wa_opener, wa_around, wa_other, wa_end, wa_open, wa_varied, wa_loose, wa_variedVariable, wa_stands, wa_number, wa_isConst, wa_needed, wa_inputs, wa_values, wa_variables, wa_cells, wa_outs, wa_was, wa_rest, wa_line⟩ := v'
        exact toY _ hy (fun r _ => br_f (fun e => absurd p0 (by rw [e]; decide)) (br_f (fun e => absurd p0 (by rw [e]; decide)) (br_f (fun e => absurd p0 (by rw [e]; decide)) (h _ _ _ (rl_SR hx hy)))))
      · refine br_f (rl_lt (by omega) p3) (br_t ((ez_23 _).mpr p3) (hY _ (fun v' hy => ?_)))
        obtain ⟨wf_lines, wf_known, wf_wrong, wf_place, wf_blocks, wf_steps, wf_dropped, wf_on, wf_next, wf_again, wf_depth, wa_ops, wa_as, wa_bs, wa_cs, wa_blockOf, wa_opener, wa_around, wa_other, wa_end, wa_open, wa_varied, wa_loose, wa_variedVariable, wa_stands, wa_number, wa_isConst, wa_needed, wa_inputs, wa_values, wa_variables, wa_cells, wa_outs, wa_was, wa_rest, wa_line⟩ := v'
        exact toY _ hy (fun r _ => br_f (fun e => absurd p3 (by rw [e]; decide)) (br_f (fun e => absurd p3 (by rw [e]; decide)) (br_f (fun e => absurd p3 (by rw [e]; decide)) (h _ _ _ (rl_SR hx hy)))))
      · have hk3 : k = 0 ∨ k = 1 ∨ k = 2 := by omega
        rcases hk3 with rfl | rfl | rfl
        · refine br_f (by decide) (br_f (by decide) (br_t rfl ⟨ij, ?_⟩))
          rw [cj]
          refine br_c (fun hf => ⟨ij, br_c (fun hs => ⟨ij, br_c (fun hnd => hY _ (fun v' hy => ?_)) (fun hnd => hY _ (fun v' hy => ?_))⟩) (fun hs => hY _ (fun v' hy => ?_))⟩) (fun hf => hY _ (fun v' hy => ?_))
          all_goals
            obtain ⟨wf_lines, wf_known, wf_wrong, wf_place, wf_blocks, wf_steps, wf_dropped, wf_on, wf_next, wf_again, wf_depth, wa_ops, wa_as, wa_bs, wa_cs, wa_blockOf, wa_opener, wa_around, wa_other, wa_end, wa_open, wa_varied, wa_loose, wa_variedVariable, wa_stands, wa_number, wa_isConst, wa_needed, wa_inputs, wa_values, wa_variables, wa_cells, wa_outs, wa_was, wa_rest, wa_line⟩ := v'
            refine toY2 _ hy (fun r hr => br_t rfl ?_)
            rcases hr with ⟨a1, a2, a3, rfl⟩ | ⟨a1, a2, a3, rfl⟩ | ⟨a1, a2, rfl⟩ | ⟨a1, rfl⟩ <;> first | exact h _ _ _ (rl_SR hx hy) | contradiction
        · refine br_f (by decide) (br_f (by decide) (br_f (by decide) (br_t rfl ⟨ij, ?_⟩)))
          rw [cj]
          refine hY _ (fun v' hy => ?_)
          obtain ⟨wf_lines, wf_known, wf_wrong, wf_place, wf_blocks, wf_steps, wf_dropped, wf_on, wf_next, wf_again, wf_depth, wa_ops, wa_as, wa_bs, wa_cs, wa_blockOf, wa_opener, wa_around, wa_other, wa_end, wa_open, wa_varied, wa_loose, wa_variedVariable, wa_stands, wa_number, wa_isConst, wa_needed, wa_inputs, wa_values, wa_variables, wa_cells, wa_outs, wa_was, wa_rest, wa_line⟩ := v'
          refine toY2 _ hy (fun r hr => br_f (by decide) (br_t rfl ⟨ij, ?_⟩))
          rw [cj, (good hy).1]
          exact h _ _ _ (rl_SR hx hy)
        · refine br_f (by decide) (br_f (by decide) (br_f (by decide) (br_f (by decide) (br_t rfl ⟨ij, ?_⟩))))
          rw [cj]
          refine hY _ (fun v' hy => ?_)
          obtain ⟨wf_lines, wf_known, wf_wrong, wf_place, wf_blocks, wf_steps, wf_dropped, wf_on, wf_next, wf_again, wf_depth, wa_ops, wa_as, wa_bs, wa_cs, wa_blockOf, wa_opener, wa_around, wa_other, wa_end, wa_open, wa_varied, wa_loose, wa_variedVariable, wa_stands, wa_number, wa_isConst, wa_needed, wa_inputs, wa_values, wa_variables, wa_cells, wa_outs, wa_was, wa_rest, wa_line⟩ := v'
          refine toY2 _ hy (fun r hr => br_f (by decide) (br_f (by decide) (br_t rfl ⟨ij, ?_⟩)))
          rw [cj, (good hy).2.2.1]
          exact h _ _ _ (rl_SR hx hy)
    · obtain ⟨wf_lines, wf_known, wf_wrong, wf_place, wf_blocks, wf_steps, wf_dropped, wf_on, wf_next, wf_again, wf_depth, wa_ops, wa_as, wa_bs, wa_cs, wa_blockOf, wa_opener, wa_around, wa_other, wa_end, wa_open, wa_varied, wa_loose, wa_variedVariable, wa_stands, wa_number, wa_isConst, wa_needed, wa_inputs, wa_values, wa_variables, wa_cells, wa_outs, wa_was, wa_rest, wa_line⟩ := v'
      exact br_f h0 (br_f (h2 hy.1) (br_f (bad hz hy) (h _ _ _ (rl_SR hx hy))))
end
end
section
section
variable {u : SX} {v : SY}
theorem rl_ok {p : Int32} (hp : p = 0 ∨ p = 1) : narrow .boolean (.int p) = .int p ∧ fits .boolean (.int p) = true := by
  rcases hp with h | h <;> rw [h] <;> decide
theorem g_run {Q : Int32 → SX → Int32 → SY → Prop} (I : rl_R u v) (h : ∀ r u' v', rl_R u' v' → Q r u' r v') {p : Int32} (hp : p = 0 ∨ p = 1) : wpX_run (fun r u' => wpY_run (fun r' v' => Q r u' r' v') v p) u p := by
  obtain ⟨f_lines, f_studied, f_wrong, f_wrongAt, f_brief, f_on, f_dropped, f_steps, f_nextLine, f_repeats, a_kinds, a_firsts, a_seconds, a_thirds, a_inputs, a_home, a_depth, a_closer, a_mate, a_operands, a_varies, a_parted, a_variableVaries, a_same, a_fixed, a_worth, a_needed, a_variableNeeded, a_values, a_variables, a_outputs, a_cells, a_whole, a_waiting⟩ := u
  obtain ⟨yf_lines, yf_known, yf_wrong, yf_place, yf_blocks, yf_steps, yf_dropped, yf_on, yf_next, yf_again, yf_depth, ya_ops, ya_as, ya_bs, ya_cs, ya_blockOf, ya_opener, ya_around, ya_other, ya_end, ya_open, ya_varied, ya_loose, ya_variedVariable, ya_stands, ya_number, ya_isConst, ya_needed, ya_inputs, ya_values, ya_variables, ya_cells, ya_outs, ya_was, ya_rest, ya_line⟩ := v
  unfold wpX_run wpY_run
  refine rl_study I (fun K n u' hx hY => ?_)
  obtain ⟨zf_lines, zf_studied, zf_wrong, zf_wrongAt, zf_brief, zf_on, zf_dropped, zf_steps, zf_nextLine, zf_repeats, za_kinds, za_firsts, za_seconds, za_thirds, za_inputs, za_home, za_depth, za_closer, za_mate, za_operands, za_varies, za_parted, za_variableVaries, za_same, za_fixed, za_worth, za_needed, za_variableNeeded, za_values, za_variables, za_outputs, za_cells, za_whole, za_waiting⟩ := u'
  have hx' := hx
  obtain ⟨hW, el, es, hst⟩ := hx'
  have hn := hW.1
  have bad : ¬ zf_wrong = 0 → (∀ {wf_lines wf_known wf_wrong wf_place wf_blocks wf_steps wf_dropped wf_on wf_next wf_again wf_depth : Int32} {wa_ops wa_as wa_bs wa_cs wa_blockOf wa_opener wa_around wa_other wa_end wa_open wa_varied wa_loose wa_variedVariable wa_stands wa_number wa_isConst wa_needed wa_inputs wa_values wa_variables wa_cells wa_outs wa_was wa_rest wa_line : Nat → Int32}, ys_S K n (zf_lines, zf_studied, zf_wrong, zf_wrongAt, zf_brief, zf_on, zf_dropped, zf_steps, zf_nextLine, zf_repeats, za_kinds, za_firsts, za_seconds, za_thirds, za_inputs, za_home, za_depth, za_closer, za_mate, za_operands, za_varies, za_parted, za_variableVaries, za_same, za_fixed, za_worth, za_needed, za_variableNeeded, za_values, za_variables, za_outputs, za_cells, za_whole, za_waiting) (wf_lines, wf_known, wf_wrong, wf_place, wf_blocks, wf_steps, wf_dropped, wf_on, wf_next, wf_again, wf_depth, wa_ops, wa_as, wa_bs, wa_cs, wa_blockOf, wa_opener, wa_around, wa_other, wa_end, wa_open, wa_varied, wa_loose, wa_variedVariable, wa_stands, wa_number, wa_isConst, wa_needed, wa_inputs, wa_values, wa_variables, wa_cells, wa_outs, wa_was, wa_rest, wa_line) → ¬ wf_wrong ≤ 0) := by
    intro hz wf_lines wf_known wf_wrong wf_place wf_blocks wf_steps wf_dropped wf_on wf_next wf_again wf_depth wa_ops wa_as wa_bs wa_cs wa_blockOf wa_opener wa_around wa_other wa_end wa_open wa_varied wa_loose wa_variedVariable wa_stands wa_number wa_isConst wa_needed wa_inputs wa_values wa_variables wa_cells wa_outs wa_was wa_rest wa_line hy
    have ew : wf_wrong = zf_wrong := hy.2.2.1
    rw [ew]
    rcases hst with hb | hg
    · obtain ⟨c, c0, c4, ec⟩ := pg_bad_w hb
      rw [ec]; exact (rl_w c c4 c0).2.2.1
    · rcases hg.2.2.2.2.2.1 with ⟨_, _, _, _, e, _⟩ | ⟨_, e, _⟩
      · rw [e]; decide
      · exact absurd e hz
  refine br_c (fun hz => cr_X ⟨(rl_ok hp).1, (rl_ok hp).2, ?_⟩) (fun hz => hY _ (fun v' hy => ?_))
  · have hg : pg_X K n za_firsts za_seconds za_thirds zf_wrong zf_wrongAt za_home za_depth za_closer za_mate za_operands za_varies za_parted za_variableVaries za_same za_fixed za_worth za_needed := by
      rcases hst with hb | hg
      · obtain ⟨c, c0, c4, ec⟩ := pg_bad_w hb
        rw [ec] at hz; exact absurd hz (rl_w c c4 c0).1
      · exact hg
    have hg0 := hg
    obtain ⟨hok, hfr, hA, hc0, hl, h4, T, hR, hgT, hln, hnd⟩ := hg0
    have hxm : rn_xm K n T za_firsts za_seconds za_thirds za_home za_depth za_closer za_mate za_operands za_same za_fixed za_worth za_needed := ⟨hok, hfr, hA, hc0, hR, hgT, hln, hnd⟩
    obtain ⟨blockOf, opener, around, other, end_, hS⟩ := rn_stC (f_brief := p) (a_inputs := za_inputs) hW hxm rfl hp el
    have hp0 : rn_pos K n 0 (zf_lines, zf_studied, zf_wrong, zf_wrongAt, p, 15, 0, 0, zf_nextLine, 0, za_kinds, za_firsts, za_seconds, za_thirds, za_inputs, za_home, za_depth, za_closer, za_mate, za_operands, za_varies, za_parted, za_variableVaries, za_same, za_fixed, za_worth, za_needed, za_variableNeeded, cl_z 192 za_values, cl_z 16 za_variables, cl_z 16 za_outputs, cl_z 4 za_cells, za_whole, za_waiting) (nI n, 0, 0, 0, 0, 0, 0, 15, 0, 0, 0, za_kinds, za_firsts, za_seconds, za_thirds, blockOf, opener, around, other, end_, (fun _ => 0), (fun _ => 0), (fun _ => 0), (fun _ => 0), za_same, za_worth, za_fixed, za_needed, za_inputs, (fun _ => 0), (fun _ => 0), (fun _ => 0), (fun _ => 0), (fun _ => 0), (fun _ => 0), (fun _ => 0)) :=
      ⟨by omega, rfl, rfl, trivial, ⟨15, by omega, rfl⟩, Or.inl ⟨rfl, fun h => absurd h (by decide), trivial⟩⟩
    have hd0 : rn_dyn (zf_lines, zf_studied, zf_wrong, zf_wrongAt, p, 15, 0, 0, zf_nextLine, 0, za_kinds, za_firsts, za_seconds, za_thirds, za_inputs, za_home, za_depth, za_closer, za_mate, za_operands, za_varies, za_parted, za_variableVaries, za_same, za_fixed, za_worth, za_needed, za_variableNeeded, cl_z 192 za_values, cl_z 16 za_variables, cl_z 16 za_outputs, cl_z 4 za_cells, za_whole, za_waiting) (nI n, 0, 0, 0, 0, 0, 0, 15, 0, 0, 0, za_kinds, za_firsts, za_seconds, za_thirds, blockOf, opener, around, other, end_, (fun _ => 0), (fun _ => 0), (fun _ => 0), (fun _ => 0), za_same, za_worth, za_fixed, za_needed, za_inputs, (fun _ => 0), (fun _ => 0), (fun _ => 0), (fun _ => 0), (fun _ => 0), (fun _ => 0), (fun _ => 0)) :=
      ⟨rfl, ⟨0, by omega, rfl⟩, rfl, rfl, fun q hq => cl_lt _ hq, fun l hl k hk => cl_lt _ (by omega), fun l hl k hk => cl_lt _ (by omega), fun k hk => cl_lt _ hk⟩
    obtain ⟨r, a, on, dr, st, rp, va, vr, ou, ce, wh, wt, fX, fY⟩ := rn_loop (K := K) (n := n) (T := T) (br := p) 400 0 0 rfl rfl hS hp0 hd0
    refine fX _ _ (fun q hq => ⟨401, hq⟩) (hY _ (fun v' hy => ?_))
    obtain ⟨wf_lines, wf_known, wf_wrong, wf_place, wf_blocks, wf_steps, wf_dropped, wf_on, wf_next, wf_again, wf_depth, wa_ops, wa_as, wa_bs, wa_cs, wa_blockOf, wa_opener, wa_around, wa_other, wa_end, wa_open, wa_varied, wa_loose, wa_variedVariable, wa_stands, wa_number, wa_isConst, wa_needed, wa_inputs, wa_values, wa_variables, wa_cells, wa_outs, wa_was, wa_rest, wa_line⟩ := v'
    obtain ⟨yl, yk, yw, yp, ⟨e1, e2, e3, e4, e5⟩, hyst, hyd, hynx⟩ := hy
    have hgY : pg_Y K n za_firsts za_seconds za_thirds wf_wrong wf_place wa_blockOf wa_opener wa_around wa_other wa_end wa_varied wa_loose wa_variedVariable wa_stands wa_isConst wa_number wa_needed := by
      rcases hyst with hb | ⟨_, h'⟩
      · exact (pg_bad_good hb hg.1 hg.2.1).elim
      · exact h'
    have hSy := rn_stY (f_brief := p) hW hxm rfl hp el yl e1 e2 e3 e4 e5 hgY
    have hpy : rn_pos K n 0 (zf_lines, zf_studied, zf_wrong, zf_wrongAt, p, 15, 0, 0, zf_nextLine, 0, za_kinds, za_firsts, za_seconds, za_thirds, za_inputs, za_home, za_depth, za_closer, za_mate, za_operands, za_varies, za_parted, za_variableVaries, za_same, za_fixed, za_worth, za_needed, za_variableNeeded, cl_z 192 za_values, cl_z 16 za_variables, cl_z 16 za_outputs, cl_z 4 za_cells, za_whole, za_waiting) (wf_lines, wf_known, wf_wrong, wf_place, wf_blocks, 0, 0, 15, 0, 0, 0, wa_ops, wa_as, wa_bs, wa_cs, wa_blockOf, wa_opener, wa_around, wa_other, wa_end, wa_open, wa_varied, wa_loose, wa_variedVariable, wa_stands, wa_number, wa_isConst, wa_needed, wa_inputs, cl_z 192 wa_values, cl_z 16 wa_variables, cl_z 4 wa_cells, cl_z 16 wa_outs, wa_was, wa_rest, wa_line) :=
      ⟨by omega, rfl, rfl, trivial, ⟨15, by omega, rfl⟩, Or.inl ⟨rfl, fun h => absurd h (by decide), trivial⟩⟩
    have hdy : rn_dyn (zf_lines, zf_studied, zf_wrong, zf_wrongAt, p, 15, 0, 0, zf_nextLine, 0, za_kinds, za_firsts, za_seconds, za_thirds, za_inputs, za_home, za_depth, za_closer, za_mate, za_operands, za_varies, za_parted, za_variableVaries, za_same, za_fixed, za_worth, za_needed, za_variableNeeded, cl_z 192 za_values, cl_z 16 za_variables, cl_z 16 za_outputs, cl_z 4 za_cells, za_whole, za_waiting) (wf_lines, wf_known, wf_wrong, wf_place, wf_blocks, 0, 0, 15, 0, 0, 0, wa_ops, wa_as, wa_bs, wa_cs, wa_blockOf, wa_opener, wa_around, wa_other, wa_end, wa_open, wa_varied, wa_loose, wa_variedVariable, wa_stands, wa_number, wa_isConst, wa_needed, wa_inputs, cl_z 192 wa_values, cl_z 16 wa_variables, cl_z 4 wa_cells, cl_z 16 wa_outs, wa_was, wa_rest, wa_line) :=
      ⟨rfl, ⟨0, by omega, rfl⟩, rfl, rfl, fun q hq => (cl_lt _ hq).trans (cl_lt _ hq).symm, fun l hl k hk => (cl_lt _ (by omega)).trans (cl_lt _ (by omega)).symm, fun l hl k hk => (cl_lt _ (by omega)).trans (cl_lt _ (by omega)).symm, fun k hk => (cl_lt _ hk).trans (cl_lt _ hk).symm⟩
    obtain ⟨ydr, yon, yst, yag, yde, yva, yvr, yce, you, yws, yrs, yln, fd, fYw⟩ := fY hSy hpy hdy
    refine br_t (by rw [yw, hz]; decide) (cr_Y ⟨401, fYw _ ?_⟩)
    obtain ⟨d1, d2, d3, d4, d5, d6, d7, d8⟩ := fd
    exact h _ _ _ (rl_SR (K := K) (n := n) ⟨hW, el, es, hst⟩ ⟨yl, yk, yw, yp, ⟨e1, e2, e3, e4, e5⟩, Or.inr ⟨hg, hgY⟩, ⟨d1, d2, d3, d4, d5, d6, d7, d8⟩, rfl⟩)
  · obtain ⟨wf_lines, wf_known, wf_wrong, wf_place, wf_blocks, wf_steps, wf_dropped, wf_on, wf_next, wf_again, wf_depth, wa_ops, wa_as, wa_bs, wa_cs, wa_blockOf, wa_opener, wa_around, wa_other, wa_end, wa_open, wa_varied, wa_loose, wa_variedVariable, wa_stands, wa_number, wa_isConst, wa_needed, wa_inputs, wa_values, wa_variables, wa_cells, wa_outs, wa_was, wa_rest, wa_line⟩ := v'
    exact br_f (bad hz hy) (h _ _ _ (rl_SR hx hy))
end
end
section
def i_Rel (k : Nat) (u : SX) (v : SY) : Prop := rl_R u v
theorem i_up {k : Nat} {u : SX} {v : SY} (h : i_Rel k u v) : i_Rel (k + 5) u v := h
theorem i_vc0 : wpX_init (fun u => wpY_init (fun v => i_Rel 0 u v)) := ⟨fun _ => 0, 0, ⟨by omega, fun j hj => absurd hj (by omega), fun j hj => absurd hj (by omega)⟩, rfl, rfl, ⟨rfl, rfl, rfl, rfl, rfl⟩, Or.inl ⟨rfl, rfl⟩, ⟨rfl, ⟨0, by omega, rfl⟩, rfl, rfl, fun _ _ => rfl, fun _ _ _ _ => rfl, fun _ _ _ _ => rfl, fun _ _ => rfl⟩, rfl⟩
theorem i_vc_add {k : Nat} {u : SX} {v : SY} (I : i_Rel k u v) (hk : k + 5 ≤ 2560) (v1 : Int32) (v2 : Int32) (v3 : Int32) (v4 : Int32) : wpX_add (fun r u' => wpY_add (fun r' v' => i_Rel (k + 5) u' v') v v1 v2 v3 v4) u v1 v2 v3 v4 := g_add I (fun r u' v' h => h) v1 v2 v3 v4
theorem i_vc_wipe {k : Nat} {u : SX} {v : SY} (I : i_Rel k u v) (hk : k + 5 ≤ 2560) : wpX_wipe (fun r u' => wpY_wipe (fun r' v' => i_Rel (k + 5) u' v') v) u := g_wipe I (fun r u' v' h => h)
theorem i_vc_check {k : Nat} {u : SX} {v : SY} (I : i_Rel k u v) (hk : k + 5 ≤ 2560) : wpX_check (fun r u' => wpY_check (fun r' v' => i_Rel (k + 5) u' v') v) u := g_check I (fun r u' v' h => h)
theorem i_vc_place {k : Nat} {u : SX} {v : SY} (I : i_Rel k u v) (hk : k + 5 ≤ 2560) : wpX_place (fun r u' => wpY_place (fun r' v' => i_Rel (k + 5) u' v') v) u := g_place I (fun r u' v' h => h)
theorem i_vc_lanes {k : Nat} {u : SX} {v : SY} (I : i_Rel k u v) (hk : k + 5 ≤ 2560) (v1 : Int32) (v2 : Int32) : wpX_lanes (fun r u' => wpY_lanes (fun r' v' => i_Rel (k + 5) u' v') v v1 v2) u v1 v2 := g_lanes I (fun r u' v' h => h) v1 v2
theorem i_vc_varied {k : Nat} {u : SX} {v : SY} (I : i_Rel k u v) (hk : k + 5 ≤ 2560) (v1 : Int32) : wpX_varied (fun r u' => wpY_varied (fun r' v' => i_Rel (k + 5) u' v') v v1) u v1 := g_varied I (fun r u' v' h => h) v1
theorem i_vc_shorter {k : Nat} {u : SX} {v : SY} (I : i_Rel k u v) (hk : k + 5 ≤ 2560) (v1 : Int32) (v2 : Int32) : wpX_shorter (fun r u' => wpY_shorter (fun r' v' => i_Rel (k + 5) u' v') v v1 v2) u v1 v2 := g_shorter I (fun r u' v' h => h) v1 v2
theorem i_vc_input {k : Nat} {u : SX} {v : SY} (I : i_Rel k u v) (hk : k + 5 ≤ 2560) (v1 : Int32) (v2 : Int32) (v3 : Int32) : wpX_input (fun r u' => wpY_input (fun r' v' => i_Rel (k + 5) u' v') v v1 v2 v3) u v1 v2 v3 := g_input I (fun r u' v' h => h) v1 v2 v3
theorem i_vc_run {k : Nat} {u : SX} {v : SY} (I : i_Rel k u v) (hk : k + 5 ≤ 2560) (v1 : Int32) : wpX_run (fun r u' => wpY_run (fun r' v' => i_Rel (k + 5) u' v') v (lw_bz v1)) u (lw_bz v1) := g_run I (fun r u' v' h => h) (lw_bz_01 v1)
theorem i_vc_out {k : Nat} {u : SX} {v : SY} (I : i_Rel k u v) (hk : k + 5 ≤ 2560) (v1 : Int32) (v2 : Int32) : wpX_out (fun r => wpY_out (fun r' => i_Rel (k + 5) u v) v v1 v2) u v1 v2 := g_out I (fun r => I) v1 v2
theorem i_vc_kept {k : Nat} {u : SX} {v : SY} (I : i_Rel k u v) (hk : k + 5 ≤ 2560) (v1 : Int32) (v2 : Int32) : wpX_kept (fun r => wpY_kept (fun r' => r' = r ∧ i_Rel (k + 5) u v) v v1 v2) u v1 v2 := g_kept I (fun r => ⟨rfl, I⟩) v1 v2
theorem i_vc_state {k : Nat} {u : SX} {v : SY} (I : i_Rel k u v) (hk : k + 5 ≤ 2560) (v1 : Int32) : wpX_state (fun r => wpY_state (fun r' => i_Rel (k + 5) u v) v v1) u v1 := g_state (fun r r' => I) v1
end
