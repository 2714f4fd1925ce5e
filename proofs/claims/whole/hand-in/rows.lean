section
theorem pk_us {f : Nat → Int32} {k : Nat} {x : Int32} : upd f k x k = x := if_pos rfl
theorem pk_un {f : Nat → Int32} {k j : Nat} {x : Int32} (h : j ≠ k) : upd f k x j = f j := if_neg h
theorem pk_sub {a b : Nat} (h : b ≤ a) : nI a - nI b = nI (a - b) := by
  obtain ⟨c, rfl⟩ : ∃ c, a = c + b := ⟨a - b, by omega⟩
  rw [← nI_add, Int32.add_sub_cancel, Nat.add_sub_cancel]
theorem pk_m1 (n : Nat) : nI (n + 1) + (-1) = nI n := by
  rw [← nI_1, Int32.add_assoc, show (1 : Int32) + (-1) = 0 from rfl, Int32.add_zero]
theorem pk_mul (a b : Nat) : nI a * nI b = nI (a * b) := (Int32.ofNat_mul a b).symm
theorem pk_div {a d : Nat} (ha : a < 2 ^ 31) (h0 : 0 < d) (hd : d < 2 ^ 31) : nI a / nI d = nI (a / d) := by
  apply Int32.toInt_inj.mp
  rw [lg_idiv_nonneg (by rw [nI_toInt ha]; omega) (by rw [nI_toInt hd]; omega), nI_toInt ha, nI_toInt hd, nI_toInt (Nat.lt_of_le_of_lt (Nat.div_le_self a d) ha)]
  first | rfl | exact (Int.natCast_ediv _ _).symm
theorem pk_rem {a d : Nat} (ha : a < 2 ^ 31) (h0 : 0 < d) (hd : d < 2 ^ 31) : nI a - nI a / nI d * nI d = nI (a % d) := by
  rw [pk_div ha h0 hd, pk_mul, pk_sub (Nat.div_mul_le_self a d)]
  exact congrArg nI (by have := Nat.div_add_mod' a d; omega)
theorem pk_sub_toInt {a b : Nat} (ha : a < 2 ^ 30) (hb : b < 2 ^ 30) : (nI a - nI b).toInt = (a : Int) - b := by
  rw [Int32.toInt_sub, nI_toInt (by omega), nI_toInt (by omega)]
  exact Int.bmod_eq_of_le (by omega) (by omega)
theorem pk_sneg {a b : Nat} (hb : b < 2 ^ 30) (h : a < b) : nI a - nI b < 0 := by
  rw [Int32.lt_iff_toInt_lt, pk_sub_toInt (by omega) hb, show (0 : Int32).toInt = 0 from by decide]
  omega
theorem pk_ix (x : Int32) {n : Nat} (hn : n < 2 ^ 31) : x < 0 ∨ nI n ≤ x ∨ ∃ j : Nat, j < n ∧ x = nI j := by
  by_cases h : x < 0
  · exact Or.inl h
  · obtain ⟨j, hj, rfl⟩ := nI_of h
    by_cases h2 : j < n
    · exact Or.inr (Or.inr ⟨j, h2, rfl⟩)
    · exact Or.inr (Or.inl (nI_le (by omega) hj))
theorem pk_le {x y : Int32} {A B : Prop} (a b : Nat) (f : a ≤ b → A) (g : b < a → B) (hx : x = nI a := by rfl) (hy : y = nI b := by rfl) (ha : a < 2 ^ 31 := by omega) (hb : b < 2 ^ 31 := by omega) : (x ≤ y → A) ∧ (¬ x ≤ y → B) := by
  subst hx hy
  rw [nI_leI ha hb]
  exact ⟨f, fun z => g (by omega)⟩
theorem pk_lt {x y : Int32} {A B : Prop} (a b : Nat) (f : a < b → A) (g : b ≤ a → B) (hx : x = nI a := by rfl) (hy : y = nI b := by rfl) (ha : a < 2 ^ 31 := by omega) (hb : b < 2 ^ 31 := by omega) : (x < y → A) ∧ (¬ x < y → B) := by
  subst hx hy
  rw [nI_ltI ha hb]
  exact ⟨f, fun z => g (by omega)⟩
theorem pk_eq {x y : Int32} {A B : Prop} (a b : Nat) (f : a = b → A) (g : a ≠ b → B) (hx : x = nI a := by rfl) (hy : y = nI b := by rfl) (ha : a < 2 ^ 31 := by omega) (hb : b < 2 ^ 31 := by omega) : (x = y → A) ∧ (¬ x = y → B) := by
  subst hx hy
  rw [nI_eq ha hb]
  exact ⟨f, g⟩
theorem pk_in {x : Int32} (n N : Nat) (h : n < N) (hx : x = nI n := by rfl) (hN : N < 2 ^ 31 := by omega) : vp_in x N := by
  subst hx
  exact vp_in_nI h hN
theorem pk_cl {x : Int32} (n : Nat) (hx : x = nI n := by rfl) (h : n < 2 ^ 31 := by omega) : x.toNatClampNeg = n := by
  subst hx
  exact nI_clamp h
theorem pk_tn {n : Nat} (h : n < 2 ^ 32) : (nI n).toBitVec.toNat = n := Nat.mod_eq_of_lt h
theorem pk_and (x : Int32) {m : Int32} (k : Nat) (hm : m.toBitVec.toNat = 2 ^ k - 1) : x &&& m = nI (x.toBitVec.toNat % 2 ^ k) := by
  apply Int32.toBitVec_inj.mp
  apply BitVec.eq_of_toNat_eq
  rw [Int32.toBitVec_and, BitVec.toNat_and, hm, Nat.and_two_pow_sub_one_eq_mod]
  show _ = (BitVec.ofNat 32 _).toNat
  rw [BitVec.toNat_ofNat]
  exact (Nat.mod_eq_of_lt (Nat.lt_of_le_of_lt (Nat.mod_le _ _) x.toBitVec.isLt)).symm
theorem pk_andN {n : Nat} (h : n < 2 ^ 32) {m : Int32} (k : Nat) (hm : m.toBitVec.toNat = 2 ^ k - 1) : nI n &&& m = nI (n % 2 ^ k) := by
  rw [pk_and _ k hm, pk_tn h]
theorem pk_andE (x : Int32) {m : Int32} (k : Nat) (hm : m.toBitVec.toNat = 2 ^ k - 1) : ∃ j : Nat, j < 2 ^ k ∧ x &&& m = nI j := ⟨_, Nat.mod_lt _ (Nat.two_pow_pos k), pk_and x k hm⟩
theorem pk_andIn (x : Int32) {m : Int32} (k : Nat) (hm : m.toBitVec.toNat = 2 ^ k - 1) (hk : k ≤ 30) : vp_in (x &&& m) (2 ^ k) := by
  obtain ⟨j, hj, e⟩ := pk_andE x k hm
  rw [e]
  exact vp_in_nI hj (Nat.lt_of_le_of_lt (Nat.pow_le_pow_right (by decide) hk) (by decide))
theorem pk_shl (a s : Int32) (k : Nat) (hs : (s.toBitVec.smod 32).toNat = k) : (a <<< s).toBitVec.toNat = a.toBitVec.toNat * 2 ^ k % 2 ^ 32 := by
  show (a.toBitVec <<< (s.toBitVec.smod 32).toNat).toNat = _
  rw [hs, BitVec.toNat_shiftLeft, Nat.shiftLeft_eq]
theorem pk_shlN {n : Nat} (s : Int32) (k : Nat) (hs : (s.toBitVec.smod 32).toNat = k) (h : n * 2 ^ k < 2 ^ 32) : nI n <<< s = nI (n * 2 ^ k) := by
  apply Int32.toBitVec_inj.mp
  apply BitVec.eq_of_toNat_eq
  have hn : n < 2 ^ 32 := Nat.lt_of_le_of_lt (Nat.le_mul_of_pos_right n (Nat.two_pow_pos k)) h
  rw [pk_shl _ _ k hs, pk_tn hn, pk_tn h, Nat.mod_eq_of_lt h]
theorem pk_shr (a s : Int32) (k : Nat) (hs : (s.toBitVec.smod 32).toNat = k) : (a >>> s).toInt = a.toInt >>> k := by
  show (a.toBitVec.sshiftRight (s.toBitVec.smod 32).toNat).toInt = _
  rw [hs, BitVec.toInt_sshiftRight]
  rfl
theorem pk_shrN {n : Nat} (h : n < 2 ^ 31) (s : Int32) (k : Nat) (hs : (s.toBitVec.smod 32).toNat = k) : nI n >>> s = nI (n / 2 ^ k) := by
  apply Int32.toInt_inj.mp
  have h2 : n / 2 ^ k ≤ n := Nat.div_le_self _ _
  rw [pk_shr _ _ k hs, nI_toInt h, nI_toInt (by omega), Int.shiftRight_eq_div_pow]
  rfl
theorem pk_ushr (x s : Int32) (k : Nat) (hs : ((s.toUInt32 &&& Int32.toUInt32 31).toBitVec % 32).toNat = k) : (x.toUInt32 >>> (s.toUInt32 &&& Int32.toUInt32 31)).toInt32.toBitVec.toNat = x.toBitVec.toNat / 2 ^ k := by
  have e : (x.toUInt32 >>> (s.toUInt32 &&& Int32.toUInt32 31)).toInt32.toBitVec = x.toBitVec >>> k := by
    rw [← hs]
    exact UInt32.toBitVec_shiftRight _ _
  rw [e, BitVec.toNat_ushiftRight, Nat.shiftRight_eq_div_pow]
theorem pk_ushrN {n : Nat} (hn : n < 2 ^ 32) (s : Int32) (k : Nat) (hs : ((s.toUInt32 &&& Int32.toUInt32 31).toBitVec % 32).toNat = k) : ((nI n).toUInt32 >>> (s.toUInt32 &&& Int32.toUInt32 31)).toInt32 = nI (n / 2 ^ k) := by
  apply Int32.toBitVec_inj.mp
  apply BitVec.eq_of_toNat_eq
  rw [pk_ushr _ s k hs, pk_tn hn, pk_tn (Nat.lt_of_le_of_lt (Nat.div_le_self _ _) hn)]
theorem pk_loop {σ : Type} (W : Nat → Nat → σ → Prop) (I : Nat → σ → Prop) (e i0 : Nat) (s : σ) (hi : i0 ≤ e) (h0 : I i0 s) (hx : ∀ n s, I e s → W (n + 1) e s)
    (hs : ∀ n i s, i < e → I i s → (∀ s', I (i + 1) s' → W n (i + 1) s') → W (n + 1) i s) : ∃ n, W n i0 s :=
  ⟨e + 1, loop_i W I e hx hs (e + 1) i0 s hi (by omega) h0⟩
theorem pk_loopD {σ : Type} (W : Nat → Nat → σ → Prop) (I : Nat → σ → Prop) (hx : ∀ n s, I 0 s → W (n + 1) 0 s)
    (hs : ∀ n i s, I (i + 1) s → (∀ s', I i s' → W n i s') → W (n + 1) (i + 1) s) : ∀ (e : Nat) (s : σ), I e s → W (e + 1) e s := by
  intro e
  induction e with
  | zero => exact fun s h => hx 0 s h
  | succ e ih => exact fun s h => hs (e + 1) e s h (fun s' h' => ih s' h')
theorem lp1 {A1 : Type} (W : Nat → A1 → Prop) (I : A1 → Prop) (μ : A1 → Nat) (hs : ∀ (n : Nat) (a1 : A1), I a1 → (∀ (b1 : A1), I b1 → μ b1 < μ a1 → W n b1) → W (n + 1) a1) (a1 : A1) (h : I a1) : ∃ n, W n a1 :=
  loop_m (σ := A1) (fun n s => W n s) (fun s => I s) (fun s => μ s) (fun n s hI hk => hs n s hI (fun b1 h9 hm => hk b1 h9 hm)) a1 h
theorem lp2 {A1 A2 : Type} (W : Nat → A1 → A2 → Prop) (I : A1 → A2 → Prop) (μ : A1 → A2 → Nat) (hs : ∀ (n : Nat) (a1 : A1) (a2 : A2), I a1 a2 → (∀ (b1 : A1) (b2 : A2), I b1 b2 → μ b1 b2 < μ a1 a2 → W n b1 b2) → W (n + 1) a1 a2) (a1 : A1) (a2 : A2) (h : I a1 a2) : ∃ n, W n a1 a2 :=
  loop_m (σ := A1 × A2) (fun n s => W n s.1 s.2) (fun s => I s.1 s.2) (fun s => μ s.1 s.2) (fun n s hI hk => hs n s.1 s.2 hI (fun b1 b2 h9 hm => hk (b1, b2) h9 hm)) (a1, a2) h
theorem lp3 {A1 A2 A3 : Type} (W : Nat → A1 → A2 → A3 → Prop) (I : A1 → A2 → A3 → Prop) (μ : A1 → A2 → A3 → Nat) (hs : ∀ (n : Nat) (a1 : A1) (a2 : A2) (a3 : A3), I a1 a2 a3 → (∀ (b1 : A1) (b2 : A2) (b3 : A3), I b1 b2 b3 → μ b1 b2 b3 < μ a1 a2 a3 → W n b1 b2 b3) → W (n + 1) a1 a2 a3) (a1 : A1) (a2 : A2) (a3 : A3) (h : I a1 a2 a3) : ∃ n, W n a1 a2 a3 :=
  loop_m (σ := A1 × A2 × A3) (fun n s => W n s.1 s.2.1 s.2.2) (fun s => I s.1 s.2.1 s.2.2) (fun s => μ s.1 s.2.1 s.2.2) (fun n s hI hk => hs n s.1 s.2.1 s.2.2 hI (fun b1 b2 b3 h9 hm => hk (b1, b2, b3) h9 hm)) (a1, a2, a3) h
theorem lp4 {A1 A2 A3 A4 : Type} (W : Nat → A1 → A2 → A3 → A4 → Prop) (I : A1 → A2 → A3 → A4 → Prop) (μ : A1 → A2 → A3 → A4 → Nat) (hs : ∀ (n : Nat) (a1 : A1) (a2 : A2) (a3 : A3) (a4 : A4), I a1 a2 a3 a4 → (∀ (b1 : A1) (b2 : A2) (b3 : A3) (b4 : A4), I b1 b2 b3 b4 → μ b1 b2 b3 b4 < μ a1 a2 a3 a4 → W n b1 b2 b3 b4) → W (n + 1) a1 a2 a3 a4) (a1 : A1) (a2 : A2) (a3 : A3) (a4 : A4) (h : I a1 a2 a3 a4) : ∃ n, W n a1 a2 a3 a4 :=
  loop_m (σ := A1 × A2 × A3 × A4) (fun n s => W n s.1 s.2.1 s.2.2.1 s.2.2.2) (fun s => I s.1 s.2.1 s.2.2.1 s.2.2.2) (fun s => μ s.1 s.2.1 s.2.2.1 s.2.2.2) (fun n s hI hk => hs n s.1 s.2.1 s.2.2.1 s.2.2.2 hI (fun b1 b2 b3 b4 h9 hm => hk (b1, b2, b3, b4) h9 hm)) (a1, a2, a3, a4) h
theorem lp5 {A1 A2 A3 A4 A5 : Type} (W : Nat → A1 → A2 → A3 → A4 → A5 → Prop) (I : A1 → A2 → A3 → A4 → A5 → Prop) (μ : A1 → A2 → A3 → A4 → A5 → Nat) (hs : ∀ (n : Nat) (a1 : A1) (a2 : A2) (a3 : A3) (a4 : A4) (a5 : A5), I a1 a2 a3 a4 a5 → (∀ (b1 : A1) (b2 : A2) (b3 : A3) (b4 : A4) (b5 : A5), I b1 b2 b3 b4 b5 → μ b1 b2 b3 b4 b5 < μ a1 a2 a3 a4 a5 → W n b1 b2 b3 b4 b5) → W (n + 1) a1 a2 a3 a4 a5) (a1 : A1) (a2 : A2) (a3 : A3) (a4 : A4) (a5 : A5) (h : I a1 a2 a3 a4 a5) : ∃ n, W n a1 a2 a3 a4 a5 :=
  loop_m (σ := A1 × A2 × A3 × A4 × A5) (fun n s => W n s.1 s.2.1 s.2.2.1 s.2.2.2.1 s.2.2.2.2) (fun s => I s.1 s.2.1 s.2.2.1 s.2.2.2.1 s.2.2.2.2) (fun s => μ s.1 s.2.1 s.2.2.1 s.2.2.2.1 s.2.2.2.2) (fun n s hI hk => hs n s.1 s.2.1 s.2.2.1 s.2.2.2.1 s.2.2.2.2 hI (fun b1 b2 b3 b4 b5 h9 hm => hk (b1, b2, b3, b4, b5) h9 hm)) (a1, a2, a3, a4, a5) h
theorem lp6 {A1 A2 A3 A4 A5 A6 : Type} (W : Nat → A1 → A2 → A3 → A4 → A5 → A6 → Prop) (I : A1 → A2 → A3 → A4 → A5 → A6 → Prop) (μ : A1 → A2 → A3 → A4 → A5 → A6 → Nat) (hs : ∀ (n : Nat) (a1 : A1) (a2 : A2) (a3 : A3) (a4 : A4) (a5 : A5) (a6 : A6), I a1 a2 a3 a4 a5 a6 → (∀ (b1 : A1) (b2 : A2) (b3 : A3) (b4 : A4) (b5 : A5) (b6 : A6), I b1 b2 b3 b4 b5 b6 → μ b1 b2 b3 b4 b5 b6 < μ a1 a2 a3 a4 a5 a6 → W n b1 b2 b3 b4 b5 b6) → W (n + 1) a1 a2 a3 a4 a5 a6) (a1 : A1) (a2 : A2) (a3 : A3) (a4 : A4) (a5 : A5) (a6 : A6) (h : I a1 a2 a3 a4 a5 a6) : ∃ n, W n a1 a2 a3 a4 a5 a6 :=
  loop_m (σ := A1 × A2 × A3 × A4 × A5 × A6) (fun n s => W n s.1 s.2.1 s.2.2.1 s.2.2.2.1 s.2.2.2.2.1 s.2.2.2.2.2) (fun s => I s.1 s.2.1 s.2.2.1 s.2.2.2.1 s.2.2.2.2.1 s.2.2.2.2.2) (fun s => μ s.1 s.2.1 s.2.2.1 s.2.2.2.1 s.2.2.2.2.1 s.2.2.2.2.2) (fun n s hI hk => hs n s.1 s.2.1 s.2.2.1 s.2.2.2.1 s.2.2.2.2.1 s.2.2.2.2.2 hI (fun b1 b2 b3 b4 b5 b6 h9 hm => hk (b1, b2, b3, b4, b5, b6) h9 hm)) (a1, a2, a3, a4, a5, a6) h
theorem lp7 {A1 A2 A3 A4 A5 A6 A7 : Type} (W : Nat → A1 → A2 → A3 → A4 → A5 → A6 → A7 → Prop) (I : A1 → A2 → A3 → A4 → A5 → A6 → A7 → Prop) (μ : A1 → A2 → A3 → A4 → A5 → A6 → A7 → Nat) (hs : ∀ (n : Nat) (a1 : A1) (a2 : A2) (a3 : A3) (a4 : A4) (a5 : A5) (a6 : A6) (a7 : A7), I a1 a2 a3 a4 a5 a6 a7 → (∀ (b1 : A1) (b2 : A2) (b3 : A3) (b4 : A4) (b5 : A5) (b6 : A6) (b7 : A7), I b1 b2 b3 b4 b5 b6 b7 → μ b1 b2 b3 b4 b5 b6 b7 < μ a1 a2 a3 a4 a5 a6 a7 → W n b1 b2 b3 b4 b5 b6 b7) → W (n + 1) a1 a2 a3 a4 a5 a6 a7) (a1 : A1) (a2 : A2) (a3 : A3) (a4 : A4) (a5 : A5) (a6 : A6) (a7 : A7) (h : I a1 a2 a3 a4 a5 a6 a7) : ∃ n, W n a1 a2 a3 a4 a5 a6 a7 :=
  loop_m (σ := A1 × A2 × A3 × A4 × A5 × A6 × A7) (fun n s => W n s.1 s.2.1 s.2.2.1 s.2.2.2.1 s.2.2.2.2.1 s.2.2.2.2.2.1 s.2.2.2.2.2.2) (fun s => I s.1 s.2.1 s.2.2.1 s.2.2.2.1 s.2.2.2.2.1 s.2.2.2.2.2.1 s.2.2.2.2.2.2) (fun s => μ s.1 s.2.1 s.2.2.1 s.2.2.2.1 s.2.2.2.2.1 s.2.2.2.2.2.1 s.2.2.2.2.2.2) (fun n s hI hk => hs n s.1 s.2.1 s.2.2.1 s.2.2.2.1 s.2.2.2.2.1 s.2.2.2.2.2.1 s.2.2.2.2.2.2 hI (fun b1 b2 b3 b4 b5 b6 b7 h9 hm => hk (b1, b2, b3, b4, b5, b6, b7) h9 hm)) (a1, a2, a3, a4, a5, a6, a7) h
theorem lp8 {A1 A2 A3 A4 A5 A6 A7 A8 : Type} (W : Nat → A1 → A2 → A3 → A4 → A5 → A6 → A7 → A8 → Prop) (I : A1 → A2 → A3 → A4 → A5 → A6 → A7 → A8 → Prop) (μ : A1 → A2 → A3 → A4 → A5 → A6 → A7 → A8 → Nat) (hs : ∀ (n : Nat) (a1 : A1) (a2 : A2) (a3 : A3) (a4 : A4) (a5 : A5) (a6 : A6) (a7 : A7) (a8 : A8), I a1 a2 a3 a4 a5 a6 a7 a8 → (∀ (b1 : A1) (b2 : A2) (b3 : A3) (b4 : A4) (b5 : A5) (b6 : A6) (b7 : A7) (b8 : A8), I b1 b2 b3 b4 b5 b6 b7 b8 → μ b1 b2 b3 b4 b5 b6 b7 b8 < μ a1 a2 a3 a4 a5 a6 a7 a8 → W n b1 b2 b3 b4 b5 b6 b7 b8) → W (n + 1) a1 a2 a3 a4 a5 a6 a7 a8) (a1 : A1) (a2 : A2) (a3 : A3) (a4 : A4) (a5 : A5) (a6 : A6) (a7 : A7) (a8 : A8) (h : I a1 a2 a3 a4 a5 a6 a7 a8) : ∃ n, W n a1 a2 a3 a4 a5 a6 a7 a8 :=
  loop_m (σ := A1 × A2 × A3 × A4 × A5 × A6 × A7 × A8) (fun n s => W n s.1 s.2.1 s.2.2.1 s.2.2.2.1 s.2.2.2.2.1 s.2.2.2.2.2.1 s.2.2.2.2.2.2.1 s.2.2.2.2.2.2.2) (fun s => I s.1 s.2.1 s.2.2.1 s.2.2.2.1 s.2.2.2.2.1 s.2.2.2.2.2.1 s.2.2.2.2.2.2.1 s.2.2.2.2.2.2.2) (fun s => μ s.1 s.2.1 s.2.2.1 s.2.2.2.1 s.2.2.2.2.1 s.2.2.2.2.2.1 s.2.2.2.2.2.2.1 s.2.2.2.2.2.2.2) (fun n s hI hk => hs n s.1 s.2.1 s.2.2.1 s.2.2.2.1 s.2.2.2.2.1 s.2.2.2.2.2.1 s.2.2.2.2.2.2.1 s.2.2.2.2.2.2.2 hI (fun b1 b2 b3 b4 b5 b6 b7 b8 h9 hm => hk (b1, b2, b3, b4, b5, b6, b7, b8) h9 hm)) (a1, a2, a3, a4, a5, a6, a7, a8) h
theorem lp9 {A1 A2 A3 A4 A5 A6 A7 A8 A9 : Type} (W : Nat → A1 → A2 → A3 → A4 → A5 → A6 → A7 → A8 → A9 → Prop) (I : A1 → A2 → A3 → A4 → A5 → A6 → A7 → A8 → A9 → Prop) (μ : A1 → A2 → A3 → A4 → A5 → A6 → A7 → A8 → A9 → Nat) (hs : ∀ (n : Nat) (a1 : A1) (a2 : A2) (a3 : A3) (a4 : A4) (a5 : A5) (a6 : A6) (a7 : A7) (a8 : A8) (a9 : A9), I a1 a2 a3 a4 a5 a6 a7 a8 a9 → (∀ (b1 : A1) (b2 : A2) (b3 : A3) (b4 : A4) (b5 : A5) (b6 : A6) (b7 : A7) (b8 : A8) (b9 : A9), I b1 b2 b3 b4 b5 b6 b7 b8 b9 → μ b1 b2 b3 b4 b5 b6 b7 b8 b9 < μ a1 a2 a3 a4 a5 a6 a7 a8 a9 → W n b1 b2 b3 b4 b5 b6 b7 b8 b9) → W (n + 1) a1 a2 a3 a4 a5 a6 a7 a8 a9) (a1 : A1) (a2 : A2) (a3 : A3) (a4 : A4) (a5 : A5) (a6 : A6) (a7 : A7) (a8 : A8) (a9 : A9) (h : I a1 a2 a3 a4 a5 a6 a7 a8 a9) : ∃ n, W n a1 a2 a3 a4 a5 a6 a7 a8 a9 :=
  loop_m (σ := A1 × A2 × A3 × A4 × A5 × A6 × A7 × A8 × A9) (fun n s => W n s.1 s.2.1 s.2.2.1 s.2.2.2.1 s.2.2.2.2.1 s.2.2.2.2.2.1 s.2.2.2.2.2.2.1 s.2.2.2.2.2.2.2.1 s.2.2.2.2.2.2.2.2) (fun s => I s.1 s.2.1 s.2.2.1 s.2.2.2.1 s.2.2.2.2.1 s.2.2.2.2.2.1 s.2.2.2.2.2.2.1 s.2.2.2.2.2.2.2.1 s.2.2.2.2.2.2.2.2) (fun s => μ s.1 s.2.1 s.2.2.1 s.2.2.2.1 s.2.2.2.2.1 s.2.2.2.2.2.1 s.2.2.2.2.2.2.1 s.2.2.2.2.2.2.2.1 s.2.2.2.2.2.2.2.2) (fun n s hI hk => hs n s.1 s.2.1 s.2.2.1 s.2.2.2.1 s.2.2.2.2.1 s.2.2.2.2.2.1 s.2.2.2.2.2.2.1 s.2.2.2.2.2.2.2.1 s.2.2.2.2.2.2.2.2 hI (fun b1 b2 b3 b4 b5 b6 b7 b8 b9 h9 hm => hk (b1, b2, b3, b4, b5, b6, b7, b8, b9) h9 hm)) (a1, a2, a3, a4, a5, a6, a7, a8, a9) h
theorem lp10 {A1 A2 A3 A4 A5 A6 A7 A8 A9 A10 : Type} (W : Nat → A1 → A2 → A3 → A4 → A5 → A6 → A7 → A8 → A9 → A10 → Prop) (I : A1 → A2 → A3 → A4 → A5 → A6 → A7 → A8 → A9 → A10 → Prop) (μ : A1 → A2 → A3 → A4 → A5 → A6 → A7 → A8 → A9 → A10 → Nat) (hs : ∀ (n : Nat) (a1 : A1) (a2 : A2) (a3 : A3) (a4 : A4) (a5 : A5) (a6 : A6) (a7 : A7) (a8 : A8) (a9 : A9) (a10 : A10), I a1 a2 a3 a4 a5 a6 a7 a8 a9 a10 → (∀ (b1 : A1) (b2 : A2) (b3 : A3) (b4 : A4) (b5 : A5) (b6 : A6) (b7 : A7) (b8 : A8) (b9 : A9) (b10 : A10), I b1 b2 b3 b4 b5 b6 b7 b8 b9 b10 → μ b1 b2 b3 b4 b5 b6 b7 b8 b9 b10 < μ a1 a2 a3 a4 a5 a6 a7 a8 a9 a10 → W n b1 b2 b3 b4 b5 b6 b7 b8 b9 b10) → W (n + 1) a1 a2 a3 a4 a5 a6 a7 a8 a9 a10) (a1 : A1) (a2 : A2) (a3 : A3) (a4 : A4) (a5 : A5) (a6 : A6) (a7 : A7) (a8 : A8) (a9 : A9) (a10 : A10) (h : I a1 a2 a3 a4 a5 a6 a7 a8 a9 a10) : ∃ n, W n a1 a2 a3 a4 a5 a6 a7 a8 a9 a10 :=
  loop_m (σ := A1 × A2 × A3 × A4 × A5 × A6 × A7 × A8 × A9 × A10) (fun n s => W n s.1 s.2.1 s.2.2.1 s.2.2.2.1 s.2.2.2.2.1 s.2.2.2.2.2.1 s.2.2.2.2.2.2.1 s.2.2.2.2.2.2.2.1 s.2.2.2.2.2.2.2.2.1 s.2.2.2.2.2.2.2.2.2) (fun s => I s.1 s.2.1 s.2.2.1 s.2.2.2.1 s.2.2.2.2.1 s.2.2.2.2.2.1 s.2.2.2.2.2.2.1 s.2.2.2.2.2.2.2.1 s.2.2.2.2.2.2.2.2.1 s.2.2.2.2.2.2.2.2.2) (fun s => μ s.1 s.2.1 s.2.2.1 s.2.2.2.1 s.2.2.2.2.1 s.2.2.2.2.2.1 s.2.2.2.2.2.2.1 s.2.2.2.2.2.2.2.1 s.2.2.2.2.2.2.2.2.1 s.2.2.2.2.2.2.2.2.2) (fun n s hI hk => hs n s.1 s.2.1 s.2.2.1 s.2.2.2.1 s.2.2.2.2.1 s.2.2.2.2.2.1 s.2.2.2.2.2.2.1 s.2.2.2.2.2.2.2.1 s.2.2.2.2.2.2.2.2.1 s.2.2.2.2.2.2.2.2.2 hI (fun b1 b2 b3 b4 b5 b6 b7 b8 b9 b10 h9 hm => hk (b1, b2, b3, b4, b5, b6, b7, b8, b9, b10) h9 hm)) (a1, a2, a3, a4, a5, a6, a7, a8, a9, a10) h
theorem lp11 {A1 A2 A3 A4 A5 A6 A7 A8 A9 A10 A11 : Type} (W : Nat → A1 → A2 → A3 → A4 → A5 → A6 → A7 → A8 → A9 → A10 → A11 → Prop) (I : A1 → A2 → A3 → A4 → A5 → A6 → A7 → A8 → A9 → A10 → A11 → Prop) (μ : A1 → A2 → A3 → A4 → A5 → A6 → A7 → A8 → A9 → A10 → A11 → Nat) (hs : ∀ (n : Nat) (a1 : A1) (a2 : A2) (a3 : A3) (a4 : A4) (a5 : A5) (a6 : A6) (a7 : A7) (a8 : A8) (a9 : A9) (a10 : A10) (a11 : A11), I a1 a2 a3 a4 a5 a6 a7 a8 a9 a10 a11 → (∀ (b1 : A1) (b2 : A2) (b3 : A3) (b4 : A4) (b5 : A5) (b6 : A6) (b7 : A7) (b8 : A8) (b9 : A9) (b10 : A10) (b11 : A11), I b1 b2 b3 b4 b5 b6 b7 b8 b9 b10 b11 → μ b1 b2 b3 b4 b5 b6 b7 b8 b9 b10 b11 < μ a1 a2 a3 a4 a5 a6 a7 a8 a9 a10 a11 → W n b1 b2 b3 b4 b5 b6 b7 b8 b9 b10 b11) → W (n + 1) a1 a2 a3 a4 a5 a6 a7 a8 a9 a10 a11) (a1 : A1) (a2 : A2) (a3 : A3) (a4 : A4) (a5 : A5) (a6 : A6) (a7 : A7) (a8 : A8) (a9 : A9) (a10 : A10) (a11 : A11) (h : I a1 a2 a3 a4 a5 a6 a7 a8 a9 a10 a11) : ∃ n, W n a1 a2 a3 a4 a5 a6 a7 a8 a9 a10 a11 :=
  loop_m (σ := A1 × A2 × A3 × A4 × A5 × A6 × A7 × A8 × A9 × A10 × A11) (fun n s => W n s.1 s.2.1 s.2.2.1 s.2.2.2.1 s.2.2.2.2.1 s.2.2.2.2.2.1 s.2.2.2.2.2.2.1 s.2.2.2.2.2.2.2.1 s.2.2.2.2.2.2.2.2.1 s.2.2.2.2.2.2.2.2.2.1 s.2.2.2.2.2.2.2.2.2.2) (fun s => I s.1 s.2.1 s.2.2.1 s.2.2.2.1 s.2.2.2.2.1 s.2.2.2.2.2.1 s.2.2.2.2.2.2.1 s.2.2.2.2.2.2.2.1 s.2.2.2.2.2.2.2.2.1 s.2.2.2.2.2.2.2.2.2.1 s.2.2.2.2.2.2.2.2.2.2) (fun s => μ s.1 s.2.1 s.2.2.1 s.2.2.2.1 s.2.2.2.2.1 s.2.2.2.2.2.1 s.2.2.2.2.2.2.1 s.2.2.2.2.2.2.2.1 s.2.2.2.2.2.2.2.2.1 s.2.2.2.2.2.2.2.2.2.1 s.2.2.2.2.2.2.2.2.2.2) (fun n s hI hk => hs n s.1 s.2.1 s.2.2.1 s.2.2.2.1 s.2.2.2.2.1 s.2.2.2.2.2.1 s.2.2.2.2.2.2.1 s.2.2.2.2.2.2.2.1 s.2.2.2.2.2.2.2.2.1 s.2.2.2.2.2.2.2.2.2.1 s.2.2.2.2.2.2.2.2.2.2 hI (fun b1 b2 b3 b4 b5 b6 b7 b8 b9 b10 b11 h9 hm => hk (b1, b2, b3, b4, b5, b6, b7, b8, b9, b10, b11) h9 hm)) (a1, a2, a3, a4, a5, a6, a7, a8, a9, a10, a11) h
theorem lp12 {A1 A2 A3 A4 A5 A6 A7 A8 A9 A10 A11 A12 : Type} (W : Nat → A1 → A2 → A3 → A4 → A5 → A6 → A7 → A8 → A9 → A10 → A11 → A12 → Prop) (I : A1 → A2 → A3 → A4 → A5 → A6 → A7 → A8 → A9 → A10 → A11 → A12 → Prop) (μ : A1 → A2 → A3 → A4 → A5 → A6 → A7 → A8 → A9 → A10 → A11 → A12 → Nat) (hs : ∀ (n : Nat) (a1 : A1) (a2 : A2) (a3 : A3) (a4 : A4) (a5 : A5) (a6 : A6) (a7 : A7) (a8 : A8) (a9 : A9) (a10 : A10) (a11 : A11) (a12 : A12), I a1 a2 a3 a4 a5 a6 a7 a8 a9 a10 a11 a12 → (∀ (b1 : A1) (b2 : A2) (b3 : A3) (b4 : A4) (b5 : A5) (b6 : A6) (b7 : A7) (b8 : A8) (b9 : A9) (b10 : A10) (b11 : A11) (b12 : A12), I b1 b2 b3 b4 b5 b6 b7 b8 b9 b10 b11 b12 → μ b1 b2 b3 b4 b5 b6 b7 b8 b9 b10 b11 b12 < μ a1 a2 a3 a4 a5 a6 a7 a8 a9 a10 a11 a12 → W n b1 b2 b3 b4 b5 b6 b7 b8 b9 b10 b11 b12) → W (n + 1) a1 a2 a3 a4 a5 a6 a7 a8 a9 a10 a11 a12) (a1 : A1) (a2 : A2) (a3 : A3) (a4 : A4) (a5 : A5) (a6 : A6) (a7 : A7) (a8 : A8) (a9 : A9) (a10 : A10) (a11 : A11) (a12 : A12) (h : I a1 a2 a3 a4 a5 a6 a7 a8 a9 a10 a11 a12) : ∃ n, W n a1 a2 a3 a4 a5 a6 a7 a8 a9 a10 a11 a12 :=
  loop_m (σ := A1 × A2 × A3 × A4 × A5 × A6 × A7 × A8 × A9 × A10 × A11 × A12) (fun n s => W n s.1 s.2.1 s.2.2.1 s.2.2.2.1 s.2.2.2.2.1 s.2.2.2.2.2.1 s.2.2.2.2.2.2.1 s.2.2.2.2.2.2.2.1 s.2.2.2.2.2.2.2.2.1 s.2.2.2.2.2.2.2.2.2.1 s.2.2.2.2.2.2.2.2.2.2.1 s.2.2.2.2.2.2.2.2.2.2.2) (fun s => I s.1 s.2.1 s.2.2.1 s.2.2.2.1 s.2.2.2.2.1 s.2.2.2.2.2.1 s.2.2.2.2.2.2.1 s.2.2.2.2.2.2.2.1 s.2.2.2.2.2.2.2.2.1 s.2.2.2.2.2.2.2.2.2.1 s.2.2.2.2.2.2.2.2.2.2.1 s.2.2.2.2.2.2.2.2.2.2.2) (fun s => μ s.1 s.2.1 s.2.2.1 s.2.2.2.1 s.2.2.2.2.1 s.2.2.2.2.2.1 s.2.2.2.2.2.2.1 s.2.2.2.2.2.2.2.1 s.2.2.2.2.2.2.2.2.1 s.2.2.2.2.2.2.2.2.2.1 s.2.2.2.2.2.2.2.2.2.2.1 s.2.2.2.2.2.2.2.2.2.2.2) (fun n s hI hk => hs n s.1 s.2.1 s.2.2.1 s.2.2.2.1 s.2.2.2.2.1 s.2.2.2.2.2.1 s.2.2.2.2.2.2.1 s.2.2.2.2.2.2.2.1 s.2.2.2.2.2.2.2.2.1 s.2.2.2.2.2.2.2.2.2.1 s.2.2.2.2.2.2.2.2.2.2.1 s.2.2.2.2.2.2.2.2.2.2.2 hI (fun b1 b2 b3 b4 b5 b6 b7 b8 b9 b10 b11 b12 h9 hm => hk (b1, b2, b3, b4, b5, b6, b7, b8, b9, b10, b11, b12) h9 hm)) (a1, a2, a3, a4, a5, a6, a7, a8, a9, a10, a11, a12) h
theorem lp13 {A1 A2 A3 A4 A5 A6 A7 A8 A9 A10 A11 A12 A13 : Type} (W : Nat → A1 → A2 → A3 → A4 → A5 → A6 → A7 → A8 → A9 → A10 → A11 → A12 → A13 → Prop) (I : A1 → A2 → A3 → A4 → A5 → A6 → A7 → A8 → A9 → A10 → A11 → A12 → A13 → Prop) (μ : A1 → A2 → A3 → A4 → A5 → A6 → A7 → A8 → A9 → A10 → A11 → A12 → A13 → Nat) (hs : ∀ (n : Nat) (a1 : A1) (a2 : A2) (a3 : A3) (a4 : A4) (a5 : A5) (a6 : A6) (a7 : A7) (a8 : A8) (a9 : A9) (a10 : A10) (a11 : A11) (a12 : A12) (a13 : A13), I a1 a2 a3 a4 a5 a6 a7 a8 a9 a10 a11 a12 a13 → (∀ (b1 : A1) (b2 : A2) (b3 : A3) (b4 : A4) (b5 : A5) (b6 : A6) (b7 : A7) (b8 : A8) (b9 : A9) (b10 : A10) (b11 : A11) (b12 : A12) (b13 : A13), I b1 b2 b3 b4 b5 b6 b7 b8 b9 b10 b11 b12 b13 → μ b1 b2 b3 b4 b5 b6 b7 b8 b9 b10 b11 b12 b13 < μ a1 a2 a3 a4 a5 a6 a7 a8 a9 a10 a11 a12 a13 → W n b1 b2 b3 b4 b5 b6 b7 b8 b9 b10 b11 b12 b13) → W (n + 1) a1 a2 a3 a4 a5 a6 a7 a8 a9 a10 a11 a12 a13) (a1 : A1) (a2 : A2) (a3 : A3) (a4 : A4) (a5 : A5) (a6 : A6) (a7 : A7) (a8 : A8) (a9 : A9) (a10 : A10) (a11 : A11) (a12 : A12) (a13 : A13) (h : I a1 a2 a3 a4 a5 a6 a7 a8 a9 a10 a11 a12 a13) : ∃ n, W n a1 a2 a3 a4 a5 a6 a7 a8 a9 a10 a11 a12 a13 :=
  loop_m (σ := A1 × A2 × A3 × A4 × A5 × A6 × A7 × A8 × A9 × A10 × A11 × A12 × A13) (fun n s => W n s.1 s.2.1 s.2.2.1 s.2.2.2.1 s.2.2.2.2.1 s.2.2.2.2.2.1 s.2.2.2.2.2.2.1 s.2.2.2.2.2.2.2.1 s.2.2.2.2.2.2.2.2.1 s.2.2.2.2.2.2.2.2.2.1 s.2.2.2.2.2.2.2.2.2.2.1 s.2.2.2.2.2.2.2.2.2.2.2.1 s.2.2.2.2.2.2.2.2.2.2.2.2) (fun s => I s.1 s.2.1 s.2.2.1 s.2.2.2.1 s.2.2.2.2.1 s.2.2.2.2.2.1 s.2.2.2.2.2.2.1 s.2.2.2.2.2.2.2.1 s.2.2.2.2.2.2.2.2.1 s.2.2.2.2.2.2.2.2.2.1 s.2.2.2.2.2.2.2.2.2.2.1 s.2.2.2.2.2.2.2.2.2.2.2.1 s.2.2.2.2.2.2.2.2.2.2.2.2) (fun s => μ s.1 s.2.1 s.2.2.1 s.2.2.2.1 s.2.2.2.2.1 s.2.2.2.2.2.1 s.2.2.2.2.2.2.1 s.2.2.2.2.2.2.2.1 s.2.2.2.2.2.2.2.2.1 s.2.2.2.2.2.2.2.2.2.1 s.2.2.2.2.2.2.2.2.2.2.1 s.2.2.2.2.2.2.2.2.2.2.2.1 s.2.2.2.2.2.2.2.2.2.2.2.2) (fun n s hI hk => hs n s.1 s.2.1 s.2.2.1 s.2.2.2.1 s.2.2.2.2.1 s.2.2.2.2.2.1 s.2.2.2.2.2.2.1 s.2.2.2.2.2.2.2.1 s.2.2.2.2.2.2.2.2.1 s.2.2.2.2.2.2.2.2.2.1 s.2.2.2.2.2.2.2.2.2.2.1 s.2.2.2.2.2.2.2.2.2.2.2.1 s.2.2.2.2.2.2.2.2.2.2.2.2 hI (fun b1 b2 b3 b4 b5 b6 b7 b8 b9 b10 b11 b12 b13 h9 hm => hk (b1, b2, b3, b4, b5, b6, b7, b8, b9, b10, b11, b12, b13) h9 hm)) (a1, a2, a3, a4, a5, a6, a7, a8, a9, a10, a11, a12, a13) h
theorem lp14 {A1 A2 A3 A4 A5 A6 A7 A8 A9 A10 A11 A12 A13 A14 : Type} (W : Nat → A1 → A2 → A3 → A4 → A5 → A6 → A7 → A8 → A9 → A10 → A11 → A12 → A13 → A14 → Prop) (I : A1 → A2 → A3 → A4 → A5 → A6 → A7 → A8 → A9 → A10 → A11 → A12 → A13 → A14 → Prop) (μ : A1 → A2 → A3 → A4 → A5 → A6 → A7 → A8 → A9 → A10 → A11 → A12 → A13 → A14 → Nat) (hs : ∀ (n : Nat) (a1 : A1) (a2 : A2) (a3 : A3) (a4 : A4) (a5 : A5) (a6 : A6) (a7 : A7) (a8 : A8) (a9 : A9) (a10 : A10) (a11 : A11) (a12 : A12) (a13 : A13) (a14 : A14), I a1 a2 a3 a4 a5 a6 a7 a8 a9 a10 a11 a12 a13 a14 → (∀ (b1 : A1) (b2 : A2) (b3 : A3) (b4 : A4) (b5 : A5) (b6 : A6) (b7 : A7) (b8 : A8) (b9 : A9) (b10 : A10) (b11 : A11) (b12 : A12) (b13 : A13) (b14 : A14), I b1 b2 b3 b4 b5 b6 b7 b8 b9 b10 b11 b12 b13 b14 → μ b1 b2 b3 b4 b5 b6 b7 b8 b9 b10 b11 b12 b13 b14 < μ a1 a2 a3 a4 a5 a6 a7 a8 a9 a10 a11 a12 a13 a14 → W n b1 b2 b3 b4 b5 b6 b7 b8 b9 b10 b11 b12 b13 b14) → W (n + 1) a1 a2 a3 a4 a5 a6 a7 a8 a9 a10 a11 a12 a13 a14) (a1 : A1) (a2 : A2) (a3 : A3) (a4 : A4) (a5 : A5) (a6 : A6) (a7 : A7) (a8 : A8) (a9 : A9) (a10 : A10) (a11 : A11) (a12 : A12) (a13 : A13) (a14 : A14) (h : I a1 a2 a3 a4 a5 a6 a7 a8 a9 a10 a11 a12 a13 a14) : ∃ n, W n a1 a2 a3 a4 a5 a6 a7 a8 a9 a10 a11 a12 a13 a14 :=
  loop_m (σ := A1 × A2 × A3 × A4 × A5 × A6 × A7 × A8 × A9 × A10 × A11 × A12 × A13 × A14) (fun n s => W n s.1 s.2.1 s.2.2.1 s.2.2.2.1 s.2.2.2.2.1 s.2.2.2.2.2.1 s.2.2.2.2.2.2.1 s.2.2.2.2.2.2.2.1 s.2.2.2.2.2.2.2.2.1 s.2.2.2.2.2.2.2.2.2.1 s.2.2.2.2.2.2.2.2.2.2.1 s.2.2.2.2.2.2.2.2.2.2.2.1 s.2.2.2.2.2.2.2.2.2.2.2.2.1 s.2.2.2.2.2.2.2.2.2.2.2.2.2) (fun s => I s.1 s.2.1 s.2.2.1 s.2.2.2.1 s.2.2.2.2.1 s.2.2.2.2.2.1 s.2.2.2.2.2.2.1 s.2.2.2.2.2.2.2.1 s.2.2.2.2.2.2.2.2.1 s.2.2.2.2.2.2.2.2.2.1 s.2.2.2.2.2.2.2.2.2.2.1 s.2.2.2.2.2.2.2.2.2.2.2.1 s.2.2.2.2.2.2.2.2.2.2.2.2.1 s.2.2.2.2.2.2.2.2.2.2.2.2.2) (fun s => μ s.1 s.2.1 s.2.2.1 s.2.2.2.1 s.2.2.2.2.1 s.2.2.2.2.2.1 s.2.2.2.2.2.2.1 s.2.2.2.2.2.2.2.1 s.2.2.2.2.2.2.2.2.1 s.2.2.2.2.2.2.2.2.2.1 s.2.2.2.2.2.2.2.2.2.2.1 s.2.2.2.2.2.2.2.2.2.2.2.1 s.2.2.2.2.2.2.2.2.2.2.2.2.1 s.2.2.2.2.2.2.2.2.2.2.2.2.2) (fun n s hI hk => hs n s.1 s.2.1 s.2.2.1 s.2.2.2.1 s.2.2.2.2.1 s.2.2.2.2.2.1 s.2.2.2.2.2.2.1 s.2.2.2.2.2.2.2.1 s.2.2.2.2.2.2.2.2.1 s.2.2.2.2.2.2.2.2.2.1 s.2.2.2.2.2.2.2.2.2.2.1 s.2.2.2.2.2.2.2.2.2.2.2.1 s.2.2.2.2.2.2.2.2.2.2.2.2.1 s.2.2.2.2.2.2.2.2.2.2.2.2.2 hI (fun b1 b2 b3 b4 b5 b6 b7 b8 b9 b10 b11 b12 b13 b14 h9 hm => hk (b1, b2, b3, b4, b5, b6, b7, b8, b9, b10, b11, b12, b13, b14) h9 hm)) (a1, a2, a3, a4, a5, a6, a7, a8, a9, a10, a11, a12, a13, a14) h
theorem lp15 {A1 A2 A3 A4 A5 A6 A7 A8 A9 A10 A11 A12 A13 A14 A15 : Type} (W : Nat → A1 → A2 → A3 → A4 → A5 → A6 → A7 → A8 → A9 → A10 → A11 → A12 → A13 → A14 → A15 → Prop) (I : A1 → A2 → A3 → A4 → A5 → A6 → A7 → A8 → A9 → A10 → A11 → A12 → A13 → A14 → A15 → Prop) (μ : A1 → A2 → A3 → A4 → A5 → A6 → A7 → A8 → A9 → A10 → A11 → A12 → A13 → A14 → A15 → Nat) (hs : ∀ (n : Nat) (a1 : A1) (a2 : A2) (a3 : A3) (a4 : A4) (a5 : A5) (a6 : A6) (a7 : A7) (a8 : A8) (a9 : A9) (a10 : A10) (a11 : A11) (a12 : A12) (a13 : A13) (a14 : A14) (a15 : A15), I a1 a2 a3 a4 a5 a6 a7 a8 a9 a10 a11 a12 a13 a14 a15 → (∀ (b1 : A1) (b2 : A2) (b3 : A3) (b4 : A4) (b5 : A5) (b6 : A6) (b7 : A7) (b8 : A8) (b9 : A9) (b10 : A10) (b11 : A11) (b12 : A12) (b13 : A13) (b14 : A14) (b15 : A15), I b1 b2 b3 b4 b5 b6 b7 b8 b9 b10 b11 b12 b13 b14 b15 → μ b1 b2 b3 b4 b5 b6 b7 b8 b9 b10 b11 b12 b13 b14 b15 < μ a1 a2 a3 a4 a5 a6 a7 a8 a9 a10 a11 a12 a13 a14 a15 → W n b1 b2 b3 b4 b5 b6 b7 b8 b9 b10 b11 b12 b13 b14 b15) → W (n + 1) a1 a2 a3 a4 a5 a6 a7 a8 a9 a10 a11 a12 a13 a14 a15) (a1 : A1) (a2 : A2) (a3 : A3) (a4 : A4) (a5 : A5) (a6 : A6) (a7 : A7) (a8 : A8) (a9 : A9) (a10 : A10) (a11 : A11) (a12 : A12) (a13 : A13) (a14 : A14) (a15 : A15) (h : I a1 a2 a3 a4 a5 a6 a7 a8 a9 a10 a11 a12 a13 a14 a15) : ∃ n, W n a1 a2 a3 a4 a5 a6 a7 a8 a9 a10 a11 a12 a13 a14 a15 :=
  loop_m (σ := A1 × A2 × A3 × A4 × A5 × A6 × A7 × A8 × A9 × A10 × A11 × A12 × A13 × A14 × A15) (fun n s => W n s.1 s.2.1 s.2.2.1 s.2.2.2.1 s.2.2.2.2.1 s.2.2.2.2.2.1 s.2.2.2.2.2.2.1 s.2.2.2.2.2.2.2.1 s.2.2.2.2.2.2.2.2.1 s.2.2.2.2.2.2.2.2.2.1 s.2.2.2.2.2.2.2.2.2.2.1 s.2.2.2.2.2.2.2.2.2.2.2.1 s.2.2.2.2.2.2.2.2.2.2.2.2.1 s.2.2.2.2.2.2.2.2.2.2.2.2.2.1 s.2.2.2.2.2.2.2.2.2.2.2.2.2.2) (fun s => I s.1 s.2.1 s.2.2.1 s.2.2.2.1 s.2.2.2.2.1 s.2.2.2.2.2.1 s.2.2.2.2.2.2.1 s.2.2.2.2.2.2.2.1 s.2.2.2.2.2.2.2.2.1 s.2.2.2.2.2.2.2.2.2.1 s.2.2.2.2.2.2.2.2.2.2.1 s.2.2.2.2.2.2.2.2.2.2.2.1 s.2.2.2.2.2.2.2.2.2.2.2.2.1 s.2.2.2.2.2.2.2.2.2.2.2.2.2.1 s.2.2.2.2.2.2.2.2.2.2.2.2.2.2) (fun s => μ s.1 s.2.1 s.2.2.1 s.2.2.2.1 s.2.2.2.2.1 s.2.2.2.2.2.1 s.2.2.2.2.2.2.1 s.2.2.2.2.2.2.2.1 s.2.2.2.2.2.2.2.2.1 s.2.2.2.2.2.2.2.2.2.1 s.2.2.2.2.2.2.2.2.2.2.1 s.2.2.2.2.2.2.2.2.2.2.2.1 s.2.2.2.2.2.2.2.2.2.2.2.2.1 s.2.2.2.2.2.2.2.2.2.2.2.2.2.1 s.2.2.2.2.2.2.2.2.2.2.2.2.2.2) (fun n s hI hk => hs n s.1 s.2.1 s.2.2.1 s.2.2.2.1 s.2.2.2.2.1 s.2.2.2.2.2.1 s.2.2.2.2.2.2.1 s.2.2.2.2.2.2.2.1 s.2.2.2.2.2.2.2.2.1 s.2.2.2.2.2.2.2.2.2.1 s.2.2.2.2.2.2.2.2.2.2.1 s.2.2.2.2.2.2.2.2.2.2.2.1 s.2.2.2.2.2.2.2.2.2.2.2.2.1 s.2.2.2.2.2.2.2.2.2.2.2.2.2.1 s.2.2.2.2.2.2.2.2.2.2.2.2.2.2 hI (fun b1 b2 b3 b4 b5 b6 b7 b8 b9 b10 b11 b12 b13 b14 b15 h9 hm => hk (b1, b2, b3, b4, b5, b6, b7, b8, b9, b10, b11, b12, b13, b14, b15) h9 hm)) (a1, a2, a3, a4, a5, a6, a7, a8, a9, a10, a11, a12, a13, a14, a15) h
theorem lp16 {A1 A2 A3 A4 A5 A6 A7 A8 A9 A10 A11 A12 A13 A14 A15 A16 : Type} (W : Nat → A1 → A2 → A3 → A4 → A5 → A6 → A7 → A8 → A9 → A10 → A11 → A12 → A13 → A14 → A15 → A16 → Prop) (I : A1 → A2 → A3 → A4 → A5 → A6 → A7 → A8 → A9 → A10 → A11 → A12 → A13 → A14 → A15 → A16 → Prop) (μ : A1 → A2 → A3 → A4 → A5 → A6 → A7 → A8 → A9 → A10 → A11 → A12 → A13 → A14 → A15 → A16 → Nat) (hs : ∀ (n : Nat) (a1 : A1) (a2 : A2) (a3 : A3) (a4 : A4) (a5 : A5) (a6 : A6) (a7 : A7) (a8 : A8) (a9 : A9) (a10 : A10) (a11 : A11) (a12 : A12) (a13 : A13) (a14 : A14) (a15 : A15) (a16 : A16), I a1 a2 a3 a4 a5 a6 a7 a8 a9 a10 a11 a12 a13 a14 a15 a16 → (∀ (b1 : A1) (b2 : A2) (b3 : A3) (b4 : A4) (b5 : A5) (b6 : A6) (b7 : A7) (b8 : A8) (b9 : A9) (b10 : A10) (b11 : A11) (b12 : A12) (b13 : A13) (b14 : A14) (b15 : A15) (b16 : A16), I b1 b2 b3 b4 b5 b6 b7 b8 b9 b10 b11 b12 b13 b14 b15 b16 → μ b1 b2 b3 b4 b5 b6 b7 b8 b9 b10 b11 b12 b13 b14 b15 b16 < μ a1 a2 a3 a4 a5 a6 a7 a8 a9 a10 a11 a12 a13 a14 a15 a16 → W n b1 b2 b3 b4 b5 b6 b7 b8 b9 b10 b11 b12 b13 b14 b15 b16) → W (n + 1) a1 a2 a3 a4 a5 a6 a7 a8 a9 a10 a11 a12 a13 a14 a15 a16) (a1 : A1) (a2 : A2) (a3 : A3) (a4 : A4) (a5 : A5) (a6 : A6) (a7 : A7) (a8 : A8) (a9 : A9) (a10 : A10) (a11 : A11) (a12 : A12) (a13 : A13) (a14 : A14) (a15 : A15) (a16 : A16) (h : I a1 a2 a3 a4 a5 a6 a7 a8 a9 a10 a11 a12 a13 a14 a15 a16) : ∃ n, W n a1 a2 a3 a4 a5 a6 a7 a8 a9 a10 a11 a12 a13 a14 a15 a16 :=
  loop_m (σ := A1 × A2 × A3 × A4 × A5 × A6 × A7 × A8 × A9 × A10 × A11 × A12 × A13 × A14 × A15 × A16) (fun n s => W n s.1 s.2.1 s.2.2.1 s.2.2.2.1 s.2.2.2.2.1 s.2.2.2.2.2.1 s.2.2.2.2.2.2.1 s.2.2.2.2.2.2.2.1 s.2.2.2.2.2.2.2.2.1 s.2.2.2.2.2.2.2.2.2.1 s.2.2.2.2.2.2.2.2.2.2.1 s.2.2.2.2.2.2.2.2.2.2.2.1 s.2.2.2.2.2.2.2.2.2.2.2.2.1 s.2.2.2.2.2.2.2.2.2.2.2.2.2.1 s.2.2.2.2.2.2.2.2.2.2.2.2.2.2.1 s.2.2.2.2.2.2.2.2.2.2.2.2.2.2.2) (fun s => I s.1 s.2.1 s.2.2.1 s.2.2.2.1 s.2.2.2.2.1 s.2.2.2.2.2.1 s.2.2.2.2.2.2.1 s.2.2.2.2.2.2.2.1 s.2.2.2.2.2.2.2.2.1 s.2.2.2.2.2.2.2.2.2.1 s.2.2.2.2.2.2.2.2.2.2.1 s.2.2.2.2.2.2.2.2.2.2.2.1 s.2.2.2.2.2.2.2.2.2.2.2.2.1 s.2.2.2.2.2.2.2.2.2.2.2.2.2.1 s.2.2.2.2.2.2.2.2.2.2.2.2.2.2.1 s.2.2.2.2.2.2.2.2.2.2.2.2.2.2.2) (fun s => μ s.1 s.2.1 s.2.2.1 s.2.2.2.1 s.2.2.2.2.1 s.2.2.2.2.2.1 s.2.2.2.2.2.2.1 s.2.2.2.2.2.2.2.1 s.2.2.2.2.2.2.2.2.1 s.2.2.2.2.2.2.2.2.2.1 s.2.2.2.2.2.2.2.2.2.2.1 s.2.2.2.2.2.2.2.2.2.2.2.1 s.2.2.2.2.2.2.2.2.2.2.2.2.1 s.2.2.2.2.2.2.2.2.2.2.2.2.2.1 s.2.2.2.2.2.2.2.2.2.2.2.2.2.2.1 s.2.2.2.2.2.2.2.2.2.2.2.2.2.2.2) (fun n s hI hk => hs n s.1 s.2.1 s.2.2.1 s.2.2.2.1 s.2.2.2.2.1 s.2.2.2.2.2.1 s.2.2.2.2.2.2.1 s.2.2.2.2.2.2.2.1 s.2.2.2.2.2.2.2.2.1 s.2.2.2.2.2.2.2.2.2.1 s.2.2.2.2.2.2.2.2.2.2.1 s.2.2.2.2.2.2.2.2.2.2.2.1 s.2.2.2.2.2.2.2.2.2.2.2.2.1 s.2.2.2.2.2.2.2.2.2.2.2.2.2.1 s.2.2.2.2.2.2.2.2.2.2.2.2.2.2.1 s.2.2.2.2.2.2.2.2.2.2.2.2.2.2.2 hI (fun b1 b2 b3 b4 b5 b6 b7 b8 b9 b10 b11 b12 b13 b14 b15 b16 h9 hm => hk (b1, b2, b3, b4, b5, b6, b7, b8, b9, b10, b11, b12, b13, b14, b15, b16) h9 hm)) (a1, a2, a3, a4, a5, a6, a7, a8, a9, a10, a11, a12, a13, a14, a15, a16) h
theorem pk_least (P : Nat → Prop) (h : ∃ k, P k) : ∃ k, P k ∧ ∀ j, j < k → ¬ P j := by
  obtain ⟨k, hk⟩ := h
  induction k using Nat.strongRecOn with
  | ind k ih =>
    by_cases e : ∃ j, j < k ∧ P j
    · obtain ⟨j, hj, pj⟩ := e
      exact ih j hj pj
    · exact ⟨k, hk, fun j hj pj => e ⟨j, hj, pj⟩⟩
/-! ===== Int32 by its bits: bt x i ===== -/
def bt (x : Int32) (i : Nat) : Bool := x.toBitVec.getLsbD i
theorem b_ext {x y : Int32} (h : ∀ i, i < 32 → bt x i = bt y i) : x = y := Int32.toBitVec_inj.mp (BitVec.eq_of_getLsbD_eq (fun i hi => h i hi))
theorem b_or (x y : Int32) (i : Nat) : bt (x ||| y) i = (bt x i || bt y i) := by unfold bt; rw [Int32.toBitVec_or, BitVec.getLsbD_or]
theorem b_and (x y : Int32) (i : Nat) : bt (x &&& y) i = (bt x i && bt y i) := by unfold bt; rw [Int32.toBitVec_and, BitVec.getLsbD_and]
theorem b_xor (x y : Int32) (i : Nat) : bt (x ^^^ y) i = (bt x i ^^ bt y i) := by unfold bt; rw [Int32.toBitVec_xor, BitVec.getLsbD_xor]
theorem b_big {x : Int32} {i : Nat} (h : 32 ≤ i) : bt x i = false := BitVec.getLsbD_of_ge _ _ h
theorem b_255 (i : Nat) : bt 255 i = decide (i < 8) := by
  rcases Nat.lt_or_ge i 32 with h | h
  · exact (by decide +kernel : ∀ i, i < 32 → bt 255 i = decide (i < 8)) i h
  · rw [b_big h, decide_eq_false (by omega)]
theorem b_65535 (i : Nat) : bt 65535 i = decide (i < 16) := by
  rcases Nat.lt_or_ge i 32 with h | h
  · exact (by decide +kernel : ∀ i, i < 32 → bt 65535 i = decide (i < 16)) i h
  · rw [b_big h, decide_eq_false (by omega)]
theorem b_m1 : ∀ i, i < 32 → bt (-1) i = true := by decide +kernel
theorem b_0 (i : Nat) : bt 0 i = false := BitVec.getLsbD_zero
theorem s_l : ∀ n, n < 32 → ((nI n &&& 31).toBitVec.smod 32).toNat = n := by decide +kernel
theorem s_u : ∀ n, n < 32 → (((nI n).toUInt32 &&& Int32.toUInt32 31).toBitVec % 32).toNat = n := by decide +kernel
theorem b_shl (n : Nat) (hn : n < 32) (x : Int32) {i : Nat} (hi : i < 32) : bt (x <<< (nI n &&& 31)) i = (decide (n ≤ i) && bt x (i - n)) := by
  unfold bt
  rw [Int32.toBitVec_shiftLeft]
  show (x.toBitVec <<< ((nI n &&& 31).toBitVec.smod 32).toNat).getLsbD i = _
  rw [s_l n hn, BitVec.getLsbD_shiftLeft]
  rcases Nat.lt_or_ge i n with h | h
  · simp [h, Nat.not_le.mpr h]
  · simp [hi, h, Nat.not_lt.mpr h]
theorem b_ushr (n : Nat) (hn : n < 32) (x : Int32) (i : Nat) : bt ((x.toUInt32 >>> ((nI n).toUInt32 &&& Int32.toUInt32 31)).toInt32) i = bt x (n + i) := by
  show (x.toUInt32 >>> ((nI n).toUInt32 &&& Int32.toUInt32 31)).toBitVec.getLsbD i = x.toUInt32.toBitVec.getLsbD (n + i)
  rw [UInt32.toBitVec_shiftRight]
  show (x.toUInt32.toBitVec >>> (((nI n).toUInt32 &&& Int32.toUInt32 31).toBitVec % 32).toNat).getLsbD i = _
  rw [s_u n hn, BitVec.getLsbD_ushiftRight]
theorem b_sshr (n : Nat) (hn : n < 32) (x : Int32) {i : Nat} (hi : i < 32) : bt (x >>> (nI n &&& 31)) i = if n + i < 32 then bt x (n + i) else bt x 31 := by
  unfold bt
  rw [Int32.toBitVec_shiftRight]
  show (x.toBitVec.sshiftRight ((nI n &&& 31).toBitVec.smod 32).toNat).getLsbD i = _
  rw [s_l n hn, BitVec.getLsbD_sshiftRight, BitVec.msb_eq_getLsbD_last]
  simp [hi]
theorem b_shl8 (x : Int32) {i : Nat} (hi : i < 32) : bt (x <<< ((8 : Int32) &&& 31)) i = (decide (8 ≤ i) && bt x (i - 8)) := b_shl 8 (by omega) x hi
theorem b_shl16 (x : Int32) {i : Nat} (hi : i < 32) : bt (x <<< ((16 : Int32) &&& 31)) i = (decide (16 ≤ i) && bt x (i - 16)) := b_shl 16 (by omega) x hi
theorem b_shl24 (x : Int32) {i : Nat} (hi : i < 32) : bt (x <<< ((24 : Int32) &&& 31)) i = (decide (24 ≤ i) && bt x (i - 24)) := b_shl 24 (by omega) x hi
theorem b_sshr8 (x : Int32) {i : Nat} (hi : i < 32) : bt (x >>> ((8 : Int32) &&& 31)) i = if 8 + i < 32 then bt x (8 + i) else bt x 31 := b_sshr 8 (by omega) x hi
end
section
/-! counts of true places -/
def ad_ct (p : Nat → Bool) : Nat → Nat
  | 0 => 0
  | n + 1 => ad_ct p n + (if p n = true then 1 else 0)
theorem ad_ct_le (p : Nat → Bool) : ∀ n, ad_ct p n ≤ n := by
  intro n
  induction n with
  | zero => exact Nat.le_refl 0
  | succ n ih =>
    show ad_ct p n + (if p n = true then 1 else 0) ≤ n + 1
    split <;> omega
theorem ad_ct_mono {p q : Nat → Bool} : ∀ n, (∀ i, i < n → p i = true → q i = true) → ad_ct p n ≤ ad_ct q n := by
  intro n
  induction n with
  | zero => exact fun _ => Nat.le_refl 0
  | succ n ih =>
    intro h
    have h1 := ih (fun i hi => h i (by omega))
    have h2 := h n (by omega)
    show ad_ct p n + (if p n = true then 1 else 0) ≤ ad_ct q n + (if q n = true then 1 else 0)
    by_cases hp : p n = true
    · rw [if_pos hp, if_pos (h2 hp)]; omega
    · rw [if_neg hp]; omega
theorem ad_ct_lt {p q : Nat → Bool} {x : Nat} : ∀ n, (∀ i, i < n → p i = true → q i = true) → x < n → p x = false → q x = true → ad_ct p n < ad_ct q n := by
  intro n
  induction n with
  | zero => intro _ h; omega
  | succ n ih =>
    intro h hx hp hq
    have h2 := h n (by omega)
    have h3 := ad_ct_mono n (fun i hi => h i (by omega))
    show ad_ct p n + (if p n = true then 1 else 0) < ad_ct q n + (if q n = true then 1 else 0)
    by_cases e : x = n
    · subst e
      rw [if_pos hq, hp, if_neg (by decide)]; omega
    · have h1 := ih (fun i hi => h i (by omega)) (by omega) hp hq
      by_cases hp' : p n = true
      · rw [if_pos hp', if_pos (h2 hp')]; omega
      · rw [if_neg hp']; omega
theorem ad_ct_congr {p q : Nat → Bool} : ∀ n, (∀ i, i < n → p i = q i) → ad_ct p n = ad_ct q n := by
  intro n
  induction n with
  | zero => exact fun _ => rfl
  | succ n ih =>
    intro h
    show ad_ct p n + (if p n = true then 1 else 0) = ad_ct q n + (if q n = true then 1 else 0)
    rw [ih (fun i hi => h i (by omega)), h n (by omega)]
theorem ad_ct_one {p q : Nat → Bool} {x : Nat} : ∀ n, x < n → (∀ i, i < n → i ≠ x → q i = p i) →
    ad_ct q n + (if p x = true then 1 else 0) = ad_ct p n + (if q x = true then 1 else 0) := by
  intro n
  induction n with
  | zero => intro h; omega
  | succ n ih =>
    intro hx h
    show ad_ct q n + (if q n = true then 1 else 0) + _ = ad_ct p n + (if p n = true then 1 else 0) + _
    by_cases e : x = n
    · subst e
      rw [ad_ct_congr x (fun i hi => h i (by omega) (by omega))]; omega
    · have h1 := ih (by omega) (fun i hi => h i (by omega))
      rw [h n (by omega) (by omega)]; omega
theorem ad_ct_none {p : Nat → Bool} : ∀ n, (∀ i, i < n → p i = false) → ad_ct p n = 0 := by
  intro n
  induction n with
  | zero => exact fun _ => rfl
  | succ n ih =>
    intro h
    show ad_ct p n + (if p n = true then 1 else 0) = 0
    rw [ih (fun i hi => h i (by omega)), h n (by omega)]; rfl
theorem ad_ct_pos {p : Nat → Bool} {x n : Nat} (hx : x < n) (h : p x = true) : 1 ≤ ad_ct p n := by
  have h0 := ad_ct_none (p := fun _ => false) n (fun _ _ => rfl)
  have h1 := ad_ct_lt (p := fun _ => false) (q := p) (x := x) n (fun _ _ z => absurd z (by decide)) hx rfl h
  omega
theorem ad_ct_ex {p : Nat → Bool} {n : Nat} (h : 1 ≤ ad_ct p n) : ∃ x, x < n ∧ p x = true := by
  apply Classical.byContradiction
  intro z
  have := ad_ct_none (p := p) n (fun i hi => by
    cases e : p i with
    | false => rfl
    | true => exact absurd ⟨i, hi, e⟩ z)
  omega
theorem ad_ct_all {p : Nat → Bool} {n : Nat} (h : n ≤ ad_ct p n) : ∀ x, x < n → p x = true := by
  intro x hx
  cases e : p x with
  | true => rfl
  | false =>
    have h1 := ad_ct_lt (p := p) (q := fun _ => true) (x := x) n (fun _ _ _ => rfl) hx e rfl
    have h2 := ad_ct_le (fun _ => true) n
    omega
theorem ad_ct_succ (p : Nat → Bool) (n : Nat) : ad_ct p (n + 1) = ad_ct p n + (if p n = true then 1 else 0) := rfl
/-! sets of small numbers as ints -/
theorem ad_one : ∀ v, v < 32 → ∀ i, i < 32 → bt ((1 : Int32) <<< (nI v &&& 31)) i = decide (i = v) := by decide +kernel
theorem ad_two : ∀ v, v < 17 → ∀ i, i < 32 → bt ((2 : Int32) <<< (nI v &&& 31)) i = decide (i = v + 1) := by decide +kernel
theorem ad_mask : ∀ z, z < 17 → ∀ i, i < 32 → bt ((1 : Int32) <<< (nI z &&& 31) - 1) i = decide (i < z) := by decide +kernel
theorem ad_bt1 : ∀ i, i < 32 → bt 1 i = decide (i = 0) := by decide +kernel
theorem ad_not (x : Int32) {i : Nat} (h : i < 32) : bt (x ^^^ (-1)) i = !bt x i := by
  rw [b_xor, b_m1 i h, Bool.xor_true]
theorem ad_zero (x : Int32) : x = 0 ↔ ∀ i, i < 32 → bt x i = false :=
  ⟨fun h i _ => by rw [h]; exact b_0 i, fun h => b_ext (fun i hi => by rw [h i hi, b_0])⟩
theorem ad_and0 (x : Int32) {v : Nat} (hv : v < 32) : x &&& ((1 : Int32) <<< (nI v &&& 31)) = 0 ↔ bt x v = false := by
  rw [ad_zero]
  constructor
  · intro h
    have h1 := h v hv
    rw [b_and, ad_one v hv v hv, decide_eq_true rfl, Bool.and_true] at h1
    exact h1
  · intro h i hi
    rw [b_and, ad_one v hv i hi]
    by_cases e : i = v
    · rw [e, h]; rfl
    · rw [decide_eq_false e, Bool.and_false]
theorem ad_shr1 (x : Int32) {j : Nat} (hj : j < 32) : (x >>> (nI j &&& 31)) &&& 1 = 0 ↔ bt x j = false := by
  rw [ad_zero]
  constructor
  · intro h
    have h1 := h 0 (by decide)
    rw [b_and, b_sshr j hj x (by decide), ad_bt1 0 (by decide), decide_eq_true rfl, Bool.and_true, if_pos (by omega)] at h1
    exact h1
  · intro h i hi
    rw [b_and, ad_bt1 i hi]
    by_cases e : i = 0
    · rw [e, b_sshr j hj x (by decide), if_pos (by omega), Nat.add_zero, h]; rfl
    · rw [decide_eq_false e, Bool.and_false]
theorem ad_sub0 (x y : Int32) : x &&& (y ^^^ (-1)) = 0 ↔ ∀ i, i < 32 → bt x i = true → bt y i = true := by
  rw [ad_zero]
  constructor
  · intro h i hi hx
    have h1 := h i hi
    rw [b_and, ad_not y hi, hx] at h1
    cases e : bt y i with
    | true => rfl
    | false => rw [e] at h1; exact absurd h1 (by decide)
  · intro h i hi
    rw [b_and, ad_not y hi]
    cases e : bt x i with
    | false => rfl
    | true => rw [h i hi e]; rfl
theorem ad_sup (x y : Int32) : x &&& y = y ↔ ∀ i, i < 32 → bt y i = true → bt x i = true := by
  constructor
  · intro h i hi hy
    have h1 : bt (x &&& y) i = true := by rw [h]; exact hy
    rw [b_and, hy, Bool.and_true] at h1
    exact h1
  · intro h
    refine b_ext (fun i hi => ?_)
    rw [b_and]
    cases e : bt y i with
    | false => exact Bool.and_false _
    | true => rw [h i hi e]; rfl
theorem ad_neg (x : Int32) : x < 0 ↔ bt x 31 = true := by
  have h : bt x 31 = x.toBitVec.msb := by
    rw [BitVec.msb_eq_getLsbD_last]; rfl
  rw [h, BitVec.msb_eq_toInt, decide_eq_true_iff, Int32.lt_iff_toInt_lt]
  exact Iff.rfl
theorem ad_nb0 : vp_nar .boolean 0 = 0 := by decide
theorem ad_nb1 : vp_nar .boolean 1 = 1 := by decide
/-! nI under updates -/
theorem ad_updN (f : Nat → Nat) (k x : Nat) : upd (fun j => nI (f j)) k (nI x) = fun j => nI (if j = k then x else f j) := by
  funext j
  show (if j = k then nI x else nI (f j)) = nI (if j = k then x else f j)
  split <;> rfl
theorem ad_upd2 (f : Nat → Int32) (k : Nat) (x y : Int32) : upd (upd f k x) k y = upd f k y := by
  funext j
  show (if j = k then y else if j = k then x else f j) = if j = k then y else f j
  split <;> rfl
theorem ad_updS (f : Nat → Int32) (k : Nat) (x : Int32) (h : f k = x) : upd f k x = f := by
  funext j
  show (if j = k then x else f j) = f j
  split
  · rename_i e; rw [e, h]
  · rfl
/-! least sets: needed, loans' regions, keeping; rd, wr: place and variable; sc: place to place -/
def ad_nd (rd wr sc : Nat → Nat → Prop) (i v : Nat) : Prop :=
  ∀ P : Nat → Prop, (∀ i, rd i v → P i) → (∀ i j, ¬ wr i v → sc i j → P j → P i) → P i
theorem ad_nd_rd {rd wr sc : Nat → Nat → Prop} {i v : Nat} (h : rd i v) : ad_nd rd wr sc i v := fun _ a _ => a i h
theorem ad_nd_st {rd wr sc : Nat → Nat → Prop} {i j v : Nat} (h1 : ¬ wr i v) (h2 : sc i j) (h3 : ad_nd rd wr sc j v) : ad_nd rd wr sc i v :=
  fun P a b => b i j h1 h2 (h3 P a b)
theorem ad_nd_out {rd wr sc : Nat → Nat → Prop} {i v : Nat} (h : ad_nd rd wr sc i v) : rd i v ∨ (¬ wr i v ∧ ∃ j, sc i j ∧ ad_nd rd wr sc j v) := by
  refine h (fun i => rd i v ∨ (¬ wr i v ∧ ∃ j, sc i j ∧ ad_nd rd wr sc j v)) (fun i h => Or.inl h) (fun i j h1 h2 h3 => Or.inr ⟨h1, j, h2, ?_⟩)
  rcases h3 with h3 | ⟨h3, l, h4, h5⟩
  · exact ad_nd_rd h3
  · exact ad_nd_st h3 h4 h5
/-- reached from s by places where na holds -/
def ad_rg (na : Nat → Prop) (sc : Nat → Nat → Prop) (s j : Nat) : Prop :=
  ∀ P : Nat → Prop, P s → (∀ i j, P i → na i → sc i j → P j) → P j
theorem ad_rg_0 {na : Nat → Prop} {sc : Nat → Nat → Prop} {s : Nat} : ad_rg na sc s s := fun _ a _ => a
theorem ad_rg_st {na : Nat → Prop} {sc : Nat → Nat → Prop} {s i j : Nat} (h : ad_rg na sc s i) (h1 : na i) (h2 : sc i j) : ad_rg na sc s j :=
  fun P a b => b i j (h P a b) h1 h2
theorem ad_rg_tr {na : Nat → Prop} {sc : Nat → Nat → Prop} {s i j : Nat} (h : ad_rg na sc s i) (h1 : ad_rg na sc i j) : ad_rg na sc s j :=
  fun P a b => h1 P (h P a b) b
/-- v < 6: kept in front of j; v = 6: reached -/
def ad_kp (z : Nat) (own : Prop) (nd gen kil sc : Nat → Nat → Prop) (j v : Nat) : Prop :=
  ∀ P : Nat → Nat → Prop, (0 < z → P 0 6) → (0 < z → own → nd 0 0 → P 0 0) → (∀ i j, P i 6 → sc i j → P j 6) →
    (∀ i j v, v < 6 → P i 6 → sc i j → gen i v → nd j v → P j v) →
    (∀ i j v, v < 6 → P i 6 → P i v → ¬ kil i v → sc i j → nd j v → P j v) → P j v
section
variable {z : Nat} {own : Prop} {nd gen kil sc : Nat → Nat → Prop}
theorem ad_kp_0 (h : 0 < z) : ad_kp z own nd gen kil sc 0 6 := fun _ a _ _ _ _ => a h
theorem ad_kp_1 (h : 0 < z) (ho : own) (hn : nd 0 0) : ad_kp z own nd gen kil sc 0 0 := fun _ _ a _ _ _ => a h ho hn
theorem ad_kp_2 {i j : Nat} (h : ad_kp z own nd gen kil sc i 6) (hs : sc i j) : ad_kp z own nd gen kil sc j 6 :=
  fun P a b c d e => c i j (h P a b c d e) hs
theorem ad_kp_3 {i j v : Nat} (hv : v < 6) (h : ad_kp z own nd gen kil sc i 6) (hs : sc i j) (hg : gen i v) (hn : nd j v) : ad_kp z own nd gen kil sc j v :=
  fun P a b c d e => d i j v hv (h P a b c d e) hs hg hn
theorem ad_kp_4 {i j v : Nat} (hv : v < 6) (h : ad_kp z own nd gen kil sc i 6) (h1 : ad_kp z own nd gen kil sc i v) (hk : ¬ kil i v) (hs : sc i j) (hn : nd j v) : ad_kp z own nd gen kil sc j v :=
  fun P a b c d e => e i j v hv (h P a b c d e) (h1 P a b c d e) hk hs hn
end
theorem ad_nf {b : Bool} (h : ¬ b = false) : b = true := by
  cases b with
  | true => rfl
  | false => exact absurd rfl h
end
section
/-! the program's picture: o, A, B (numbers), c (ints), size, lent -/
abbrev ap_T : Type := (Nat → Nat) × (Nat → Nat) × (Nat → Nat) × (Nat → Int32) × (Nat → Nat) × (Nat → Int32)
def ap_O (p : ap_T) (k : Nat) : Nat := p.1 k
def ap_A (p : ap_T) (k : Nat) : Nat := p.2.1 k
def ap_B (p : ap_T) (k : Nat) : Nat := p.2.2.1 k
def ap_c (p : ap_T) (k : Nat) : Int32 := p.2.2.2.1 k
def ap_C (p : ap_T) (k : Nat) : Nat := (ap_c p k).toNatClampNeg
def ap_Z (p : ap_T) (m : Nat) : Nat := p.2.2.2.2.1 m
def ap_L (p : ap_T) (m : Nat) : Int32 := p.2.2.2.2.2 m
def ap_OK (p : ap_T) : Prop :=
  (∀ k, ap_O p k ≤ 13 ∧ ap_A p k < 6 ∧ ap_B p k < 6 ∧ (ap_O p k = 3 ∨ ap_O p k = 4 → ap_c p k = nI (ap_C p k) ∧ ap_C p k < 3) ∧
    (ap_O p k = 9 ∨ ap_O p k = 10 → ap_c p k = nI (ap_C p k) ∧ ap_C p k < 16) ∧ (ap_O p k = 11 → ap_c p k = nI (ap_C p k) ∧ ap_C p k < 4)) ∧
  (∀ m, ap_Z p m ≤ 16) ∧ (∀ m, ap_L p m = 0 ∨ ap_L p m = 1)
def ap_on (p : ap_T) (k : Nat) : Prop := ap_O p k ≠ 10 ∧ ap_O p k ≠ 12 ∧ ap_O p k ≠ 13
def ap_jp (p : ap_T) (k : Nat) : Prop := ap_O p k = 9 ∨ ap_O p k = 10
def ap_rd (p : ap_T) (m i v : Nat) : Prop :=
  ((4 ≤ ap_O p (16 * m + i) ∧ ap_O p (16 * m + i) ≤ 9) ∨ ap_O p (16 * m + i) = 12) ∧ ap_A p (16 * m + i) = v ∨
  (ap_O p (16 * m + i) = 1 ∨ ap_O p (16 * m + i) = 3 ∨ ap_O p (16 * m + i) = 4 ∨ ap_O p (16 * m + i) = 11) ∧ ap_B p (16 * m + i) = v
def ap_wr (p : ap_T) (m i v : Nat) : Prop :=
  (ap_O p (16 * m + i) ≤ 3 ∨ ap_O p (16 * m + i) = 8 ∨ ap_O p (16 * m + i) = 11) ∧ ap_A p (16 * m + i) = v
def ap_sc (p : ap_T) (m i j : Nat) : Prop :=
  j < ap_Z p m ∧ (ap_on p (16 * m + i) ∧ j = i + 1 ∨ ap_jp p (16 * m + i) ∧ j = ap_C p (16 * m + i))
def ap_nd (p : ap_T) (m i v : Nat) : Prop := ad_nd (ap_rd p m) (ap_wr p m) (ap_sc p m) i v
/-- what may stand on the ways of a loan -/
def ap_al (p : ap_T) (k : Nat) : Prop := ap_O p k = 5 ∨ ap_O p k = 6 ∨ ap_O p k = 7 ∨ ap_O p k = 9 ∨ ap_O p k = 10
def ap_ln (p : ap_T) (m i : Nat) : Prop :=
  ap_O p (16 * m + i) = 3 ∧ ap_C p (16 * m + i) ≠ 2 ∧ ap_A p (16 * m + i) ≠ ap_B p (16 * m + i) ∧
  ∀ s j, ap_sc p m i s → ad_rg (fun x => ap_nd p m x (ap_A p (16 * m + i))) (ap_sc p m) s j → ap_nd p m j (ap_A p (16 * m + i)) →
    ap_al p (16 * m + j) ∧ ∀ v, v ≠ ap_A p (16 * m + i) → ap_nd p m i v → ap_nd p m j v
/-- b is not needed behind -/
def ap_la (p : ap_T) (m i : Nat) : Prop := ¬ (i + 1 < ap_Z p m ∧ ap_nd p m (i + 1) (ap_B p (16 * m + i)))
def ap_ho (p : ap_T) (m i : Nat) : Prop :=
  ap_O p (16 * m + i) = 1 ∧ ap_la p m i ∧ ap_A p (16 * m + i) ≠ ap_B p (16 * m + i) ∨
  ap_O p (16 * m + i) = 4 ∧ ap_la p m i ∧ ap_A p (16 * m + i) ≠ ap_B p (16 * m + i) ∧ ap_C p (16 * m + i) ≠ 2 ∨
  ap_O p (16 * m + i) = 11 ∧ (ap_la p m i ∨ ap_A p (16 * m + i) = ap_B p (16 * m + i)) ∧ ap_L p (ap_C p (16 * m + i)) = 0
def ap_Pl (p : ap_T) (m i : Nat) (x : Int32) : Prop := (ap_ln p m i → x = 1) ∧ (¬ ap_ln p m i → ap_ho p m i → x = 2) ∧ (¬ ap_ln p m i → ¬ ap_ho p m i → x = 0)
def ap_gn (p : ap_T) (m i v : Nat) : Prop :=
  v = ap_A p (16 * m + i) ∧ (ap_O p (16 * m + i) = 0 ∨ ap_O p (16 * m + i) = 1 ∨ ap_O p (16 * m + i) = 3 ∨ ap_O p (16 * m + i) = 8 ∨ ap_O p (16 * m + i) = 11) ∧ ¬ ap_ln p m i
def ap_kl (p : ap_T) (m i v : Nat) : Prop := ap_ho p m i ∧ v = ap_B p (16 * m + i) ∨ (ap_O p (16 * m + i) = 2 ∨ ap_ln p m i) ∧ v = ap_A p (16 * m + i)
def ap_kp (p : ap_T) (m j v : Nat) : Prop := ad_kp (ap_Z p m) (ap_L p m = 0) (ap_nd p m) (ap_gn p m) (ap_kl p m) (ap_sc p m) j v
/-- the arrays of what is found, for METHOD m -/
def ap_NS (p : ap_T) (m : Nat) (N : Nat → Int32) : Prop := ∀ i, i < ap_Z p m → ∀ v, v < 32 → (bt (N (16 * m + i)) v = true ↔ ap_nd p m i v)
def ap_PS (p : ap_T) (m : Nat) (P : Nat → Int32) : Prop := ∀ i, i < ap_Z p m → ap_Pl p m i (P (16 * m + i))
def ap_KX (p : ap_T) (m : Nat) (K R : Nat → Int32) : Prop := ∀ i, i < ap_Z p m →
  (R (16 * m + i) = 0 ∨ R (16 * m + i) = 1) ∧ (R (16 * m + i) = 1 ↔ ap_kp p m i 6) ∧ ∀ v, v < 32 → (bt (K (16 * m + i)) v = true ↔ v < 6 ∧ ap_kp p m i v)
def ap_KY (p : ap_T) (m : Nat) (K : Nat → Int32) : Prop := ∀ i, i < ap_Z p m →
  (¬ ap_kp p m i 6 ∧ K (16 * m + i) = -1) ∨ (ap_kp p m i 6 ∧ ∀ v, v < 32 → (bt (K (16 * m + i)) v = true ↔ v < 6 ∧ ap_kp p m i v))
section
variable {p : ap_T} {m : Nat}
theorem ap_nd_6 (H : ap_OK p) {i v : Nat} (h : ap_nd p m i v) : v < 6 := by
  refine h (fun _ => v < 6) (fun i h => ?_) (fun _ _ _ _ h => h)
  have hk := H.1 (16 * m + i)
  rcases h with ⟨_, h⟩ | ⟨_, h⟩ <;> omega
theorem ap_ln_ho {i : Nat} (h : ap_ln p m i) : ¬ ap_ho p m i := by
  have h1 := h.1
  rintro (h2 | h2 | h2) <;> have h3 := h2.1 <;> omega
theorem ap_Pl_1 {i : Nat} {x : Int32} (h : ap_Pl p m i x) : x = 1 ↔ ap_ln p m i := by
  constructor
  · intro e
    apply Classical.byContradiction
    intro n
    by_cases h2 : ap_ho p m i
    · rw [h.2.1 n h2] at e; exact absurd e (by decide)
    · rw [h.2.2 n h2] at e; exact absurd e (by decide)
  · exact h.1
theorem ap_Pl_2 {i : Nat} {x : Int32} (h : ap_Pl p m i x) : x = 2 ↔ ap_ho p m i := by
  constructor
  · intro e
    apply Classical.byContradiction
    intro n
    by_cases h2 : ap_ln p m i
    · rw [h.1 h2] at e; exact absurd e (by decide)
    · rw [h.2.2 h2 n] at e; exact absurd e (by decide)
  · intro e
    exact h.2.1 (fun z => ap_ln_ho z e) e
theorem ap_Pl_u {i : Nat} {x y : Int32} (h : ap_Pl p m i x) (h' : ap_Pl p m i y) : x = y := by
  by_cases h1 : ap_ln p m i
  · rw [h.1 h1, h'.1 h1]
  · by_cases h2 : ap_ho p m i
    · rw [h.2.1 h1 h2, h'.2.1 h1 h2]
    · rw [h.2.2 h1 h2, h'.2.2 h1 h2]
theorem ad_iffb {a b : Bool} {P : Prop} (h : a = true ↔ P) (h' : b = true ↔ P) : a = b := by
  cases a <;> cases b <;> simp_all
theorem ap_NS_u {N N' : Nat → Int32} (h : ap_NS p m N) (h' : ap_NS p m N') {i : Nat} (hi : i < ap_Z p m) : N (16 * m + i) = N' (16 * m + i) :=
  b_ext (fun v hv => ad_iffb (h i hi v hv) (h' i hi v hv))
/-- the way that a loan has before it -/
def ap_LR (p : ap_T) (m v i : Nat) : Prop := ∀ j, ad_rg (fun x => ap_nd p m x v) (ap_sc p m) i j → ap_nd p m j v → ap_al p (16 * m + j)
theorem ap_LR_0 {i s : Nat} (h : ap_ln p m i) (hs : ap_sc p m i s) : ap_LR p m (ap_A p (16 * m + i)) s :=
  fun j hj hn => (h.2.2.2 s j hs hj hn).1
theorem ap_LR_1 {v i s : Nat} (h : ap_LR p m v i) (hn : ap_nd p m i v) (hs : ap_sc p m i s) : ap_LR p m v s :=
  fun j hj hv => h j (ad_rg_tr (ad_rg_st ad_rg_0 hn hs) hj) hv
theorem ap_LR_2 {v i : Nat} (h : ap_LR p m v i) (hn : ap_nd p m i v) : ap_al p (16 * m + i) := h i ad_rg_0 hn
end
/-! the arrays of the program, as ints -/
def ap_oo (p : ap_T) : Nat → Int32 := fun k => nI (ap_O p k)
def ap_aA (p : ap_T) : Nat → Int32 := fun k => nI (ap_A p k)
def ap_aB (p : ap_T) : Nat → Int32 := fun k => nI (ap_B p k)
def ap_sz (p : ap_T) : Nat → Int32 := fun m => nI (ap_Z p m)
def ap_AB (p : ap_T) (sA sB : Nat → Int32) : Prop :=
  ∀ k, (ap_O p k ≠ 10 → ap_O p k ≠ 13 → sA k = nI (ap_A p k)) ∧ ((ap_O p k = 1 ∨ ap_O p k = 3 ∨ ap_O p k = 4 ∨ ap_O p k = 11) → sB k = nI (ap_B p k))
theorem ap_14 {p : ap_T} (H : ap_OK p) (k : Nat) : ap_O p k = 0 ∨ ap_O p k = 1 ∨ ap_O p k = 2 ∨ ap_O p k = 3 ∨ ap_O p k = 4 ∨ ap_O p k = 5 ∨ ap_O p k = 6 ∨ ap_O p k = 7 ∨ ap_O p k = 8 ∨ ap_O p k = 9 ∨ ap_O p k = 10 ∨ ap_O p k = 11 ∨ ap_O p k = 12 ∨ ap_O p k = 13 := by
  have := (H.1 k).1
  omega
theorem ap_ook (p : ap_T) {k : Nat} (hk : k < 64) : ap_oo p (nI k).toNatClampNeg = nI (ap_O p k) := by rw [nI_clamp (by omega)]; rfl
theorem ap_aAk (p : ap_T) {k : Nat} (hk : k < 64) : ap_aA p (nI k).toNatClampNeg = nI (ap_A p k) := by rw [nI_clamp (by omega)]; rfl
theorem ap_aBk (p : ap_T) {k : Nat} (hk : k < 64) : ap_aB p (nI k).toNatClampNeg = nI (ap_B p k) := by rw [nI_clamp (by omega)]; rfl
theorem ap_ck (p : ap_T) {k : Nat} (hk : k < 64) : ap_c p (nI k).toNatClampNeg = ap_c p k := by rw [nI_clamp (by omega)]
theorem ap_szm (p : ap_T) {m : Nat} (hm : m < 4) : ap_sz p (nI m).toNatClampNeg = nI (ap_Z p m) := by rw [nI_clamp (by omega)]; rfl
theorem ap_xk (m i : Nat) : nI m * 16 + nI i = nI (16 * m + i) := by
  show nI m * nI 16 + nI i = _
  rw [pk_mul, nI_add, Nat.mul_comm]
theorem ap_yk (m i : Nat) : 16 * nI m + nI i = nI (16 * m + i) := by
  show nI 16 * nI m + nI i = _
  rw [pk_mul, nI_add]
/-- a set of one -/
theorem ad_b1 {v : Nat} (hv : v < 6) : ∀ i, i < 32 → (bt ((1 : Int32) <<< (nI v &&& 31)) i = true ↔ i = v) := by
  intro i hi
  rw [ad_one v (by omega) i hi, decide_eq_true_iff]
theorem ad_bn {b : Bool} {P : Prop} (h : b = true ↔ P) : (!b) = true ↔ ¬ P := by
  rw [← h]; cases b <;> decide
end
section
section
variable {p : ap_T} {m : Nat}
/-! NEEDED by rounds -/
def an_fo (p : ap_T) (m : Nat) (N : Nat → Int32) (i v : Nat) : Prop := ap_rd p m i v ∨ (¬ ap_wr p m i v ∧ ∃ j, ap_sc p m i j ∧ bt (N (16 * m + j)) v = true)
def an_I (p : ap_T) (m : Nat) (N : Nat → Int32) : Prop := ∀ i, i < ap_Z p m → ∀ v, v < 32 → bt (N (16 * m + i)) v = true → ap_nd p m i v ∧ an_fo p m N i v
def an_ca (p : ap_T) (m : Nat) (N : Nat → Int32) : Nat := ad_ct (fun x => bt (N (16 * m + x / 6)) (x % 6)) (6 * ap_Z p m)
theorem an_ca_le (H : ap_OK p) (N : Nat → Int32) : an_ca p m N ≤ 96 := by
  have h1 := ad_ct_le (fun x => bt (N (16 * m + x / 6)) (x % 6)) (6 * ap_Z p m)
  have h2 := H.2.1 m
  unfold an_ca
  omega
theorem an_fo_mono {N N' : Nat → Int32} {i v : Nat} (h : ∀ j, j < ap_Z p m → bt (N (16 * m + j)) v = true → bt (N' (16 * m + j)) v = true) (f : an_fo p m N i v) : an_fo p m N' i v := by
  rcases f with f | ⟨f, j, f1, f2⟩
  · exact Or.inl f
  · exact Or.inr ⟨f, j, f1, h j f1.1 f2⟩
theorem an_fo_nd {N : Nat → Int32} {i v : Nat} (hv : v < 32) (I : an_I p m N) (f : an_fo p m N i v) : ap_nd p m i v := by
  rcases f with f | ⟨f, j, f1, f2⟩
  · exact ad_nd_rd f
  · exact ad_nd_st f f1 (I j f1.1 v hv f2).1
theorem an_step (H : ap_OK p) {N : Nat → Int32} {i : Nat} {x : Int32} (I : an_I p m N) (hi : i < ap_Z p m) (hx : ∀ v, v < 32 → (bt x v = true ↔ an_fo p m N i v)) :
    an_I p m (upd N (16 * m + i) x) ∧ an_ca p m N ≤ an_ca p m (upd N (16 * m + i) x) ∧ (x ≠ N (16 * m + i) → an_ca p m N < an_ca p m (upd N (16 * m + i) x)) := by
  have sub : ∀ v, v < 32 → ∀ j, j < ap_Z p m → bt (N (16 * m + j)) v = true → bt (upd N (16 * m + i) x (16 * m + j)) v = true := by
    intro v hv j hj hb
    by_cases e : j = i
    · subst e
      rw [pk_us]
      exact (hx v hv).mpr (I j hj v hv hb).2
    · rw [pk_un (by omega)]; exact hb
  refine ⟨fun j hj v hv hb => ?_, ad_ct_mono _ (fun y hy hb => sub _ (by omega) _ (by omega) hb), fun ne => ?_⟩
  · have fo : an_fo p m N j v := by
      by_cases e : j = i
      · subst e
        rw [pk_us] at hb
        exact (hx v hv).mp hb
      · rw [pk_un (by omega)] at hb
        exact (I j hj v hv hb).2
    exact ⟨an_fo_nd hv I fo, an_fo_mono (sub v hv) fo⟩
  · have ex : ∃ v, v < 32 ∧ bt x v = true ∧ bt (N (16 * m + i)) v = false := by
      apply Classical.byContradiction
      intro nn
      apply ne
      refine b_ext (fun v hv => ?_)
      cases e : bt (N (16 * m + i)) v with
      | true => exact (hx v hv).mpr (I i hi v hv e).2
      | false =>
        cases e' : bt x v with
        | false => rfl
        | true => exact absurd ⟨v, hv, e', e⟩ nn
    obtain ⟨v, hv, h1, h2⟩ := ex
    have v6 : v < 6 := ap_nd_6 H (an_fo_nd hv I ((hx v hv).mp h1))
    have e1 : (6 * i + v) / 6 = i := by omega
    have e2 : (6 * i + v) % 6 = v := by omega
    refine ad_ct_lt (x := 6 * i + v) _ (fun y hy hb => sub _ (by omega) _ (by omega) hb) (by omega) ?_ ?_
    · show bt (N (16 * m + (6 * i + v) / 6)) ((6 * i + v) % 6) = false
      rw [e1, e2]; exact h2
    · show bt (upd N (16 * m + i) x (16 * m + (6 * i + v) / 6)) ((6 * i + v) % 6) = true
      rw [e1, e2, pk_us]; exact h1
theorem an_done {N : Nat → Int32} (I : an_I p m N) (hf : ∀ i, i < ap_Z p m → ∀ v, v < 32 → an_fo p m N i v → bt (N (16 * m + i)) v = true) (H : ap_OK p) : ap_NS p m N := by
  intro i hi v hv
  refine ⟨fun h => (I i hi v hv h).1, fun h => ?_⟩
  have := h (fun i => i < ap_Z p m → bt (N (16 * m + i)) v = true) (fun i hr hi => hf i hi v hv (Or.inl hr))
    (fun i j hw hs hj hi => hf i hi v hv (Or.inr ⟨hw, j, hs, hj hs.1⟩))
  exact this hi
/-! KEEPING by rounds: S i v, v = 6: reached -/
def ak_so (p : ap_T) (m : Nat) (S : Nat → Nat → Bool) : Prop := ∀ i, i < ap_Z p m → ∀ v, v ≤ 6 → S i v = true → ap_kp p m i v
def ak_cl (p : ap_T) (m : Nat) (S : Nat → Nat → Bool) (i : Nat) : Prop :=
  S i 6 = true → ∀ j, ap_sc p m i j → S j 6 = true ∧ ∀ v, v < 6 → ap_nd p m j v → (ap_gn p m i v ∨ S i v = true ∧ ¬ ap_kl p m i v) → S j v = true
def ak_ca (p : ap_T) (m : Nat) (S : Nat → Nat → Bool) : Nat := ad_ct (fun x => S (x / 7) (x % 7)) (7 * ap_Z p m)
theorem ak_ca_le (H : ap_OK p) (S : Nat → Nat → Bool) : ak_ca p m S ≤ 112 := by
  have h1 := ad_ct_le (fun x => S (x / 7) (x % 7)) (7 * ap_Z p m)
  have h2 := H.2.1 m
  unfold ak_ca
  omega
theorem ak_mono {S S' : Nat → Nat → Bool} (h : ∀ i, i < ap_Z p m → ∀ v, v ≤ 6 → S i v = true → S' i v = true) : ak_ca p m S ≤ ak_ca p m S' :=
  ad_ct_mono _ (fun y hy hb => h _ (by omega) _ (by omega) hb)
theorem ak_lt {S S' : Nat → Nat → Bool} (h : ∀ i, i < ap_Z p m → ∀ v, v ≤ 6 → S i v = true → S' i v = true) {j v : Nat} (hj : j < ap_Z p m) (hv : v ≤ 6) (h1 : S j v = false) (h2 : S' j v = true) : ak_ca p m S < ak_ca p m S' := by
  have e1 : (7 * j + v) / 7 = j := by omega
  have e2 : (7 * j + v) % 7 = v := by omega
  refine ad_ct_lt (x := 7 * j + v) _ (fun y hy hb => h _ (by omega) _ (by omega) hb) (by omega) ?_ ?_
  · show S ((7 * j + v) / 7) ((7 * j + v) % 7) = false
    rw [e1, e2]; exact h1
  · show S' ((7 * j + v) / 7) ((7 * j + v) % 7) = true
    rw [e1, e2]; exact h2
theorem ak_done {S : Nat → Nat → Bool} (I : ak_so p m S) (h0 : 0 < ap_Z p m → S 0 6 = true) (h1 : 0 < ap_Z p m → ap_L p m = 0 → ap_nd p m 0 0 → S 0 0 = true)
    (hc : ∀ i, i < ap_Z p m → ak_cl p m S i) : ∀ i, i < ap_Z p m → ∀ v, v ≤ 6 → (S i v = true ↔ ap_kp p m i v) := by
  intro i hi v hv
  refine ⟨I i hi v hv, fun h => ?_⟩
  have := h (fun i v => i < ap_Z p m ∧ S i v = true) (fun hz => ⟨hz, h0 hz⟩) (fun hz ho hn => ⟨hz, h1 hz ho hn⟩)
    (fun i j hp hs => ⟨hs.1, (hc i hp.1 hp.2 j hs).1⟩)
    (fun i j v hv hp hs hg hn => ⟨hs.1, (hc i hp.1 hp.2 j hs).2 v hv hn (Or.inl hg)⟩)
    (fun i j v hv hp hp' hk hs hn => ⟨hs.1, (hc i hp.1 hp.2 j hs).2 v hv hn (Or.inr ⟨hp'.2, hk⟩)⟩)
  exact this.2
/-! a LOAN by rounds: W is the set of places reached -/
def aw_rg (p : ap_T) (m i j : Nat) : Prop := ∃ s, ap_sc p m i s ∧ ad_rg (fun x => ap_nd p m x (ap_A p (16 * m + i))) (ap_sc p m) s j
def aw_gd (p : ap_T) (m i j : Nat) : Prop := ap_al p (16 * m + j) ∧ ∀ v, v ≠ ap_A p (16 * m + i) → ap_nd p m i v → ap_nd p m j v
def aw_cl (p : ap_T) (m i : Nat) (W : Nat → Bool) : Prop :=
  ∀ j, j < ap_Z p m → W j = true → ap_nd p m j (ap_A p (16 * m + i)) → aw_gd p m i j ∧ ∀ s, ap_sc p m j s → W s = true
theorem aw_st {i j s : Nat} (h : aw_rg p m i j) (h1 : ap_nd p m j (ap_A p (16 * m + i))) (h2 : ap_sc p m j s) : aw_rg p m i s := by
  obtain ⟨t, a, b⟩ := h
  exact ⟨t, a, ad_rg_st b h1 h2⟩
/-- all the ways are followed: it is a loan -/
theorem aw_yes {i : Nat} {W : Nat → Bool} (h1 : ap_O p (16 * m + i) = 3) (h2 : ap_C p (16 * m + i) ≠ 2) (h3 : ap_A p (16 * m + i) ≠ ap_B p (16 * m + i))
    (h0 : ∀ s, ap_sc p m i s → W s = true) (hc : aw_cl p m i W) : ap_ln p m i := by
  refine ⟨h1, h2, h3, fun s j hs hr hn => ?_⟩
  have := hr (fun x => x < ap_Z p m ∧ W x = true) ⟨hs.1, h0 s hs⟩ (fun x y hx hnx hxy => ⟨hxy.1, (hc x hx.1 hx.2 hnx).2 y hxy⟩)
  exact (hc j this.1 this.2 hn).1
theorem aw_no {i j : Nat} (hr : aw_rg p m i j) (hn : ap_nd p m j (ap_A p (16 * m + i))) (hb : ¬ aw_gd p m i j) : ¬ ap_ln p m i := by
  intro h
  obtain ⟨s, hs, hr⟩ := hr
  exact hb (h.2.2.2 s j hs hr hn)
/-! a list of places to be looked at: to be looked at, seen. gd: a place that stops nothing; go: ways lead on from it -/
def ao_I (z : Nat) (st gd go : Nat → Prop) (sc : Nat → Nat → Prop) (op se : Nat → Bool) : Prop :=
  (∀ j, op j = true ∨ se j = true → st j ∧ j < z) ∧ (∀ j, se j = true → gd j ∧ (go j → ∀ s, sc j s → op s = true ∨ se s = true)) ∧ (∀ j, op j = true → se j = false)
end
theorem aw_rnd {p : ap_T} {m i r : Nat} {W W' : Nat → Bool} (q : aw_cl p m i W ∨ r + 1 ≤ ad_ct W (ap_Z p m)) (h1 : ∀ j, j < ap_Z p m → W j = true → W' j = true)
    (h2 : ∀ j, j < ap_Z p m → W j = true → ap_nd p m j (ap_A p (16 * m + i)) → aw_gd p m i j ∧ ∀ s, ap_sc p m j s → W' s = true)
    (h3 : aw_cl p m i W → ∀ j, j < ap_Z p m → W' j = true → W j = true) : aw_cl p m i W' ∨ r + 1 + 1 ≤ ad_ct W' (ap_Z p m) := by
  by_cases e : ∀ j, j < ap_Z p m → W' j = true → W j = true
  · exact Or.inl (fun j hj hw hn => h2 j hj (e j hj hw) hn)
  · rcases q with q | q
    · exact absurd (h3 q) e
    · right
      have ex : ∃ j, j < ap_Z p m ∧ W' j = true ∧ W j = false := by
        apply Classical.byContradiction
        intro nn
        apply e
        intro j hj hw
        cases e' : W j with
        | true => rfl
        | false => exact absurd ⟨j, hj, hw, e'⟩ nn
      obtain ⟨j, hj, a, b⟩ := ex
      have := ad_ct_lt (x := j) (ap_Z p m) h1 hj b a
      omega
theorem aw_q0 {p : ap_T} {m i : Nat} {W : Nat → Bool} : aw_cl p m i W ∨ 0 + 1 ≤ ad_ct W (ap_Z p m) := by
  by_cases e : 1 ≤ ad_ct W (ap_Z p m)
  · exact Or.inr e
  · left
    intro j hj hw
    exact absurd (ad_ct_pos hj hw) e
theorem aw_q16 {p : ap_T} {m i : Nat} {W : Nat → Bool} (H : ap_OK p) (h : aw_cl p m i W ∨ 16 + 1 ≤ ad_ct W (ap_Z p m)) : aw_cl p m i W := by
  rcases h with h | h
  · exact h
  · have h1 := ad_ct_le W (ap_Z p m)
    have h2 := H.2.1 m
    omega
theorem ao_st {z : Nat} {st gd go : Nat → Prop} {sc : Nat → Nat → Prop} {op se op' se' : Nat → Bool}
    (hst : ∀ j s, st j → gd j → go j → sc j s → st s ∧ s < z) (I : ao_I z st gd go sc op se) {j : Nat} (hj : op j = true) (hg : gd j)
    (e1 : ∀ s, se' s = true ↔ se s = true ∨ s = j) (e2 : ∀ s, op' s = true ↔ (op s = true ∧ s ≠ j) ∨ (go j ∧ sc j s ∧ se' s = false)) :
    ao_I z st gd go sc op' se' ∧ ad_ct se z < ad_ct se' z ∧ ∀ s, op s = true ∨ se s = true → op' s = true ∨ se' s = true := by
  obtain ⟨I1, I2, I3⟩ := I
  have k : ∀ s, op s = true ∨ se s = true → op' s = true ∨ se' s = true := by
    intro s hs
    by_cases e : s = j
    · exact Or.inr ((e1 s).mpr (Or.inr e))
    · rcases hs with hs | hs
      · exact Or.inl ((e2 s).mpr (Or.inl ⟨hs, e⟩))
      · exact Or.inr ((e1 s).mpr (Or.inl hs))
  have hjst := I1 j (Or.inl hj)
  refine ⟨⟨fun s hs => ?_, fun s hs => ?_, fun s hs => ?_⟩, ?_, k⟩
  · rcases hs with hs | hs
    · rcases (e2 s).mp hs with ⟨a, _⟩ | ⟨a, b, _⟩
      · exact I1 s (Or.inl a)
      · exact hst j s hjst.1 hg a b
    · rcases (e1 s).mp hs with a | a
      · exact I1 s (Or.inr a)
      · rw [a]; exact hjst
  · rcases (e1 s).mp hs with a | a
    · exact ⟨(I2 s a).1, fun g t ht => k t ((I2 s a).2 g t ht)⟩
    · subst a
      refine ⟨hg, fun g t ht => ?_⟩
      cases e : se' t with
      | true => exact Or.inr rfl
      | false => exact Or.inl ((e2 t).mpr (Or.inr ⟨g, ht, e⟩))
  · rcases (e2 s).mp hs with ⟨a, b⟩ | ⟨_, _, c⟩
    · cases e : se' s with
      | false => rfl
      | true =>
        rcases (e1 s).mp e with c | c
        · rw [I3 s a] at c; exact absurd c (by decide)
        · exact absurd c b
    · exact c
  · refine ad_ct_lt (x := j) z (fun i _ hi => (e1 i).mpr (Or.inl hi)) hjst.2 (I3 j hj) ((e1 j).mpr (Or.inr rfl))
/-- NEEDED by a list of places -/
theorem ao_nd {p : ap_T} {m i v : Nat} {se op : Nat → Bool}
    (I : ao_I (ap_Z p m) (fun j => ap_nd p m j v → ap_nd p m i v) (fun j => ¬ ap_rd p m j v) (fun j => ¬ ap_wr p m j v) (ap_sc p m) op se)
    (h0 : op i = true ∨ se i = true) (he : ∀ s, op s = false) : ¬ ap_nd p m i v := by
  obtain ⟨I1, I2, I3⟩ := I
  intro h
  have hi : se i = true := by
    rcases h0 with h0 | h0
    · rw [he i] at h0; exact absurd h0 (by decide)
    · exact h0
  have := h (fun j => se j = false) (fun j hr => ?_) (fun j s hw hs hp => ?_)
  · rw [hi] at this; exact absurd this (by decide)
  · cases e : se j with
    | false => rfl
    | true => exact absurd hr (I2 j e).1
  · cases e : se j with
    | false => rfl
    | true =>
      rcases (I2 j e).2 hw s hs with a | a
      · rw [he s] at a; exact absurd a (by decide)
      · rw [hp] at a; exact absurd a (by decide)
/-- a LOAN by a list of places -/
theorem ao_ln {p : ap_T} {m i : Nat} {se op : Nat → Bool}
    (I : ao_I (ap_Z p m) (aw_rg p m i) (fun j => ap_nd p m j (ap_A p (16 * m + i)) → aw_gd p m i j) (fun j => ap_nd p m j (ap_A p (16 * m + i))) (ap_sc p m) op se)
    (h0 : ∀ s, ap_sc p m i s → op s = true ∨ se s = true) (he : ∀ s, op s = false)
    (h1 : ap_O p (16 * m + i) = 3) (h2 : ap_C p (16 * m + i) ≠ 2) (h3 : ap_A p (16 * m + i) ≠ ap_B p (16 * m + i)) : ap_ln p m i := by
  obtain ⟨I1, I2, I3⟩ := I
  have k : ∀ s, op s = true ∨ se s = true → se s = true := by
    intro s hs
    rcases hs with hs | hs
    · rw [he s] at hs; exact absurd hs (by decide)
    · exact hs
  exact aw_yes (W := se) h1 h2 h3 (fun s hs => k s (h0 s hs)) (fun j _ hw hn => ⟨(I2 j hw).1 hn, fun s hs => k s ((I2 j hw).2 hn s hs)⟩)
end
section
section
variable {p : ap_T} {po en up dn bg lv md gX dp sa sh : Int32} {N P K R me pt h lx va rf al fX pe ou es : Nat → Int32}
variable {m i : Nat}
theorem ax_on (H : ap_OK p) (hm : m < 4) (hi : i < 16) : ∃ x : Int32, ((ap_on p (16 * m + i) ∧ x = 1) ∨ (¬ ap_on p (16 * m + i) ∧ x = 0)) ∧ ∀ post : Int32 → Prop, post x → wpX_leadsBehind post (po, en, up, dn, bg, lv, md, gX, dp, sa, sh, ap_sz p, ap_L p, ap_oo p, ap_aA p, ap_aB p, ap_c p, N, P, K, R, me, pt, h, lx, va, rf, al, fX, pe, ou, es) (nI (16 * m + i)) := by
  have hk : 16 * m + i < 64 := by omega
  have hI : vp_in (nI (16 * m + i)) 64 := vp_in_nI hk (by omega)
  have he := ap_ook p hk
  have h14 := H.1 (16 * m + i)
  by_cases c1 : ap_O p (16 * m + i) = 10
  · exact ⟨0, Or.inr ⟨fun z => z.1 c1, rfl⟩, fun post hp => ⟨hI, br_t (by rw [he, c1]; rfl) hp⟩⟩
  by_cases c2 : ap_O p (16 * m + i) = 12
  · exact ⟨0, Or.inr ⟨fun z => z.2.1 c2, rfl⟩, fun post hp => ⟨hI, br_f (by rw [he, c2]; decide) ⟨hI, br_t (by rw [he, c2]; rfl) hp⟩⟩⟩
  by_cases c3 : ap_O p (16 * m + i) = 13
  · exact ⟨0, Or.inr ⟨fun z => z.2.2 c3, rfl⟩, fun post hp => ⟨hI, br_f (by rw [he, c3]; decide) ⟨hI, br_f (by rw [he, c3]; decide) ⟨hI, br_t (by rw [he, c3]; rfl) hp⟩⟩⟩⟩
  · have n : ∀ j, j < 64 → ap_O p (16 * m + i) ≠ j → ¬ ap_oo p (nI (16 * m + i)).toNatClampNeg = nI j := fun j hj z => by rw [he, nI_eq (by omega) (by omega)]; exact z
    exact ⟨1, Or.inl ⟨⟨c1, c2, c3⟩, rfl⟩, fun post hp => ⟨hI, br_f (n 10 (by omega) c1) ⟨hI, br_f (n 12 (by omega) c2) ⟨hI, br_f (n 13 (by omega) c3) hp⟩⟩⟩⟩
theorem ax_jp (H : ap_OK p) (hm : m < 4) (hi : i < 16) : ∃ x : Int32, ((ap_jp p (16 * m + i) ∧ x = 1) ∨ (¬ ap_jp p (16 * m + i) ∧ x = 0)) ∧ ∀ post : Int32 → Prop, post x → wpX_jumps post (po, en, up, dn, bg, lv, md, gX, dp, sa, sh, ap_sz p, ap_L p, ap_oo p, ap_aA p, ap_aB p, ap_c p, N, P, K, R, me, pt, h, lx, va, rf, al, fX, pe, ou, es) (nI (16 * m + i)) := by
  have hk : 16 * m + i < 64 := by omega
  have hI : vp_in (nI (16 * m + i)) 64 := vp_in_nI hk (by omega)
  have he := ap_ook p hk
  have h14 := H.1 (16 * m + i)
  have n : ∀ j, j < 64 → ap_O p (16 * m + i) ≠ j → ¬ ap_oo p (nI (16 * m + i)).toNatClampNeg = nI j := fun j hj z => by rw [he, nI_eq (by omega) (by omega)]; exact z
  by_cases c1 : ap_O p (16 * m + i) = 9
  · exact ⟨1, Or.inl ⟨Or.inl c1, rfl⟩, fun post hp => ⟨hI, br_t (by rw [he, c1]; rfl) hp⟩⟩
  by_cases c2 : ap_O p (16 * m + i) = 10
  · exact ⟨1, Or.inl ⟨Or.inr c2, rfl⟩, fun post hp => ⟨hI, br_f (by rw [he, c2]; decide) ⟨hI, br_t (by rw [he, c2]; rfl) hp⟩⟩⟩
  · exact ⟨0, Or.inr ⟨fun z => by rcases z with z | z <;> omega, rfl⟩, fun post hp => ⟨hI, br_f (n 9 (by omega) c1) ⟨hI, br_f (n 10 (by omega) c2) hp⟩⟩⟩
theorem ax_al (H : ap_OK p) (hm : m < 4) (hi : i < 16) : ∃ x : Int32, ((ap_al p (16 * m + i) ∧ x = 1) ∨ (¬ ap_al p (16 * m + i) ∧ x = 0)) ∧ ∀ post : Int32 → Prop, post x → wpX_leavesLoansAlone post (po, en, up, dn, bg, lv, md, gX, dp, sa, sh, ap_sz p, ap_L p, ap_oo p, ap_aA p, ap_aB p, ap_c p, N, P, K, R, me, pt, h, lx, va, rf, al, fX, pe, ou, es) (nI (16 * m + i)) := by
  have hk : 16 * m + i < 64 := by omega
  have hI : vp_in (nI (16 * m + i)) 64 := vp_in_nI hk (by omega)
  have he := ap_ook p hk
  have h14 := H.1 (16 * m + i)
  have n : ∀ j, j < 64 → ap_O p (16 * m + i) ≠ j → ¬ ap_oo p (nI (16 * m + i)).toNatClampNeg = nI j := fun j hj z => by rw [he, nI_eq (by omega) (by omega)]; exact z
  have y : ∀ j, j < 64 → ap_O p (16 * m + i) = j → ap_oo p (nI (16 * m + i)).toNatClampNeg = nI j := fun j hj z => by rw [he, z]
  by_cases c1 : ap_O p (16 * m + i) = 5
  · exact ⟨1, Or.inl ⟨Or.inl c1, rfl⟩, fun post hp => ⟨hI, br_t (y 5 (by omega) c1) hp⟩⟩
  by_cases c2 : ap_O p (16 * m + i) = 6
  · exact ⟨1, Or.inl ⟨Or.inr (Or.inl c2), rfl⟩, fun post hp => ⟨hI, br_f (n 5 (by omega) c1) ⟨hI, br_t (y 6 (by omega) c2) hp⟩⟩⟩
  by_cases c3 : ap_O p (16 * m + i) = 7
  · exact ⟨1, Or.inl ⟨Or.inr (Or.inr (Or.inl c3)), rfl⟩, fun post hp => ⟨hI, br_f (n 5 (by omega) c1) ⟨hI, br_f (n 6 (by omega) c2) ⟨hI, br_t (y 7 (by omega) c3) hp⟩⟩⟩⟩
  by_cases c4 : ap_O p (16 * m + i) = 9
  · exact ⟨1, Or.inl ⟨Or.inr (Or.inr (Or.inr (Or.inl c4))), rfl⟩, fun post hp => ⟨hI, br_f (n 5 (by omega) c1) ⟨hI, br_f (n 6 (by omega) c2) ⟨hI, br_f (n 7 (by omega) c3) ⟨hI, br_t (y 9 (by omega) c4) hp⟩⟩⟩⟩⟩
  by_cases c5 : ap_O p (16 * m + i) = 10
  · exact ⟨1, Or.inl ⟨Or.inr (Or.inr (Or.inr (Or.inr c5))), rfl⟩, fun post hp => ⟨hI, br_f (n 5 (by omega) c1) ⟨hI, br_f (n 6 (by omega) c2) ⟨hI, br_f (n 7 (by omega) c3) ⟨hI, br_f (n 9 (by omega) c4) ⟨hI, br_t (y 10 (by omega) c5) hp⟩⟩⟩⟩⟩⟩
  · exact ⟨0, Or.inr ⟨fun z => by unfold ap_al at z; omega, rfl⟩, fun post hp => ⟨hI, br_f (n 5 (by omega) c1) ⟨hI, br_f (n 6 (by omega) c2) ⟨hI, br_f (n 7 (by omega) c3) ⟨hI, br_f (n 9 (by omega) c4) ⟨hI, br_f (n 10 (by omega) c5) hp⟩⟩⟩⟩⟩⟩
theorem ax_rd (H : ap_OK p) (hm : m < 4) (hi : i < 16) : ∃ x : Int32, (∀ v, v < 32 → (bt x v = true ↔ ap_rd p m i v)) ∧ ∀ post : Int32 → Prop, post x → wpX_readBy post (po, en, up, dn, bg, lv, md, gX, dp, sa, sh, ap_sz p, ap_L p, ap_oo p, ap_aA p, ap_aB p, ap_c p, N, P, K, R, me, pt, h, lx, va, rf, al, fX, pe, ou, es) (nI (16 * m + i)) := by
  have hk : 16 * m + i < 64 := by omega
  have hI : vp_in (nI (16 * m + i)) 64 := vp_in_nI hk (by omega)
  have he := ap_ook p hk
  have h14 := H.1 (16 * m + i)
  have sA := ad_b1 h14.2.1
  have sB := ad_b1 h14.2.2.1
  rcases ap_14 H (16 * m + i) with e | e | e | e | e | e | e | e | e | e | e | e | e | e
  · rw [e] at he
    exact ⟨0, fun v hv => by rw [b_0]; simp only [Bool.false_eq_true, false_iff]; unfold ap_rd; omega, fun post hp => ⟨hI, nm_r (e' := (0 : Int32)) he (br_t (by decide) (hp))⟩⟩
  · rw [e] at he
    exact ⟨(1 : Int32) <<< (ap_aB p (nI (16 * m + i)).toNatClampNeg &&& 31), fun v hv => by rw [ap_aBk p hk, sB v hv]; unfold ap_rd; omega, fun post hp => ⟨hI, nm_r (e' := (1 : Int32)) he (br_f (by decide) (br_f (by decide) (br_t (by decide) (⟨hI, hp⟩))))⟩⟩
  · rw [e] at he
    exact ⟨0, fun v hv => by rw [b_0]; simp only [Bool.false_eq_true, false_iff]; unfold ap_rd; omega, fun post hp => ⟨hI, nm_r (e' := (2 : Int32)) he (br_f (by decide) (br_f (by decide) (br_f (by decide) (br_t (by decide) (hp)))))⟩⟩
  · rw [e] at he
    exact ⟨(1 : Int32) <<< (ap_aB p (nI (16 * m + i)).toNatClampNeg &&& 31), fun v hv => by rw [ap_aBk p hk, sB v hv]; unfold ap_rd; omega, fun post hp => ⟨hI, nm_r (e' := (3 : Int32)) he (br_f (by decide) (br_f (by decide) (br_f (by decide) (br_f (by decide) (br_t (by decide) (⟨hI, hp⟩))))))⟩⟩
  · rw [e] at he
    exact ⟨((1 : Int32) <<< (ap_aA p (nI (16 * m + i)).toNatClampNeg &&& 31)) ||| ((1 : Int32) <<< (ap_aB p (nI (16 * m + i)).toNatClampNeg &&& 31)), fun v hv => by rw [b_or, Bool.or_eq_true, ap_aAk p hk, ap_aBk p hk, sA v hv, sB v hv]; unfold ap_rd; omega, fun post hp => ⟨hI, nm_r (e' := (4 : Int32)) he (br_f (by decide) (br_f (by decide) (br_f (by decide) (br_f (by decide) (br_f (by decide) (br_t (by decide) (⟨hI, hI, hp⟩)))))))⟩⟩
  · rw [e] at he
    exact ⟨(1 : Int32) <<< (ap_aA p (nI (16 * m + i)).toNatClampNeg &&& 31), fun v hv => by rw [ap_aAk p hk, sA v hv]; unfold ap_rd; omega, fun post hp => ⟨hI, nm_r (e' := (5 : Int32)) he (br_f (by decide) (br_f (by decide) (br_f (by decide) (br_f (by decide) (br_f (by decide) (br_f (by decide) (br_t (by decide) (⟨hI, hp⟩))))))))⟩⟩
  · rw [e] at he
    exact ⟨(1 : Int32) <<< (ap_aA p (nI (16 * m + i)).toNatClampNeg &&& 31), fun v hv => by rw [ap_aAk p hk, sA v hv]; unfold ap_rd; omega, fun post hp => ⟨hI, nm_r (e' := (6 : Int32)) he (br_f (by decide) (br_f (by decide) (br_f (by decide) (br_f (by decide) (br_f (by decide) (br_f (by decide) (br_f (by decide) (br_t (by decide) (⟨hI, hp⟩)))))))))⟩⟩
  · rw [e] at he
    exact ⟨(1 : Int32) <<< (ap_aA p (nI (16 * m + i)).toNatClampNeg &&& 31), fun v hv => by rw [ap_aAk p hk, sA v hv]; unfold ap_rd; omega, fun post hp => ⟨hI, nm_r (e' := (7 : Int32)) he (br_f (by decide) (br_f (by decide) (br_f (by decide) (br_f (by decide) (br_f (by decide) (br_f (by decide) (br_f (by decide) (br_f (by decide) (br_t (by decide) (⟨hI, hp⟩))))))))))⟩⟩
  · rw [e] at he
    exact ⟨(1 : Int32) <<< (ap_aA p (nI (16 * m + i)).toNatClampNeg &&& 31), fun v hv => by rw [ap_aAk p hk, sA v hv]; unfold ap_rd; omega, fun post hp => ⟨hI, nm_r (e' := (8 : Int32)) he (br_f (by decide) (br_f (by decide) (br_f (by decide) (br_f (by decide) (br_f (by decide) (br_f (by decide) (br_f (by decide) (br_f (by decide) (br_f (by decide) (br_t (by decide) (⟨hI, hp⟩)))))))))))⟩⟩
  · rw [e] at he
    exact ⟨(1 : Int32) <<< (ap_aA p (nI (16 * m + i)).toNatClampNeg &&& 31), fun v hv => by rw [ap_aAk p hk, sA v hv]; unfold ap_rd; omega, fun post hp => ⟨hI, nm_r (e' := (9 : Int32)) he (br_f (by decide) (br_f (by decide) (br_f (by decide) (br_f (by decide) (br_f (by decide) (br_f (by decide) (br_f (by decide) (br_f (by decide) (br_f (by decide) (br_f (by decide) (br_t (by decide) (⟨hI, hp⟩))))))))))))⟩⟩
  · rw [e] at he
    exact ⟨0, fun v hv => by rw [b_0]; simp only [Bool.false_eq_true, false_iff]; unfold ap_rd; omega, fun post hp => ⟨hI, nm_r (e' := (10 : Int32)) he (br_f (by decide) (br_f (by decide) (br_f (by decide) (br_f (by decide) (br_f (by decide) (br_f (by decide) (br_f (by decide) (br_f (by decide) (br_f (by decide) (br_f (by decide) (br_f (by decide) (br_t (by decide) (hp)))))))))))))⟩⟩
  · rw [e] at he
    exact ⟨(1 : Int32) <<< (ap_aB p (nI (16 * m + i)).toNatClampNeg &&& 31), fun v hv => by rw [ap_aBk p hk, sB v hv]; unfold ap_rd; omega, fun post hp => ⟨hI, nm_r (e' := (11 : Int32)) he (br_f (by decide) (br_f (by decide) (br_f (by decide) (br_f (by decide) (br_f (by decide) (br_f (by decide) (br_f (by decide) (br_f (by decide) (br_f (by decide) (br_f (by decide) (br_f (by decide) (br_f (by decide) (br_t (by decide) (⟨hI, hp⟩))))))))))))))⟩⟩
  · rw [e] at he
    exact ⟨(1 : Int32) <<< (ap_aA p (nI (16 * m + i)).toNatClampNeg &&& 31), fun v hv => by rw [ap_aAk p hk, sA v hv]; unfold ap_rd; omega, fun post hp => ⟨hI, nm_r (e' := (12 : Int32)) he (br_f (by decide) (br_f (by decide) (br_f (by decide) (br_f (by decide) (br_f (by decide) (br_f (by decide) (br_f (by decide) (br_f (by decide) (br_f (by decide) (br_f (by decide) (br_f (by decide) (br_f (by decide) (br_f (by decide) (br_t (by decide) (⟨hI, hp⟩)))))))))))))))⟩⟩
  · rw [e] at he
    exact ⟨0, fun v hv => by rw [b_0]; simp only [Bool.false_eq_true, false_iff]; unfold ap_rd; omega, fun post hp => ⟨hI, nm_r (e' := (13 : Int32)) he (br_f (by decide) (br_t (by decide) (hp)))⟩⟩
theorem ax_wr (H : ap_OK p) (hm : m < 4) (hi : i < 16) : ∃ x : Int32, (∀ v, v < 32 → (bt x v = true ↔ ap_wr p m i v)) ∧ ∀ post : Int32 → Prop, post x → wpX_writtenBy post (po, en, up, dn, bg, lv, md, gX, dp, sa, sh, ap_sz p, ap_L p, ap_oo p, ap_aA p, ap_aB p, ap_c p, N, P, K, R, me, pt, h, lx, va, rf, al, fX, pe, ou, es) (nI (16 * m + i)) := by
  have hk : 16 * m + i < 64 := by omega
  have hI : vp_in (nI (16 * m + i)) 64 := vp_in_nI hk (by omega)
  have he := ap_ook p hk
  have h14 := H.1 (16 * m + i)
  have sA := ad_b1 h14.2.1
  have sB := ad_b1 h14.2.2.1
  rcases ap_14 H (16 * m + i) with e | e | e | e | e | e | e | e | e | e | e | e | e | e
  · rw [e] at he
    exact ⟨(1 : Int32) <<< (ap_aA p (nI (16 * m + i)).toNatClampNeg &&& 31), fun v hv => by rw [ap_aAk p hk, sA v hv]; unfold ap_wr; omega, fun post hp => ⟨hI, nm_r (e' := (0 : Int32)) he (br_f (by decide) (br_f (by decide) (br_t (by decide) (⟨hI, hp⟩))))⟩⟩
  · rw [e] at he
    exact ⟨(1 : Int32) <<< (ap_aA p (nI (16 * m + i)).toNatClampNeg &&& 31), fun v hv => by rw [ap_aAk p hk, sA v hv]; unfold ap_wr; omega, fun post hp => ⟨hI, nm_r (e' := (1 : Int32)) he (br_f (by decide) (br_f (by decide) (br_f (by decide) (br_t (by decide) (⟨hI, hp⟩)))))⟩⟩
  · rw [e] at he
    exact ⟨(1 : Int32) <<< (ap_aA p (nI (16 * m + i)).toNatClampNeg &&& 31), fun v hv => by rw [ap_aAk p hk, sA v hv]; unfold ap_wr; omega, fun post hp => ⟨hI, nm_r (e' := (2 : Int32)) he (br_f (by decide) (br_f (by decide) (br_f (by decide) (br_f (by decide) (br_t (by decide) (⟨hI, hp⟩))))))⟩⟩
  · rw [e] at he
    exact ⟨(1 : Int32) <<< (ap_aA p (nI (16 * m + i)).toNatClampNeg &&& 31), fun v hv => by rw [ap_aAk p hk, sA v hv]; unfold ap_wr; omega, fun post hp => ⟨hI, nm_r (e' := (3 : Int32)) he (br_f (by decide) (br_f (by decide) (br_f (by decide) (br_f (by decide) (br_f (by decide) (br_t (by decide) (⟨hI, hp⟩)))))))⟩⟩
  · rw [e] at he
    exact ⟨0, fun v hv => by rw [b_0]; simp only [Bool.false_eq_true, false_iff]; unfold ap_wr; omega, fun post hp => ⟨hI, nm_r (e' := (4 : Int32)) he (br_f (by decide) (br_f (by decide) (br_f (by decide) (br_f (by decide) (br_f (by decide) (br_f (by decide) (br_t (by decide) (hp))))))))⟩⟩
  · rw [e] at he
    exact ⟨0, fun v hv => by rw [b_0]; simp only [Bool.false_eq_true, false_iff]; unfold ap_wr; omega, fun post hp => ⟨hI, nm_r (e' := (5 : Int32)) he (br_f (by decide) (br_f (by decide) (br_f (by decide) (br_f (by decide) (br_f (by decide) (br_f (by decide) (br_f (by decide) (br_t (by decide) (hp)))))))))⟩⟩
  · rw [e] at he
    exact ⟨0, fun v hv => by rw [b_0]; simp only [Bool.false_eq_true, false_iff]; unfold ap_wr; omega, fun post hp => ⟨hI, nm_r (e' := (6 : Int32)) he (br_f (by decide) (br_f (by decide) (br_f (by decide) (br_f (by decide) (br_f (by decide) (br_f (by decide) (br_f (by decide) (br_f (by decide) (br_t (by decide) (hp))))))))))⟩⟩
  · rw [e] at he
    exact ⟨0, fun v hv => by rw [b_0]; simp only [Bool.false_eq_true, false_iff]; unfold ap_wr; omega, fun post hp => ⟨hI, nm_r (e' := (7 : Int32)) he (br_f (by decide) (br_f (by decide) (br_f (by decide) (br_f (by decide) (br_f (by decide) (br_f (by decide) (br_f (by decide) (br_f (by decide) (br_f (by decide) (br_t (by decide) (hp)))))))))))⟩⟩
  · rw [e] at he
    exact ⟨(1 : Int32) <<< (ap_aA p (nI (16 * m + i)).toNatClampNeg &&& 31), fun v hv => by rw [ap_aAk p hk, sA v hv]; unfold ap_wr; omega, fun post hp => ⟨hI, nm_r (e' := (8 : Int32)) he (br_f (by decide) (br_f (by decide) (br_f (by decide) (br_f (by decide) (br_f (by decide) (br_f (by decide) (br_f (by decide) (br_f (by decide) (br_f (by decide) (br_f (by decide) (br_t (by decide) (⟨hI, hp⟩))))))))))))⟩⟩
  · rw [e] at he
    exact ⟨0, fun v hv => by rw [b_0]; simp only [Bool.false_eq_true, false_iff]; unfold ap_wr; omega, fun post hp => ⟨hI, nm_r (e' := (9 : Int32)) he (br_f (by decide) (br_f (by decide) (br_f (by decide) (br_f (by decide) (br_f (by decide) (br_f (by decide) (br_f (by decide) (br_f (by decide) (br_f (by decide) (br_f (by decide) (br_f (by decide) (br_t (by decide) (hp)))))))))))))⟩⟩
  · rw [e] at he
    exact ⟨0, fun v hv => by rw [b_0]; simp only [Bool.false_eq_true, false_iff]; unfold ap_wr; omega, fun post hp => ⟨hI, nm_r (e' := (10 : Int32)) he (br_f (by decide) (br_f (by decide) (br_f (by decide) (br_f (by decide) (br_f (by decide) (br_f (by decide) (br_f (by decide) (br_f (by decide) (br_f (by decide) (br_f (by decide) (br_f (by decide) (br_f (by decide) (br_t (by decide) (hp))))))))))))))⟩⟩
  · rw [e] at he
    exact ⟨(1 : Int32) <<< (ap_aA p (nI (16 * m + i)).toNatClampNeg &&& 31), fun v hv => by rw [ap_aAk p hk, sA v hv]; unfold ap_wr; omega, fun post hp => ⟨hI, nm_r (e' := (11 : Int32)) he (br_f (by decide) (br_f (by decide) (br_f (by decide) (br_f (by decide) (br_f (by decide) (br_f (by decide) (br_f (by decide) (br_f (by decide) (br_f (by decide) (br_f (by decide) (br_f (by decide) (br_f (by decide) (br_f (by decide) (br_t (by decide) (⟨hI, hp⟩)))))))))))))))⟩⟩
  · rw [e] at he
    exact ⟨0, fun v hv => by rw [b_0]; simp only [Bool.false_eq_true, false_iff]; unfold ap_wr; omega, fun post hp => ⟨hI, nm_r (e' := (12 : Int32)) he (br_f (by decide) (br_t (by decide) (hp)))⟩⟩
  · rw [e] at he
    exact ⟨0, fun v hv => by rw [b_0]; simp only [Bool.false_eq_true, false_iff]; unfold ap_wr; omega, fun post hp => ⟨hI, nm_r (e' := (13 : Int32)) he (br_f (by decide) (br_t (by decide) (hp)))⟩⟩
theorem ax_na (H : ap_OK p) (hm : m < 4) {j : Nat} (hj : j ≤ 16) : ∃ x : Int32, ((j < ap_Z p m ∧ x = N (16 * m + j)) ∨ (ap_Z p m ≤ j ∧ x = 0)) ∧ ∀ post : Int32 → Prop, post x → wpX_neededAt post (po, en, up, dn, bg, lv, md, gX, dp, sa, sh, ap_sz p, ap_L p, ap_oo p, ap_aA p, ap_aB p, ap_c p, N, P, K, R, me, pt, h, lx, va, rf, al, fX, pe, ou, es) (nI m) (nI j) := by
  have hz := H.2.1 m
  have hM : vp_in (nI m) 4 := vp_in_nI hm (by omega)
  by_cases c : j < ap_Z p m
  · refine ⟨N (16 * m + j), Or.inl ⟨c, rfl⟩, fun post hp => ⟨hM, br_f (by rw [ap_szm p hm, nI_leI (by omega) (by omega)]; omega) ?_⟩⟩
    rw [ap_xk, nI_clamp (by omega)]
    exact ⟨vp_in_nI (by omega) (by omega), hp⟩
  · exact ⟨0, Or.inr ⟨by omega, rfl⟩, fun post hp => ⟨hM, br_t (by rw [ap_szm p hm, nI_leI (by omega) (by omega)]; omega) hp⟩⟩
/-- NEEDED behind, as the array says -/
theorem ax_nb (H : ap_OK p) (hm : m < 4) (hi : i < 16) : ∃ x : Int32, (∀ v, v < 32 → (bt x v = true ↔ ∃ j, ap_sc p m i j ∧ bt (N (16 * m + j)) v = true)) ∧ ∀ post : Int32 → Prop, post x → wpX_neededBehind post (po, en, up, dn, bg, lv, md, gX, dp, sa, sh, ap_sz p, ap_L p, ap_oo p, ap_aA p, ap_aB p, ap_c p, N, P, K, R, me, pt, h, lx, va, rf, al, fX, pe, ou, es) (nI m) (nI i) := by
  have hk : 16 * m + i < 64 := by omega
  have hI : vp_in (nI (16 * m + i)) 64 := vp_in_nI hk (by omega)
  have hc := (H.1 (16 * m + i)).2.2.2.2.1
  obtain ⟨x1, h1, w1⟩ := ax_on (po := po) (en := en) (up := up) (dn := dn) (bg := bg) (lv := lv) (md := md) (gX := gX) (dp := dp) (sa := sa) (sh := sh) (N := N) (P := P) (K := K) (R := R) (me := me) (pt := pt) (h := h) (lx := lx) (va := va) (rf := rf) (al := al) (fX := fX) (pe := pe) (ou := ou) (es := es) H hm hi
  obtain ⟨x2, h2, w2⟩ := ax_jp (po := po) (en := en) (up := up) (dn := dn) (bg := bg) (lv := lv) (md := md) (gX := gX) (dp := dp) (sa := sa) (sh := sh) (N := N) (P := P) (K := K) (R := R) (me := me) (pt := pt) (h := h) (lx := lx) (va := va) (rf := rf) (al := al) (fX := fX) (pe := pe) (ou := ou) (es := es) H hm hi
  obtain ⟨y1, g1, v1⟩ := ax_na (po := po) (en := en) (up := up) (dn := dn) (bg := bg) (lv := lv) (md := md) (gX := gX) (dp := dp) (sa := sa) (sh := sh) (N := N) (P := P) (K := K) (R := R) (me := me) (pt := pt) (h := h) (lx := lx) (va := va) (rf := rf) (al := al) (fX := fX) (pe := pe) (ou := ou) (es := es) H hm (j := i + 1) (by omega)
  have z0 : ∀ v, ¬ bt 0 v = true := fun v => by rw [b_0]; decide
  -- the part behind
  have B : ∃ z : Int32, (∀ v, v < 32 → (bt z v = true ↔ ap_on p (16 * m + i) ∧ i + 1 < ap_Z p m ∧ bt (N (16 * m + (i + 1))) v = true)) ∧ ∀ post : Int32 → Prop, wX_neededBehind_27 post (nI m) (nI (16 * m + i)) z po en up dn bg lv md gX dp sa sh (ap_sz p) (ap_L p) (ap_oo p) (ap_aA p) (ap_aB p) (ap_c p) N P K R me pt h lx va rf al fX pe ou es → wpX_neededBehind post (po, en, up, dn, bg, lv, md, gX, dp, sa, sh, ap_sz p, ap_L p, ap_oo p, ap_aA p, ap_aB p, ap_c p, N, P, K, R, me, pt, h, lx, va, rf, al, fX, pe, ou, es) (nI m) (nI i) := by
    rcases h1 with ⟨a, e⟩ | ⟨a, e⟩
    · refine ⟨y1, fun v hv => ?_, fun post hp => nm_r (ap_xk m i) (w1 _ (br_f (by rw [e]; decide) ?_))⟩
      · rcases g1 with ⟨b, f⟩ | ⟨b, f⟩
        · rw [f]; exact ⟨fun q => ⟨a, b, q⟩, fun q => q.2.2⟩
        · rw [f]; exact ⟨fun q => absurd q (z0 v), fun q => absurd q.2.1 (by omega)⟩
      · rw [nI_1]; exact v1 _ hp
    · exact ⟨0, fun v hv => ⟨fun q => absurd q (z0 v), fun q => absurd q.1 a⟩, fun post hp => nm_r (ap_xk m i) (w1 _ (br_t e hp))⟩
  obtain ⟨z, hz, wz⟩ := B
  rcases h2 with ⟨a, e⟩ | ⟨a, e⟩
  · obtain ⟨c1, c2⟩ := hc a
    obtain ⟨y2, g2, v2⟩ := ax_na (po := po) (en := en) (up := up) (dn := dn) (bg := bg) (lv := lv) (md := md) (gX := gX) (dp := dp) (sa := sa) (sh := sh) (N := N) (P := P) (K := K) (R := R) (me := me) (pt := pt) (h := h) (lx := lx) (va := va) (rf := rf) (al := al) (fX := fX) (pe := pe) (ou := ou) (es := es) H hm (j := ap_C p (16 * m + i)) (by omega)
    refine ⟨z ||| y2, fun v hv => ?_, fun post hp => wz post (w2 _ (br_f (by rw [e]; decide) ⟨hI, ?_⟩))⟩
    · rw [b_or, Bool.or_eq_true, hz v hv]
      constructor
      · rintro (⟨q1, q2, q3⟩ | q)
        · exact ⟨i + 1, ⟨q2, Or.inl ⟨q1, rfl⟩⟩, q3⟩
        · rcases g2 with ⟨b, f⟩ | ⟨b, f⟩
          · rw [f] at q; exact ⟨_, ⟨b, Or.inr ⟨a, rfl⟩⟩, q⟩
          · rw [f] at q; exact absurd q (z0 v)
      · rintro ⟨j, ⟨q1, ⟨q2, q3⟩ | ⟨q2, q3⟩⟩, q4⟩
        · subst q3; exact Or.inl ⟨q2, q1, q4⟩
        · subst q3
          rcases g2 with ⟨b, f⟩ | ⟨b, f⟩
          · rw [f]; exact Or.inr q4
          · omega
    · rw [ap_ck p hk, c1]; exact v2 _ hp
  · refine ⟨z, fun v hv => ?_, fun post hp => wz post (w2 _ (br_t e hp))⟩
    rw [hz v hv]
    constructor
    · rintro ⟨q1, q2, q3⟩
      exact ⟨i + 1, ⟨q2, Or.inl ⟨q1, rfl⟩⟩, q3⟩
    · rintro ⟨j, ⟨q1, ⟨q2, q3⟩ | ⟨q2, q3⟩⟩, q4⟩
      · subst q3; exact ⟨q2, q1, q4⟩
      · exact absurd q2 a
end
end
section
def ap_out (m : Nat) (N N' : Nat → Int32) : Prop := ∀ k, k / 16 ≠ m → N' k = N k
theorem ap_out_u {m i : Nat} {N N' : Nat → Int32} (h : ap_out m N N') (hi : i < 16) (x : Int32) : ap_out m N (upd N' (16 * m + i) x) := fun k hk => by
  rw [pk_un (by intro z; apply hk; omega)]
  exact h k hk
theorem ap_out_r {m : Nat} {N : Nat → Int32} : ap_out m N N := fun _ _ => rfl
section
variable {p : ap_T} {po en up dn bg lv md gX dp sa sh : Int32} {N P K R me pt h lx va rf al fX pe ou es : Nat → Int32}
variable {m : Nat}
/-- what one round asks of place c and those behind it; N0: as the round found the sets -/
def an_R (p : ap_T) (m : Nat) (N0 N : Nat → Int32) (fl : Int32) (c : Nat) : Prop :=
  an_I p m N ∧ ap_out m N0 N ∧ ((fl = 0 ∧ N = N0 ∧ ∀ i, c ≤ i → i < ap_Z p m → ∀ v, v < 32 → an_fo p m N0 i v → bt (N0 (16 * m + i)) v = true) ∨ (fl = 1 ∧ an_ca p m N0 < an_ca p m N))
theorem an_inner (H : ap_OK p) (hm : m < 4) (post : SX → Prop) (J : Int32 → Int32 → (Nat → Int32) → (Nat → Int32) → (Nat → Int32) → (Nat → Int32) → (Nat → Int32) → (Nat → Int32) → (Nat → Int32) → (Nat → Int32) → (Nat → Int32) → (Nat → Int32) → (Nat → Int32) → (Nat → Int32) → (Nat → Int32) → (Nat → Int32) → (Nat → Int32) → (Nat → Int32) → (Nat → Int32) → (Nat → Int32) → (Nat → Int32) → (Nat → Int32) → (Nat → Int32) → Prop) (x3 : Int32) (N0 : Nat → Int32)
    (hJ : ∀ N' fl', an_R p m N0 N' fl' 0 → J fl' (x3 + 1) (ap_sz p) (ap_L p) (ap_oo p) (ap_aA p) (ap_aB p) (ap_c p) N' P K R me pt h lx va rf al fX pe ou es) :
    ∀ c, c ≤ ap_Z p m → ∀ N fl, an_R p m N0 N fl c → wX_findNeeded_56 post J (nI m) x3 po en up dn bg lv md gX dp sa sh (c + 1) fl (nI c + (-1)) (ap_sz p) (ap_L p) (ap_oo p) (ap_aA p) (ap_aB p) (ap_c p) N P K R me pt h lx va rf al fX pe ou es := by
  intro c
  induction c with
  | zero =>
    intro _ N fl hR
    exact br_t (by decide) (nm_e (hJ N fl hR))
  | succ i ih =>
    intro hc N fl hR
    have hz := H.2.1 m
    have hi : i < 16 := by omega
    have hk : 16 * m + i < 64 := by omega
    have hI : vp_in (nI (16 * m + i)) 64 := vp_in_nI hk (by omega)
    obtain ⟨x, hx, wx⟩ := ax_rd (po := po) (en := en) (up := up) (dn := dn) (bg := bg) (lv := lv) (md := md) (gX := gX) (dp := dp) (sa := sa) (sh := sh) (N := N) (P := P) (K := K) (R := R) (me := me) (pt := pt) (h := h) (lx := lx) (va := va) (rf := rf) (al := al) (fX := fX) (pe := pe) (ou := ou) (es := es) H hm hi
    obtain ⟨y, hy, wy⟩ := ax_nb (po := po) (en := en) (up := up) (dn := dn) (bg := bg) (lv := lv) (md := md) (gX := gX) (dp := dp) (sa := sa) (sh := sh) (N := N) (P := P) (K := K) (R := R) (me := me) (pt := pt) (h := h) (lx := lx) (va := va) (rf := rf) (al := al) (fX := fX) (pe := pe) (ou := ou) (es := es) H hm hi
    obtain ⟨w, hw, ww⟩ := ax_wr (po := po) (en := en) (up := up) (dn := dn) (bg := bg) (lv := lv) (md := md) (gX := gX) (dp := dp) (sa := sa) (sh := sh) (N := N) (P := P) (K := K) (R := R) (me := me) (pt := pt) (h := h) (lx := lx) (va := va) (rf := rf) (al := al) (fX := fX) (pe := pe) (ou := ou) (es := es) H hm hi
    have hf : ∀ v, v < 32 → (bt (x ||| (y &&& (w ^^^ (-1)))) v = true ↔ an_fo p m N i v) := by
      intro v hv
      rw [b_or, b_and, ad_not w hv, Bool.or_eq_true, Bool.and_eq_true, hx v hv, hy v hv]
      have e : (!bt w v) = true ↔ ¬ ap_wr p m i v := by rw [← hw v hv]; cases bt w v <;> decide
      rw [e]
      unfold an_fo
      constructor
      · rintro (a | ⟨a, b⟩)
        · exact Or.inl a
        · exact Or.inr ⟨b, a⟩
      · rintro (a | ⟨a, b⟩)
        · exact Or.inl a
        · exact Or.inr ⟨b, a⟩
    obtain ⟨R1, R2, R3⟩ := hR
    obtain ⟨S1, S2, S3⟩ := an_step H R1 (by omega) hf
    -- behind the flag
    have fin : ∀ fl', an_R p m N0 (upd N (16 * m + i) (x ||| (y &&& (w ^^^ (-1))))) fl' i →
        wX_findNeeded_116 post J (wX_findNeeded_56 post J (nI m) x3 po en up dn bg lv md gX dp sa sh (i + 1)) (nI m) x3 (nI i) (nI (16 * m + i)) (x ||| (y &&& (w ^^^ (-1)))) fl' po en up dn bg lv md gX dp sa sh (ap_sz p) (ap_L p) (ap_oo p) (ap_aA p) (ap_aB p) (ap_c p) N P K R me pt h lx va rf al fX pe ou es := by
      intro fl' h'
      refine ⟨hI, nm_e (nm_e ?_)⟩
      rw [nI_clamp (by omega)]
      exact ih (by omega) _ fl' h'
    rw [pk_m1]
    refine br_f (nI_pos (by omega)) (nm_r (ap_xk m i) (wx _ (wy _ (ww _ (nm_e ?_)))))
    have ek : (nI (16 * m + i)).toNatClampNeg = 16 * m + i := nI_clamp (by omega)
    rcases R3 with ⟨f0, eN, fo⟩ | ⟨f1, lt⟩
    · refine br_t f0 ⟨hI, br_c (fun e => fin 0 ?_) (fun e => fin 1 ?_)⟩
      · rw [ek] at e
        have e' : upd N (16 * m + i) (x ||| (y &&& (w ^^^ (-1)))) = N := ad_updS _ _ _ e.symm
        rw [e']
        refine ⟨R1, R2, Or.inl ⟨rfl, eN, fun j hj hjz v hv hfo => ?_⟩⟩
        by_cases c1 : j = i
        · subst c1
          rw [← eN, ← e]
          exact (hf v hv).mpr (by rw [eN]; exact hfo)
        · exact fo j (by omega) hjz v hv hfo
      · rw [ek] at e
        exact ⟨S1, ap_out_u R2 hi _, Or.inr ⟨rfl, by have := S3 e; rw [eN] at this ⊢; exact this⟩⟩
    · refine br_f (by rw [f1]; decide) (fin 1 ⟨S1, ap_out_u R2 hi _, Or.inr ⟨rfl, by omega⟩⟩)
theorem an_outer (H : ap_OK p) (hm : m < 4) (post : SX → Prop) (N0 : Nat → Int32)
    (hp : ∀ N', ap_NS p m N' → ap_out m N0 N' → post (po, en, up, dn, bg, lv, md, gX, dp, sa, sh, ap_sz p, ap_L p, ap_oo p, ap_aA p, ap_aB p, ap_c p, N', P, K, R, me, pt, h, lx, va, rf, al, fX, pe, ou, es)) :
    ∀ d r, r + d = 97 → ∀ N fl, an_I p m N → ap_out m N0 N → ((fl = 0 ∧ ap_NS p m N) ∨ (fl = 1 ∧ r ≤ an_ca p m N)) → wX_findNeeded_34 post (nI m) po en up dn bg lv md gX dp sa sh (d + 1) fl (nI r) (ap_sz p) (ap_L p) (ap_oo p) (ap_aA p) (ap_aB p) (ap_c p) N P K R me pt h lx va rf al fX pe ou es := by
  intro d
  induction d with
  | zero =>
    intro r hr N fl h1 h2 h3
    refine br_t (nI_lt (a := 96) (by omega) (by omega)) (hp N ?_ h2)
    rcases h3 with ⟨_, h3⟩ | ⟨_, h3⟩
    · exact h3
    · have := an_ca_le (m := m) H N
      omega
  | succ d ih =>
    intro r hr N fl h1 h2 h3
    refine br_f (nI_nlt (b := r) (a := 96) (by omega) (by decide)) ?_
    rcases h3 with ⟨f, h3⟩ | ⟨f, h3⟩
    · exact br_t f (hp N h3 h2)
    · refine br_f (by rw [f]; decide) ⟨vp_in_nI hm (by omega), nm_r (e' := nI (ap_Z p m) + (-1)) (by rw [ap_szm p hm]; exact Int32.sub_eq_add_neg _ _) ⟨ap_Z p m + 1, ?_⟩⟩
      refine an_inner H hm post _ (nI r) N (fun N' fl' hR => ?_) (ap_Z p m) (Nat.le_refl _) N 0 ⟨h1, ap_out_r, Or.inl ⟨rfl, rfl, fun i a b => by omega⟩⟩
      rw [nI_1]
      obtain ⟨R1, R2, R3⟩ := hR
      refine ih (r + 1) (by omega) N' fl' R1 (fun k hk => (R2 k hk).trans (h2 k hk)) ?_
      rcases R3 with ⟨f0, eN, fo⟩ | ⟨f1, lt⟩
      · refine Or.inl ⟨f0, ?_⟩
        rw [eN]
        exact an_done h1 (fun i hi => fo i (Nat.zero_le _) hi) H
      · exact Or.inr ⟨f1, by omega⟩
theorem an_clear (H : ap_OK p) (hm : m < 4) (post : SX → Prop) (N0 : Nat → Int32)
    (hp : ∀ N', ap_NS p m N' → ap_out m N0 N' → post (po, en, up, dn, bg, lv, md, gX, dp, sa, sh, ap_sz p, ap_L p, ap_oo p, ap_aA p, ap_aB p, ap_c p, N', P, K, R, me, pt, h, lx, va, rf, al, fX, pe, ou, es)) :
    ∀ d i, i + d = ap_Z p m → ∀ N, ap_out m N0 N → (∀ j, j < i → N (16 * m + j) = 0) → wX_findNeeded_2 post (nI m) po en up dn bg lv md gX dp sa sh (d + 1) (nI i) (ap_sz p) (ap_L p) (ap_oo p) (ap_aA p) (ap_aB p) (ap_c p) N P K R me pt h lx va rf al fX pe ou es := by
  intro d
  have hz := H.2.1 m
  induction d with
  | zero =>
    intro i hi N h1 h2
    refine ⟨vp_in_nI hm (by omega), br_t (by rw [ap_szm p hm]; exact nI_le (by omega) (by omega)) ⟨98, ?_⟩⟩
    refine an_outer H hm post N0 hp 97 0 (by omega) N 1 (fun j hj v hv hb => ?_) h1 (Or.inr ⟨rfl, Nat.zero_le _⟩)
    rw [h2 j (by omega), b_0] at hb
    exact absurd hb (by decide)
  | succ d ih =>
    intro i hi N h1 h2
    refine ⟨vp_in_nI hm (by omega), br_f (by rw [ap_szm p hm]; exact nI_ge (by omega) (by omega)) ?_⟩
    rw [ap_xk, nI_clamp (by omega)]
    refine ⟨vp_in_nI (by omega) (by omega), nm_e (nm_r (nI_1 i) (ih (i + 1) (by omega) _ (ap_out_u h1 (by omega) 0) (fun j hj => ?_)))⟩
    by_cases c : j = i
    · subst c; exact pk_us
    · rw [pk_un (by omega)]; exact h2 j (by omega)
theorem ax_need (H : ap_OK p) (hm : m < 4) (post : SX → Prop)
    (hp : ∀ N', ap_NS p m N' → ap_out m N N' → post (po, en, up, dn, bg, lv, md, gX, dp, sa, sh, ap_sz p, ap_L p, ap_oo p, ap_aA p, ap_aB p, ap_c p, N', P, K, R, me, pt, h, lx, va, rf, al, fX, pe, ou, es)) : wpX_findNeeded post (po, en, up, dn, bg, lv, md, gX, dp, sa, sh, ap_sz p, ap_L p, ap_oo p, ap_aA p, ap_aB p, ap_c p, N, P, K, R, me, pt, h, lx, va, rf, al, fX, pe, ou, es) (nI m) :=
  ⟨ap_Z p m + 1, an_clear H hm post N hp (ap_Z p m) 0 (by omega) N ap_out_r (fun j hj => by omega)⟩
end
end
section
section
variable {p : ap_T} {po en up dn bg lv md gX dp sa sh : Int32} {N P K R me pt h lx va rf al fX pe ou es : Nat → Int32}
variable {m i : Nat}
theorem ax_wy (H : ap_OK p) (hm : m < 4) (hi : i < 16) : ∃ x : Int32, (∀ j, j < 32 → (bt x j = true ↔ (ap_on p (16 * m + i) ∧ j = i + 1) ∨ (ap_jp p (16 * m + i) ∧ j = ap_C p (16 * m + i)))) ∧ ∀ post : Int32 → Prop, post x → wpX_waysFrom post (po, en, up, dn, bg, lv, md, gX, dp, sa, sh, ap_sz p, ap_L p, ap_oo p, ap_aA p, ap_aB p, ap_c p, N, P, K, R, me, pt, h, lx, va, rf, al, fX, pe, ou, es) (nI (16 * m + i)) := by
  have hk : 16 * m + i < 64 := by omega
  have hI : vp_in (nI (16 * m + i)) 64 := vp_in_nI hk (by omega)
  have hc := (H.1 (16 * m + i)).2.2.2.2.1
  obtain ⟨x1, h1, w1⟩ := ax_on (po := po) (en := en) (up := up) (dn := dn) (bg := bg) (lv := lv) (md := md) (gX := gX) (dp := dp) (sa := sa) (sh := sh) (N := N) (P := P) (K := K) (R := R) (me := me) (pt := pt) (h := h) (lx := lx) (va := va) (rf := rf) (al := al) (fX := fX) (pe := pe) (ou := ou) (es := es) H hm hi
  obtain ⟨x2, h2, w2⟩ := ax_jp (po := po) (en := en) (up := up) (dn := dn) (bg := bg) (lv := lv) (md := md) (gX := gX) (dp := dp) (sa := sa) (sh := sh) (N := N) (P := P) (K := K) (R := R) (me := me) (pt := pt) (h := h) (lx := lx) (va := va) (rf := rf) (al := al) (fX := fX) (pe := pe) (ou := ou) (es := es) H hm hi
  have z0 : ∀ v, ¬ bt 0 v = true := fun v => by rw [b_0]; decide
  have er : nI (16 * m + i) - nI (16 * m + i) / 16 * 16 = nI i := by
    have := pk_rem (a := 16 * m + i) (d := 16) (by omega) (by omega) (by omega)
    rw [show (16 * m + i) % 16 = i by omega] at this
    exact this
  have B : ∃ z : Int32, (∀ j, j < 32 → (bt z j = true ↔ ap_on p (16 * m + i) ∧ j = i + 1)) ∧ ∀ post : Int32 → Prop, wX_waysFrom_22 post (nI (16 * m + i)) z po en up dn bg lv md gX dp sa sh (ap_sz p) (ap_L p) (ap_oo p) (ap_aA p) (ap_aB p) (ap_c p) N P K R me pt h lx va rf al fX pe ou es → wpX_waysFrom post (po, en, up, dn, bg, lv, md, gX, dp, sa, sh, ap_sz p, ap_L p, ap_oo p, ap_aA p, ap_aB p, ap_c p, N, P, K, R, me, pt, h, lx, va, rf, al, fX, pe, ou, es) (nI (16 * m + i)) := by
    rcases h1 with ⟨a, e⟩ | ⟨a, e⟩
    · refine ⟨(1 : Int32) <<< (nI (i + 1) &&& 31), fun j hj => ?_, fun post hp => ⟨by decide, nm_r er (w1 _ (br_f (by rw [e]; decide) ?_))⟩⟩
      · rw [ad_one (i + 1) (by omega) j hj, decide_eq_true_iff]; exact ⟨fun q => ⟨a, q⟩, fun q => q.2⟩
      · rw [nI_1]; exact hp
    · exact ⟨0, fun v hv => ⟨fun q => absurd q (z0 v), fun q => absurd q.1 a⟩, fun post hp => ⟨by decide, nm_r er (w1 _ (br_t e hp))⟩⟩
  obtain ⟨z, hz, wz⟩ := B
  rcases h2 with ⟨a, e⟩ | ⟨a, e⟩
  · obtain ⟨c1, c2⟩ := hc a
    refine ⟨z ||| ((1 : Int32) <<< (nI (ap_C p (16 * m + i)) &&& 31)), fun j hj => ?_, fun post hp => wz post (w2 _ (br_f (by rw [e]; decide) ⟨hI, ?_⟩))⟩
    · rw [b_or, Bool.or_eq_true, hz j hj, ad_one _ (by omega) j hj, decide_eq_true_iff]
      constructor
      · rintro (q | q)
        · exact Or.inl q
        · exact Or.inr ⟨a, q⟩
      · rintro (q | q)
        · exact Or.inl q
        · exact Or.inr q.2
    · rw [ap_ck p hk, c1]; exact hp
  · refine ⟨z, fun j hj => ?_, fun post hp => wz post (w2 _ (br_t e hp))⟩
    rw [hz j hj]
    constructor
    · exact Or.inl
    · rintro (q | q)
      · exact q
      · exact absurd q.1 a
/-- one round over the ways of a loan, up to place j; W0: as the round found them -/
def aw_J (p : ap_T) (m i : Nat) (W0 W : Int32) (j : Nat) : Prop :=
  (∀ s, s < ap_Z p m → bt W0 s = true → bt W s = true) ∧ (∀ s, s < ap_Z p m → bt W s = true → aw_rg p m i s) ∧
  (∀ s, s < j → bt W0 s = true → ap_nd p m s (ap_A p (16 * m + i)) → aw_gd p m i s ∧ ∀ t, ap_sc p m s t → bt W t = true) ∧
  (aw_cl p m i (bt W0) → ∀ s, s < ap_Z p m → bt W s = true → bt W0 s = true)
theorem aw_inner (H : ap_OK p) (hm : m < 4) (hi : i < ap_Z p m) (hN : ap_NS p m N) (post : Int32 → Prop) (J : Int32 → Int32 → Prop) (x5 x7 : Int32)
    (h5 : ∀ v, v < 32 → (bt x5 v = true ↔ ap_nd p m i v ∧ v ≠ ap_A p (16 * m + i))) (h0 : ¬ ap_ln p m i → post 0) (W0 : Int32)
    (hJ : ∀ W', aw_J p m i W0 W' (ap_Z p m) → J W' (x7 + 1)) :
    ∀ d j, j + d = ap_Z p m → ∀ W, aw_J p m i W0 W j → wX_isLoan_87 post J (nI m) ((1 : Int32) <<< (nI (ap_A p (16 * m + i)) &&& 31)) x5 x7 po en up dn bg lv md gX dp sa sh (ap_sz p) (ap_L p) (ap_oo p) (ap_aA p) (ap_aB p) (ap_c p) N P K R me pt h lx va rf al fX pe ou es (d + 1) W (nI j) := by
  have hz := H.2.1 m
  have hA := (H.1 (16 * m + i)).2.1
  intro d
  induction d with
  | zero =>
    intro j hj W h
    have e : j = ap_Z p m := by omega
    subst e
    exact ⟨vp_in_nI hm (by omega), br_t (by rw [ap_szm p hm]; exact nI_le (by omega) (by omega)) (nm_e (hJ W h))⟩
  | succ d ih =>
    intro j hj W h
    obtain ⟨Ia, Ib, Ic, Id⟩ := h
    have hk : 16 * m + j < 64 := by omega
    have hI : vp_in (nI (16 * m + j)) 64 := vp_in_nI hk (by omega)
    have ek : (nI (16 * m + j)).toNatClampNeg = 16 * m + j := nI_clamp (by omega)
    refine ⟨vp_in_nI hm (by omega), br_f (by rw [ap_szm p hm]; exact nI_ge (by omega) (by omega)) (nm_r (ap_xk m j) ?_)⟩
    refine br_c (fun c => nm_r (nI_1 j) (ih (j + 1) (by omega) W ⟨Ia, Ib, fun s hs hw hn => ?_, Id⟩)) (fun c => ⟨hI, ?_⟩)
    · by_cases e : s = j
      · subst e
        rw [ad_and0 _ (by omega)] at c
        rw [Ia s (by omega) hw] at c
        exact absurd c (by decide)
      · exact Ic s (by omega) hw hn
    · have hw : bt W j = true := by
        rw [ad_and0 _ (by omega)] at c
        exact ad_nf c
      rw [ek]
      refine br_c (fun c2 => nm_r (nI_1 j) (ih (j + 1) (by omega) W ⟨Ia, Ib, fun s hs hw hn => ?_, Id⟩)) (fun c2 => ?_)
      · by_cases e : s = j
        · subst e
          rw [ad_and0 _ (by omega)] at c2
          rw [(hN s (by omega) _ (by omega)).mpr hn] at c2
          exact absurd c2 (by decide)
        · exact Ic s (by omega) hw hn
      · have hn : ap_nd p m j (ap_A p (16 * m + i)) := by
          rw [ad_and0 _ (by omega)] at c2
          exact (hN j (by omega) _ (by omega)).mp (ad_nf c2)
        have hr := Ib j (by omega) hw
        obtain ⟨x1, h1, w1⟩ := ax_al (po := po) (en := en) (up := up) (dn := dn) (bg := bg) (lv := lv) (md := md) (gX := gX) (dp := dp) (sa := sa) (sh := sh) (N := N) (P := P) (K := K) (R := R) (me := me) (pt := pt) (h := h) (lx := lx) (va := va) (rf := rf) (al := al) (fX := fX) (pe := pe) (ou := ou) (es := es) (i := j) H hm (by omega)
        refine w1 _ ?_
        rcases h1 with ⟨a, e⟩ | ⟨a, e⟩
        · refine br_f (by rw [e]; decide) ⟨hI, br_c (fun c3 => ?_) (fun c3 => h0 (aw_no hr hn (fun g => c3 ?_)))⟩
          · rw [ad_sub0] at c3
            have gd : aw_gd p m i j := ⟨a, fun v hv hnv => by
              have v6 := ap_nd_6 H hnv
              exact (hN j (by omega) v (by omega)).mp (c3 v (by omega) ((h5 v (by omega)).mpr ⟨hnv, hv⟩))⟩
            obtain ⟨y, hy, wy⟩ := ax_wy (po := po) (en := en) (up := up) (dn := dn) (bg := bg) (lv := lv) (md := md) (gX := gX) (dp := dp) (sa := sa) (sh := sh) (N := N) (P := P) (K := K) (R := R) (me := me) (pt := pt) (h := h) (lx := lx) (va := va) (rf := rf) (al := al) (fX := fX) (pe := pe) (ou := ou) (es := es) (i := j) H hm (by omega)
            have hyz : ∀ s, s < ap_Z p m → (bt y s = true ↔ ap_sc p m j s) := by
              intro s hs
              rw [hy s (by omega)]
              exact ⟨fun q => ⟨hs, q⟩, fun q => q.2⟩
            refine wy _ (nm_e (nm_r (nI_1 j) (ih (j + 1) (by omega) _ ⟨fun s hs q => ?_, fun s hs q => ?_, fun s hs q1 q2 => ?_, fun q1 s hs q => ?_⟩)))
            · rw [b_or, Ia s hs q]; rfl
            · rw [b_or, Bool.or_eq_true] at q
              rcases q with q | q
              · exact Ib s hs q
              · exact aw_st hr hn ((hyz s hs).mp q)
            · by_cases e' : s = j
              · subst e'
                refine ⟨gd, fun t ht => ?_⟩
                rw [b_or, (hyz t ht.1).mpr ht, Bool.or_true]
              · obtain ⟨g1, g2⟩ := Ic s (by omega) q1 q2
                exact ⟨g1, fun t ht => by rw [b_or, g2 t ht]; rfl⟩
            · rw [b_or, Bool.or_eq_true] at q
              rcases q with q | q
              · exact Id q1 s hs q
              · exact (q1 j (by omega) (Id q1 j (by omega) hw) hn).2 s ((hyz s hs).mp q)
          · rw [ad_sub0]
            intro v hv hb
            obtain ⟨b1, b2⟩ := (h5 v hv).mp hb
            exact (hN j (by omega) v hv).mpr (g.2 v b2 b1)
        · exact br_t e (h0 (aw_no hr hn (fun g => a g.1)))
theorem aw_outer (H : ap_OK p) (hm : m < 4) (hi : i < ap_Z p m) (hN : ap_NS p m N) (post : Int32 → Prop) (x5 : Int32)
    (h5 : ∀ v, v < 32 → (bt x5 v = true ↔ ap_nd p m i v ∧ v ≠ ap_A p (16 * m + i))) (h0 : ¬ ap_ln p m i → post 0) (h1 : ap_ln p m i → post 1)
    (c1 : ap_O p (16 * m + i) = 3) (c2 : ap_C p (16 * m + i) ≠ 2) (c3 : ap_A p (16 * m + i) ≠ ap_B p (16 * m + i)) :
    ∀ d r, r + d = 16 → ∀ W, (∀ s, ap_sc p m i s → bt W s = true) → (∀ s, s < ap_Z p m → bt W s = true → aw_rg p m i s) →
      (aw_cl p m i (bt W) ∨ r + 1 ≤ ad_ct (bt W) (ap_Z p m)) → wX_isLoan_77 post (nI m) ((1 : Int32) <<< (nI (ap_A p (16 * m + i)) &&& 31)) x5 po en up dn bg lv md gX dp sa sh (ap_sz p) (ap_L p) (ap_oo p) (ap_aA p) (ap_aB p) (ap_c p) N P K R me pt h lx va rf al fX pe ou es (d + 1) W (nI r) := by
  intro d
  induction d with
  | zero =>
    intro r hr W w0 w1 w2
    have e : r = 16 := by omega
    subst e
    exact br_t (by decide) (h1 (aw_yes c1 c2 c3 w0 (aw_q16 H w2)))
  | succ d ih =>
    intro r hr W w0 w1 w2
    refine br_f (nI_ge (b := 16) (by omega) (by decide)) ⟨ap_Z p m + 1, ?_⟩
    refine aw_inner H hm hi hN post _ x5 (nI r) h5 h0 W (fun W' hJ => ?_) (ap_Z p m) 0 (by omega) W ⟨fun s _ q => q, w1, fun s hs => by omega, fun _ s _ q => q⟩
    rw [nI_1]
    obtain ⟨Ia, Ib, Ic, Id⟩ := hJ
    exact ih (r + 1) (by omega) W' (fun s hs => Ia s hs.1 (w0 s hs)) Ib (aw_rnd w2 Ia Ic Id)
theorem ax_ln (H : ap_OK p) (hm : m < 4) (hi : i < ap_Z p m) (hN : ap_NS p m N) (post : Int32 → Prop)
    (h0 : ¬ ap_ln p m i → post 0) (h1 : ap_ln p m i → post 1) : wpX_isLoan post (po, en, up, dn, bg, lv, md, gX, dp, sa, sh, ap_sz p, ap_L p, ap_oo p, ap_aA p, ap_aB p, ap_c p, N, P, K, R, me, pt, h, lx, va, rf, al, fX, pe, ou, es) (nI m) (nI i) := by
  have hz := H.2.1 m
  have hk : 16 * m + i < 64 := by omega
  have hI : vp_in (nI (16 * m + i)) 64 := vp_in_nI hk (by omega)
  have hA := (H.1 (16 * m + i)).2.1
  have hB := (H.1 (16 * m + i)).2.2.1
  refine nm_r (ap_xk m i) ⟨hI, br_c (fun c1 => ⟨hI, br_c (fun c2 => h0 (fun l => ?_)) (fun c2 => ⟨hI, hI, br_c (fun c3 => h0 (fun l => ?_)) (fun c3 => ⟨hI, nm_r (by rw [ap_aAk p hk]) ⟨hI, nm_e ?_⟩⟩)⟩)⟩) (fun c1 => h0 (fun l => ?_))⟩
  · have := l.2.1
    rw [ap_ck p hk] at c2
    unfold ap_C at this
    rw [c2] at this
    exact this (by decide)
  · rw [ap_aAk p hk, ap_aBk p hk, nI_eq (by omega) (by omega)] at c3
    exact l.2.2.1 c3
  · have o3 : ap_O p (16 * m + i) = 3 := by
      rw [ap_ook p hk] at c1
      exact (nI_eq (b := 3) (by have := (H.1 (16 * m + i)).1; omega) (by decide)).mp c1
    have n2 : ap_C p (16 * m + i) ≠ 2 := by
      intro z
      rw [ap_ck p hk, ((H.1 (16 * m + i)).2.2.2.1 (Or.inl o3)).1, z] at c2
      exact c2 rfl
    have nAB : ap_A p (16 * m + i) ≠ ap_B p (16 * m + i) := by
      intro z
      rw [ap_aAk p hk, ap_aBk p hk, z] at c3
      exact c3 rfl
    obtain ⟨y, hy, wy⟩ := ax_wy (po := po) (en := en) (up := up) (dn := dn) (bg := bg) (lv := lv) (md := md) (gX := gX) (dp := dp) (sa := sa) (sh := sh) (N := N) (P := P) (K := K) (R := R) (me := me) (pt := pt) (h := h) (lx := lx) (va := va) (rf := rf) (al := al) (fX := fX) (pe := pe) (ou := ou) (es := es) (i := i) H hm (by omega)
    refine wy _ ⟨17, aw_outer H hm hi hN post _ (fun v hv => ?_) h0 h1 o3 n2 nAB 16 0 (by omega) y (fun s hs => (hy s (by have := hs.1; omega)).mpr hs.2) (fun s hs q => ⟨s, ⟨hs, (hy s (by omega)).mp q⟩, ad_rg_0⟩) aw_q0⟩
    rw [b_and, ad_not _ hv, Bool.and_eq_true, nI_clamp (by omega), hN i hi v hv]
    have e : (!bt ((1 : Int32) <<< (nI (ap_A p (16 * m + i)) &&& 31)) v) = true ↔ v ≠ ap_A p (16 * m + i) := by
      have := ad_b1 hA v hv
      constructor
      · intro q z
        rw [this.mpr z] at q
        exact absurd q (by decide)
      · intro q
        cases e' : bt ((1 : Int32) <<< (nI (ap_A p (16 * m + i)) &&& 31)) v with
        | false => rfl
        | true => exact absurd (this.mp e') q
    rw [e]
  · rw [ap_ook p hk, l.1] at c1
    exact c1 rfl
end
end
section
section
variable {p : ap_T} {po en up dn bg lv md gX dp sa sh : Int32} {N P K R me pt h lx va rf al fX pe ou es : Nat → Int32}
variable {m i : Nat}
theorem ax_ho (H : ap_OK p) (hm : m < 4) (hi : i < ap_Z p m) (hN : ap_NS p m N) (post : Int32 → Prop)
    (h0 : ¬ ap_ho p m i → post 0) (h1 : ap_ho p m i → post 1) : wpX_handsOver post (po, en, up, dn, bg, lv, md, gX, dp, sa, sh, ap_sz p, ap_L p, ap_oo p, ap_aA p, ap_aB p, ap_c p, N, P, K, R, me, pt, h, lx, va, rf, al, fX, pe, ou, es) (nI m) (nI i) := by
  have hz := H.2.1 m
  have hk : 16 * m + i < 64 := by omega
  have hI : vp_in (nI (16 * m + i)) 64 := vp_in_nI hk (by omega)
  have h14 := H.1 (16 * m + i)
  have hA := h14.2.1
  have hB := h14.2.2.1
  have he := ap_ook p hk
  have n : ∀ j, j < 64 → ap_O p (16 * m + i) ≠ j → ¬ nI (ap_O p (16 * m + i)) = nI j := fun j hj z => by rw [nI_eq (by omega) (by omega)]; exact z
  -- behind the two questions
  have fin : ∀ x4 z0 : Int32, ((ap_A p (16 * m + i) = ap_B p (16 * m + i) ∧ x4 = 1) ∨ (ap_A p (16 * m + i) ≠ ap_B p (16 * m + i) ∧ x4 = 0)) → ((ap_la p m i ∧ z0 = 1) ∨ (¬ ap_la p m i ∧ z0 = 0)) →
      wX_handsOver_54 post (nI (16 * m + i)) x4 z0 po en up dn bg lv md gX dp sa sh (ap_sz p) (ap_L p) (ap_oo p) (ap_aA p) (ap_aB p) (ap_c p) N P K R me pt h lx va rf al fX pe ou es := by
    intro x4 z0 q4 q0
    refine ⟨hI, nm_r he ?_⟩
    by_cases c1 : ap_O p (16 * m + i) = 1
    · refine br_t (by rw [c1]; rfl) ?_
      rcases q0 with ⟨a, e⟩ | ⟨a, e⟩
      · rcases q4 with ⟨b, f⟩ | ⟨b, f⟩
        · exact br_f (by rw [e]; decide) (br_f (by rw [f]; decide) (h0 (fun z => by rcases z with z | z | z <;> have := z.1 <;> first | omega | exact z.2.2 b)))
        · exact br_f (by rw [e]; decide) (br_t f (h1 (Or.inl ⟨c1, a, b⟩)))
      · exact br_t e (h0 (fun z => by rcases z with z | z | z <;> have := z.1 <;> first | omega | exact a z.2.1))
    refine br_f (n 1 (by omega) c1) ?_
    by_cases c2 : ap_O p (16 * m + i) = 4
    · refine br_t (by rw [c2]; rfl) ?_
      obtain ⟨ec, lc⟩ := h14.2.2.2.1 (Or.inr c2)
      rcases q0 with ⟨a, e⟩ | ⟨a, e⟩
      · rcases q4 with ⟨b, f⟩ | ⟨b, f⟩
        · exact br_f (by rw [e]; decide) (br_f (by rw [f]; decide) (h0 (fun z => by rcases z with z | z | z <;> have := z.1 <;> first | omega | exact z.2.2.1 b)))
        · refine br_f (by rw [e]; decide) (br_t f ⟨hI, ?_⟩)
          rw [ap_ck p hk, ec]
          exact pk_eq _ 2 (fun c => h0 (fun z => by rcases z with z | z | z <;> have := z.1 <;> first | omega | exact z.2.2.2 c)) (fun c => h1 (Or.inr (Or.inl ⟨c2, a, b, c⟩)))
      · exact br_t e (h0 (fun z => by rcases z with z | z | z <;> have := z.1 <;> first | omega | exact a z.2.1))
    refine br_f (n 4 (by omega) c2) ?_
    by_cases c3 : ap_O p (16 * m + i) = 11
    · refine br_t (by rw [c3]; rfl) ?_
      obtain ⟨ec, lc⟩ := h14.2.2.2.2.2 c3
      have L : (ap_la p m i ∨ ap_A p (16 * m + i) = ap_B p (16 * m + i)) → wX_handsOver_148 post (nI (16 * m + i)) po en up dn bg lv md gX dp sa sh (ap_sz p) (ap_L p) (ap_oo p) (ap_aA p) (ap_aB p) (ap_c p) N P K R me pt h lx va rf al fX pe ou es := by
        intro q
        refine ⟨hI, ?_⟩
        rw [ap_ck p hk, ec, nI_clamp (by omega)]
        refine ⟨vp_in_nI lc (by omega), br_c (fun c => h1 (Or.inr (Or.inr ⟨c3, q, c⟩))) (fun c => h0 (fun z => by rcases z with z | z | z <;> have := z.1 <;> first | omega | exact c z.2.2))⟩
      rcases q0 with ⟨a, e⟩ | ⟨a, e⟩
      · exact br_f (by rw [e]; decide) (L (Or.inl a))
      · rcases q4 with ⟨b, f⟩ | ⟨b, f⟩
        · exact br_t e (br_f (by rw [f]; decide) (L (Or.inr b)))
        · exact br_t e (br_t f (h0 (fun z => by rcases z with z | z | z <;> have := z.1 <;> first | omega | (rcases z.2.1 with y | y; exact a y; exact b y))))
    · exact br_f (n 11 (by omega) c3) (h0 (fun z => by rcases z with z | z | z <;> have := z.1 <;> omega))
  obtain ⟨y1, g1, v1⟩ := ax_na (po := po) (en := en) (up := up) (dn := dn) (bg := bg) (lv := lv) (md := md) (gX := gX) (dp := dp) (sa := sa) (sh := sh) (N := N) (P := P) (K := K) (R := R) (me := me) (pt := pt) (h := h) (lx := lx) (va := va) (rf := rf) (al := al) (fX := fX) (pe := pe) (ou := ou) (es := es) H hm (j := i + 1) (by omega)
  have mid : ∀ x4 : Int32, ((ap_A p (16 * m + i) = ap_B p (16 * m + i) ∧ x4 = 1) ∨ (ap_A p (16 * m + i) ≠ ap_B p (16 * m + i) ∧ x4 = 0)) → wX_handsOver_27 post (nI m) (nI i) (nI (16 * m + i)) x4 po en up dn bg lv md gX dp sa sh (ap_sz p) (ap_L p) (ap_oo p) (ap_aA p) (ap_aB p) (ap_c p) N P K R me pt h lx va rf al fX pe ou es := by
    intro x4 q4
    unfold wX_handsOver_27
    rw [nI_1]
    refine v1 _ ⟨hI, ?_⟩
    rw [ap_aBk p hk]
    have hl : bt y1 (ap_B p (16 * m + i)) = false ↔ ap_la p m i := by
      unfold ap_la
      rcases g1 with ⟨b, f⟩ | ⟨b, f⟩
      · rw [f, ← hN (i + 1) b _ (by omega)]
        constructor
        · intro q z; rw [q] at z; exact absurd z.2 (by decide)
        · intro q; cases e : bt (N (16 * m + (i + 1))) (ap_B p (16 * m + i)) with
          | false => rfl
          | true => exact absurd ⟨b, e⟩ q
      · rw [f, b_0]
        exact ⟨fun _ z => by omega, fun _ => rfl⟩
    refine br_c (fun c => fin x4 1 q4 (Or.inl ⟨?_, rfl⟩)) (fun c => fin x4 0 q4 (Or.inr ⟨?_, rfl⟩))
    · rw [ad_and0 _ (by omega)] at c; exact hl.mp c
    · rw [ad_and0 _ (by omega)] at c; exact fun z => c (hl.mpr z)
  refine nm_r (ap_xk m i) ⟨hI, hI, ?_⟩
  rw [ap_aAk p hk, ap_aBk p hk]
  exact pk_eq _ _ (fun c => mid 1 (Or.inl ⟨c, rfl⟩)) (fun c => mid 0 (Or.inr ⟨c, rfl⟩))
theorem ax_kb (H : ap_OK p) (hm : m < 4) (hi : i < ap_Z p m) (hP : ap_PS p m P) : ∃ x : Int32, (∀ v, v < 32 → (bt x v = true ↔ (ap_gn p m i v ∨ bt (K (16 * m + i)) v = true ∧ ¬ ap_kl p m i v))) ∧
    ∀ post : Int32 → Prop, post x → wpX_keptBehind post (po, en, up, dn, bg, lv, md, gX, dp, sa, sh, ap_sz p, ap_L p, ap_oo p, ap_aA p, ap_aB p, ap_c p, N, P, K, R, me, pt, h, lx, va, rf, al, fX, pe, ou, es) (nI (16 * m + i)) := by
  have hz := H.2.1 m
  have hk : 16 * m + i < 64 := by omega
  have hI : vp_in (nI (16 * m + i)) 64 := vp_in_nI hk (by omega)
  have h14 := H.1 (16 * m + i)
  have sA := ad_b1 h14.2.1
  have sB := ad_b1 h14.2.2.1
  have he := ap_ook p hk
  have ek : (nI (16 * m + i)).toNatClampNeg = 16 * m + i := nI_clamp (by omega)
  have p1 := ap_Pl_1 (hP i hi)
  have p2 := ap_Pl_2 (hP i hi)
  have B : ∃ z : Int32, (∀ v, v < 32 → (bt z v = true ↔ bt (K (16 * m + i)) v = true ∧ ¬ (ap_ho p m i ∧ v = ap_B p (16 * m + i)))) ∧ ∀ post : Int32 → Prop, wX_keptBehind_45 post (nI (16 * m + i)) ((1 : Int32) <<< (nI (ap_A p (16 * m + i)) &&& 31)) z po en up dn bg lv md gX dp sa sh (ap_sz p) (ap_L p) (ap_oo p) (ap_aA p) (ap_aB p) (ap_c p) N P K R me pt h lx va rf al fX pe ou es → wpX_keptBehind post (po, en, up, dn, bg, lv, md, gX, dp, sa, sh, ap_sz p, ap_L p, ap_oo p, ap_aA p, ap_aB p, ap_c p, N, P, K, R, me, pt, h, lx, va, rf, al, fX, pe, ou, es) (nI (16 * m + i)) := by
    by_cases c : ap_ho p m i
    · refine ⟨K (16 * m + i) &&& (((1 : Int32) <<< (nI (ap_B p (16 * m + i)) &&& 31)) ^^^ (-1)), fun v hv => ?_, fun post hp => ⟨hI, nm_r (by rw [ap_aAk p hk]) ⟨hI, br_t (by rw [ek]; exact p2.mpr c) ⟨hI, hI, ?_⟩⟩⟩⟩
      · rw [b_and, ad_not _ hv, Bool.and_eq_true, ad_bn (sB v hv)]
        exact ⟨fun q => ⟨q.1, fun z => q.2 z.2⟩, fun q => ⟨q.1, fun z => q.2 ⟨c, z⟩⟩⟩
      · rw [ek, show ap_aB p (16 * m + i) = nI (ap_B p (16 * m + i)) from rfl]; exact hp
    · refine ⟨K (16 * m + i), fun v hv => ⟨fun q => ⟨q, fun z => c z.1⟩, fun q => q.1⟩, fun post hp => ⟨hI, nm_r (by rw [ap_aAk p hk]) ⟨hI, br_f (by rw [ek]; exact fun z => c (p2.mp z)) ⟨hI, ?_⟩⟩⟩⟩
      rw [ek]; exact hp
  obtain ⟨z, hzb, wz⟩ := B
  rcases ap_14 H (16 * m + i) with e | e | e | e | e | e | e | e | e | e | e | e | e | e
  · rw [e] at he
    have l : ¬ ap_ln p m i := fun q => by have := q.1; omega
    refine ⟨z ||| ((1 : Int32) <<< (nI (ap_A p (16 * m + i)) &&& 31)), fun v hv => ?_, fun post hp => wz post ⟨hI, nm_r (e' := (0 : Int32)) he (br_f (by decide) (br_f (by decide) (br_t (by decide) (hp))))⟩⟩
    rw [b_or, Bool.or_eq_true, sA v hv, hzb v hv]
    unfold ap_gn ap_kl
    simp [e, l, or_comm]
  · rw [e] at he
    have l : ¬ ap_ln p m i := fun q => by have := q.1; omega
    refine ⟨z ||| ((1 : Int32) <<< (nI (ap_A p (16 * m + i)) &&& 31)), fun v hv => ?_, fun post hp => wz post ⟨hI, nm_r (e' := (1 : Int32)) he (br_f (by decide) (br_f (by decide) (br_f (by decide) (br_t (by decide) (hp)))))⟩⟩
    rw [b_or, Bool.or_eq_true, sA v hv, hzb v hv]
    unfold ap_gn ap_kl
    simp [e, l, or_comm]
  · rw [e] at he
    have l : ¬ ap_ln p m i := fun q => by have := q.1; omega
    refine ⟨z &&& (((1 : Int32) <<< (nI (ap_A p (16 * m + i)) &&& 31)) ^^^ (-1)), fun v hv => ?_, fun post hp => wz post ⟨hI, nm_r (e' := (2 : Int32)) he (br_f (by decide) (br_f (by decide) (br_f (by decide) (br_f (by decide) (br_t (by decide) (hp))))))⟩⟩
    rw [b_and, ad_not _ hv, Bool.and_eq_true, ad_bn (sA v hv), hzb v hv]
    unfold ap_gn ap_kl
    simp [e, l, and_assoc]
  · rw [e] at he
    by_cases l : ap_ln p m i
    · refine ⟨z &&& (((1 : Int32) <<< (nI (ap_A p (16 * m + i)) &&& 31)) ^^^ (-1)), fun v hv => ?_, fun post hp => wz post ⟨hI, nm_r (e' := (3 : Int32)) he (br_f (by decide) (br_f (by decide) (br_f (by decide) (br_f (by decide) (br_f (by decide) (br_t (by decide) (⟨hI, br_t (by rw [ek]; exact p1.mpr l) hp⟩)))))))⟩⟩
      rw [b_and, ad_not _ hv, Bool.and_eq_true, ad_bn (sA v hv), hzb v hv]
      unfold ap_gn ap_kl
      simp only [e, l, not_true, and_false, false_or, or_true, true_and, not_or, and_assoc]
    · refine ⟨z ||| ((1 : Int32) <<< (nI (ap_A p (16 * m + i)) &&& 31)), fun v hv => ?_, fun post hp => wz post ⟨hI, nm_r (e' := (3 : Int32)) he (br_f (by decide) (br_f (by decide) (br_f (by decide) (br_f (by decide) (br_f (by decide) (br_t (by decide) (⟨hI, br_f (by rw [ek]; exact fun z => l (p1.mp z)) hp⟩)))))))⟩⟩
      rw [b_or, Bool.or_eq_true, sA v hv, hzb v hv]
      unfold ap_gn ap_kl
      simp [e, l, or_comm]
  · rw [e] at he
    have l : ¬ ap_ln p m i := fun q => by have := q.1; omega
    refine ⟨z, fun v hv => ?_, fun post hp => wz post ⟨hI, nm_r (e' := (4 : Int32)) he (br_f (by decide) (br_f (by decide) (br_f (by decide) (br_f (by decide) (br_f (by decide) (br_f (by decide) (br_t (by decide) (hp))))))))⟩⟩
    rw [hzb v hv]
    unfold ap_gn ap_kl
    simp [e, l]
  · rw [e] at he
    have l : ¬ ap_ln p m i := fun q => by have := q.1; omega
    refine ⟨z, fun v hv => ?_, fun post hp => wz post ⟨hI, nm_r (e' := (5 : Int32)) he (br_f (by decide) (br_f (by decide) (br_f (by decide) (br_f (by decide) (br_f (by decide) (br_f (by decide) (br_f (by decide) (br_t (by decide) (hp)))))))))⟩⟩
    rw [hzb v hv]
    unfold ap_gn ap_kl
    simp [e, l]
  · rw [e] at he
    have l : ¬ ap_ln p m i := fun q => by have := q.1; omega
    refine ⟨z, fun v hv => ?_, fun post hp => wz post ⟨hI, nm_r (e' := (6 : Int32)) he (br_f (by decide) (br_f (by decide) (br_f (by decide) (br_f (by decide) (br_f (by decide) (br_f (by decide) (br_f (by decide) (br_f (by decide) (br_t (by decide) (hp))))))))))⟩⟩
    rw [hzb v hv]
    unfold ap_gn ap_kl
    simp [e, l]
  · rw [e] at he
    have l : ¬ ap_ln p m i := fun q => by have := q.1; omega
    refine ⟨z, fun v hv => ?_, fun post hp => wz post ⟨hI, nm_r (e' := (7 : Int32)) he (br_f (by decide) (br_f (by decide) (br_f (by decide) (br_f (by decide) (br_f (by decide) (br_f (by decide) (br_f (by decide) (br_f (by decide) (br_f (by decide) (br_t (by decide) (hp)))))))))))⟩⟩
    rw [hzb v hv]
    unfold ap_gn ap_kl
    simp [e, l]
  · rw [e] at he
    have l : ¬ ap_ln p m i := fun q => by have := q.1; omega
    refine ⟨z ||| ((1 : Int32) <<< (nI (ap_A p (16 * m + i)) &&& 31)), fun v hv => ?_, fun post hp => wz post ⟨hI, nm_r (e' := (8 : Int32)) he (br_f (by decide) (br_f (by decide) (br_f (by decide) (br_f (by decide) (br_f (by decide) (br_f (by decide) (br_f (by decide) (br_f (by decide) (br_f (by decide) (br_f (by decide) (br_t (by decide) (hp))))))))))))⟩⟩
    rw [b_or, Bool.or_eq_true, sA v hv, hzb v hv]
    unfold ap_gn ap_kl
    simp [e, l, or_comm]
  · rw [e] at he
    have l : ¬ ap_ln p m i := fun q => by have := q.1; omega
    refine ⟨z, fun v hv => ?_, fun post hp => wz post ⟨hI, nm_r (e' := (9 : Int32)) he (br_f (by decide) (br_f (by decide) (br_f (by decide) (br_f (by decide) (br_f (by decide) (br_f (by decide) (br_f (by decide) (br_f (by decide) (br_f (by decide) (br_f (by decide) (br_f (by decide) (br_t (by decide) (hp)))))))))))))⟩⟩
    rw [hzb v hv]
    unfold ap_gn ap_kl
    simp [e, l]
  · rw [e] at he
    have l : ¬ ap_ln p m i := fun q => by have := q.1; omega
    refine ⟨z, fun v hv => ?_, fun post hp => wz post ⟨hI, nm_r (e' := (10 : Int32)) he (br_f (by decide) (br_f (by decide) (br_f (by decide) (br_f (by decide) (br_f (by decide) (br_f (by decide) (br_f (by decide) (br_f (by decide) (br_f (by decide) (br_f (by decide) (br_f (by decide) (br_f (by decide) (br_t (by decide) (hp))))))))))))))⟩⟩
    rw [hzb v hv]
    unfold ap_gn ap_kl
    simp [e, l]
  · rw [e] at he
    have l : ¬ ap_ln p m i := fun q => by have := q.1; omega
    refine ⟨z ||| ((1 : Int32) <<< (nI (ap_A p (16 * m + i)) &&& 31)), fun v hv => ?_, fun post hp => wz post ⟨hI, nm_r (e' := (11 : Int32)) he (br_f (by decide) (br_f (by decide) (br_f (by decide) (br_f (by decide) (br_f (by decide) (br_f (by decide) (br_f (by decide) (br_f (by decide) (br_f (by decide) (br_f (by decide) (br_f (by decide) (br_f (by decide) (br_f (by decide) (br_t (by decide) (hp)))))))))))))))⟩⟩
    rw [b_or, Bool.or_eq_true, sA v hv, hzb v hv]
    unfold ap_gn ap_kl
    simp [e, l, or_comm]
  · rw [e] at he
    have l : ¬ ap_ln p m i := fun q => by have := q.1; omega
    refine ⟨z, fun v hv => ?_, fun post hp => wz post ⟨hI, nm_r (e' := (12 : Int32)) he (br_f (by decide) (br_t (by decide) (hp)))⟩⟩
    rw [hzb v hv]
    unfold ap_gn ap_kl
    simp [e, l]
  · rw [e] at he
    have l : ¬ ap_ln p m i := fun q => by have := q.1; omega
    refine ⟨z, fun v hv => ?_, fun post hp => wz post ⟨hI, nm_r (e' := (13 : Int32)) he (br_f (by decide) (br_t (by decide) (hp)))⟩⟩
    rw [hzb v hv]
    unfold ap_gn ap_kl
    simp [e, l]
end
end
section
/-! KEEPING: the component's arrays K (sets), R (reached) -/
def ak_S (m : Nat) (K R : Nat → Int32) : Nat → Nat → Bool := fun j v => if v = 6 then decide (R (16 * m + j) = 1) else bt (K (16 * m + j)) v
def ak_G (p : ap_T) (m : Nat) (K R : Nat → Int32) : Prop := ∀ i, i < ap_Z p m →
  (R (16 * m + i) = 0 ∨ R (16 * m + i) = 1) ∧ (R (16 * m + i) = 1 → ap_kp p m i 6) ∧ ∀ v, v < 32 → bt (K (16 * m + i)) v = true → v < 6 ∧ ap_kp p m i v
theorem ak_S6 {m : Nat} {K R : Nat → Int32} {j : Nat} : ak_S m K R j 6 = true ↔ R (16 * m + j) = 1 := by
  unfold ak_S; rw [if_pos rfl, decide_eq_true_iff]
theorem ak_Sv {m : Nat} {K R : Nat → Int32} {j v : Nat} (hv : v < 6) : ak_S m K R j v = bt (K (16 * m + j)) v := if_neg (by omega)
section
variable {p : ap_T} {m : Nat} {N K R : Nat → Int32}
theorem ak_G_so (G : ak_G p m K R) : ak_so p m (ak_S m K R) := by
  intro i hi v hv h
  by_cases c : v = 6
  · subst c; exact (G i hi).2.1 (ak_S6.mp h)
  · rw [ak_Sv (by omega)] at h; exact ((G i hi).2.2 v (by omega) h).2
theorem ak_re (H : ap_OK p) (hN : ap_NS p m N) (G : ak_G p m K R) {j : Nat} (hj : j < ap_Z p m) (h6 : ap_kp p m j 6) {x : Int32}
    (hx : ∀ v, v < 6 → bt x v = true → ap_nd p m j v → ap_kp p m j v) (a : Int32) (ha : a = K (16 * m + j) ||| (x &&& N (16 * m + j))) :
    ak_G p m (upd K (16 * m + j) a) (upd R (16 * m + j) 1) ∧ (∀ i, i < ap_Z p m → ∀ v, v ≤ 6 → ak_S m K R i v = true → ak_S m (upd K (16 * m + j) a) (upd R (16 * m + j) 1) i v = true) ∧
    (ak_S m (upd K (16 * m + j) a) (upd R (16 * m + j) 1) j 6 = true ∧ ∀ v, v < 6 → ap_nd p m j v → bt x v = true → ak_S m (upd K (16 * m + j) a) (upd R (16 * m + j) 1) j v = true) ∧
    ((R (16 * m + j) = 0 ∨ a ≠ K (16 * m + j)) → ak_ca p m (ak_S m K R) < ak_ca p m (ak_S m (upd K (16 * m + j) a) (upd R (16 * m + j) 1))) := by
  have hb : ∀ v, v < 32 → (bt a v = true ↔ bt (K (16 * m + j)) v = true ∨ (bt x v = true ∧ ap_nd p m j v)) := by
    intro v hv
    rw [ha, b_or, b_and, Bool.or_eq_true, Bool.and_eq_true, hN j hj v hv]
  have sub : ∀ i, i < ap_Z p m → ∀ v, v ≤ 6 → ak_S m K R i v = true → ak_S m (upd K (16 * m + j) a) (upd R (16 * m + j) 1) i v = true := by
    intro i hi v hv h
    by_cases e : i = j
    · subst e
      by_cases c : v = 6
      · subst c; rw [ak_S6, pk_us]
      · rw [ak_Sv (by omega)] at h ⊢
        rw [pk_us]; exact (hb v (by omega)).mpr (Or.inl h)
    · unfold ak_S at h ⊢
      rw [pk_un (by omega), pk_un (by omega)]; exact h
  refine ⟨fun i hi => ?_, sub, ⟨by rw [ak_S6, pk_us], fun v hv hn hbx => ?_⟩, fun hc => ?_⟩
  · by_cases e : i = j
    · subst e
      rw [pk_us, pk_us]
      refine ⟨Or.inr rfl, fun _ => h6, fun v hv hv2 => ?_⟩
      rcases (hb v hv).mp hv2 with q | ⟨q1, q2⟩
      · exact (G i hi).2.2 v hv q
      · have v6 := ap_nd_6 H q2
        exact ⟨v6, hx v v6 q1 q2⟩
    · rw [pk_un (by omega), pk_un (by omega)]; exact G i hi
  · rw [ak_Sv hv, pk_us]; exact (hb v (by omega)).mpr (Or.inr ⟨hbx, hn⟩)
  · by_cases c : R (16 * m + j) = 0
    · refine ak_lt sub hj (v := 6) (by omega) ?_ (by rw [ak_S6, pk_us])
      unfold ak_S; rw [if_pos rfl, c]; decide
    · have hc' : a ≠ K (16 * m + j) := by
        rcases hc with hc | hc
        · exact absurd hc c
        · exact hc
      have ex : ∃ v, v < 32 ∧ bt a v = true ∧ bt (K (16 * m + j)) v = false := by
        apply Classical.byContradiction
        intro nn
        apply hc'
        refine b_ext (fun v hv => ?_)
        cases e : bt (K (16 * m + j)) v with
        | true => exact (hb v hv).mpr (Or.inl e)
        | false =>
          cases e' : bt a v with
          | false => rfl
          | true => exact absurd ⟨v, hv, e', e⟩ nn
      obtain ⟨v, hv, q1, q2⟩ := ex
      have v6 : v < 6 := by
        rcases (hb v hv).mp q1 with q | ⟨_, q⟩
        · rw [q2] at q; exact absurd q (by decide)
        · exact ap_nd_6 H q
      exact ak_lt sub hj (v := v) (by omega) (by rw [ak_Sv v6]; exact q2) (by rw [ak_Sv v6, pk_us]; exact q1)
/-- in a round that found K0, R0: fl says whether anything is new -/
def ak_T (p : ap_T) (m : Nat) (K0 R0 K R : Nat → Int32) (fl : Int32) : Prop :=
  ak_G p m K R ∧ ap_out m K0 K ∧ ap_out m R0 R ∧ (∀ i, i < ap_Z p m → ∀ v, v ≤ 6 → ak_S m K0 R0 i v = true → ak_S m K R i v = true) ∧
  ((fl = 0 ∧ K = K0 ∧ R = R0) ∨ (fl = 1 ∧ ak_ca p m (ak_S m K0 R0) < ak_ca p m (ak_S m K R)))
theorem ap_out_t {m : Nat} {N N' N'' : Nat → Int32} (h : ap_out m N N') (h' : ap_out m N' N'') : ap_out m N N'' := fun k hk => (h' k hk).trans (h k hk)
end
section
variable {p : ap_T} {po en up dn bg lv md gX dp sa sh : Int32} {N P K R me pt h lx va rf al fX pe ou es : Nat → Int32}
variable {m : Nat}
theorem ax_re (H : ap_OK p) (hm : m < 4) (hN : ap_NS p m N) {K0 R0 : Nat → Int32} {fl : Int32} (T : ak_T p m K0 R0 K R fl) {j : Nat} (hj : j ≤ 16) (x : Int32)
    (h6 : j < ap_Z p m → ap_kp p m j 6 ∧ ∀ v, v < 6 → bt x v = true → ap_nd p m j v → ap_kp p m j v) (post : Int32 → SX → Prop)
    (hp : ∀ K' R' r, ak_T p m K0 R0 K' R' (fl ||| r) → (r = 0 ∨ r = 1) → (∀ k, k ≠ 16 * m + j → K' k = K k ∧ R' k = R k) →
      (j < ap_Z p m → ak_S m K' R' j 6 = true ∧ ∀ v, v < 6 → ap_nd p m j v → bt x v = true → ak_S m K' R' j v = true) → post r (po, en, up, dn, bg, lv, md, gX, dp, sa, sh, ap_sz p, ap_L p, ap_oo p, ap_aA p, ap_aB p, ap_c p, N, P, K', R', me, pt, h, lx, va, rf, al, fX, pe, ou, es)) :
    wpX_reach post (po, en, up, dn, bg, lv, md, gX, dp, sa, sh, ap_sz p, ap_L p, ap_oo p, ap_aA p, ap_aB p, ap_c p, N, P, K, R, me, pt, h, lx, va, rf, al, fX, pe, ou, es) (nI m) (nI j) x := by
  have hz := H.2.1 m
  by_cases c : j < ap_Z p m
  · have hk : 16 * m + j < 64 := by omega
    have hI : vp_in (nI (16 * m + j)) 64 := vp_in_nI hk (by omega)
    have ek : (nI (16 * m + j)).toNatClampNeg = 16 * m + j := nI_clamp (by omega)
    obtain ⟨T1, T2, T3, T4, T5⟩ := T
    obtain ⟨A1, A2, A3, A4⟩ := ak_re H hN T1 c (h6 c).1 (h6 c).2 _ rfl
    have fin : ∀ r : Int32, (r = 0 ∨ r = 1) → ((fl ||| r = 0 ∧ upd K (16 * m + j) (K (16 * m + j) ||| (x &&& N (16 * m + j))) = K0 ∧ upd R (16 * m + j) 1 = R0) ∨ (fl ||| r = 1 ∧ ak_ca p m (ak_S m K0 R0) < ak_ca p m (ak_S m (upd K (16 * m + j) (K (16 * m + j) ||| (x &&& N (16 * m + j)))) (upd R (16 * m + j) 1)))) →
        wX_reach_66 post (nI (16 * m + j)) (K (16 * m + j) ||| (x &&& N (16 * m + j))) r po en up dn bg lv md gX dp sa sh (ap_sz p) (ap_L p) (ap_oo p) (ap_aA p) (ap_aB p) (ap_c p) N P K R me pt h lx va rf al fX pe ou es := by
      intro r hr h5
      refine ⟨hI, nm_r (congrArg (upd R (nI (16 * m + j)).toNatClampNeg) ad_nb1) ⟨hI, nm_e ?_⟩⟩
      rw [ek]
      refine ⟨by rcases hr with e | e <;> rw [e] <;> rfl, hp _ _ r ⟨A1, ap_out_u T2 (by omega) _, ap_out_u T3 (by omega) _, fun i hi v hv q => A2 i hi v hv (T4 i hi v hv q), h5⟩ hr (fun k hk => ⟨pk_un hk, pk_un hk⟩) (fun _ => A3)⟩
    have or1 : ∀ r : Int32, r = 1 → (fl = 0 ∨ fl = 1) → fl ||| r = 1 := by
      intro r e hf
      rcases hf with f | f <;> rw [e, f] <;> decide
    have fl01 : fl = 0 ∨ fl = 1 := by
      rcases T5 with ⟨f, _⟩ | ⟨f, _⟩
      · exact Or.inl f
      · exact Or.inr f
    have le : ak_ca p m (ak_S m K0 R0) ≤ ak_ca p m (ak_S m K R) := ak_mono T4
    refine ⟨vp_in_nI hm (by omega), br_t (by rw [ap_szm p hm]; exact nI_lt c (by omega)) (nm_r (ap_xk m j) ⟨hI, hI, nm_r (by rw [ek]) ⟨hI, ?_⟩⟩)⟩
    rw [ek]
    refine br_c (fun c1 => fin 1 (Or.inr rfl) (Or.inr ⟨or1 1 rfl fl01, Nat.lt_of_le_of_lt le (A4 (Or.inl c1))⟩)) (fun c1 => ⟨hI, br_c (fun c2 => fin 0 (Or.inl rfl) ?_) (fun c2 => fin 1 (Or.inr rfl) (Or.inr ⟨or1 1 rfl fl01, Nat.lt_of_le_of_lt le (A4 (Or.inr c2))⟩))⟩)
    have r1 : R (16 * m + j) = 1 := by
      rcases (T1 j c).1 with q | q
      · exact absurd q c1
      · exact q
    have e1 : upd K (16 * m + j) (K (16 * m + j) ||| (x &&& N (16 * m + j))) = K := ad_updS _ _ _ c2.symm
    have e2 : upd R (16 * m + j) 1 = R := ad_updS _ _ _ r1
    rw [e1, e2]
    rcases T5 with ⟨f, g⟩ | ⟨f, g⟩
    · exact Or.inl ⟨by rw [f]; rfl, g⟩
    · exact Or.inr ⟨by rw [f]; rfl, g⟩
  · refine ⟨vp_in_nI hm (by omega), br_f (by rw [ap_szm p hm]; exact nI_nlt (by omega) (by omega)) (hp K R 0 ?_ (Or.inl rfl) (fun _ _ => ⟨rfl, rfl⟩) (fun q => absurd q c))⟩
    rw [show fl ||| 0 = fl from Int32.or_zero]
    exact T
end
theorem ak_or0 {a b : Int32} (ha : a = 0 ∨ a = 1) (hb : b = 0 ∨ b = 1) (h : a ||| b = 0) : a = 0 ∧ b = 0 := by
  rcases ha with e | e <;> rcases hb with f | f <;> rw [e, f] at h ⊢ <;> first | exact ⟨rfl, rfl⟩ | exact absurd h (by decide)
theorem ak_T01 {p : ap_T} {m : Nat} {K0 R0 K R : Nat → Int32} {fl : Int32} (T : ak_T p m K0 R0 K R fl) : fl = 0 ∨ fl = 1 := by
  rcases T.2.2.2.2 with ⟨f, _⟩ | ⟨f, _⟩
  · exact Or.inl f
  · exact Or.inr f
theorem ak_T0 {p : ap_T} {m : Nat} {K0 R0 K R : Nat → Int32} {fl : Int32} (T : ak_T p m K0 R0 K R fl) (h : fl = 0) : K = K0 ∧ R = R0 := by
  rcases T.2.2.2.2 with ⟨_, f⟩ | ⟨f, _⟩
  · exact f
  · rw [h] at f; exact absurd f (by decide)
section
variable {p : ap_T} {po en up dn bg lv md gX dp sa sh : Int32} {N P K R me pt h lx va rf al fX pe ou es : Nat → Int32}
variable {m : Nat}
theorem ak_inner (H : ap_OK p) (hm : m < 4) (hN : ap_NS p m N) (hP : ap_PS p m P) (post : SX → Prop) (J : Int32 → Int32 → Int32 → Int32 → Int32 → Int32 → Int32 → Int32 → Int32 → Int32 → Int32 → Int32 → Int32 → (Nat → Int32) → (Nat → Int32) → (Nat → Int32) → (Nat → Int32) → (Nat → Int32) → (Nat → Int32) → (Nat → Int32) → (Nat → Int32) → (Nat → Int32) → (Nat → Int32) → (Nat → Int32) → (Nat → Int32) → (Nat → Int32) → (Nat → Int32) → (Nat → Int32) → (Nat → Int32) → (Nat → Int32) → (Nat → Int32) → (Nat → Int32) → (Nat → Int32) → (Nat → Int32) → Prop) (x4 : Int32) (K0 R0 : Nat → Int32)
    (hJ : ∀ K R fl, ak_T p m K0 R0 K R fl → (fl = 0 → ∀ i, i < ap_Z p m → ak_cl p m (ak_S m K0 R0) i) → J fl (x4 + 1) po en up dn bg lv md gX dp sa sh (ap_sz p) (ap_L p) (ap_oo p) (ap_aA p) (ap_aB p) (ap_c p) N P K R me pt h lx va rf al fX pe ou es) :
    ∀ d i, i + d = ap_Z p m → ∀ K R fl, ak_T p m K0 R0 K R fl → (fl = 0 → ∀ j, j < i → ak_cl p m (ak_S m K0 R0) j) → wX_findKeeping_84 post J (nI m) x4 (d + 1) fl (nI i) po en up dn bg lv md gX dp sa sh (ap_sz p) (ap_L p) (ap_oo p) (ap_aA p) (ap_aB p) (ap_c p) N P K R me pt h lx va rf al fX pe ou es := by
  have hz := H.2.1 m
  intro d
  induction d with
  | zero =>
    intro i hi K R fl T hc
    have e : i = ap_Z p m := by omega
    subst e
    exact ⟨vp_in_nI hm (by omega), br_t (by rw [ap_szm p hm]; exact nI_le (by omega) (by omega)) (nm_e (hJ K R fl T hc))⟩
  | succ d ih =>
    intro i hi K R fl T hc
    have hk : 16 * m + i < 64 := by omega
    have hI : vp_in (nI (16 * m + i)) 64 := vp_in_nI hk (by omega)
    have ek : (nI (16 * m + i)).toNatClampNeg = 16 * m + i := nI_clamp (by omega)
    have hcc := (H.1 (16 * m + i)).2.2.2.2.1
    obtain ⟨x, hx, wx⟩ := ax_kb (po := po) (en := en) (up := up) (dn := dn) (bg := bg) (lv := lv) (md := md) (gX := gX) (dp := dp) (sa := sa) (sh := sh) (N := N) (P := P) (K := K) (R := R) (me := me) (pt := pt) (h := h) (lx := lx) (va := va) (rf := rf) (al := al) (fX := fX) (pe := pe) (ou := ou) (es := es) H hm (i := i) (by omega) hP
    have T01 := ak_T01 T
    have next : ∀ K2 R2 fl2, ak_T p m K0 R0 K2 R2 fl2 → (fl2 = 0 → fl = 0 ∧ ak_cl p m (ak_S m K0 R0) i) → ∀ y : Int32, y = nI i + 1 → wX_findKeeping_84 post J (nI m) x4 (d + 1) fl2 y po en up dn bg lv md gX dp sa sh (ap_sz p) (ap_L p) (ap_oo p) (ap_aA p) (ap_aB p) (ap_c p) N P K2 R2 me pt h lx va rf al fX pe ou es := by
      intro K2 R2 fl2 T2 h2 y ey
      rw [ey, nI_1]
      refine ih (i + 1) (by omega) K2 R2 fl2 T2 (fun f j hj => ?_)
      by_cases e : j = i
      · subst e; exact (h2 f).2
      · exact hc (h2 f).1 j (by omega)
    by_cases r0 : R (16 * m + i) = 0
    · -- no way leads here yet
      refine ⟨vp_in_nI hm (by omega), br_f (by rw [ap_szm p hm]; exact nI_ge (by omega) (by omega)) (nm_r (ap_xk m i) (wx _ ⟨hI, br_t (by rw [ek]; exact r0) ⟨hI, br_t (by rw [ek]; exact r0) (next K R fl T (fun f => ⟨f, fun q => ?_⟩))⟩⟩))⟩
      rw [ak_S6, ← (ak_T0 T f).2, r0] at q
      exact absurd q (by decide)
    have r1 : R (16 * m + i) = 1 := by
      rcases (T.1 i (by omega)).1 with q | q
      · exact absurd q r0
      · exact q
    have k6 := (T.1 i (by omega)).2.1 r1
    have so : ∀ j, ap_sc p m i j → ap_kp p m j 6 ∧ ∀ v, v < 6 → bt x v = true → ap_nd p m j v → ap_kp p m j v := by
      intro j hs
      refine ⟨ad_kp_2 k6 hs, fun v hv hb hn => ?_⟩
      rcases (hx v (by omega)).mp hb with g | ⟨g1, g2⟩
      · exact ad_kp_3 hv k6 hs g hn
      · exact ad_kp_4 hv k6 ((T.1 i (by omega)).2.2 v (by omega) g1).2 g2 hs hn
    -- what is known of the successor j once nothing is new
    have clo : (∀ j, ap_sc p m i j → ak_S m K0 R0 j 6 = true ∧ ∀ v, v < 6 → ap_nd p m j v → bt x v = true → ak_S m K0 R0 j v = true) → K = K0 → ak_cl p m (ak_S m K0 R0) i := by
      intro q eK _ j hs
      refine ⟨(q j hs).1, fun v hv hn g => (q j hs).2 v hv hn ((hx v (by omega)).mpr ?_)⟩
      rcases g with g | ⟨g1, g2⟩
      · exact Or.inl g
      · rw [ak_Sv hv, ← eK] at g1; exact Or.inr ⟨g1, g2⟩
    obtain ⟨b1, g1, v1⟩ := ax_on (po := po) (en := en) (up := up) (dn := dn) (bg := bg) (lv := lv) (md := md) (gX := gX) (dp := dp) (sa := sa) (sh := sh) (N := N) (P := P) (K := K) (R := R) (me := me) (pt := pt) (h := h) (lx := lx) (va := va) (rf := rf) (al := al) (fX := fX) (pe := pe) (ou := ou) (es := es) (i := i) H hm (by omega)
    -- the jump
    have cont : ∀ K1 R1 fl1, ak_T p m K0 R0 K1 R1 fl1 → R1 (16 * m + i) = 1 → (fl1 = 0 → fl = 0 ∧ ∀ j, ap_sc p m i j → ap_on p (16 * m + i) ∧ j = i + 1 → ak_S m K0 R0 j 6 = true ∧ ∀ v, v < 6 → ap_nd p m j v → bt x v = true → ak_S m K0 R0 j v = true) →
        wX_findKeeping_145 post J (wX_findKeeping_84 post J (nI m) x4 (d + 1)) (nI m) fl1 x4 (nI i) (nI (16 * m + i)) x po en up dn bg lv md gX dp sa sh (ap_sz p) (ap_L p) (ap_oo p) (ap_aA p) (ap_aB p) (ap_c p) N P K1 R1 me pt h lx va rf al fX pe ou es := by
      intro K1 R1 fl1 T1 e1 q1
      obtain ⟨b2, g2, v2⟩ := ax_jp (po := po) (en := en) (up := up) (dn := dn) (bg := bg) (lv := lv) (md := md) (gX := gX) (dp := dp) (sa := sa) (sh := sh) (N := N) (P := P) (K := K1) (R := R1) (me := me) (pt := pt) (h := h) (lx := lx) (va := va) (rf := rf) (al := al) (fX := fX) (pe := pe) (ou := ou) (es := es) (i := i) H hm (by omega)
      refine ⟨hI, br_f (by rw [ek, e1]; decide) (v2 _ ?_)⟩
      rcases g2 with ⟨a, e⟩ | ⟨a, e⟩
      · obtain ⟨c1, c2⟩ := hcc a
        refine br_f (by rw [e]; decide) ⟨hI, ?_⟩
        rw [ap_ck p hk, c1]
        refine ax_re H hm hN T1 (by omega) x (fun q => so _ ⟨q, Or.inr ⟨a, rfl⟩⟩) _ (fun K' R' r T' hr hk' hS => ?_)
        refine nm_e (next K' R' _ T' (fun f => ?_))
        obtain ⟨f1, f2⟩ := ak_or0 (ak_T01 T1) hr f
        obtain ⟨q2, q3⟩ := q1 f1
        obtain ⟨u1, u2⟩ := ak_T0 T' f
        refine ⟨q2, clo (fun j hs => ?_) (ak_T0 T q2).1⟩
        rcases hs.2 with ⟨s1, s2⟩ | ⟨s1, s2⟩
        · exact q3 j hs ⟨s1, s2⟩
        · subst s2
          have := hS hs.1
          rw [u1, u2] at this
          exact this
      · refine br_t e (next K1 R1 fl1 T1 (fun f => ?_))
        obtain ⟨q2, q3⟩ := q1 f
        refine ⟨q2, clo (fun j hs => ?_) (ak_T0 T q2).1⟩
        rcases hs.2 with s | s
        · exact q3 j hs s
        · exact absurd s.1 a
    refine ⟨vp_in_nI hm (by omega), br_f (by rw [ap_szm p hm]; exact nI_ge (by omega) (by omega)) (nm_r (ap_xk m i) (wx _ ⟨hI, br_f (by rw [ek]; exact r0) (v1 _ ?_)⟩))⟩
    rcases g1 with ⟨a, e⟩ | ⟨a, e⟩
    · refine br_f (by rw [e]; decide) ?_
      rw [nI_1]
      refine ax_re H hm hN T (by omega) x (fun q => so _ ⟨q, Or.inl ⟨a, rfl⟩⟩) _ (fun K' R' r T' hr hk' hS => nm_e (cont K' R' _ T' ?_ (fun f => ?_)))
      · rw [(hk' (16 * m + i) (by omega)).2]; exact r1
      · obtain ⟨f1, f2⟩ := ak_or0 T01 hr f
        obtain ⟨u1, u2⟩ := ak_T0 T' f
        refine ⟨f1, fun j hs s => ?_⟩
        have s2 := s.2
        subst s2
        have := hS hs.1
        rw [u1, u2] at this
        exact this
    · exact br_t e (cont K R fl T r1 (fun f => ⟨f, fun j hs s => absurd s.1 a⟩))
theorem ak_outer (H : ap_OK p) (hm : m < 4) (hN : ap_NS p m N) (hP : ap_PS p m P) (post : SX → Prop) (K0 R0 : Nat → Int32)
    (hp : ∀ K R, ap_KX p m K R → ap_out m K0 K → ap_out m R0 R → post (po, en, up, dn, bg, lv, md, gX, dp, sa, sh, ap_sz p, ap_L p, ap_oo p, ap_aA p, ap_aB p, ap_c p, N, P, K, R, me, pt, h, lx, va, rf, al, fX, pe, ou, es)) :
    ∀ d r, r + d = 113 → ∀ K R fl, ak_G p m K R → ap_out m K0 K → ap_out m R0 R → (0 < ap_Z p m → ak_S m K R 0 6 = true) → (0 < ap_Z p m → ap_L p m = 0 → ap_nd p m 0 0 → ak_S m K R 0 0 = true) →
      ((fl = 0 ∧ ∀ i, i < ap_Z p m → ak_cl p m (ak_S m K R) i) ∨ (fl = 1 ∧ r ≤ ak_ca p m (ak_S m K R))) → wX_findKeeping_68 post (nI m) (d + 1) fl (nI r) po en up dn bg lv md gX dp sa sh (ap_sz p) (ap_L p) (ap_oo p) (ap_aA p) (ap_aB p) (ap_c p) N P K R me pt h lx va rf al fX pe ou es := by
  intro d
  have fin : ∀ K R, ak_G p m K R → ap_out m K0 K → ap_out m R0 R → (0 < ap_Z p m → ak_S m K R 0 6 = true) → (0 < ap_Z p m → ap_L p m = 0 → ap_nd p m 0 0 → ak_S m K R 0 0 = true) →
      (∀ i, i < ap_Z p m → ak_cl p m (ak_S m K R) i) → post (po, en, up, dn, bg, lv, md, gX, dp, sa, sh, ap_sz p, ap_L p, ap_oo p, ap_aA p, ap_aB p, ap_c p, N, P, K, R, me, pt, h, lx, va, rf, al, fX, pe, ou, es) := by
    intro K R G o1 o2 b1 b2 cl
    have D := ak_done (ak_G_so G) b1 b2 cl
    refine hp K R (fun i hi => ⟨(G i hi).1, ?_, fun v hv => ?_⟩) o1 o2
    · rw [← ak_S6 (K := K)]; exact D i hi 6 (by omega)
    · constructor
      · exact (G i hi).2.2 v hv
      · rintro ⟨v6, q⟩
        have := (D i hi v (by omega)).mpr q
        rw [ak_Sv v6] at this
        exact this
  induction d with
  | zero =>
    intro r hr K R fl G o1 o2 b1 b2 h
    rcases h with ⟨_, h⟩ | ⟨_, h⟩
    · exact br_t (nI_lt (a := 112) (by omega) (by omega)) (fin K R G o1 o2 b1 b2 h)
    · have := ak_ca_le (m := m) H (ak_S m K R)
      omega
  | succ d ih =>
    intro r hr K R fl G o1 o2 b1 b2 h
    refine br_f (nI_nlt (b := r) (a := 112) (by omega) (by decide)) ?_
    rcases h with ⟨f, h⟩ | ⟨f, h⟩
    · exact br_t f (fin K R G o1 o2 b1 b2 h)
    · refine br_f (by rw [f]; decide) ⟨ap_Z p m + 1, ?_⟩
      refine ak_inner H hm hN hP post _ (nI r) K R (fun K' R' fl' T' hc => ?_) (ap_Z p m) 0 (by omega) K R 0 ⟨G, ap_out_r, ap_out_r, fun _ _ _ _ q => q, Or.inl ⟨rfl, rfl, rfl⟩⟩ (fun _ j hj => by omega)
      rw [nI_1]
      obtain ⟨T1, T2, T3, T4, T5⟩ := T'
      refine ih (r + 1) (by omega) K' R' fl' T1 (ap_out_t o1 T2) (ap_out_t o2 T3) (fun q => T4 0 q 6 (by omega) (b1 q)) (fun q q1 q2 => T4 0 q 0 (by omega) (b2 q q1 q2)) ?_
      rcases T5 with ⟨f0, e1, e2⟩ | ⟨f1, lt⟩
      · exact Or.inl ⟨f0, by rw [e1, e2]; exact hc f0⟩
      · exact Or.inr ⟨f1, by omega⟩
theorem ak_clear (H : ap_OK p) (hm : m < 4) (hN : ap_NS p m N) (hP : ap_PS p m P) (post : SX → Prop) (K0 R0 : Nat → Int32)
    (hp : ∀ K R, ap_KX p m K R → ap_out m K0 K → ap_out m R0 R → post (po, en, up, dn, bg, lv, md, gX, dp, sa, sh, ap_sz p, ap_L p, ap_oo p, ap_aA p, ap_aB p, ap_c p, N, P, K, R, me, pt, h, lx, va, rf, al, fX, pe, ou, es)) :
    ∀ d i, i + d = ap_Z p m → ∀ K R, ap_out m K0 K → ap_out m R0 R → (∀ j, j < i → K (16 * m + j) = 0 ∧ R (16 * m + j) = 0) → wX_findKeeping_2 post (nI m) po en up dn bg lv md gX dp sa sh (d + 1) (nI i) (ap_sz p) (ap_L p) (ap_oo p) (ap_aA p) (ap_aB p) (ap_c p) N P K R me pt h lx va rf al fX pe ou es := by
  intro d
  have hz := H.2.1 m
  have hL := H.2.2 m
  induction d with
  | zero =>
    intro i hi K R o1 o2 z
    have G : ak_G p m K R := fun j hj => ⟨Or.inl (z j (by omega)).2, fun q => by rw [(z j (by omega)).2] at q; exact absurd q (by decide), fun v _ q => by rw [(z j (by omega)).1, b_0] at q; exact absurd q (by decide)⟩
    have T : ak_T p m K R K R 0 := ⟨G, ap_out_r, ap_out_r, fun _ _ _ _ q => q, Or.inl ⟨rfl, rfl, rfl⟩⟩
    have go : ∀ x : Int32, (ap_L p m = 0 ∧ x = 1 ∨ ap_L p m ≠ 0 ∧ x = 0) → wX_findKeeping_56 post (nI m) x po en up dn bg lv md gX dp sa sh (ap_sz p) (ap_L p) (ap_oo p) (ap_aA p) (ap_aB p) (ap_c p) N P K R me pt h lx va rf al fX pe ou es := by
      intro x hx
      refine ax_re (j := 0) H hm hN T (by omega) x (fun q => ⟨ad_kp_0 q, fun v hv hb hn => ?_⟩) _ (fun K' R' r T' hr hk' hS => ⟨114, ?_⟩)
      · rcases hx with ⟨l, e⟩ | ⟨l, e⟩
        · rw [e, ad_bt1 v (by omega), decide_eq_true_iff] at hb
          subst hb
          exact ad_kp_1 q l hn
        · rw [e, b_0] at hb; exact absurd hb (by decide)
      · obtain ⟨T1, T2, T3, T4, T5⟩ := T'
        rw [show (0 : Int32) ||| r = r from Int32.zero_or] at T5
        refine ak_outer H hm hN hP post K0 R0 hp 113 0 (by omega) K' R' r T1 (ap_out_t o1 T2) (ap_out_t o2 T3) (fun q => (hS q).1) (fun q q1 q2 => (hS q).2 0 (by omega) q2 ?_) ?_
        · rcases hx with ⟨l, e⟩ | ⟨l, e⟩
          · rw [e]; decide
          · exact absurd q1 l
        · rcases T5 with ⟨f, e1, e2⟩ | ⟨f, lt⟩
          · refine Or.inl ⟨f, fun i' hi' => ?_⟩
            have := (hS (by omega)).1
            rw [ak_S6, e2, (z 0 (by omega)).2] at this
            exact absurd this (by decide)
          · exact Or.inr ⟨f, Nat.zero_le _⟩
    refine ⟨vp_in_nI hm (by omega), br_t (by rw [ap_szm p hm]; exact nI_le (by omega) (by omega)) ⟨vp_in_nI hm (by omega), ?_⟩⟩
    rw [nI_clamp (by omega)]
    exact br_c (fun c => go 1 (Or.inl ⟨c, rfl⟩)) (fun c => go 0 (Or.inr ⟨c, rfl⟩))
  | succ d ih =>
    intro i hi K R o1 o2 z
    refine ⟨vp_in_nI hm (by omega), br_f (by rw [ap_szm p hm]; exact nI_ge (by omega) (by omega)) ?_⟩
    rw [ap_xk, nI_clamp (by omega)]
    refine ⟨vp_in_nI (by omega) (by omega), nm_e ⟨vp_in_nI (by omega) (by omega), nm_r (congrArg (upd R (16 * m + i)) ad_nb0) (nm_r (nI_1 i) (ih (i + 1) (by omega) _ _ (ap_out_u o1 (by omega) 0) (ap_out_u o2 (by omega) 0) (fun j hj => ?_)))⟩⟩
    by_cases c : j = i
    · subst c; exact ⟨pk_us, pk_us⟩
    · rw [pk_un (by omega), pk_un (by omega)]; exact z j (by omega)
theorem ax_plans (H : ap_OK p) (hm : m < 4) (hN : ap_NS p m N) (post : SX → Prop) (P0 K0 R0 : Nat → Int32)
    (hp : ∀ P K R, ap_PS p m P → ap_KX p m K R → ap_out m P0 P → ap_out m K0 K → ap_out m R0 R → post (po, en, up, dn, bg, lv, md, gX, dp, sa, sh, ap_sz p, ap_L p, ap_oo p, ap_aA p, ap_aB p, ap_c p, N, P, K, R, me, pt, h, lx, va, rf, al, fX, pe, ou, es)) :
    ∀ d i, i + d = ap_Z p m → ∀ P, ap_out m P0 P → (∀ j, j < i → ap_Pl p m j (P (16 * m + j))) → wX_analyse_7 post (nI m) po en up dn bg lv md gX dp sa sh (d + 1) (nI i) (ap_sz p) (ap_L p) (ap_oo p) (ap_aA p) (ap_aB p) (ap_c p) N P K0 R0 me pt h lx va rf al fX pe ou es := by
  intro d
  have hz := H.2.1 m
  induction d with
  | zero =>
    intro i hi P o1 z
    have hP : ap_PS p m P := fun j hj => z j (by omega)
    refine ⟨vp_in_nI hm (by omega), br_t (by rw [ap_szm p hm]; exact nI_le (by omega) (by omega)) ⟨ap_Z p m + 1, ?_⟩⟩
    exact ak_clear H hm hN hP _ K0 R0 (fun K R h1 h2 h3 => hp P K R hP h1 o1 h2 h3) (ap_Z p m) 0 (by omega) K0 R0 ap_out_r ap_out_r (fun j hj => by omega)
  | succ d ih =>
    intro i hi P o1 z
    have hI : vp_in (nI (16 * m + i)) 64 := vp_in_nI (by omega) (by omega)
    have st : ∀ x : Int32, ap_Pl p m i x → ∀ y : Int32, y = nI i + 1 → wX_analyse_7 post (nI m) po en up dn bg lv md gX dp sa sh (d + 1) y (ap_sz p) (ap_L p) (ap_oo p) (ap_aA p) (ap_aB p) (ap_c p) N (upd P (nI (16 * m + i)).toNatClampNeg x) K0 R0 me pt h lx va rf al fX pe ou es := by
      intro x hx y ey
      rw [ey, nI_1, nI_clamp (by omega)]
      refine ih (i + 1) (by omega) _ (ap_out_u o1 (by omega) x) (fun j hj => ?_)
      by_cases c : j = i
      · subst c; rw [pk_us]; exact hx
      · rw [pk_un (by omega)]; exact z j (by omega)
    refine ⟨vp_in_nI hm (by omega), br_f (by rw [ap_szm p hm]; exact nI_ge (by omega) (by omega)) (nm_r (ap_xk m i) ?_)⟩
    refine ax_ln H hm (by omega) hN _ (fun c => br_t rfl ?_) (fun c => br_f (by decide) ⟨hI, nm_e (st 1 ⟨fun _ => rfl, fun q => absurd c q, fun q => absurd c q⟩)⟩)
    exact ax_ho H hm (by omega) hN _ (fun c2 => br_t rfl ⟨hI, nm_e (st 0 ⟨fun q => absurd q c, fun _ q => absurd q c2, fun _ _ => rfl⟩)⟩) (fun c2 => br_f (by decide) ⟨hI, nm_e (st 2 ⟨fun q => absurd q c, fun _ _ => rfl, fun _ q => absurd c2 q⟩)⟩)
/-- what is found of METHOD m -/
theorem ax_analyse (H : ap_OK p) (hm : m < 4) (post : SX → Prop)
    (hp : ∀ N' P' K' R', ap_NS p m N' → ap_PS p m P' → ap_KX p m K' R' → ap_out m N N' → ap_out m P P' → ap_out m K K' → ap_out m R R' → post (po, en, up, dn, bg, lv, md, gX, dp, sa, sh, ap_sz p, ap_L p, ap_oo p, ap_aA p, ap_aB p, ap_c p, N', P', K', R', me, pt, h, lx, va, rf, al, fX, pe, ou, es)) :
    wpX_analyse post (po, en, up, dn, bg, lv, md, gX, dp, sa, sh, ap_sz p, ap_L p, ap_oo p, ap_aA p, ap_aB p, ap_c p, N, P, K, R, me, pt, h, lx, va, rf, al, fX, pe, ou, es) (nI m) := by
  refine ax_need H hm _ (fun N' hN o => ⟨ap_Z p m + 1, ?_⟩)
  exact ax_plans H hm hN post P K R (fun P' K' R' h1 h2 h3 h4 h5 => hp N' P' K' R' hN h1 h2 o h3 h4 h5) (ap_Z p m) 0 (by omega) P ap_out_r (fun j hj => by omega)
end
end
section
/-! the counts of references: given, variables, fields -/
def ac_V (h l : Nat → Int32) (d n : Nat) : Nat := ad_ct (fun v => decide (h v = nI n) && decide (l v = 0)) (6 * d)
def ac_F (f : Nat → Int32) (M n : Nat) : Nat := ad_ct (fun x => decide (f (3 * (x / 2 + 1) + x % 2) = nI n)) (2 * M)
def ac_N (g : Int32) (h l : Nat → Int32) (d : Nat) (f : Nat → Int32) (M n : Nat) : Nat := (if g = nI n then 1 else 0) + ac_V h l d n + ac_F f M n
theorem ac_N_le (g : Int32) (h l : Nat → Int32) (d : Nat) (f : Nat → Int32) (M n : Nat) : ac_N g h l d f M n ≤ 1 + 6 * d + 2 * M := by
  have h1 := ad_ct_le (fun v => decide (h v = nI n) && decide (l v = 0)) (6 * d)
  have h2 := ad_ct_le (fun x => decide (f (3 * (x / 2 + 1) + x % 2) = nI n)) (2 * M)
  unfold ac_N ac_V ac_F
  split <;> omega
theorem ac_if2 {a b : Prop} [Decidable a] [Decidable b] : (if (decide a && decide b) = true then 1 else 0 : Nat) = if a ∧ b then 1 else 0 := by
  by_cases h : a <;> by_cases h' : b <;> simp [h, h']
theorem ac_if1 {a : Prop} [Decidable a] : (if decide a = true then 1 else 0 : Nat) = if a then 1 else 0 := by
  by_cases h : a <;> simp [h]
theorem ac_V_upd {h l : Nat → Int32} {d v : Nat} (hv : v < 6 * d) (x y : Int32) (n : Nat) :
    ac_V (upd h v x) (upd l v y) d n + (if h v = nI n ∧ l v = 0 then 1 else 0) = ac_V h l d n + (if x = nI n ∧ y = 0 then 1 else 0) := by
  have e := ad_ct_one (p := fun w => decide (h w = nI n) && decide (l w = 0)) (q := fun w => decide (upd h v x w = nI n) && decide (upd l v y w = 0)) (x := v) (6 * d) hv
    (fun i _ hi => by show (decide (upd h v x i = nI n) && decide (upd l v y i = 0)) = _; rw [pk_un hi, pk_un hi])
  simp only [pk_us, ac_if2] at e
  exact e
theorem ac_V_congr {h l h' l' : Nat → Int32} {d n : Nat} (e : ∀ v, v < 6 * d → h' v = h v ∧ l' v = l v) : ac_V h' l' d n = ac_V h l d n :=
  ad_ct_congr _ (fun i hi => by rw [(e i hi).1, (e i hi).2])
theorem ac_F_upd {f : Nat → Int32} {M q j : Nat} (h1 : 1 ≤ q) (h2 : q ≤ M) (hj : j < 2) (x : Int32) (n : Nat) :
    ac_F (upd f (3 * q + j) x) M n + (if f (3 * q + j) = nI n then 1 else 0) = ac_F f M n + (if x = nI n then 1 else 0) := by
  have e := ad_ct_one (p := fun w => decide (f (3 * (w / 2 + 1) + w % 2) = nI n)) (q := fun w => decide (upd f (3 * q + j) x (3 * (w / 2 + 1) + w % 2) = nI n)) (x := 2 * (q - 1) + j) (2 * M) (by omega)
    (fun i _ hi => by show decide (upd f (3 * q + j) x _ = nI n) = _; rw [pk_un (by omega)])
  have ei : 3 * ((2 * (q - 1) + j) / 2 + 1) + (2 * (q - 1) + j) % 2 = 3 * q + j := by omega
  simp only [ei, pk_us, ac_if1] at e
  exact e
theorem ac_F_congr {f f' : Nat → Int32} {M n : Nat} (e : ∀ q j, 1 ≤ q → q ≤ M → j < 2 → f' (3 * q + j) = f (3 * q + j)) : ac_F f' M n = ac_F f M n :=
  ad_ct_congr _ (fun i hi => by
    have h := e (i / 2 + 1) (i % 2) (by omega) (by omega) (by omega)
    rw [h])
theorem ac_F_succ (f : Nat → Int32) (M n : Nat) : ac_F f (M + 1) n = ac_F f M n + (if f (3 * (M + 1)) = nI n then 1 else 0) + (if f (3 * (M + 1) + 1) = nI n then 1 else 0) := by
  have e : 2 * (M + 1) = 2 * M + 1 + 1 := by omega
  unfold ac_F
  rw [e, ad_ct_succ, ad_ct_succ]
  have e1 : 3 * (2 * M / 2 + 1) + 2 * M % 2 = 3 * (M + 1) := by omega
  have e2 : 3 * ((2 * M + 1) / 2 + 1) + (2 * M + 1) % 2 = 3 * (M + 1) + 1 := by omega
  simp only [e1, e2, ac_if1]
theorem ac_V_succ (h l : Nat → Int32) (d n : Nat) : ac_V h l (d + 1) n = ac_V h l d n + (if h (6 * d) = nI n ∧ l (6 * d) = 0 then 1 else 0) + (if h (6 * d + 1) = nI n ∧ l (6 * d + 1) = 0 then 1 else 0)
    + (if h (6 * d + 2) = nI n ∧ l (6 * d + 2) = 0 then 1 else 0) + (if h (6 * d + 3) = nI n ∧ l (6 * d + 3) = 0 then 1 else 0)
    + (if h (6 * d + 4) = nI n ∧ l (6 * d + 4) = 0 then 1 else 0) + (if h (6 * d + 5) = nI n ∧ l (6 * d + 5) = 0 then 1 else 0) := by
  have e : 6 * (d + 1) = 6 * d + 1 + 1 + 1 + 1 + 1 + 1 := by omega
  unfold ac_V
  rw [e, ad_ct_succ, ad_ct_succ, ad_ct_succ, ad_ct_succ, ad_ct_succ, ad_ct_succ]
  simp only [ac_if2, Nat.add_assoc]
theorem ac_V_pos {h l : Nat → Int32} {d v n : Nat} (hv : v < 6 * d) (e : h v = nI n) (e' : l v = 0) : 1 ≤ ac_V h l d n :=
  ad_ct_pos (p := fun v => decide (h v = nI n) && decide (l v = 0)) hv (by simp [e, e'])
theorem ac_F_pos {f : Nat → Int32} {M q j n : Nat} (h1 : 1 ≤ q) (h2 : q ≤ M) (hj : j < 2) (e : f (3 * q + j) = nI n) : 1 ≤ ac_F f M n := by
  have ei : 3 * ((2 * (q - 1) + j) / 2 + 1) + (2 * (q - 1) + j) % 2 = 3 * q + j := by omega
  exact ad_ct_pos (p := fun w => decide (f (3 * (w / 2 + 1) + w % 2) = nI n)) (x := 2 * (q - 1) + j) (by omega) (by show decide (f (3 * ((2 * (q - 1) + j) / 2 + 1) + (2 * (q - 1) + j) % 2) = nI n) = true; rw [ei, e]; exact decide_eq_true rfl)
/-! FIELDS 2 that hold n are emptied -/
def ac_cl (f : Nat → Int32) (M n : Nat) : Nat → Int32 := fun x => if x % 3 = 2 ∧ 3 ≤ x ∧ x < 3 * M + 3 ∧ f x = nI n then 0 else f x
theorem ac_cl_01 {f : Nat → Int32} {M n q j : Nat} (hj : j < 2) : ac_cl f M n (3 * q + j) = f (3 * q + j) :=
  if_neg (fun z => by have := z.1; omega)
theorem ac_cl_2 {f : Nat → Int32} {M n q : Nat} (h1 : 1 ≤ q) (h2 : q ≤ M) : ac_cl f M n (3 * q + 2) = if f (3 * q + 2) = nI n then 0 else f (3 * q + 2) := by
  unfold ac_cl
  by_cases e : f (3 * q + 2) = nI n
  · rw [if_pos ⟨by omega, by omega, by omega, e⟩, if_pos e]
  · rw [if_neg (fun z => e z.2.2.2), if_neg e]
theorem ac_cl_0 (f : Nat → Int32) (n : Nat) : ac_cl f 0 n = f := by
  funext x
  exact if_neg (fun z => by have := z.2; omega)
theorem ac_cl_ne (f : Nat → Int32) (M n : Nat) {x : Nat} (hx : x ≠ 3 * (M + 1) + 2) : ac_cl f (M + 1) n x = ac_cl f M n x := by
  unfold ac_cl
  by_cases c : x % 3 = 2 ∧ 3 ≤ x ∧ x < 3 * M + 3 ∧ f x = nI n
  · rw [if_pos c, if_pos ⟨c.1, c.2.1, by have := c.2.2.1; omega, c.2.2.2⟩]
  · rw [if_neg c, if_neg]
    rintro ⟨z1, z2, z3, z4⟩
    exact c ⟨z1, z2, by omega, z4⟩
theorem ac_cl_s (f : Nat → Int32) (M n : Nat) : ac_cl f (M + 1) n = if f (3 * (M + 1) + 2) = nI n then upd (ac_cl f M n) (3 * (M + 1) + 2) 0 else ac_cl f M n := by
  by_cases e : f (3 * (M + 1) + 2) = nI n
  · rw [if_pos e]
    funext x
    by_cases ex : x = 3 * (M + 1) + 2
    · subst ex
      rw [pk_us]
      exact if_pos ⟨by omega, by omega, by omega, e⟩
    · rw [pk_un ex, ac_cl_ne f M n ex]
  · rw [if_neg e]
    funext x
    by_cases ex : x = 3 * (M + 1) + 2
    · subst ex
      unfold ac_cl
      rw [if_neg (fun z => e z.2.2.2), if_neg (fun z => e z.2.2.2)]
    · exact ac_cl_ne f M n ex
/-! what holds of the objects: e is a reference that lies in no place yet (0: none), l the objects that end, with what is to be let go of them -/
def ac_ob (e : Nat) (l : List (Nat × Nat)) (cn : Nat → Nat) (al rf fX fY : Nat → Int32) (n : Nat) : Prop :=
  (al n = 1 ∧ rf n = nI (cn n + (if n = e then 1 else 0)) ∧ 1 ≤ cn n + (if n = e then 1 else 0) ∧ ∀ j, j < 3 → fX (3 * n + j) = fY (3 * n + j)) ∨
  (al n = 0 ∧ cn n + (if n = e then 1 else 0) = 0 ∧ ∀ j, j < 2 → fY (3 * n + j) ≠ 0 → ∃ q, (n, q) ∈ l ∧ q ≤ j)
def ac_wf (M : Nat) (al : Nat → Int32) : List (Nat × Nat) → Prop
  | [] => True
  | x :: l => (1 ≤ x.1 ∧ x.1 ≤ M ∧ al x.1 = 0 ∧ x.2 ≤ 2 ∧ ∀ y, y ∈ l → y.1 ≠ x.1) ∧ ac_wf M al l
def ac_MI (e : Nat) (l : List (Nat × Nat)) (g : Int32) (h lo : Nat → Int32) (d M : Nat) (al rf fX fY : Nat → Int32) (L E : Nat) : Prop :=
  (∀ n, 1 ≤ n → n ≤ M → ac_ob e l (ac_N g h lo d fY M) al rf fX fY n) ∧
  (∀ n, 1 ≤ n → n ≤ M → ∀ j, j < 3 → ∃ q, q ≤ M ∧ fY (3 * n + j) = nI q) ∧
  (∀ n, 1 ≤ n → n ≤ M → al n = 1 → ∀ q, 1 ≤ q → q ≤ M → fY (3 * n + 2) = nI q → al q = 1) ∧
  (∀ v, v < 6 * d → ∃ q, q ≤ M ∧ h v = nI q) ∧
  (∃ q, q ≤ M ∧ g = nI q) ∧ e ≤ M ∧
  (L = ad_ct (fun n => decide (al (n + 1) = 1)) M ∧ L + l.length ≤ 24 ∧ E + L = M ∧ M ≤ 300 ∧ d ≤ 6) ∧ ac_wf M al l
theorem ac_wf_al {M : Nat} {al al' : Nat → Int32} : ∀ l, ac_wf M al l → (∀ x, x ∈ l → al' x.1 = al x.1) → ac_wf M al' l := by
  intro l
  induction l with
  | nil => exact fun _ _ => True.intro
  | cons x l ih =>
    intro h e
    obtain ⟨⟨h1, h2, h3, h4, h5⟩, h6⟩ := h
    exact ⟨⟨h1, h2, (e x (List.mem_cons_self ..)).trans h3, h4, h5⟩, ih h6 (fun y hy => e y (List.mem_cons_of_mem _ hy))⟩
theorem ac_wf_mem {M : Nat} {al : Nat → Int32} : ∀ l, ac_wf M al l → ∀ x, x ∈ l → 1 ≤ x.1 ∧ x.1 ≤ M ∧ al x.1 = 0 := by
  intro l
  induction l with
  | nil => exact fun _ x hx => absurd hx (List.not_mem_nil)
  | cons x l ih =>
    intro h y hy
    obtain ⟨⟨h1, h2, h3, h4, h5⟩, h6⟩ := h
    rcases List.mem_cons.mp hy with e | hy
    · rw [e]; exact ⟨h1, h2, h3⟩
    · exact ih h6 y hy
section
variable {e : Nat} {l : List (Nat × Nat)} {g : Int32} {h lo : Nat → Int32} {d M : Nat} {al rf fX fY : Nat → Int32} {L E : Nat}
/-- what is in flight is alive -/
theorem ac_e_al (I : ac_MI e l g h lo d M al rf fX fY L E) (he : 1 ≤ e) : al e = 1 ∧ rf e = nI (ac_N g h lo d fY M e + 1) ∧ ∀ j, j < 3 → fX (3 * e + j) = fY (3 * e + j) := by
  rcases I.1 e he I.2.2.2.2.2.1 with ⟨a, b, c, f⟩ | ⟨a, b, c⟩
  · rw [if_pos rfl] at b
    exact ⟨a, b, f⟩
  · rw [if_pos rfl] at b
    omega
theorem ac_al01 (I : ac_MI e l g h lo d M al rf fX fY L E) {n : Nat} (h1 : 1 ≤ n) (h2 : n ≤ M) : al n = 0 ∨ al n = 1 := by
  rcases I.1 n h1 h2 with ⟨a, _⟩ | ⟨a, _⟩
  · exact Or.inr a
  · exact Or.inl a
/-- one less, and it does not end -/
theorem ac_dec (I : ac_MI e l g h lo d M al rf fX fY L E) (he : 1 ≤ e) (hc : 1 ≤ ac_N g h lo d fY M e) :
    ac_MI 0 l g h lo d M al (upd rf e (nI (ac_N g h lo d fY M e))) fX fY L E := by
  obtain ⟨I1, I2, I3, I4, I5, I6, I7, I8⟩ := I
  refine ⟨fun n h1 h2 => ?_, I2, I3, I4, I5, Nat.zero_le _, I7, I8⟩
  have hn0 : ¬ n = 0 := by omega
  rcases I1 n h1 h2 with ⟨a, b, c, f⟩ | ⟨a, b, c⟩
  · refine Or.inl ⟨a, ?_, ?_, f⟩
    · rw [if_neg hn0]
      by_cases en : n = e
      · subst en; rw [pk_us]; rfl
      · rw [pk_un en, b, if_neg en]
    · rw [if_neg hn0]
      by_cases en : n = e
      · subst en; exact hc
      · rw [if_neg en] at c; exact c
  · have en : ¬ n = e := fun z => by rw [if_pos z] at b; omega
    rw [if_neg en] at b
    exact Or.inr ⟨a, by rw [if_neg hn0]; exact b, c⟩
theorem ac_N_cl (n q : Nat) : ac_N g h lo d (ac_cl fY M q) M n = ac_N g h lo d fY M n := by
  unfold ac_N
  rw [ac_F_congr (f := fY) (f' := ac_cl fY M q) (fun q' j _ _ hj => ac_cl_01 hj)]
/-- one less, and it ends -/
theorem ac_end (I : ac_MI e l g h lo d M al rf fX fY L E) (he : 1 ≤ e) (hc : ac_N g h lo d fY M e = 0) (x : Int32) :
    1 ≤ L ∧ ac_MI 0 ((e, 0) :: l) g h lo d M (upd al e 0) (upd rf e x) (ac_cl fX M e) (ac_cl fY M e) (L - 1) (E + 1) := by
  obtain ⟨ae, _, fe⟩ := ac_e_al I he
  obtain ⟨I1, I2, I3, I4, I5, I6, ⟨I7, I8, I9, I10, I11⟩, I12⟩ := I
  have hL : ad_ct (fun n => decide (upd al e 0 (n + 1) = 1)) M + 1 = ad_ct (fun n => decide (al (n + 1) = 1)) M := by
    have e1 := ad_ct_one (p := fun n => decide (al (n + 1) = 1)) (q := fun n => decide (upd al e 0 (n + 1) = 1)) (x := e - 1) M (by omega)
      (fun i _ hi => by show decide (upd al e 0 (i + 1) = 1) = _; rw [pk_un (by omega)])
    have e2 : e - 1 + 1 = e := by omega
    simp only [e2, pk_us, ae, ac_if1] at e1
    exact e1
  refine ⟨by omega, fun n h1 h2 => ?_, fun n h1 h2 j hj => ?_, fun n h1 h2 ha q q1 q2 eq => ?_, I4, I5, Nat.zero_le _, ⟨by omega, ?_, by omega, I10, I11⟩, ?_⟩
  · have hn0 : ¬ n = 0 := by omega
    by_cases en : n = e
    · subst en
      exact Or.inr ⟨pk_us, by rw [if_neg hn0, ac_N_cl, hc], fun j _ _ => ⟨0, List.mem_cons_self .., Nat.zero_le _⟩⟩
    · rcases I1 n h1 h2 with ⟨a, b, c, f⟩ | ⟨a, b, c⟩
      · rw [if_neg en] at b c
        refine Or.inl ⟨by rw [pk_un en]; exact a, by rw [pk_un en, if_neg hn0, ac_N_cl]; exact b, by rw [if_neg hn0, ac_N_cl]; exact c, fun j hj => ?_⟩
        by_cases j2 : j < 2
        · rw [ac_cl_01 j2, ac_cl_01 j2]; exact f j hj
        · have ej : j = 2 := by omega
          subst ej
          rw [ac_cl_2 h1 h2, ac_cl_2 h1 h2, f 2 hj]
      · rw [if_neg en] at b
        refine Or.inr ⟨by rw [pk_un en]; exact a, by rw [if_neg hn0, ac_N_cl]; exact b, fun j hj hz => ?_⟩
        rw [ac_cl_01 hj] at hz
        obtain ⟨q, hq, hq'⟩ := c j hj hz
        exact ⟨q, List.mem_cons_of_mem _ hq, hq'⟩
  · by_cases j2 : j < 2
    · rw [ac_cl_01 j2]; exact I2 n h1 h2 j hj
    · have ej : j = 2 := by omega
      subst ej
      rw [ac_cl_2 h1 h2]
      split
      · exact ⟨0, Nat.zero_le _, rfl⟩
      · exact I2 n h1 h2 2 hj
  · have en : n ≠ e := fun z => by rw [z, pk_us] at ha; exact absurd ha (by decide)
    rw [pk_un en] at ha
    rw [ac_cl_2 h1 h2] at eq
    have eq0 : ¬ (0 : Int32) = nI q := fun z => nI_ne0 q1 (by omega) z.symm
    by_cases ez : fY (3 * n + 2) = nI e
    · rw [if_pos ez] at eq; exact absurd eq eq0
    · rw [if_neg ez] at eq
      have qe : q ≠ e := fun z => ez (by rw [← z]; exact eq)
      rw [pk_un qe]
      exact I3 n h1 h2 ha q q1 q2 eq
  · show L - 1 + (l.length + 1) ≤ 24
    omega
  · refine ⟨⟨he, I6, pk_us, Nat.zero_le _, fun y hy z => ?_⟩, ac_wf_al l I12 (fun y hy => pk_un (fun z => ?_))⟩
    · have := (ac_wf_mem l I12 y hy).2.2
      rw [z, ae] at this; exact absurd this (by decide)
    · have := (ac_wf_mem l I12 y hy).2.2
      rw [z, ae] at this; exact absurd this (by decide)
end
theorem ac_N_fupd {f : Nat → Int32} {g : Int32} {h lo : Nat → Int32} {d M q j y n : Nat} (h1 : 1 ≤ q) (h2 : q ≤ M) (hj : j < 2) (hM : M ≤ 300) (hy : y ≤ M) (e : f (3 * q + j) = nI y) (x : Nat) (hx : x ≤ M) (n1 : 1 ≤ n) (n2 : n ≤ M) :
    ac_N g h lo d (upd f (3 * q + j) (nI x)) M n + (if n = y then 1 else 0) = ac_N g h lo d f M n + (if n = x then 1 else 0) := by
  have e1 := ac_F_upd (f := f) h1 h2 hj (nI x) n
  rw [e] at e1
  have a : (nI y = nI n) = (n = y) := propext ((nI_eq (by omega) (by omega)).trans ⟨Eq.symm, Eq.symm⟩)
  have b : (nI x = nI n) = (n = x) := propext ((nI_eq (by omega) (by omega)).trans ⟨Eq.symm, Eq.symm⟩)
  simp only [a, b] at e1
  unfold ac_N
  omega
section
variable {e : Nat} {l : List (Nat × Nat)} {g : Int32} {h lo : Nat → Int32} {d M : Nat} {al rf fX fY : Nat → Int32} {L E : Nat}
/-- the next field of an object that ends -/
theorem ac_nxt {q p y : Nat} (I : ac_MI 0 ((q, p) :: l) g h lo d M al rf fX fY L E) (hp : p < 2) (ey : fY (3 * q + p) = nI y) (hy : y ≤ M) :
    ac_MI y ((q, p + 1) :: l) g h lo d M al rf fX (upd fY (3 * q + p) 0) L E := by
  obtain ⟨I1, I2, I3, I4, I5, I6, ⟨I7, I8, I9, I10, I11⟩, ⟨⟨W1, W2, W3, W4, W5⟩, W6⟩⟩ := I
  dsimp only at W1 W2 W3 W4 W5
  have cn : ∀ n, 1 ≤ n → n ≤ M → ac_N g h lo d (upd fY (3 * q + p) 0) M n + (if n = y then 1 else 0) = ac_N g h lo d fY M n := by
    intro n h1 h2
    have := ac_N_fupd (g := g) (h := h) (lo := lo) (d := d) W1 W2 hp I10 hy ey 0 (Nat.zero_le _) h1 h2
    rw [if_neg (show ¬ n = 0 by omega)] at this
    exact this
  refine ⟨fun n h1 h2 => ?_, fun n h1 h2 j hj => ?_, fun n h1 h2 ha r r1 r2 er => ?_, I4, I5, hy, ⟨I7, I8, I9, I10, I11⟩, ⟨⟨W1, W2, W3, by show p + 1 ≤ 2; omega, W5⟩, W6⟩⟩
  · have hn0 : ¬ n = 0 := by omega
    rcases I1 n h1 h2 with ⟨a, b, c, f⟩ | ⟨a, b, c⟩
    · rw [if_neg hn0] at b c
      have nq : n ≠ q := fun z => by rw [z, W3] at a; exact absurd a (by decide)
      refine Or.inl ⟨a, by rw [cn n h1 h2]; exact b, by rw [cn n h1 h2]; exact c, fun j hj => ?_⟩
      rw [pk_un (by omega)]
      exact f j hj
    · rw [if_neg hn0] at b
      refine Or.inr ⟨a, by rw [cn n h1 h2]; exact b, fun j hj hz => ?_⟩
      by_cases ex : 3 * n + j = 3 * q + p
      · rw [ex, pk_us] at hz; exact absurd rfl hz
      · rw [pk_un ex] at hz
        obtain ⟨r, hr, hr'⟩ := c j hj hz
        rcases List.mem_cons.mp hr with z | z
        · have z1 : n = q := congrArg Prod.fst z
          have z2 : r = p := congrArg Prod.snd z
          subst z1
          exact ⟨p + 1, List.mem_cons_self .., by omega⟩
        · exact ⟨r, List.mem_cons_of_mem _ z, hr'⟩
  · by_cases ex : 3 * n + j = 3 * q + p
    · rw [ex, pk_us]; exact ⟨0, Nat.zero_le _, rfl⟩
    · rw [pk_un ex]; exact I2 n h1 h2 j hj
  · rw [pk_un (by omega)] at er
    exact I3 n h1 h2 ha r r1 r2 er
theorem ac_pop {q : Nat} (I : ac_MI 0 ((q, 2) :: l) g h lo d M al rf fX fY L E) : ac_MI 0 l g h lo d M al rf fX fY L E := by
  obtain ⟨I1, I2, I3, I4, I5, I6, ⟨I7, I8, I9, I10, I11⟩, ⟨_, W6⟩⟩ := I
  have I8' : L + (l.length + 1) ≤ 24 := I8
  refine ⟨fun n h1 h2 => ?_, I2, I3, I4, I5, I6, ⟨I7, by omega, I9, I10, I11⟩, W6⟩
  rcases I1 n h1 h2 with a | ⟨a, b, c⟩
  · exact Or.inl a
  · refine Or.inr ⟨a, b, fun j hj hz => ?_⟩
    obtain ⟨r, hr, hr'⟩ := c j hj hz
    rcases List.mem_cons.mp hr with z | z
    · have z2 : r = 2 := congrArg Prod.snd z
      omega
    · exact ⟨r, z, hr'⟩
end
/-! the two stacks -/
def ac_td (td ph : Nat → Int32) : List (Nat × Nat) → Prop
  | [] => True
  | x :: l => (td l.length = nI x.1 ∧ ph l.length = nI x.2) ∧ ac_td td ph l
def ac_pe (pe : Nat → Int32) : List Int32 → Prop
  | [] => True
  | x :: l => pe l.length = x ∧ ac_pe pe l
def ac_rm (f : Nat → Int32) : List (Nat × Nat) → List Int32
  | [] => []
  | x :: l => match x.2 with
    | 0 => f (3 * x.1) :: f (3 * x.1 + 1) :: ac_rm f l
    | 1 => f (3 * x.1 + 1) :: ac_rm f l
    | _ => ac_rm f l
theorem ac_td_u {td ph : Nat → Int32} {k k' : Nat} {x y : Int32} : ∀ l, ac_td td ph l → l.length ≤ k → l.length ≤ k' → ac_td (upd td k x) (upd ph k' y) l := by
  intro l
  induction l with
  | nil => exact fun _ _ _ => True.intro
  | cons a l ih =>
    intro h hk hk'
    have hk1 : l.length + 1 ≤ k := hk
    have hk2 : l.length + 1 ≤ k' := hk'
    exact ⟨⟨by rw [pk_un (by omega)]; exact h.1.1, by rw [pk_un (by omega)]; exact h.1.2⟩, ih h.2 (by omega) (by omega)⟩
theorem ac_td_up {td ph : Nat → Int32} {k' : Nat} {y : Int32} : ∀ l, ac_td td ph l → l.length ≤ k' → ac_td td (upd ph k' y) l := by
  intro l
  induction l with
  | nil => exact fun _ _ => True.intro
  | cons a l ih =>
    intro h hk'
    have hk2 : l.length + 1 ≤ k' := hk'
    exact ⟨⟨h.1.1, by rw [pk_un (by omega)]; exact h.1.2⟩, ih h.2 (by omega)⟩
theorem ac_pe_u {pe : Nat → Int32} {k : Nat} {x : Int32} : ∀ l, ac_pe pe l → l.length ≤ k → ac_pe (upd pe k x) l := by
  intro l
  induction l with
  | nil => exact fun _ _ => True.intro
  | cons a l ih =>
    intro h hk
    have hk1 : l.length + 1 ≤ k := hk
    exact ⟨by rw [pk_un (by omega)]; exact h.1, ih h.2 (by omega)⟩
theorem ac_rm_congr {f f' : Nat → Int32} : ∀ l : List (Nat × Nat), (∀ x, x ∈ l → ∀ j, j < 2 → f' (3 * x.1 + j) = f (3 * x.1 + j)) → ac_rm f' l = ac_rm f l := by
  intro l
  induction l with
  | nil => exact fun _ => rfl
  | cons a l ih =>
    intro h
    have h0 := h a (List.mem_cons_self ..) 0 (by decide)
    have h1 := h a (List.mem_cons_self ..) 1 (by decide)
    have h2 := ih (fun x hx => h x (List.mem_cons_of_mem _ hx))
    obtain ⟨q, p⟩ := a
    rcases p with _ | _ | p
    · show f' (3 * q) :: f' (3 * q + 1) :: ac_rm f' l = _
      rw [h2]
      show f' (3 * q + 0) :: f' (3 * q + 1) :: _ = _
      rw [h0, h1]; rfl
    · show f' (3 * q + 1) :: ac_rm f' l = _
      rw [h2, h1]; rfl
    · exact h2
theorem ac_rm_len (f : Nat → Int32) : ∀ l, (ac_rm f l).length ≤ 2 * l.length := by
  intro l
  induction l with
  | nil => exact Nat.le_refl 0
  | cons a l ih =>
    obtain ⟨q, p⟩ := a
    rcases p with _ | _ | p
    · show (ac_rm f l).length + 1 + 1 ≤ 2 * (l.length + 1); omega
    · show (ac_rm f l).length + 1 ≤ 2 * (l.length + 1); omega
    · show (ac_rm f l).length ≤ 2 * (l.length + 1); omega
/-- what is left to do of the objects that end -/
def ac_mu : List (Nat × Nat) → Nat
  | [] => 0
  | x :: l => (3 - x.2) + ac_mu l
end
section
section
variable {e : Nat} {l : List (Nat × Nat)} {g : Int32} {h lo : Nat → Int32} {d M : Nat} {al rf fX fY : Nat → Int32} {L E : Nat}
theorem ac_tr (I : ac_MI e [] g h lo d M al rf fX fY L E) {e' : Nat} {g' : Int32} {h' lo' : Nat → Int32} {d' : Nat}
    (hN : ∀ n, 1 ≤ n → n ≤ M → ac_N g' h' lo' d' fY M n + (if n = e' then 1 else 0) = ac_N g h lo d fY M n + (if n = e then 1 else 0))
    (hh : ∀ v, v < 6 * d' → ∃ q, q ≤ M ∧ h' v = nI q) (hg : ∃ q, q ≤ M ∧ g' = nI q) (he : e' ≤ M) (hd : d' ≤ 6) :
    ac_MI e' [] g' h' lo' d' M al rf fX fY L E := by
  obtain ⟨I1, I2, I3, I4, I5, I6, ⟨I7, I8, I9, I10, I11⟩, I12⟩ := I
  refine ⟨fun n h1 h2 => ?_, I2, I3, hh, hg, he, ⟨I7, I8, I9, I10, hd⟩, I12⟩
  rcases I1 n h1 h2 with ⟨a, b, c, f⟩ | ⟨a, b, c⟩
  · exact Or.inl ⟨a, by rw [hN n h1 h2]; exact b, by rw [hN n h1 h2]; exact c, f⟩
  · exact Or.inr ⟨a, by rw [hN n h1 h2]; exact b, c⟩
/-- counted, hence alive -/
theorem ac_alive (I : ac_MI e l g h lo d M al rf fX fY L E) {n : Nat} (h1 : 1 ≤ n) (h2 : n ≤ M) (hc : 1 ≤ ac_N g h lo d fY M n) : al n = 1 := by
  rcases I.1 n h1 h2 with ⟨a, _⟩ | ⟨a, b, c⟩
  · exact a
  · omega
theorem ac_al_V (I : ac_MI e l g h lo d M al rf fX fY L E) {v n : Nat} (h1 : 1 ≤ n) (h2 : n ≤ M) (hv : v < 6 * d) (eh : h v = nI n) (el : lo v = 0) : al n = 1 :=
  ac_alive I h1 h2 (by have := ac_V_pos hv eh el; unfold ac_N; omega)
theorem ac_al_F (I : ac_MI e l g h lo d M al rf fX fY L E) {q j n : Nat} (h1 : 1 ≤ n) (h2 : n ≤ M) (q1 : 1 ≤ q) (q2 : q ≤ M) (hj : j < 2) (ef : fY (3 * q + j) = nI n) : al n = 1 :=
  ac_alive I h1 h2 (by have := ac_F_pos q1 q2 hj ef; unfold ac_N; omega)
theorem ac_fld (I : ac_MI e l g h lo d M al rf fX fY L E) {n j : Nat} (h1 : 1 ≤ n) (h2 : n ≤ M) (ha : al n = 1) (hj : j < 3) : fX (3 * n + j) = fY (3 * n + j) := by
  rcases I.1 n h1 h2 with ⟨a, b, c, f⟩ | ⟨a, b, c⟩
  · exact f j hj
  · rw [a] at ha; exact absurd ha (by decide)
theorem ac_rf (I : ac_MI 0 l g h lo d M al rf fX fY L E) {n : Nat} (h1 : 1 ≤ n) (h2 : n ≤ M) (ha : al n = 1) : rf n = nI (ac_N g h lo d fY M n) ∧ 1 ≤ ac_N g h lo d fY M n := by
  rcases I.1 n h1 h2 with ⟨a, b, c, f⟩ | ⟨a, b, c⟩
  · rw [if_neg (by omega)] at b c
    exact ⟨b, c⟩
  · rw [a] at ha; exact absurd ha (by decide)
/-- a field of what is alive holds nothing, or what is alive -/
theorem ac_al_F3 (I : ac_MI e l g h lo d M al rf fX fY L E) {q j n : Nat} (h1 : 1 ≤ n) (h2 : n ≤ M) (q1 : 1 ≤ q) (q2 : q ≤ M) (ha : al q = 1) (hj : j < 3) (ef : fY (3 * q + j) = nI n) : al n = 1 := by
  by_cases j2 : j < 2
  · exact ac_al_F I h1 h2 q1 q2 j2 ef
  · have ej : j = 2 := by omega
    subst ej
    exact I.2.2.1 q q1 q2 ha n h1 h2 ef
theorem ac_ifn {M n q : Nat} (hM : M ≤ 300) (h2 : n ≤ M) (hq : q ≤ M) : (nI q = nI n) = (n = q) := propext ((nI_eq (by omega) (by omega)).trans ⟨Eq.symm, Eq.symm⟩)
theorem ac_ife {n q : Nat} (c : Prop) [Decidable c] (h1 : 1 ≤ n) : (if n = (if c then q else 0) then 1 else 0 : Nat) = if n = q ∧ c then 1 else 0 := by
  by_cases h : c
  · rw [if_pos h]
    by_cases e : n = q
    · rw [if_pos e, if_pos ⟨e, h⟩]
    · rw [if_neg e, if_neg (fun z => e z.1)]
  · rw [if_neg h, if_neg (show ¬ n = 0 by omega), if_neg (fun z => h z.2)]
/-- a variable gets x (counted, in flight, or lent): what was there is in flight then -/
theorem ac_store {v x q : Nat} (y : Int32) (I : ac_MI (if y = 0 then x else 0) [] g h lo d M al rf fX fY L E) (hv : v < 6 * d) (hx : x ≤ M) (eq : h v = nI q) (hq : q ≤ M) :
    ac_MI (if lo v = 0 then q else 0) [] g (upd h v (nI x)) (upd lo v y) d M al rf fX fY L E := by
  obtain ⟨I1, I2, I3, I4, I5, I6, ⟨I7, I8, I9, I10, I11⟩, I12⟩ := id I
  refine ac_tr I (fun n h1 h2 => ?_) (fun w hw => ?_) I5 (by split <;> omega) I11
  · have e1 := ac_V_upd (h := h) (l := lo) hv (nI x) y n
    rw [eq] at e1
    simp only [ac_ifn I10 h2 hq, ac_ifn I10 h2 hx] at e1
    rw [ac_ife (lo v = 0) h1, ac_ife (y = 0) h1]
    unfold ac_N
    omega
  · by_cases ew : w = v
    · subst ew; rw [pk_us]; exact ⟨x, hx, rfl⟩
    · rw [pk_un ew]; exact I4 w hw
/-- handed over: what b held is in flight -/
theorem ac_hand {b q : Nat} (I : ac_MI 0 [] g h lo d M al rf fX fY L E) (hb : b < 6 * d) (eq : h b = nI q) (hq : q ≤ M) (el : lo b = 0) :
    ac_MI q [] g (upd h b 0) lo d M al rf fX fY L E := by
  have := ac_store (x := 0) (0 : Int32) (I := by rw [if_pos rfl]; exact I) hb (Nat.zero_le _) eq hq
  rw [if_pos el, ad_updS lo b 0 el] at this
  exact this
/-- one counted reference more, in flight -/
theorem ac_up {n : Nat} (I : ac_MI 0 [] g h lo d M al rf fX fY L E) (h1 : 1 ≤ n) (h2 : n ≤ M) (ha : al n = 1) :
    ac_MI n [] g h lo d M al (upd rf n (rf n + 1)) fX fY L E := by
  obtain ⟨I1, I2, I3, I4, I5, I6, I7, I8⟩ := I
  refine ⟨fun k k1 k2 => ?_, I2, I3, I4, I5, h2, I7, I8⟩
  have k0 : ¬ k = 0 := by omega
  rcases I1 k k1 k2 with ⟨a, b, c, f⟩ | ⟨a, b, c⟩
  · rw [if_neg k0] at b c
    refine Or.inl ⟨a, ?_, by omega, f⟩
    by_cases ek : k = n
    · subst ek; rw [pk_us, if_pos rfl, b, nI_1]
    · rw [pk_un ek, if_neg ek]; exact b
  · rw [if_neg k0] at b
    have ek : ¬ k = n := fun z => by rw [z, ha] at a; exact absurd a (by decide)
    exact Or.inr ⟨a, by rw [if_neg ek]; exact b, c⟩
/-- field j < 2 of q gets x (in flight): what was there is in flight then -/
theorem ac_put {q j x y : Nat} (I : ac_MI x [] g h lo d M al rf fX fY L E) (q1 : 1 ≤ q) (q2 : q ≤ M) (hq : al q = 1) (hj : j < 2) (hx : x ≤ M) (ey : fY (3 * q + j) = nI y) (hy : y ≤ M) :
    ac_MI y [] g h lo d M al rf (upd fX (3 * q + j) (nI x)) (upd fY (3 * q + j) (nI x)) L E := by
  obtain ⟨I1, I2, I3, I4, I5, I6, ⟨I7, I8, I9, I10, I11⟩, I12⟩ := I
  have hN : ∀ n, 1 ≤ n → n ≤ M → ac_N g h lo d (upd fY (3 * q + j) (nI x)) M n + (if n = y then 1 else 0) = ac_N g h lo d fY M n + (if n = x then 1 else 0) :=
    fun n h1 h2 => ac_N_fupd q1 q2 hj I10 hy ey x hx h1 h2
  refine ⟨fun n h1 h2 => ?_, fun n h1 h2 i hi => ?_, fun n h1 h2 ha r r1 r2 er => ?_, I4, I5, hy, ⟨I7, I8, I9, I10, I11⟩, I12⟩
  · rcases I1 n h1 h2 with ⟨a, b, c, f⟩ | ⟨a, b, c⟩
    · refine Or.inl ⟨a, by rw [hN n h1 h2]; exact b, by rw [hN n h1 h2]; exact c, fun i hi => ?_⟩
      by_cases ei : 3 * n + i = 3 * q + j
      · rw [ei, pk_us, pk_us]
      · rw [pk_un ei, pk_un ei]; exact f i hi
    · have nq : n ≠ q := fun z => by rw [z, hq] at a; exact absurd a (by decide)
      refine Or.inr ⟨a, by rw [hN n h1 h2]; exact b, fun i hi hz => ?_⟩
      rw [pk_un (by omega)] at hz
      exact c i hi hz
  · by_cases ei : 3 * n + i = 3 * q + j
    · rw [ei, pk_us]; exact ⟨x, hx, rfl⟩
    · rw [pk_un ei]; exact I2 n h1 h2 i hi
  · rw [pk_un (by omega)] at er
    exact I3 n h1 h2 ha r r1 r2 er
/-- FIELD 2 of q gets x -/
theorem ac_put2 {q x : Nat} (I : ac_MI e [] g h lo d M al rf fX fY L E) (q1 : 1 ≤ q) (q2 : q ≤ M) (hq : al q = 1) (hx : x ≤ M) (ax : 1 ≤ x → al x = 1) :
    ac_MI e [] g h lo d M al rf (upd fX (3 * q + 2) (nI x)) (upd fY (3 * q + 2) (nI x)) L E := by
  obtain ⟨I1, I2, I3, I4, I5, I6, ⟨I7, I8, I9, I10, I11⟩, I12⟩ := I
  have hN : ∀ n, ac_N g h lo d (upd fY (3 * q + 2) (nI x)) M n = ac_N g h lo d fY M n := fun n => by
    unfold ac_N
    rw [ac_F_congr (f := fY) (fun q' j _ _ hj => pk_un (by omega))]
  refine ⟨fun n h1 h2 => ?_, fun n h1 h2 i hi => ?_, fun n h1 h2 ha r r1 r2 er => ?_, I4, I5, I6, ⟨I7, I8, I9, I10, I11⟩, I12⟩
  · rcases I1 n h1 h2 with ⟨a, b, c, f⟩ | ⟨a, b, c⟩
    · refine Or.inl ⟨a, by rw [hN]; exact b, by rw [hN]; exact c, fun i hi => ?_⟩
      by_cases ei : 3 * n + i = 3 * q + 2
      · rw [ei, pk_us, pk_us]
      · rw [pk_un ei, pk_un ei]; exact f i hi
    · refine Or.inr ⟨a, by rw [hN]; exact b, fun i hi hz => ?_⟩
      rw [pk_un (by omega)] at hz
      exact c i hi hz
  · by_cases ei : 3 * n + i = 3 * q + 2
    · rw [ei, pk_us]; exact ⟨x, hx, rfl⟩
    · rw [pk_un ei]; exact I2 n h1 h2 i hi
  · by_cases en : n = q
    · subst en
      rw [pk_us] at er
      have : x = r := (nI_eq (by omega) (by omega)).mp er
      subst this
      exact ax r1
    · rw [pk_un (by omega)] at er
      exact I3 n h1 h2 ha r r1 r2 er
/-- a field j < 2 of q, empty yet, gets x, counted -/
theorem ac_put0 {q j x : Nat} (I : ac_MI e [] g h lo d M al rf fX fY L E) (q1 : 1 ≤ q) (q2 : q ≤ M) (hq : al q = 1) (hj : j < 2) (x1 : 1 ≤ x) (hx : x ≤ M) (ax : al x = 1) (ey : fY (3 * q + j) = 0) :
    ac_MI e [] g h lo d M al (upd rf x (rf x + 1)) (upd fX (3 * q + j) (nI x)) (upd fY (3 * q + j) (nI x)) L E := by
  obtain ⟨I1, I2, I3, I4, I5, I6, ⟨I7, I8, I9, I10, I11⟩, I12⟩ := I
  have hN : ∀ n, 1 ≤ n → n ≤ M → ac_N g h lo d (upd fY (3 * q + j) (nI x)) M n = ac_N g h lo d fY M n + (if n = x then 1 else 0) := by
    intro n h1 h2
    have := ac_N_fupd (g := g) (h := h) (lo := lo) (d := d) q1 q2 hj I10 (Nat.zero_le M) (y := 0) ey x hx h1 h2
    rw [if_neg (show ¬ n = 0 by omega)] at this
    exact this
  refine ⟨fun n h1 h2 => ?_, fun n h1 h2 i hi => ?_, fun n h1 h2 ha r r1 r2 er => ?_, I4, I5, I6, ⟨I7, I8, I9, I10, I11⟩, I12⟩
  · rcases I1 n h1 h2 with ⟨a, b, c, f⟩ | ⟨a, b, c⟩
    · refine Or.inl ⟨a, ?_, by rw [hN n h1 h2]; omega, fun i hi => ?_⟩
      · rw [hN n h1 h2]
        by_cases en : n = x
        · subst en
          rw [pk_us, b, if_pos rfl, nI_1]
          exact congrArg nI (by omega)
        · rw [pk_un en, b, if_neg en]; rfl
      · by_cases ei : 3 * n + i = 3 * q + j
        · rw [ei, pk_us, pk_us]
        · rw [pk_un ei, pk_un ei]; exact f i hi
    · have nx : ¬ n = x := fun z => by rw [z, ax] at a; exact absurd a (by decide)
      have nq : n ≠ q := fun z => by rw [z, hq] at a; exact absurd a (by decide)
      refine Or.inr ⟨a, by rw [hN n h1 h2, if_neg nx]; omega, fun i hi hz => ?_⟩
      rw [pk_un (by omega)] at hz
      exact c i hi hz
  · by_cases ei : 3 * n + i = 3 * q + j
    · rw [ei, pk_us]; exact ⟨x, hx, rfl⟩
    · rw [pk_un ei]; exact I2 n h1 h2 i hi
  · rw [pk_un (by omega)] at er
    exact I3 n h1 h2 ha r r1 r2 er
/-- a new object, in flight -/
theorem ac_new (I : ac_MI 0 [] g h lo d M al rf fX fY L E) (hL : L < 24) (hM : M < 300) (fX' fY' : Nat → Int32)
    (hX : ∀ x, x < 3 * (M + 1) → fX' x = fX x) (hY : ∀ x, x < 3 * (M + 1) → fY' x = fY x) (zX : ∀ j, j < 3 → fX' (3 * (M + 1) + j) = 0) (zY : ∀ j, j < 3 → fY' (3 * (M + 1) + j) = 0) :
    ac_MI (M + 1) [] g h lo d (M + 1) (upd al (M + 1) 1) (upd rf (M + 1) 1) fX' fY' (L + 1) E := by
  obtain ⟨I1, I2, I3, I4, I5, I6, ⟨I7, I8, I9, I10, I11⟩, I12⟩ := I
  have z0 : ∀ n, 1 ≤ n → n ≤ 300 → ¬ (0 : Int32) = nI n := fun n h1 h2 z => nI_ne0 h1 (by omega) z.symm
  have hF : ∀ n, ac_F fY' M n = ac_F fY M n := fun n => ac_F_congr (fun q j q1 q2 hj => hY _ (by omega))
  have hN : ∀ n, 1 ≤ n → n ≤ M + 1 → ac_N g h lo d fY' (M + 1) n = ac_N g h lo d fY M n := by
    intro n h1 h2
    have a := zY 0 (by decide)
    have b := zY 1 (by decide)
    rw [Nat.add_zero] at a
    unfold ac_N
    rw [ac_F_succ, hF, a, b, if_neg (z0 n h1 (by omega))]
    omega
  have hN1 : ac_N g h lo d fY M (M + 1) = 0 := by
    obtain ⟨q, hq, eg⟩ := I5
    have a : ac_V h lo d (M + 1) = 0 := ad_ct_none _ (fun v hv => by
      obtain ⟨q, hq, eq⟩ := I4 v hv
      have : ¬ h v = nI (M + 1) := by rw [eq, nI_eq (by omega) (by omega)]; omega
      simp [this])
    have b : ac_F fY M (M + 1) = 0 := ad_ct_none _ (fun x hx => by
      obtain ⟨q, hq, eq⟩ := I2 (x / 2 + 1) (by omega) (by omega) (x % 2) (by omega)
      have : ¬ fY (3 * (x / 2 + 1) + x % 2) = nI (M + 1) := by rw [eq, nI_eq (by omega) (by omega)]; omega
      simp [this])
    unfold ac_N
    rw [a, b, eg, if_neg (by rw [nI_eq (by omega) (by omega)]; omega)]
  have hLn : ad_ct (fun n => decide (upd al (M + 1) 1 (n + 1) = 1)) (M + 1) = L + 1 := by
    rw [ad_ct_succ, pk_us, if_pos (by decide), ad_ct_congr (q := fun n => decide (al (n + 1) = 1)) M (fun i hi => by rw [pk_un (by omega)]), ← I7]
  refine ⟨fun n h1 h2 => ?_, fun n h1 h2 j hj => ?_, fun n h1 h2 ha q q1 q2 eq => ?_, fun v hv => ?_, ?_, Nat.le_refl _, ⟨hLn.symm, ?_, by omega, by omega, I11⟩, True.intro⟩
  · rw [show ac_ob (M + 1) [] (ac_N g h lo d fY' (M + 1)) (upd al (M + 1) 1) (upd rf (M + 1) 1) fX' fY' n = ((upd al (M + 1) 1 n = 1 ∧ upd rf (M + 1) 1 n = nI (ac_N g h lo d fY' (M + 1) n + (if n = M + 1 then 1 else 0)) ∧ 1 ≤ ac_N g h lo d fY' (M + 1) n + (if n = M + 1 then 1 else 0) ∧ ∀ j, j < 3 → fX' (3 * n + j) = fY' (3 * n + j)) ∨
      (upd al (M + 1) 1 n = 0 ∧ ac_N g h lo d fY' (M + 1) n + (if n = M + 1 then 1 else 0) = 0 ∧ ∀ j, j < 2 → fY' (3 * n + j) ≠ 0 → ∃ q, (n, q) ∈ ([] : List (Nat × Nat)) ∧ q ≤ j)) from rfl, hN n h1 h2]
    by_cases en : n = M + 1
    · subst en
      rw [pk_us, pk_us, hN1, if_pos rfl]
      exact Or.inl ⟨rfl, rfl, Nat.le_refl _, fun j hj => by rw [zX j hj, zY j hj]⟩
    · rw [pk_un en, pk_un en, if_neg en]
      rcases I1 n h1 (by omega) with ⟨a, b, c, f⟩ | ⟨a, b, c⟩
      · rw [if_neg (by omega)] at b c
        exact Or.inl ⟨a, b, c, fun j hj => by rw [hX _ (by omega), hY _ (by omega)]; exact f j hj⟩
      · rw [if_neg (by omega)] at b
        exact Or.inr ⟨a, b, fun j hj hz => c j hj (by rw [hY _ (by omega)] at hz; exact hz)⟩
  · by_cases en : n = M + 1
    · subst en; rw [zY j hj]; exact ⟨0, Nat.zero_le _, rfl⟩
    · rw [hY _ (by omega)]
      obtain ⟨q, hq, eq⟩ := I2 n h1 (by omega) j hj
      exact ⟨q, by omega, eq⟩
  · by_cases en : n = M + 1
    · subst en
      rw [zY 2 (by decide)] at eq
      exact absurd eq (z0 q q1 (by omega))
    · rw [pk_un en] at ha
      rw [hY _ (by omega)] at eq
      obtain ⟨r, hr, er⟩ := I2 n h1 (by omega) 2 (by decide)
      have : q = r := (nI_eq (by omega) (by omega)).mp (eq.symm.trans er)
      rw [pk_un (by omega)]
      exact I3 n h1 (by omega) ha q q1 (by omega) eq
  · obtain ⟨q, hq, eq⟩ := I4 v hv
    exact ⟨q, by omega, eq⟩
  · obtain ⟨q, hq, eq⟩ := I5
    exact ⟨q, by omega, eq⟩
  · show L + 1 + 0 ≤ 24
    omega
/-- a new frame: VARIABLE 0 gets x -/
theorem ac_ent {x : Nat} (y : Int32) (I : ac_MI (if y = 0 then x else 0) [] g h lo d M al rf fX fY L E) (hd : d < 6) (hx : x ≤ M) (h' lo' : Nat → Int32)
    (e1 : ∀ v, v < 6 * d → h' v = h v ∧ lo' v = lo v) (e2 : h' (6 * d) = nI x ∧ lo' (6 * d) = y) (e3 : ∀ j, 1 ≤ j → j < 6 → h' (6 * d + j) = 0) :
    ac_MI 0 [] g h' lo' (d + 1) M al rf fX fY L E := by
  obtain ⟨I1, I2, I3, I4, I5, I6, ⟨I7, I8, I9, I10, I11⟩, I12⟩ := id I
  refine ac_tr I (fun n h1 h2 => ?_) (fun w hw => ?_) I5 (Nat.zero_le _) (by omega)
  · have z0 : ¬ (0 : Int32) = nI n := fun z => nI_ne0 h1 (by omega) z.symm
    have a := ac_V_succ h' lo' d n
    rw [ac_V_congr e1, e2.1, e2.2, e3 1 (by omega) (by omega), e3 2 (by omega) (by omega), e3 3 (by omega) (by omega), e3 4 (by omega) (by omega), e3 5 (by omega) (by omega)] at a
    simp only [ac_ifn I10 h2 hx] at a
    simp only [z0, false_and, if_false, Nat.add_zero] at a
    rw [ac_ife (y = 0) h1, if_neg (show ¬ n = 0 by omega)]
    unfold ac_N
    omega
  · by_cases c : w < 6 * d
    · rw [(e1 w c).1]; exact I4 w c
    · by_cases c' : w = 6 * d
      · rw [c', e2.1]; exact ⟨x, hx, rfl⟩
      · have := e3 (w - 6 * d) (by omega) (by omega)
        rw [show 6 * d + (w - 6 * d) = w by omega] at this
        rw [this]; exact ⟨0, Nat.zero_le _, rfl⟩
/-- the frame is empty, and goes -/
theorem ac_lea (I : ac_MI 0 [] g h lo (d + 1) M al rf fX fY L E) (e3 : ∀ j, j < 6 → h (6 * d + j) = 0) :
    ac_MI 0 [] g h lo d M al rf fX fY L E := by
  obtain ⟨I1, I2, I3, I4, I5, I6, ⟨I7, I8, I9, I10, I11⟩, I12⟩ := id I
  refine ac_tr I (fun n h1 h2 => ?_) (fun w hw => I4 w (by omega)) I5 (Nat.zero_le _) (by omega)
  have z0 : ¬ (0 : Int32) = nI n := fun z => nI_ne0 h1 (by omega) z.symm
  have a := ac_V_succ h lo d n
  have b := e3 0 (by omega)
  rw [Nat.add_zero] at b
  rw [b, e3 1 (by omega), e3 2 (by omega), e3 3 (by omega), e3 4 (by omega), e3 5 (by omega)] at a
  simp [z0] at a
  unfold ac_N
  omega
/-- what is given is in flight, or back -/
theorem ac_giv {x : Nat} (I : ac_MI x [] 0 h lo d M al rf fX fY L E) (hx : x ≤ M) : ac_MI 0 [] (nI x) h lo d M al rf fX fY L E := by
  obtain ⟨I1, I2, I3, I4, I5, I6, ⟨I7, I8, I9, I10, I11⟩, I12⟩ := id I
  refine ac_tr I (fun n h1 h2 => ?_) I4 ⟨x, hx, rfl⟩ (Nat.zero_le _) I11
  have z0 : ¬ (0 : Int32) = nI n := fun z => nI_ne0 h1 (by omega) z.symm
  unfold ac_N
  simp only [ac_ifn I10 h2 hx]
  rw [if_neg z0, if_neg (show ¬ n = 0 by omega)]
  omega
theorem ac_get {x : Nat} (I : ac_MI 0 [] (nI x) h lo d M al rf fX fY L E) (hx : x ≤ M) : ac_MI x [] 0 h lo d M al rf fX fY L E := by
  obtain ⟨I1, I2, I3, I4, I5, I6, ⟨I7, I8, I9, I10, I11⟩, I12⟩ := id I
  refine ac_tr I (fun n h1 h2 => ?_) I4 ⟨0, Nat.zero_le _, rfl⟩ hx I11
  have z0 : ¬ (0 : Int32) = nI n := fun z => nI_ne0 h1 (by omega) z.symm
  unfold ac_N
  simp only [ac_ifn I10 h2 hx]
  rw [if_neg z0, if_neg (show ¬ n = 0 by omega)]
  omega
end
end
section
theorem ay_no (post : Int32 → Prop) (x : Int32) {n : Nat} (hn : n < 2 ^ 31) (h0 : ∀ j, j < n → x = nI j → post 0) (h1 : (x < 0 ∨ nI n ≤ x) → post 1) : wpY_no post x (nI n) := by
  by_cases c : x < 0
  · exact br_t c (h1 (Or.inl c))
  · obtain ⟨j, hj, rfl⟩ := nI_of c
    exact br_f c (pk_lt j n (fun q => h0 j q rfl) (fun q => h1 (Or.inr (nI_le q hj))))
section
variable {p : ap_T} {kn md lv up dn dp bg gY oc sh rn po en : Int32} {sA sB NY PY KY va fY al me pt h lo ou es td ph : Nat → Int32}
variable {m i : Nat}
theorem ay_on (H : ap_OK p) (hm : m < 4) (hi : i < 16) : ∃ x : Int32, ((ap_on p (16 * m + i) ∧ x = 1) ∨ (¬ ap_on p (16 * m + i) ∧ x = 0)) ∧ ∀ post : Int32 → Prop, post x → wpY_goesOn post (kn, md, lv, up, dn, dp, bg, gY, oc, sh, rn, po, en, ap_oo p, sA, sB, ap_c p, ap_sz p, ap_L p, NY, PY, KY, va, fY, al, me, pt, h, lo, ou, es, td, ph) (nI (16 * m + i)) := by
  have hk : 16 * m + i < 64 := by omega
  have hI : vp_in (nI (16 * m + i)) 64 := vp_in_nI hk (by omega)
  have he := ap_ook p hk
  have h14 := H.1 (16 * m + i)
  by_cases c1 : ap_O p (16 * m + i) = 10
  · exact ⟨0, Or.inr ⟨fun z => z.1 c1, rfl⟩, fun post hp => ⟨hI, br_t (by rw [he, c1]; rfl) hp⟩⟩
  by_cases c2 : ap_O p (16 * m + i) = 12
  · exact ⟨0, Or.inr ⟨fun z => z.2.1 c2, rfl⟩, fun post hp => ⟨hI, br_f (by rw [he, c2]; decide) ⟨hI, br_t (by rw [he, c2]; rfl) hp⟩⟩⟩
  by_cases c3 : ap_O p (16 * m + i) = 13
  · exact ⟨0, Or.inr ⟨fun z => z.2.2 c3, rfl⟩, fun post hp => ⟨hI, br_f (by rw [he, c3]; decide) ⟨hI, br_f (by rw [he, c3]; decide) ⟨hI, br_t (by rw [he, c3]; rfl) hp⟩⟩⟩⟩
  · have n : ∀ j, j < 64 → ap_O p (16 * m + i) ≠ j → ¬ ap_oo p (nI (16 * m + i)).toNatClampNeg = nI j := fun j hj z => by rw [he, nI_eq (by omega) (by omega)]; exact z
    exact ⟨1, Or.inl ⟨⟨c1, c2, c3⟩, rfl⟩, fun post hp => ⟨hI, br_f (n 10 (by omega) c1) ⟨hI, br_f (n 12 (by omega) c2) ⟨hI, br_f (n 13 (by omega) c3) hp⟩⟩⟩⟩
theorem ay_jp (H : ap_OK p) (hm : m < 4) (hi : i < 16) : ∃ x : Int32, ((ap_jp p (16 * m + i) ∧ x = 1) ∨ (¬ ap_jp p (16 * m + i) ∧ x = 0)) ∧ ∀ post : Int32 → Prop, post x → wpY_jumps post (kn, md, lv, up, dn, dp, bg, gY, oc, sh, rn, po, en, ap_oo p, sA, sB, ap_c p, ap_sz p, ap_L p, NY, PY, KY, va, fY, al, me, pt, h, lo, ou, es, td, ph) (nI (16 * m + i)) := by
  have hk : 16 * m + i < 64 := by omega
  have hI : vp_in (nI (16 * m + i)) 64 := vp_in_nI hk (by omega)
  have he := ap_ook p hk
  have h14 := H.1 (16 * m + i)
  have n : ∀ j, j < 64 → ap_O p (16 * m + i) ≠ j → ¬ ap_oo p (nI (16 * m + i)).toNatClampNeg = nI j := fun j hj z => by rw [he, nI_eq (by omega) (by omega)]; exact z
  by_cases c1 : ap_O p (16 * m + i) = 9
  · exact ⟨1, Or.inl ⟨Or.inl c1, rfl⟩, fun post hp => ⟨hI, br_t (by rw [he, c1]; rfl) hp⟩⟩
  by_cases c2 : ap_O p (16 * m + i) = 10
  · exact ⟨1, Or.inl ⟨Or.inr c2, rfl⟩, fun post hp => ⟨hI, br_f (by rw [he, c2]; decide) ⟨hI, br_t (by rw [he, c2]; rfl) hp⟩⟩⟩
  · exact ⟨0, Or.inr ⟨fun z => by rcases z with z | z <;> omega, rfl⟩, fun post hp => ⟨hI, br_f (n 9 (by omega) c1) ⟨hI, br_f (n 10 (by omega) c2) hp⟩⟩⟩
/-- the places to which one leads -/
theorem ay_af (H : ap_OK p) (hm : m < 4) (hi : i < 16) : ∃ x : Int32, (∀ j, j < 32 → (bt x j = true ↔ ap_sc p m i j)) ∧ ∀ post : Int32 → Prop, post x → wpY_after post (kn, md, lv, up, dn, dp, bg, gY, oc, sh, rn, po, en, ap_oo p, sA, sB, ap_c p, ap_sz p, ap_L p, NY, PY, KY, va, fY, al, me, pt, h, lo, ou, es, td, ph) (nI m) (nI i) := by
  have hk : 16 * m + i < 64 := by omega
  have hz := H.2.1 m
  have hI : vp_in (nI (16 * m + i)) 64 := vp_in_nI hk (by omega)
  have hc := (H.1 (16 * m + i)).2.2.2.2.1
  obtain ⟨x1, h1, w1⟩ := ay_on (kn := kn) (md := md) (lv := lv) (up := up) (dn := dn) (dp := dp) (bg := bg) (gY := gY) (oc := oc) (sh := sh) (rn := rn) (po := po) (en := en) (sA := sA) (sB := sB) (NY := NY) (PY := PY) (KY := KY) (va := va) (fY := fY) (al := al) (me := me) (pt := pt) (h := h) (lo := lo) (ou := ou) (es := es) (td := td) (ph := ph) H hm hi
  obtain ⟨x2, h2, w2⟩ := ay_jp (kn := kn) (md := md) (lv := lv) (up := up) (dn := dn) (dp := dp) (bg := bg) (gY := gY) (oc := oc) (sh := sh) (rn := rn) (po := po) (en := en) (sA := sA) (sB := sB) (NY := NY) (PY := PY) (KY := KY) (va := va) (fY := fY) (al := al) (me := me) (pt := pt) (h := h) (lo := lo) (ou := ou) (es := es) (td := td) (ph := ph) H hm hi
  have z0 : ∀ v, ¬ bt 0 v = true := fun v => by rw [b_0]; decide
  have B : ∃ z : Int32, (∀ j, j < 32 → (bt z j = true ↔ ap_on p (16 * m + i) ∧ j = i + 1)) ∧ ∀ post : Int32 → Prop, wY_after_22 post (nI m) (nI (16 * m + i)) z kn md lv up dn dp bg gY oc sh rn po en (ap_oo p) sA sB (ap_c p) (ap_sz p) (ap_L p) NY PY KY va fY al me pt h lo ou es td ph → wpY_after post (kn, md, lv, up, dn, dp, bg, gY, oc, sh, rn, po, en, ap_oo p, sA, sB, ap_c p, ap_sz p, ap_L p, NY, PY, KY, va, fY, al, me, pt, h, lo, ou, es, td, ph) (nI m) (nI i) := by
    rcases h1 with ⟨a, e⟩ | ⟨a, e⟩
    · refine ⟨(2 : Int32) <<< (nI i &&& 31), fun j hj => ?_, fun post hp => nm_r (ap_yk m i) (w1 _ (br_f (by rw [e]; decide) hp))⟩
      rw [ad_two i (by omega) j hj, decide_eq_true_iff]; exact ⟨fun q => ⟨a, q⟩, fun q => q.2⟩
    · exact ⟨0, fun v hv => ⟨fun q => absurd q (z0 v), fun q => absurd q.1 a⟩, fun post hp => nm_r (ap_yk m i) (w1 _ (br_t e hp))⟩
  have C : ∃ z : Int32, (∀ j, j < 32 → (bt z j = true ↔ ap_jp p (16 * m + i) ∧ j = ap_C p (16 * m + i))) ∧ ∀ (post : Int32 → Prop) (y : Int32), wY_after_42 post (nI m) z y kn md lv up dn dp bg gY oc sh rn po en (ap_oo p) sA sB (ap_c p) (ap_sz p) (ap_L p) NY PY KY va fY al me pt h lo ou es td ph → wY_after_22 post (nI m) (nI (16 * m + i)) y kn md lv up dn dp bg gY oc sh rn po en (ap_oo p) sA sB (ap_c p) (ap_sz p) (ap_L p) NY PY KY va fY al me pt h lo ou es td ph := by
    rcases h2 with ⟨a, e⟩ | ⟨a, e⟩
    · obtain ⟨c1, c2⟩ := hc a
      refine ⟨(1 : Int32) <<< (nI (ap_C p (16 * m + i)) &&& 31), fun j hj => ?_, fun post y hp => w2 _ (br_f (by rw [e]; decide) ⟨hI, ?_⟩)⟩
      · rw [ad_one _ (by omega) j hj, decide_eq_true_iff]; exact ⟨fun q => ⟨a, q⟩, fun q => q.2⟩
      · rw [ap_ck p hk, c1]; exact hp
    · exact ⟨0, fun v hv => ⟨fun q => absurd q (z0 v), fun q => absurd q.1 a⟩, fun post y hp => w2 _ (br_t e hp)⟩
  obtain ⟨z, hz1, wz⟩ := B
  obtain ⟨y, hy1, wy⟩ := C
  refine ⟨(z ||| y) &&& ((1 : Int32) <<< (nI (ap_Z p m) &&& 31) - 1), fun j hj => ?_, fun post hp => wz post (wy post z (nm_e ⟨vp_in_nI hm (by omega), ?_⟩))⟩
  · rw [b_and, b_or, Bool.and_eq_true, Bool.or_eq_true, hz1 j hj, hy1 j hj, ad_mask _ (by omega) j hj, decide_eq_true_iff]
    unfold ap_sc
    exact ⟨fun q => ⟨q.2, q.1⟩, fun q => ⟨q.2, q.1⟩⟩
  · rw [ap_szm p hm]; exact hp
theorem ay_rd (H : ap_OK p) (hAB : ap_AB p sA sB) (hm : m < 4) (hi : i < 16) {v : Nat} (hv : v < 6) (post : Int32 → Prop) (h0 : ¬ ap_rd p m i v → post 0) (h1 : ap_rd p m i v → post 1) : wpY_reads post (kn, md, lv, up, dn, dp, bg, gY, oc, sh, rn, po, en, ap_oo p, sA, sB, ap_c p, ap_sz p, ap_L p, NY, PY, KY, va, fY, al, me, pt, h, lo, ou, es, td, ph) (nI (16 * m + i)) (nI v) := by
  have hk : 16 * m + i < 64 := by omega
  have hI : vp_in (nI (16 * m + i)) 64 := vp_in_nI hk (by omega)
  have he := ap_ook p hk
  have h14 := H.1 (16 * m + i)
  have ek : (nI (16 * m + i)).toNatClampNeg = 16 * m + i := nI_clamp (by omega)
  have eA := (hAB (16 * m + i)).1
  have eB := (hAB (16 * m + i)).2
  have hA := h14.2.1
  have hB := h14.2.2.1
  rcases ap_14 H (16 * m + i) with e | e | e | e | e | e | e | e | e | e | e | e | e | e
  · rw [e] at he
    exact ⟨hI, nm_r (e' := (0 : Int32)) he (br_t (by decide) (br_f (by decide) (br_f (by decide) (br_f (by decide) (br_f (by decide) (br_f (by decide) (br_t rfl (br_t rfl (h0 (by unfold ap_rd; omega))))))))))⟩
  · rw [e] at he
    exact ⟨hI, nm_r (e' := (1 : Int32)) he (br_t (by decide) (br_f (by decide) (br_t (by decide) (br_t rfl (br_f (by decide) ⟨hI, pk_eq (ap_B p (16 * m + i)) v (fun q => h1 (by unfold ap_rd; omega)) (fun q => h0 (by unfold ap_rd; omega)) (by rw [ek]; exact eB (by omega)) rfl⟩)))))⟩
  · rw [e] at he
    exact ⟨hI, nm_r (e' := (2 : Int32)) he (br_t (by decide) (br_f (by decide) (br_f (by decide) (br_f (by decide) (br_f (by decide) (br_f (by decide) (br_t rfl (br_t rfl (h0 (by unfold ap_rd; omega))))))))))⟩
  · rw [e] at he
    exact ⟨hI, nm_r (e' := (3 : Int32)) he (br_t (by decide) (br_f (by decide) (br_f (by decide) (br_t (by decide) (br_t rfl (br_f (by decide) ⟨hI, pk_eq (ap_B p (16 * m + i)) v (fun q => h1 (by unfold ap_rd; omega)) (fun q => h0 (by unfold ap_rd; omega)) (by rw [ek]; exact eB (by omega)) rfl⟩))))))⟩
  · rw [e] at he
    exact ⟨hI, nm_r (e' := (4 : Int32)) he (br_f (by decide) (br_t (by decide) (br_f (by decide) (br_f (by decide) (br_t (by decide) (br_f (by decide) ⟨hI, pk_eq (ap_A p (16 * m + i)) v (fun q => h1 (by unfold ap_rd; omega)) (fun q => br_f (by decide) ⟨hI, pk_eq (ap_B p (16 * m + i)) v (fun q => h1 (by unfold ap_rd; omega)) (fun q => h0 (by unfold ap_rd; omega)) (by rw [ek]; exact eB (by omega)) rfl⟩) (by rw [ek]; exact eA (by omega) (by omega)) rfl⟩))))))⟩
  · rw [e] at he
    exact ⟨hI, nm_r (e' := (5 : Int32)) he (br_f (by decide) (br_t (by decide) (br_f (by decide) (br_f (by decide) (br_f (by decide) (br_f (by decide) (br_f (by decide) ⟨hI, pk_eq (ap_A p (16 * m + i)) v (fun q => h1 (by unfold ap_rd; omega)) (fun q => br_t rfl (h0 (by unfold ap_rd; omega))) (by rw [ek]; exact eA (by omega) (by omega)) rfl⟩)))))))⟩
  · rw [e] at he
    exact ⟨hI, nm_r (e' := (6 : Int32)) he (br_f (by decide) (br_t (by decide) (br_f (by decide) (br_f (by decide) (br_f (by decide) (br_f (by decide) (br_f (by decide) ⟨hI, pk_eq (ap_A p (16 * m + i)) v (fun q => h1 (by unfold ap_rd; omega)) (fun q => br_t rfl (h0 (by unfold ap_rd; omega))) (by rw [ek]; exact eA (by omega) (by omega)) rfl⟩)))))))⟩
  · rw [e] at he
    exact ⟨hI, nm_r (e' := (7 : Int32)) he (br_f (by decide) (br_t (by decide) (br_f (by decide) (br_f (by decide) (br_f (by decide) (br_f (by decide) (br_f (by decide) ⟨hI, pk_eq (ap_A p (16 * m + i)) v (fun q => h1 (by unfold ap_rd; omega)) (fun q => br_t rfl (h0 (by unfold ap_rd; omega))) (by rw [ek]; exact eA (by omega) (by omega)) rfl⟩)))))))⟩
  · rw [e] at he
    exact ⟨hI, nm_r (e' := (8 : Int32)) he (br_f (by decide) (br_t (by decide) (br_f (by decide) (br_f (by decide) (br_f (by decide) (br_f (by decide) (br_f (by decide) ⟨hI, pk_eq (ap_A p (16 * m + i)) v (fun q => h1 (by unfold ap_rd; omega)) (fun q => br_t rfl (h0 (by unfold ap_rd; omega))) (by rw [ek]; exact eA (by omega) (by omega)) rfl⟩)))))))⟩
  · rw [e] at he
    exact ⟨hI, nm_r (e' := (9 : Int32)) he (br_f (by decide) (br_t (by decide) (br_f (by decide) (br_f (by decide) (br_f (by decide) (br_f (by decide) (br_f (by decide) ⟨hI, pk_eq (ap_A p (16 * m + i)) v (fun q => h1 (by unfold ap_rd; omega)) (fun q => br_t rfl (h0 (by unfold ap_rd; omega))) (by rw [ek]; exact eA (by omega) (by omega)) rfl⟩)))))))⟩
  · rw [e] at he
    exact ⟨hI, nm_r (e' := (10 : Int32)) he (br_f (by decide) (br_f (by decide) (br_f (by decide) (br_f (by decide) (br_f (by decide) (br_f (by decide) (br_f (by decide) (br_t rfl (br_t rfl (h0 (by unfold ap_rd; omega)))))))))))⟩
  · rw [e] at he
    exact ⟨hI, nm_r (e' := (11 : Int32)) he (br_f (by decide) (br_f (by decide) (br_f (by decide) (br_f (by decide) (br_f (by decide) (br_f (by decide) (br_t (by decide) (br_t rfl (br_f (by decide) ⟨hI, pk_eq (ap_B p (16 * m + i)) v (fun q => h1 (by unfold ap_rd; omega)) (fun q => h0 (by unfold ap_rd; omega)) (by rw [ek]; exact eB (by omega)) rfl⟩)))))))))⟩
  · rw [e] at he
    exact ⟨hI, nm_r (e' := (12 : Int32)) he (br_f (by decide) (br_f (by decide) (br_t (by decide) (br_f (by decide) (br_f (by decide) (br_f (by decide) (br_f (by decide) (br_f (by decide) ⟨hI, pk_eq (ap_A p (16 * m + i)) v (fun q => h1 (by unfold ap_rd; omega)) (fun q => br_t rfl (h0 (by unfold ap_rd; omega))) (by rw [ek]; exact eA (by omega) (by omega)) rfl⟩))))))))⟩
  · rw [e] at he
    exact ⟨hI, nm_r (e' := (13 : Int32)) he (br_f (by decide) (br_f (by decide) (br_f (by decide) (br_f (by decide) (br_f (by decide) (br_f (by decide) (br_f (by decide) (br_t rfl (br_t rfl (h0 (by unfold ap_rd; omega)))))))))))⟩
theorem ay_wr (H : ap_OK p) (hAB : ap_AB p sA sB) (hm : m < 4) (hi : i < 16) {v : Nat} (hv : v < 6) (post : Int32 → Prop) (h0 : ¬ ap_wr p m i v → post 0) (h1 : ap_wr p m i v → post 1) : wpY_writes post (kn, md, lv, up, dn, dp, bg, gY, oc, sh, rn, po, en, ap_oo p, sA, sB, ap_c p, ap_sz p, ap_L p, NY, PY, KY, va, fY, al, me, pt, h, lo, ou, es, td, ph) (nI (16 * m + i)) (nI v) := by
  have hk : 16 * m + i < 64 := by omega
  have hI : vp_in (nI (16 * m + i)) 64 := vp_in_nI hk (by omega)
  have he := ap_ook p hk
  have h14 := H.1 (16 * m + i)
  have ek : (nI (16 * m + i)).toNatClampNeg = 16 * m + i := nI_clamp (by omega)
  have eA := (hAB (16 * m + i)).1
  have hA := h14.2.1
  rcases ap_14 H (16 * m + i) with e | e | e | e | e | e | e | e | e | e | e | e | e | e
  · rw [e] at he
    exact ⟨hI, nm_r (e' := (0 : Int32)) he ⟨hI, pk_eq (ap_A p (16 * m + i)) v (fun q => br_t (by decide) (h1 (by unfold ap_wr; omega))) (fun q => h0 (by unfold ap_wr; omega)) (by rw [ek]; exact eA (by omega) (by omega)) rfl⟩⟩
  · rw [e] at he
    exact ⟨hI, nm_r (e' := (1 : Int32)) he ⟨hI, pk_eq (ap_A p (16 * m + i)) v (fun q => br_t (by decide) (h1 (by unfold ap_wr; omega))) (fun q => h0 (by unfold ap_wr; omega)) (by rw [ek]; exact eA (by omega) (by omega)) rfl⟩⟩
  · rw [e] at he
    exact ⟨hI, nm_r (e' := (2 : Int32)) he ⟨hI, pk_eq (ap_A p (16 * m + i)) v (fun q => br_t (by decide) (h1 (by unfold ap_wr; omega))) (fun q => h0 (by unfold ap_wr; omega)) (by rw [ek]; exact eA (by omega) (by omega)) rfl⟩⟩
  · rw [e] at he
    exact ⟨hI, nm_r (e' := (3 : Int32)) he ⟨hI, pk_eq (ap_A p (16 * m + i)) v (fun q => br_t (by decide) (h1 (by unfold ap_wr; omega))) (fun q => h0 (by unfold ap_wr; omega)) (by rw [ek]; exact eA (by omega) (by omega)) rfl⟩⟩
  · rw [e] at he
    exact ⟨hI, nm_r (e' := (4 : Int32)) he ⟨hI, pk_eq (ap_A p (16 * m + i)) v (fun q => br_f (by decide) (br_f (by decide) (br_f (by decide) (h0 (by unfold ap_wr; omega))))) (fun q => h0 (by unfold ap_wr; omega)) (by rw [ek]; exact eA (by omega) (by omega)) rfl⟩⟩
  · rw [e] at he
    exact ⟨hI, nm_r (e' := (5 : Int32)) he ⟨hI, pk_eq (ap_A p (16 * m + i)) v (fun q => br_f (by decide) (br_f (by decide) (br_f (by decide) (h0 (by unfold ap_wr; omega))))) (fun q => h0 (by unfold ap_wr; omega)) (by rw [ek]; exact eA (by omega) (by omega)) rfl⟩⟩
  · rw [e] at he
    exact ⟨hI, nm_r (e' := (6 : Int32)) he ⟨hI, pk_eq (ap_A p (16 * m + i)) v (fun q => br_f (by decide) (br_f (by decide) (br_f (by decide) (h0 (by unfold ap_wr; omega))))) (fun q => h0 (by unfold ap_wr; omega)) (by rw [ek]; exact eA (by omega) (by omega)) rfl⟩⟩
  · rw [e] at he
    exact ⟨hI, nm_r (e' := (7 : Int32)) he ⟨hI, pk_eq (ap_A p (16 * m + i)) v (fun q => br_f (by decide) (br_f (by decide) (br_f (by decide) (h0 (by unfold ap_wr; omega))))) (fun q => h0 (by unfold ap_wr; omega)) (by rw [ek]; exact eA (by omega) (by omega)) rfl⟩⟩
  · rw [e] at he
    exact ⟨hI, nm_r (e' := (8 : Int32)) he ⟨hI, pk_eq (ap_A p (16 * m + i)) v (fun q => br_f (by decide) (br_t (by decide) (h1 (by unfold ap_wr; omega)))) (fun q => h0 (by unfold ap_wr; omega)) (by rw [ek]; exact eA (by omega) (by omega)) rfl⟩⟩
  · rw [e] at he
    exact ⟨hI, nm_r (e' := (9 : Int32)) he ⟨hI, pk_eq (ap_A p (16 * m + i)) v (fun q => br_f (by decide) (br_f (by decide) (br_f (by decide) (h0 (by unfold ap_wr; omega))))) (fun q => h0 (by unfold ap_wr; omega)) (by rw [ek]; exact eA (by omega) (by omega)) rfl⟩⟩
  · rw [e] at he
    exact ⟨hI, nm_r (e' := (10 : Int32)) he ⟨hI, br_c (fun _ => br_f (by decide) (br_f (by decide) (br_f (by decide) (h0 (by unfold ap_wr; omega))))) (fun _ => h0 (by unfold ap_wr; omega))⟩⟩
  · rw [e] at he
    exact ⟨hI, nm_r (e' := (11 : Int32)) he ⟨hI, pk_eq (ap_A p (16 * m + i)) v (fun q => br_f (by decide) (br_f (by decide) (br_t (by decide) (h1 (by unfold ap_wr; omega))))) (fun q => h0 (by unfold ap_wr; omega)) (by rw [ek]; exact eA (by omega) (by omega)) rfl⟩⟩
  · rw [e] at he
    exact ⟨hI, nm_r (e' := (12 : Int32)) he ⟨hI, pk_eq (ap_A p (16 * m + i)) v (fun q => br_f (by decide) (br_f (by decide) (br_f (by decide) (h0 (by unfold ap_wr; omega))))) (fun q => h0 (by unfold ap_wr; omega)) (by rw [ek]; exact eA (by omega) (by omega)) rfl⟩⟩
  · rw [e] at he
    exact ⟨hI, nm_r (e' := (13 : Int32)) he ⟨hI, br_c (fun _ => br_f (by decide) (br_f (by decide) (br_f (by decide) (h0 (by unfold ap_wr; omega))))) (fun _ => h0 (by unfold ap_wr; omega))⟩⟩
/-- the first place of those to look at -/
theorem ay_lo {x : Int32} (h : ¬ x = 0) (hb : ∀ j, bt x j = true → j < 16) : ∃ j, j < 16 ∧ bt x j = true ∧ ∀ i, i < j → bt x i = false := by
  have ex : ∃ j, bt x j = true := by
    apply Classical.byContradiction
    intro nn
    apply h
    rw [ad_zero]
    intro j _
    cases e : bt x j with
    | false => rfl
    | true => exact absurd ⟨j, e⟩ nn
  obtain ⟨j, h1, h2⟩ := pk_least (fun j => bt x j = true) ex
  refine ⟨j, hb j h1, h1, fun i hi => ?_⟩
  cases e : bt x i with
  | false => rfl
  | true => exact absurd e (h2 i hi)
/-- the sets after one place is taken -/
theorem ay_se (seen : Int32) {j : Nat} (hj : j < 16) : ∀ s, bt (seen ||| ((1 : Int32) <<< (nI j &&& 31))) s = true ↔ bt seen s = true ∨ s = j := by
  intro s
  by_cases c : s < 32
  · rw [b_or, Bool.or_eq_true, ad_one j (by omega) s c, decide_eq_true_iff]
  · rw [b_big (by omega), b_big (by omega)]
    exact ⟨fun q => absurd q (by decide), fun q => by rcases q with q | q; exact absurd q (by decide); omega⟩
theorem ay_op0 (oq : Int32) {j : Nat} (hj : j < 16) : ∀ s, bt (oq &&& (((1 : Int32) <<< (nI j &&& 31)) ^^^ (-1))) s = true ↔ bt oq s = true ∧ s ≠ j := by
  intro s
  by_cases c : s < 32
  · rw [b_and, Bool.and_eq_true, ad_not _ c, ad_one j (by omega) s c]
    constructor
    · rintro ⟨a, b⟩
      exact ⟨a, fun z => by rw [decide_eq_true z] at b; exact absurd b (by decide)⟩
    · rintro ⟨a, b⟩
      exact ⟨a, by rw [decide_eq_false b]; rfl⟩
  · rw [b_big (by omega), b_big (by omega)]
    exact ⟨fun q => absurd q (by decide), fun q => absurd q.1 (by decide)⟩
theorem ay_op1 (oq x seen : Int32) : ∀ s, bt (oq ||| (x &&& (seen ^^^ (-1)))) s = true ↔ bt oq s = true ∨ (bt x s = true ∧ bt seen s = false) := by
  intro s
  by_cases c : s < 32
  · rw [b_or, b_and, ad_not _ c, Bool.or_eq_true, Bool.and_eq_true]
    cases bt seen s <;> simp
  · rw [b_big (by omega), b_big (by omega), b_big (by omega)]; simp
/-- NEEDED, by a list of places -/
theorem ay_nl (H : ap_OK p) (hAB : ap_AB p sA sB) (hm : m < 4) (hi : i < ap_Z p m) {v : Nat} (hv : v < 6) (post : Int32 → Prop) (h0 : ¬ ap_nd p m i v → post 0) (h1 : ap_nd p m i v → post 1) :
    ∀ d (seen oq : Int32), ap_Z p m - ad_ct (bt seen) (ap_Z p m) ≤ d → ao_I (ap_Z p m) (fun j => ap_nd p m j v → ap_nd p m i v) (fun j => ¬ ap_rd p m j v) (fun j => ¬ ap_wr p m j v) (ap_sc p m) (bt oq) (bt seen) →
      (bt oq i = true ∨ bt seen i = true) → wY_isNeeded_8 post (nI m) (nI v) kn md lv up dn dp bg gY oc sh rn po en (ap_oo p) sA sB (ap_c p) (ap_sz p) (ap_L p) NY PY KY va fY al me pt h lo ou es td ph (d + 1) seen oq := by
  have hz := H.2.1 m
  intro d
  induction d with
  | zero =>
    intro seen oq hd I hs
    by_cases c : oq = 0
    · exact br_t c (h0 (ao_nd I hs (fun s => by rw [c, b_0])))
    · obtain ⟨j, _, j1, _⟩ := ay_lo c (fun j hj => by have := (I.1 j (Or.inl hj)).2; omega)
      have q1 := (I.1 j (Or.inl j1)).2
      have q2 := I.2.2 j j1
      have := ad_ct_all (p := bt seen) (n := ap_Z p m) (by omega) j q1
      rw [q2] at this; exact absurd this (by decide)
  | succ d ih =>
    intro seen oq hd I hs
    by_cases c : oq = 0
    · exact br_t c (h0 (ao_nd I hs (fun s => by rw [c, b_0])))
    · obtain ⟨j, j16, j1, j2⟩ := ay_lo c (fun j hj => by have := (I.1 j (Or.inl hj)).2; omega)
      have jz := (I.1 j (Or.inl j1)).2
      refine br_f c ⟨j + 1, ?_⟩
      have hk : 16 * m + j < 64 := by omega
      -- taken at j
      have body : ∀ n, wY_isNeeded_16 post (wY_isNeeded_8 post (nI m) (nI v) kn md lv up dn dp bg gY oc sh rn po en (ap_oo p) sA sB (ap_c p) (ap_sz p) (ap_L p) NY PY KY va fY al me pt h lo ou es td ph (d + 1)) (nI m) (nI v) seen oq kn md lv up dn dp bg gY oc sh rn po en (ap_oo p) sA sB (ap_c p) (ap_sz p) (ap_L p) NY PY KY va fY al me pt h lo ou es td ph (n + 1) (nI j) := by
        intro n
        refine br_f (by rw [ad_shr1 _ (by omega), j1]; decide) (nm_e (nm_e ?_))
        rw [ap_yk]
        refine ay_rd H hAB hm (by omega) hv _ (fun q1 => br_t rfl ?_) (fun q1 => br_f (by decide) (h1 ((I.1 j (Or.inl j1)).1 (ad_nd_rd q1))))
        have st : ∀ a b, (ap_nd p m a v → ap_nd p m i v) → ¬ ap_rd p m a v → ¬ ap_wr p m a v → ap_sc p m a b → (ap_nd p m b v → ap_nd p m i v) ∧ b < ap_Z p m :=
          fun a b x1 x2 x3 x4 => ⟨fun x5 => x1 (ad_nd_st x3 x4 x5), x4.1⟩
        refine ay_wr H hAB hm (by omega) hv _ (fun q2 => br_t rfl ?_) (fun q2 => br_f (by decide) ?_)
        · obtain ⟨x, hx, wx⟩ := ay_af (kn := kn) (md := md) (lv := lv) (up := up) (dn := dn) (dp := dp) (bg := bg) (gY := gY) (oc := oc) (sh := sh) (rn := rn) (po := po) (en := en) (sA := sA) (sB := sB) (NY := NY) (PY := PY) (KY := KY) (va := va) (fY := fY) (al := al) (me := me) (pt := pt) (h := h) (lo := lo) (ou := ou) (es := es) (td := td) (ph := ph) H hm (i := j) (by omega)
          refine wx _ (nm_e ?_)
          obtain ⟨A1, A2, A3⟩ := ao_st st I j1 q1 (ay_se seen j16) (op' := bt (oq &&& (((1 : Int32) <<< (nI j &&& 31)) ^^^ (-1)) ||| (x &&& ((seen ||| ((1 : Int32) <<< (nI j &&& 31))) ^^^ (-1))))) (fun s => by
            rw [ay_op1, ay_op0 oq j16]
            constructor
            · rintro (y | ⟨y1, y2⟩)
              · exact Or.inl y
              · by_cases s32 : s < 32
                · exact Or.inr ⟨q2, (hx s s32).mp y1, y2⟩
                · rw [b_big (by omega)] at y1; exact absurd y1 (by decide)
            · rintro (y | ⟨y1, y2, y3⟩)
              · exact Or.inl y
              · exact Or.inr ⟨(hx s (by have := y2.1; omega)).mpr y2, y3⟩)
          exact ih _ _ (by omega) A1 (A3 i hs)
        · obtain ⟨A1, A2, A3⟩ := ao_st st I j1 q1 (ay_se seen j16) (op' := bt (oq &&& (((1 : Int32) <<< (nI j &&& 31)) ^^^ (-1)))) (fun s => by
            rw [ay_op0 oq j16]
            constructor
            · exact Or.inl
            · rintro (y | ⟨y1, _⟩)
              · exact y
              · exact absurd q2 y1)
          exact ih _ _ (by omega) A1 (A3 i hs)
      have walk : ∀ e a, a + e = j → wY_isNeeded_16 post (wY_isNeeded_8 post (nI m) (nI v) kn md lv up dn dp bg gY oc sh rn po en (ap_oo p) sA sB (ap_c p) (ap_sz p) (ap_L p) NY PY KY va fY al me pt h lo ou es td ph (d + 1)) (nI m) (nI v) seen oq kn md lv up dn dp bg gY oc sh rn po en (ap_oo p) sA sB (ap_c p) (ap_sz p) (ap_L p) NY PY KY va fY al me pt h lo ou es td ph (e + 1) (nI a) := by
        intro e
        induction e with
        | zero => intro a ha; have : a = j := by omega
                  subst this; exact body 0
        | succ e ihe =>
          intro a ha
          exact br_t (by rw [ad_shr1 _ (by omega)]; exact j2 a (by omega)) (nm_r (nI_1 a) (ihe (a + 1) (by omega)))
      exact walk j 0 (by omega)
theorem ay_nd (H : ap_OK p) (hAB : ap_AB p sA sB) (hm : m < 4) (hi : i < ap_Z p m) {v : Nat} (hv : v < 6) (post : Int32 → Prop) (h0 : ¬ ap_nd p m i v → post 0) (h1 : ap_nd p m i v → post 1) :
    wpY_isNeeded post (kn, md, lv, up, dn, dp, bg, gY, oc, sh, rn, po, en, ap_oo p, sA, sB, ap_c p, ap_sz p, ap_L p, NY, PY, KY, va, fY, al, me, pt, h, lo, ou, es, td, ph) (nI m) (nI i) (nI v) := by
  have hz := H.2.1 m
  have hb : ∀ j, bt ((1 : Int32) <<< (nI i &&& 31)) j = true ↔ j = i := by
    intro j
    by_cases c : j < 32
    · rw [ad_one i (by omega) j c, decide_eq_true_iff]
    · rw [b_big (by omega)]; exact ⟨fun q => absurd q (by decide), fun q => by omega⟩
  refine nm_e ⟨ap_Z p m + 1, ay_nl H hAB hm hi hv post h0 h1 (ap_Z p m) 0 _ (by omega) ⟨fun j hj => ?_, fun j hj => ?_, fun j hj => b_0 j⟩ (Or.inl ((hb i).mpr rfl))⟩
  · rcases hj with hj | hj
    · have := (hb j).mp hj
      subst this
      exact ⟨fun q => q, hi⟩
    · rw [b_0] at hj; exact absurd hj (by decide)
  · rw [b_0] at hj; exact absurd hj (by decide)
end
end
section
section
variable {p : ap_T} {kn md lv up dn dp bg gY oc sh rn po en : Int32} {sA sB NY PY KY va fY al me pt h lo ou es td ph : Nat → Int32}
variable {m i : Nat}
theorem ay_nbl (H : ap_OK p) (hm : m < 4) (set : Int32) (hs : ∀ j, j < 32 → (bt set j = true ↔ ap_sc p m i j)) (post : Int32 → Prop)
    (hp : ∀ x : Int32, (∀ v, v < 32 → (bt x v = true ↔ ∃ j, ap_sc p m i j ∧ bt (NY (16 * m + j)) v = true)) → post x) :
    ∀ d j, j + d = 16 → ∀ x : Int32, (∀ v, v < 32 → (bt x v = true ↔ ∃ s, s < j ∧ ap_sc p m i s ∧ bt (NY (16 * m + s)) v = true)) → wY_needBehind_13 post (nI m) set kn md lv up dn dp bg gY oc sh rn po en (ap_oo p) sA sB (ap_c p) (ap_sz p) (ap_L p) NY PY KY va fY al me pt h lo ou es td ph (d + 1) x (nI j) := by
  have hz := H.2.1 m
  intro d
  induction d with
  | zero =>
    intro j hj x hx
    have e : j = 16 := by omega
    subst e
    refine br_t (by decide) (hp x (fun v hv => ?_))
    rw [hx v hv]
    constructor
    · rintro ⟨s, _, a⟩; exact ⟨s, a⟩
    · rintro ⟨s, a⟩; exact ⟨s, by have := a.1.1; omega, a⟩
  | succ d ih =>
    intro j hj x hx
    refine br_f (nI_ge (b := 16) (by omega) (by decide)) (br_c (fun c => nm_r (nI_1 j) (ih (j + 1) (by omega) x (fun v hv => ?_))) (fun c => ?_))
    · rw [hx v hv]
      constructor
      · rintro ⟨s, a, b⟩; exact ⟨s, by omega, b⟩
      · rintro ⟨s, a, b, b'⟩
        by_cases e : s = j
        · subst e
          rw [ad_shr1 _ (by omega), (hs s (by omega)).mpr b] at c
          exact absurd c (by decide)
        · exact ⟨s, by omega, b, b'⟩
    · have hb : ap_sc p m i j := (hs j (by omega)).mp (by rw [ad_shr1 _ (by omega)] at c; exact ad_nf c)
      rw [ap_yk, nI_clamp (by omega)]
      refine ⟨vp_in_nI (by omega) (by omega), nm_e (nm_r (nI_1 j) (ih (j + 1) (by omega) _ (fun v hv => ?_)))⟩
      rw [b_or, Bool.or_eq_true, hx v hv]
      constructor
      · rintro (⟨s, a, b⟩ | a)
        · exact ⟨s, by omega, b⟩
        · exact ⟨j, by omega, hb, a⟩
      · rintro ⟨s, a, b, b'⟩
        by_cases e : s = j
        · subst e; exact Or.inr b'
        · exact Or.inl ⟨s, by omega, b, b'⟩
theorem ay_nb (H : ap_OK p) (hm : m < 4) (hi : i < 16) (post : Int32 → Prop)
    (hp : ∀ x : Int32, (∀ v, v < 32 → (bt x v = true ↔ ∃ j, ap_sc p m i j ∧ bt (NY (16 * m + j)) v = true)) → post x) : wpY_needBehind post (kn, md, lv, up, dn, dp, bg, gY, oc, sh, rn, po, en, ap_oo p, sA, sB, ap_c p, ap_sz p, ap_L p, NY, PY, KY, va, fY, al, me, pt, h, lo, ou, es, td, ph) (nI m) (nI i) := by
  obtain ⟨x, hx, wx⟩ := ay_af (kn := kn) (md := md) (lv := lv) (up := up) (dn := dn) (dp := dp) (bg := bg) (gY := gY) (oc := oc) (sh := sh) (rn := rn) (po := po) (en := en) (sA := sA) (sB := sB) (NY := NY) (PY := PY) (KY := KY) (va := va) (fY := fY) (al := al) (me := me) (pt := pt) (h := h) (lo := lo) (ou := ou) (es := es) (td := td) (ph := ph) H hm hi
  refine wx _ ⟨17, ay_nbl H hm x hx post hp 16 0 (by omega) 0 (fun v hv => ?_)⟩
  rw [b_0]
  exact ⟨fun q => absurd q (by decide), fun ⟨s, a, _⟩ => by omega⟩
/-- a LOAN, by a list of places -/
theorem ay_ll (H : ap_OK p) (hm : m < 4) (hi : i < ap_Z p m) (hN : ap_NS p m NY) (post : Int32 → Prop) (x5 : Int32)
    (h5 : ∀ v, v < 32 → (bt x5 v = true ↔ ap_nd p m i v ∧ v ≠ ap_A p (16 * m + i))) (h0 : ¬ ap_ln p m i → post 0) (h1 : ap_ln p m i → post 1)
    (c1 : ap_O p (16 * m + i) = 3) (c2 : ap_C p (16 * m + i) ≠ 2) (c3 : ap_A p (16 * m + i) ≠ ap_B p (16 * m + i)) :
    ∀ d (seen oq : Int32), ap_Z p m - ad_ct (bt seen) (ap_Z p m) ≤ d → ao_I (ap_Z p m) (aw_rg p m i) (fun j => ap_nd p m j (ap_A p (16 * m + i)) → aw_gd p m i j) (fun j => ap_nd p m j (ap_A p (16 * m + i))) (ap_sc p m) (bt oq) (bt seen) →
      (∀ s, ap_sc p m i s → bt oq s = true ∨ bt seen s = true) → wY_isLoan_74 post (nI m) (nI (ap_A p (16 * m + i))) x5 kn md lv up dn dp bg gY oc sh rn po en (ap_oo p) sA sB (ap_c p) (ap_sz p) (ap_L p) NY PY KY va fY al me pt h lo ou es td ph (d + 1) seen oq := by
  have hz := H.2.1 m
  have hA := (H.1 (16 * m + i)).2.1
  intro d
  induction d with
  | zero =>
    intro seen oq hd I hs
    by_cases c : oq = 0
    · exact br_t c (h1 (ao_ln I hs (fun s => by rw [c, b_0]) c1 c2 c3))
    · obtain ⟨j, _, j1, _⟩ := ay_lo c (fun j hj => by have := (I.1 j (Or.inl hj)).2; omega)
      have q1 := (I.1 j (Or.inl j1)).2
      have q2 := I.2.2 j j1
      have := ad_ct_all (p := bt seen) (n := ap_Z p m) (by omega) j q1
      rw [q2] at this; exact absurd this (by decide)
  | succ d ih =>
    intro seen oq hd I hs
    by_cases c : oq = 0
    · exact br_t c (h1 (ao_ln I hs (fun s => by rw [c, b_0]) c1 c2 c3))
    · obtain ⟨j, j16, j1, j2⟩ := ay_lo c (fun j hj => by have := (I.1 j (Or.inl hj)).2; omega)
      have jz := (I.1 j (Or.inl j1)).2
      have jr := (I.1 j (Or.inl j1)).1
      refine br_f c ⟨j + 1, ?_⟩
      have hk : 16 * m + j < 64 := by omega
      have hI : vp_in (nI (16 * m + j)) 64 := vp_in_nI hk (by omega)
      have ek : (nI (16 * m + j)).toNatClampNeg = 16 * m + j := nI_clamp (by omega)
      have hO := (H.1 (16 * m + j)).1
      have st : ∀ a b, aw_rg p m i a → (ap_nd p m a (ap_A p (16 * m + i)) → aw_gd p m i a) → ap_nd p m a (ap_A p (16 * m + i)) → ap_sc p m a b → aw_rg p m i b ∧ b < ap_Z p m :=
        fun a b x1 _ x3 x4 => ⟨aw_st x1 x3 x4, x4.1⟩
      have body : ∀ n, wY_isLoan_82 post (wY_isLoan_74 post (nI m) (nI (ap_A p (16 * m + i))) x5 kn md lv up dn dp bg gY oc sh rn po en (ap_oo p) sA sB (ap_c p) (ap_sz p) (ap_L p) NY PY KY va fY al me pt h lo ou es td ph (d + 1)) (nI m) (nI (ap_A p (16 * m + i))) x5 seen oq kn md lv up dn dp bg gY oc sh rn po en (ap_oo p) sA sB (ap_c p) (ap_sz p) (ap_L p) NY PY KY va fY al me pt h lo ou es td ph (n + 1) (nI j) := by
        intro n
        refine br_f (by rw [ad_shr1 _ (by omega), j1]; decide) (nm_e (nm_e (nm_r (ap_yk m j) ⟨hI, nm_r (ap_ook p hk) ⟨hI, ?_⟩⟩)))
        rw [ek]
        refine br_c (fun q => ?_) (fun q => ?_)
        · have nn : ¬ ap_nd p m j (ap_A p (16 * m + i)) := by
            rw [ad_shr1 _ (by omega)] at q
            rw [← hN j jz _ (by omega), q]; decide
          obtain ⟨A1, A2, A3⟩ := ao_st st I j1 (fun z => absurd z nn) (ay_se seen j16) (op' := bt (oq &&& (((1 : Int32) <<< (nI j &&& 31)) ^^^ (-1)))) (fun s => by
            rw [ay_op0 oq j16]
            constructor
            · exact Or.inl
            · rintro (y | ⟨y1, _⟩)
              · exact y
              · exact absurd y1 nn)
          exact ih _ _ (by omega) A1 (fun s hs' => A3 s (hs s hs'))
        · have hn : ap_nd p m j (ap_A p (16 * m + i)) := (hN j jz _ (by omega)).mp (by rw [ad_shr1 _ (by omega)] at q; exact ad_nf q)
          have bad : ¬ ap_al p (16 * m + j) → post 0 := fun z => h0 (aw_no jr hn (fun g => z g.1))
          refine pk_lt (ap_O p (16 * m + j)) 5 (fun z => bad (fun y => by unfold ap_al at y; omega)) (fun z1 => pk_lt 10 (ap_O p (16 * m + j)) (fun z => bad (fun y => by unfold ap_al at y; omega)) (fun z2 => pk_eq (ap_O p (16 * m + j)) 8 (fun z => bad (fun y => by unfold ap_al at y; omega)) (fun z3 => ⟨hI, br_c (fun z4 => ?_) (fun z4 => h0 (aw_no jr hn (fun g => z4 ?_)))⟩)))
          · rw [ad_sup] at z4
            have gd : aw_gd p m i j := ⟨by unfold ap_al; omega, fun v hv hnv => by
              have v6 := ap_nd_6 H hnv
              exact (hN j jz v (by omega)).mp (z4 v (by omega) ((h5 v (by omega)).mpr ⟨hnv, hv⟩))⟩
            obtain ⟨x, hx, wx⟩ := ay_af (kn := kn) (md := md) (lv := lv) (up := up) (dn := dn) (dp := dp) (bg := bg) (gY := gY) (oc := oc) (sh := sh) (rn := rn) (po := po) (en := en) (sA := sA) (sB := sB) (NY := NY) (PY := PY) (KY := KY) (va := va) (fY := fY) (al := al) (me := me) (pt := pt) (h := h) (lo := lo) (ou := ou) (es := es) (td := td) (ph := ph) H hm (i := j) (by omega)
            refine wx _ (nm_e ?_)
            obtain ⟨A1, A2, A3⟩ := ao_st st I j1 (fun _ => gd) (ay_se seen j16) (op' := bt (oq &&& (((1 : Int32) <<< (nI j &&& 31)) ^^^ (-1)) ||| (x &&& ((seen ||| ((1 : Int32) <<< (nI j &&& 31))) ^^^ (-1))))) (fun s => by
              rw [ay_op1, ay_op0 oq j16]
              constructor
              · rintro (y | ⟨y1, y2⟩)
                · exact Or.inl y
                · by_cases s32 : s < 32
                  · exact Or.inr ⟨hn, (hx s s32).mp y1, y2⟩
                  · rw [b_big (by omega)] at y1; exact absurd y1 (by decide)
              · rintro (y | ⟨y1, y2, y3⟩)
                · exact Or.inl y
                · exact Or.inr ⟨(hx s (by have := y2.1; omega)).mpr y2, y3⟩)
            exact ih _ _ (by omega) A1 (fun s hs' => A3 s (hs s hs'))
          · rw [ad_sup]
            intro v hv hb
            obtain ⟨b1, b2⟩ := (h5 v hv).mp hb
            exact (hN j jz v hv).mpr (g.2 v b2 b1)
      have walk : ∀ e a, a + e = j → wY_isLoan_82 post (wY_isLoan_74 post (nI m) (nI (ap_A p (16 * m + i))) x5 kn md lv up dn dp bg gY oc sh rn po en (ap_oo p) sA sB (ap_c p) (ap_sz p) (ap_L p) NY PY KY va fY al me pt h lo ou es td ph (d + 1)) (nI m) (nI (ap_A p (16 * m + i))) x5 seen oq kn md lv up dn dp bg gY oc sh rn po en (ap_oo p) sA sB (ap_c p) (ap_sz p) (ap_L p) NY PY KY va fY al me pt h lo ou es td ph (e + 1) (nI a) := by
        intro e
        induction e with
        | zero => intro a ha; have : a = j := by omega
                  subst this; exact body 0
        | succ e ihe =>
          intro a ha
          exact br_t (by rw [ad_shr1 _ (by omega)]; exact j2 a (by omega)) (nm_r (nI_1 a) (ihe (a + 1) (by omega)))
      exact walk j 0 (by omega)
theorem ay_ln (H : ap_OK p) (hAB : ap_AB p sA sB) (hm : m < 4) (hi : i < ap_Z p m) (hN : ap_NS p m NY) (post : Int32 → Prop)
    (h0 : ¬ ap_ln p m i → post 0) (h1 : ap_ln p m i → post 1) : wpY_isLoan post (kn, md, lv, up, dn, dp, bg, gY, oc, sh, rn, po, en, ap_oo p, sA, sB, ap_c p, ap_sz p, ap_L p, NY, PY, KY, va, fY, al, me, pt, h, lo, ou, es, td, ph) (nI m) (nI i) := by
  have hz := H.2.1 m
  have hk : 16 * m + i < 64 := by omega
  have hI : vp_in (nI (16 * m + i)) 64 := vp_in_nI hk (by omega)
  have ek : (nI (16 * m + i)).toNatClampNeg = 16 * m + i := nI_clamp (by omega)
  have h14 := H.1 (16 * m + i)
  have hA := h14.2.1
  have hB := h14.2.2.1
  by_cases o3 : ap_O p (16 * m + i) = 3
  · have eA : sA (nI (16 * m + i)).toNatClampNeg = nI (ap_A p (16 * m + i)) := by rw [ek]; exact (hAB (16 * m + i)).1 (by omega) (by omega)
    have eB : sB (nI (16 * m + i)).toNatClampNeg = nI (ap_B p (16 * m + i)) := by rw [ek]; exact (hAB (16 * m + i)).2 (by omega)
    obtain ⟨ec, lc⟩ := h14.2.2.2.1 (Or.inl o3)
    refine nm_r (ap_yk m i) ⟨hI, nm_r eA ⟨hI, br_t (by rw [ap_ook p hk, o3]; rfl) ⟨hI, ?_⟩⟩⟩
    rw [ap_ck p hk, ec]
    refine pk_eq _ 2 (fun c => h0 (fun l => l.2.1 c)) (fun n2 => ⟨hI, pk_eq _ _ (fun c => h0 (fun l => l.2.2.1 c)) (fun nAB => ⟨hI, nm_e ?_⟩) rfl eB⟩)
    obtain ⟨y, hy, wy⟩ := ay_af (kn := kn) (md := md) (lv := lv) (up := up) (dn := dn) (dp := dp) (bg := bg) (gY := gY) (oc := oc) (sh := sh) (rn := rn) (po := po) (en := en) (sA := sA) (sB := sB) (NY := NY) (PY := PY) (KY := KY) (va := va) (fY := fY) (al := al) (me := me) (pt := pt) (h := h) (lo := lo) (ou := ou) (es := es) (td := td) (ph := ph) H hm (i := i) (by omega)
    refine wy _ ⟨ap_Z p m + 1, ay_ll H hm hi hN post _ (fun v hv => ?_) h0 h1 o3 n2 nAB (ap_Z p m) 0 y (by omega) ⟨fun j hj => ?_, fun j hj => ?_, fun j hj => b_0 j⟩ (fun s hs => Or.inl ((hy s (by have := hs.1; omega)).mpr hs))⟩
    · rw [b_and, ad_not _ hv, Bool.and_eq_true, ek, hN i hi v hv, ad_bn (ad_b1 hA v hv)]
    · rcases hj with hj | hj
      · by_cases j32 : j < 32
        · have := (hy j j32).mp hj
          exact ⟨⟨j, this, ad_rg_0⟩, this.1⟩
        · rw [b_big (by omega)] at hj; exact absurd hj (by decide)
      · rw [b_0] at hj; exact absurd hj (by decide)
    · rw [b_0] at hj; exact absurd hj (by decide)
  · exact nm_r (ap_yk m i) ⟨hI, nm_e ⟨hI, br_f (fun z => o3 ((nI_eq (b := 3) (by have := h14.1; omega) (by decide)).mp ((ap_ook p hk).symm.trans z))) (h0 (fun l => o3 l.1))⟩⟩
theorem ay_ho (H : ap_OK p) (hAB : ap_AB p sA sB) (hm : m < 4) (hi : i < ap_Z p m) (hN : ap_NS p m NY) (post : Int32 → Prop)
    (h0 : ¬ ap_ho p m i → post 0) (h1 : ap_ho p m i → post 1) : wpY_handsOver post (kn, md, lv, up, dn, dp, bg, gY, oc, sh, rn, po, en, ap_oo p, sA, sB, ap_c p, ap_sz p, ap_L p, NY, PY, KY, va, fY, al, me, pt, h, lo, ou, es, td, ph) (nI m) (nI i) := by
  have hz := H.2.1 m
  have hk : 16 * m + i < 64 := by omega
  have hI : vp_in (nI (16 * m + i)) 64 := vp_in_nI hk (by omega)
  have ek : (nI (16 * m + i)).toNatClampNeg = 16 * m + i := nI_clamp (by omega)
  have h14 := H.1 (16 * m + i)
  have hA := h14.2.1
  have hB := h14.2.2.1
  have n : ∀ j, j < 64 → ap_O p (16 * m + i) ≠ j → ¬ nI (ap_O p (16 * m + i)) = nI j := fun j hj z => by rw [nI_eq (by omega) (by omega)]; exact z
  by_cases oc3 : ap_O p (16 * m + i) = 1 ∨ ap_O p (16 * m + i) = 4 ∨ ap_O p (16 * m + i) = 11
  · have eA : sA (nI (16 * m + i)).toNatClampNeg = nI (ap_A p (16 * m + i)) := by rw [ek]; exact (hAB (16 * m + i)).1 (by omega) (by omega)
    have eB : sB (nI (16 * m + i)).toNatClampNeg = nI (ap_B p (16 * m + i)) := by rw [ek]; exact (hAB (16 * m + i)).2 (by omega)
    have on : ap_on p (16 * m + i) := ⟨by omega, by omega, by omega⟩
    have njp : ¬ ap_jp p (16 * m + i) := fun z => by unfold ap_jp at z; omega
    have L : ∀ x5 z0 : Int32, ((ap_A p (16 * m + i) = ap_B p (16 * m + i) ∧ x5 = 1) ∨ (ap_A p (16 * m + i) ≠ ap_B p (16 * m + i) ∧ x5 = 0)) → ((ap_la p m i ∧ z0 = 0) ∨ (¬ ap_la p m i ∧ z0 = 1)) →
        wY_handsOver_60 post (nI (16 * m + i)) (nI (ap_O p (16 * m + i))) x5 z0 kn md lv up dn dp bg gY oc sh rn po en (ap_oo p) sA sB (ap_c p) (ap_sz p) (ap_L p) NY PY KY va fY al me pt h lo ou es td ph := by
      intro x5 z0 q5 q0
      by_cases c3 : ap_O p (16 * m + i) = 11
      · refine br_t (by rw [c3]; rfl) ⟨hI, ?_⟩
        obtain ⟨ec, lc⟩ := h14.2.2.2.2.2 c3
        rw [ap_ck p hk, ec, nI_clamp (by omega)]
        refine ⟨vp_in_nI lc (by omega), br_c (fun c => ?_) (fun c => h0 (fun z => by rcases z with z | z | z <;> have := z.1 <;> first | omega | exact c z.2.2))⟩
        rcases q5 with ⟨a, e⟩ | ⟨a, e⟩
        · exact br_f (by rw [e]; decide) (h1 (Or.inr (Or.inr ⟨c3, Or.inr a, c⟩)))
        · rcases q0 with ⟨b, f⟩ | ⟨b, f⟩
          · exact br_t e (br_t f (h1 (Or.inr (Or.inr ⟨c3, Or.inl b, c⟩))))
          · exact br_t e (br_f (by rw [f]; decide) (h0 (fun z => by rcases z with z | z | z <;> have := z.1 <;> first | omega | (rcases z.2.1 with y | y; exact b y; exact a y))))
      refine br_f (n 11 (by omega) c3) ?_
      by_cases c1 : ap_O p (16 * m + i) = 1
      · refine br_t (by rw [c1]; rfl) ?_
        rcases q5 with ⟨a, e⟩ | ⟨a, e⟩
        · exact br_f (by rw [e]; decide) (h0 (fun z => by rcases z with z | z | z <;> have := z.1 <;> first | omega | exact z.2.2 a))
        · rcases q0 with ⟨b, f⟩ | ⟨b, f⟩
          · exact br_t e (br_t f (h1 (Or.inl ⟨c1, b, a⟩)))
          · exact br_t e (br_f (by rw [f]; decide) (h0 (fun z => by rcases z with z | z | z <;> have := z.1 <;> first | omega | exact b z.2.1)))
      have c2 : ap_O p (16 * m + i) = 4 := by omega
      refine br_f (n 1 (by omega) c1) (br_t (by rw [c2]; rfl) ⟨hI, ?_⟩)
      obtain ⟨ec, lc⟩ := h14.2.2.2.1 (Or.inr c2)
      rw [ap_ck p hk, ec]
      refine pk_le 2 (ap_C p (16 * m + i)) (fun c => h0 (fun z => by rcases z with z | z | z <;> have := z.1 <;> first | omega | (have := z.2.2.2; omega))) (fun c => ?_)
      rcases q5 with ⟨a, e⟩ | ⟨a, e⟩
      · exact br_f (by rw [e]; decide) (h0 (fun z => by rcases z with z | z | z <;> have := z.1 <;> first | omega | exact z.2.2.1 a))
      · rcases q0 with ⟨b, f⟩ | ⟨b, f⟩
        · exact br_t e (br_t f (h1 (Or.inr (Or.inl ⟨c2, b, a, by omega⟩))))
        · exact br_t e (br_f (by rw [f]; decide) (h0 (fun z => by rcases z with z | z | z <;> have := z.1 <;> first | omega | exact b z.2.1)))
    have mid : ∀ x5 : Int32, ((ap_A p (16 * m + i) = ap_B p (16 * m + i) ∧ x5 = 1) ∨ (ap_A p (16 * m + i) ≠ ap_B p (16 * m + i) ∧ x5 = 0)) → wY_handsOver_35 post (nI m) (nI i) (nI (16 * m + i)) (nI (ap_O p (16 * m + i))) x5 kn md lv up dn dp bg gY oc sh rn po en (ap_oo p) sA sB (ap_c p) (ap_sz p) (ap_L p) NY PY KY va fY al me pt h lo ou es td ph := by
      intro x5 q5
      refine ay_nb H hm (by omega) _ (fun x hx => ⟨hI, ?_⟩)
      rw [eB]
      have hl : bt x (ap_B p (16 * m + i)) = true ↔ ¬ ap_la p m i := by
        rw [hx _ (by omega)]
        unfold ap_la
        rw [Classical.not_not]
        constructor
        · rintro ⟨j, ⟨j1, ⟨j2, j3⟩ | ⟨j2, j3⟩⟩, j4⟩
          · subst j3; exact ⟨j1, (hN _ j1 _ (by omega)).mp j4⟩
          · exact absurd j2 njp
        · rintro ⟨j1, j2⟩
          exact ⟨i + 1, ⟨j1, Or.inl ⟨on, rfl⟩⟩, (hN _ j1 _ (by omega)).mpr j2⟩
      refine br_c (fun c => L x5 0 q5 (Or.inl ⟨?_, rfl⟩)) (fun c => L x5 1 q5 (Or.inr ⟨?_, rfl⟩))
      · rw [ad_shr1 _ (by omega)] at c
        apply Classical.byContradiction
        intro z
        rw [hl.mpr z] at c; exact absurd c (by decide)
      · rw [ad_shr1 _ (by omega)] at c
        exact hl.mp (ad_nf c)
    exact nm_r (ap_yk m i) ⟨hI, nm_r (ap_ook p hk) ⟨hI, hI, pk_eq _ _ (fun c => mid 1 (Or.inl ⟨c, rfl⟩)) (fun c => mid 0 (Or.inr ⟨c, rfl⟩)) eA eB⟩⟩
  · have no : ¬ ap_ho p m i := fun z => by rcases z with z | z | z <;> have := z.1 <;> omega
    have L : ∀ x5 z0 : Int32, wY_handsOver_60 post (nI (16 * m + i)) (nI (ap_O p (16 * m + i))) x5 z0 kn md lv up dn dp bg gY oc sh rn po en (ap_oo p) sA sB (ap_c p) (ap_sz p) (ap_L p) NY PY KY va fY al me pt h lo ou es td ph := fun x5 z0 =>
      br_f (n 11 (by omega) (by omega)) (br_f (n 1 (by omega) (by omega)) (br_f (n 4 (by omega) (by omega)) (h0 no)))
    have mid : ∀ x5 : Int32, wY_handsOver_35 post (nI m) (nI i) (nI (16 * m + i)) (nI (ap_O p (16 * m + i))) x5 kn md lv up dn dp bg gY oc sh rn po en (ap_oo p) sA sB (ap_c p) (ap_sz p) (ap_L p) NY PY KY va fY al me pt h lo ou es td ph := fun x5 =>
      ay_nb H hm (by omega) _ (fun x hx => ⟨hI, br_c (fun _ => L x5 0) (fun _ => L x5 1)⟩)
    exact nm_r (ap_yk m i) ⟨hI, nm_r (ap_ook p hk) ⟨hI, hI, br_c (fun _ => mid 1) (fun _ => mid 0)⟩⟩
theorem ay_kb (H : ap_OK p) (hAB : ap_AB p sA sB) (hm : m < 4) (hi : i < ap_Z p m) (hP : ap_PS p m PY) : ∃ x : Int32, (∀ v, v < 32 → (bt x v = true ↔ (ap_gn p m i v ∨ bt (KY (16 * m + i)) v = true ∧ ¬ ap_kl p m i v))) ∧
    ∀ post : Int32 → Prop, post x → wpY_kept post (kn, md, lv, up, dn, dp, bg, gY, oc, sh, rn, po, en, ap_oo p, sA, sB, ap_c p, ap_sz p, ap_L p, NY, PY, KY, va, fY, al, me, pt, h, lo, ou, es, td, ph) (nI (16 * m + i)) := by
  have hz := H.2.1 m
  have hk : 16 * m + i < 64 := by omega
  have hI : vp_in (nI (16 * m + i)) 64 := vp_in_nI hk (by omega)
  have h14 := H.1 (16 * m + i)
  have sa := ad_b1 h14.2.1
  have sb := ad_b1 h14.2.2.1
  have he := ap_ook p hk
  have ek : (nI (16 * m + i)).toNatClampNeg = 16 * m + i := nI_clamp (by omega)
  have p1 := ap_Pl_1 (hP i hi)
  have p2 := ap_Pl_2 (hP i hi)
  have B : ∃ z : Int32, (∀ v, v < 32 → (bt z v = true ↔ bt (KY (16 * m + i)) v = true ∧ ¬ (ap_ho p m i ∧ v = ap_B p (16 * m + i)))) ∧ ∀ post : Int32 → Prop, wY_kept_47 post (nI (16 * m + i)) z (nI (ap_O p (16 * m + i))) ((1 : Int32) <<< (sA (16 * m + i) &&& 31)) kn md lv up dn dp bg gY oc sh rn po en (ap_oo p) sA sB (ap_c p) (ap_sz p) (ap_L p) NY PY KY va fY al me pt h lo ou es td ph → wpY_kept post (kn, md, lv, up, dn, dp, bg, gY, oc, sh, rn, po, en, ap_oo p, sA, sB, ap_c p, ap_sz p, ap_L p, NY, PY, KY, va, fY, al, me, pt, h, lo, ou, es, td, ph) (nI (16 * m + i)) := by
    by_cases c : ap_ho p m i
    · have eB : sB (16 * m + i) = nI (ap_B p (16 * m + i)) := (hAB (16 * m + i)).2 (by rcases c with c | c | c <;> have := c.1 <;> omega)
      refine ⟨KY (16 * m + i) &&& (((1 : Int32) <<< (nI (ap_B p (16 * m + i)) &&& 31)) ^^^ (-1)), fun v hv => ?_, fun post hp => ⟨hI, nm_e ⟨hI, nm_r he ⟨hI, nm_e ⟨hI, ?_⟩⟩⟩⟩⟩
      · rw [b_and, ad_not _ hv, Bool.and_eq_true, ad_bn (sb v hv)]
        exact ⟨fun q => ⟨q.1, fun z => q.2 z.2⟩, fun q => ⟨q.1, fun z => q.2 ⟨c, z⟩⟩⟩
      · rw [ek, eB]
        exact br_t (p2.mpr c) ⟨hI, nm_e hp⟩
    · refine ⟨KY (16 * m + i), fun v hv => ⟨fun q => ⟨q, fun z => c z.1⟩, fun q => q.1⟩, fun post hp => ⟨hI, nm_e ⟨hI, nm_r he ⟨hI, nm_e ⟨hI, ?_⟩⟩⟩⟩⟩
      rw [ek]
      exact br_f (fun z => c (p2.mp z)) hp
  obtain ⟨z, hzb, wz⟩ := B
  rcases ap_14 H (16 * m + i) with e | e | e | e | e | e | e | e | e | e | e | e | e | e
  · rw [e] at wz
    rw [(hAB (16 * m + i)).1 (by omega) (by omega)] at wz
    have l : ¬ ap_ln p m i := fun q => by have := q.1; omega
    refine ⟨z ||| ((1 : Int32) <<< (nI (ap_A p (16 * m + i)) &&& 31)), fun v hv => ?_, fun post hp => wz post (br_f (by decide) ⟨hI, br_f (by rw [ek]; exact fun z => l (p1.mp z)) (br_t (by decide) (hp))⟩)⟩
    rw [b_or, Bool.or_eq_true, sa v hv, hzb v hv]
    unfold ap_gn ap_kl
    simp [e, l, or_comm]
  · rw [e] at wz
    rw [(hAB (16 * m + i)).1 (by omega) (by omega)] at wz
    have l : ¬ ap_ln p m i := fun q => by have := q.1; omega
    refine ⟨z ||| ((1 : Int32) <<< (nI (ap_A p (16 * m + i)) &&& 31)), fun v hv => ?_, fun post hp => wz post (br_f (by decide) ⟨hI, br_f (by rw [ek]; exact fun z => l (p1.mp z)) (br_f (by decide) (br_t (by decide) (hp)))⟩)⟩
    rw [b_or, Bool.or_eq_true, sa v hv, hzb v hv]
    unfold ap_gn ap_kl
    simp [e, l, or_comm]
  · rw [e] at wz
    rw [(hAB (16 * m + i)).1 (by omega) (by omega)] at wz
    have l : ¬ ap_ln p m i := fun q => by have := q.1; omega
    refine ⟨z &&& (((1 : Int32) <<< (nI (ap_A p (16 * m + i)) &&& 31)) ^^^ (-1)), fun v hv => ?_, fun post hp => wz post (br_t (by decide) hp)⟩
    rw [b_and, ad_not _ hv, Bool.and_eq_true, ad_bn (sa v hv), hzb v hv]
    unfold ap_gn ap_kl
    simp [e, l, and_assoc]
  · rw [e] at wz
    rw [(hAB (16 * m + i)).1 (by omega) (by omega)] at wz
    by_cases l : ap_ln p m i
    · refine ⟨z &&& (((1 : Int32) <<< (nI (ap_A p (16 * m + i)) &&& 31)) ^^^ (-1)), fun v hv => ?_, fun post hp => wz post (br_f (by decide) ⟨hI, br_t (by rw [ek]; exact p1.mpr l) hp⟩)⟩
      rw [b_and, ad_not _ hv, Bool.and_eq_true, ad_bn (sa v hv), hzb v hv]
      unfold ap_gn ap_kl
      simp only [e, l, not_true, and_false, false_or, or_true, true_and, not_or, and_assoc]
    · refine ⟨z ||| ((1 : Int32) <<< (nI (ap_A p (16 * m + i)) &&& 31)), fun v hv => ?_, fun post hp => wz post (br_f (by decide) ⟨hI, br_f (by rw [ek]; exact fun z => l (p1.mp z)) (br_f (by decide) (br_f (by decide) (br_t (by decide) (hp))))⟩)⟩
      rw [b_or, Bool.or_eq_true, sa v hv, hzb v hv]
      unfold ap_gn ap_kl
      simp [e, l, or_comm]
  · rw [e] at wz
    rw [(hAB (16 * m + i)).1 (by omega) (by omega)] at wz
    have l : ¬ ap_ln p m i := fun q => by have := q.1; omega
    refine ⟨z, fun v hv => ?_, fun post hp => wz post (br_f (by decide) ⟨hI, br_f (by rw [ek]; exact fun z => l (p1.mp z)) (br_f (by decide) (br_f (by decide) (br_f (by decide) (br_f (by decide) (br_f (by decide) (hp))))))⟩)⟩
    rw [hzb v hv]
    unfold ap_gn ap_kl
    simp [e, l]
  · rw [e] at wz
    rw [(hAB (16 * m + i)).1 (by omega) (by omega)] at wz
    have l : ¬ ap_ln p m i := fun q => by have := q.1; omega
    refine ⟨z, fun v hv => ?_, fun post hp => wz post (br_f (by decide) ⟨hI, br_f (by rw [ek]; exact fun z => l (p1.mp z)) (br_f (by decide) (br_f (by decide) (br_f (by decide) (br_f (by decide) (br_f (by decide) (hp))))))⟩)⟩
    rw [hzb v hv]
    unfold ap_gn ap_kl
    simp [e, l]
  · rw [e] at wz
    rw [(hAB (16 * m + i)).1 (by omega) (by omega)] at wz
    have l : ¬ ap_ln p m i := fun q => by have := q.1; omega
    refine ⟨z, fun v hv => ?_, fun post hp => wz post (br_f (by decide) ⟨hI, br_f (by rw [ek]; exact fun z => l (p1.mp z)) (br_f (by decide) (br_f (by decide) (br_f (by decide) (br_f (by decide) (br_f (by decide) (hp))))))⟩)⟩
    rw [hzb v hv]
    unfold ap_gn ap_kl
    simp [e, l]
  · rw [e] at wz
    rw [(hAB (16 * m + i)).1 (by omega) (by omega)] at wz
    have l : ¬ ap_ln p m i := fun q => by have := q.1; omega
    refine ⟨z, fun v hv => ?_, fun post hp => wz post (br_f (by decide) ⟨hI, br_f (by rw [ek]; exact fun z => l (p1.mp z)) (br_f (by decide) (br_f (by decide) (br_f (by decide) (br_f (by decide) (br_f (by decide) (hp))))))⟩)⟩
    rw [hzb v hv]
    unfold ap_gn ap_kl
    simp [e, l]
  · rw [e] at wz
    rw [(hAB (16 * m + i)).1 (by omega) (by omega)] at wz
    have l : ¬ ap_ln p m i := fun q => by have := q.1; omega
    refine ⟨z ||| ((1 : Int32) <<< (nI (ap_A p (16 * m + i)) &&& 31)), fun v hv => ?_, fun post hp => wz post (br_f (by decide) ⟨hI, br_f (by rw [ek]; exact fun z => l (p1.mp z)) (br_f (by decide) (br_f (by decide) (br_f (by decide) (br_t (by decide) (hp)))))⟩)⟩
    rw [b_or, Bool.or_eq_true, sa v hv, hzb v hv]
    unfold ap_gn ap_kl
    simp [e, l, or_comm]
  · rw [e] at wz
    rw [(hAB (16 * m + i)).1 (by omega) (by omega)] at wz
    have l : ¬ ap_ln p m i := fun q => by have := q.1; omega
    refine ⟨z, fun v hv => ?_, fun post hp => wz post (br_f (by decide) ⟨hI, br_f (by rw [ek]; exact fun z => l (p1.mp z)) (br_f (by decide) (br_f (by decide) (br_f (by decide) (br_f (by decide) (br_f (by decide) (hp))))))⟩)⟩
    rw [hzb v hv]
    unfold ap_gn ap_kl
    simp [e, l]
  · rw [e] at wz
    have l : ¬ ap_ln p m i := fun q => by have := q.1; omega
    refine ⟨z, fun v hv => ?_, fun post hp => wz post (br_f (by decide) ⟨hI, br_f (by rw [ek]; exact fun z => l (p1.mp z)) (br_f (by decide) (br_f (by decide) (br_f (by decide) (br_f (by decide) (br_f (by decide) (hp))))))⟩)⟩
    rw [hzb v hv]
    unfold ap_gn ap_kl
    simp [e, l]
  · rw [e] at wz
    rw [(hAB (16 * m + i)).1 (by omega) (by omega)] at wz
    have l : ¬ ap_ln p m i := fun q => by have := q.1; omega
    refine ⟨z ||| ((1 : Int32) <<< (nI (ap_A p (16 * m + i)) &&& 31)), fun v hv => ?_, fun post hp => wz post (br_f (by decide) ⟨hI, br_f (by rw [ek]; exact fun z => l (p1.mp z)) (br_f (by decide) (br_f (by decide) (br_f (by decide) (br_f (by decide) (br_t (by decide) (hp))))))⟩)⟩
    rw [b_or, Bool.or_eq_true, sa v hv, hzb v hv]
    unfold ap_gn ap_kl
    simp [e, l, or_comm]
  · rw [e] at wz
    rw [(hAB (16 * m + i)).1 (by omega) (by omega)] at wz
    have l : ¬ ap_ln p m i := fun q => by have := q.1; omega
    refine ⟨z, fun v hv => ?_, fun post hp => wz post (br_f (by decide) ⟨hI, br_f (by rw [ek]; exact fun z => l (p1.mp z)) (br_f (by decide) (br_f (by decide) (br_f (by decide) (br_f (by decide) (br_f (by decide) (hp))))))⟩)⟩
    rw [hzb v hv]
    unfold ap_gn ap_kl
    simp [e, l]
  · rw [e] at wz
    have l : ¬ ap_ln p m i := fun q => by have := q.1; omega
    refine ⟨z, fun v hv => ?_, fun post hp => wz post (br_f (by decide) ⟨hI, br_f (by rw [ek]; exact fun z => l (p1.mp z)) (br_f (by decide) (br_f (by decide) (br_f (by decide) (br_f (by decide) (br_f (by decide) (hp))))))⟩)⟩
    rw [hzb v hv]
    unfold ap_gn ap_kl
    simp [e, l]
end
end
section
/-- only places of METHOD m are written -/
def al_out (p : ap_T) (m : Nat) (N N' : Nat → Int32) : Prop := ∀ k, ¬ (k / 16 = m ∧ k % 16 < ap_Z p m) → N' k = N k
theorem al_out_u {p : ap_T} {m i : Nat} {N N' : Nat → Int32} (h : al_out p m N N') (hi : i < ap_Z p m ∧ i < 16) (x : Int32) : al_out p m N (upd N' (16 * m + i) x) := fun k hk => by
  rw [pk_un (by intro z; apply hk; rw [z]; have e1 : (16 * m + i) / 16 = m := by omega
                have e2 : (16 * m + i) % 16 = i := by omega
                rw [e1, e2]; exact ⟨rfl, hi.1⟩)]
  exact h k hk
theorem al_out_r {p : ap_T} {m : Nat} {N : Nat → Int32} : al_out p m N N := fun _ _ => rfl
theorem al_out_t {p : ap_T} {m : Nat} {N N' N'' : Nat → Int32} (h : al_out p m N N') (h' : al_out p m N' N'') : al_out p m N N'' := fun k hk => (h' k hk).trans (h k hk)
/-! KEEPING: the reference's array: -1 where no way leads -/
def al_S (m : Nat) (K : Nat → Int32) : Nat → Nat → Bool := fun j v => !bt (K (16 * m + j)) 31 && (decide (v = 6) || bt (K (16 * m + j)) v)
def al_G (p : ap_T) (m : Nat) (K : Nat → Int32) : Prop := ∀ i, i < ap_Z p m →
  K (16 * m + i) = -1 ∨ (ap_kp p m i 6 ∧ ∀ v, v < 32 → bt (K (16 * m + i)) v = true → v < 6 ∧ ap_kp p m i v)
section
variable {p : ap_T} {m : Nat} {N K : Nat → Int32}
theorem al_31 (G : al_G p m K) {i : Nat} (hi : i < ap_Z p m) : (K (16 * m + i) = -1 ∧ bt (K (16 * m + i)) 31 = true) ∨ (bt (K (16 * m + i)) 31 = false ∧ ap_kp p m i 6 ∧ ∀ v, v < 32 → bt (K (16 * m + i)) v = true → v < 6 ∧ ap_kp p m i v) := by
  rcases G i hi with h | h
  · exact Or.inl ⟨h, by rw [h]; decide⟩
  · refine Or.inr ⟨?_, h⟩
    cases e : bt (K (16 * m + i)) 31 with
    | false => rfl
    | true => have := (h.2 31 (by omega) e).1; omega
theorem al_S6 {j : Nat} : al_S m K j 6 = true ↔ bt (K (16 * m + j)) 31 = false := by
  unfold al_S; cases bt (K (16 * m + j)) 31 <;> simp
theorem al_Sv {j v : Nat} (hv : v < 6) : al_S m K j v = true ↔ bt (K (16 * m + j)) 31 = false ∧ bt (K (16 * m + j)) v = true := by
  unfold al_S
  have : ¬ v = 6 := by omega
  cases bt (K (16 * m + j)) 31 <;> simp [this]
theorem al_G_so (G : al_G p m K) : ak_so p m (al_S m K) := by
  intro i hi v hv h
  rcases al_31 G hi with ⟨_, q⟩ | ⟨q, q6, qv⟩
  · by_cases c : v = 6
    · subst c; rw [al_S6, q] at h; exact absurd h (by decide)
    · rw [al_Sv (by omega), q] at h; exact absurd h.1 (by decide)
  · by_cases c : v = 6
    · subst c; exact q6
    · rw [al_Sv (by omega)] at h; exact (qv v (by omega) h.2).2
/-- z: what j had, 0 if no way led to it -/
theorem al_re (H : ap_OK p) (hN : ap_NS p m N) (G : al_G p m K) {j : Nat} (hj : j < ap_Z p m) (h6 : ap_kp p m j 6) {x : Int32}
    (hx : ∀ v, v < 6 → bt x v = true → ap_nd p m j v → ap_kp p m j v) (z : Int32) (hz : (bt (K (16 * m + j)) 31 = true ∧ z = 0) ∨ (bt (K (16 * m + j)) 31 = false ∧ z = K (16 * m + j))) (a : Int32) (ha : a = z ||| (x &&& N (16 * m + j))) :
    al_G p m (upd K (16 * m + j) a) ∧ (∀ i, i < ap_Z p m → ∀ v, v ≤ 6 → al_S m K i v = true → al_S m (upd K (16 * m + j) a) i v = true) ∧
    (al_S m (upd K (16 * m + j) a) j 6 = true ∧ ∀ v, v < 6 → ap_nd p m j v → bt x v = true → al_S m (upd K (16 * m + j) a) j v = true) ∧
    (a ≠ K (16 * m + j) → ak_ca p m (al_S m K) < ak_ca p m (al_S m (upd K (16 * m + j) a))) := by
  have hb : ∀ v, v < 32 → (bt a v = true ↔ bt z v = true ∨ (bt x v = true ∧ ap_nd p m j v)) := by
    intro v hv
    rw [ha, b_or, b_and, Bool.or_eq_true, Bool.and_eq_true, hN j hj v hv]
  have zb : ∀ v, v < 32 → bt z v = true → v < 6 ∧ ap_kp p m j v := by
    intro v hv q
    rcases hz with ⟨_, e⟩ | ⟨e1, e2⟩
    · rw [e, b_0] at q; exact absurd q (by decide)
    · rcases al_31 G hj with ⟨_, w⟩ | ⟨_, _, w⟩
      · rw [e1] at w; exact absurd w (by decide)
      · rw [e2] at q; exact w v hv q
  have a6 : ∀ v, v < 32 → bt a v = true → v < 6 ∧ ap_kp p m j v := by
    intro v hv q
    rcases (hb v hv).mp q with q | ⟨q1, q2⟩
    · exact zb v hv q
    · have v6 := ap_nd_6 H q2
      exact ⟨v6, hx v v6 q1 q2⟩
  have a31 : bt a 31 = false := by
    cases e : bt a 31 with
    | false => rfl
    | true => have := (a6 31 (by omega) e).1; omega
  have sub : ∀ i, i < ap_Z p m → ∀ v, v ≤ 6 → al_S m K i v = true → al_S m (upd K (16 * m + j) a) i v = true := by
    intro i hi v hv h
    by_cases e : i = j
    · subst e
      by_cases c : v = 6
      · subst c; rw [al_S6, pk_us]; exact a31
      · rw [al_Sv (by omega)] at h ⊢
        rw [pk_us]
        refine ⟨a31, (hb v (by omega)).mpr (Or.inl ?_)⟩
        rcases hz with ⟨e1, _⟩ | ⟨_, e2⟩
        · rw [e1] at h; exact absurd h.1 (by decide)
        · rw [e2]; exact h.2
    · unfold al_S at h ⊢
      rw [pk_un (by omega)]; exact h
  refine ⟨fun i hi => ?_, sub, ⟨by rw [al_S6, pk_us]; exact a31, fun v hv hn hbx => ?_⟩, fun hc => ?_⟩
  · by_cases e : i = j
    · subst e
      rw [pk_us]
      exact Or.inr ⟨h6, a6⟩
    · rw [pk_un (by omega)]; exact G i hi
  · rw [al_Sv hv, pk_us]; exact ⟨a31, (hb v (by omega)).mpr (Or.inr ⟨hbx, hn⟩)⟩
  · rcases hz with ⟨e1, e2⟩ | ⟨e1, e2⟩
    · refine ak_lt sub hj (v := 6) (by omega) ?_ (by rw [al_S6, pk_us]; exact a31)
      cases e : al_S m K j 6 with
      | false => rfl
      | true => rw [al_S6, e1] at e; exact absurd e (by decide)
    · have ex : ∃ v, v < 32 ∧ bt a v = true ∧ bt (K (16 * m + j)) v = false := by
        apply Classical.byContradiction
        intro nn
        apply hc
        refine b_ext (fun v hv => ?_)
        cases e : bt (K (16 * m + j)) v with
        | true => exact (hb v hv).mpr (Or.inl (by rw [e2]; exact e))
        | false =>
          cases e' : bt a v with
          | false => rfl
          | true => exact absurd ⟨v, hv, e', e⟩ nn
      obtain ⟨v, hv, q1, q2⟩ := ex
      have v6 := (a6 v hv q1).1
      refine ak_lt sub hj (v := v) (by omega) ?_ (by rw [al_Sv v6, pk_us]; exact ⟨a31, q1⟩)
      cases e : al_S m K j v with
      | false => rfl
      | true => rw [al_Sv v6, q2] at e; exact absurd e.2 (by decide)
def al_T (p : ap_T) (m : Nat) (K0 K : Nat → Int32) (fl : Int32) : Prop :=
  al_G p m K ∧ al_out p m K0 K ∧ (∀ i, i < ap_Z p m → ∀ v, v ≤ 6 → al_S m K0 i v = true → al_S m K i v = true) ∧
  ((fl = 0 ∧ K = K0) ∨ (fl = 1 ∧ ak_ca p m (al_S m K0) < ak_ca p m (al_S m K)))
theorem al_T01 {K0 : Nat → Int32} {fl : Int32} (T : al_T p m K0 K fl) : fl = 0 ∨ fl = 1 := by
  rcases T.2.2.2 with ⟨f, _⟩ | ⟨f, _⟩
  · exact Or.inl f
  · exact Or.inr f
theorem al_T0 {K0 : Nat → Int32} {fl : Int32} (T : al_T p m K0 K fl) (h : fl = 0) : K = K0 := by
  rcases T.2.2.2 with ⟨_, f⟩ | ⟨f, _⟩
  · exact f
  · rw [h] at f; exact absurd f (by decide)
end
section
variable {p : ap_T} {kn md lv up dn dp bg gY oc sh rn po en : Int32} {sA sB NY PY KY va fY al me pt h lo ou es td ph : Nat → Int32}
variable {m i : Nat}
/-- what is known of place s behind i when nothing is new -/
def al_C (p : ap_T) (m i : Nat) (K0 : Nat → Int32) (s : Nat) : Prop :=
  al_S m K0 i 6 = true → ap_sc p m i s → al_S m K0 s 6 = true ∧ ∀ v, v < 6 → ap_nd p m s v → (ap_gn p m i v ∨ al_S m K0 i v = true ∧ ¬ ap_kl p m i v) → al_S m K0 s v = true
theorem ay_spl (H : ap_OK p) (hAB : ap_AB p sA sB) (hm : m < 4) (hi : i < ap_Z p m) (hN : ap_NS p m NY) (hP : ap_PS p m PY) (K0 : Nat → Int32) (fl set : Int32) (hs : ∀ j, j < 32 → (bt set j = true ↔ ap_sc p m i j)) (hf : fl = 0 ∨ fl = 1) (post : Int32 → SY → Prop)
    (hp : ∀ KY r, (r = 0 ∨ r = 1) → al_T p m K0 KY (fl ||| r) → (fl ||| r = 0 → ∀ s, s < ap_Z p m → al_C p m i K0 s) → post r (kn, md, lv, up, dn, dp, bg, gY, oc, sh, rn, po, en, ap_oo p, sA, sB, ap_c p, ap_sz p, ap_L p, NY, PY, KY, va, fY, al, me, pt, h, lo, ou, es, td, ph)) :
    ∀ d j, j + d = ap_Z p m → ∀ KY nw, (nw = 0 ∨ nw = 1) → al_T p m K0 KY (fl ||| nw) → (fl ||| nw = 0 → ∀ s, s < j → al_C p m i K0 s) → wY_spread_24 post (nI m) (nI (16 * m + i)) set kn md lv up dn dp bg gY oc sh rn po en (d + 1) nw (nI (16 * m + j)) (ap_oo p) sA sB (ap_c p) (ap_sz p) (ap_L p) NY PY KY va fY al me pt h lo ou es td ph := by
  have hz := H.2.1 m
  have hk : 16 * m + i < 64 := by omega
  have hI : vp_in (nI (16 * m + i)) 64 := vp_in_nI hk (by omega)
  have ek : (nI (16 * m + i)).toNatClampNeg = 16 * m + i := nI_clamp (by omega)
  have eZ : 16 * nI m + ap_sz p (nI m).toNatClampNeg = nI (16 * m + ap_Z p m) := by rw [ap_szm p hm, ap_yk]
  intro d
  induction d with
  | zero =>
    intro j hj KY nw hn T hc
    have e : j = ap_Z p m := by omega
    subst e
    refine ⟨vp_in_nI hm (by omega), br_t (by rw [eZ]; exact nI_le (by omega) (by omega)) ⟨by rcases hn with e | e <;> rw [e] <;> rfl, hp KY nw hn T hc⟩⟩
  | succ d ih =>
    intro j hj KY nw hn T hc
    have hkj : 16 * m + j < 64 := by omega
    have hIj : vp_in (nI (16 * m + j)) 64 := vp_in_nI hkj (by omega)
    have ekj : (nI (16 * m + j)).toNatClampNeg = 16 * m + j := nI_clamp (by omega)
    have skip : (fl ||| nw = 0 → al_C p m i K0 j) → ∀ y : Int32, y = nI (16 * m + j) + 1 → wY_spread_24 post (nI m) (nI (16 * m + i)) set kn md lv up dn dp bg gY oc sh rn po en (d + 1) nw y (ap_oo p) sA sB (ap_c p) (ap_sz p) (ap_L p) NY PY KY va fY al me pt h lo ou es td ph := by
      intro hcj y ey
      rw [ey, nI_1]
      refine ih (j + 1) (by omega) KY nw hn T (fun f s hs' => ?_)
      by_cases e : s = j
      · subst e; exact hcj f
      · exact hc f s (by omega)
    refine ⟨vp_in_nI hm (by omega), br_f (by rw [eZ]; exact nI_ge (by omega) (by omega)) ⟨hI, ?_⟩⟩
    rw [ek]
    refine br_c (fun c => skip (fun f q => ?_)) (fun c => ?_)
    · rw [al_S6, ← al_T0 T f] at q
      rw [ad_neg, q] at c; exact absurd c (by decide)
    · have i31 : bt (KY (16 * m + i)) 31 = false := by
        rw [ad_neg] at c
        cases e : bt (KY (16 * m + i)) 31 with
        | false => rfl
        | true => exact absurd e c
      obtain ⟨_, i6, iv⟩ : bt (KY (16 * m + i)) 31 = false ∧ ap_kp p m i 6 ∧ ∀ v, v < 32 → bt (KY (16 * m + i)) v = true → v < 6 ∧ ap_kp p m i v := by
        rcases al_31 T.1 hi with ⟨_, w⟩ | w
        · rw [i31] at w; exact absurd w (by decide)
        · exact w
      have eis : nI (16 * m + j) - 16 * nI m = nI j := by
        have : (16 : Int32) * nI m = nI (16 * m) := pk_mul 16 m
        rw [this, pk_sub (by omega), show 16 * m + j - 16 * m = j by omega]
      rw [eis]
      refine br_c (fun c2 => skip (fun f _ q => ?_)) (fun c2 => ⟨hIj, ?_⟩)
      · rw [ad_shr1 _ (by omega), (hs j (by omega)).mpr q] at c2; exact absurd c2 (by decide)
      · have hsc : ap_sc p m i j := (hs j (by omega)).mp (by rw [ad_shr1 _ (by omega)] at c2; exact ad_nf c2)
        obtain ⟨x, hx, wx⟩ := ay_kb (kn := kn) (md := md) (lv := lv) (up := up) (dn := dn) (dp := dp) (bg := bg) (gY := gY) (oc := oc) (sh := sh) (rn := rn) (po := po) (en := en) (sA := sA) (sB := sB) (NY := NY) (PY := PY) (KY := KY) (va := va) (fY := fY) (al := al) (me := me) (pt := pt) (h := h) (lo := lo) (ou := ou) (es := es) (td := td) (ph := ph) H hAB hm hi hP
        have so : ∀ v, v < 6 → bt x v = true → ap_nd p m j v → ap_kp p m j v := by
          intro v hv hb hn
          rcases (hx v (by omega)).mp hb with g | ⟨g1, g2⟩
          · exact ad_kp_3 hv i6 hsc g hn
          · exact ad_kp_4 hv i6 (iv v (by omega) g1).2 g2 hsc hn
        have go : ∀ z : Int32, ((bt (KY (16 * m + j)) 31 = true ∧ z = 0) ∨ (bt (KY (16 * m + j)) 31 = false ∧ z = KY (16 * m + j))) →
            wY_spread_88 post (wY_spread_24 post (nI m) (nI (16 * m + i)) set kn md lv up dn dp bg gY oc sh rn po en (d + 1)) (nI m) (nI (16 * m + i)) set nw (nI (16 * m + j)) z kn md lv up dn dp bg gY oc sh rn po en (ap_oo p) sA sB (ap_c p) (ap_sz p) (ap_L p) NY PY KY va fY al me pt h lo ou es td ph := by
          intro z hzz
          obtain ⟨A1, A2, A3, A4⟩ := al_re H hN T.1 hsc.1 (ad_kp_2 i6 hsc) so z hzz _ rfl
          refine wx _ ⟨hIj, nm_e ⟨hIj, ?_⟩⟩
          rw [ekj]
          refine br_c (fun c3 => skip (fun f q _ => ?_)) (fun c3 => ⟨hIj, nm_e (nm_r (nI_1 _) ?_)⟩)
          · rw [ad_updS _ _ _ c3.symm] at A3
            have eK := al_T0 T f
            refine ⟨by rw [← eK]; exact A3.1, fun v hv hn g => ?_⟩
            rw [← eK]
            refine A3.2 v hv hn ((hx v (by omega)).mpr ?_)
            rcases g with g | ⟨g1, g2⟩
            · exact Or.inl g
            · rw [al_Sv hv, ← eK] at g1; exact Or.inr ⟨g1.2, g2⟩
          · have o1 : fl ||| (1 : Int32) = 1 := by rcases hf with e | e <;> rw [e] <;> decide
            rw [show 16 * m + j + 1 = 16 * m + (j + 1) by omega]
            refine ih (j + 1) (by omega) _ 1 (Or.inr rfl) ⟨A1, al_out_u T.2.1 (by omega) _, fun a ha v hv q => A2 a ha v hv (T.2.2.1 a ha v hv q), Or.inr ⟨o1, Nat.lt_of_le_of_lt (ak_mono T.2.2.1) (A4 c3)⟩⟩ (fun f => ?_)
            rw [o1] at f; exact absurd f (by decide)
        rw [ekj]
        refine br_c (fun c3 => ⟨hIj, go _ (Or.inr ⟨?_, rfl⟩)⟩) (fun c3 => go 0 (Or.inl ⟨?_, rfl⟩))
        · cases e : bt (KY (16 * m + j)) 31 with
          | false => rfl
          | true => exact absurd c3 (Int32.not_le.mpr ((ad_neg _).mpr e))
        · exact (ad_neg _).mp (Int32.not_le.mp c3)
theorem ay_sp (H : ap_OK p) (hAB : ap_AB p sA sB) (hm : m < 4) (hi : i < ap_Z p m) (hN : ap_NS p m NY) (hP : ap_PS p m PY) (K0 : Nat → Int32) (fl : Int32) (T : al_T p m K0 KY fl) (post : Int32 → SY → Prop)
    (hp : ∀ KY r, (r = 0 ∨ r = 1) → al_T p m K0 KY (fl ||| r) → (fl ||| r = 0 → ak_cl p m (al_S m K0) i) → post r (kn, md, lv, up, dn, dp, bg, gY, oc, sh, rn, po, en, ap_oo p, sA, sB, ap_c p, ap_sz p, ap_L p, NY, PY, KY, va, fY, al, me, pt, h, lo, ou, es, td, ph)) : wpY_spread post (kn, md, lv, up, dn, dp, bg, gY, oc, sh, rn, po, en, ap_oo p, sA, sB, ap_c p, ap_sz p, ap_L p, NY, PY, KY, va, fY, al, me, pt, h, lo, ou, es, td, ph) (nI m) (nI i) := by
  have hz := H.2.1 m
  obtain ⟨x, hx, wx⟩ := ay_af (kn := kn) (md := md) (lv := lv) (up := up) (dn := dn) (dp := dp) (bg := bg) (gY := gY) (oc := oc) (sh := sh) (rn := rn) (po := po) (en := en) (sA := sA) (sB := sB) (NY := NY) (PY := PY) (KY := KY) (va := va) (fY := fY) (al := al) (me := me) (pt := pt) (h := h) (lo := lo) (ou := ou) (es := es) (td := td) (ph := ph) H hm (i := i) (by omega)
  refine nm_r (ap_yk m i) (wx _ (nm_r (e' := nI (16 * m + 0)) (pk_mul 16 m) ⟨ap_Z p m + 1, ?_⟩))
  refine ay_spl H hAB hm hi hN hP K0 fl x hx (al_T01 T) post (fun K' r hr T' hc => hp K' r hr T' (fun f q j hs => hc f j hs.1 q hs)) (ap_Z p m) 0 (by omega) KY 0 (Or.inl rfl) ?_ (fun _ s hs => by omega)
  rw [Int32.or_zero]; exact T
theorem ay_113 (n : Nat) : 112 - n + (if (1 : Int32) = 0 then 0 else 1) ≤ 113 := by
  rw [if_neg (by decide)]; omega
theorem ay_rounds (H : ap_OK p) (hAB : ap_AB p sA sB) (hm : m < 4) (hN : ap_NS p m NY) (hP : ap_PS p m PY) (post : SY → Prop) (J : Int32 → Int32 → Int32 → Int32 → Int32 → Int32 → Int32 → Int32 → Int32 → Int32 → Int32 → Int32 → Int32 → Int32 → (Nat → Int32) → (Nat → Int32) → (Nat → Int32) → (Nat → Int32) → (Nat → Int32) → (Nat → Int32) → (Nat → Int32) → (Nat → Int32) → (Nat → Int32) → (Nat → Int32) → (Nat → Int32) → (Nat → Int32) → (Nat → Int32) → (Nat → Int32) → (Nat → Int32) → (Nat → Int32) → (Nat → Int32) → (Nat → Int32) → (Nat → Int32) → (Nat → Int32) → Prop) (K1 : Nat → Int32)
    (hJ : ∀ KY, ap_KY p m KY → al_out p m K1 KY → J (nI m + 1) kn md lv up dn dp bg gY oc sh rn po en (ap_oo p) sA sB (ap_c p) (ap_sz p) (ap_L p) NY PY KY va fY al me pt h lo ou es td ph) :
    ∀ d KY fl, 112 - ak_ca p m (al_S m KY) + (if fl = 0 then 0 else 1) ≤ d → (fl = 0 ∨ fl = 1) → al_G p m KY → al_out p m K1 KY → (0 < ap_Z p m → al_S m KY 0 6 = true) → (0 < ap_Z p m → ap_L p m = 0 → ap_nd p m 0 0 → al_S m KY 0 0 = true) →
      (fl = 0 → ∀ i, i < ap_Z p m → ak_cl p m (al_S m KY) i) → wY_look_214 post J (nI m) (d + 1) fl kn md lv up dn dp bg gY oc sh rn po en (ap_oo p) sA sB (ap_c p) (ap_sz p) (ap_L p) NY PY KY va fY al me pt h lo ou es td ph := by
  have hz := H.2.1 m
  intro d
  have fin : ∀ KY, al_G p m KY → al_out p m K1 KY → (0 < ap_Z p m → al_S m KY 0 6 = true) → (0 < ap_Z p m → ap_L p m = 0 → ap_nd p m 0 0 → al_S m KY 0 0 = true) →
      (∀ i, i < ap_Z p m → ak_cl p m (al_S m KY) i) → J (nI m + 1) kn md lv up dn dp bg gY oc sh rn po en (ap_oo p) sA sB (ap_c p) (ap_sz p) (ap_L p) NY PY KY va fY al me pt h lo ou es td ph := by
    intro KY G o b1 b2 cl
    have D := ak_done (al_G_so G) b1 b2 cl
    refine hJ KY (fun i hi => ?_) o
    rcases al_31 G hi with ⟨e, w⟩ | ⟨w, w6, wv⟩
    · refine Or.inl ⟨fun q => ?_, e⟩
      have := (D i hi 6 (by omega)).mpr q
      rw [al_S6, w] at this; exact absurd this (by decide)
    · refine Or.inr ⟨w6, fun v hv => ⟨wv v hv, fun ⟨v6, q⟩ => ?_⟩⟩
      have := (D i hi v (by omega)).mpr q
      rw [al_Sv v6] at this; exact this.2
  induction d with
  | zero =>
    intro KY fl hd hf G o b1 b2 hc
    have f0 : fl = 0 := by
      rcases hf with f | f
      · exact f
      · rw [if_neg (by rw [f]; decide)] at hd; omega
    exact br_t f0 (nm_e (fin KY G o b1 b2 (hc f0)))
  | succ d ih =>
    intro KY fl hd hf G o b1 b2 hc
    rcases hf with f | f
    · exact br_t f (nm_e (fin KY G o b1 b2 (hc f)))
    · refine br_f (by rw [f]; decide) ⟨ap_Z p m + 1, ?_⟩
      rw [if_neg (by rw [f]; decide)] at hd
      have inner : ∀ e i, i + e = ap_Z p m → ∀ K' fl', al_T p m KY K' fl' → (fl' = 0 → ∀ j, j < i → ak_cl p m (al_S m KY) j) →
          wY_look_222 post J (wY_look_214 post J (nI m) (d + 1)) (nI m) (e + 1) fl' (nI i) kn md lv up dn dp bg gY oc sh rn po en (ap_oo p) sA sB (ap_c p) (ap_sz p) (ap_L p) NY PY K' va fY al me pt h lo ou es td ph := by
        intro e
        induction e with
        | zero =>
          intro i hi K' fl' T hc'
          have ei : i = ap_Z p m := by omega
          subst ei
          refine ⟨vp_in_nI hm (by omega), br_t (by rw [ap_szm p hm]; exact nI_le (by omega) (by omega)) ?_⟩
          obtain ⟨T1, T2, T3, T4⟩ := T
          refine ih K' fl' ?_ (al_T01 ⟨T1, T2, T3, T4⟩) T1 (al_out_t o T2) (fun q => T3 0 q 6 (by omega) (b1 q)) (fun q q1 q2 => T3 0 q 0 (by omega) (b2 q q1 q2)) ?_
          · rcases T4 with ⟨g, eK⟩ | ⟨g, lt⟩
            · rw [if_pos g, eK]; omega
            · rw [if_neg (by rw [g]; decide)]
              have := ak_ca_le (m := m) H (al_S m K')
              omega
          · intro g
            have eK := al_T0 ⟨T1, T2, T3, T4⟩ g
            rw [eK]; exact hc' g
        | succ e ihe =>
          intro i hi K' fl' T hc'
          refine ⟨vp_in_nI hm (by omega), br_f (by rw [ap_szm p hm]; exact nI_ge (by omega) (by omega)) ?_⟩
          refine ay_sp H hAB hm (by omega) hN hP KY fl' T _ (fun K'' r hr T' hcl => nm_e (nm_r (nI_1 i) (ihe (i + 1) (by omega) K'' _ T' (fun g j hj => ?_))))
          by_cases ej : j = i
          · subst ej; exact hcl g
          · exact hc' (ak_or0 (al_T01 T) hr g).1 j (by omega)
      exact inner (ap_Z p m) 0 (by omega) KY 0 ⟨G, al_out_r, fun _ _ _ _ q => q, Or.inl ⟨rfl, rfl⟩⟩ (fun _ j hj => by omega)
theorem ay_plans (H : ap_OK p) (hAB : ap_AB p sA sB) (hm : m < 4) (hN : ap_NS p m NY) (post : SY → Prop) (J : Int32 → Int32 → Int32 → Int32 → Int32 → Int32 → Int32 → Int32 → Int32 → Int32 → Int32 → Int32 → Int32 → Int32 → (Nat → Int32) → (Nat → Int32) → (Nat → Int32) → (Nat → Int32) → (Nat → Int32) → (Nat → Int32) → (Nat → Int32) → (Nat → Int32) → (Nat → Int32) → (Nat → Int32) → (Nat → Int32) → (Nat → Int32) → (Nat → Int32) → (Nat → Int32) → (Nat → Int32) → (Nat → Int32) → (Nat → Int32) → (Nat → Int32) → (Nat → Int32) → (Nat → Int32) → Prop) (P1 K1 : Nat → Int32)
    (hJ : ∀ PY KY, ap_PS p m PY → ap_KY p m KY → al_out p m P1 PY → al_out p m K1 KY → J (nI m + 1) kn md lv up dn dp bg gY oc sh rn po en (ap_oo p) sA sB (ap_c p) (ap_sz p) (ap_L p) NY PY KY va fY al me pt h lo ou es td ph) :
    ∀ d i, i + d = ap_Z p m → ∀ PY KY, al_out p m P1 PY → al_out p m K1 KY → (∀ j, j < i → ap_Pl p m j (PY (16 * m + j)) ∧ KY (16 * m + j) = -1) → wY_look_99 post J (nI m) kn md lv up dn dp bg gY oc sh rn po en (d + 1) (nI (16 * m + i)) (ap_oo p) sA sB (ap_c p) (ap_sz p) (ap_L p) NY PY KY va fY al me pt h lo ou es td ph := by
  have hz := H.2.1 m
  have eZ : 16 * nI m + ap_sz p (nI m).toNatClampNeg = nI (16 * m + ap_Z p m) := by rw [ap_szm p hm, ap_yk]
  have e0 : 16 * nI m = nI (16 * m) := pk_mul 16 m
  have ek0 : (nI (16 * m)).toNatClampNeg = 16 * m := nI_clamp (by omega)
  intro d
  induction d with
  | zero =>
    intro i hi PY KY o1 o2 z
    have hP : ap_PS p m PY := fun j hj => (z j (by omega)).1
    refine ⟨vp_in_nI hm (by omega), br_t (by rw [eZ]; exact nI_le (by omega) (by omega)) ⟨vp_in_nI hm (by omega), ?_⟩⟩
    rw [ap_szm p hm]
    refine pk_le _ 0 (fun c => ⟨114, ?_⟩) (fun c => ⟨vp_in_nI hm (by omega), ?_⟩)
    · exact ay_rounds H hAB hm hN hP post J K1 (fun K' h1 h2 => hJ PY K' hP h1 o1 h2) 113 KY 1 (ay_113 _) (Or.inr rfl) (fun j hj => by omega) o2 (fun q => by omega) (fun q => by omega) (fun q => absurd q (by decide))
    · have go : ∀ x : Int32, (∀ v, v < 32 → (bt x v = true ↔ v = 0 ∧ ap_L p m = 0 ∧ ap_nd p m 0 0)) → ∃ n, wY_look_214 post J (nI m) n 1 kn md lv up dn dp bg gY oc sh rn po en (ap_oo p) sA sB (ap_c p) (ap_sz p) (ap_L p) NY PY (upd KY (16 * m) x) va fY al me pt h lo ou es td ph := by
        intro x hx
        have x31 : bt x 31 = false := by
          cases e : bt x 31 with
          | false => rfl
          | true => have := ((hx 31 (by omega)).mp e).1; omega
        have u0 : upd KY (16 * m) x (16 * m + 0) = x := pk_us
        refine ⟨114, ay_rounds H hAB hm hN hP post J K1 (fun K' h1 h2 => hJ PY K' hP h1 o1 h2) 113 _ 1 (ay_113 _) (Or.inr rfl) (fun j hj => ?_) ?_ (fun q => ?_) (fun q q1 q2 => ?_) (fun q => absurd q (by decide))⟩
        · by_cases ej : j = 0
          · subst ej
            rw [u0]
            refine Or.inr ⟨ad_kp_0 hj, fun v hv hb => ?_⟩
            obtain ⟨w1, w2, w3⟩ := (hx v hv).mp hb
            subst w1
            exact ⟨by omega, ad_kp_1 hj w2 w3⟩
          · rw [pk_un (by omega)]; exact Or.inl (z j (by omega)).2
        · have := al_out_u (i := 0) o2 (by omega) x
          exact this
        · rw [al_S6, u0]; exact x31
        · rw [al_Sv (by omega), u0]; exact ⟨x31, (hx 0 (by omega)).mpr ⟨rfl, q1, q2⟩⟩
      have hI0 : vp_in (nI (16 * m)) 64 := vp_in_nI (by omega) (by omega)
      rw [e0, nI_clamp (n := m) (by omega)]
      refine br_c (fun c1 => ⟨hI0, hI0, nm_e ?_⟩) (fun c1 => ⟨hI0, nm_e ?_⟩)
      · rw [ek0]
        refine go _ (fun v hv => ?_)
        have hn := hN 0 (by omega) 0 (by omega)
        rw [Nat.add_zero] at hn
        rw [b_and, ad_bt1 v hv, Bool.and_eq_true, decide_eq_true_iff]
        constructor
        · rintro ⟨w1, w2⟩
          subst w2
          exact ⟨rfl, c1, hn.mp w1⟩
        · rintro ⟨w1, _, w3⟩
          subst w1
          exact ⟨hn.mpr w3, rfl⟩
      · rw [ek0]
        refine go 0 (fun v hv => ?_)
        rw [b_0]
        exact ⟨fun q => absurd q (by decide), fun q => absurd q.2.1 c1⟩
  | succ d ih =>
    intro i hi PY KY o1 o2 z
    have hI : vp_in (nI (16 * m + i)) 64 := vp_in_nI (by omega) (by omega)
    have eis : nI (16 * m + i) - 16 * nI m = nI i := by
      rw [e0, pk_sub (by omega), show 16 * m + i - 16 * m = i by omega]
    have st : ∀ x : Int32, ap_Pl p m i x → wY_look_156 post J (wY_look_99 post J (nI m) kn md lv up dn dp bg gY oc sh rn po en (d + 1)) (nI m) (nI (16 * m + i)) x (nI (16 * m + i)) kn md lv up dn dp bg gY oc sh rn po en (ap_oo p) sA sB (ap_c p) (ap_sz p) (ap_L p) NY PY KY va fY al me pt h lo ou es td ph := by
      intro x hx
      refine ⟨hI, nm_e ⟨hI, nm_e (nm_r (nI_1 _) ?_)⟩⟩
      rw [nI_clamp (by omega), show 16 * m + i + 1 = 16 * m + (i + 1) by omega]
      refine ih (i + 1) (by omega) _ _ (al_out_u o1 (by omega) x) (al_out_u o2 (by omega) _) (fun j hj => ?_)
      by_cases c : j = i
      · subst c; rw [pk_us, pk_us]; exact ⟨hx, rfl⟩
      · rw [pk_un (by omega), pk_un (by omega)]; exact z j (by omega)
    refine ⟨vp_in_nI hm (by omega), br_f (by rw [eZ]; exact nI_ge (by omega) (by omega)) ?_⟩
    rw [eis]
    refine ay_ln H hAB hm (by omega) hN _ (fun c => br_t rfl ?_) (fun c => br_f (by decide) (st 1 ⟨fun _ => rfl, fun q => absurd c q, fun q => absurd c q⟩))
    exact ay_ho H hAB hm (by omega) hN _ (fun c2 => br_t rfl (st 0 ⟨fun q => absurd q c, fun _ q => absurd q c2, fun _ _ => rfl⟩)) (fun c2 => br_f (by decide) (st 2 ⟨fun q => absurd q c, fun _ _ => rfl, fun _ q => absurd c2 q⟩))
theorem ay_need (H : ap_OK p) (hAB : ap_AB p sA sB) (hm : m < 4) (post : SY → Prop) (J : Int32 → Int32 → Int32 → Int32 → Int32 → Int32 → Int32 → Int32 → Int32 → Int32 → Int32 → Int32 → Int32 → Int32 → (Nat → Int32) → (Nat → Int32) → (Nat → Int32) → (Nat → Int32) → (Nat → Int32) → (Nat → Int32) → (Nat → Int32) → (Nat → Int32) → (Nat → Int32) → (Nat → Int32) → (Nat → Int32) → (Nat → Int32) → (Nat → Int32) → (Nat → Int32) → (Nat → Int32) → (Nat → Int32) → (Nat → Int32) → (Nat → Int32) → (Nat → Int32) → (Nat → Int32) → Prop) (N1 : Nat → Int32)
    (hJ : ∀ NY PY' KY', ap_NS p m NY → ap_PS p m PY' → ap_KY p m KY' → al_out p m N1 NY → al_out p m PY PY' → al_out p m KY KY' → J (nI m + 1) kn md lv up dn dp bg gY oc sh rn po en (ap_oo p) sA sB (ap_c p) (ap_sz p) (ap_L p) NY PY' KY' va fY al me pt h lo ou es td ph) :
    ∀ d i, i + d = ap_Z p m → ∀ NY, al_out p m N1 NY → (∀ j, j < i → ∀ v, v < 32 → (bt (NY (16 * m + j)) v = true ↔ ap_nd p m j v)) → wY_look_25 post J (nI m) kn md lv up dn dp bg gY oc sh rn po en (d + 1) (nI (16 * m + i)) (ap_oo p) sA sB (ap_c p) (ap_sz p) (ap_L p) NY PY KY va fY al me pt h lo ou es td ph := by
  have hz := H.2.1 m
  have eZ : 16 * nI m + ap_sz p (nI m).toNatClampNeg = nI (16 * m + ap_Z p m) := by rw [ap_szm p hm, ap_yk]
  have e0 : 16 * nI m = nI (16 * m) := pk_mul 16 m
  intro d
  induction d with
  | zero =>
    intro i hi NY o1 z
    have hN : ap_NS p m NY := fun j hj => z j (by omega)
    refine ⟨vp_in_nI hm (by omega), br_t (by rw [eZ]; exact nI_le (by omega) (by omega)) (nm_r (e' := nI (16 * m + 0)) e0 ⟨ap_Z p m + 1, ?_⟩)⟩
    exact ay_plans H hAB hm hN post J PY KY (fun P' K' h1 h2 h3 h4 => hJ NY P' K' hN h1 h2 o1 h3 h4) (ap_Z p m) 0 (by omega) PY KY al_out_r al_out_r (fun j hj => by omega)
  | succ d ih =>
    intro i hi NY o1 z
    have hI : vp_in (nI (16 * m + i)) 64 := vp_in_nI (by omega) (by omega)
    have ek : (nI (16 * m + i)).toNatClampNeg = 16 * m + i := nI_clamp (by omega)
    have eis : nI (16 * m + i) - 16 * nI m = nI i := by
      rw [e0, pk_sub (by omega), show 16 * m + i - 16 * m = i by omega]
    have inner : ∀ e v, v + e = 6 → ∀ N', al_out p m N1 N' → (∀ j, j < i → N' (16 * m + j) = NY (16 * m + j)) → (∀ w, w < 32 → (bt (N' (16 * m + i)) w = true ↔ w < v ∧ ap_nd p m i w)) →
        wY_look_49 post J (wY_look_25 post J (nI m) kn md lv up dn dp bg gY oc sh rn po en (d + 1)) (nI m) (nI (16 * m + i)) kn md lv up dn dp bg gY oc sh rn po en (e + 1) (nI v) (ap_oo p) sA sB (ap_c p) (ap_sz p) (ap_L p) N' PY KY va fY al me pt h lo ou es td ph := by
      intro e
      induction e with
      | zero =>
        intro v hv N' o2 h1 h2
        have : v = 6 := by omega
        subst this
        refine br_t (by decide) (nm_r (nI_1 _) ?_)
        rw [show 16 * m + i + 1 = 16 * m + (i + 1) by omega]
        refine ih (i + 1) (by omega) N' o2 (fun j hj w hw => ?_)
        by_cases c : j = i
        · subst c
          rw [h2 w hw]
          exact ⟨fun q => q.2, fun q => ⟨ap_nd_6 H q, q⟩⟩
        · rw [h1 j (by omega)]; exact z j (by omega) w hw
      | succ e ihe =>
        intro v hv N' o2 h1 h2
        refine br_f (nI_ge (b := 6) (by omega) (by decide)) ?_
        rw [eis]
        refine ay_nd H hAB hm (by omega) (by omega) _ (fun c => br_t rfl (nm_r (nI_1 v) (ihe (v + 1) (by omega) N' o2 h1 (fun w hw => ?_)))) (fun c => br_f (by decide) ⟨hI, hI, nm_e (nm_r (nI_1 v) ?_)⟩)
        · rw [h2 w hw]
          constructor
          · exact fun q => ⟨by omega, q.2⟩
          · rintro ⟨q1, q2⟩
            refine ⟨?_, q2⟩
            have : w ≠ v := fun y => c (by rw [← y]; exact q2)
            omega
        · rw [ek]
          refine ihe (v + 1) (by omega) _ (al_out_u o2 (by omega) _) (fun j hj => by rw [pk_un (by omega)]; exact h1 j hj) (fun w hw => ?_)
          rw [pk_us, b_or, Bool.or_eq_true, h2 w hw, ad_b1 (by omega) w hw]
          constructor
          · rintro (⟨q1, q2⟩ | q)
            · exact ⟨by omega, q2⟩
            · subst q; exact ⟨by omega, c⟩
          · rintro ⟨q1, q2⟩
            by_cases y : w = v
            · exact Or.inr y
            · exact Or.inl ⟨by omega, q2⟩
    refine ⟨vp_in_nI hm (by omega), br_f (by rw [eZ]; exact nI_ge (by omega) (by omega)) ⟨hI, nm_e ⟨7, ?_⟩⟩⟩
    rw [ek]
    refine inner 6 0 (by omega) _ (al_out_u o1 (by omega) 0) (fun j hj => pk_un (by omega)) (fun w hw => ?_)
    rw [pk_us, b_0]
    exact ⟨fun q => absurd q (by decide), fun q => by omega⟩
/-- all that is found -/
def ay_Sp (p : ap_T) (m : Nat) (NY PY KY : Nat → Int32) : Prop := ap_NS p m NY ∧ ap_PS p m PY ∧ ap_KY p m KY
theorem ay_Sp_o {p : ap_T} {m m' : Nat} {N P K N' P' K' : Nat → Int32} (H : ap_OK p) (h : ay_Sp p m N P K) (hm : m ≠ m') (o1 : al_out p m' N N') (o2 : al_out p m' P P') (o3 : al_out p m' K K') : ay_Sp p m N' P' K' := by
  have hz := H.2.1 m
  obtain ⟨h1, h2, h3⟩ := h
  have q : ∀ i, i < ap_Z p m → (16 * m + i) / 16 ≠ m' := fun i hi => by omega
  refine ⟨fun i hi v hv => ?_, fun i hi => ?_, fun i hi => ?_⟩
  · rw [o1 _ (fun z => q i hi z.1)]; exact h1 i hi v hv
  · rw [o2 _ (fun z => q i hi z.1)]; exact h2 i hi
  · rw [o3 _ (fun z => q i hi z.1)]; exact h3 i hi
/-- places that no METHOD has stay as they are -/
def al_fr (p : ap_T) (N N' : Nat → Int32) : Prop := ∀ k, ¬ (k / 16 < 4 ∧ k % 16 < ap_Z p (k / 16)) → N' k = N k
theorem al_fr_t {p : ap_T} {m : Nat} {N N' N'' : Nat → Int32} (hm : m < 4) (h : al_fr p N N') (h' : al_out p m N' N'') : al_fr p N N'' := fun k hk => (h' k (fun z => hk ⟨by omega, by rw [z.1]; exact z.2⟩)).trans (h k hk)
theorem ay_lookl (H : ap_OK p) (hAB : ap_AB p sA sB) (N0 P0 K0 : Nat → Int32) (post : SY → Prop)
    (hp : ∀ NY PY KY, (∀ m, m < 4 → ay_Sp p m NY PY KY) → al_fr p N0 NY → al_fr p P0 PY → al_fr p K0 KY → post (kn, md, lv, up, dn, dp, bg, gY, oc, sh, rn, po, en, ap_oo p, sA, sB, ap_c p, ap_sz p, ap_L p, NY, PY, KY, va, fY, al, me, pt, h, lo, ou, es, td, ph)) :
    ∀ d m, m + d = 4 → ∀ NY PY KY, (∀ j, j < m → ay_Sp p j NY PY KY) → al_fr p N0 NY → al_fr p P0 PY → al_fr p K0 KY → wY_look_15 post (d + 1) (nI m) kn md lv up dn dp bg gY oc sh rn po en (ap_oo p) sA sB (ap_c p) (ap_sz p) (ap_L p) NY PY KY va fY al me pt h lo ou es td ph := by
  intro d
  induction d with
  | zero =>
    intro m hm NY PY KY h f1 f2 f3
    have : m = 4 := by omega
    subst this
    exact br_t (by decide) (hp NY PY KY h f1 f2 f3)
  | succ d ih =>
    intro m hm NY PY KY h f1 f2 f3
    have e0 : 16 * nI m = nI (16 * m) := pk_mul 16 m
    refine br_f (nI_ge (b := 4) (by omega) (by decide)) (nm_r (e' := nI (16 * m + 0)) e0 ⟨ap_Z p m + 1, ?_⟩)
    refine ay_need H hAB (by omega) post _ NY (fun N' P' K' h1 h2 h3 o1 o2 o3 => ?_) (ap_Z p m) 0 (by omega) NY al_out_r (fun j hj => by omega)
    rw [nI_1]
    refine ih (m + 1) (by omega) N' P' K' (fun j hj => ?_) (al_fr_t (by omega) f1 o1) (al_fr_t (by omega) f2 o2) (al_fr_t (by omega) f3 o3)
    by_cases c : j = m
    · subst c; exact ⟨h1, h2, h3⟩
    · exact ay_Sp_o H (h j (by omega)) c o1 o2 o3
theorem ay_look (H : ap_OK p) (hAB : ap_AB p sA sB) (hk : kn = 0 ∨ (kn = 1 ∧ ∀ m, m < 4 → ay_Sp p m NY PY KY)) (post : SY → Prop)
    (hp : ∀ NY' PY' KY', (∀ m, m < 4 → ay_Sp p m NY' PY' KY') → al_fr p NY NY' → al_fr p PY PY' → al_fr p KY KY' → post (1, md, lv, up, dn, dp, bg, gY, oc, sh, rn, po, en, ap_oo p, sA, sB, ap_c p, ap_sz p, ap_L p, NY', PY', KY', va, fY, al, me, pt, h, lo, ou, es, td, ph)) : wpY_look post (kn, md, lv, up, dn, dp, bg, gY, oc, sh, rn, po, en, ap_oo p, sA, sB, ap_c p, ap_sz p, ap_L p, NY, PY, KY, va, fY, al, me, pt, h, lo, ou, es, td, ph) := by
  rcases hk with e | ⟨e, h⟩
  · exact br_t e ⟨5, ay_lookl H hAB NY PY KY post hp 4 0 (by omega) NY PY KY (fun j hj => by omega) (fun _ _ => rfl) (fun _ _ => rfl) (fun _ _ => rfl)⟩
  · subst e
    exact br_f (by decide) (hp NY PY KY h (fun _ _ => rfl) (fun _ _ => rfl) (fun _ _ => rfl))
theorem ay_KY_u {p : ap_T} {m i : Nat} {K K' : Nat → Int32} (h : ap_KY p m K) (h' : ap_KY p m K') (hi : i < ap_Z p m) : K (16 * m + i) = K' (16 * m + i) := by
  rcases h i hi with ⟨a, b⟩ | ⟨a, b⟩ <;> rcases h' i hi with ⟨c, d⟩ | ⟨c, d⟩
  · rw [b, d]
  · exact absurd c a
  · exact absurd a c
  · exact b_ext (fun v hv => ad_iffb (b v hv) (d v hv))
/-- what is found is one thing -/
theorem ay_ev (H : ap_OK p) (hAB : ap_AB p sA sB) (hk : kn = 0 ∨ (kn = 1 ∧ ∀ m, m < 4 → ay_Sp p m NY PY KY)) {N1 P1 K1 : Nat → Int32} (h1 : ∀ m, m < 4 → ay_Sp p m N1 P1 K1) (f1 : al_fr p NY N1) (f2 : al_fr p PY P1) (f3 : al_fr p KY K1) (post : SY → Prop)
    (hp : post (1, md, lv, up, dn, dp, bg, gY, oc, sh, rn, po, en, ap_oo p, sA, sB, ap_c p, ap_sz p, ap_L p, N1, P1, K1, va, fY, al, me, pt, h, lo, ou, es, td, ph)) : wpY_look post (kn, md, lv, up, dn, dp, bg, gY, oc, sh, rn, po, en, ap_oo p, sA, sB, ap_c p, ap_sz p, ap_L p, NY, PY, KY, va, fY, al, me, pt, h, lo, ou, es, td, ph) := by
  refine ay_look H hAB hk post (fun N2 P2 K2 h2 g1 g2 g3 => ?_)
  have sp : ∀ k : Nat, 16 * (k / 16) + k % 16 = k := fun k => by omega
  have eN : N2 = N1 := by
    funext k
    by_cases c : k / 16 < 4 ∧ k % 16 < ap_Z p (k / 16)
    · have := ap_NS_u (h2 _ c.1).1 (h1 _ c.1).1 c.2
      rw [sp] at this; exact this
    · rw [g1 k c, f1 k c]
  have eP : P2 = P1 := by
    funext k
    by_cases c : k / 16 < 4 ∧ k % 16 < ap_Z p (k / 16)
    · have := ap_Pl_u ((h2 _ c.1).2.1 _ c.2) ((h1 _ c.1).2.1 _ c.2)
      rw [sp] at this; exact this
    · rw [g2 k c, f2 k c]
  have eK : K2 = K1 := by
    funext k
    by_cases c : k / 16 < 4 ∧ k % 16 < ap_Z p (k / 16)
    · have := ay_KY_u (h2 _ c.1).2.2 (h1 _ c.1).2.2 c.2
      rw [sp] at this; exact this
    · rw [g3 k c, f3 k c]
  rw [eN, eP, eK]
  exact hp
end
end
section
section
variable {p : ap_T} {kn md lv up dn dp bg gY oc sh rn po en : Int32} {sA sB NY PY KY va fY al me pt h lo ou es td ph : Nat → Int32}
variable {d M n : Nat}
theorem by_cf (hM : M ≤ 300) (post : Int32 → Prop) (c1 : Nat) (hc : c1 ≤ 100) (hp : post (nI (c1 + ac_F fY M n))) :
    ∀ e o, o + e = M → wY_countOf_57 post (nI n) kn (nI M) lv up dn dp bg gY oc sh rn po en (ap_oo p) sA sB (ap_c p) (ap_sz p) (ap_L p) NY PY KY va fY al me pt h lo ou es td ph (e + 1) (nI (c1 + ad_ct (fun x => decide (fY (3 * (x / 2 + 1) + x % 2) = nI n)) (2 * o))) (nI (o + 1)) := by
  intro e
  induction e with
  | zero =>
    intro o ho
    have : o = M := by omega
    subst this
    exact br_t (nI_lt (by omega) (by omega)) hp
  | succ e ih =>
    intro o ho
    have i0 : 3 * nI (o + 1) = nI (3 * (o + 1)) := pk_mul 3 (o + 1)
    have i1 : 3 * nI (o + 1) + 1 = nI (3 * (o + 1) + 1) := by rw [i0, nI_1]
    have k0 : (3 * nI (o + 1)).toNatClampNeg = 3 * (o + 1) := by rw [i0, nI_clamp (by omega)]
    have k1 : (3 * nI (o + 1) + 1).toNatClampNeg = 3 * (o + 1) + 1 := by rw [i1, nI_clamp (by omega)]
    have v0 : vp_in (3 * nI (o + 1)) 903 := by rw [i0]; exact vp_in_nI (by omega) (by omega)
    have v1 : vp_in (3 * nI (o + 1) + 1) 903 := by rw [i1]; exact vp_in_nI (by omega) (by omega)
    have h2 := ih (o + 1) (by omega)
    rw [show 2 * (o + 1) = 2 * o + 1 + 1 by omega, ad_ct_succ, ad_ct_succ, show 3 * (2 * o / 2 + 1) + 2 * o % 2 = 3 * (o + 1) by omega, show 3 * ((2 * o + 1) / 2 + 1) + (2 * o + 1) % 2 = 3 * (o + 1) + 1 by omega, ac_if1, ac_if1] at h2
    refine br_f (nI_nlt (by omega) (by omega)) ⟨v0, ?_⟩
    rw [k0]
    refine br_c (fun c => nm_r (nI_1 _) ⟨v1, ?_⟩) (fun c => ⟨v1, ?_⟩)
    · rw [if_pos c] at h2
      rw [k1]
      refine br_c (fun c' => nm_r (nI_1 _) (nm_r (nI_1 _) ?_)) (fun c' => nm_r (nI_1 _) ?_)
      · rw [if_pos c'] at h2; exact h2
      · rw [if_neg c'] at h2; exact h2
    · rw [if_neg c] at h2
      rw [k1]
      refine br_c (fun c' => nm_r (nI_1 _) (nm_r (nI_1 _) ?_)) (fun c' => nm_r (nI_1 _) ?_)
      · rw [if_pos c'] at h2; exact h2
      · rw [if_neg c'] at h2; exact h2
theorem by_cv (hM : M ≤ 300) (hd : d ≤ 6) (post : Int32 → Prop) (c0 : Nat) (hc : c0 ≤ 1) (hp : post (nI (c0 + ac_V h lo d n + ac_F fY M n))) :
    ∀ e v, v + e = 6 * d → wY_countOf_16 post (nI n) kn (nI M) lv up dn (nI d) bg gY oc sh rn po en (ap_oo p) sA sB (ap_c p) (ap_sz p) (ap_L p) NY PY KY va fY al me pt h lo ou es td ph (e + 1) (nI (c0 + ad_ct (fun v => decide (h v = nI n) && decide (lo v = 0)) v)) (nI v) := by
  have i6 : 6 * nI d = nI (6 * d) := pk_mul 6 d
  intro e
  induction e with
  | zero =>
    intro v hv
    have : v = 6 * d := by omega
    subst this
    have hb : ac_V h lo d n ≤ 6 * d := ad_ct_le _ _
    exact br_t (by rw [i6]; exact nI_le (by omega) (by omega)) ⟨M + 1, by_cf hM post (c0 + ac_V h lo d n) (by omega) hp M 0 (by omega)⟩
  | succ e ih =>
    intro v hv
    have h2 := ih (v + 1) (by omega)
    rw [ad_ct_succ, ac_if2] at h2
    have vi : vp_in (nI v) 36 := vp_in_nI (by omega) (by omega)
    refine br_f (by rw [i6]; exact nI_ge (by omega) (by omega)) ⟨vi, ?_⟩
    rw [nI_clamp (by omega)]
    refine br_c (fun c => ⟨vi, br_c (fun c' => nm_r (nI_1 _) (nm_r (nI_1 _) ?_)) (fun c' => nm_r (nI_1 _) ?_)⟩) (fun c => nm_r (nI_1 _) ?_)
    · rw [if_pos ⟨c, c'⟩] at h2; exact h2
    · rw [if_neg (fun z => c' z.2)] at h2; exact h2
    · rw [if_neg (fun z => c z.1)] at h2; exact h2
theorem by_count (hM : M ≤ 300) (hd : d ≤ 6) (post : Int32 → Prop) (hp : post (nI (ac_N gY h lo d fY M n))) : wpY_countOf post (kn, nI M, lv, up, dn, nI d, bg, gY, oc, sh, rn, po, en, ap_oo p, sA, sB, ap_c p, ap_sz p, ap_L p, NY, PY, KY, va, fY, al, me, pt, h, lo, ou, es, td, ph) (nI n) := by
  unfold ac_N at hp
  refine br_c (fun c => ⟨6 * d + 1, by_cv hM hd post 1 (by omega) ?_ (6 * d) 0 (by omega)⟩) (fun c => ⟨6 * d + 1, by_cv hM hd post 0 (by omega) ?_ (6 * d) 0 (by omega)⟩)
  · rw [if_pos c] at hp; exact hp
  · rw [if_neg c] at hp; exact hp
end
theorem ac_cl_hi {f : Nat → Int32} {i n x : Nat} (h : 3 * i + 3 ≤ x) : ac_cl f i n x = f x := if_neg (fun z => by have := z.2.2.1; omega)
section
variable {p : ap_T} {kn po en up dn bg lv md gX gY dp sa sh oc rn : Int32} {sA sB N P K R NY PY KY me pt h lx lo va rf al fX fY pe ou es td ph : Nat → Int32}
variable {d M n L E t : Nat}
theorem bx_markl (hM : M ≤ 300) (post : SX → Prop) (hp : post (po, en, up, dn, bg, lv, nI M, gX, dp, sa, sh, ap_sz p, ap_L p, ap_oo p, ap_aA p, ap_aB p, ap_c p, N, P, K, R, me, pt, h, lx, va, rf, al, ac_cl fX M n, pe, ou, es)) :
    ∀ e i, i + e = M → wX_markEnded_39 post (nI n) po en up dn bg lv (nI M) gX dp sa sh (e + 1) (nI (i + 1)) (ap_sz p) (ap_L p) (ap_oo p) (ap_aA p) (ap_aB p) (ap_c p) N P K R me pt h lx va rf al (ac_cl fX i n) pe ou es := by
  intro e
  induction e with
  | zero =>
    intro i hi
    have : i = M := by omega
    subst this
    exact br_t (nI_lt (by omega) (by omega)) hp
  | succ e ih =>
    intro i hi
    have i2 : nI (i + 1) * 3 + 2 = nI (3 * (i + 1) + 2) := by
      have : nI (i + 1) * 3 = nI ((i + 1) * 3) := pk_mul (i + 1) 3
      rw [this]
      have := nI_add ((i + 1) * 3) 2
      rw [show (i + 1) * 3 + 2 = 3 * (i + 1) + 2 by omega] at this
      exact this
    have k2 : (nI (i + 1) * 3 + 2).toNatClampNeg = 3 * (i + 1) + 2 := by rw [i2, nI_clamp (by omega)]
    have v2 : vp_in (nI (i + 1) * 3 + 2) 903 := by rw [i2]; exact vp_in_nI (by omega) (by omega)
    have h2 := ih (i + 1) (by omega)
    refine br_f (nI_nlt (by omega) (by omega)) ⟨v2, ?_⟩
    rw [k2, ac_cl_hi (by omega)]
    refine br_c (fun c => ⟨v2, nm_e (nm_r (nI_1 _) ?_)⟩) (fun c => nm_r (nI_1 _) ?_)
    · rw [ac_cl_s, if_pos c] at h2; exact h2
    · rw [ac_cl_s, if_neg c] at h2; exact h2
theorem bx_mark (h1 : 1 ≤ n) (h2 : n ≤ M) (hM : M ≤ 300) (hE : E ≤ 300) (hL : 1 ≤ L) (post : SX → Prop)
    (hp : post (po, nI (E + 1), up, dn, bg, nI (L - 1), nI M, gX, dp, sa, sh, ap_sz p, ap_L p, ap_oo p, ap_aA p, ap_aB p, ap_c p, N, P, K, R, me, pt, h, lx, va, rf, upd al n 0, ac_cl fX M n, pe, ou, upd es E (nI n))) :
    wpX_markEnded post (po, nI E, up, dn, bg, nI L, nI M, gX, dp, sa, sh, ap_sz p, ap_L p, ap_oo p, ap_aA p, ap_aB p, ap_c p, N, P, K, R, me, pt, h, lx, va, rf, al, fX, pe, ou, es) (nI n) := by
  have vn : vp_in (nI n) 301 := vp_in_nI (by omega) (by omega)
  have vE : vp_in (nI E) 301 := vp_in_nI (by omega) (by omega)
  have eL : nI L - 1 = nI (L - 1) := by
    have := nI_pred (L - 1)
    rw [show L - 1 + 1 = L by omega] at this
    exact this
  refine ⟨vn, nm_r (e' := upd al n 0) (by rw [nI_clamp (by omega), ad_nb0]) (nm_r eL ⟨vE, nm_r (e' := upd es E (nI n)) (by rw [nI_clamp (by omega)]) (nm_r (nI_1 E) ⟨M + 1, ?_⟩)⟩)⟩
  have := bx_markl (en := nI (E + 1)) (lv := nI (L - 1)) (al := upd al n 0) (es := upd es E (nI n)) (n := n) hM post hp M 0 (by omega)
  rw [ac_cl_0] at this
  exact this
theorem by_endl (hM : M ≤ 300) (ht : t < 32) (post : Int32 → SY → Prop) (hp : post (nI (t + 1)) (kn, nI M, lv, up, dn, dp, bg, gY, oc, sh, rn, po, en, ap_oo p, sA, sB, ap_c p, ap_sz p, ap_L p, NY, PY, KY, va, ac_cl fY M n, al, me, pt, h, lo, ou, es, upd td t (nI n), upd ph t 0)) :
    ∀ e i, i + e = M → wY_end_36 post (nI n) (nI t) kn (nI M) lv up dn dp bg gY oc sh rn po en (e + 1) (nI (i + 1)) (ap_oo p) sA sB (ap_c p) (ap_sz p) (ap_L p) NY PY KY va (ac_cl fY i n) al me pt h lo ou es td ph := by
  intro e
  induction e with
  | zero =>
    intro i hi
    have : i = M := by omega
    subst this
    have vt : vp_in (nI t) 32 := vp_in_nI ht (by omega)
    refine br_t (nI_lt (by omega) (by omega)) ⟨vt, nm_r (e' := upd td t (nI n)) (by rw [nI_clamp (by omega)]) ⟨vt, nm_r (e' := upd ph t 0) (by rw [nI_clamp (by omega)]) ?_⟩⟩
    rw [nI_1]; exact hp
  | succ e ih =>
    intro i hi
    have i2 : 3 * nI (i + 1) + 2 = nI (3 * (i + 1) + 2) := by
      have : 3 * nI (i + 1) = nI (3 * (i + 1)) := pk_mul 3 (i + 1)
      rw [this]
      exact nI_add (3 * (i + 1)) 2
    have k2 : (3 * nI (i + 1) + 2).toNatClampNeg = 3 * (i + 1) + 2 := by rw [i2, nI_clamp (by omega)]
    have v2 : vp_in (3 * nI (i + 1) + 2) 903 := by rw [i2]; exact vp_in_nI (by omega) (by omega)
    have h2 := ih (i + 1) (by omega)
    refine br_f (nI_nlt (by omega) (by omega)) ⟨v2, ?_⟩
    rw [k2, ac_cl_hi (by omega)]
    refine br_c (fun c => ⟨v2, nm_e (nm_r (nI_1 _) ?_)⟩) (fun c => nm_r (nI_1 _) ?_)
    · rw [ac_cl_s, if_pos c] at h2; exact h2
    · rw [ac_cl_s, if_neg c] at h2; exact h2
theorem by_end (h1 : 1 ≤ n) (h2 : n ≤ M) (hM : M ≤ 300) (hE : E ≤ 300) (hL : 1 ≤ L) (ht : t < 32) (post : Int32 → SY → Prop)
    (hp : post (nI (t + 1)) (kn, nI M, nI (L - 1), up, dn, dp, bg, gY, oc, sh, rn, po, nI (E + 1), ap_oo p, sA, sB, ap_c p, ap_sz p, ap_L p, NY, PY, KY, va, ac_cl fY M n, upd al n 0, me, pt, h, lo, ou, upd es E (nI n), upd td t (nI n), upd ph t 0)) :
    wpY_end post (kn, nI M, nI L, up, dn, dp, bg, gY, oc, sh, rn, po, nI E, ap_oo p, sA, sB, ap_c p, ap_sz p, ap_L p, NY, PY, KY, va, fY, al, me, pt, h, lo, ou, es, td, ph) (nI n) (nI t) := by
  have vn : vp_in (nI n) 301 := vp_in_nI (by omega) (by omega)
  have vE : vp_in (nI E) 301 := vp_in_nI (by omega) (by omega)
  have eL : nI L - 1 = nI (L - 1) := by
    have := nI_pred (L - 1)
    rw [show L - 1 + 1 = L by omega] at this
    exact this
  refine nm_r (nI_1 E) ⟨vE, nm_r (e' := upd es E (nI n)) (by rw [nI_clamp (by omega)]) ⟨vn, nm_r (e' := upd al n 0) (by rw [nI_clamp (by omega), ad_nb0]) (nm_r eL ⟨M + 1, ?_⟩)⟩⟩
  have := by_endl (en := nI (E + 1)) (lv := nI (L - 1)) (al := upd al n 0) (es := upd es E (nI n)) (n := n) hM ht post hp M 0 (by omega)
  rw [ac_cl_0] at this
  exact this
end
end
section
section
variable {p : ap_T} {kn po en up dn bg lv md gX gY dp sa sh oc rn : Int32} {sA sB N P K R NY PY KY me pt h lx lo va rf al fX fY pe ou es td ph : Nat → Int32}
variable {d M L E s len c y : Nat}
theorem bx_it0 (post : SX → Prop) {n : Nat} (hs : s < 49) (hl : len < 49) (e : pe len = 0) (hp : wX_letGo_11 post n (nI len) (nI (s + 1)) po (nI E) up dn bg (nI L) (nI M) gX (nI d) sa sh (ap_sz p) (ap_L p) (ap_oo p) (ap_aA p) (ap_aB p) (ap_c p) N P K R me pt h lx va rf al fX pe ou es) : wX_letGo_11 post (n + 1) (nI (len + 1)) (nI s) po (nI E) up dn bg (nI L) (nI M) gX (nI d) sa sh (ap_sz p) (ap_L p) (ap_oo p) (ap_aA p) (ap_aB p) (ap_c p) N P K R me pt h lx va rf al fX pe ou es := by
  refine br_f (nI_ge (b := 49) hs (by decide)) (br_f (nI_nle (by omega) (by omega)) (nm_r (pk_m1 len) ⟨vp_in_nI hl (by omega), nm_r (e' := 0) (by rw [nI_clamp (by omega)]; exact e) (br_t rfl (br_t rfl (nm_r (nI_1 s) hp)))⟩))
theorem bx_it1 (post : SX → Prop) {n : Nat} (hs : s < 49) (hl : len < 49) (e : pe len = nI y) (y1 : 1 ≤ y) (y2 : y ≤ 300) (hr : rf y = nI (c + 1)) (hc : 1 ≤ c) (hc2 : c ≤ 1000)
    (hp : wX_letGo_11 post n (nI len) (nI (s + 1)) po (nI E) up (dn + 1) bg (nI L) (nI M) gX (nI d) sa sh (ap_sz p) (ap_L p) (ap_oo p) (ap_aA p) (ap_aB p) (ap_c p) N P K R me pt h lx va (upd rf y (nI c)) al fX pe ou es) : wX_letGo_11 post (n + 1) (nI (len + 1)) (nI s) po (nI E) up dn bg (nI L) (nI M) gX (nI d) sa sh (ap_sz p) (ap_L p) (ap_oo p) (ap_aA p) (ap_aB p) (ap_c p) N P K R me pt h lx va rf al fX pe ou es := by
  have n0 : ¬ nI y = 0 := nI_ne0 y1 (by omega)
  have vy : vp_in (nI y) 301 := vp_in_nI (by omega) (by omega)
  refine br_f (nI_ge (b := 49) hs (by decide)) (br_f (nI_nle (by omega) (by omega)) (nm_r (pk_m1 len) ⟨vp_in_nI hl (by omega), nm_r (e' := nI y) (by rw [nI_clamp (by omega)]; exact e) (br_f n0 ⟨vy, vy, nm_r (e' := upd rf y (nI c)) ?_ (nm_e ?_)⟩)⟩))
  · rw [nI_clamp (by omega), hr, nI_pred]
  · refine br_f n0 ⟨vy, br_f ?_ (nm_r (nI_1 s) hp)⟩
    rw [nI_clamp (by omega), pk_us]
    exact nI_ne0 hc (by omega)
theorem bx_it2 (post : SX → Prop) {n : Nat} (hs : s < 49) (hl : len + 1 < 49) (e : pe len = nI y) (y1 : 1 ≤ y) (y2 : y ≤ M) (hM : M ≤ 300) (hE : E ≤ 300) (hL : 1 ≤ L) (hr : rf y = nI (0 + 1))
    (hp : wX_letGo_11 post n (nI (len + 2)) (nI (s + 1)) po (nI (E + 1)) up (dn + 1) bg (nI (L - 1)) (nI M) gX (nI d) sa sh (ap_sz p) (ap_L p) (ap_oo p) (ap_aA p) (ap_aB p) (ap_c p) N P K R me pt h lx va (upd rf y 0) (upd al y 0) (ac_cl fX M y) (upd (upd pe len (fX (3 * y + 1))) (len + 1) (fX (3 * y))) ou (upd es E (nI y))) :
    wX_letGo_11 post (n + 1) (nI (len + 1)) (nI s) po (nI E) up dn bg (nI L) (nI M) gX (nI d) sa sh (ap_sz p) (ap_L p) (ap_oo p) (ap_aA p) (ap_aB p) (ap_c p) N P K R me pt h lx va rf al fX pe ou es := by
  have n0 : ¬ nI y = 0 := nI_ne0 y1 (by omega)
  have vy : vp_in (nI y) 301 := vp_in_nI (by omega) (by omega)
  refine br_f (nI_ge (b := 49) hs (by decide)) (br_f (nI_nle (by omega) (by omega)) (nm_r (pk_m1 len) ⟨vp_in_nI (by omega) (by omega), nm_r (e' := nI y) (by rw [nI_clamp (by omega)]; exact e) (br_f n0 ⟨vy, vy, nm_r (e' := upd rf y 0) ?_ (nm_e ?_)⟩)⟩))
  · rw [nI_clamp (by omega), hr, nI_pred]; rfl
  · refine br_f n0 ⟨vy, br_t (by rw [nI_clamp (by omega), pk_us]) ?_⟩
    refine bx_mark y1 y2 hM hE hL _ ?_
    have j0 : nI y * 3 = nI (3 * y) := by
      have : nI y * 3 = nI (y * 3) := pk_mul y 3
      rw [this, Nat.mul_comm]
    have j1 : nI y * 3 + 1 = nI (3 * y + 1) := by rw [j0, nI_1]
    have a0 : ac_cl fX M y (nI y * 3).toNatClampNeg = fX (3 * y) := by
      rw [j0, nI_clamp (by omega)]
      exact ac_cl_01 (q := y) (j := 0) (by omega)
    have a1 : ac_cl fX M y (nI y * 3 + 1).toNatClampNeg = fX (3 * y + 1) := by
      rw [j1, nI_clamp (by omega)]
      exact ac_cl_01 (q := y) (j := 1) (by omega)
    have x2 : nI len + 2 = nI (len + 2) := nI_add len 2
    refine ⟨by rw [j1]; exact vp_in_nI (by omega) (by omega), vp_in_nI (by omega) (by omega), nm_r (e' := upd pe len (fX (3 * y + 1))) (by rw [nI_clamp (by omega), a1]) ⟨by rw [j0]; exact vp_in_nI (by omega) (by omega), by rw [nI_1]; exact vp_in_nI (by omega) (by omega),
      nm_r (e' := upd (upd pe len (fX (3 * y + 1))) (len + 1) (fX (3 * y))) (by rw [nI_1, nI_clamp (by omega), a0]) (nm_r x2 (nm_r (nI_1 s) hp))⟩⟩
variable {t q pp : Nat}
theorem by_sub1 (t : Nat) : nI (t + 1) - 1 = nI t := nI_pred t
theorem by_it2 (post : SY → Prop) {n : Nat} (ht : t < 32) (e2 : ph t = nI 2) (hp : wY_drop_32 post n (nI t) kn (nI M) (nI L) up dn (nI d) bg gY oc sh rn po (nI E) (ap_oo p) sA sB (ap_c p) (ap_sz p) (ap_L p) NY PY KY va fY al me pt h lo ou es td (upd ph t (nI 3))) : wY_drop_32 post (n + 1) (nI (t + 1)) kn (nI M) (nI L) up dn (nI d) bg gY oc sh rn po (nI E) (ap_oo p) sA sB (ap_c p) (ap_sz p) (ap_L p) NY PY KY va fY al me pt h lo ou es td ph := by
  refine br_f (nI_nle (by omega) (by omega)) ?_
  rw [by_sub1, nI_clamp (by omega)]
  have vt : vp_in (nI t) 32 := vp_in_nI ht (by omega)
  refine ⟨vt, nm_e ⟨vt, vt, nm_r (e' := upd ph t (nI 3)) (by rw [e2, nI_1]) (nm_r e2 (br_t rfl (nm_r (pk_m1 t) hp)))⟩⟩
theorem by_it0 (post : SY → Prop) {n : Nat} (ht : t < 32) (e1 : td t = nI q) (e2 : ph t = nI pp) (hpp : pp < 2) (hq : q ≤ 300) (e3 : fY (3 * q + pp) = 0)
    (hp : wY_drop_32 post n (nI (t + 1)) kn (nI M) (nI L) up dn (nI d) bg gY oc sh rn po (nI E) (ap_oo p) sA sB (ap_c p) (ap_sz p) (ap_L p) NY PY KY va (upd fY (3 * q + pp) 0) al me pt h lo ou es td (upd ph t (nI (pp + 1)))) : wY_drop_32 post (n + 1) (nI (t + 1)) kn (nI M) (nI L) up dn (nI d) bg gY oc sh rn po (nI E) (ap_oo p) sA sB (ap_c p) (ap_sz p) (ap_L p) NY PY KY va fY al me pt h lo ou es td ph := by
  refine br_f (nI_nle (by omega) (by omega)) ?_
  rw [by_sub1, nI_clamp (by omega)]
  have vt : vp_in (nI t) 32 := vp_in_nI ht (by omega)
  have ix : 3 * nI q + nI pp = nI (3 * q + pp) := by
    have : 3 * nI q = nI (3 * q) := pk_mul 3 q
    rw [this, nI_add]
  have vx : vp_in (3 * nI q + nI pp) 903 := by rw [ix]; exact vp_in_nI (by omega) (by omega)
  have n2 : ¬ nI pp = 2 := fun z => by have := (nI_eq (b := 2) (by omega) (by decide)).mp z; omega
  refine ⟨vt, nm_r e1 ⟨vt, vt, nm_r (e' := upd ph t (nI (pp + 1))) (by rw [e2, nI_1]) (nm_r e2 (br_f n2 ⟨vx, nm_r (e' := 0) (by rw [ix, nI_clamp (by omega)]; exact e3) ⟨vx, nm_r (e' := upd fY (3 * q + pp) 0) (by rw [ix, nI_clamp (by omega)]) (br_t rfl hp)⟩⟩))⟩⟩
theorem by_it1 (post : SY → Prop) {n : Nat} (ht : t < 32) (e1 : td t = nI q) (e2 : ph t = nI pp) (hpp : pp < 2) (hq : q ≤ 300) (hM : M ≤ 300) (hd : d ≤ 6) (y1 : 1 ≤ y) (y2 : y ≤ 300) (e3 : fY (3 * q + pp) = nI y)
    (hc : 1 ≤ ac_N gY h lo d (upd fY (3 * q + pp) 0) M y)
    (hp : wY_drop_32 post n (nI (t + 1)) kn (nI M) (nI L) up (dn + 1) (nI d) bg gY oc sh rn po (nI E) (ap_oo p) sA sB (ap_c p) (ap_sz p) (ap_L p) NY PY KY va (upd fY (3 * q + pp) 0) al me pt h lo ou es td (upd ph t (nI (pp + 1)))) : wY_drop_32 post (n + 1) (nI (t + 1)) kn (nI M) (nI L) up dn (nI d) bg gY oc sh rn po (nI E) (ap_oo p) sA sB (ap_c p) (ap_sz p) (ap_L p) NY PY KY va fY al me pt h lo ou es td ph := by
  refine br_f (nI_nle (by omega) (by omega)) ?_
  rw [by_sub1, nI_clamp (by omega)]
  have vt : vp_in (nI t) 32 := vp_in_nI ht (by omega)
  have ix : 3 * nI q + nI pp = nI (3 * q + pp) := by
    have : 3 * nI q = nI (3 * q) := pk_mul 3 q
    rw [this, nI_add]
  have vx : vp_in (3 * nI q + nI pp) 903 := by rw [ix]; exact vp_in_nI (by omega) (by omega)
  have n2 : ¬ nI pp = 2 := fun z => by have := (nI_eq (b := 2) (by omega) (by decide)).mp z; omega
  refine ⟨vt, nm_r e1 ⟨vt, vt, nm_r (e' := upd ph t (nI (pp + 1))) (by rw [e2, nI_1]) (nm_r e2 (br_f n2 ⟨vx, nm_r (e' := nI y) (by rw [ix, nI_clamp (by omega)]; exact e3) ⟨vx, nm_r (e' := upd fY (3 * q + pp) 0) (by rw [ix, nI_clamp (by omega)]) (br_f (nI_ne0 y1 (by omega)) (nm_e ?_))⟩⟩))⟩⟩
  have := ac_N_le gY h lo d (upd fY (3 * q + pp) 0) M y
  exact by_count hM hd _ (br_f (nI_ne0 hc (by omega)) hp)
theorem by_it3 (post : SY → Prop) {n : Nat} (ht : t + 1 < 32) (e1 : td t = nI q) (e2 : ph t = nI pp) (hpp : pp < 2) (hq : q ≤ 300) (hM : M ≤ 300) (hd : d ≤ 6) (y1 : 1 ≤ y) (y2 : y ≤ M) (hE : E ≤ 300) (hL : 1 ≤ L) (e3 : fY (3 * q + pp) = nI y)
    (hc : ac_N gY h lo d (upd fY (3 * q + pp) 0) M y = 0)
    (hp : wY_drop_32 post n (nI (t + 2)) kn (nI M) (nI (L - 1)) up (dn + 1) (nI d) bg gY oc sh rn po (nI (E + 1)) (ap_oo p) sA sB (ap_c p) (ap_sz p) (ap_L p) NY PY KY va (ac_cl (upd fY (3 * q + pp) 0) M y) (upd al y 0) me pt h lo ou (upd es E (nI y)) (upd td (t + 1) (nI y)) (upd (upd ph t (nI (pp + 1))) (t + 1) 0)) : wY_drop_32 post (n + 1) (nI (t + 1)) kn (nI M) (nI L) up dn (nI d) bg gY oc sh rn po (nI E) (ap_oo p) sA sB (ap_c p) (ap_sz p) (ap_L p) NY PY KY va fY al me pt h lo ou es td ph := by
  refine br_f (nI_nle (by omega) (by omega)) ?_
  rw [by_sub1, nI_clamp (by omega)]
  have vt : vp_in (nI t) 32 := vp_in_nI (by omega) (by omega)
  have ix : 3 * nI q + nI pp = nI (3 * q + pp) := by
    have : 3 * nI q = nI (3 * q) := pk_mul 3 q
    rw [this, nI_add]
  have vx : vp_in (3 * nI q + nI pp) 903 := by rw [ix]; exact vp_in_nI (by omega) (by omega)
  have n2 : ¬ nI pp = 2 := fun z => by have := (nI_eq (b := 2) (by omega) (by decide)).mp z; omega
  refine ⟨vt, nm_r e1 ⟨vt, vt, nm_r (e' := upd ph t (nI (pp + 1))) (by rw [e2, nI_1]) (nm_r e2 (br_f n2 ⟨vx, nm_r (e' := nI y) (by rw [ix, nI_clamp (by omega)]; exact e3) ⟨vx, nm_r (e' := upd fY (3 * q + pp) 0) (by rw [ix, nI_clamp (by omega)]) (br_f (nI_ne0 y1 (by omega)) (nm_e ?_))⟩⟩))⟩⟩
  refine by_count hM hd _ (br_t (by rw [hc]; rfl) ?_)
  exact by_end y1 y2 hM hE hL ht _ hp
end
theorem ac_rm_nxt {fY : Nat → Int32} {q p : Nat} {l : List (Nat × Nat)} (hp : p < 2) (hq : ∀ x, x ∈ l → x.1 ≠ q) : ac_rm fY ((q, p) :: l) = fY (3 * q + p) :: ac_rm (upd fY (3 * q + p) 0) ((q, p + 1) :: l) := by
  have e : ac_rm (upd fY (3 * q + p) 0) l = ac_rm fY l := ac_rm_congr l (fun x hx j hj => pk_un (by have := hq x hx; omega))
  rcases p with _ | _ | p
  · show fY (3 * q) :: fY (3 * q + 1) :: ac_rm fY l = fY (3 * q + 0) :: upd fY (3 * q + 0) 0 (3 * q + 1) :: ac_rm (upd fY (3 * q + 0) 0) l
    rw [e, pk_un (by omega)]; rfl
  · show fY (3 * q + 1) :: ac_rm fY l = fY (3 * q + 1) :: ac_rm (upd fY (3 * q + 1) 0) l
    rw [e]
  · omega
section
variable {p : ap_T} {kn po en up dn bg lv md gX gY dp sa sh oc rn : Int32} {sA sB N P K R NY PY KY me pt h lx lo va rf al fX fY pe ou es td ph : Nat → Int32}
variable {d M : Nat}
theorem bz_loop : ∀ (k : Nat) (l : List (Nat × Nat)) (al rf fX fY pe td ph es : Nat → Int32) (L E s : Nat) (dn : Int32),
    4 * L + ac_mu l ≤ k → ac_MI 0 l gY h lo d M al rf fX fY L E → ac_td td ph l → ac_pe pe (ac_rm fY l) → s + 2 * L + (ac_rm fY l).length ≤ 49 →
    ∃ (al' rf' fX' fY' pe' td' ph' es' : Nat → Int32) (L' E' : Nat) (dn' : Int32), ac_MI 0 [] gY h lo d M al' rf' fX' fY' L' E' ∧
      (∀ (pt : Nat → Int32) (post : SX → Prop), post (po, nI E', up, dn', bg, nI L', nI M, gX, nI d, sa, sh, ap_sz p, ap_L p, ap_oo p, ap_aA p, ap_aB p, ap_c p, N, P, K, R, me, pt, h, lx, va, rf', al', fX', pe', ou, es') → ∃ n, wX_letGo_11 post n (nI (ac_rm fY l).length) (nI s) po (nI E) up dn bg (nI L) (nI M) gX (nI d) sa sh (ap_sz p) (ap_L p) (ap_oo p) (ap_aA p) (ap_aB p) (ap_c p) N P K R me pt h lx va rf al fX pe ou es) ∧
      (∀ (pt : Nat → Int32) (post : SY → Prop), post (kn, nI M, nI L', up, dn', nI d, bg, gY, oc, sh, rn, po, nI E', ap_oo p, sA, sB, ap_c p, ap_sz p, ap_L p, NY, PY, KY, va, fY', al', me, pt, h, lo, ou, es', td', ph') → ∃ n, wY_drop_32 post n (nI l.length) kn (nI M) (nI L) up dn (nI d) bg gY oc sh rn po (nI E) (ap_oo p) sA sB (ap_c p) (ap_sz p) (ap_L p) NY PY KY va fY al me pt h lo ou es td ph) := by
  intro k
  induction k with
  | zero =>
    intro l al rf fX fY pe td ph es L E s dn hk I ht hp hs
    rcases l with _ | ⟨⟨q, p⟩, l⟩
    · refine ⟨al, rf, fX, fY, pe, td, ph, es, L, E, dn, I, fun pt post hpost => ⟨1, br_c (fun _ => hpost) (fun _ => br_t (show nI 0 ≤ 0 by decide) hpost)⟩, fun pt post hpost => ⟨1, br_t (by decide) hpost⟩⟩
    · have hk' : 4 * L + ((3 - p) + ac_mu l) ≤ 0 := hk
      have : p ≤ 2 := I.2.2.2.2.2.2.2.1.2.2.2.1
      omega
  | succ k ih =>
    intro l al rf fX fY pe td ph es L E s dn hk I ht hp hs
    rcases l with _ | ⟨⟨q, p⟩, l⟩
    · refine ⟨al, rf, fX, fY, pe, td, ph, es, L, E, dn, I, fun pt post hpost => ⟨1, br_c (fun _ => hpost) (fun _ => br_t (show nI 0 ≤ 0 by decide) hpost)⟩, fun pt post hpost => ⟨1, br_t (by decide) hpost⟩⟩
    · have hk' : 4 * L + ((3 - p) + ac_mu l) ≤ k + 1 := hk
      obtain ⟨⟨t1, t2⟩, t3⟩ := ht
      dsimp only at t1 t2
      obtain ⟨⟨q1, q2, q3, q4, q5⟩, q6⟩ := I.2.2.2.2.2.2.2
      dsimp only at q1 q2 q3 q4 q5
      obtain ⟨_, hL24, hEL, hM, hd⟩ := I.2.2.2.2.2.2.1
      have hL24' : L + (l.length + 1) ≤ 24 := hL24
      by_cases p2 : p = 2
      · subst p2
        obtain ⟨al', rf', fX', fY', pe', td', ph', es', L', E', dn', J1, J2, J3⟩ := ih l al rf fX fY pe td (upd ph l.length (nI 3)) es L E s dn (by omega) (ac_pop I) (ac_td_up l t3 (Nat.le_refl _)) hp hs
        refine ⟨al', rf', fX', fY', pe', td', ph', es', L', E', dn', J1, J2, fun pt post hpost => ?_⟩
        obtain ⟨n, hn⟩ := J3 pt post hpost
        exact ⟨n + 1, by_it2 post (by omega) t2 hn⟩
      · have pp : p < 2 := by omega
        obtain ⟨y, hy, ey⟩ := I.2.1 q q1 q2 p (by omega)
        have er := ac_rm_nxt (fY := fY) pp q5
        have I' := ac_nxt I pp ey hy
        rw [er, ey] at hp hs ⊢
        obtain ⟨hp1, hp2⟩ := hp
        generalize hrest : ac_rm (upd fY (3 * q + p) 0) ((q, p + 1) :: l) = rest at hp1 hp2 hs
        have hs' : s + 2 * L + (rest.length + 1) ≤ 49 := hs
        have td' : ac_td td (upd ph l.length (nI (p + 1))) ((q, p + 1) :: l) := ⟨⟨t1, pk_us⟩, ac_td_up l t3 (Nat.le_refl _)⟩
        have mu' : ac_mu ((q, p + 1) :: l) = (3 - (p + 1)) + ac_mu l := rfl
        by_cases y0 : y = 0
        · subst y0
          obtain ⟨al', rf', fX', fY', pe', td', ph', es', L', E', dn', J1, J2, J3⟩ := ih ((q, p + 1) :: l) al rf fX (upd fY (3 * q + p) 0) pe td (upd ph l.length (nI (p + 1))) es L E (s + 1) dn (by rw [mu']; omega) I' td' (by rw [hrest]; exact hp2) (by rw [hrest]; omega)
          refine ⟨al', rf', fX', fY', pe', td', ph', es', L', E', dn', J1, fun pt post hpost => ?_, fun pt post hpost => ?_⟩
          · obtain ⟨n, hn⟩ := J2 pt post hpost
            rw [hrest] at hn
            exact ⟨n + 1, bx_it0 post (by omega) (by omega) hp1 hn⟩
          · obtain ⟨n, hn⟩ := J3 pt post hpost
            exact ⟨n + 1, by_it0 post (by omega) t1 t2 pp (by omega) ey hn⟩
        · have y1 : 1 ≤ y := by omega
          obtain ⟨ya, yr, yf⟩ := ac_e_al I' y1
          have cle := ac_N_le gY h lo d (upd fY (3 * q + p) 0) M y
          by_cases c0 : ac_N gY h lo d (upd fY (3 * q + p) 0) M y = 0
          · rw [c0] at yr
            obtain ⟨L1, I''⟩ := ac_end I' y1 c0 0
            have erm : ac_rm (ac_cl (upd fY (3 * q + p) 0) M y) ((q, p + 1) :: l) = rest := by
              rw [← hrest]; exact ac_rm_congr _ (fun x _ j hj => ac_cl_01 hj)
            have elen : ac_rm (ac_cl (upd fY (3 * q + p) 0) M y) ((y, 0) :: (q, p + 1) :: l) = fX (3 * y) :: fX (3 * y + 1) :: rest := by
              show ac_cl (upd fY (3 * q + p) 0) M y (3 * y) :: ac_cl (upd fY (3 * q + p) 0) M y (3 * y + 1) :: ac_rm (ac_cl (upd fY (3 * q + p) 0) M y) ((q, p + 1) :: l) = _
              rw [erm, yf 1 (by omega)]
              have a0 := ac_cl_01 (f := upd fY (3 * q + p) 0) (M := M) (n := y) (q := y) (j := 0) (by omega)
              have a1 := ac_cl_01 (f := upd fY (3 * q + p) 0) (M := M) (n := y) (q := y) (j := 1) (by omega)
              have b0 := yf 0 (by omega)
              rw [Nat.add_zero] at a0 b0
              rw [a0, a1, b0]
            obtain ⟨al', rf', fX', fY', pe', td', ph', es', L', E', dn', J1, J2, J3⟩ := ih ((y, 0) :: (q, p + 1) :: l) (upd al y 0) (upd rf y 0) (ac_cl fX M y) (ac_cl (upd fY (3 * q + p) 0) M y) (upd (upd pe rest.length (fX (3 * y + 1))) (rest.length + 1) (fX (3 * y))) (upd td (l.length + 1) (nI y)) (upd (upd ph l.length (nI (p + 1))) (l.length + 1) 0) (upd es E (nI y)) (L - 1) (E + 1) (s + 1) (dn + 1)
              (by show 4 * (L - 1) + ((3 - 0) + ac_mu ((q, p + 1) :: l)) ≤ k; rw [mu']; omega) I'' ⟨⟨pk_us, pk_us⟩, ac_td_u _ td' (Nat.le_refl _) (Nat.le_refl _)⟩
              (by rw [elen]; exact ⟨pk_us, by show upd _ _ _ rest.length = _; rw [pk_un (by omega), pk_us], ac_pe_u _ (ac_pe_u _ hp2 (Nat.le_refl _)) (by omega)⟩)
              (by rw [elen]; show s + 1 + 2 * (L - 1) + (rest.length + 1 + 1) ≤ 49; omega)
            refine ⟨al', rf', fX', fY', pe', td', ph', es', L', E', dn', J1, fun pt post hpost => ?_, fun pt post hpost => ?_⟩
            · obtain ⟨n, hn⟩ := J2 pt post hpost
              rw [elen] at hn
              exact ⟨n + 1, bx_it2 post (by omega) (by omega) hp1 y1 hy hM (by omega) L1 yr hn⟩
            · obtain ⟨n, hn⟩ := J3 pt post hpost
              exact ⟨n + 1, by_it3 post (by omega) t1 t2 pp (by omega) hM hd y1 hy (by omega) L1 ey c0 hn⟩
          · have I'' := ac_dec I' y1 (by omega)
            obtain ⟨al', rf', fX', fY', pe', td', ph', es', L', E', dn', J1, J2, J3⟩ := ih ((q, p + 1) :: l) al (upd rf y (nI (ac_N gY h lo d (upd fY (3 * q + p) 0) M y))) fX (upd fY (3 * q + p) 0) pe td (upd ph l.length (nI (p + 1))) es L E (s + 1) (dn + 1) (by rw [mu']; omega) I'' td' (by rw [hrest]; exact hp2) (by rw [hrest]; omega)
            refine ⟨al', rf', fX', fY', pe', td', ph', es', L', E', dn', J1, fun pt post hpost => ?_, fun pt post hpost => ?_⟩
            · obtain ⟨n, hn⟩ := J2 pt post hpost
              rw [hrest] at hn
              exact ⟨n + 1, bx_it1 post (by omega) (by omega) hp1 y1 (by omega) yr (by omega) (by omega) hn⟩
            · obtain ⟨n, hn⟩ := J3 pt post hpost
              exact ⟨n + 1, by_it1 post (by omega) t1 t2 pp (by omega) hM hd y1 (by omega) ey (by omega) hn⟩
/-- a reference is let go, on both sides -/
theorem bz_drop {e L E : Nat} (I : ac_MI e [] gY h lo d M al rf fX fY L E) :
    ∃ (al' rf' fX' fY' pe' td' ph' es' : Nat → Int32) (L' E' : Nat) (dn' : Int32), ac_MI 0 [] gY h lo d M al' rf' fX' fY' L' E' ∧ (∀ (pt : Nat → Int32) (post : SX → Prop), post (po, nI E', up, dn', bg, nI L', nI M, gX, nI d, sa, sh, ap_sz p, ap_L p, ap_oo p, ap_aA p, ap_aB p, ap_c p, N, P, K, R, me, pt, h, lx, va, rf', al', fX', pe', ou, es') → wpX_letGo post (po, nI E, up, dn, bg, nI L, nI M, gX, nI d, sa, sh, ap_sz p, ap_L p, ap_oo p, ap_aA p, ap_aB p, ap_c p, N, P, K, R, me, pt, h, lx, va, rf, al, fX, pe, ou, es) (nI e)) ∧ (∀ (pt : Nat → Int32) (post : SY → Prop), post (kn, nI M, nI L', up, dn', nI d, bg, gY, oc, sh, rn, po, nI E', ap_oo p, sA, sB, ap_c p, ap_sz p, ap_L p, NY, PY, KY, va, fY', al', me, pt, h, lo, ou, es', td', ph') → wpY_drop post (kn, nI M, nI L, up, dn, nI d, bg, gY, oc, sh, rn, po, nI E, ap_oo p, sA, sB, ap_c p, ap_sz p, ap_L p, NY, PY, KY, va, fY, al, me, pt, h, lo, ou, es, td, ph) (nI e)) := by
  obtain ⟨_, hL24, hEL, hM, hd⟩ := I.2.2.2.2.2.2.1
  have hL24' : L + 0 ≤ 24 := hL24
  have heM : e ≤ M := I.2.2.2.2.2.1
  by_cases e0 : e = 0
  · subst e0
    refine ⟨al, rf, fX, fY, upd pe 0 0, td, ph, es, L, E, dn, I, fun pt post hpost => nm_e ⟨2, ?_⟩, fun pt post hpost => br_t rfl hpost⟩
    exact bx_it0 (s := 0) (len := 0) post (by omega) (by omega) pk_us (br_f (by decide) (br_t (by decide) hpost))
  · have e1 : 1 ≤ e := by omega
    obtain ⟨ya, yr, yf⟩ := ac_e_al I e1
    have cle := ac_N_le gY h lo d fY M e
    by_cases c0 : ac_N gY h lo d fY M e = 0
    · rw [c0] at yr
      obtain ⟨L1, I''⟩ := ac_end I e1 c0 0
      have elen : ac_rm (ac_cl fY M e) [(e, 0)] = fX (3 * e) :: fX (3 * e + 1) :: [] := by
        show ac_cl fY M e (3 * e) :: ac_cl fY M e (3 * e + 1) :: [] = _
        have a0 := ac_cl_01 (f := fY) (M := M) (n := e) (q := e) (j := 0) (by omega)
        have a1 := ac_cl_01 (f := fY) (M := M) (n := e) (q := e) (j := 1) (by omega)
        have b0 := yf 0 (by omega)
        rw [Nat.add_zero] at a0 b0
        rw [a0, a1, b0, yf 1 (by omega)]
      obtain ⟨al', rf', fX', fY', pe', td', ph', es', L', E', dn', J1, J2, J3⟩ := bz_loop (p := p) (po := po) (up := up) (bg := bg) (gX := gX) (sa := sa) (sh := sh) (N := N) (P := P) (K := K) (R := R) (me := me) (h := h) (lx := lx) (va := va) (ou := ou) (kn := kn) (gY := gY) (oc := oc) (rn := rn) (lo := lo) (sA := sA) (sB := sB) (NY := NY) (PY := PY) (KY := KY) (d := d) (M := M) (4 * (L - 1) + ac_mu [(e, 0)]) [(e, 0)] (upd al e 0) (upd rf e 0) (ac_cl fX M e) (ac_cl fY M e) (upd (upd (upd pe 0 (nI e)) 0 (fX (3 * e + 1))) (0 + 1) (fX (3 * e))) (upd td 0 (nI e)) (upd ph 0 0) (upd es E (nI e)) (L - 1) (E + 1) (0 + 1) (dn + 1)
        (Nat.le_refl _) I'' ⟨⟨pk_us, pk_us⟩, True.intro⟩
        (by rw [elen]; exact ⟨pk_us, by show upd _ _ _ 0 = _; rw [pk_un (by omega), pk_us], True.intro⟩)
        (by rw [elen]; show 0 + 1 + 2 * (L - 1) + (0 + 1 + 1) ≤ 49; omega)
      refine ⟨al', rf', fX', fY', pe', td', ph', es', L', E', dn', J1, fun pt post hpost => nm_e ?_, fun pt post hpost => br_f (nI_ne0 e1 (by omega)) (nm_e ?_)⟩
      · obtain ⟨n, hn⟩ := J2 pt post hpost
        rw [elen] at hn
        exact ⟨n + 1, bx_it2 (s := 0) (len := 0) post (by omega) (by omega) pk_us e1 heM hM (by omega) L1 yr hn⟩
      · refine by_count hM hd _ (br_t (by rw [c0]; rfl) ?_)
        exact by_end (t := 0) e1 heM hM (by omega) L1 (by omega) _ (J3 pt post hpost)
    · have I'' := ac_dec I e1 (by omega)
      refine ⟨al, upd rf e (nI (ac_N gY h lo d fY M e)), fX, fY, upd pe 0 (nI e), td, ph, es, L, E, dn + 1, I'', fun pt post hpost => nm_e ⟨2, ?_⟩, fun pt post hpost => br_f (nI_ne0 e1 (by omega)) (nm_e ?_)⟩
      · exact bx_it1 (s := 0) (len := 0) post (by omega) (by omega) pk_us e1 (by omega) yr (by omega) (by omega) (br_f (by decide) (br_t (by decide) hpost))
      · exact by_count hM hd _ (br_f (nI_ne0 (by omega) (by omega)) ⟨1, br_t (by decide) hpost⟩)
end
end
section
theorem ad_nb {b : Int32} (h : b = 0 ∨ b = 1) : vp_nar .boolean b = b := by
  rcases h with e | e <;> rw [e] <;> decide
/-- the two marks of a loan -/
def af_ll (h lx lo : Nat → Int32) : Prop := ∀ v, (lx v = 0 ∨ lx v = 1) ∧ (h v = 0 → lo v = 0) ∧ (h v ≠ 0 → lo v = lx v)
theorem af_ll_u {h lx lo : Nat → Int32} (H : af_ll h lx lo) (v : Nat) {x b b' : Int32} (hb : b = 0 ∨ b = 1) (h0 : x = 0 → b' = 0) (h1 : x ≠ 0 → b' = b) : af_ll (upd h v x) (upd lx v b) (upd lo v b') := by
  intro w
  by_cases e : w = v
  · subst e
    rw [pk_us, pk_us, pk_us]
    exact ⟨hb, h0, h1⟩
  · rw [pk_un e, pk_un e, pk_un e]
    exact H w
theorem af_ll_h {h lx lo : Nat → Int32} (H : af_ll h lx lo) {v : Nat} (hl : lo v = 0) : af_ll (upd h v 0) lx lo := by
  intro w
  by_cases e : w = v
  · subst e
    rw [pk_us]
    exact ⟨(H w).1, fun _ => hl, fun z => absurd rfl z⟩
  · rw [pk_un e]
    exact H w
theorem af_old {h lx lo : Nat → Int32} (H : af_ll h lx lo) (v : Nat) : (if lx v = 0 then h v else 0) = (if lo v = 0 then h v else 0) := by
  obtain ⟨_, h2, h3⟩ := H v
  by_cases c : h v = 0
  · rw [c]; simp
  · rw [h3 c]
theorem af_bx {x : Nat} {b : Int32} (hx : x ≤ 300) : (if (if nI x = 0 then 0 else b) = 0 then x else 0) = (if b = 0 then x else 0) := by
  by_cases c : nI x = 0
  · have : x = 0 := (nI_eq (b := 0) (by omega) (by decide)).mp c
    subst this
    simp
  · rw [if_neg c]
section
variable {p : ap_T} {kn po en up dn bg lv md gX gY dp sa sh oc rn : Int32} {sA sB N P K R NY PY KY me pt h lx lo va rf al fX fY pe ou es td ph : Nat → Int32}
variable {d M L E : Nat}
theorem bx_emp {v : Nat} (hv : v < 36) (post : Int32 → SX → Prop) (hp : post (if lx v = 0 then h v else 0) (po, en, up, dn, bg, lv, md, gX, dp, sa, sh, ap_sz p, ap_L p, ap_oo p, ap_aA p, ap_aB p, ap_c p, N, P, K, R, me, pt, upd h v 0, upd lx v 0, va, rf, al, fX, pe, ou, es)) : wpX_emptied post (po, en, up, dn, bg, lv, md, gX, dp, sa, sh, ap_sz p, ap_L p, ap_oo p, ap_aA p, ap_aB p, ap_c p, N, P, K, R, me, pt, h, lx, va, rf, al, fX, pe, ou, es) (nI v) := by
  have vi : vp_in (nI v) 36 := vp_in_nI hv (by omega)
  have ek : (nI v).toNatClampNeg = v := nI_clamp (by omega)
  have fin : ∀ z : Int32, z = (if lx v = 0 then h v else 0) → wX_emptied_19 post (nI v) z po en up dn bg lv md gX dp sa sh (ap_sz p) (ap_L p) (ap_oo p) (ap_aA p) (ap_aB p) (ap_c p) N P K R me pt h lx va rf al fX pe ou es := by
    intro z ez
    refine ⟨vi, nm_r (e' := upd h v 0) (by rw [ek]) ⟨vi, nm_r (e' := upd lx v 0) (by rw [ek, ad_nb0]) ?_⟩⟩
    rw [ez]; exact hp
  refine ⟨vi, ?_⟩
  rw [ek]
  exact br_c (fun c => ⟨vi, fin _ (by rw [if_pos c])⟩) (fun c => fin _ (by rw [if_neg c]))
/-- what a variable holds goes (X: out of it, then let go; Y: it gets nothing) -/
theorem by_get {v x : Nat} {b : Int32} (hv : v < 36) (hb : b = 0 ∨ b = 1) (hx : x ≤ 300) (post : SY → Prop)
    (K : ∀ z : Int32, z = (if lo v = 0 then h v else 0) → wY_get_46 post z (if nI x = 0 then 0 else b) (nI v) kn md lv up dn dp bg gY oc sh rn po en (ap_oo p) sA sB (ap_c p) (ap_sz p) (ap_L p) NY PY KY va fY al me pt (upd h v (nI x)) lo ou es td ph) : wpY_get post (kn, md, lv, up, dn, dp, bg, gY, oc, sh, rn, po, en, ap_oo p, sA, sB, ap_c p, ap_sz p, ap_L p, NY, PY, KY, va, fY, al, me, pt, h, lo, ou, es, td, ph) (nI v) (nI x) b := by
  have vi : vp_in (nI v) 36 := vp_in_nI hv (by omega)
  have ek : (nI v).toNatClampNeg = v := nI_clamp (by omega)
  have fin : ∀ z : Int32, z = (if lo v = 0 then h v else 0) → wY_get_19 post (nI v) (nI x) b z kn md lv up dn dp bg gY oc sh rn po en (ap_oo p) sA sB (ap_c p) (ap_sz p) (ap_L p) NY PY KY va fY al me pt h lo ou es td ph := by
    intro z ez
    have k := K z ez
    refine ⟨vi, nm_r (e' := upd h v (nI x)) (by rw [ek]) ?_⟩
    rcases hb with e | e
    · refine br_t e ?_
      have : (if nI x = 0 then 0 else b) = 0 := by rw [e]; split <;> rfl
      rw [this] at k
      exact k
    · refine br_f (by rw [e]; decide) ?_
      by_cases c : x = 0
      · subst c
        exact br_t (by decide) k
      · refine br_f (nI_nle (by omega) (by omega)) ?_
        rw [if_neg (nI_ne0 (by omega) (by omega)), e] at k
        exact k
  refine ⟨vi, ?_⟩
  rw [ek]
  exact br_c (fun c => ⟨vi, fin _ (by rw [if_pos c])⟩) (fun c => fin _ (by rw [if_neg c]))
theorem bz_fill {v x : Nat} {b : Int32} (I : ac_MI (if b = 0 then x else 0) [] gY h lo d M al rf fX fY L E) (hv : v < 6 * d) (hx : x ≤ M) (hl : af_ll h lx lo) (hb : b = 0 ∨ b = 1) :
    ∃ (al' rf' fX' fY' pe' td' ph' es' : Nat → Int32) (L' E' : Nat) (dn' : Int32), ac_MI 0 [] gY (upd h v (nI x)) (upd lo v (if nI x = 0 then 0 else b)) d M al' rf' fX' fY' L' E' ∧ af_ll (upd h v (nI x)) (upd lx v b) (upd lo v (if nI x = 0 then 0 else b)) ∧
      (∀ (pt : Nat → Int32) (post : SX → Prop), post (po, nI E', up, dn', bg, nI L', nI M, gX, nI d, sa, sh, ap_sz p, ap_L p, ap_oo p, ap_aA p, ap_aB p, ap_c p, N, P, K, R, me, pt, upd h v (nI x), upd lx v b, va, rf', al', fX', pe', ou, es') → wpX_fill post (po, nI E, up, dn, bg, nI L, nI M, gX, nI d, sa, sh, ap_sz p, ap_L p, ap_oo p, ap_aA p, ap_aB p, ap_c p, N, P, K, R, me, pt, h, lx, va, rf, al, fX, pe, ou, es) (nI v) (nI x) b) ∧
      (∀ (pt : Nat → Int32) (post : SY → Prop), post (kn, nI M, nI L', up, dn', nI d, bg, gY, oc, sh, rn, po, nI E', ap_oo p, sA, sB, ap_c p, ap_sz p, ap_L p, NY, PY, KY, va, fY', al', me, pt, upd h v (nI x), upd lo v (if nI x = 0 then 0 else b), ou, es', td', ph') → wpY_get post (kn, nI M, nI L, up, dn, nI d, bg, gY, oc, sh, rn, po, nI E, ap_oo p, sA, sB, ap_c p, ap_sz p, ap_L p, NY, PY, KY, va, fY, al, me, pt, h, lo, ou, es, td, ph) (nI v) (nI x) b) := by
  obtain ⟨_, hL24, hEL, hM, hd⟩ := I.2.2.2.2.2.2.1
  obtain ⟨q, hq, eq⟩ := I.2.2.2.1 v hv
  have v36 : v < 36 := by omega
  have vi : vp_in (nI v) 36 := vp_in_nI v36 (by omega)
  have ek : (nI v).toNatClampNeg = v := nI_clamp (by omega)
  have I1 := ac_store (v := v) (x := x) (if nI x = 0 then 0 else b) (by rw [af_bx (by omega)]; exact I) hv hx eq hq
  obtain ⟨al', rf', fX', fY', pe', td', ph', es', L', E', dn', J1, J2, J3⟩ := bz_drop (p := p) (po := po) (up := up) (bg := bg) (gX := gX) (sa := sa) (sh := sh) (N := N) (P := P) (K := K) (R := R) (me := me) (h := upd h v (nI x)) (lx := upd lx v b) (va := va) (ou := ou) (kn := kn) (gY := gY) (oc := oc) (rn := rn) (lo := upd lo v (if nI x = 0 then 0 else b)) (sA := sA) (sB := sB) (NY := NY) (PY := PY) (KY := KY) (dn := dn) (pe := pe) (td := td) (ph := ph) (es := es) I1
  have eo : nI (if lo v = 0 then q else 0) = (if lo v = 0 then h v else 0) := by
    by_cases c : lo v = 0
    · rw [if_pos c, if_pos c, eq]
    · rw [if_neg c, if_neg c]; rfl
  rw [eo] at J2 J3
  refine ⟨al', rf', fX', fY', pe', td', ph', es', L', E', dn', J1, af_ll_u hl v hb (fun c => by rw [if_pos c]) (fun c => by rw [if_neg c]), fun pt post hp => ?_, fun pt post hp => ?_⟩
  · refine bx_emp v36 _ ?_
    rw [af_old hl v]
    refine ⟨vi, nm_r (e' := upd h v (nI x)) (by rw [ek, ad_upd2]) ⟨vi, nm_r (e' := upd lx v b) (by rw [ek, ad_upd2, ad_nb hb]) (J2 pt _ hp)⟩⟩
  · refine by_get v36 hb (by omega) post (fun z ez => ⟨vi, nm_r (e' := upd lo v (if nI x = 0 then 0 else b)) (by rw [ek, ad_nb]; split; exact Or.inl rfl; exact hb) ?_⟩)
    rw [ez]
    exact J3 pt _ hp
/-- a variable is emptied -/
theorem bz_emp {v : Nat} (I : ac_MI 0 [] gY h lo d M al rf fX fY L E) (hv : v < 6 * d) (hl : af_ll h lx lo) :
    ∃ (al' rf' fX' fY' pe' td' ph' es' : Nat → Int32) (L' E' : Nat) (dn' : Int32), ac_MI 0 [] gY (upd h v 0) (upd lo v 0) d M al' rf' fX' fY' L' E' ∧ af_ll (upd h v 0) (upd lx v 0) (upd lo v 0) ∧
      (∀ (pt : Nat → Int32) (post : SX → Prop), post (po, nI E', up, dn', bg, nI L', nI M, gX, nI d, sa, sh, ap_sz p, ap_L p, ap_oo p, ap_aA p, ap_aB p, ap_c p, N, P, K, R, me, pt, upd h v 0, upd lx v 0, va, rf', al', fX', pe', ou, es') → wpX_letGo post (po, nI E, up, dn, bg, nI L, nI M, gX, nI d, sa, sh, ap_sz p, ap_L p, ap_oo p, ap_aA p, ap_aB p, ap_c p, N, P, K, R, me, pt, upd h v 0, upd lx v 0, va, rf, al, fX, pe, ou, es) (if lx v = 0 then h v else 0)) ∧
      (∀ (pt : Nat → Int32) (post : SY → Prop), post (kn, nI M, nI L', up, dn', nI d, bg, gY, oc, sh, rn, po, nI E', ap_oo p, sA, sB, ap_c p, ap_sz p, ap_L p, NY, PY, KY, va, fY', al', me, pt, upd h v 0, upd lo v 0, ou, es', td', ph') → wpY_get post (kn, nI M, nI L, up, dn, nI d, bg, gY, oc, sh, rn, po, nI E, ap_oo p, sA, sB, ap_c p, ap_sz p, ap_L p, NY, PY, KY, va, fY, al, me, pt, h, lo, ou, es, td, ph) (nI v) 0 0) := by
  obtain ⟨_, hL24, hEL, hM, hd⟩ := I.2.2.2.2.2.2.1
  obtain ⟨q, hq, eq⟩ := I.2.2.2.1 v hv
  have v36 : v < 36 := by omega
  have vi : vp_in (nI v) 36 := vp_in_nI v36 (by omega)
  have ek : (nI v).toNatClampNeg = v := nI_clamp (by omega)
  have I1 := ac_store (v := v) (x := 0) (0 : Int32) (by rw [if_pos rfl]; exact I) hv (Nat.zero_le _) eq hq
  obtain ⟨al', rf', fX', fY', pe', td', ph', es', L', E', dn', J1, J2, J3⟩ := bz_drop (p := p) (po := po) (up := up) (bg := bg) (gX := gX) (sa := sa) (sh := sh) (N := N) (P := P) (K := K) (R := R) (me := me) (h := upd h v 0) (lx := upd lx v 0) (va := va) (ou := ou) (kn := kn) (gY := gY) (oc := oc) (rn := rn) (lo := upd lo v 0) (sA := sA) (sB := sB) (NY := NY) (PY := PY) (KY := KY) (dn := dn) (pe := pe) (td := td) (ph := ph) (es := es) I1
  have eo : nI (if lo v = 0 then q else 0) = (if lo v = 0 then h v else 0) := by
    by_cases c : lo v = 0
    · rw [if_pos c, if_pos c, eq]
    · rw [if_neg c, if_neg c]; rfl
  rw [eo] at J2 J3
  refine ⟨al', rf', fX', fY', pe', td', ph', es', L', E', dn', J1, af_ll_u hl v (Or.inl rfl) (fun _ => rfl) (fun _ => rfl), fun pt post hp => ?_, fun pt post hp => ?_⟩
  · rw [af_old hl v]; exact J2 pt post hp
  · refine by_get (x := 0) v36 (Or.inl rfl) (by omega) post (fun z ez => ⟨vi, nm_r (e' := upd lo v 0) (by rw [ek, show (if nI 0 = 0 then (0 : Int32) else 0) = 0 from rfl, ad_nb0]) ?_⟩)
    rw [ez]
    exact J3 pt _ hp
end
end
section
/-! k places from b on hold nothing -/
def af_ze (f : Nat → Int32) (b k : Nat) : Nat → Int32 := fun w => if b ≤ w ∧ w < b + k then 0 else f w
theorem af_ze_0 (f : Nat → Int32) (b : Nat) : af_ze f b 0 = f := by
  funext w
  exact if_neg (fun z => by omega)
theorem af_ze_s (f : Nat → Int32) (b v : Nat) : upd (af_ze f b v) (b + v) 0 = af_ze f b (v + 1) := by
  funext w
  by_cases e : w = b + v
  · subst e
    rw [pk_us]
    exact (if_pos ⟨by omega, by omega⟩).symm
  · rw [pk_un e]
    unfold af_ze
    by_cases c : b ≤ w ∧ w < b + v
    · rw [if_pos c, if_pos ⟨c.1, by omega⟩]
    · rw [if_neg c, if_neg (fun z => c ⟨z.1, by omega⟩)]
theorem af_ze_in {f : Nat → Int32} {b k w : Nat} (h1 : b ≤ w) (h2 : w < b + k) : af_ze f b k w = 0 := if_pos ⟨h1, h2⟩
theorem af_ze_out {f : Nat → Int32} {b k w : Nat} (h : w < b ∨ b + k ≤ w) : af_ze f b k w = f w := if_neg (fun z => by omega)
section
variable {p : ap_T} {kn po en up dn bg lv md gX gY dp sa sh oc rn : Int32} {sA sB N P K R NY PY KY me pt h lx lo va rf al fX fY pe ou es td ph : Nat → Int32}
variable {d M L E m x : Nat}
theorem bx_entl (hd : d < 6) (b : Int32) (hb : b = 0 ∨ b = 1) (post : SX → Prop)
    (hp : post (po, en, up, dn, bg, lv, md, gX, nI (d + 1), sa, sh, ap_sz p, ap_L p, ap_oo p, ap_aA p, ap_aB p, ap_c p, N, P, K, R, upd me d (nI m), upd pt d 0, upd (af_ze h (6 * d) 6) (6 * d) (nI x), upd (af_ze lx (6 * d) 6) (6 * d) b, va, rf, al, fX, pe, ou, es)) :
    ∀ e v, v + e = 6 → wX_enter_12 post (nI m) (nI x) b (nI (6 * d)) po en up dn bg lv md gX (nI d) sa sh (e + 1) (nI v) (ap_sz p) (ap_L p) (ap_oo p) (ap_aA p) (ap_aB p) (ap_c p) N P K R me pt (af_ze h (6 * d) v) (af_ze lx (6 * d) v) va rf al fX pe ou es := by
  intro e
  induction e with
  | zero =>
    intro v hv
    have : v = 6 := by omega
    subst this
    have vi : vp_in (nI (6 * d)) 36 := vp_in_nI (by omega) (by omega)
    have vd : vp_in (nI d) 6 := vp_in_nI hd (by omega)
    have ek : (nI (6 * d)).toNatClampNeg = 6 * d := nI_clamp (by omega)
    have ed : (nI d).toNatClampNeg = d := nI_clamp (by omega)
    exact br_t (by decide) ⟨vi, nm_r (e' := upd (af_ze h (6 * d) 6) (6 * d) (nI x)) (by rw [ek]) ⟨vi, nm_r (e' := upd (af_ze lx (6 * d) 6) (6 * d) b) (by rw [ek, ad_nb hb]) ⟨vd, nm_r (e' := upd me d (nI m)) (by rw [ed]) ⟨vd, nm_r (e' := upd pt d 0) (by rw [ed]) (nm_r (nI_1 d) hp)⟩⟩⟩⟩
  | succ e ih =>
    intro v hv
    have ei : nI (6 * d) + nI v = nI (6 * d + v) := nI_add _ _
    have ek : (nI (6 * d) + nI v).toNatClampNeg = 6 * d + v := by rw [ei, nI_clamp (by omega)]
    have vi : vp_in (nI (6 * d) + nI v) 36 := by rw [ei]; exact vp_in_nI (by omega) (by omega)
    exact br_f (nI_ge (b := 6) (by omega) (by decide)) ⟨vi, nm_r (e' := af_ze h (6 * d) (v + 1)) (by rw [ek, af_ze_s]) ⟨vi, nm_r (e' := af_ze lx (6 * d) (v + 1)) (by rw [ek, ad_nb0, af_ze_s]) (nm_r (nI_1 v) (ih (v + 1) (by omega)))⟩⟩
theorem bx_enter (hd : d < 6) (b : Int32) (hb : b = 0 ∨ b = 1) (post : SX → Prop)
    (hp : post (po, en, up, dn, bg, lv, md, gX, nI (d + 1), sa, sh, ap_sz p, ap_L p, ap_oo p, ap_aA p, ap_aB p, ap_c p, N, P, K, R, upd me d (nI m), upd pt d 0, upd (af_ze h (6 * d) 6) (6 * d) (nI x), upd (af_ze lx (6 * d) 6) (6 * d) b, va, rf, al, fX, pe, ou, es)) :
    wpX_enter post (po, en, up, dn, bg, lv, md, gX, nI d, sa, sh, ap_sz p, ap_L p, ap_oo p, ap_aA p, ap_aB p, ap_c p, N, P, K, R, me, pt, h, lx, va, rf, al, fX, pe, ou, es) (nI m) (nI x) b := by
  have e6 : nI d * 6 = nI (6 * d) := by
    have : nI d * 6 = nI (d * 6) := pk_mul d 6
    rw [this, Nat.mul_comm]
  refine nm_r e6 ⟨7, ?_⟩
  have := bx_entl hd b hb post hp 6 0 (by omega)
  rw [af_ze_0, af_ze_0] at this
  exact this
theorem by_entl (hd : d < 6) (hx : x ≤ 300) (b : Int32) (hb : b = 0 ∨ b = 1) (post : SY → Prop)
    (hp : post (kn, md, lv, up, dn, nI (d + 1), bg, gY, oc, sh, rn, po, en, ap_oo p, sA, sB, ap_c p, ap_sz p, ap_L p, NY, PY, KY, va, fY, al, me, pt, upd (af_ze h (6 * d) 6) (6 * d) (nI x), upd (af_ze lo (6 * d) 6) (6 * d) (if nI x = 0 then 0 else b), ou, es, td, ph)) :
    ∀ e v, v + e = 6 → wY_enter_29 post (nI x) b kn md lv up dn (nI d) bg gY oc sh rn po en (e + 1) (nI (6 * d + v)) (ap_oo p) sA sB (ap_c p) (ap_sz p) (ap_L p) NY PY KY va fY al me pt (af_ze h (6 * d) v) (af_ze lo (6 * d) v) ou es td ph := by
  have e6 : 6 * nI d = nI (6 * d) := pk_mul 6 d
  have e66 : 6 * nI d + 6 = nI (6 * d + 6) := by rw [e6]; exact nI_add _ _
  intro e
  induction e with
  | zero =>
    intro v hv
    have : v = 6 := by omega
    subst this
    have vi : vp_in (6 * nI d) 36 := by rw [e6]; exact vp_in_nI (by omega) (by omega)
    have ek : (6 * nI d).toNatClampNeg = 6 * d := by rw [e6, nI_clamp (by omega)]
    refine br_t (by rw [e66]; exact nI_le (by omega) (by omega)) ⟨vi, nm_r (e' := upd (af_ze h (6 * d) 6) (6 * d) (nI x)) (by rw [ek]) ?_⟩
    have fin : ∀ z : Int32, z = (if nI x = 0 then 0 else b) → wY_enter_103 post z (6 * nI d) kn md lv up dn (nI d) bg gY oc sh rn po en (ap_oo p) sA sB (ap_c p) (ap_sz p) (ap_L p) NY PY KY va fY al me pt (upd (af_ze h (6 * d) 6) (6 * d) (nI x)) (af_ze lo (6 * d) 6) ou es td ph := by
      intro z ez
      refine ⟨vi, nm_r (e' := upd (af_ze lo (6 * d) 6) (6 * d) (if nI x = 0 then 0 else b)) ?_ (nm_r (nI_1 d) hp)⟩
      rw [ek, ez, ad_nb]
      split
      · exact Or.inl rfl
      · exact hb
    rcases hb with f | f
    · exact br_t f (fin 0 (by rw [f]; split <;> rfl))
    · refine br_f (by rw [f]; decide) ?_
      by_cases c : x = 0
      · subst c
        exact br_t (by decide) (fin 0 rfl)
      · exact br_f (nI_nle (by omega) (by omega)) (fin 1 (by rw [if_neg (nI_ne0 (by omega) (by omega)), f]))
  | succ e ih =>
    intro v hv
    have ek : (nI (6 * d + v)).toNatClampNeg = 6 * d + v := nI_clamp (by omega)
    have vi : vp_in (nI (6 * d + v)) 36 := vp_in_nI (by omega) (by omega)
    exact br_f (by rw [e66]; exact nI_ge (by omega) (by omega)) ⟨vi, nm_r (e' := af_ze h (6 * d) (v + 1)) (by rw [ek, af_ze_s]) ⟨vi, nm_r (e' := af_ze lo (6 * d) (v + 1)) (by rw [ek, ad_nb0, af_ze_s]) (nm_r (nI_1 _) (ih (v + 1) (by omega)))⟩⟩
theorem by_enter (hd : d < 6) (hx : x ≤ 300) (b : Int32) (hb : b = 0 ∨ b = 1) (post : SY → Prop)
    (hp : post (kn, md, lv, up, dn, nI (d + 1), bg, gY, oc, sh, rn, po, en, ap_oo p, sA, sB, ap_c p, ap_sz p, ap_L p, NY, PY, KY, va, fY, al, upd me d (nI m), upd pt d 0, upd (af_ze h (6 * d) 6) (6 * d) (nI x), upd (af_ze lo (6 * d) 6) (6 * d) (if nI x = 0 then 0 else b), ou, es, td, ph)) :
    wpY_enter post (kn, md, lv, up, dn, nI d, bg, gY, oc, sh, rn, po, en, ap_oo p, sA, sB, ap_c p, ap_sz p, ap_L p, NY, PY, KY, va, fY, al, me, pt, h, lo, ou, es, td, ph) (nI m) (nI x) b := by
  have vd : vp_in (nI d) 6 := vp_in_nI hd (by omega)
  have ed : (nI d).toNatClampNeg = d := nI_clamp (by omega)
  have e6 : 6 * nI d = nI (6 * d) := pk_mul 6 d
  refine ⟨vd, nm_r (e' := upd me d (nI m)) (by rw [ed]) ⟨vd, nm_r (e' := upd pt d 0) (by rw [ed]) (nm_r (e' := nI (6 * d + 0)) e6 ⟨7, ?_⟩)⟩⟩
  have := by_entl (me := upd me d (nI m)) (pt := upd pt d 0) hd hx b hb post hp 6 0 (by omega)
  rw [af_ze_0, af_ze_0] at this
  exact this
/-! a new object -/
theorem bx_mkl (hM : M < 300) (post : Int32 → SX → Prop) (hp : post (nI (M + 1)) (po, en, up, dn, bg, lv, nI (M + 1), gX, dp, sa, sh, ap_sz p, ap_L p, ap_oo p, ap_aA p, ap_aB p, ap_c p, N, P, K, R, me, pt, h, lx, va, rf, al, af_ze fX (3 * (M + 1)) 3, pe, ou, es)) :
    ∀ e v, v + e = 3 → wX_makeObject_52 post po en up dn bg lv (nI (M + 1)) gX dp sa sh (e + 1) (nI v) (ap_sz p) (ap_L p) (ap_oo p) (ap_aA p) (ap_aB p) (ap_c p) N P K R me pt h lx va rf al (af_ze fX (3 * (M + 1)) v) pe ou es := by
  intro e
  induction e with
  | zero =>
    intro v hv
    have : v = 3 := by omega
    subst this
    exact br_t (by decide) hp
  | succ e ih =>
    intro v hv
    have ei : nI (M + 1) * 3 + nI v = nI (3 * (M + 1) + v) := by
      have : nI (M + 1) * 3 = nI ((M + 1) * 3) := pk_mul (M + 1) 3
      rw [this, nI_add, Nat.mul_comm]
    have ek : (nI (M + 1) * 3 + nI v).toNatClampNeg = 3 * (M + 1) + v := by rw [ei, nI_clamp (by omega)]
    exact br_f (nI_ge (b := 3) (by omega) (by decide)) ⟨by rw [ei]; exact vp_in_nI (by omega) (by omega), nm_r (e' := af_ze fX (3 * (M + 1)) (v + 1)) (by rw [ek, af_ze_s]) (nm_r (nI_1 v) (ih (v + 1) (by omega)))⟩
theorem bx_make (hM : M < 300) (c : Int32) (post : Int32 → SX → Prop)
    (hp : post (nI (M + 1)) (po, en, up, dn, bg, nI (L + 1), nI (M + 1), gX, dp, sa, sh, ap_sz p, ap_L p, ap_oo p, ap_aA p, ap_aB p, ap_c p, N, P, K, R, me, pt, h, lx, upd va (M + 1) c, upd rf (M + 1) 1, upd al (M + 1) 1, af_ze fX (3 * (M + 1)) 3, pe, ou, es)) :
    wpX_makeObject post (po, en, up, dn, bg, nI L, nI M, gX, dp, sa, sh, ap_sz p, ap_L p, ap_oo p, ap_aA p, ap_aB p, ap_c p, N, P, K, R, me, pt, h, lx, va, rf, al, fX, pe, ou, es) c := by
  have vi : vp_in (nI (M + 1)) 301 := vp_in_nI (by omega) (by omega)
  have ek : (nI (M + 1)).toNatClampNeg = M + 1 := nI_clamp (by omega)
  refine nm_r (nI_1 M) (nm_r (nI_1 L) ⟨vi, nm_r (e' := upd va (M + 1) c) (by rw [ek]) ⟨vi, nm_r (e' := upd rf (M + 1) 1) (by rw [ek]) ⟨vi, nm_r (e' := upd al (M + 1) 1) (by rw [ek, ad_nb1]) ⟨4, ?_⟩⟩⟩⟩)
  have := bx_mkl (lv := nI (L + 1)) (va := upd va (M + 1) c) (rf := upd rf (M + 1) 1) (al := upd al (M + 1) 1) hM post hp 3 0 (by omega)
  rw [af_ze_0] at this
  exact this
theorem by_mkl (hM : M < 300) (post : Int32 → SY → Prop) (hp : post (nI (M + 1)) (kn, nI (M + 1), lv, up, dn, dp, bg, gY, oc, sh, rn, po, en, ap_oo p, sA, sB, ap_c p, ap_sz p, ap_L p, NY, PY, KY, va, af_ze fY (3 * (M + 1)) 3, al, me, pt, h, lo, ou, es, td, ph)) :
    ∀ e v, v + e = 3 → wY_make_40 post (nI (M + 1)) kn (nI (M + 1)) lv up dn dp bg gY oc sh rn po en (e + 1) (nI (3 * (M + 1) + v)) (ap_oo p) sA sB (ap_c p) (ap_sz p) (ap_L p) NY PY KY va (af_ze fY (3 * (M + 1)) v) al me pt h lo ou es td ph := by
  have e3 : 3 * nI (M + 1) + 3 = nI (3 * (M + 1) + 3) := by
    have : 3 * nI (M + 1) = nI (3 * (M + 1)) := pk_mul 3 (M + 1)
    rw [this]; exact nI_add _ 3
  intro e
  induction e with
  | zero =>
    intro v hv
    have : v = 3 := by omega
    subst this
    exact br_t (by rw [e3]; exact nI_le (by omega) (by omega)) hp
  | succ e ih =>
    intro v hv
    have ek : (nI (3 * (M + 1) + v)).toNatClampNeg = 3 * (M + 1) + v := nI_clamp (by omega)
    exact br_f (by rw [e3]; exact nI_ge (by omega) (by omega)) ⟨vp_in_nI (by omega) (by omega), nm_r (e' := af_ze fY (3 * (M + 1)) (v + 1)) (by rw [ek, af_ze_s]) (nm_r (nI_1 _) (ih (v + 1) (by omega)))⟩
theorem by_make (hM : M < 300) (c : Int32) (post : Int32 → SY → Prop)
    (hp : post (nI (M + 1)) (kn, nI (M + 1), nI (L + 1), up, dn, dp, bg, gY, oc, sh, rn, po, en, ap_oo p, sA, sB, ap_c p, ap_sz p, ap_L p, NY, PY, KY, upd va (M + 1) c, af_ze fY (3 * (M + 1)) 3, upd al (M + 1) 1, me, pt, h, lo, ou, es, td, ph)) :
    wpY_make post (kn, nI M, nI L, up, dn, dp, bg, gY, oc, sh, rn, po, en, ap_oo p, sA, sB, ap_c p, ap_sz p, ap_L p, NY, PY, KY, va, fY, al, me, pt, h, lo, ou, es, td, ph) c := by
  have vi : vp_in (nI (M + 1)) 301 := vp_in_nI (by omega) (by omega)
  have ek : (nI (M + 1)).toNatClampNeg = M + 1 := nI_clamp (by omega)
  have e3 : 3 * nI (M + 1) = nI (3 * (M + 1) + 0) := pk_mul 3 (M + 1)
  refine nm_r (nI_1 M) (nm_r (nI_1 M) (nm_r (nI_1 L) ⟨vi, nm_r (e' := upd al (M + 1) 1) (by rw [ek, ad_nb1]) ⟨vi, nm_r (e' := upd va (M + 1) c) (by rw [ek]) (nm_r e3 ⟨4, ?_⟩)⟩⟩))
  have := by_mkl (lv := nI (L + 1)) (va := upd va (M + 1) c) (al := upd al (M + 1) 1) hM post hp 3 0 (by omega)
  rw [af_ze_0] at this
  exact this
/-! one reference more -/
theorem bx_up {n : Nat} (hn : n ≤ 300) (post : SX → Prop) (h0 : n = 0 → post (po, en, up, dn, bg, lv, md, gX, dp, sa, sh, ap_sz p, ap_L p, ap_oo p, ap_aA p, ap_aB p, ap_c p, N, P, K, R, me, pt, h, lx, va, rf, al, fX, pe, ou, es)) (h1 : 1 ≤ n → post (po, en, up + 1, dn, bg, lv, md, gX, dp, sa, sh, ap_sz p, ap_L p, ap_oo p, ap_aA p, ap_aB p, ap_c p, N, P, K, R, me, pt, h, lx, va, upd rf n (rf n + 1), al, fX, pe, ou, es)) : wpX_countUp post (po, en, up, dn, bg, lv, md, gX, dp, sa, sh, ap_sz p, ap_L p, ap_oo p, ap_aA p, ap_aB p, ap_c p, N, P, K, R, me, pt, h, lx, va, rf, al, fX, pe, ou, es) (nI n) := by
  by_cases c : n = 0
  · subst c; exact br_t rfl (h0 rfl)
  · have vi : vp_in (nI n) 301 := vp_in_nI (by omega) (by omega)
    exact br_f (nI_ne0 (by omega) (by omega)) ⟨vi, vi, nm_r (e' := upd rf n (rf n + 1)) (by rw [nI_clamp (by omega)]) (nm_e (h1 (by omega)))⟩
theorem by_more {n : Nat} (hn : n ≤ 300) (post : Int32 → SY → Prop) (h0 : n = 0 → post (nI n) (kn, md, lv, up, dn, dp, bg, gY, oc, sh, rn, po, en, ap_oo p, sA, sB, ap_c p, ap_sz p, ap_L p, NY, PY, KY, va, fY, al, me, pt, h, lo, ou, es, td, ph)) (h1 : 1 ≤ n → post (nI n) (kn, md, lv, up + 1, dn, dp, bg, gY, oc, sh, rn, po, en, ap_oo p, sA, sB, ap_c p, ap_sz p, ap_L p, NY, PY, KY, va, fY, al, me, pt, h, lo, ou, es, td, ph)) : wpY_more post (kn, md, lv, up, dn, dp, bg, gY, oc, sh, rn, po, en, ap_oo p, sA, sB, ap_c p, ap_sz p, ap_L p, NY, PY, KY, va, fY, al, me, pt, h, lo, ou, es, td, ph) (nI n) := by
  by_cases c : n = 0
  · subst c; exact br_t (by decide) (h0 rfl)
  · exact br_f (nI_nle (by omega) (by omega)) (nm_e (h1 (by omega)))
/-- what a variable holds is taken, for another place -/
theorem bz_take {v n : Nat} (mb : Int32) (I : ac_MI 0 [] gY h lo d M al rf fX fY L E) (hv : v < 6 * d) (en' : h v = nI n) (hn : n ≤ M) (ha : 1 ≤ n → al n = 1) (hl : af_ll h lx lo) :
    ∃ (h' rf' : Nat → Int32) (up' : Int32), ac_MI n [] gY h' lo d M al rf' fX fY L E ∧ af_ll h' lx lo ∧ (∀ w, w ≠ v → h' w = h w) ∧
      ((sh ≠ 0 ∧ mb ≠ 0 ∧ lo v = 0 ∧ h' = upd h v 0 ∧ up' = up) ∨ (¬ (sh ≠ 0 ∧ mb ≠ 0 ∧ lo v = 0) ∧ h' = h ∧ up' = if n = 0 then up else up + 1)) ∧
      (∀ post : Int32 → SX → Prop, post (nI n) (po, nI E, up', dn, bg, nI L, nI M, gX, nI d, sa, sh, ap_sz p, ap_L p, ap_oo p, ap_aA p, ap_aB p, ap_c p, N, P, K, R, me, pt, h', lx, va, rf', al, fX, pe, ou, es) → wpX_take post (po, nI E, up, dn, bg, nI L, nI M, gX, nI d, sa, sh, ap_sz p, ap_L p, ap_oo p, ap_aA p, ap_aB p, ap_c p, N, P, K, R, me, pt, h, lx, va, rf, al, fX, pe, ou, es) (nI v) mb) := by
  obtain ⟨_, hL24, hEL, hM, hd⟩ := I.2.2.2.2.2.2.1
  have vi : vp_in (nI v) 36 := vp_in_nI (by omega) (by omega)
  have ek : (nI v).toNatClampNeg = v := nI_clamp (by omega)
  by_cases c : sh ≠ 0 ∧ mb ≠ 0 ∧ lo v = 0
  · by_cases c2 : lx v = 0
    · refine ⟨upd h v 0, rf, up, ac_hand I hv en' hn c.2.2, af_ll_h hl c.2.2, fun w hw => pk_un hw, Or.inl ⟨c.1, c.2.1, c.2.2, rfl, rfl⟩, fun post hp => ⟨vi, nm_r (e' := nI n) (by rw [ek]; exact en') ?_⟩⟩
      exact br_f c.1 (br_f c.2.1 ⟨vi, br_t (by rw [ek]; exact c2) ⟨vi, nm_r (e' := upd h v 0) (by rw [ek]) hp⟩⟩)
    · have h0 : h v = 0 := by
        apply Classical.byContradiction
        intro z
        exact c2 (by rw [← (hl v).2.2 z]; exact c.2.2)
      have n0 : n = 0 := (nI_eq (b := 0) (by omega) (by decide)).mp (en'.symm.trans h0)
      subst n0
      refine ⟨upd h v 0, rf, up, ac_hand I hv en' hn c.2.2, af_ll_h hl c.2.2, fun w hw => pk_un hw, Or.inl ⟨c.1, c.2.1, c.2.2, rfl, rfl⟩, fun post hp => ⟨vi, nm_r (e' := nI 0) (by rw [ek]; exact en') ?_⟩⟩
      rw [ad_updS h v 0 h0] at hp
      exact br_f c.1 (br_f c.2.1 ⟨vi, br_f (by rw [ek]; exact c2) (bx_up (by omega) _ (fun _ => hp) (fun z => by omega))⟩)
  · have mi : ac_MI n [] gY h lo d M al (if n = 0 then rf else upd rf n (rf n + 1)) fX fY L E := by
      by_cases c3 : n = 0
      · subst c3; rw [if_pos rfl]; exact I
      · rw [if_neg c3]; exact ac_up I (by omega) hn (ha (by omega))
    refine ⟨h, if n = 0 then rf else upd rf n (rf n + 1), if n = 0 then up else up + 1, mi, hl, fun _ _ => rfl, Or.inr ⟨c, rfl, rfl⟩, fun post hp => ⟨vi, nm_r (e' := nI n) (by rw [ek]; exact en') ?_⟩⟩
    have K : wX_take_37 post (nI n) po (nI E) up dn bg (nI L) (nI M) gX (nI d) sa sh (ap_sz p) (ap_L p) (ap_oo p) (ap_aA p) (ap_aB p) (ap_c p) N P K R me pt h lx va rf al fX pe ou es := by
      refine bx_up (by omega) _ (fun z => ?_) (fun z => ?_)
      · rw [if_pos z, if_pos z] at hp; exact hp
      · rw [if_neg (by omega), if_neg (by omega)] at hp; exact hp
    by_cases c1 : sh = 0
    · exact br_t c1 K
    · refine br_f c1 ?_
      by_cases c2 : mb = 0
      · exact br_t c2 K
      · refine br_f c2 ⟨vi, br_f ?_ K⟩
        rw [ek]
        intro z
        apply c
        refine ⟨c1, c2, ?_⟩
        by_cases c3 : h v = 0
        · exact (hl v).2.1 c3
        · rw [(hl v).2.2 c3]; exact z
theorem by_ref {v n k : Nat} (hv : v < 36) (hk : k < 64) (hn : n ≤ 300) (en' : h v = nI n) {h' : Nat → Int32} {up' : Int32}
    (hc : (sh ≠ 0 ∧ PY k = 2 ∧ lo v = 0 ∧ h' = upd h v 0 ∧ up' = up) ∨ (¬ (sh ≠ 0 ∧ PY k = 2 ∧ lo v = 0) ∧ h' = h ∧ up' = if n = 0 then up else up + 1)) (post : Int32 → SY → Prop)
    (hp : post (nI n) (kn, md, lv, up', dn, dp, bg, gY, oc, sh, rn, po, en, ap_oo p, sA, sB, ap_c p, ap_sz p, ap_L p, NY, PY, KY, va, fY, al, me, pt, h', lo, ou, es, td, ph)) : wpY_reference post (kn, md, lv, up, dn, dp, bg, gY, oc, sh, rn, po, en, ap_oo p, sA, sB, ap_c p, ap_sz p, ap_L p, NY, PY, KY, va, fY, al, me, pt, h, lo, ou, es, td, ph) (nI k) (nI v) := by
  have vi : vp_in (nI v) 36 := vp_in_nI hv (by omega)
  have ek : (nI v).toNatClampNeg = v := nI_clamp (by omega)
  have vk : vp_in (nI k) 64 := vp_in_nI hk (by omega)
  have ekk : (nI k).toNatClampNeg = k := nI_clamp (by omega)
  refine ⟨vi, nm_r (e' := nI n) (by rw [ek]; exact en') ?_⟩
  rcases hc with ⟨c1, c2, c3, e1, e2⟩ | ⟨c, e1, e2⟩
  · refine br_f c1 ⟨vk, br_t (by rw [ekk]; exact c2) ⟨vi, br_t (by rw [ek]; exact c3) (br_f (by decide) ⟨vi, nm_r (e' := upd h v 0) (by rw [ek]) ?_⟩)⟩⟩
    rw [e1, e2] at hp; exact hp
  · have p0 : n = 0 → post (nI n) (kn, md, lv, up, dn, dp, bg, gY, oc, sh, rn, po, en, ap_oo p, sA, sB, ap_c p, ap_sz p, ap_L p, NY, PY, KY, va, fY, al, me, pt, h, lo, ou, es, td, ph) := fun z => by rw [e1, e2, if_pos z] at hp; exact hp
    have p1 : 1 ≤ n → post (nI n) (kn, md, lv, up + 1, dn, dp, bg, gY, oc, sh, rn, po, en, ap_oo p, sA, sB, ap_c p, ap_sz p, ap_L p, NY, PY, KY, va, fY, al, me, pt, h, lo, ou, es, td, ph) := fun z => by rw [e1, e2, if_neg (by omega)] at hp; exact hp
    by_cases c1 : sh = 0
    · exact br_t c1 (br_t rfl (by_more hn _ p0 p1))
    · refine br_f c1 ⟨vk, ?_⟩
      rw [ekk]
      refine br_c (fun c2 => ⟨vi, ?_⟩) (fun c2 => br_t rfl (by_more hn _ p0 p1))
      rw [ek]
      exact br_c (fun c3 => absurd ⟨c1, c2, c3⟩ c) (fun c3 => br_t rfl (by_more hn _ p0 p1))
end
end
section
section
variable {p : ap_T} {kn po en up dn bg lv md gX gY dp sa sh oc rn : Int32} {sA sB N P K R NY PY KY me pt h lx lo va rf al fX fY pe ou es td ph : Nat → Int32}
variable {M f : Nat}
/-- which places of the frame are emptied -/
def af_at (kept : Int32) (f v w : Nat) : Prop := 6 * f + v ≤ w ∧ w < 6 * f + 6 ∧ bt kept (w - 6 * f) = false
theorem bz_lga (hf : f < 6) (kept : Int32) : ∀ e v, v + e = 6 → ∀ (h lx lo al rf fX fY pe td ph es : Nat → Int32) (L E : Nat) (dn : Int32), ac_MI 0 [] gY h lo (f + 1) M al rf fX fY L E → af_ll h lx lo →
    ∃ h' lx' lo' : Nat → Int32, ∃ (al' rf' fX' fY' pe' td' ph' es' : Nat → Int32) (L' E' : Nat) (dn' : Int32), ac_MI 0 [] gY h' lo' (f + 1) M al' rf' fX' fY' L' E' ∧ af_ll h' lx' lo' ∧
      (∀ w, (af_at kept f v w → h' w = 0 ∧ lo' w = 0 ∧ lx' w = 0) ∧ (¬ af_at kept f v w → h' w = h w ∧ lo' w = lo w ∧ lx' w = lx w)) ∧
      (∀ (pt : Nat → Int32) (post : SX → Prop), post (po, nI E', up, dn', bg, nI L', nI M, gX, nI (f + 1), sa, sh, ap_sz p, ap_L p, ap_oo p, ap_aA p, ap_aB p, ap_c p, N, P, K, R, me, pt, h', lx', va, rf', al', fX', pe', ou, es') → wX_letGoAllBut_12 post kept (nI (6 * f)) (e + 1) (nI v) po (nI E) up dn bg (nI L) (nI M) gX (nI (f + 1)) sa sh (ap_sz p) (ap_L p) (ap_oo p) (ap_aA p) (ap_aB p) (ap_c p) N P K R me pt h lx va rf al fX pe ou es) ∧
      (sh ≠ 0 → ∀ (pt : Nat → Int32) (post : SY → Prop) (x2 x3 : Int32), wY_step_94 post (nI f) x2 x3 kn (nI M) (nI L') up dn' (nI (f + 1)) bg gY oc sh rn po (nI E') (ap_oo p) sA sB (ap_c p) (ap_sz p) (ap_L p) NY PY KY va fY' al' me pt h' lo' ou es' td' ph' → wY_step_51 post (nI f) x2 x3 kept (e + 1) (nI v) kn (nI M) (nI L) up dn (nI (f + 1)) bg gY oc sh rn po (nI E) (ap_oo p) sA sB (ap_c p) (ap_sz p) (ap_L p) NY PY KY va fY al me pt h lo ou es td ph) ∧
      (kept = 0 → ∀ (pt : Nat → Int32) (post : SY → Prop) (n : Nat), wY_leave_12 post (nI f) n (nI (6 * f + 6)) kn (nI M) (nI L') up dn' (nI (f + 1)) bg gY oc sh rn po (nI E') (ap_oo p) sA sB (ap_c p) (ap_sz p) (ap_L p) NY PY KY va fY' al' me pt h' lo' ou es' td' ph' → wY_leave_12 post (nI f) (n + e) (nI (6 * f + v)) kn (nI M) (nI L) up dn (nI (f + 1)) bg gY oc sh rn po (nI E) (ap_oo p) sA sB (ap_c p) (ap_sz p) (ap_L p) NY PY KY va fY al me pt h lo ou es td ph) := by
  intro e
  induction e with
  | zero =>
    intro v hv h lx lo al rf fX fY pe td ph es L E dn I hl
    have : v = 6 := by omega
    subst this
    refine ⟨h, lx, lo, al, rf, fX, fY, pe, td, ph, es, L, E, dn, I, hl, fun w => ⟨fun z => by unfold af_at at z; omega, fun _ => ⟨rfl, rfl, rfl⟩⟩, fun pt post hp => br_t (by decide) hp, fun _ pt post x2 x3 hp => br_t (by decide) hp, fun _ pt post n hp => hp⟩
  | succ e ih =>
    intro v hv h lx lo al rf fX fY pe td ph es L E dn I hl
    have ei : nI (6 * f) + nI v = nI (6 * f + v) := nI_add _ _
    have e6 : 6 * nI f = nI (6 * f) := pk_mul 6 f
    have e66 : 6 * nI f + 6 = nI (6 * f + 6) := by rw [e6]; exact nI_add _ _
    cases c : bt kept v with
    | true =>
      obtain ⟨h', lx', lo', al', rf', fX', fY', pe', td', ph', es', L', E', dn', J1, J2, J3, J4, J5, J6⟩ := ih (v + 1) (by omega) h lx lo al rf fX fY pe td ph es L E dn I hl
      refine ⟨h', lx', lo', al', rf', fX', fY', pe', td', ph', es', L', E', dn', J1, J2, fun w => ?_, fun pt post hp => ?_, fun hs pt post x2 x3 hp => ?_, fun hk => ?_⟩
      · have q : af_at kept f v w ↔ af_at kept f (v + 1) w := by
          unfold af_at
          constructor
          · rintro ⟨a, b, z⟩
            refine ⟨?_, b, z⟩
            by_cases ew : w = 6 * f + v
            · subst ew
              rw [show 6 * f + v - 6 * f = v by omega, c] at z; exact absurd z (by decide)
            · omega
          · rintro ⟨a, b, z⟩; exact ⟨by omega, b, z⟩
        rw [q]; exact J3 w
      · exact br_f (nI_ge (b := 6) (by omega) (by decide)) (br_f (by rw [ad_and0 _ (by omega), c]; decide) (nm_r (nI_1 v) (J4 pt post hp)))
      · exact br_f (nI_ge (b := 6) (by omega) (by decide)) (br_f hs (br_f (by rw [ad_shr1 _ (by omega), c]; decide) (nm_r (nI_1 v) (J5 hs pt post x2 x3 hp))))
      · rw [hk, b_0] at c; exact absurd c (by decide)
    | false =>
      obtain ⟨al1, rf1, fX1, fY1, pe1, td1, ph1, es1, L1, E1, dn1, K1, K2, K3, K4⟩ := bz_emp (p := p) (po := po) (up := up) (bg := bg) (gX := gX) (sa := sa) (sh := sh) (N := N) (P := P) (K := K) (R := R) (me := me) (h := h) (lx := lx) (va := va) (ou := ou) (kn := kn) (gY := gY) (oc := oc) (rn := rn) (lo := lo) (sA := sA) (sB := sB) (NY := NY) (PY := PY) (KY := KY) (dn := dn) (pe := pe) (td := td) (ph := ph) (es := es) (v := 6 * f + v) I (by omega) hl
      obtain ⟨h', lx', lo', al', rf', fX', fY', pe', td', ph', es', L', E', dn', J1, J2, J3, J4, J5, J6⟩ := ih (v + 1) (by omega) (upd h (6 * f + v) 0) (upd lx (6 * f + v) 0) (upd lo (6 * f + v) 0) al1 rf1 fX1 fY1 pe1 td1 ph1 es1 L1 E1 dn1 K1 K2
      refine ⟨h', lx', lo', al', rf', fX', fY', pe', td', ph', es', L', E', dn', J1, J2, fun w => ?_, fun pt post hp => ?_, fun hs pt post x2 x3 hp => ?_, fun hk pt post n hp => ?_⟩
      · constructor
        · rintro ⟨a, b, z⟩
          by_cases ew : w = 6 * f + v
          · subst ew
            obtain ⟨k1, k2, k3⟩ := (J3 (6 * f + v)).2 (fun y => by unfold af_at at y; omega)
            rw [pk_us] at k1 k2 k3
            exact ⟨k1, k2, k3⟩
          · exact (J3 w).1 ⟨by omega, b, z⟩
        · intro z
          have ew : w ≠ 6 * f + v := by
            intro ew
            apply z
            subst ew
            exact ⟨by omega, by omega, by rw [show 6 * f + v - 6 * f = v by omega]; exact c⟩
          obtain ⟨k1, k2, k3⟩ := (J3 w).2 (fun y => z ⟨by have := y.1; omega, y.2⟩)
          rw [pk_un ew] at k1 k2 k3
          exact ⟨k1, k2, k3⟩
      · refine br_f (nI_ge (b := 6) (by omega) (by decide)) (br_t (by rw [ad_and0 _ (by omega)]; exact c) ?_)
        rw [ei]
        exact bx_emp (by omega) _ (K3 pt _ (nm_r (nI_1 v) (J4 pt post hp)))
      · refine br_f (nI_ge (b := 6) (by omega) (by decide)) (br_f hs (br_t (by rw [ad_shr1 _ (by omega)]; exact c) ?_))
        rw [e6, ei]
        exact K4 pt _ (nm_r (nI_1 v) (J5 hs pt post x2 x3 hp))
      · refine br_f (by rw [e66]; exact nI_ge (by omega) (by omega)) (K4 pt _ (nm_r (nI_1 _) ?_))
        exact J6 hk pt post n hp
/-- the end of a call: X has the gift, Y has it in given -/
theorem bz_leave {g L E : Nat} (H : ap_OK p) (hAB : ap_AB p sA sB) (hf : f < 6) (hg : g ≤ M) (I : ac_MI 0 [] (nI g) h lo (f + 1) M al rf fX fY L E) (hl : af_ll h lx lo)
    (hfr : 1 ≤ f → ∃ m i, m < 4 ∧ i < 16 ∧ me (f - 1) = nI m ∧ pt (f - 1) = nI i ∧ ap_O p (16 * m + i) = 11) :
    ∃ h' lx' lo' : Nat → Int32, ∃ (al' rf' fX' fY' pe' td' ph' es' : Nat → Int32) (L' E' : Nat) (dn' : Int32), af_ll h' lx' lo' ∧
      (∀ w, w < 6 * f → (h' w = h w ∧ lo' w = lo w) ∨ (∃ m i, 1 ≤ f ∧ me (f - 1) = nI m ∧ pt (f - 1) = nI i ∧ w = 6 * (f - 1) + ap_A p (16 * m + i) ∧ lo' w = 0)) ∧
      ((f = 0 ∧ ac_MI 0 [] (nI g) h' lo' 0 M al' rf' fX' fY' L' E' ∧
          (∀ post : SX → Prop, post (po, nI E', up, dn', bg, nI L', nI M, nI g, nI 0, sa, sh, ap_sz p, ap_L p, ap_oo p, ap_aA p, ap_aB p, ap_c p, N, P, K, R, me, pt, h', lx', va, rf', al', fX', pe', ou, es') → wpX_leave post (po, nI E, up, dn, bg, nI L, nI M, gX, nI (f + 1), sa, sh, ap_sz p, ap_L p, ap_oo p, ap_aA p, ap_aB p, ap_c p, N, P, K, R, me, pt, h, lx, va, rf, al, fX, pe, ou, es) (nI g)) ∧
          (∀ post : SY → Prop, post (kn, nI M, nI L', up, dn', nI 0, bg, nI g, 0, sh, rn, po, nI E', ap_oo p, sA, sB, ap_c p, ap_sz p, ap_L p, NY, PY, KY, va, fY', al', me, pt, h', lo', ou, es', td', ph') → wpY_leave post (kn, nI M, nI L, up, dn, nI (f + 1), bg, nI g, oc, sh, rn, po, nI E, ap_oo p, sA, sB, ap_c p, ap_sz p, ap_L p, NY, PY, KY, va, fY, al, me, pt, h, lo, ou, es, td, ph))) ∨
       (1 ≤ f ∧ ac_MI 0 [] 0 h' lo' f M al' rf' fX' fY' L' E' ∧
          (∀ post : SX → Prop, post (po, nI E', up, dn', bg, nI L', nI M, gX, nI f, sa, sh, ap_sz p, ap_L p, ap_oo p, ap_aA p, ap_aB p, ap_c p, N, P, K, R, me, upd pt (f - 1) (pt (f - 1) + 1), h', lx', va, rf', al', fX', pe', ou, es') → wpX_leave post (po, nI E, up, dn, bg, nI L, nI M, gX, nI (f + 1), sa, sh, ap_sz p, ap_L p, ap_oo p, ap_aA p, ap_aB p, ap_c p, N, P, K, R, me, pt, h, lx, va, rf, al, fX, pe, ou, es) (nI g)) ∧
          (∀ post : SY → Prop, post (kn, nI M, nI L', up, dn', nI f, bg, 0, oc, sh, rn, po, nI E', ap_oo p, sA, sB, ap_c p, ap_sz p, ap_L p, NY, PY, KY, va, fY', al', me, upd pt (f - 1) (pt (f - 1) + 1), h', lo', ou, es', td', ph') → wpY_leave post (kn, nI M, nI L, up, dn, nI (f + 1), bg, nI g, oc, sh, rn, po, nI E, ap_oo p, sA, sB, ap_c p, ap_sz p, ap_L p, NY, PY, KY, va, fY, al, me, pt, h, lo, ou, es, td, ph)))) := by
  obtain ⟨h1, lx1, lo1, al1, rf1, fX1, fY1, pe1, td1, ph1, es1, L1, E1, dn1, J1, J2, J3, J4, J5, J6⟩ := bz_lga (p := p) (po := po) (up := up) (bg := bg) (gX := gX) (sa := sa) (sh := sh) (N := N) (P := P) (K := K) (R := R) (me := me) (va := va) (ou := ou) (kn := kn) (gY := nI g) (oc := oc) (rn := rn) (sA := sA) (sB := sB) (NY := NY) (PY := PY) (KY := KY) hf 0 6 0 (by omega) h lx lo al rf fX fY pe td ph es L E dn I hl
  have z1 : ∀ j, j < 6 → h1 (6 * f + j) = 0 := fun j hj => ((J3 (6 * f + j)).1 ⟨by omega, by omega, b_0 _⟩).1
  have J1' := ac_lea J1 z1
  have lw : ∀ w, w < 6 * f → h1 w = h w ∧ lo1 w = lo w := fun w hw => by
    have := (J3 w).2 (fun z => by have := z.1; omega)
    exact ⟨this.1, this.2.1⟩
  have c6 : (nI (f + 1) - 1) * 6 = nI (6 * f) := by
    rw [nI_pred]
    have : nI f * 6 = nI (f * 6) := pk_mul f 6
    rw [this, Nat.mul_comm]
  have d6 : 6 * (nI (f + 1) - 1) = nI (6 * f + 0) := by rw [nI_pred]; exact pk_mul 6 f
  have e66 : 6 * nI f + 6 = nI (6 * f + 6) := by
    have : 6 * nI f = nI (6 * f) := pk_mul 6 f
    rw [this]; exact nI_add _ _
  obtain ⟨_, hL24, hEL, hM, hd⟩ := J1'.2.2.2.2.2.2.1
  by_cases f0 : f = 0
  · subst f0
    refine ⟨h1, lx1, lo1, al1, rf1, fX1, fY1, pe1, td1, ph1, es1, L1, E1, dn1, J2, fun w hw => by omega, Or.inl ⟨rfl, J1', fun post hp => nm_r c6 ⟨7, J4 pt _ (nm_r (nI_pred 0) (br_t rfl hp))⟩, fun post hp => ?_⟩⟩
    refine nm_r (nI_pred 0) (nm_r (e' := nI (6 * 0 + 0)) rfl ⟨1 + 6, J6 rfl pt post 1 ?_⟩)
    exact br_t (by decide) (br_t rfl hp)
  · have f1 : 1 ≤ f := by omega
    obtain ⟨m, i, hm, hi, em, ei, eo⟩ := hfr f1
    have h14 := H.1 (16 * m + i)
    have hA := h14.2.1
    have hk : 16 * m + i < 64 := by omega
    have hI : vp_in (nI (16 * m + i)) 64 := vp_in_nI hk (by omega)
    obtain ⟨al', rf', fX', fY', pe', td', ph', es', L', E', dn', K1, K2, K3, K4⟩ := bz_fill (p := p) (po := po) (up := up) (bg := bg) (gX := gX) (sa := sa) (sh := sh) (N := N) (P := P) (K := K) (R := R) (me := me) (h := h1) (lx := lx1) (va := va) (ou := ou) (kn := kn) (gY := 0) (oc := oc) (rn := rn) (lo := lo1) (sA := sA) (sB := sB) (NY := NY) (PY := PY) (KY := KY) (dn := dn1) (pe := pe1) (td := td1) (ph := ph1) (es := es1) (v := 6 * (f - 1) + ap_A p (16 * m + i)) (x := g) (b := 0) (by rw [if_pos rfl]; exact ac_get J1' hg) (by omega) hg J2 (Or.inl rfl)
    have vf : vp_in (nI (f - 1)) 6 := vp_in_nI (by omega) (by omega)
    have ef : (nI (f - 1)).toNatClampNeg = f - 1 := nI_clamp (by omega)
    have ep : nI f - 1 = nI (f - 1) := by
      have := nI_pred (f - 1)
      rw [show f - 1 + 1 = f by omega] at this
      exact this
    have nf : ¬ nI f = 0 := nI_ne0 f1 (by omega)
    have exk : me (nI (f - 1)).toNatClampNeg * 16 + pt (nI (f - 1)).toNatClampNeg = nI (16 * m + i) := by rw [ef, em, ei, ap_xk]
    have eyk : 16 * me (nI (f - 1)).toNatClampNeg + pt (nI (f - 1)).toNatClampNeg = nI (16 * m + i) := by rw [ef, em, ei, ap_yk]
    have exa : nI (f - 1) * 6 + ap_aA p (nI (16 * m + i)).toNatClampNeg = nI (6 * (f - 1) + ap_A p (16 * m + i)) := by
      have : nI (f - 1) * 6 = nI ((f - 1) * 6) := pk_mul (f - 1) 6
      rw [ap_aAk p hk, this, nI_add, Nat.mul_comm]
    have eya : 6 * nI (f - 1) + sA (nI (16 * m + i)).toNatClampNeg = nI (6 * (f - 1) + ap_A p (16 * m + i)) := by
      have : 6 * nI (f - 1) = nI (6 * (f - 1)) := pk_mul 6 (f - 1)
      rw [nI_clamp (by omega), (hAB (16 * m + i)).1 (by omega) (by omega), this, nI_add]
    have eg : (if nI g = 0 then (0 : Int32) else 0) = 0 := by split <;> rfl
    rw [eg] at K1 K2 K4
    refine ⟨_, _, _, al', rf', fX', fY', pe', td', ph', es', L', E', dn', K2, fun w hw => ?_, Or.inr ⟨f1, K1, fun post hp => nm_r c6 ⟨7, J4 pt _ (nm_r (nI_pred f) (br_f nf (nm_r ep ⟨vf, vf, nm_r exk ⟨hI, ?_⟩⟩)))⟩, fun post hp => nm_r (nI_pred f) (nm_r (e' := nI (6 * f + 0)) ?_ ⟨1 + 6, J6 rfl pt post 1 ?_⟩)⟩⟩
    · by_cases ew : w = 6 * (f - 1) + ap_A p (16 * m + i)
      · exact Or.inr ⟨m, i, f1, em, ei, ew, by rw [ew, pk_us]⟩
      · rw [pk_un ew, pk_un ew]; exact Or.inl (lw w hw)
    · rw [exa]
      refine K3 pt _ ⟨vf, vf, nm_r (e' := upd pt (f - 1) (pt (f - 1) + 1)) (by rw [ef]) hp⟩
    · exact pk_mul 6 f
    · refine br_t (by rw [e66]; exact nI_le (by omega) (by omega)) (br_f nf ?_)
      rw [ep]
      refine ⟨vf, vf, by rw [eyk]; exact hI, nm_r (e' := nI (6 * (f - 1) + ap_A p (16 * m + i))) (by rw [eyk]; exact eya) ⟨vf, vf, nm_r (e' := upd pt (f - 1) (pt (f - 1) + 1)) (by rw [ef]) ?_⟩⟩
      exact K4 (upd pt (f - 1) (pt (f - 1) + 1)) _ hp
end
end
section
/-! what holds while a run goes on -/
def ag_A (p : ap_T) (N P NY PY : Nat → Int32) : Prop := ∀ m, m < 4 → ap_NS p m N ∧ ap_PS p m P ∧ ap_NS p m NY ∧ ap_PS p m PY
def ag_F (p : ap_T) (sh : Int32) (d : Nat) (h lo me pt : Nat → Int32) : Prop :=
  (sh = 0 ∨ sh = 1) ∧ (sh = 0 → ∀ v, v < 6 * d → lo v = 0) ∧ ∀ f, f < d → ∃ m i, m < 4 ∧ i ≤ 16 ∧ me f = nI m ∧ pt f = nI i ∧ (f + 1 < d → i < ap_Z p m ∧ ap_O p (16 * m + i) = 11) ∧
    ∀ j, j < 6 → lo (6 * f + j) ≠ 0 → (∃ w, w < 6 * f ∧ h w = h (6 * f + j) ∧ lo w = 0) ∨ (f + 1 = d ∧ (i < ap_Z p m → ap_LR p m j i))
def ag_I (p : ap_T) (sh : Int32) (d M L E Q B g : Nat) (h lx lo al rf fX fY me pt va : Nat → Int32) : Prop :=
  ac_MI 0 [] (nI g) h lo d M al rf fX fY L E ∧ af_ll h lx lo ∧ va 0 = 0 ∧ Q ≤ B ∧ M ≤ B ∧ B ≤ 300 ∧ g ≤ M ∧ ag_F p sh d h lo me pt
section
variable {p : ap_T} {sh : Int32} {h lo me pt : Nat → Int32} {f m i : Nat}
/-- the top frame goes on at s -/
theorem ag_F_top (F : ag_F p sh (f + 1) h lo me pt) (em : me f = nI m) (ei : pt f = nI i) (hm : m < 4) (hi : i < 16) (hll : ∀ v, lo v ≠ 0 → h v ≠ 0)
    (hnd : sh = 1 → ∀ j, j < 6 → h (6 * f + j) ≠ 0 → ap_nd p m i j) (hiz : i < ap_Z p m) {s : Nat} (hs : s ≤ 16) (hsc : s < ap_Z p m → ap_sc p m i s) (h' lo' : Nat → Int32)
    (lw : ∀ w, w < 6 * f → h' w = h w ∧ lo' w = lo w)
    (tp : ∀ j, j < 6 → (h' (6 * f + j) = h (6 * f + j) ∧ lo' (6 * f + j) = lo (6 * f + j)) ∨ lo' (6 * f + j) = 0 ∨ (sh ≠ 0 ∧ (s < ap_Z p m → ap_LR p m j s))) :
    ag_F p sh (f + 1) h' lo' me (upd pt f (nI s)) := by
  obtain ⟨F1, F2, F3⟩ := F
  refine ⟨F1, fun s0 v hv => ?_, fun g hg => ?_⟩
  · by_cases c : v < 6 * f
    · rw [(lw v c).2]; exact F2 s0 v hv
    · have e : 6 * f + (v - 6 * f) = v := by omega
      rcases tp (v - 6 * f) (by omega) with ⟨_, t⟩ | t | ⟨t, _⟩
      · rw [e] at t; rw [t]; exact F2 s0 v hv
      · rw [e] at t; exact t
      · exact absurd s0 t
  · by_cases c : g = f
    · subst c
      refine ⟨m, s, hm, hs, em, pk_us, fun z => by omega, fun j hj hlo => ?_⟩
      obtain ⟨m2, i2, q1, q2, q3, q4, _, q5⟩ := F3 g hg
      have e1 : m2 = m := (nI_eq (by omega) (by omega)).mp (q3.symm.trans em)
      have e2 : i2 = i := (nI_eq (by omega) (by omega)).mp (q4.symm.trans ei)
      subst e1 e2
      rcases tp j hj with ⟨t1, t2⟩ | t | ⟨_, t⟩
      · rw [t2] at hlo
        rcases q5 j hj hlo with ⟨w, w1, w2, w3⟩ | ⟨_, w⟩
        · exact Or.inl ⟨w, w1, by rw [(lw w w1).1, t1]; exact w2, by rw [(lw w w1).2]; exact w3⟩
        · refine Or.inr ⟨rfl, fun sz => ?_⟩
          have s1 : sh = 1 := by
            rcases F1 with z | z
            · exact absurd (F2 z (6 * g + j) (by omega)) hlo
            · exact z
          exact ap_LR_1 (w hiz) (hnd s1 j hj (hll _ hlo)) (hsc sz)
      · exact absurd t hlo
      · exact Or.inr ⟨rfl, t⟩
    · obtain ⟨m2, i2, q1, q2, q3, q4, q6, q5⟩ := F3 g hg
      refine ⟨m2, i2, q1, q2, q3, by rw [pk_un c]; exact q4, q6, fun j hj hlo => ?_⟩
      rw [(lw (6 * g + j) (by omega)).2] at hlo
      rcases q5 j hj hlo with ⟨w, w1, w2, w3⟩ | ⟨w, _⟩
      · exact Or.inl ⟨w, w1, by rw [(lw w (by omega)).1, (lw (6 * g + j) (by omega)).1]; exact w2, by rw [(lw w (by omega)).2]; exact w3⟩
      · omega
/-- what is read there is alive -/
theorem ag_alive {g : Int32} {M L E n j : Nat} {al rf fX fY : Nat → Int32} (I : ac_MI 0 [] g h lo (f + 1) M al rf fX fY L E) (F : ag_F p sh (f + 1) h lo me pt) (em : me f = nI m) (ei : pt f = nI i) (hm : m < 4) (hi : i < 16)
    (hnd : sh = 1 → ∀ j, j < 6 → h (6 * f + j) ≠ 0 → ap_nd p m i j) (hiz : i < ap_Z p m) (hal : ¬ ap_al p (16 * m + i)) (hj : j < 6) (eh : h (6 * f + j) = nI n) (hn : n ≤ M) : 1 ≤ n → al n = 1 := by
  intro n1
  obtain ⟨_, _, _, hM, hd⟩ := I.2.2.2.2.2.2.1
  by_cases c : lo (6 * f + j) = 0
  · exact ac_al_V I n1 hn (by omega) eh c
  · obtain ⟨F1, F2, F3⟩ := F
    obtain ⟨m2, i2, q1, q2, q3, q4, _, q5⟩ := F3 f (by omega)
    have e1 : m2 = m := (nI_eq (by omega) (by omega)).mp (q3.symm.trans em)
    have e2 : i2 = i := (nI_eq (by omega) (by omega)).mp (q4.symm.trans ei)
    subst e1 e2
    have s1 : sh = 1 := by
      rcases F1 with z | z
      · exact absurd (F2 z (6 * f + j) (by omega)) c
      · exact z
    rcases q5 j hj c with ⟨w, w1, w2, w3⟩ | ⟨_, w⟩
    · exact ac_al_V I n1 hn (v := w) (by omega) (w2.trans eh) w3
    · exact absurd (ap_LR_2 (w hiz) (hnd s1 j hj (by rw [eh]; exact nI_ne0 n1 (by omega)))) hal
theorem ag_ne {h lx lo : Nat → Int32} (hl : af_ll h lx lo) : ∀ v, lo v ≠ 0 → h v ≠ 0 := fun v hv z => hv ((hl v).2.1 z)
end
section
variable {p : ap_T} {kn md lv up dn dp bg gY oc sh rn po en : Int32} {sA sB NY PY KY va fY al me pt h lo ou es td ph : Nat → Int32}
variable {d M a nn : Nat}
/-- whether the object has one reference, that of a -/
theorem by_134 (hM : M ≤ 300) (hd : d ≤ 6) (ha : a < 36) (hn : nn ≤ 300) (post : SY → Prop) (k op b c fl : Int32)
    (K : ∀ z : Int32, ((z = 1 ∧ 1 ≤ nn ∧ lo a = 0 ∧ ac_N gY h lo d fY M nn = 1) ∨ (z = 0 ∧ ¬ (1 ≤ nn ∧ lo a = 0 ∧ ac_N gY h lo d fY M nn = 1))) → wY_carryOut_166 post k op (nI a) b c (nI nn) fl z kn (nI M) lv up dn (nI d) bg gY oc sh rn po en (ap_oo p) sA sB (ap_c p) (ap_sz p) (ap_L p) NY PY KY va fY al me pt h lo ou es td ph) :
    wY_carryOut_134 post k op (nI a) b c (nI nn) fl kn (nI M) lv up dn (nI d) bg gY oc sh rn po en (ap_oo p) sA sB (ap_c p) (ap_sz p) (ap_L p) NY PY KY va fY al me pt h lo ou es td ph := by
  have ek : (nI a).toNatClampNeg = a := nI_clamp (by omega)
  by_cases n0 : nn = 0
  · subst n0
    exact br_t (by decide) (K 0 (Or.inr ⟨rfl, fun z => by omega⟩))
  · refine br_f (nI_nle (by omega) (by omega)) ⟨vp_in_nI ha (by omega), ?_⟩
    rw [ek]
    refine br_c (fun c1 => ?_) (fun c1 => K 0 (Or.inr ⟨rfl, fun z => c1 z.2.1⟩))
    have := ac_N_le gY h lo d fY M nn
    refine by_count hM hd _ (pk_eq _ 1 (fun c2 => K 1 (Or.inl ⟨rfl, by omega, c1, c2⟩)) (fun c2 => K 0 (Or.inr ⟨rfl, fun z => c2 z.2.2⟩)))
end
end
section
section
variable {p : ap_T} {kn md lv up dn dp bg gY oc sh rn po en : Int32} {sA sB NY PY KY va fY al me pt h lo ou es td ph : Nat → Int32}
variable {f m i M d na : Nat}
theorem by_pre (hAB : ap_AB p sA sB) (hf : f < 6) (hk : 16 * m + i < 64) (hA : ap_A p (16 * m + i) < 6) (n10 : ap_O p (16 * m + i) ≠ 10) (n13 : ap_O p (16 * m + i) ≠ 13) (ho : ap_O p (16 * m + i) ≤ 13) (post : SY → Prop)
    (K : wY_carryOut_58 post (nI (16 * m + i)) (nI (ap_O p (16 * m + i))) (nI (6 * f + ap_A p (16 * m + i))) (nI (6 * f) + sB (16 * m + i)) (ap_c p (16 * m + i)) (h (6 * f + ap_A p (16 * m + i))) kn md lv up dn dp bg gY oc sh rn po en (ap_oo p) sA sB (ap_c p) (ap_sz p) (ap_L p) NY PY KY va fY al me pt h lo ou es td ph) :
    wpY_carryOut post (kn, md, lv, up, dn, dp, bg, gY, oc, sh, rn, po, en, ap_oo p, sA, sB, ap_c p, ap_sz p, ap_L p, NY, PY, KY, va, fY, al, me, pt, h, lo, ou, es, td, ph) (nI (6 * f)) (nI (16 * m + i)) := by
  have hI : vp_in (nI (16 * m + i)) 64 := vp_in_nI hk (by omega)
  have ek : (nI (16 * m + i)).toNatClampNeg = 16 * m + i := nI_clamp (by omega)
  have y4 : nI (6 * f) + sA (nI (16 * m + i)).toNatClampNeg = nI (6 * f + ap_A p (16 * m + i)) := by rw [ek, (hAB (16 * m + i)).1 n10 n13, nI_add]
  refine ⟨hI, nm_r (ap_ook p hk) ⟨hI, nm_r y4 ⟨hI, nm_r (e' := nI (6 * f) + sB (16 * m + i)) (by rw [ek]) ⟨hI, nm_r (ap_ck p hk) ?_⟩⟩⟩⟩
  refine pk_eq (ap_O p (16 * m + i)) 10 (fun e => absurd e n10) (fun _ => pk_eq (ap_O p (16 * m + i)) 13 (fun e => absurd e n13) (fun _ => ⟨vp_in_nI (by omega) (by omega), ?_⟩))
  rw [nI_clamp (by omega)]
  exact K
theorem by_58 {o : Nat} (ho : o ≤ 13) (post : SY → Prop) (k a b c n : Int32) (h0 : o = 0 → ¬ lv = 24) (h46 : o = 4 ∨ o = 6 → ¬ n = 0) (h3 : o = 3 → vp_in b 36 ∧ ¬ h b.toNatClampNeg = 0)
    (h11 : o = 11 → ¬ dp = 6 ∧ vp_in c 4 ∧ ¬ ap_sz p c.toNatClampNeg = 0) (K : wY_carryOut_134 post k (nI o) a b c n 0 kn md lv up dn dp bg gY oc sh rn po en (ap_oo p) sA sB (ap_c p) (ap_sz p) (ap_L p) NY PY KY va fY al me pt h lo ou es td ph) : wY_carryOut_58 post k (nI o) a b c n kn md lv up dn dp bg gY oc sh rn po en (ap_oo p) sA sB (ap_c p) (ap_sz p) (ap_L p) NY PY KY va fY al me pt h lo ou es td ph := by
  have G104 : wY_carryOut_104 post k (nI o) a b c n kn md lv up dn dp bg gY oc sh rn po en (ap_oo p) sA sB (ap_c p) (ap_sz p) (ap_L p) NY PY KY va fY al me pt h lo ou es td ph := pk_eq o 11 (fun e => br_f (h11 e).1 ⟨(h11 e).2.1, br_f (h11 e).2.2 K⟩) (fun _ => K)
  have G89 : wY_carryOut_89 post k (nI o) a b c n kn md lv up dn dp bg gY oc sh rn po en (ap_oo p) sA sB (ap_c p) (ap_sz p) (ap_L p) NY PY KY va fY al me pt h lo ou es td ph := pk_eq o 3 (fun e => ⟨(h3 e).1, br_f (h3 e).2 G104⟩) (fun _ => G104)
  have G73 : wY_carryOut_73 post k (nI o) a b c n kn md lv up dn dp bg gY oc sh rn po en (ap_oo p) sA sB (ap_c p) (ap_sz p) (ap_L p) NY PY KY va fY al me pt h lo ou es td ph := pk_eq o 4 (fun e => br_f (h46 (Or.inl e)) G89) (fun _ => pk_eq o 6 (fun e => br_f (h46 (Or.inr e)) G89) (fun _ => G89))
  exact pk_eq o 0 (fun e => br_f (h0 e) G73) (fun _ => G73)
theorem by_58f {o : Nat} (ho : o ≤ 13) (post : SY → Prop) (k a b c n : Int32)
    (hf : (o = 0 ∧ lv = 24) ∨ ((o = 4 ∨ o = 6) ∧ n = 0) ∨ (o = 3 ∧ vp_in b 36 ∧ h b.toNatClampNeg = 0) ∨ (o = 11 ∧ (dp = 6 ∨ (¬ dp = 6 ∧ vp_in c 4 ∧ ap_sz p c.toNatClampNeg = 0))))
    (K : wY_carryOut_134 post k (nI o) a b c n 1 kn md lv up dn dp bg gY oc sh rn po en (ap_oo p) sA sB (ap_c p) (ap_sz p) (ap_L p) NY PY KY va fY al me pt h lo ou es td ph) : wY_carryOut_58 post k (nI o) a b c n kn md lv up dn dp bg gY oc sh rn po en (ap_oo p) sA sB (ap_c p) (ap_sz p) (ap_L p) NY PY KY va fY al me pt h lo ou es td ph := by
  have n : ∀ j, j < 64 → o ≠ j → ¬ nI o = nI j := fun j hj z => by rw [nI_eq (by omega) (by omega)]; exact z
  rcases hf with ⟨e, q⟩ | ⟨e, q⟩ | ⟨e, q1, q2⟩ | ⟨e, q⟩
  · exact br_t (by rw [e]; rfl) (br_t q K)
  · refine br_f (n 0 (by omega) (by omega)) ?_
    rcases e with e | e
    · exact br_t (by rw [e]; rfl) (br_t q K)
    · exact br_f (n 4 (by omega) (by omega)) (br_t (by rw [e]; rfl) (br_t q K))
  · exact br_f (n 0 (by omega) (by omega)) (br_f (n 4 (by omega) (by omega)) (br_f (n 6 (by omega) (by omega)) (br_t (by rw [e]; rfl) ⟨q1, br_t q2 K⟩)))
  · refine br_f (n 0 (by omega) (by omega)) (br_f (n 4 (by omega) (by omega)) (br_f (n 6 (by omega) (by omega)) (br_f (n 3 (by omega) (by omega)) (br_t (by rw [e]; rfl) ?_))))
    rcases q with q | ⟨q1, q2, q3⟩
    · exact br_t q K
    · exact br_f q1 ⟨q2, br_t q3 K⟩
/-- it fails -/
theorem by_fail (hAB : ap_AB p sA sB) (hf : f < 6) (hk : 16 * m + i < 64) (hA : ap_A p (16 * m + i) < 6) (hM : M ≤ 300) (hd : d ≤ 6) (hn : na ≤ 300) (ea : h (6 * f + ap_A p (16 * m + i)) = nI na) (n10 : ap_O p (16 * m + i) ≠ 10) (n13 : ap_O p (16 * m + i) ≠ 13) (n8 : ap_O p (16 * m + i) ≠ 8) (ho : ap_O p (16 * m + i) ≤ 13) (post : SY → Prop)
    (hf2 : (ap_O p (16 * m + i) = 0 ∧ lv = 24) ∨ ((ap_O p (16 * m + i) = 4 ∨ ap_O p (16 * m + i) = 6) ∧ nI na = 0) ∨ (ap_O p (16 * m + i) = 3 ∧ vp_in (nI (6 * f) + sB (16 * m + i)) 36 ∧ h (nI (6 * f) + sB (16 * m + i)).toNatClampNeg = 0) ∨ (ap_O p (16 * m + i) = 11 ∧ (nI d = 6 ∨ (¬ nI d = 6 ∧ vp_in (ap_c p (16 * m + i)) 4 ∧ ap_sz p (ap_c p (16 * m + i)).toNatClampNeg = 0))))
    (hp : post (kn, nI M, lv, up, dn, nI d, bg, gY, 1, sh, rn, po, en, ap_oo p, sA, sB, ap_c p, ap_sz p, ap_L p, NY, PY, KY, va, fY, al, me, pt, h, lo, ou, es, td, ph)) : wpY_carryOut post (kn, nI M, lv, up, dn, nI d, bg, gY, oc, sh, rn, po, en, ap_oo p, sA, sB, ap_c p, ap_sz p, ap_L p, NY, PY, KY, va, fY, al, me, pt, h, lo, ou, es, td, ph) (nI (6 * f)) (nI (16 * m + i)) := by
  refine by_pre hAB hf hk hA n10 n13 ho post ?_
  rw [ea]
  refine by_58f ho post _ _ _ _ _ hf2 (by_134 hM hd (by omega) hn post _ _ _ _ _ (fun z _ => ?_))
  exact pk_eq (ap_O p (16 * m + i)) 8 (fun e => absurd e n8) (fun _ => br_f (by decide) hp)
/-- it does not fail, and goes on behind: op 0 to 7 -/
theorem by_go (hAB : ap_AB p sA sB) (hf : f < 6) (hk : 16 * m + i < 64) (hA : ap_A p (16 * m + i) < 6) (hM : M ≤ 300) (hn : na ≤ 300) (ea : h (6 * f + ap_A p (16 * m + i)) = nI na) (ei : pt f = nI i) (ho : ap_O p (16 * m + i) ≤ 7) (post : SY → Prop)
    (h0 : ap_O p (16 * m + i) = 0 → ¬ lv = 24) (h46 : ap_O p (16 * m + i) = 4 ∨ ap_O p (16 * m + i) = 6 → ¬ nI na = 0) (h3 : ap_O p (16 * m + i) = 3 → vp_in (nI (6 * f) + sB (16 * m + i)) 36 ∧ ¬ h (nI (6 * f) + sB (16 * m + i)).toNatClampNeg = 0)
    (K : ∀ z : Int32, ((z = 1 ∧ 1 ≤ na ∧ lo (6 * f + ap_A p (16 * m + i)) = 0 ∧ ac_N gY h lo (f + 1) fY M na = 1) ∨ (z = 0 ∧ ¬ (1 ≤ na ∧ lo (6 * f + ap_A p (16 * m + i)) = 0 ∧ ac_N gY h lo (f + 1) fY M na = 1))) →
      wY_carryOut_294 post (nI (16 * m + i)) (nI (ap_O p (16 * m + i))) (nI (6 * f + ap_A p (16 * m + i))) (nI (6 * f) + sB (16 * m + i)) (ap_c p (16 * m + i)) (nI na) z (nI (i + 1)) (nI f) kn (nI M) lv up dn (nI (f + 1)) bg gY oc sh rn po en (ap_oo p) sA sB (ap_c p) (ap_sz p) (ap_L p) NY PY KY va fY al me pt h lo ou es td ph) :
    wpY_carryOut post (kn, nI M, lv, up, dn, nI (f + 1), bg, gY, oc, sh, rn, po, en, ap_oo p, sA, sB, ap_c p, ap_sz p, ap_L p, NY, PY, KY, va, fY, al, me, pt, h, lo, ou, es, td, ph) (nI (6 * f)) (nI (16 * m + i)) := by
  have n : ∀ j, j < 64 → ap_O p (16 * m + i) ≠ j → ¬ nI (ap_O p (16 * m + i)) = nI j := fun j hj z => by rw [nI_eq (by omega) (by omega)]; exact z
  refine by_pre hAB hf hk hA (by omega) (by omega) (by omega) post ?_
  rw [ea]
  refine by_58 (by omega) post _ _ _ _ _ h0 h46 h3 (fun e => by omega) (by_134 hM (by omega) (by omega) hn post _ _ _ _ _ (fun z hz => ?_))
  refine br_f (n 8 (by omega) (by omega)) (br_t rfl (br_f (n 11 (by omega) (by omega)) (br_f (n 12 (by omega) (by omega)) (br_f (n 13 (by omega) (by omega)) (br_f (n 10 (by omega) (by omega)) (br_f (n 9 (by omega) (by omega)) ?_))))))
  have vf : vp_in (nI f) 6 := vp_in_nI hf (by omega)
  have k := K z hz
  unfold wY_carryOut_281
  rw [nI_pred, nI_clamp (n := f) (by omega), ei, nI_1]
  exact ⟨vf, k⟩
end
end
section
section
variable {p : ap_T} {sh : Int32} {h lo me pt : Nat → Int32} {f m i : Nat}
/-- a variable of the top frame gets something that is not on loan -/
theorem ag_F_set (F : ag_F p sh (f + 1) h lo me pt) (em : me f = nI m) (ei : pt f = nI i) (hm : m < 4) (hi : i < 16) (hll : ∀ v, lo v ≠ 0 → h v ≠ 0)
    (hnd : sh = 1 → ∀ j, j < 6 → h (6 * f + j) ≠ 0 → ap_nd p m i j) (hiz : i < ap_Z p m) {s : Nat} (hs : s ≤ 16) (hsc : s < ap_Z p m → ap_sc p m i s) {a b : Nat} (x : Int32) {h1 : Nat → Int32}
    (h1e : ∀ w, w ≠ 6 * f + b → h1 w = h w) (h1b : h1 (6 * f + b) = h (6 * f + b) ∨ lo (6 * f + b) = 0) : ag_F p sh (f + 1) (upd h1 (6 * f + a) x) (upd lo (6 * f + a) 0) me (upd pt f (nI s)) := by
  refine ag_F_top F em ei hm hi hll hnd hiz hs hsc _ _ (fun w hw => ?_) (fun j hj => ?_)
  · rw [pk_un (by omega), pk_un (by omega), h1e w (by omega)]; exact ⟨rfl, rfl⟩
  · by_cases c : j = a
    · subst c; exact Or.inr (Or.inl pk_us)
    · rw [pk_un (by omega), pk_un (by omega)]
      by_cases c2 : j = b
      · subst c2
        rcases h1b with q | q
        · exact Or.inl ⟨q, rfl⟩
        · exact Or.inr (Or.inl q)
      · exact Or.inl ⟨h1e _ (by omega), rfl⟩
theorem ag_F_pc (F : ag_F p sh (f + 1) h lo me pt) (em : me f = nI m) (ei : pt f = nI i) (hm : m < 4) (hi : i < 16) (hll : ∀ v, lo v ≠ 0 → h v ≠ 0)
    (hnd : sh = 1 → ∀ j, j < 6 → h (6 * f + j) ≠ 0 → ap_nd p m i j) (hiz : i < ap_Z p m) {s : Nat} (hs : s ≤ 16) (hsc : s < ap_Z p m → ap_sc p m i s) : ag_F p sh (f + 1) h lo me (upd pt f (nI s)) :=
  ag_F_top F em ei hm hi hll hnd hiz hs hsc h lo (fun _ _ => ⟨rfl, rfl⟩) (fun _ _ => Or.inl ⟨rfl, rfl⟩)
end
section
variable {p : ap_T} {kn po en up dn bg lv md gX gY dp sa sh oc rn : Int32} {sA sB N P K R NY PY KY me pt h lx lo va rf al fX fY pe ou es td ph : Nat → Int32}
variable {f m i M L E Q B d : Nat}
/-- whether the object has one reference, that of a: the component -/
theorem bx_only {a na : Nat} (ha : a < 6 * d) (hd : d ≤ 6) (hna : na ≤ M) (ena : h a = nI na) (I1 : ac_MI 0 [] gY h lo d M al rf fX fY L E) (I2 : af_ll h lx lo) (post : Int32 → Prop)
    (h1 : (1 ≤ na ∧ lo a = 0 ∧ ac_N gY h lo d fY M na = 1) → post 1) (h0 : ¬ (1 ≤ na ∧ lo a = 0 ∧ ac_N gY h lo d fY M na = 1) → post 0) : wpX_isOnly post (po, en, up, dn, bg, lv, md, gX, dp, sa, sh, ap_sz p, ap_L p, ap_oo p, ap_aA p, ap_aB p, ap_c p, N, P, K, R, me, pt, h, lx, va, rf, al, fX, pe, ou, es) (nI a) := by
  obtain ⟨hLc, hL24, hEL, hM, _⟩ := I1.2.2.2.2.2.2.1
  have va36 : vp_in (nI a) 36 := vp_in_nI (by omega) (by omega)
  have eka : (nI a).toNatClampNeg = a := nI_clamp (by omega)
  refine ⟨va36, ?_⟩
  rw [eka, ena]
  by_cases n0 : na = 0
  · subst n0
    exact br_t rfl (h0 (fun z => by omega))
  · have nn0 : ¬ nI na = 0 := nI_ne0 (by omega) (by omega)
    refine br_f nn0 ⟨va36, vp_in_nI (by omega) (by omega), ?_⟩
    rw [nI_clamp (by omega)]
    have ell : lo a = lx a := (I2 a).2.2 (by rw [ena]; exact nn0)
    have cle := ac_N_le gY h lo d fY M na
    by_cases cl : lo a = 0
    · obtain ⟨r1, r2⟩ := ac_rf I1 (n := na) (by omega) hna (ac_al_V I1 (by omega) hna ha ena cl)
      rw [r1]
      exact pk_eq _ 1 (fun c => ⟨va36, br_t (by rw [← ell]; exact cl) (h1 ⟨by omega, cl, c⟩)⟩) (fun c => h0 (fun z => c z.2.2))
    · exact br_c (fun _ => ⟨va36, br_f (by rw [← ell]; exact cl) (h0 (fun z => cl z.2.1))⟩) (fun _ => h0 (fun z => cl z.2.1))
theorem bz_op0 (H : ap_OK p) (hAB : ap_AB p sA sB) (hA : ag_A p N P NY PY) (I : ag_I p sh (f + 1) M L E Q B 0 h lx lo al rf fX fY me pt va) (hB : B < 300) (em : me f = nI m) (ei : pt f = nI i) (hm : m < 4) (hiz : i < ap_Z p m)
    (hnd : sh = 1 → ∀ j, j < 6 → h (6 * f + j) ≠ 0 → ap_nd p m i j) (eo : ap_O p (16 * m + i) = 0) :
    ∃ (d' M' L' E' Q' g' : Nat) (r' oc' up' dn' : Int32) (h' lx' lo' al' rf' fX' fY' pe' td' ph' es' me' pt' va' ou' : Nat → Int32),
      ((r' = 1 ∧ oc' = -1 ∧ 1 ≤ d' ∧ g' = 0) ∨ (r' = 1 ∧ oc' = 0 ∧ d' = 0) ∨ (r' = 0 ∧ oc' = 1 ∧ d' = f + 1 ∧ g' = 0)) ∧ ag_I p sh d' M' L' E' Q' (B + 1) g' h' lx' lo' al' rf' fX' fY' me' pt' va' ∧
      (∀ post : Int32 → SX → Prop, post r' (nI Q', nI E', up', dn', nI (B + 1), nI L', nI M', nI g', nI d', sa, sh, ap_sz p, ap_L p, ap_oo p, ap_aA p, ap_aB p, ap_c p, N, P, K, R, me', pt', h', lx', va', rf', al', fX', pe', ou', es') → wpX_perform post (nI Q, nI E, up, dn, nI (B + 1), nI L, nI M, nI 0, nI (f + 1), sa, sh, ap_sz p, ap_L p, ap_oo p, ap_aA p, ap_aB p, ap_c p, N, P, K, R, me, pt, h, lx, va, rf, al, fX, pe, ou, es)) ∧
      (∀ post : SY → Prop, post (kn, nI M', nI L', up', dn', nI d', nI (B + 1), nI g', oc', sh, rn, nI Q', nI E', ap_oo p, sA, sB, ap_c p, ap_sz p, ap_L p, NY, PY, KY, va', fY', al', me', pt', h', lo', ou', es', td', ph') → wpY_carryOut post (kn, nI M, nI L, up, dn, nI (f + 1), nI (B + 1), nI 0, (-1), sh, rn, nI Q, nI E, ap_oo p, sA, sB, ap_c p, ap_sz p, ap_L p, NY, PY, KY, va, fY, al, me, pt, h, lo, ou, es, td, ph) (nI (6 * f)) (nI (16 * m + i))) := by
  obtain ⟨I1, I2, I3, I4, I5, I6, I7, I8⟩ := id I
  obtain ⟨hLc, hL24, hEL, hM, hd⟩ := I1.2.2.2.2.2.2.1
  have hL24' : L + 0 ≤ 24 := hL24
  have hz := H.2.1 m
  have hf : f < 6 := by omega
  have hi : i < 16 := by omega
  have hk : 16 * m + i < 64 := by omega
  have hI : vp_in (nI (16 * m + i)) 64 := vp_in_nI hk (by omega)
  have ek : (nI (16 * m + i)).toNatClampNeg = 16 * m + i := nI_clamp (by omega)
  have h14 := H.1 (16 * m + i)
  have hAA := h14.2.1
  have hBB := h14.2.2.1
  have vf : vp_in (nI f) 6 := vp_in_nI hf (by omega)
  have ef : (nI f).toNatClampNeg = f := nI_clamp (by omega)
  have x1e : nI (f + 1) - 1 = nI f := nI_pred f
  have x2e : me (nI f).toNatClampNeg * 16 + pt (nI f).toNatClampNeg = nI (16 * m + i) := by rw [ef, em, ei, ap_xk]
  have f6 : nI f * 6 = nI (6 * f) := by
    have : nI f * 6 = nI (f * 6) := pk_mul f 6
    rw [this, Nat.mul_comm]
  have x3e : nI f * 6 + ap_aA p (nI (16 * m + i)).toNatClampNeg = nI (6 * f + ap_A p (16 * m + i)) := by rw [ap_aAk p hk, f6, nI_add]
  have x4e : nI f * 6 + ap_aB p (nI (16 * m + i)).toNatClampNeg = nI (6 * f + ap_B p (16 * m + i)) := by rw [ap_aBk p hk, f6, nI_add]
  have x5e : ap_oo p (nI (16 * m + i)).toNatClampNeg = (0 : Int32) := by rw [ap_ook p hk, eo]; rfl
  obtain ⟨na, hna, ena⟩ := I1.2.2.2.1 (6 * f + ap_A p (16 * m + i)) (by omega)
  obtain ⟨nb, hnb, enb⟩ := I1.2.2.2.1 (6 * f + ap_B p (16 * m + i)) (by omega)
  have va36 : vp_in (nI (6 * f + ap_A p (16 * m + i))) 36 := vp_in_nI (by omega) (by omega)
  have vb36 : vp_in (nI (6 * f + ap_B p (16 * m + i))) 36 := vp_in_nI (by omega) (by omega)
  have eka : (nI (6 * f + ap_A p (16 * m + i))).toNatClampNeg = 6 * f + ap_A p (16 * m + i) := nI_clamp (by omega)
  have ekb : (nI (6 * f + ap_B p (16 * m + i))).toNatClampNeg = 6 * f + ap_B p (16 * m + i) := nI_clamp (by omega)
  have eP : P (16 * m + i) = PY (16 * m + i) := ap_Pl_u ((hA m hm).2.1 i hiz) ((hA m hm).2.2.2 i hiz)
  have eg : ∀ x : Nat, (if nI x = 0 then (0 : Int32) else 0) = 0 := fun x => by split <;> rfl
  have on : ap_on p (16 * m + i) := ⟨by omega, by omega, by omega⟩
  have scn : i + 1 < ap_Z p m → ap_sc p m i (i + 1) := fun z => ⟨z, Or.inl ⟨on, rfl⟩⟩
  by_cases hL : L < 24
  · have In := ac_new I1 hL (by omega) (af_ze fX (3 * (M + 1)) 3) (af_ze fY (3 * (M + 1)) 3) (fun x hx => af_ze_out (Or.inl hx)) (fun x hx => af_ze_out (Or.inl hx)) (fun j hj => af_ze_in (by omega) (by omega)) (fun j hj => af_ze_in (by omega) (by omega))
    obtain ⟨al', rf', fX', fY', pe', td', ph', es', L', E', dn', K1, K2, K3, K4⟩ := bz_fill (p := p) (po := nI Q) (up := up) (bg := nI (B + 1)) (gX := nI 0) (sa := sa) (sh := sh) (N := N) (P := P) (K := K) (R := R) (me := me) (h := h) (lx := lx) (va := upd va (M + 1) (ap_c p (16 * m + i))) (ou := ou) (kn := kn) (gY := nI 0) (oc := (-1)) (rn := rn) (lo := lo) (sA := sA) (sB := sB) (NY := NY) (PY := PY) (KY := KY) (dn := dn) (pe := pe) (td := td) (ph := ph) (es := es) (v := 6 * f + ap_A p (16 * m + i)) (x := M + 1) (b := 0) (by rw [if_pos rfl]; exact In) (by omega) (Nat.le_refl _) I2 (Or.inl rfl)
    rw [eg] at K1 K2 K4
    refine ⟨f + 1, M + 1, L', E', Q, 0, 1, -1, up, dn', _, _, _, al', rf', fX', fY', pe', td', ph', es', me, upd pt f (nI (i + 1)), upd va (M + 1) (ap_c p (16 * m + i)), ou, Or.inl ⟨rfl, rfl, by omega, rfl⟩,
      ⟨K1, K2, by rw [pk_un (by omega)]; exact I3, by omega, by omega, by omega, by omega, ag_F_set (b := ap_A p (16 * m + i)) I8 em ei hm hi (ag_ne I2) hnd hiz (by omega) scn _ (fun _ _ => rfl) (Or.inl rfl)⟩, fun post hp => ?_, fun post hp => ?_⟩
    · refine nm_r x1e ⟨vf, vf, nm_r x2e ⟨hI, nm_r x3e ⟨hI, nm_r x4e ⟨hI, nm_r x5e (br_f (by decide) (br_f (by decide) (br_t (by decide) (br_t (nI_lt (b := 24) hL (by decide)) ⟨hI, ?_⟩))))⟩⟩⟩⟩
      rw [ap_ck p hk]
      exact bx_make (by omega) _ _ (K3 pt _ (br_f (by decide) ⟨vf, vf, nm_r (e' := upd pt f (nI (i + 1))) (by rw [ef, ei, nI_1]) ⟨rfl, hp⟩⟩))
    · refine by_go hAB hf hk hAA hM (by omega) ena ei (by omega) post (fun _ => by intro z; have := (nI_eq (b := 24) (by omega) (by decide)).mp z; omega) (fun z => by omega) (fun z => by omega) (fun z _ => ?_)
      rw [eo]
      exact ⟨vf, nm_r (e' := upd pt f (nI (i + 1))) (by rw [ef]) (br_f (by decide) (br_f (by decide) (br_f (by decide) (br_f (by decide) (br_f (by decide) (br_f (by decide) (br_f (by decide) (br_t (by decide) (by_make (by omega) _ _ (K4 (upd pt f (nI (i + 1))) _ hp))))))))))⟩
  · have e24 : L = 24 := by omega
    refine ⟨f + 1, M, L, E, Q, 0, 0, 1, up, dn, h, lx, lo, al, rf, fX, fY, pe, td, ph, es, me, pt, va, ou, Or.inr (Or.inr ⟨rfl, rfl, rfl, rfl⟩), ⟨I1, I2, I3, by omega, by omega, by omega, I7, I8⟩, fun post hp => ?_, fun post hp => ?_⟩
    · exact nm_r x1e ⟨vf, vf, nm_r x2e ⟨hI, nm_r x3e ⟨hI, nm_r x4e ⟨hI, nm_r x5e (br_f (by decide) (br_f (by decide) (br_t (by decide) (br_f (nI_nlt (b := 24) (by omega) (by omega)) (br_t rfl ⟨rfl, hp⟩)))))⟩⟩⟩⟩
    · exact by_fail hAB hf hk hAA hM (by omega) (by omega) ena (by omega) (by omega) (by omega) (by omega) post (Or.inl ⟨eo, by rw [e24]; rfl⟩) hp
theorem bz_op2 (H : ap_OK p) (hAB : ap_AB p sA sB) (hA : ag_A p N P NY PY) (I : ag_I p sh (f + 1) M L E Q B 0 h lx lo al rf fX fY me pt va) (hB : B < 300) (em : me f = nI m) (ei : pt f = nI i) (hm : m < 4) (hiz : i < ap_Z p m)
    (hnd : sh = 1 → ∀ j, j < 6 → h (6 * f + j) ≠ 0 → ap_nd p m i j) (eo : ap_O p (16 * m + i) = 2) :
    ∃ (d' M' L' E' Q' g' : Nat) (r' oc' up' dn' : Int32) (h' lx' lo' al' rf' fX' fY' pe' td' ph' es' me' pt' va' ou' : Nat → Int32),
      ((r' = 1 ∧ oc' = -1 ∧ 1 ≤ d' ∧ g' = 0) ∨ (r' = 1 ∧ oc' = 0 ∧ d' = 0) ∨ (r' = 0 ∧ oc' = 1 ∧ d' = f + 1 ∧ g' = 0)) ∧ ag_I p sh d' M' L' E' Q' (B + 1) g' h' lx' lo' al' rf' fX' fY' me' pt' va' ∧
      (∀ post : Int32 → SX → Prop, post r' (nI Q', nI E', up', dn', nI (B + 1), nI L', nI M', nI g', nI d', sa, sh, ap_sz p, ap_L p, ap_oo p, ap_aA p, ap_aB p, ap_c p, N, P, K, R, me', pt', h', lx', va', rf', al', fX', pe', ou', es') → wpX_perform post (nI Q, nI E, up, dn, nI (B + 1), nI L, nI M, nI 0, nI (f + 1), sa, sh, ap_sz p, ap_L p, ap_oo p, ap_aA p, ap_aB p, ap_c p, N, P, K, R, me, pt, h, lx, va, rf, al, fX, pe, ou, es)) ∧
      (∀ post : SY → Prop, post (kn, nI M', nI L', up', dn', nI d', nI (B + 1), nI g', oc', sh, rn, nI Q', nI E', ap_oo p, sA, sB, ap_c p, ap_sz p, ap_L p, NY, PY, KY, va', fY', al', me', pt', h', lo', ou', es', td', ph') → wpY_carryOut post (kn, nI M, nI L, up, dn, nI (f + 1), nI (B + 1), nI 0, (-1), sh, rn, nI Q, nI E, ap_oo p, sA, sB, ap_c p, ap_sz p, ap_L p, NY, PY, KY, va, fY, al, me, pt, h, lo, ou, es, td, ph) (nI (6 * f)) (nI (16 * m + i))) := by
  obtain ⟨I1, I2, I3, I4, I5, I6, I7, I8⟩ := id I
  obtain ⟨hLc, hL24, hEL, hM, hd⟩ := I1.2.2.2.2.2.2.1
  have hL24' : L + 0 ≤ 24 := hL24
  have hz := H.2.1 m
  have hf : f < 6 := by omega
  have hi : i < 16 := by omega
  have hk : 16 * m + i < 64 := by omega
  have hI : vp_in (nI (16 * m + i)) 64 := vp_in_nI hk (by omega)
  have ek : (nI (16 * m + i)).toNatClampNeg = 16 * m + i := nI_clamp (by omega)
  have h14 := H.1 (16 * m + i)
  have hAA := h14.2.1
  have hBB := h14.2.2.1
  have vf : vp_in (nI f) 6 := vp_in_nI hf (by omega)
  have ef : (nI f).toNatClampNeg = f := nI_clamp (by omega)
  have x1e : nI (f + 1) - 1 = nI f := nI_pred f
  have x2e : me (nI f).toNatClampNeg * 16 + pt (nI f).toNatClampNeg = nI (16 * m + i) := by rw [ef, em, ei, ap_xk]
  have f6 : nI f * 6 = nI (6 * f) := by
    have : nI f * 6 = nI (f * 6) := pk_mul f 6
    rw [this, Nat.mul_comm]
  have x3e : nI f * 6 + ap_aA p (nI (16 * m + i)).toNatClampNeg = nI (6 * f + ap_A p (16 * m + i)) := by rw [ap_aAk p hk, f6, nI_add]
  have x4e : nI f * 6 + ap_aB p (nI (16 * m + i)).toNatClampNeg = nI (6 * f + ap_B p (16 * m + i)) := by rw [ap_aBk p hk, f6, nI_add]
  have x5e : ap_oo p (nI (16 * m + i)).toNatClampNeg = (2 : Int32) := by rw [ap_ook p hk, eo]; rfl
  obtain ⟨na, hna, ena⟩ := I1.2.2.2.1 (6 * f + ap_A p (16 * m + i)) (by omega)
  obtain ⟨nb, hnb, enb⟩ := I1.2.2.2.1 (6 * f + ap_B p (16 * m + i)) (by omega)
  have va36 : vp_in (nI (6 * f + ap_A p (16 * m + i))) 36 := vp_in_nI (by omega) (by omega)
  have vb36 : vp_in (nI (6 * f + ap_B p (16 * m + i))) 36 := vp_in_nI (by omega) (by omega)
  have eka : (nI (6 * f + ap_A p (16 * m + i))).toNatClampNeg = 6 * f + ap_A p (16 * m + i) := nI_clamp (by omega)
  have ekb : (nI (6 * f + ap_B p (16 * m + i))).toNatClampNeg = 6 * f + ap_B p (16 * m + i) := nI_clamp (by omega)
  have eP : P (16 * m + i) = PY (16 * m + i) := ap_Pl_u ((hA m hm).2.1 i hiz) ((hA m hm).2.2.2 i hiz)
  have eg : ∀ x : Nat, (if nI x = 0 then (0 : Int32) else 0) = 0 := fun x => by split <;> rfl
  have on : ap_on p (16 * m + i) := ⟨by omega, by omega, by omega⟩
  have scn : i + 1 < ap_Z p m → ap_sc p m i (i + 1) := fun z => ⟨z, Or.inl ⟨on, rfl⟩⟩
  obtain ⟨al', rf', fX', fY', pe', td', ph', es', L', E', dn', K1, K2, K3, K4⟩ := bz_fill (p := p) (po := nI Q) (up := up) (bg := nI (B + 1)) (gX := nI 0) (sa := sa) (sh := sh) (N := N) (P := P) (K := K) (R := R) (me := me) (h := h) (lx := lx) (va := va) (ou := ou) (kn := kn) (gY := nI 0) (oc := (-1)) (rn := rn) (lo := lo) (sA := sA) (sB := sB) (NY := NY) (PY := PY) (KY := KY) (dn := dn) (pe := pe) (td := td) (ph := ph) (es := es) (v := 6 * f + ap_A p (16 * m + i)) (x := 0) (b := 0) (by rw [if_pos rfl]; exact I1) (by omega) (Nat.zero_le _) I2 (Or.inl rfl)
  rw [eg] at K1 K2 K4
  refine ⟨f + 1, M, L', E', Q, 0, 1, -1, up, dn', _, _, _, al', rf', fX', fY', pe', td', ph', es', me, upd pt f (nI (i + 1)), va, ou, Or.inl ⟨rfl, rfl, by omega, rfl⟩,
    ⟨K1, K2, I3, by omega, by omega, by omega, by omega, ag_F_set (b := ap_A p (16 * m + i)) I8 em ei hm hi (ag_ne I2) hnd hiz (by omega) scn _ (fun _ _ => rfl) (Or.inl rfl)⟩, fun post hp => ?_, fun post hp => ?_⟩
  · exact nm_r x1e ⟨vf, vf, nm_r x2e ⟨hI, nm_r x3e ⟨hI, nm_r x4e ⟨hI, nm_r x5e (br_f (by decide) (br_f (by decide) (br_f (by decide) (br_f (by decide) (br_t (by decide) (K3 pt _ (br_f (by decide) ⟨vf, vf, nm_r (e' := upd pt f (nI (i + 1))) (by rw [ef, ei, nI_1]) ⟨rfl, hp⟩⟩)))))))⟩⟩⟩⟩
  · refine by_go hAB hf hk hAA hM (by omega) ena ei (by omega) post (fun z => by omega) (fun z => by omega) (fun z => by omega) (fun z _ => ?_)
    rw [eo]
    exact ⟨vf, nm_r (e' := upd pt f (nI (i + 1))) (by rw [ef]) (br_f (by decide) (br_f (by decide) (br_f (by decide) (br_f (by decide) (br_f (by decide) (br_f (by decide) (br_f (by decide) (br_f (by decide) (br_f (by decide) (br_t (by decide) (K4 (upd pt f (nI (i + 1))) _ hp)))))))))))⟩
theorem bz_op1 (H : ap_OK p) (hAB : ap_AB p sA sB) (hA : ag_A p N P NY PY) (I : ag_I p sh (f + 1) M L E Q B 0 h lx lo al rf fX fY me pt va) (hB : B < 300) (em : me f = nI m) (ei : pt f = nI i) (hm : m < 4) (hiz : i < ap_Z p m)
    (hnd : sh = 1 → ∀ j, j < 6 → h (6 * f + j) ≠ 0 → ap_nd p m i j) (eo : ap_O p (16 * m + i) = 1) :
    ∃ (d' M' L' E' Q' g' : Nat) (r' oc' up' dn' : Int32) (h' lx' lo' al' rf' fX' fY' pe' td' ph' es' me' pt' va' ou' : Nat → Int32),
      ((r' = 1 ∧ oc' = -1 ∧ 1 ≤ d' ∧ g' = 0) ∨ (r' = 1 ∧ oc' = 0 ∧ d' = 0) ∨ (r' = 0 ∧ oc' = 1 ∧ d' = f + 1 ∧ g' = 0)) ∧ ag_I p sh d' M' L' E' Q' (B + 1) g' h' lx' lo' al' rf' fX' fY' me' pt' va' ∧
      (∀ post : Int32 → SX → Prop, post r' (nI Q', nI E', up', dn', nI (B + 1), nI L', nI M', nI g', nI d', sa, sh, ap_sz p, ap_L p, ap_oo p, ap_aA p, ap_aB p, ap_c p, N, P, K, R, me', pt', h', lx', va', rf', al', fX', pe', ou', es') → wpX_perform post (nI Q, nI E, up, dn, nI (B + 1), nI L, nI M, nI 0, nI (f + 1), sa, sh, ap_sz p, ap_L p, ap_oo p, ap_aA p, ap_aB p, ap_c p, N, P, K, R, me, pt, h, lx, va, rf, al, fX, pe, ou, es)) ∧
      (∀ post : SY → Prop, post (kn, nI M', nI L', up', dn', nI d', nI (B + 1), nI g', oc', sh, rn, nI Q', nI E', ap_oo p, sA, sB, ap_c p, ap_sz p, ap_L p, NY, PY, KY, va', fY', al', me', pt', h', lo', ou', es', td', ph') → wpY_carryOut post (kn, nI M, nI L, up, dn, nI (f + 1), nI (B + 1), nI 0, (-1), sh, rn, nI Q, nI E, ap_oo p, sA, sB, ap_c p, ap_sz p, ap_L p, NY, PY, KY, va, fY, al, me, pt, h, lo, ou, es, td, ph) (nI (6 * f)) (nI (16 * m + i))) := by
  obtain ⟨I1, I2, I3, I4, I5, I6, I7, I8⟩ := id I
  obtain ⟨hLc, hL24, hEL, hM, hd⟩ := I1.2.2.2.2.2.2.1
  have hL24' : L + 0 ≤ 24 := hL24
  have hz := H.2.1 m
  have hf : f < 6 := by omega
  have hi : i < 16 := by omega
  have hk : 16 * m + i < 64 := by omega
  have hI : vp_in (nI (16 * m + i)) 64 := vp_in_nI hk (by omega)
  have ek : (nI (16 * m + i)).toNatClampNeg = 16 * m + i := nI_clamp (by omega)
  have h14 := H.1 (16 * m + i)
  have hAA := h14.2.1
  have hBB := h14.2.2.1
  have vf : vp_in (nI f) 6 := vp_in_nI hf (by omega)
  have ef : (nI f).toNatClampNeg = f := nI_clamp (by omega)
  have x1e : nI (f + 1) - 1 = nI f := nI_pred f
  have x2e : me (nI f).toNatClampNeg * 16 + pt (nI f).toNatClampNeg = nI (16 * m + i) := by rw [ef, em, ei, ap_xk]
  have f6 : nI f * 6 = nI (6 * f) := by
    have : nI f * 6 = nI (f * 6) := pk_mul f 6
    rw [this, Nat.mul_comm]
  have x3e : nI f * 6 + ap_aA p (nI (16 * m + i)).toNatClampNeg = nI (6 * f + ap_A p (16 * m + i)) := by rw [ap_aAk p hk, f6, nI_add]
  have x4e : nI f * 6 + ap_aB p (nI (16 * m + i)).toNatClampNeg = nI (6 * f + ap_B p (16 * m + i)) := by rw [ap_aBk p hk, f6, nI_add]
  have x5e : ap_oo p (nI (16 * m + i)).toNatClampNeg = (1 : Int32) := by rw [ap_ook p hk, eo]; rfl
  obtain ⟨na, hna, ena⟩ := I1.2.2.2.1 (6 * f + ap_A p (16 * m + i)) (by omega)
  obtain ⟨nb, hnb, enb⟩ := I1.2.2.2.1 (6 * f + ap_B p (16 * m + i)) (by omega)
  have va36 : vp_in (nI (6 * f + ap_A p (16 * m + i))) 36 := vp_in_nI (by omega) (by omega)
  have vb36 : vp_in (nI (6 * f + ap_B p (16 * m + i))) 36 := vp_in_nI (by omega) (by omega)
  have eka : (nI (6 * f + ap_A p (16 * m + i))).toNatClampNeg = 6 * f + ap_A p (16 * m + i) := nI_clamp (by omega)
  have ekb : (nI (6 * f + ap_B p (16 * m + i))).toNatClampNeg = 6 * f + ap_B p (16 * m + i) := nI_clamp (by omega)
  have eP : P (16 * m + i) = PY (16 * m + i) := ap_Pl_u ((hA m hm).2.1 i hiz) ((hA m hm).2.2.2 i hiz)
  have eg : ∀ x : Nat, (if nI x = 0 then (0 : Int32) else 0) = 0 := fun x => by split <;> rfl
  have on : ap_on p (16 * m + i) := ⟨by omega, by omega, by omega⟩
  have scn : i + 1 < ap_Z p m → ap_sc p m i (i + 1) := fun z => ⟨z, Or.inl ⟨on, rfl⟩⟩
  have y5e : nI (6 * f) + sB (16 * m + i) = nI (6 * f + ap_B p (16 * m + i)) := by rw [(hAB (16 * m + i)).2 (by omega), nI_add]
  have nal : ¬ ap_al p (16 * m + i) := fun z => by unfold ap_al at z; omega
  have alA := ag_alive (n := na) I1 I8 em ei hm hi hnd hiz nal hAA ena hna
  have alB := ag_alive (n := nb) I1 I8 em ei hm hi hnd hiz nal hBB enb hnb
  have mbe : ∃ mb : Int32, ((P (16 * m + i) = 2 ∧ mb = 1) ∨ (¬ P (16 * m + i) = 2 ∧ mb = 0)) := by
    by_cases c : P (16 * m + i) = 2
    · exact ⟨1, Or.inl ⟨c, rfl⟩⟩
    · exact ⟨0, Or.inr ⟨c, rfl⟩⟩
  obtain ⟨mb, hmb⟩ := mbe
  obtain ⟨h1, rf1, up1, T1, T2, T3, T4, T5⟩ := bz_take (p := p) (po := nI Q) (up := up) (bg := nI (B + 1)) (gX := nI 0) (sa := sa) (sh := sh) (N := N) (P := P) (K := K) (R := R) (me := me) (h := h) (lx := lx) (va := va) (ou := ou) (gY := nI 0) (lo := lo) (dn := dn) (pe := pe) (es := es) (pt := pt) (v := 6 * f + ap_B p (16 * m + i)) (n := nb) mb I1 (by omega) enb hnb alB I2
  obtain ⟨al', rf', fX', fY', pe', td', ph', es', L', E', dn', K1, K2, K3, K4⟩ := bz_fill (p := p) (po := nI Q) (up := up1) (bg := nI (B + 1)) (gX := nI 0) (sa := sa) (sh := sh) (N := N) (P := P) (K := K) (R := R) (me := me) (h := h1) (lx := lx) (va := va) (ou := ou) (kn := kn) (gY := nI 0) (oc := (-1)) (rn := rn) (lo := lo) (sA := sA) (sB := sB) (NY := NY) (PY := PY) (KY := KY) (dn := dn) (pe := pe) (td := td) (ph := ph) (es := es) (v := 6 * f + ap_A p (16 * m + i)) (x := nb) (b := 0) (by rw [if_pos rfl]; exact T1) (by omega) hnb T2 (Or.inl rfl)
  rw [eg] at K1 K2 K4
  refine ⟨f + 1, M, L', E', Q, 0, 1, -1, up1, dn', _, _, _, al', rf', fX', fY', pe', td', ph', es', me, upd pt f (nI (i + 1)), va, ou, Or.inl ⟨rfl, rfl, by omega, rfl⟩,
    ⟨K1, K2, I3, by omega, by omega, by omega, by omega, ag_F_set (b := ap_B p (16 * m + i)) I8 em ei hm hi (ag_ne I2) hnd hiz (by omega) scn _ T3 (by rcases T4 with ⟨_, _, q, _⟩ | ⟨_, q, _⟩; exact Or.inr q; exact Or.inl (by rw [q]))⟩, fun post hp => ?_, fun post hp => ?_⟩
  · refine nm_r x1e ⟨vf, vf, nm_r x2e ⟨hI, nm_r x3e ⟨hI, nm_r x4e ⟨hI, nm_r x5e (br_f (by decide) (br_f (by decide) (br_f (by decide) (br_t (by decide) (⟨hI, ?_⟩)))))⟩⟩⟩⟩
    rw [ek]
    rcases hmb with ⟨c, e⟩ | ⟨c, e⟩
    · subst e; exact br_t c (T5 _ (K3 pt _ (br_f (by decide) ⟨vf, vf, nm_r (e' := upd pt f (nI (i + 1))) (by rw [ef, ei, nI_1]) ⟨rfl, hp⟩⟩)))
    · subst e; exact br_f c (T5 _ (K3 pt _ (br_f (by decide) ⟨vf, vf, nm_r (e' := upd pt f (nI (i + 1))) (by rw [ef, ei, nI_1]) ⟨rfl, hp⟩⟩)))
  · refine by_go hAB hf hk hAA hM (by omega) ena ei (by omega) post (fun z => by omega) (fun z => by omega) (fun z => by omega) (fun z _ => ?_)
    rw [eo, y5e]
    refine ⟨vf, nm_r (e' := upd pt f (nI (i + 1))) (by rw [ef]) (br_f (by decide) (br_f (by decide) (br_f (by decide) (br_f (by decide) (br_f (by decide) (br_f (by decide) (br_f (by decide) (br_f (by decide) (br_t (by decide) ?_)))))))))⟩
    refine by_ref (by omega) hk (by omega) enb (h' := h1) (up' := up1) ?_ _ (K4 (upd pt f (nI (i + 1))) _ hp)
    rw [← eP]
    rcases T4 with ⟨q1, q2, q3⟩ | ⟨q1, q2⟩
    · exact Or.inl ⟨q1, by rcases hmb with q | q; exact q.1; exact absurd q.2 q2, q3⟩
    · exact Or.inr ⟨fun z => q1 ⟨z.1, by rcases hmb with q | q; rw [q.2]; decide; exact absurd z.2.1 q.1, z.2.2⟩, q2⟩
theorem bz_op5 (H : ap_OK p) (hAB : ap_AB p sA sB) (hA : ag_A p N P NY PY) (I : ag_I p sh (f + 1) M L E Q B 0 h lx lo al rf fX fY me pt va) (hB : B < 300) (em : me f = nI m) (ei : pt f = nI i) (hm : m < 4) (hiz : i < ap_Z p m)
    (hnd : sh = 1 → ∀ j, j < 6 → h (6 * f + j) ≠ 0 → ap_nd p m i j) (eo : ap_O p (16 * m + i) = 5) :
    ∃ (d' M' L' E' Q' g' : Nat) (r' oc' up' dn' : Int32) (h' lx' lo' al' rf' fX' fY' pe' td' ph' es' me' pt' va' ou' : Nat → Int32),
      ((r' = 1 ∧ oc' = -1 ∧ 1 ≤ d' ∧ g' = 0) ∨ (r' = 1 ∧ oc' = 0 ∧ d' = 0) ∨ (r' = 0 ∧ oc' = 1 ∧ d' = f + 1 ∧ g' = 0)) ∧ ag_I p sh d' M' L' E' Q' (B + 1) g' h' lx' lo' al' rf' fX' fY' me' pt' va' ∧
      (∀ post : Int32 → SX → Prop, post r' (nI Q', nI E', up', dn', nI (B + 1), nI L', nI M', nI g', nI d', sa, sh, ap_sz p, ap_L p, ap_oo p, ap_aA p, ap_aB p, ap_c p, N, P, K, R, me', pt', h', lx', va', rf', al', fX', pe', ou', es') → wpX_perform post (nI Q, nI E, up, dn, nI (B + 1), nI L, nI M, nI 0, nI (f + 1), sa, sh, ap_sz p, ap_L p, ap_oo p, ap_aA p, ap_aB p, ap_c p, N, P, K, R, me, pt, h, lx, va, rf, al, fX, pe, ou, es)) ∧
      (∀ post : SY → Prop, post (kn, nI M', nI L', up', dn', nI d', nI (B + 1), nI g', oc', sh, rn, nI Q', nI E', ap_oo p, sA, sB, ap_c p, ap_sz p, ap_L p, NY, PY, KY, va', fY', al', me', pt', h', lo', ou', es', td', ph') → wpY_carryOut post (kn, nI M, nI L, up, dn, nI (f + 1), nI (B + 1), nI 0, (-1), sh, rn, nI Q, nI E, ap_oo p, sA, sB, ap_c p, ap_sz p, ap_L p, NY, PY, KY, va, fY, al, me, pt, h, lo, ou, es, td, ph) (nI (6 * f)) (nI (16 * m + i))) := by
  obtain ⟨I1, I2, I3, I4, I5, I6, I7, I8⟩ := id I
  obtain ⟨hLc, hL24, hEL, hM, hd⟩ := I1.2.2.2.2.2.2.1
  have hL24' : L + 0 ≤ 24 := hL24
  have hz := H.2.1 m
  have hf : f < 6 := by omega
  have hi : i < 16 := by omega
  have hk : 16 * m + i < 64 := by omega
  have hI : vp_in (nI (16 * m + i)) 64 := vp_in_nI hk (by omega)
  have ek : (nI (16 * m + i)).toNatClampNeg = 16 * m + i := nI_clamp (by omega)
  have h14 := H.1 (16 * m + i)
  have hAA := h14.2.1
  have hBB := h14.2.2.1
  have vf : vp_in (nI f) 6 := vp_in_nI hf (by omega)
  have ef : (nI f).toNatClampNeg = f := nI_clamp (by omega)
  have x1e : nI (f + 1) - 1 = nI f := nI_pred f
  have x2e : me (nI f).toNatClampNeg * 16 + pt (nI f).toNatClampNeg = nI (16 * m + i) := by rw [ef, em, ei, ap_xk]
  have f6 : nI f * 6 = nI (6 * f) := by
    have : nI f * 6 = nI (f * 6) := pk_mul f 6
    rw [this, Nat.mul_comm]
  have x3e : nI f * 6 + ap_aA p (nI (16 * m + i)).toNatClampNeg = nI (6 * f + ap_A p (16 * m + i)) := by rw [ap_aAk p hk, f6, nI_add]
  have x4e : nI f * 6 + ap_aB p (nI (16 * m + i)).toNatClampNeg = nI (6 * f + ap_B p (16 * m + i)) := by rw [ap_aBk p hk, f6, nI_add]
  have x5e : ap_oo p (nI (16 * m + i)).toNatClampNeg = (5 : Int32) := by rw [ap_ook p hk, eo]; rfl
  obtain ⟨na, hna, ena⟩ := I1.2.2.2.1 (6 * f + ap_A p (16 * m + i)) (by omega)
  obtain ⟨nb, hnb, enb⟩ := I1.2.2.2.1 (6 * f + ap_B p (16 * m + i)) (by omega)
  have va36 : vp_in (nI (6 * f + ap_A p (16 * m + i))) 36 := vp_in_nI (by omega) (by omega)
  have vb36 : vp_in (nI (6 * f + ap_B p (16 * m + i))) 36 := vp_in_nI (by omega) (by omega)
  have eka : (nI (6 * f + ap_A p (16 * m + i))).toNatClampNeg = 6 * f + ap_A p (16 * m + i) := nI_clamp (by omega)
  have ekb : (nI (6 * f + ap_B p (16 * m + i))).toNatClampNeg = 6 * f + ap_B p (16 * m + i) := nI_clamp (by omega)
  have eP : P (16 * m + i) = PY (16 * m + i) := ap_Pl_u ((hA m hm).2.1 i hiz) ((hA m hm).2.2.2 i hiz)
  have eg : ∀ x : Nat, (if nI x = 0 then (0 : Int32) else 0) = 0 := fun x => by split <;> rfl
  have on : ap_on p (16 * m + i) := ⟨by omega, by omega, by omega⟩
  have scn : i + 1 < ap_Z p m → ap_sc p m i (i + 1) := fun z => ⟨z, Or.inl ⟨on, rfl⟩⟩
  refine ⟨f + 1, M, L, E, Q + 1, 0, 1, -1, up, dn, h, lx, lo, al, rf, fX, fY, pe, td, ph, es, me, upd pt f (nI (i + 1)), va, upd ou Q (va na), Or.inl ⟨rfl, rfl, by omega, rfl⟩,
    ⟨I1, I2, I3, by omega, by omega, by omega, by omega, ag_F_pc I8 em ei hm hi (ag_ne I2) hnd hiz (by omega) scn⟩, fun post hp => ?_, fun post hp => ?_⟩
  · refine nm_r x1e ⟨vf, vf, nm_r x2e ⟨hI, nm_r x3e ⟨hI, nm_r x4e ⟨hI, nm_r x5e (br_f (by decide) (br_f (by decide) (br_f (by decide) (br_f (by decide) (br_f (by decide) (br_f (by decide) (br_f (by decide) (br_t (by decide) (⟨va36, ?_⟩)))))))))⟩⟩⟩⟩
    rw [eka, ena, nI_clamp (n := na) (by omega)]
    exact ⟨vp_in_nI (by omega) (by omega), ⟨vp_in_nI (by omega) (by omega), nm_r (e' := upd ou Q (va na)) (by rw [nI_clamp (by omega)]) (nm_r (nI_1 Q) (br_f (by decide) ⟨vf, vf, nm_r (e' := upd pt f (nI (i + 1))) (by rw [ef, ei, nI_1]) ⟨rfl, hp⟩⟩))⟩⟩
  · refine by_go hAB hf hk hAA hM (by omega) ena ei (by omega) post (fun z => by omega) (fun z => by omega) (fun z => by omega) (fun z _ => ?_)
    rw [eo]
    refine ⟨vf, nm_r (e' := upd pt f (nI (i + 1))) (by rw [ef]) (br_t (by decide) (nm_r (nI_1 Q) ?_))⟩
    have vQ : vp_in (nI Q) 300 := vp_in_nI (by omega) (by omega)
    by_cases n0 : na = 0
    · subst n0
      exact br_t rfl ⟨vQ, nm_r (e' := upd ou Q (va 0)) (by rw [nI_clamp (by omega), I3]) hp⟩
    · exact br_f (nI_ne0 (by omega) (by omega)) ⟨vp_in_nI (by omega) (by omega), vQ, nm_r (e' := upd ou Q (va na)) (by rw [nI_clamp (by omega), nI_clamp (by omega)]) hp⟩
theorem bz_op6 (H : ap_OK p) (hAB : ap_AB p sA sB) (hA : ag_A p N P NY PY) (I : ag_I p sh (f + 1) M L E Q B 0 h lx lo al rf fX fY me pt va) (hB : B < 300) (em : me f = nI m) (ei : pt f = nI i) (hm : m < 4) (hiz : i < ap_Z p m)
    (hnd : sh = 1 → ∀ j, j < 6 → h (6 * f + j) ≠ 0 → ap_nd p m i j) (eo : ap_O p (16 * m + i) = 6) :
    ∃ (d' M' L' E' Q' g' : Nat) (r' oc' up' dn' : Int32) (h' lx' lo' al' rf' fX' fY' pe' td' ph' es' me' pt' va' ou' : Nat → Int32),
      ((r' = 1 ∧ oc' = -1 ∧ 1 ≤ d' ∧ g' = 0) ∨ (r' = 1 ∧ oc' = 0 ∧ d' = 0) ∨ (r' = 0 ∧ oc' = 1 ∧ d' = f + 1 ∧ g' = 0)) ∧ ag_I p sh d' M' L' E' Q' (B + 1) g' h' lx' lo' al' rf' fX' fY' me' pt' va' ∧
      (∀ post : Int32 → SX → Prop, post r' (nI Q', nI E', up', dn', nI (B + 1), nI L', nI M', nI g', nI d', sa, sh, ap_sz p, ap_L p, ap_oo p, ap_aA p, ap_aB p, ap_c p, N, P, K, R, me', pt', h', lx', va', rf', al', fX', pe', ou', es') → wpX_perform post (nI Q, nI E, up, dn, nI (B + 1), nI L, nI M, nI 0, nI (f + 1), sa, sh, ap_sz p, ap_L p, ap_oo p, ap_aA p, ap_aB p, ap_c p, N, P, K, R, me, pt, h, lx, va, rf, al, fX, pe, ou, es)) ∧
      (∀ post : SY → Prop, post (kn, nI M', nI L', up', dn', nI d', nI (B + 1), nI g', oc', sh, rn, nI Q', nI E', ap_oo p, sA, sB, ap_c p, ap_sz p, ap_L p, NY, PY, KY, va', fY', al', me', pt', h', lo', ou', es', td', ph') → wpY_carryOut post (kn, nI M, nI L, up, dn, nI (f + 1), nI (B + 1), nI 0, (-1), sh, rn, nI Q, nI E, ap_oo p, sA, sB, ap_c p, ap_sz p, ap_L p, NY, PY, KY, va, fY, al, me, pt, h, lo, ou, es, td, ph) (nI (6 * f)) (nI (16 * m + i))) := by
  obtain ⟨I1, I2, I3, I4, I5, I6, I7, I8⟩ := id I
  obtain ⟨hLc, hL24, hEL, hM, hd⟩ := I1.2.2.2.2.2.2.1
  have hL24' : L + 0 ≤ 24 := hL24
  have hz := H.2.1 m
  have hf : f < 6 := by omega
  have hi : i < 16 := by omega
  have hk : 16 * m + i < 64 := by omega
  have hI : vp_in (nI (16 * m + i)) 64 := vp_in_nI hk (by omega)
  have ek : (nI (16 * m + i)).toNatClampNeg = 16 * m + i := nI_clamp (by omega)
  have h14 := H.1 (16 * m + i)
  have hAA := h14.2.1
  have hBB := h14.2.2.1
  have vf : vp_in (nI f) 6 := vp_in_nI hf (by omega)
  have ef : (nI f).toNatClampNeg = f := nI_clamp (by omega)
  have x1e : nI (f + 1) - 1 = nI f := nI_pred f
  have x2e : me (nI f).toNatClampNeg * 16 + pt (nI f).toNatClampNeg = nI (16 * m + i) := by rw [ef, em, ei, ap_xk]
  have f6 : nI f * 6 = nI (6 * f) := by
    have : nI f * 6 = nI (f * 6) := pk_mul f 6
    rw [this, Nat.mul_comm]
  have x3e : nI f * 6 + ap_aA p (nI (16 * m + i)).toNatClampNeg = nI (6 * f + ap_A p (16 * m + i)) := by rw [ap_aAk p hk, f6, nI_add]
  have x4e : nI f * 6 + ap_aB p (nI (16 * m + i)).toNatClampNeg = nI (6 * f + ap_B p (16 * m + i)) := by rw [ap_aBk p hk, f6, nI_add]
  have x5e : ap_oo p (nI (16 * m + i)).toNatClampNeg = (6 : Int32) := by rw [ap_ook p hk, eo]; rfl
  obtain ⟨na, hna, ena⟩ := I1.2.2.2.1 (6 * f + ap_A p (16 * m + i)) (by omega)
  obtain ⟨nb, hnb, enb⟩ := I1.2.2.2.1 (6 * f + ap_B p (16 * m + i)) (by omega)
  have va36 : vp_in (nI (6 * f + ap_A p (16 * m + i))) 36 := vp_in_nI (by omega) (by omega)
  have vb36 : vp_in (nI (6 * f + ap_B p (16 * m + i))) 36 := vp_in_nI (by omega) (by omega)
  have eka : (nI (6 * f + ap_A p (16 * m + i))).toNatClampNeg = 6 * f + ap_A p (16 * m + i) := nI_clamp (by omega)
  have ekb : (nI (6 * f + ap_B p (16 * m + i))).toNatClampNeg = 6 * f + ap_B p (16 * m + i) := nI_clamp (by omega)
  have eP : P (16 * m + i) = PY (16 * m + i) := ap_Pl_u ((hA m hm).2.1 i hiz) ((hA m hm).2.2.2 i hiz)
  have eg : ∀ x : Nat, (if nI x = 0 then (0 : Int32) else 0) = 0 := fun x => by split <;> rfl
  have on : ap_on p (16 * m + i) := ⟨by omega, by omega, by omega⟩
  have scn : i + 1 < ap_Z p m → ap_sc p m i (i + 1) := fun z => ⟨z, Or.inl ⟨on, rfl⟩⟩
  by_cases n0 : na = 0
  · subst n0
    refine ⟨f + 1, M, L, E, Q, 0, 0, 1, up, dn, h, lx, lo, al, rf, fX, fY, pe, td, ph, es, me, pt, va, ou, Or.inr (Or.inr ⟨rfl, rfl, rfl, rfl⟩), ⟨I1, I2, I3, by omega, by omega, by omega, I7, I8⟩, fun post hp => ?_, fun post hp => ?_⟩
    · exact nm_r x1e ⟨vf, vf, nm_r x2e ⟨hI, nm_r x3e ⟨hI, nm_r x4e ⟨hI, nm_r x5e (br_f (by decide) (br_f (by decide) (br_f (by decide) (br_f (by decide) (br_f (by decide) (br_f (by decide) (br_f (by decide) (br_f (by decide) (br_t (by decide) (⟨va36, br_t (by rw [eka]; exact ena) (br_t rfl ⟨rfl, hp⟩)⟩))))))))))⟩⟩⟩⟩
    · exact by_fail hAB hf hk hAA hM (by omega) (by omega) ena (by omega) (by omega) (by omega) (by omega) post (Or.inr (Or.inl ⟨Or.inr eo, rfl⟩)) hp
  · have nn0 : ¬ nI na = 0 := nI_ne0 (by omega) (by omega)
    refine ⟨f + 1, M, L, E, Q, 0, 1, -1, up, dn, h, lx, lo, al, rf, fX, fY, pe, td, ph, es, me, upd pt f (nI (i + 1)), upd va na (va na + ap_c p (16 * m + i)), ou, Or.inl ⟨rfl, rfl, by omega, rfl⟩,
      ⟨I1, I2, by rw [pk_un (by omega)]; exact I3, by omega, by omega, by omega, by omega, ag_F_pc I8 em ei hm hi (ag_ne I2) hnd hiz (by omega) scn⟩, fun post hp => ?_, fun post hp => ?_⟩
    · have vn : vp_in (nI na) 301 := vp_in_nI (by omega) (by omega)
      refine nm_r x1e ⟨vf, vf, nm_r x2e ⟨hI, nm_r x3e ⟨hI, nm_r x4e ⟨hI, nm_r x5e (br_f (by decide) (br_f (by decide) (br_f (by decide) (br_f (by decide) (br_f (by decide) (br_f (by decide) (br_f (by decide) (br_f (by decide) (br_t (by decide) (⟨va36, ?_⟩))))))))))⟩⟩⟩⟩
      rw [eka, ena, ap_ck p hk, nI_clamp (n := na) (by omega)]
      exact br_f nn0 ⟨va36, vn, hI, vn, nm_e (br_f (by decide) ⟨vf, vf, nm_r (e' := upd pt f (nI (i + 1))) (by rw [ef, ei, nI_1]) ⟨rfl, hp⟩⟩)⟩
    · refine by_go hAB hf hk hAA hM (by omega) ena ei (by omega) post (fun z => by omega) (fun z => nn0) (fun z => by omega) (fun z _ => ?_)
      rw [eo]
      have vn : vp_in (nI na) 301 := vp_in_nI (by omega) (by omega)
      exact ⟨vf, nm_r (e' := upd pt f (nI (i + 1))) (by rw [ef]) (br_f (by decide) (br_f (by decide) (br_t (by decide) ⟨vn, vn, nm_r (e' := upd va na (va na + ap_c p (16 * m + i))) (by rw [nI_clamp (by omega)]) hp⟩)))⟩
theorem bz_op7 (H : ap_OK p) (hAB : ap_AB p sA sB) (hA : ag_A p N P NY PY) (I : ag_I p sh (f + 1) M L E Q B 0 h lx lo al rf fX fY me pt va) (hB : B < 300) (em : me f = nI m) (ei : pt f = nI i) (hm : m < 4) (hiz : i < ap_Z p m)
    (hnd : sh = 1 → ∀ j, j < 6 → h (6 * f + j) ≠ 0 → ap_nd p m i j) (eo : ap_O p (16 * m + i) = 7) :
    ∃ (d' M' L' E' Q' g' : Nat) (r' oc' up' dn' : Int32) (h' lx' lo' al' rf' fX' fY' pe' td' ph' es' me' pt' va' ou' : Nat → Int32),
      ((r' = 1 ∧ oc' = -1 ∧ 1 ≤ d' ∧ g' = 0) ∨ (r' = 1 ∧ oc' = 0 ∧ d' = 0) ∨ (r' = 0 ∧ oc' = 1 ∧ d' = f + 1 ∧ g' = 0)) ∧ ag_I p sh d' M' L' E' Q' (B + 1) g' h' lx' lo' al' rf' fX' fY' me' pt' va' ∧
      (∀ post : Int32 → SX → Prop, post r' (nI Q', nI E', up', dn', nI (B + 1), nI L', nI M', nI g', nI d', sa, sh, ap_sz p, ap_L p, ap_oo p, ap_aA p, ap_aB p, ap_c p, N, P, K, R, me', pt', h', lx', va', rf', al', fX', pe', ou', es') → wpX_perform post (nI Q, nI E, up, dn, nI (B + 1), nI L, nI M, nI 0, nI (f + 1), sa, sh, ap_sz p, ap_L p, ap_oo p, ap_aA p, ap_aB p, ap_c p, N, P, K, R, me, pt, h, lx, va, rf, al, fX, pe, ou, es)) ∧
      (∀ post : SY → Prop, post (kn, nI M', nI L', up', dn', nI d', nI (B + 1), nI g', oc', sh, rn, nI Q', nI E', ap_oo p, sA, sB, ap_c p, ap_sz p, ap_L p, NY, PY, KY, va', fY', al', me', pt', h', lo', ou', es', td', ph') → wpY_carryOut post (kn, nI M, nI L, up, dn, nI (f + 1), nI (B + 1), nI 0, (-1), sh, rn, nI Q, nI E, ap_oo p, sA, sB, ap_c p, ap_sz p, ap_L p, NY, PY, KY, va, fY, al, me, pt, h, lo, ou, es, td, ph) (nI (6 * f)) (nI (16 * m + i))) := by
  obtain ⟨I1, I2, I3, I4, I5, I6, I7, I8⟩ := id I
  obtain ⟨hLc, hL24, hEL, hM, hd⟩ := I1.2.2.2.2.2.2.1
  have hL24' : L + 0 ≤ 24 := hL24
  have hz := H.2.1 m
  have hf : f < 6 := by omega
  have hi : i < 16 := by omega
  have hk : 16 * m + i < 64 := by omega
  have hI : vp_in (nI (16 * m + i)) 64 := vp_in_nI hk (by omega)
  have ek : (nI (16 * m + i)).toNatClampNeg = 16 * m + i := nI_clamp (by omega)
  have h14 := H.1 (16 * m + i)
  have hAA := h14.2.1
  have hBB := h14.2.2.1
  have vf : vp_in (nI f) 6 := vp_in_nI hf (by omega)
  have ef : (nI f).toNatClampNeg = f := nI_clamp (by omega)
  have x1e : nI (f + 1) - 1 = nI f := nI_pred f
  have x2e : me (nI f).toNatClampNeg * 16 + pt (nI f).toNatClampNeg = nI (16 * m + i) := by rw [ef, em, ei, ap_xk]
  have f6 : nI f * 6 = nI (6 * f) := by
    have : nI f * 6 = nI (f * 6) := pk_mul f 6
    rw [this, Nat.mul_comm]
  have x3e : nI f * 6 + ap_aA p (nI (16 * m + i)).toNatClampNeg = nI (6 * f + ap_A p (16 * m + i)) := by rw [ap_aAk p hk, f6, nI_add]
  have x4e : nI f * 6 + ap_aB p (nI (16 * m + i)).toNatClampNeg = nI (6 * f + ap_B p (16 * m + i)) := by rw [ap_aBk p hk, f6, nI_add]
  have x5e : ap_oo p (nI (16 * m + i)).toNatClampNeg = (7 : Int32) := by rw [ap_ook p hk, eo]; rfl
  obtain ⟨na, hna, ena⟩ := I1.2.2.2.1 (6 * f + ap_A p (16 * m + i)) (by omega)
  obtain ⟨nb, hnb, enb⟩ := I1.2.2.2.1 (6 * f + ap_B p (16 * m + i)) (by omega)
  have va36 : vp_in (nI (6 * f + ap_A p (16 * m + i))) 36 := vp_in_nI (by omega) (by omega)
  have vb36 : vp_in (nI (6 * f + ap_B p (16 * m + i))) 36 := vp_in_nI (by omega) (by omega)
  have eka : (nI (6 * f + ap_A p (16 * m + i))).toNatClampNeg = 6 * f + ap_A p (16 * m + i) := nI_clamp (by omega)
  have ekb : (nI (6 * f + ap_B p (16 * m + i))).toNatClampNeg = 6 * f + ap_B p (16 * m + i) := nI_clamp (by omega)
  have eP : P (16 * m + i) = PY (16 * m + i) := ap_Pl_u ((hA m hm).2.1 i hiz) ((hA m hm).2.2.2 i hiz)
  have eg : ∀ x : Nat, (if nI x = 0 then (0 : Int32) else 0) = 0 := fun x => by split <;> rfl
  have on : ap_on p (16 * m + i) := ⟨by omega, by omega, by omega⟩
  have scn : i + 1 < ap_Z p m → ap_sc p m i (i + 1) := fun z => ⟨z, Or.inl ⟨on, rfl⟩⟩
  have ho : ∃ z : Int32, ((z = 1 ∧ 1 ≤ na ∧ lo (6 * f + ap_A p (16 * m + i)) = 0 ∧ ac_N (nI 0) h lo (f + 1) fY M na = 1) ∨ (z = 0 ∧ ¬ (1 ≤ na ∧ lo (6 * f + ap_A p (16 * m + i)) = 0 ∧ ac_N (nI 0) h lo (f + 1) fY M na = 1))) := by
    by_cases c : 1 ≤ na ∧ lo (6 * f + ap_A p (16 * m + i)) = 0 ∧ ac_N (nI 0) h lo (f + 1) fY M na = 1
    · exact ⟨1, Or.inl ⟨rfl, c⟩⟩
    · exact ⟨0, Or.inr ⟨rfl, c⟩⟩
  obtain ⟨z, hz'⟩ := ho
  refine ⟨f + 1, M, L, E, Q + 1, 0, 1, -1, up, dn, h, lx, lo, al, rf, fX, fY, pe, td, ph, es, me, upd pt f (nI (i + 1)), va, upd ou Q z, Or.inl ⟨rfl, rfl, by omega, rfl⟩,
    ⟨I1, I2, I3, by omega, by omega, by omega, by omega, ag_F_pc I8 em ei hm hi (ag_ne I2) hnd hiz (by omega) scn⟩, fun post hp => ?_, fun post hp => ?_⟩
  · have vQ : vp_in (nI Q) 300 := vp_in_nI (by omega) (by omega)
    refine nm_r x1e ⟨vf, vf, nm_r x2e ⟨hI, nm_r x3e ⟨hI, nm_r x4e ⟨hI, nm_r x5e (br_f (by decide) (br_f (by decide) (br_f (by decide) (br_f (by decide) (br_f (by decide) (br_f (by decide) (br_f (by decide) (br_f (by decide) (br_f (by decide) (br_t (by decide) (?_)))))))))))⟩⟩⟩⟩
    unfold wpX_putOnly
    refine bx_only (na := na) (by omega) (by omega) hna ena I1 I2 _ (fun c => ?_) (fun c => ?_)
    · have ez : z = 1 := by rcases hz' with q | q; exact q.1; exact absurd c q.2
      subst ez
      exact br_f (by decide) ⟨vQ, nm_r (e' := upd ou Q 1) (by rw [nI_clamp (by omega)]) (nm_r (nI_1 Q) (br_f (by decide) ⟨vf, vf, nm_r (e' := upd pt f (nI (i + 1))) (by rw [ef, ei, nI_1]) ⟨rfl, hp⟩⟩))⟩
    · have ez : z = 0 := by rcases hz' with q | q; exact absurd q.2 c; exact q.1
      subst ez
      exact br_t rfl ⟨vQ, nm_r (e' := upd ou Q 0) (by rw [nI_clamp (by omega)]) (nm_r (nI_1 Q) (br_f (by decide) ⟨vf, vf, nm_r (e' := upd pt f (nI (i + 1))) (by rw [ef, ei, nI_1]) ⟨rfl, hp⟩⟩))⟩
  · refine by_go hAB hf hk hAA hM (by omega) ena ei (by omega) post (fun z => by omega) (fun z => by omega) (fun z => by omega) (fun y hy => ?_)
    rw [eo]
    have vQ : vp_in (nI Q) 300 := vp_in_nI (by omega) (by omega)
    have eyz : y = z := by
      rcases hy with ⟨a, b⟩ | ⟨a, b⟩ <;> rcases hz' with ⟨c, d⟩ | ⟨c, d⟩
      · rw [a, c]
      · exact absurd b d
      · exact absurd d b
      · rw [a, c]
    subst eyz
    refine ⟨vf, nm_r (e' := upd pt f (nI (i + 1))) (by rw [ef]) (br_f (by decide) (br_t (by decide) (nm_r (nI_1 Q) ?_)))⟩
    rcases hy with ⟨a, _⟩ | ⟨a, _⟩
    · exact br_f (by rw [a]; decide) ⟨vQ, nm_r (e' := upd ou Q y) (by rw [nI_clamp (by omega), a]) hp⟩
    · exact br_t a ⟨vQ, nm_r (e' := upd ou Q y) (by rw [nI_clamp (by omega), a]) hp⟩
theorem bz_op9 (H : ap_OK p) (hAB : ap_AB p sA sB) (hA : ag_A p N P NY PY) (I : ag_I p sh (f + 1) M L E Q B 0 h lx lo al rf fX fY me pt va) (hB : B < 300) (em : me f = nI m) (ei : pt f = nI i) (hm : m < 4) (hiz : i < ap_Z p m)
    (hnd : sh = 1 → ∀ j, j < 6 → h (6 * f + j) ≠ 0 → ap_nd p m i j) (eo : ap_O p (16 * m + i) = 9) :
    ∃ (d' M' L' E' Q' g' : Nat) (r' oc' up' dn' : Int32) (h' lx' lo' al' rf' fX' fY' pe' td' ph' es' me' pt' va' ou' : Nat → Int32),
      ((r' = 1 ∧ oc' = -1 ∧ 1 ≤ d' ∧ g' = 0) ∨ (r' = 1 ∧ oc' = 0 ∧ d' = 0) ∨ (r' = 0 ∧ oc' = 1 ∧ d' = f + 1 ∧ g' = 0)) ∧ ag_I p sh d' M' L' E' Q' (B + 1) g' h' lx' lo' al' rf' fX' fY' me' pt' va' ∧
      (∀ post : Int32 → SX → Prop, post r' (nI Q', nI E', up', dn', nI (B + 1), nI L', nI M', nI g', nI d', sa, sh, ap_sz p, ap_L p, ap_oo p, ap_aA p, ap_aB p, ap_c p, N, P, K, R, me', pt', h', lx', va', rf', al', fX', pe', ou', es') → wpX_perform post (nI Q, nI E, up, dn, nI (B + 1), nI L, nI M, nI 0, nI (f + 1), sa, sh, ap_sz p, ap_L p, ap_oo p, ap_aA p, ap_aB p, ap_c p, N, P, K, R, me, pt, h, lx, va, rf, al, fX, pe, ou, es)) ∧
      (∀ post : SY → Prop, post (kn, nI M', nI L', up', dn', nI d', nI (B + 1), nI g', oc', sh, rn, nI Q', nI E', ap_oo p, sA, sB, ap_c p, ap_sz p, ap_L p, NY, PY, KY, va', fY', al', me', pt', h', lo', ou', es', td', ph') → wpY_carryOut post (kn, nI M, nI L, up, dn, nI (f + 1), nI (B + 1), nI 0, (-1), sh, rn, nI Q, nI E, ap_oo p, sA, sB, ap_c p, ap_sz p, ap_L p, NY, PY, KY, va, fY, al, me, pt, h, lo, ou, es, td, ph) (nI (6 * f)) (nI (16 * m + i))) := by
  obtain ⟨I1, I2, I3, I4, I5, I6, I7, I8⟩ := id I
  obtain ⟨hLc, hL24, hEL, hM, hd⟩ := I1.2.2.2.2.2.2.1
  have hL24' : L + 0 ≤ 24 := hL24
  have hz := H.2.1 m
  have hf : f < 6 := by omega
  have hi : i < 16 := by omega
  have hk : 16 * m + i < 64 := by omega
  have hI : vp_in (nI (16 * m + i)) 64 := vp_in_nI hk (by omega)
  have ek : (nI (16 * m + i)).toNatClampNeg = 16 * m + i := nI_clamp (by omega)
  have h14 := H.1 (16 * m + i)
  have hAA := h14.2.1
  have hBB := h14.2.2.1
  have vf : vp_in (nI f) 6 := vp_in_nI hf (by omega)
  have ef : (nI f).toNatClampNeg = f := nI_clamp (by omega)
  have x1e : nI (f + 1) - 1 = nI f := nI_pred f
  have x2e : me (nI f).toNatClampNeg * 16 + pt (nI f).toNatClampNeg = nI (16 * m + i) := by rw [ef, em, ei, ap_xk]
  have f6 : nI f * 6 = nI (6 * f) := by
    have : nI f * 6 = nI (f * 6) := pk_mul f 6
    rw [this, Nat.mul_comm]
  have x3e : nI f * 6 + ap_aA p (nI (16 * m + i)).toNatClampNeg = nI (6 * f + ap_A p (16 * m + i)) := by rw [ap_aAk p hk, f6, nI_add]
  have x4e : nI f * 6 + ap_aB p (nI (16 * m + i)).toNatClampNeg = nI (6 * f + ap_B p (16 * m + i)) := by rw [ap_aBk p hk, f6, nI_add]
  have x5e : ap_oo p (nI (16 * m + i)).toNatClampNeg = (9 : Int32) := by rw [ap_ook p hk, eo]; rfl
  obtain ⟨na, hna, ena⟩ := I1.2.2.2.1 (6 * f + ap_A p (16 * m + i)) (by omega)
  obtain ⟨nb, hnb, enb⟩ := I1.2.2.2.1 (6 * f + ap_B p (16 * m + i)) (by omega)
  have va36 : vp_in (nI (6 * f + ap_A p (16 * m + i))) 36 := vp_in_nI (by omega) (by omega)
  have vb36 : vp_in (nI (6 * f + ap_B p (16 * m + i))) 36 := vp_in_nI (by omega) (by omega)
  have eka : (nI (6 * f + ap_A p (16 * m + i))).toNatClampNeg = 6 * f + ap_A p (16 * m + i) := nI_clamp (by omega)
  have ekb : (nI (6 * f + ap_B p (16 * m + i))).toNatClampNeg = 6 * f + ap_B p (16 * m + i) := nI_clamp (by omega)
  have eP : P (16 * m + i) = PY (16 * m + i) := ap_Pl_u ((hA m hm).2.1 i hiz) ((hA m hm).2.2.2 i hiz)
  have eg : ∀ x : Nat, (if nI x = 0 then (0 : Int32) else 0) = 0 := fun x => by split <;> rfl
  have on : ap_on p (16 * m + i) := ⟨by omega, by omega, by omega⟩
  have scn : i + 1 < ap_Z p m → ap_sc p m i (i + 1) := fun z => ⟨z, Or.inl ⟨on, rfl⟩⟩
  obtain ⟨ec, lc⟩ := h14.2.2.2.2.1 (Or.inl eo)
  have scj : ap_C p (16 * m + i) < ap_Z p m → ap_sc p m i (ap_C p (16 * m + i)) := fun z => ⟨z, Or.inr ⟨Or.inl eo, rfl⟩⟩
  have Yc : ∀ (post : SY → Prop) (s : Nat), (na = 0 ∧ s = ap_C p (16 * m + i) ∨ 1 ≤ na ∧ s = i + 1) → post (kn, nI M, nI L, up, dn, nI (f + 1), nI (B + 1), nI 0, (-1), sh, rn, nI Q, nI E, ap_oo p, sA, sB, ap_c p, ap_sz p, ap_L p, NY, PY, KY, va, fY, al, me, upd pt f (nI s), h, lo, ou, es, td, ph) → wpY_carryOut post (kn, nI M, nI L, up, dn, nI (f + 1), nI (B + 1), nI 0, (-1), sh, rn, nI Q, nI E, ap_oo p, sA, sB, ap_c p, ap_sz p, ap_L p, NY, PY, KY, va, fY, al, me, pt, h, lo, ou, es, td, ph) (nI (6 * f)) (nI (16 * m + i)) := by
    intro post s hs hp
    refine by_pre hAB hf hk hAA (by omega) (by omega) (by omega) post ?_
    rw [ena, eo]
    refine by_58 (by omega) post _ _ _ _ _ (fun z => by omega) (fun z => by omega) (fun z => by omega) (fun z => by omega) (by_134 hM (by omega) (by omega) (by omega) post _ _ _ _ _ (fun z _ => ?_))
    have tail : wY_carryOut_294 post (nI (16 * m + i)) (nI 9) (nI (6 * f + ap_A p (16 * m + i))) (nI (6 * f) + sB (16 * m + i)) (ap_c p (16 * m + i)) (nI na) z (nI s) (nI f) kn (nI M) (nI L) up dn (nI (f + 1)) (nI (B + 1)) (nI 0) (-1) sh rn (nI Q) (nI E) (ap_oo p) sA sB (ap_c p) (ap_sz p) (ap_L p) NY PY KY va fY al me pt h lo ou es td ph :=
      ⟨vf, nm_r (e' := upd pt f (nI s)) (by rw [ef]) (br_f (by decide) (br_f (by decide) (br_f (by decide) (br_f (by decide) (br_t (by decide) hp)))))⟩
    refine br_f (by decide) (br_t rfl (br_f (by decide) (br_f (by decide) (br_f (by decide) (br_f (by decide) (br_t (by decide) ?_))))))
    rcases hs with ⟨e, es'⟩ | ⟨e, es'⟩
    · subst e
      refine br_t rfl ?_
      rw [es', ← ec] at tail
      unfold wY_carryOut_276
      rw [nI_pred]
      exact tail
    · refine br_f (nI_ne0 (by omega) (by omega)) ?_
      unfold wY_carryOut_281
      rw [nI_pred, nI_clamp (n := f) (by omega), ei, nI_1]
      rw [es'] at tail
      exact ⟨vf, tail⟩
  by_cases n0 : na = 0
  · refine ⟨f + 1, M, L, E, Q, 0, 1, -1, up, dn, h, lx, lo, al, rf, fX, fY, pe, td, ph, es, me, upd pt f (nI (ap_C p (16 * m + i))), va, ou, Or.inl ⟨rfl, rfl, by omega, rfl⟩,
      ⟨I1, I2, I3, by omega, by omega, by omega, by omega, ag_F_pc I8 em ei hm hi (ag_ne I2) hnd hiz (by omega) scj⟩, fun post hp => ?_, fun post hp => Yc post _ (Or.inl ⟨n0, rfl⟩) hp⟩
    exact nm_r x1e ⟨vf, vf, nm_r x2e ⟨hI, nm_r x3e ⟨hI, nm_r x4e ⟨hI, nm_r x5e (br_f (by decide) (br_f (by decide) (br_f (by decide) (br_f (by decide) (br_f (by decide) (br_f (by decide) (br_f (by decide) (br_f (by decide) (br_f (by decide) (br_f (by decide) (br_f (by decide) (br_t (by decide) (⟨va36, br_t (by rw [eka, ena, n0]; rfl) ⟨hI, vf, nm_r (e' := upd pt f (nI (ap_C p (16 * m + i)))) (by rw [ef, ap_ck p hk, ec]) hp⟩⟩)))))))))))))⟩⟩⟩⟩
  · refine ⟨f + 1, M, L, E, Q, 0, 1, -1, up, dn, h, lx, lo, al, rf, fX, fY, pe, td, ph, es, me, upd pt f (nI (i + 1)), va, ou, Or.inl ⟨rfl, rfl, by omega, rfl⟩,
      ⟨I1, I2, I3, by omega, by omega, by omega, by omega, ag_F_pc I8 em ei hm hi (ag_ne I2) hnd hiz (by omega) scn⟩, fun post hp => ?_, fun post hp => Yc post _ (Or.inr ⟨by omega, rfl⟩) hp⟩
    exact nm_r x1e ⟨vf, vf, nm_r x2e ⟨hI, nm_r x3e ⟨hI, nm_r x4e ⟨hI, nm_r x5e (br_f (by decide) (br_f (by decide) (br_f (by decide) (br_f (by decide) (br_f (by decide) (br_f (by decide) (br_f (by decide) (br_f (by decide) (br_f (by decide) (br_f (by decide) (br_f (by decide) (br_t (by decide) (⟨va36, br_f (by rw [eka, ena]; exact nI_ne0 (by omega) (by omega)) ⟨vf, vf, nm_r (e' := upd pt f (nI (i + 1))) (by rw [ef, ei, nI_1]) hp⟩⟩)))))))))))))⟩⟩⟩⟩
theorem bz_op10 (H : ap_OK p) (hAB : ap_AB p sA sB) (hA : ag_A p N P NY PY) (I : ag_I p sh (f + 1) M L E Q B 0 h lx lo al rf fX fY me pt va) (hB : B < 300) (em : me f = nI m) (ei : pt f = nI i) (hm : m < 4) (hiz : i < ap_Z p m)
    (hnd : sh = 1 → ∀ j, j < 6 → h (6 * f + j) ≠ 0 → ap_nd p m i j) (eo : ap_O p (16 * m + i) = 10) :
    ∃ (d' M' L' E' Q' g' : Nat) (r' oc' up' dn' : Int32) (h' lx' lo' al' rf' fX' fY' pe' td' ph' es' me' pt' va' ou' : Nat → Int32),
      ((r' = 1 ∧ oc' = -1 ∧ 1 ≤ d' ∧ g' = 0) ∨ (r' = 1 ∧ oc' = 0 ∧ d' = 0) ∨ (r' = 0 ∧ oc' = 1 ∧ d' = f + 1 ∧ g' = 0)) ∧ ag_I p sh d' M' L' E' Q' (B + 1) g' h' lx' lo' al' rf' fX' fY' me' pt' va' ∧
      (∀ post : Int32 → SX → Prop, post r' (nI Q', nI E', up', dn', nI (B + 1), nI L', nI M', nI g', nI d', sa, sh, ap_sz p, ap_L p, ap_oo p, ap_aA p, ap_aB p, ap_c p, N, P, K, R, me', pt', h', lx', va', rf', al', fX', pe', ou', es') → wpX_perform post (nI Q, nI E, up, dn, nI (B + 1), nI L, nI M, nI 0, nI (f + 1), sa, sh, ap_sz p, ap_L p, ap_oo p, ap_aA p, ap_aB p, ap_c p, N, P, K, R, me, pt, h, lx, va, rf, al, fX, pe, ou, es)) ∧
      (∀ post : SY → Prop, post (kn, nI M', nI L', up', dn', nI d', nI (B + 1), nI g', oc', sh, rn, nI Q', nI E', ap_oo p, sA, sB, ap_c p, ap_sz p, ap_L p, NY, PY, KY, va', fY', al', me', pt', h', lo', ou', es', td', ph') → wpY_carryOut post (kn, nI M, nI L, up, dn, nI (f + 1), nI (B + 1), nI 0, (-1), sh, rn, nI Q, nI E, ap_oo p, sA, sB, ap_c p, ap_sz p, ap_L p, NY, PY, KY, va, fY, al, me, pt, h, lo, ou, es, td, ph) (nI (6 * f)) (nI (16 * m + i))) := by
  obtain ⟨I1, I2, I3, I4, I5, I6, I7, I8⟩ := id I
  obtain ⟨hLc, hL24, hEL, hM, hd⟩ := I1.2.2.2.2.2.2.1
  have hL24' : L + 0 ≤ 24 := hL24
  have hz := H.2.1 m
  have hf : f < 6 := by omega
  have hi : i < 16 := by omega
  have hk : 16 * m + i < 64 := by omega
  have hI : vp_in (nI (16 * m + i)) 64 := vp_in_nI hk (by omega)
  have ek : (nI (16 * m + i)).toNatClampNeg = 16 * m + i := nI_clamp (by omega)
  have h14 := H.1 (16 * m + i)
  have hAA := h14.2.1
  have hBB := h14.2.2.1
  have vf : vp_in (nI f) 6 := vp_in_nI hf (by omega)
  have ef : (nI f).toNatClampNeg = f := nI_clamp (by omega)
  have x1e : nI (f + 1) - 1 = nI f := nI_pred f
  have x2e : me (nI f).toNatClampNeg * 16 + pt (nI f).toNatClampNeg = nI (16 * m + i) := by rw [ef, em, ei, ap_xk]
  have f6 : nI f * 6 = nI (6 * f) := by
    have : nI f * 6 = nI (f * 6) := pk_mul f 6
    rw [this, Nat.mul_comm]
  have x3e : nI f * 6 + ap_aA p (nI (16 * m + i)).toNatClampNeg = nI (6 * f + ap_A p (16 * m + i)) := by rw [ap_aAk p hk, f6, nI_add]
  have x4e : nI f * 6 + ap_aB p (nI (16 * m + i)).toNatClampNeg = nI (6 * f + ap_B p (16 * m + i)) := by rw [ap_aBk p hk, f6, nI_add]
  have x5e : ap_oo p (nI (16 * m + i)).toNatClampNeg = (10 : Int32) := by rw [ap_ook p hk, eo]; rfl
  obtain ⟨na, hna, ena⟩ := I1.2.2.2.1 (6 * f + ap_A p (16 * m + i)) (by omega)
  obtain ⟨nb, hnb, enb⟩ := I1.2.2.2.1 (6 * f + ap_B p (16 * m + i)) (by omega)
  have va36 : vp_in (nI (6 * f + ap_A p (16 * m + i))) 36 := vp_in_nI (by omega) (by omega)
  have vb36 : vp_in (nI (6 * f + ap_B p (16 * m + i))) 36 := vp_in_nI (by omega) (by omega)
  have eka : (nI (6 * f + ap_A p (16 * m + i))).toNatClampNeg = 6 * f + ap_A p (16 * m + i) := nI_clamp (by omega)
  have ekb : (nI (6 * f + ap_B p (16 * m + i))).toNatClampNeg = 6 * f + ap_B p (16 * m + i) := nI_clamp (by omega)
  have eP : P (16 * m + i) = PY (16 * m + i) := ap_Pl_u ((hA m hm).2.1 i hiz) ((hA m hm).2.2.2 i hiz)
  have eg : ∀ x : Nat, (if nI x = 0 then (0 : Int32) else 0) = 0 := fun x => by split <;> rfl
  obtain ⟨ec, lc⟩ := h14.2.2.2.2.1 (Or.inr eo)
  have scj : ap_C p (16 * m + i) < ap_Z p m → ap_sc p m i (ap_C p (16 * m + i)) := fun z => ⟨z, Or.inr ⟨Or.inr eo, rfl⟩⟩
  refine ⟨f + 1, M, L, E, Q, 0, 1, -1, up, dn, h, lx, lo, al, rf, fX, fY, pe, td, ph, es, me, upd pt f (nI (ap_C p (16 * m + i))), va, ou, Or.inl ⟨rfl, rfl, by omega, rfl⟩,
    ⟨I1, I2, I3, by omega, by omega, by omega, by omega, ag_F_pc I8 em ei hm hi (ag_ne I2) hnd hiz (by omega) scj⟩, fun post hp => ?_, fun post hp => ?_⟩
  · exact nm_r x1e ⟨vf, vf, nm_r x2e ⟨hI, nm_r x3e ⟨hI, nm_r x4e ⟨hI, nm_r x5e (br_f (by decide) (br_f (by decide) (br_f (by decide) (br_f (by decide) (br_f (by decide) (br_f (by decide) (br_f (by decide) (br_f (by decide) (br_f (by decide) (br_f (by decide) (br_f (by decide) (br_f (by decide) (br_t (by decide) (⟨hI, vf, nm_r (e' := upd pt f (nI (ap_C p (16 * m + i)))) (by rw [ef, ap_ck p hk, ec]) hp⟩))))))))))))))⟩⟩⟩⟩
  · refine ⟨hI, nm_r x5e ⟨hI, nm_e ⟨hI, nm_e ⟨hI, nm_r (ap_ck p hk) (br_t (by decide) (br_f (by decide) (br_f (by decide) (br_f (by decide) (br_f (by decide) (br_f (by decide) (br_t (by decide) (br_f (by decide) (br_t rfl (br_f (by decide) (br_f (by decide) (br_f (by decide) (br_t (by decide) ?_)))))))))))))⟩⟩⟩⟩
    unfold wY_carryOut_276
    rw [nI_pred]
    exact ⟨vf, nm_r (e' := upd pt f (nI (ap_C p (16 * m + i)))) (by rw [ef, ec]) (br_f (by decide) (br_f (by decide) (br_f (by decide) (br_f (by decide) (br_t (by decide) hp)))))⟩
end
end
section
section
variable {e : Nat} {g : Int32} {h lo : Nat → Int32} {d M : Nat} {al rf fX fY : Nat → Int32} {L E : Nat}
/-- a field of q, empty yet, gets what is counted for it -/
theorem ac_cpy {q j y : Nat} (I : ac_MI e [] g h lo d M al rf fX fY L E) (q1 : 1 ≤ q) (q2 : q ≤ M) (hq : al q = 1) (hj : j < 2) (hy : y ≤ M) (ay : 1 ≤ y → al y = 1) (ey : fY (3 * q + j) = 0) :
    ac_MI e [] g h lo d M al (if y = 0 then rf else upd rf y (rf y + 1)) (upd fX (3 * q + j) (nI y)) (upd fY (3 * q + j) (nI y)) L E := by
  by_cases c : y = 0
  · subst c
    have e1 : fX (3 * q + j) = 0 := (ac_fld I q1 q2 hq (by omega)).trans ey
    rw [if_pos rfl, ad_updS fX _ (nI 0) e1, ad_updS fY _ (nI 0) ey]
    exact I
  · rw [if_neg c]
    exact ac_put0 I q1 q2 hq hj (by omega) hy (ay (by omega)) ey
end
section
variable {p : ap_T} {kn po en up dn bg lv md gX gY dp sa sh oc rn : Int32} {sA sB N P K R NY PY KY me pt h lx lo va rf al fX fY pe ou es td ph : Nat → Int32}
variable {f m i M L E Q B d : Nat}
theorem bz_op3 (H : ap_OK p) (hAB : ap_AB p sA sB) (hA : ag_A p N P NY PY) (I : ag_I p sh (f + 1) M L E Q B 0 h lx lo al rf fX fY me pt va) (hB : B < 300) (em : me f = nI m) (ei : pt f = nI i) (hm : m < 4) (hiz : i < ap_Z p m)
    (hnd : sh = 1 → ∀ j, j < 6 → h (6 * f + j) ≠ 0 → ap_nd p m i j) (eo : ap_O p (16 * m + i) = 3) :
    ∃ (d' M' L' E' Q' g' : Nat) (r' oc' up' dn' : Int32) (h' lx' lo' al' rf' fX' fY' pe' td' ph' es' me' pt' va' ou' : Nat → Int32),
      ((r' = 1 ∧ oc' = -1 ∧ 1 ≤ d' ∧ g' = 0) ∨ (r' = 1 ∧ oc' = 0 ∧ d' = 0) ∨ (r' = 0 ∧ oc' = 1 ∧ d' = f + 1 ∧ g' = 0)) ∧ ag_I p sh d' M' L' E' Q' (B + 1) g' h' lx' lo' al' rf' fX' fY' me' pt' va' ∧
      (∀ post : Int32 → SX → Prop, post r' (nI Q', nI E', up', dn', nI (B + 1), nI L', nI M', nI g', nI d', sa, sh, ap_sz p, ap_L p, ap_oo p, ap_aA p, ap_aB p, ap_c p, N, P, K, R, me', pt', h', lx', va', rf', al', fX', pe', ou', es') → wpX_perform post (nI Q, nI E, up, dn, nI (B + 1), nI L, nI M, nI 0, nI (f + 1), sa, sh, ap_sz p, ap_L p, ap_oo p, ap_aA p, ap_aB p, ap_c p, N, P, K, R, me, pt, h, lx, va, rf, al, fX, pe, ou, es)) ∧
      (∀ post : SY → Prop, post (kn, nI M', nI L', up', dn', nI d', nI (B + 1), nI g', oc', sh, rn, nI Q', nI E', ap_oo p, sA, sB, ap_c p, ap_sz p, ap_L p, NY, PY, KY, va', fY', al', me', pt', h', lo', ou', es', td', ph') → wpY_carryOut post (kn, nI M, nI L, up, dn, nI (f + 1), nI (B + 1), nI 0, (-1), sh, rn, nI Q, nI E, ap_oo p, sA, sB, ap_c p, ap_sz p, ap_L p, NY, PY, KY, va, fY, al, me, pt, h, lo, ou, es, td, ph) (nI (6 * f)) (nI (16 * m + i))) := by
  obtain ⟨I1, I2, I3, I4, I5, I6, I7, I8⟩ := id I
  obtain ⟨hLc, hL24, hEL, hM, hd⟩ := I1.2.2.2.2.2.2.1
  have hL24' : L + 0 ≤ 24 := hL24
  have hz := H.2.1 m
  have hf : f < 6 := by omega
  have hi : i < 16 := by omega
  have hk : 16 * m + i < 64 := by omega
  have hI : vp_in (nI (16 * m + i)) 64 := vp_in_nI hk (by omega)
  have ek : (nI (16 * m + i)).toNatClampNeg = 16 * m + i := nI_clamp (by omega)
  have h14 := H.1 (16 * m + i)
  have hAA := h14.2.1
  have hBB := h14.2.2.1
  have vf : vp_in (nI f) 6 := vp_in_nI hf (by omega)
  have ef : (nI f).toNatClampNeg = f := nI_clamp (by omega)
  have x1e : nI (f + 1) - 1 = nI f := nI_pred f
  have x2e : me (nI f).toNatClampNeg * 16 + pt (nI f).toNatClampNeg = nI (16 * m + i) := by rw [ef, em, ei, ap_xk]
  have f6 : nI f * 6 = nI (6 * f) := by
    have : nI f * 6 = nI (f * 6) := pk_mul f 6
    rw [this, Nat.mul_comm]
  have x3e : nI f * 6 + ap_aA p (nI (16 * m + i)).toNatClampNeg = nI (6 * f + ap_A p (16 * m + i)) := by rw [ap_aAk p hk, f6, nI_add]
  have x4e : nI f * 6 + ap_aB p (nI (16 * m + i)).toNatClampNeg = nI (6 * f + ap_B p (16 * m + i)) := by rw [ap_aBk p hk, f6, nI_add]
  have x5e : ap_oo p (nI (16 * m + i)).toNatClampNeg = (3 : Int32) := by rw [ap_ook p hk, eo]; rfl
  obtain ⟨na, hna, ena⟩ := I1.2.2.2.1 (6 * f + ap_A p (16 * m + i)) (by omega)
  obtain ⟨nb, hnb, enb⟩ := I1.2.2.2.1 (6 * f + ap_B p (16 * m + i)) (by omega)
  have va36 : vp_in (nI (6 * f + ap_A p (16 * m + i))) 36 := vp_in_nI (by omega) (by omega)
  have vb36 : vp_in (nI (6 * f + ap_B p (16 * m + i))) 36 := vp_in_nI (by omega) (by omega)
  have eka : (nI (6 * f + ap_A p (16 * m + i))).toNatClampNeg = 6 * f + ap_A p (16 * m + i) := nI_clamp (by omega)
  have ekb : (nI (6 * f + ap_B p (16 * m + i))).toNatClampNeg = 6 * f + ap_B p (16 * m + i) := nI_clamp (by omega)
  have eP : P (16 * m + i) = PY (16 * m + i) := ap_Pl_u ((hA m hm).2.1 i hiz) ((hA m hm).2.2.2 i hiz)
  have eg : ∀ x : Nat, (if nI x = 0 then (0 : Int32) else 0) = 0 := fun x => by split <;> rfl
  have on : ap_on p (16 * m + i) := ⟨by omega, by omega, by omega⟩
  have scn : i + 1 < ap_Z p m → ap_sc p m i (i + 1) := fun z => ⟨z, Or.inl ⟨on, rfl⟩⟩
  have y5e : nI (6 * f) + sB (16 * m + i) = nI (6 * f + ap_B p (16 * m + i)) := by rw [(hAB (16 * m + i)).2 (by omega), nI_add]
  have nal : ¬ ap_al p (16 * m + i) := fun z => by unfold ap_al at z; omega
  have alA := ag_alive (n := na) I1 I8 em ei hm hi hnd hiz nal hAA ena hna
  have alB := ag_alive (n := nb) I1 I8 em ei hm hi hnd hiz nal hBB enb hnb
  obtain ⟨ec, lc⟩ := h14.2.2.2.1 (Or.inl eo)
  by_cases n0 : nb = 0
  · subst n0
    refine ⟨f + 1, M, L, E, Q, 0, 0, 1, up, dn, h, lx, lo, al, rf, fX, fY, pe, td, ph, es, me, pt, va, ou, Or.inr (Or.inr ⟨rfl, rfl, rfl, rfl⟩), ⟨I1, I2, I3, by omega, by omega, by omega, I7, I8⟩, fun post hp => ?_, fun post hp => ?_⟩
    · exact nm_r x1e ⟨vf, vf, nm_r x2e ⟨hI, nm_r x3e ⟨hI, nm_r x4e ⟨hI, nm_r x5e (br_f (by decide) (br_f (by decide) (br_f (by decide) (br_f (by decide) (br_f (by decide) (br_t (by decide) (⟨vb36, br_t (by rw [ekb]; exact enb) (br_t rfl ⟨rfl, hp⟩)⟩)))))))⟩⟩⟩⟩
    · exact by_fail hAB hf hk hAA hM (by omega) (by omega) ena (by omega) (by omega) (by omega) (by omega) post (Or.inr (Or.inr (Or.inl ⟨eo, by rw [y5e]; exact vb36, by rw [y5e, ekb]; exact enb⟩))) hp
  · have b1 : 1 ≤ nb := by omega
    have nn0 : ¬ nI nb = 0 := nI_ne0 b1 (by omega)
    obtain ⟨x, hx, ex⟩ := I1.2.1 nb b1 hnb (ap_C p (16 * m + i)) lc
    have exX : fX (3 * nb + ap_C p (16 * m + i)) = nI x := (ac_fld I1 b1 hnb (alB b1) lc).trans ex
    have alX : 1 ≤ x → al x = 1 := fun z => ac_al_F3 I1 z hx b1 hnb (alB b1) lc ex
    have ixX : nI nb * 3 + nI (ap_C p (16 * m + i)) = nI (3 * nb + ap_C p (16 * m + i)) := by
      have : nI nb * 3 = nI (nb * 3) := pk_mul nb 3
      rw [this, nI_add, Nat.mul_comm]
    have ixY : 3 * nI nb + nI (ap_C p (16 * m + i)) = nI (3 * nb + ap_C p (16 * m + i)) := by
      have : 3 * nI nb = nI (3 * nb) := pk_mul 3 nb
      rw [this, nI_add]
    have vix : vp_in (nI (3 * nb + ap_C p (16 * m + i))) 903 := vp_in_nI (by omega) (by omega)
    have eix : (nI (3 * nb + ap_C p (16 * m + i))).toNatClampNeg = 3 * nb + ap_C p (16 * m + i) := nI_clamp (by omega)
    -- the walks of both sides to the place where the variable gets it
    have Xw : ∀ (post : Int32 → SX → Prop) (z : Int32), ((z = 1 ∧ sh ≠ 0 ∧ P (16 * m + i) = 1) ∨ (z = 0 ∧ ¬ (sh ≠ 0 ∧ P (16 * m + i) = 1))) → wX_getField_55 post (nI (6 * f + ap_A p (16 * m + i))) (nI x) z (nI Q) (nI E) up dn (nI (B + 1)) (nI L) (nI M) (nI 0) (nI (f + 1)) sa sh (ap_sz p) (ap_L p) (ap_oo p) (ap_aA p) (ap_aB p) (ap_c p) N P K R me pt h lx va rf al fX pe ou es → wpX_getField post (nI Q, nI E, up, dn, nI (B + 1), nI L, nI M, nI 0, nI (f + 1), sa, sh, ap_sz p, ap_L p, ap_oo p, ap_aA p, ap_aB p, ap_c p, N, P, K, R, me, pt, h, lx, va, rf, al, fX, pe, ou, es) (nI (16 * m + i)) (nI (6 * f + ap_A p (16 * m + i))) (nI (6 * f + ap_B p (16 * m + i))) := by
      intro post z hz2 K
      refine ⟨vb36, ?_⟩
      rw [ekb, enb, ap_ck p hk, ec, ixX]
      refine br_f nn0 ⟨vb36, hI, vix, nm_r (e' := nI x) (by rw [eix]; exact exX) ?_⟩
      rcases hz2 with ⟨a, b, c⟩ | ⟨a, b⟩
      · subst a
        exact br_f b ⟨hI, br_t (by rw [ek]; exact c) K⟩
      · subst a
        by_cases s0 : sh = 0
        · exact br_t s0 K
        · exact br_f s0 ⟨hI, br_f (by rw [ek]; exact fun q => b ⟨s0, q⟩) K⟩
    have Yw : ∀ (post : SY → Prop) (z : Int32), ((z = 1 ∧ sh ≠ 0 ∧ P (16 * m + i) = 1) ∨ (z = 0 ∧ ¬ (sh ≠ 0 ∧ P (16 * m + i) = 1))) → ((z = 0 → wpY_more (fun r u => wpY_get post u (nI (6 * f + ap_A p (16 * m + i))) (nI x) z) (kn, nI M, nI L, up, dn, nI (f + 1), nI (B + 1), nI 0, (-1), sh, rn, nI Q, nI E, ap_oo p, sA, sB, ap_c p, ap_sz p, ap_L p, NY, PY, KY, va, fY, al, me, upd pt f (nI (i + 1)), h, lo, ou, es, td, ph) (nI x)) ∧ (¬ z = 0 → wpY_get post (kn, nI M, nI L, up, dn, nI (f + 1), nI (B + 1), nI 0, (-1), sh, rn, nI Q, nI E, ap_oo p, sA, sB, ap_c p, ap_sz p, ap_L p, NY, PY, KY, va, fY, al, me, upd pt f (nI (i + 1)), h, lo, ou, es, td, ph) (nI (6 * f + ap_A p (16 * m + i))) (nI x) z)) → wpY_carryOut post (kn, nI M, nI L, up, dn, nI (f + 1), nI (B + 1), nI 0, (-1), sh, rn, nI Q, nI E, ap_oo p, sA, sB, ap_c p, ap_sz p, ap_L p, NY, PY, KY, va, fY, al, me, pt, h, lo, ou, es, td, ph) (nI (6 * f)) (nI (16 * m + i)) := by
      intro post z hz2 K
      refine by_go hAB hf hk hAA hM (by omega) ena ei (by omega) post (fun z => by omega) (fun z => by omega) (fun z => by rw [y5e, ekb, enb]; exact ⟨vb36, nn0⟩) (fun y _ => ?_)
      rw [eo, y5e, ec]
      refine ⟨vf, nm_r (e' := upd pt f (nI (i + 1))) (by rw [ef]) (br_f (by decide) (br_f (by decide) (br_f (by decide) (br_f (by decide) (br_f (by decide) (br_f (by decide) (br_f (by decide) (br_f (by decide) (br_f (by decide) (br_f (by decide) (br_t (by decide) ?_)))))))))))⟩
      have body : wY_change_103 post (nI (6 * f + ap_A p (16 * m + i))) (nI (6 * f + ap_B p (16 * m + i))) (nI (ap_C p (16 * m + i))) z kn (nI M) (nI L) up dn (nI (f + 1)) (nI (B + 1)) (nI 0) (-1) sh rn (nI Q) (nI E) (ap_oo p) sA sB (ap_c p) (ap_sz p) (ap_L p) NY PY KY va fY al me (upd pt f (nI (i + 1))) h lo ou es td ph := by
        refine ⟨vb36, ?_⟩
        rw [ekb, enb, ixY]
        refine ⟨vix, nm_r (e' := nI x) (by rw [eix]; exact ex) ?_⟩
        by_cases z0 : z = 0
        · refine br_t z0 ?_
          exact K.1 z0
        · exact br_f z0 (K.2 z0)
      rcases hz2 with ⟨a, b, c⟩ | ⟨a, b⟩
      · subst a
        exact br_f b ⟨hI, br_t (by rw [ek, ← eP]; exact c) body⟩
      · subst a
        by_cases s0 : sh = 0
        · exact br_t s0 body
        · exact br_f s0 ⟨hI, br_f (by rw [ek, ← eP]; exact fun q => b ⟨s0, q⟩) body⟩
    by_cases lent : sh ≠ 0 ∧ P (16 * m + i) = 1
    · obtain ⟨al', rf', fX', fY', pe', td', ph', es', L', E', dn', K1, K2, K3, K4⟩ := bz_fill (p := p) (po := nI Q) (up := up) (bg := nI (B + 1)) (gX := nI 0) (sa := sa) (sh := sh) (N := N) (P := P) (K := K) (R := R) (me := me) (h := h) (lx := lx) (va := va) (ou := ou) (kn := kn) (gY := nI 0) (oc := (-1)) (rn := rn) (lo := lo) (sA := sA) (sB := sB) (NY := NY) (PY := PY) (KY := KY) (dn := dn) (pe := pe) (td := td) (ph := ph) (es := es) (v := 6 * f + ap_A p (16 * m + i)) (x := x) (b := 1) (by rw [if_neg (by decide)]; exact I1) (by omega) hx I2 (Or.inr rfl)
      refine ⟨f + 1, M, L', E', Q, 0, 1, -1, up, dn', _, _, _, al', rf', fX', fY', pe', td', ph', es', me, upd pt f (nI (i + 1)), va, ou, Or.inl ⟨rfl, rfl, by omega, rfl⟩,
        ⟨K1, K2, I3, by omega, by omega, by omega, by omega, ag_F_top I8 em ei hm hi (ag_ne I2) hnd hiz (by omega) scn _ _ (fun w hw => by rw [pk_un (by omega), pk_un (by omega)]; exact ⟨rfl, rfl⟩) (fun j hj => ?_)⟩, fun post hp => ?_, fun post hp => ?_⟩
      · by_cases c : j = ap_A p (16 * m + i)
        · subst c
          exact Or.inr (Or.inr ⟨lent.1, fun z => ap_LR_0 ((ap_Pl_1 ((hA m hm).2.1 i hiz)).mp lent.2) (scn z)⟩)
        · rw [pk_un (by omega), pk_un (by omega)]; exact Or.inl ⟨rfl, rfl⟩
      · exact nm_r x1e ⟨vf, vf, nm_r x2e ⟨hI, nm_r x3e ⟨hI, nm_r x4e ⟨hI, nm_r x5e (br_f (by decide) (br_f (by decide) (br_f (by decide) (br_f (by decide) (br_f (by decide) (br_t (by decide) (Xw _ 1 (Or.inl ⟨rfl, lent⟩) (br_f (by decide) (K3 pt _ (br_f (by decide) ⟨vf, vf, nm_r (e' := upd pt f (nI (i + 1))) (by rw [ef, ei, nI_1]) ⟨rfl, hp⟩⟩))))))))))⟩⟩⟩⟩
      · exact Yw post 1 (Or.inl ⟨rfl, lent⟩) ⟨fun z => absurd z (by decide), fun _ => K4 _ post hp⟩
    · have Iu : ac_MI x [] (nI 0) h lo (f + 1) M al (if x = 0 then rf else upd rf x (rf x + 1)) fX fY L E := by
        by_cases c3 : x = 0
        · subst c3; rw [if_pos rfl]; exact I1
        · rw [if_neg c3]; exact ac_up I1 (by omega) hx (alX (by omega))
      obtain ⟨al', rf', fX', fY', pe', td', ph', es', L', E', dn', K1, K2, K3, K4⟩ := bz_fill (p := p) (po := nI Q) (up := if x = 0 then up else up + 1) (bg := nI (B + 1)) (gX := nI 0) (sa := sa) (sh := sh) (N := N) (P := P) (K := K) (R := R) (me := me) (h := h) (lx := lx) (va := va) (ou := ou) (kn := kn) (gY := nI 0) (oc := (-1)) (rn := rn) (lo := lo) (sA := sA) (sB := sB) (NY := NY) (PY := PY) (KY := KY) (dn := dn) (pe := pe) (td := td) (ph := ph) (es := es) (v := 6 * f + ap_A p (16 * m + i)) (x := x) (b := 0) (by rw [if_pos rfl]; exact Iu) (by omega) hx I2 (Or.inl rfl)
      rw [eg] at K1 K2 K4
      refine ⟨f + 1, M, L', E', Q, 0, 1, -1, if x = 0 then up else up + 1, dn', _, _, _, al', rf', fX', fY', pe', td', ph', es', me, upd pt f (nI (i + 1)), va, ou, Or.inl ⟨rfl, rfl, by omega, rfl⟩,
        ⟨K1, K2, I3, by omega, by omega, by omega, by omega, ag_F_set (b := ap_A p (16 * m + i)) I8 em ei hm hi (ag_ne I2) hnd hiz (by omega) scn _ (fun _ _ => rfl) (Or.inl rfl)⟩, fun post hp => ?_, fun post hp => ?_⟩
      · refine nm_r x1e ⟨vf, vf, nm_r x2e ⟨hI, nm_r x3e ⟨hI, nm_r x4e ⟨hI, nm_r x5e (br_f (by decide) (br_f (by decide) (br_f (by decide) (br_f (by decide) (br_f (by decide) (br_t (by decide) (Xw _ 0 (Or.inr ⟨rfl, lent⟩) (br_t rfl (bx_up (by omega) _ (fun c => ?_) (fun c => ?_))))))))))⟩⟩⟩⟩
        · rw [if_pos c, if_pos c] at K3
          rw [if_pos c] at hp
          exact K3 pt _ (br_f (by decide) ⟨vf, vf, nm_r (e' := upd pt f (nI (i + 1))) (by rw [ef, ei, nI_1]) ⟨rfl, hp⟩⟩)
        · rw [if_neg (by omega), if_neg (by omega)] at K3
          rw [if_neg (by omega)] at hp
          exact K3 pt _ (br_f (by decide) ⟨vf, vf, nm_r (e' := upd pt f (nI (i + 1))) (by rw [ef, ei, nI_1]) ⟨rfl, hp⟩⟩)
      · refine Yw post 0 (Or.inr ⟨rfl, lent⟩) ⟨fun _ => by_more (by omega) _ (fun c => ?_) (fun c => ?_), fun z => absurd rfl z⟩
        · rw [if_pos c] at K4 hp
          exact K4 _ post hp
        · rw [if_neg (by omega)] at K4 hp
          exact K4 _ post hp
theorem bz_op4 (H : ap_OK p) (hAB : ap_AB p sA sB) (hA : ag_A p N P NY PY) (I : ag_I p sh (f + 1) M L E Q B 0 h lx lo al rf fX fY me pt va) (hB : B < 300) (em : me f = nI m) (ei : pt f = nI i) (hm : m < 4) (hiz : i < ap_Z p m)
    (hnd : sh = 1 → ∀ j, j < 6 → h (6 * f + j) ≠ 0 → ap_nd p m i j) (eo : ap_O p (16 * m + i) = 4) :
    ∃ (d' M' L' E' Q' g' : Nat) (r' oc' up' dn' : Int32) (h' lx' lo' al' rf' fX' fY' pe' td' ph' es' me' pt' va' ou' : Nat → Int32),
      ((r' = 1 ∧ oc' = -1 ∧ 1 ≤ d' ∧ g' = 0) ∨ (r' = 1 ∧ oc' = 0 ∧ d' = 0) ∨ (r' = 0 ∧ oc' = 1 ∧ d' = f + 1 ∧ g' = 0)) ∧ ag_I p sh d' M' L' E' Q' (B + 1) g' h' lx' lo' al' rf' fX' fY' me' pt' va' ∧
      (∀ post : Int32 → SX → Prop, post r' (nI Q', nI E', up', dn', nI (B + 1), nI L', nI M', nI g', nI d', sa, sh, ap_sz p, ap_L p, ap_oo p, ap_aA p, ap_aB p, ap_c p, N, P, K, R, me', pt', h', lx', va', rf', al', fX', pe', ou', es') → wpX_perform post (nI Q, nI E, up, dn, nI (B + 1), nI L, nI M, nI 0, nI (f + 1), sa, sh, ap_sz p, ap_L p, ap_oo p, ap_aA p, ap_aB p, ap_c p, N, P, K, R, me, pt, h, lx, va, rf, al, fX, pe, ou, es)) ∧
      (∀ post : SY → Prop, post (kn, nI M', nI L', up', dn', nI d', nI (B + 1), nI g', oc', sh, rn, nI Q', nI E', ap_oo p, sA, sB, ap_c p, ap_sz p, ap_L p, NY, PY, KY, va', fY', al', me', pt', h', lo', ou', es', td', ph') → wpY_carryOut post (kn, nI M, nI L, up, dn, nI (f + 1), nI (B + 1), nI 0, (-1), sh, rn, nI Q, nI E, ap_oo p, sA, sB, ap_c p, ap_sz p, ap_L p, NY, PY, KY, va, fY, al, me, pt, h, lo, ou, es, td, ph) (nI (6 * f)) (nI (16 * m + i))) := by
  obtain ⟨I1, I2, I3, I4, I5, I6, I7, I8⟩ := id I
  obtain ⟨hLc, hL24, hEL, hM, hd⟩ := I1.2.2.2.2.2.2.1
  have hL24' : L + 0 ≤ 24 := hL24
  have hz := H.2.1 m
  have hf : f < 6 := by omega
  have hi : i < 16 := by omega
  have hk : 16 * m + i < 64 := by omega
  have hI : vp_in (nI (16 * m + i)) 64 := vp_in_nI hk (by omega)
  have ek : (nI (16 * m + i)).toNatClampNeg = 16 * m + i := nI_clamp (by omega)
  have h14 := H.1 (16 * m + i)
  have hAA := h14.2.1
  have hBB := h14.2.2.1
  have vf : vp_in (nI f) 6 := vp_in_nI hf (by omega)
  have ef : (nI f).toNatClampNeg = f := nI_clamp (by omega)
  have x1e : nI (f + 1) - 1 = nI f := nI_pred f
  have x2e : me (nI f).toNatClampNeg * 16 + pt (nI f).toNatClampNeg = nI (16 * m + i) := by rw [ef, em, ei, ap_xk]
  have f6 : nI f * 6 = nI (6 * f) := by
    have : nI f * 6 = nI (f * 6) := pk_mul f 6
    rw [this, Nat.mul_comm]
  have x3e : nI f * 6 + ap_aA p (nI (16 * m + i)).toNatClampNeg = nI (6 * f + ap_A p (16 * m + i)) := by rw [ap_aAk p hk, f6, nI_add]
  have x4e : nI f * 6 + ap_aB p (nI (16 * m + i)).toNatClampNeg = nI (6 * f + ap_B p (16 * m + i)) := by rw [ap_aBk p hk, f6, nI_add]
  have x5e : ap_oo p (nI (16 * m + i)).toNatClampNeg = (4 : Int32) := by rw [ap_ook p hk, eo]; rfl
  obtain ⟨na, hna, ena⟩ := I1.2.2.2.1 (6 * f + ap_A p (16 * m + i)) (by omega)
  obtain ⟨nb, hnb, enb⟩ := I1.2.2.2.1 (6 * f + ap_B p (16 * m + i)) (by omega)
  have va36 : vp_in (nI (6 * f + ap_A p (16 * m + i))) 36 := vp_in_nI (by omega) (by omega)
  have vb36 : vp_in (nI (6 * f + ap_B p (16 * m + i))) 36 := vp_in_nI (by omega) (by omega)
  have eka : (nI (6 * f + ap_A p (16 * m + i))).toNatClampNeg = 6 * f + ap_A p (16 * m + i) := nI_clamp (by omega)
  have ekb : (nI (6 * f + ap_B p (16 * m + i))).toNatClampNeg = 6 * f + ap_B p (16 * m + i) := nI_clamp (by omega)
  have eP : P (16 * m + i) = PY (16 * m + i) := ap_Pl_u ((hA m hm).2.1 i hiz) ((hA m hm).2.2.2 i hiz)
  have eg : ∀ x : Nat, (if nI x = 0 then (0 : Int32) else 0) = 0 := fun x => by split <;> rfl
  have on : ap_on p (16 * m + i) := ⟨by omega, by omega, by omega⟩
  have scn : i + 1 < ap_Z p m → ap_sc p m i (i + 1) := fun z => ⟨z, Or.inl ⟨on, rfl⟩⟩
  have y5e : nI (6 * f) + sB (16 * m + i) = nI (6 * f + ap_B p (16 * m + i)) := by rw [(hAB (16 * m + i)).2 (by omega), nI_add]
  have nal : ¬ ap_al p (16 * m + i) := fun z => by unfold ap_al at z; omega
  have alA := ag_alive (n := na) I1 I8 em ei hm hi hnd hiz nal hAA ena hna
  have alB := ag_alive (n := nb) I1 I8 em ei hm hi hnd hiz nal hBB enb hnb
  obtain ⟨ec, lc⟩ := h14.2.2.2.1 (Or.inr eo)
  by_cases n0 : na = 0
  · subst n0
    refine ⟨f + 1, M, L, E, Q, 0, 0, 1, up, dn, h, lx, lo, al, rf, fX, fY, pe, td, ph, es, me, pt, va, ou, Or.inr (Or.inr ⟨rfl, rfl, rfl, rfl⟩), ⟨I1, I2, I3, by omega, by omega, by omega, I7, I8⟩, fun post hp => ?_, fun post hp => ?_⟩
    · exact nm_r x1e ⟨vf, vf, nm_r x2e ⟨hI, nm_r x3e ⟨hI, nm_r x4e ⟨hI, nm_r x5e (br_f (by decide) (br_f (by decide) (br_f (by decide) (br_f (by decide) (br_f (by decide) (br_f (by decide) (br_t (by decide) (⟨va36, br_t (by rw [eka]; exact ena) (br_t rfl ⟨rfl, hp⟩)⟩))))))))⟩⟩⟩⟩
    · exact by_fail hAB hf hk hAA hM (by omega) (by omega) ena (by omega) (by omega) (by omega) (by omega) post (Or.inr (Or.inl ⟨Or.inl eo, rfl⟩)) hp
  · have a1 : 1 ≤ na := by omega
    have nn0 : ¬ nI na = 0 := nI_ne0 a1 (by omega)
    obtain ⟨y, hy, ey⟩ := I1.2.1 na a1 hna (ap_C p (16 * m + i)) lc
    have eyX : fX (3 * na + ap_C p (16 * m + i)) = nI y := (ac_fld I1 a1 hna (alA a1) lc).trans ey
    have ixX : nI na * 3 + nI (ap_C p (16 * m + i)) = nI (3 * na + ap_C p (16 * m + i)) := by
      have : nI na * 3 = nI (na * 3) := pk_mul na 3
      rw [this, nI_add, Nat.mul_comm]
    have ixY : 3 * nI na + nI (ap_C p (16 * m + i)) = nI (3 * na + ap_C p (16 * m + i)) := by
      have : 3 * nI na = nI (3 * na) := pk_mul 3 na
      rw [this, nI_add]
    have vix : vp_in (nI (3 * na + ap_C p (16 * m + i))) 903 := vp_in_nI (by omega) (by omega)
    have eix : (nI (3 * na + ap_C p (16 * m + i))).toNatClampNeg = 3 * na + ap_C p (16 * m + i) := nI_clamp (by omega)
    have Yw : ∀ (post : SY → Prop), ((nI (ap_C p (16 * m + i)) = 2 → wY_change_199 post (nI (ap_C p (16 * m + i))) (nI y) (nI nb) (nI (3 * na + ap_C p (16 * m + i))) kn (nI M) (nI L) up dn (nI (f + 1)) (nI (B + 1)) (nI 0) (-1) sh rn (nI Q) (nI E) (ap_oo p) sA sB (ap_c p) (ap_sz p) (ap_L p) NY PY KY va fY al me (upd pt f (nI (i + 1))) h lo ou es td ph) ∧ (¬ nI (ap_C p (16 * m + i)) = 2 → wpY_reference (fun r u => match u with | (f_known, f_made, f_living, f_counted, f_less, f_depth, f_begun, f_given, f_outcome, f_isShort, f_ran, f_put, f_ended, a_ops, a_as, a_bs, a_cs, a_size, a_lent, a_need, a_plans, a_keep, a_value, a_fields, a_alive, a_method, a_pc, a_variable, a_loan, a_outs, a_ends, a_todo, a_phase) => wY_change_199 post (nI (ap_C p (16 * m + i))) (nI y) r (nI (3 * na + ap_C p (16 * m + i))) f_known f_made f_living f_counted f_less f_depth f_begun f_given f_outcome f_isShort f_ran f_put f_ended a_ops a_as a_bs a_cs a_size a_lent a_need a_plans a_keep a_value a_fields a_alive a_method a_pc a_variable a_loan a_outs a_ends a_todo a_phase) (kn, nI M, nI L, up, dn, nI (f + 1), nI (B + 1), nI 0, (-1), sh, rn, nI Q, nI E, ap_oo p, sA, sB, ap_c p, ap_sz p, ap_L p, NY, PY, KY, va, fY, al, me, upd pt f (nI (i + 1)), h, lo, ou, es, td, ph) (nI (16 * m + i)) (nI (6 * f + ap_B p (16 * m + i))))) → wpY_carryOut post (kn, nI M, nI L, up, dn, nI (f + 1), nI (B + 1), nI 0, (-1), sh, rn, nI Q, nI E, ap_oo p, sA, sB, ap_c p, ap_sz p, ap_L p, NY, PY, KY, va, fY, al, me, pt, h, lo, ou, es, td, ph) (nI (6 * f)) (nI (16 * m + i)) := by
      intro post K
      refine by_go hAB hf hk hAA hM (by omega) ena ei (by omega) post (fun z => by omega) (fun z => nn0) (fun z => by omega) (fun y _ => ?_)
      rw [eo, y5e, ec]
      refine ⟨vf, nm_r (e' := upd pt f (nI (i + 1))) (by rw [ef]) (br_f (by decide) (br_f (by decide) (br_f (by decide) (br_f (by decide) (br_f (by decide) (br_f (by decide) (br_t (by decide) ⟨va36, nm_r (e' := nI (3 * na + ap_C p (16 * m + i))) (by rw [eka, ena, ixY]) ⟨vix, nm_r (by rw [eix]; exact ey) (br_c (fun c => ⟨vb36, ?_⟩) (fun c => K.2 c))⟩⟩)))))))⟩
      rw [ekb, enb]
      exact K.1 c
    by_cases c2 : ap_C p (16 * m + i) = 2
    · rw [c2] at ixX ixY vix eix
      have Ip := ac_put2 (x := nb) I1 a1 hna (alA a1) hnb alB
      refine ⟨f + 1, M, L, E, Q, 0, 1, -1, up, dn, h, lx, lo, al, rf, _, _, pe, td, ph, es, me, upd pt f (nI (i + 1)), va, ou, Or.inl ⟨rfl, rfl, by omega, rfl⟩,
        ⟨Ip, I2, I3, by omega, by omega, by omega, by omega, ag_F_pc I8 em ei hm hi (ag_ne I2) hnd hiz (by omega) scn⟩, fun post hp => ?_, fun post hp => Yw post ⟨fun _ => ?_, fun z => absurd (by rw [c2]; rfl) z⟩⟩
      · refine nm_r x1e ⟨vf, vf, nm_r x2e ⟨hI, nm_r x3e ⟨hI, nm_r x4e ⟨hI, nm_r x5e (br_f (by decide) (br_f (by decide) (br_f (by decide) (br_f (by decide) (br_f (by decide) (br_f (by decide) (br_t (by decide) (⟨va36, ?_⟩))))))))⟩⟩⟩⟩
        rw [eka, ena, ap_ck p hk, ec, c2]
        refine br_f nn0 ⟨va36, hI, nm_r ixX ⟨hI, br_t rfl ⟨vb36, vix, nm_r (e' := upd fX (3 * na + 2) (nI nb)) (by rw [eix, ekb, enb]) (br_f (by decide) ⟨vf, vf, nm_r (e' := upd pt f (nI (i + 1))) (by rw [ef, ei, nI_1]) ⟨rfl, hp⟩⟩)⟩⟩⟩
      · rw [c2]
        exact ⟨vix, nm_r (e' := upd fY (3 * na + 2) (nI nb)) (by rw [eix]) (br_t (by decide) hp)⟩
    · have c01 : ap_C p (16 * m + i) < 2 := by omega
      have nc2 : ¬ nI (ap_C p (16 * m + i)) = 2 := fun z => c2 ((nI_eq (b := 2) (by omega) (by decide)).mp z)
      have mbe : ∃ mb : Int32, ((P (16 * m + i) = 2 ∧ mb = 1) ∨ (¬ P (16 * m + i) = 2 ∧ mb = 0)) := by
        by_cases c : P (16 * m + i) = 2
        · exact ⟨1, Or.inl ⟨c, rfl⟩⟩
        · exact ⟨0, Or.inr ⟨c, rfl⟩⟩
      obtain ⟨mb, hmb⟩ := mbe
      obtain ⟨h1, rf1, up1, T1, T2, T3, T4, T5⟩ := bz_take (p := p) (po := nI Q) (up := up) (bg := nI (B + 1)) (gX := nI 0) (sa := sa) (sh := sh) (N := N) (P := P) (K := K) (R := R) (me := me) (h := h) (lx := lx) (va := va) (ou := ou) (gY := nI 0) (lo := lo) (dn := dn) (pe := pe) (es := es) (pt := pt) (v := 6 * f + ap_B p (16 * m + i)) (n := nb) mb I1 (by omega) enb hnb alB I2
      have Ip := ac_put T1 a1 hna (alA a1) c01 hnb ey hy
      obtain ⟨al', rf', fX', fY', pe', td', ph', es', L', E', dn', K1, K3, K4⟩ := bz_drop (p := p) (po := nI Q) (up := up1) (bg := nI (B + 1)) (gX := nI 0) (sa := sa) (sh := sh) (N := N) (P := P) (K := K) (R := R) (me := me) (h := h1) (lx := lx) (va := va) (ou := ou) (kn := kn) (gY := nI 0) (oc := (-1)) (rn := rn) (lo := lo) (sA := sA) (sB := sB) (NY := NY) (PY := PY) (KY := KY) (dn := dn) (pe := pe) (td := td) (ph := ph) (es := es) Ip
      refine ⟨f + 1, M, L', E', Q, 0, 1, -1, up1, dn', _, _, _, al', rf', fX', fY', pe', td', ph', es', me, upd pt f (nI (i + 1)), va, ou, Or.inl ⟨rfl, rfl, by omega, rfl⟩,
        ⟨K1, T2, I3, by omega, by omega, by omega, by omega, ag_F_top I8 em ei hm hi (ag_ne I2) hnd hiz (by omega) scn _ _ (fun w hw => ⟨T3 w (by omega), rfl⟩) (fun j hj => ?_)⟩, fun post hp => ?_, fun post hp => Yw post ⟨fun z => absurd z nc2, fun _ => ?_⟩⟩
      · by_cases c : j = ap_B p (16 * m + i)
        · subst c
          rcases T4 with ⟨_, _, q, _⟩ | ⟨_, q, _⟩
          · exact Or.inr (Or.inl q)
          · exact Or.inl ⟨by rw [q], rfl⟩
        · exact Or.inl ⟨T3 _ (by omega), rfl⟩
      · refine nm_r x1e ⟨vf, vf, nm_r x2e ⟨hI, nm_r x3e ⟨hI, nm_r x4e ⟨hI, nm_r x5e (br_f (by decide) (br_f (by decide) (br_f (by decide) (br_f (by decide) (br_f (by decide) (br_f (by decide) (br_t (by decide) (⟨va36, ?_⟩))))))))⟩⟩⟩⟩
        rw [eka, ena, ap_ck p hk, ec]
        refine br_f nn0 ⟨va36, hI, nm_r ixX ⟨hI, br_f nc2 ⟨vix, nm_r (e' := nI y) (by rw [eix]; exact eyX) ⟨hI, ?_⟩⟩⟩⟩
        rw [ek]
        rcases hmb with ⟨c, e⟩ | ⟨c, e⟩
        · subst e; exact br_t c (T5 _ ⟨vix, nm_r (e' := upd fX (3 * na + ap_C p (16 * m + i)) (nI nb)) (by rw [eix]) (K3 pt _ (br_f (by decide) ⟨vf, vf, nm_r (e' := upd pt f (nI (i + 1))) (by rw [ef, ei, nI_1]) ⟨rfl, hp⟩⟩))⟩)
        · subst e; exact br_f c (T5 _ ⟨vix, nm_r (e' := upd fX (3 * na + ap_C p (16 * m + i)) (nI nb)) (by rw [eix]) (K3 pt _ (br_f (by decide) ⟨vf, vf, nm_r (e' := upd pt f (nI (i + 1))) (by rw [ef, ei, nI_1]) ⟨rfl, hp⟩⟩))⟩)
      · refine by_ref (by omega) hk (by omega) enb (h' := h1) (up' := up1) ?_ _ ⟨vix, nm_r (e' := upd fY (3 * na + ap_C p (16 * m + i)) (nI nb)) (by rw [eix]) (br_f (by intro z; have := (nI_leI (a := 2) (by decide) (by omega)).mp z; omega) (K4 _ _ hp))⟩
        rw [← eP]
        rcases T4 with ⟨q1, q2, q3⟩ | ⟨q1, q2⟩
        · exact Or.inl ⟨q1, by rcases hmb with q | q; exact q.1; exact absurd q.2 q2, q3⟩
        · exact Or.inr ⟨fun z => q1 ⟨z.1, by rcases hmb with q | q; rw [q.2]; decide; exact absurd z.2.1 q.1, z.2.2⟩, q2⟩
end
end
section
section
variable {p : ap_T} {kn po en up dn bg lv md gX gY dp sa sh oc rn : Int32} {sA sB N P K R NY PY KY me pt h lx lo va rf al fX fY pe ou es td ph : Nat → Int32}
variable {f m i M L E Q B d : Nat}
/-! the fields of what OWN makes: s: the object that is shared, x: the new one -/
theorem bx_own1 {a s x j y : Nat} (post : Int32 → SX → Prop) {n : Nat} (hj : j < 2) (hs : s ≤ 300) (hx : x ≤ 300) (hy : y ≤ 300) (ey : fX (3 * s + j) = nI y)
    (KK : wX_ownObject_46 post (nI a) (nI s) (nI x) n (nI (j + 1)) po en (if y = 0 then up else up + 1) dn bg lv md gX dp sa sh (ap_sz p) (ap_L p) (ap_oo p) (ap_aA p) (ap_aB p) (ap_c p) N P K R me pt h lx va (if y = 0 then rf else upd rf y (rf y + 1)) al (upd fX (3 * x + j) (nI y)) pe ou es) :
    wX_ownObject_46 post (nI a) (nI s) (nI x) (n + 1) (nI j) po en up dn bg lv md gX dp sa sh (ap_sz p) (ap_L p) (ap_oo p) (ap_aA p) (ap_aB p) (ap_c p) N P K R me pt h lx va rf al fX pe ou es := by
  have i1 : nI s * 3 + nI j = nI (3 * s + j) := by
    have : nI s * 3 = nI (s * 3) := pk_mul s 3
    rw [this, nI_add, Nat.mul_comm]
  have i2 : nI x * 3 + nI j = nI (3 * x + j) := by
    have : nI x * 3 = nI (x * 3) := pk_mul x 3
    rw [this, nI_add, Nat.mul_comm]
  have n2 : ¬ nI j = 2 := fun z => by have := (nI_eq (b := 2) (by omega) (by decide)).mp z; omega
  refine br_f (nI_ge (b := 3) (by omega) (by decide)) ⟨by rw [i1]; exact vp_in_nI (by omega) (by omega), nm_r (e' := nI y) (by rw [i1, nI_clamp (by omega)]; exact ey) ⟨by rw [i2]; exact vp_in_nI (by omega) (by omega), nm_r (e' := upd fX (3 * x + j) (nI y)) (by rw [i2, nI_clamp (by omega)]) (br_f n2 (bx_up hy _ (fun c => nm_r (nI_1 j) ?_) (fun c => nm_r (nI_1 j) ?_)))⟩⟩
  · rw [if_pos c, if_pos c] at KK; exact KK
  · rw [if_neg (by omega), if_neg (by omega)] at KK; exact KK
theorem bx_own2 {a s x y : Nat} (post : Int32 → SX → Prop) {n : Nat} (hs : s ≤ 300) (hx : x ≤ 300) (ey : fX (3 * s + 2) = nI y)
    (KK : wpX_fill (fun u => post 1 u) (po, en, up, dn, bg, lv, md, gX, dp, sa, sh, ap_sz p, ap_L p, ap_oo p, ap_aA p, ap_aB p, ap_c p, N, P, K, R, me, pt, h, lx, va, rf, al, upd fX (3 * x + 2) (nI y), pe, ou, es) (nI a) (nI x) 0) :
    wX_ownObject_46 post (nI a) (nI s) (nI x) (n + 1 + 1) (nI 2) po en up dn bg lv md gX dp sa sh (ap_sz p) (ap_L p) (ap_oo p) (ap_aA p) (ap_aB p) (ap_c p) N P K R me pt h lx va rf al fX pe ou es := by
  have i1 : nI s * 3 + nI 2 = nI (3 * s + 2) := by
    have : nI s * 3 = nI (s * 3) := pk_mul s 3
    rw [this, nI_add, Nat.mul_comm]
  have i2 : nI x * 3 + nI 2 = nI (3 * x + 2) := by
    have : nI x * 3 = nI (x * 3) := pk_mul x 3
    rw [this, nI_add, Nat.mul_comm]
  refine br_f (by decide) ⟨by rw [i1]; exact vp_in_nI (by omega) (by omega), nm_r (e' := nI y) (by rw [i1, nI_clamp (by omega)]; exact ey) ⟨by rw [i2]; exact vp_in_nI (by omega) (by omega), nm_r (e' := upd fX (3 * x + 2) (nI y)) (by rw [i2, nI_clamp (by omega)]) (br_t rfl (nm_r (nI_1 2) (br_t (by decide) KK)))⟩⟩
theorem by_own1 {a s x j y : Nat} (post : SY → Prop) {n : Nat} (hj : j < 2) (hs : s ≤ 300) (hx : x ≤ 300) (hy : y ≤ 300) (ey : fY (3 * s + j) = nI y)
    (K : wY_own_14 post (nI a) (nI s) (nI x) n (nI (j + 1)) kn md lv (if y = 0 then up else up + 1) dn dp bg gY oc sh rn po en (ap_oo p) sA sB (ap_c p) (ap_sz p) (ap_L p) NY PY KY va (upd fY (3 * x + j) (nI y)) al me pt h lo ou es td ph) :
    wY_own_14 post (nI a) (nI s) (nI x) (n + 1) (nI j) kn md lv up dn dp bg gY oc sh rn po en (ap_oo p) sA sB (ap_c p) (ap_sz p) (ap_L p) NY PY KY va fY al me pt h lo ou es td ph := by
  have i1 : 3 * nI s + nI j = nI (3 * s + j) := by
    have : 3 * nI s = nI (3 * s) := pk_mul 3 s
    rw [this, nI_add]
  have i2 : 3 * nI x + nI j = nI (3 * x + j) := by
    have : 3 * nI x = nI (3 * x) := pk_mul 3 x
    rw [this, nI_add]
  have n2 : ¬ nI j = 2 := fun z => by have := (nI_eq (b := 2) (by omega) (by decide)).mp z; omega
  refine br_f (nI_ge (b := 3) (by omega) (by decide)) (br_f n2 ⟨by rw [i1]; exact vp_in_nI (by omega) (by omega), ?_⟩)
  rw [i1, nI_clamp (by omega), ey]
  refine by_more hy _ (fun c => ⟨by rw [i2]; exact vp_in_nI (by omega) (by omega), nm_r (e' := upd fY (3 * x + j) (nI y)) (by rw [i2, nI_clamp (by omega)]) (nm_r (nI_1 j) ?_)⟩) (fun c => ⟨by rw [i2]; exact vp_in_nI (by omega) (by omega), nm_r (e' := upd fY (3 * x + j) (nI y)) (by rw [i2, nI_clamp (by omega)]) (nm_r (nI_1 j) ?_)⟩)
  · rw [if_pos c] at K; exact K
  · rw [if_neg (by omega)] at K; exact K
theorem by_own2 {a s x y : Nat} (post : SY → Prop) {n : Nat} (hs : s ≤ 300) (hx : x ≤ 300) (ey : fY (3 * s + 2) = nI y)
    (K : wpY_get (fun u => post u) (kn, md, lv, up, dn, dp, bg, gY, oc, sh, rn, po, en, ap_oo p, sA, sB, ap_c p, ap_sz p, ap_L p, NY, PY, KY, va, upd fY (3 * x + 2) (nI y), al, me, pt, h, lo, ou, es, td, ph) (nI a) (nI x) 0) :
    wY_own_14 post (nI a) (nI s) (nI x) (n + 1 + 1) (nI 2) kn md lv up dn dp bg gY oc sh rn po en (ap_oo p) sA sB (ap_c p) (ap_sz p) (ap_L p) NY PY KY va fY al me pt h lo ou es td ph := by
  have i1 : 3 * nI s + 2 = nI (3 * s + 2) := by
    have : 3 * nI s = nI (3 * s) := pk_mul 3 s
    rw [this]; exact nI_add _ 2
  have i2 : 3 * nI x + nI 2 = nI (3 * x + 2) := by
    have : 3 * nI x = nI (3 * x) := pk_mul 3 x
    rw [this, nI_add]
  refine br_f (by decide) (br_t rfl ⟨by rw [i1]; exact vp_in_nI (by omega) (by omega), by rw [i2]; exact vp_in_nI (by omega) (by omega), nm_r (e' := upd fY (3 * x + 2) (nI y)) (by rw [i2, nI_clamp (by omega), i1, nI_clamp (by omega), ey]) (nm_r (nI_1 2) (br_t (by decide) K))⟩)
theorem bz_op8 (H : ap_OK p) (hAB : ap_AB p sA sB) (hA : ag_A p N P NY PY) (I : ag_I p sh (f + 1) M L E Q B 0 h lx lo al rf fX fY me pt va) (hB : B < 300) (em : me f = nI m) (ei : pt f = nI i) (hm : m < 4) (hiz : i < ap_Z p m)
    (hnd : sh = 1 → ∀ j, j < 6 → h (6 * f + j) ≠ 0 → ap_nd p m i j) (eo : ap_O p (16 * m + i) = 8) :
    ∃ (d' M' L' E' Q' g' : Nat) (r' oc' up' dn' : Int32) (h' lx' lo' al' rf' fX' fY' pe' td' ph' es' me' pt' va' ou' : Nat → Int32),
      ((r' = 1 ∧ oc' = -1 ∧ 1 ≤ d' ∧ g' = 0) ∨ (r' = 1 ∧ oc' = 0 ∧ d' = 0) ∨ (r' = 0 ∧ oc' = 1 ∧ d' = f + 1 ∧ g' = 0)) ∧ ag_I p sh d' M' L' E' Q' (B + 1) g' h' lx' lo' al' rf' fX' fY' me' pt' va' ∧
      (∀ post : Int32 → SX → Prop, post r' (nI Q', nI E', up', dn', nI (B + 1), nI L', nI M', nI g', nI d', sa, sh, ap_sz p, ap_L p, ap_oo p, ap_aA p, ap_aB p, ap_c p, N, P, K, R, me', pt', h', lx', va', rf', al', fX', pe', ou', es') → wpX_perform post (nI Q, nI E, up, dn, nI (B + 1), nI L, nI M, nI 0, nI (f + 1), sa, sh, ap_sz p, ap_L p, ap_oo p, ap_aA p, ap_aB p, ap_c p, N, P, K, R, me, pt, h, lx, va, rf, al, fX, pe, ou, es)) ∧
      (∀ post : SY → Prop, post (kn, nI M', nI L', up', dn', nI d', nI (B + 1), nI g', oc', sh, rn, nI Q', nI E', ap_oo p, sA, sB, ap_c p, ap_sz p, ap_L p, NY, PY, KY, va', fY', al', me', pt', h', lo', ou', es', td', ph') → wpY_carryOut post (kn, nI M, nI L, up, dn, nI (f + 1), nI (B + 1), nI 0, (-1), sh, rn, nI Q, nI E, ap_oo p, sA, sB, ap_c p, ap_sz p, ap_L p, NY, PY, KY, va, fY, al, me, pt, h, lo, ou, es, td, ph) (nI (6 * f)) (nI (16 * m + i))) := by
  obtain ⟨I1, I2, I3, I4, I5, I6, I7, I8⟩ := id I
  obtain ⟨hLc, hL24, hEL, hM, hd⟩ := I1.2.2.2.2.2.2.1
  have hL24' : L + 0 ≤ 24 := hL24
  have hz := H.2.1 m
  have hf : f < 6 := by omega
  have hi : i < 16 := by omega
  have hk : 16 * m + i < 64 := by omega
  have hI : vp_in (nI (16 * m + i)) 64 := vp_in_nI hk (by omega)
  have ek : (nI (16 * m + i)).toNatClampNeg = 16 * m + i := nI_clamp (by omega)
  have h14 := H.1 (16 * m + i)
  have hAA := h14.2.1
  have hBB := h14.2.2.1
  have vf : vp_in (nI f) 6 := vp_in_nI hf (by omega)
  have ef : (nI f).toNatClampNeg = f := nI_clamp (by omega)
  have x1e : nI (f + 1) - 1 = nI f := nI_pred f
  have x2e : me (nI f).toNatClampNeg * 16 + pt (nI f).toNatClampNeg = nI (16 * m + i) := by rw [ef, em, ei, ap_xk]
  have f6 : nI f * 6 = nI (6 * f) := by
    have : nI f * 6 = nI (f * 6) := pk_mul f 6
    rw [this, Nat.mul_comm]
  have x3e : nI f * 6 + ap_aA p (nI (16 * m + i)).toNatClampNeg = nI (6 * f + ap_A p (16 * m + i)) := by rw [ap_aAk p hk, f6, nI_add]
  have x4e : nI f * 6 + ap_aB p (nI (16 * m + i)).toNatClampNeg = nI (6 * f + ap_B p (16 * m + i)) := by rw [ap_aBk p hk, f6, nI_add]
  have x5e : ap_oo p (nI (16 * m + i)).toNatClampNeg = (8 : Int32) := by rw [ap_ook p hk, eo]; rfl
  obtain ⟨na, hna, ena⟩ := I1.2.2.2.1 (6 * f + ap_A p (16 * m + i)) (by omega)
  obtain ⟨nb, hnb, enb⟩ := I1.2.2.2.1 (6 * f + ap_B p (16 * m + i)) (by omega)
  have va36 : vp_in (nI (6 * f + ap_A p (16 * m + i))) 36 := vp_in_nI (by omega) (by omega)
  have vb36 : vp_in (nI (6 * f + ap_B p (16 * m + i))) 36 := vp_in_nI (by omega) (by omega)
  have eka : (nI (6 * f + ap_A p (16 * m + i))).toNatClampNeg = 6 * f + ap_A p (16 * m + i) := nI_clamp (by omega)
  have ekb : (nI (6 * f + ap_B p (16 * m + i))).toNatClampNeg = 6 * f + ap_B p (16 * m + i) := nI_clamp (by omega)
  have eP : P (16 * m + i) = PY (16 * m + i) := ap_Pl_u ((hA m hm).2.1 i hiz) ((hA m hm).2.2.2 i hiz)
  have eg : ∀ x : Nat, (if nI x = 0 then (0 : Int32) else 0) = 0 := fun x => by split <;> rfl
  have on : ap_on p (16 * m + i) := ⟨by omega, by omega, by omega⟩
  have scn : i + 1 < ap_Z p m → ap_sc p m i (i + 1) := fun z => ⟨z, Or.inl ⟨on, rfl⟩⟩
  have nal : ¬ ap_al p (16 * m + i) := fun z => by unfold ap_al at z; omega
  have alA := ag_alive (n := na) I1 I8 em ei hm hi hnd hiz nal hAA ena hna
  have alB := ag_alive (n := nb) I1 I8 em ei hm hi hnd hiz nal hBB enb hnb
  have Yc : ∀ (post : SY → Prop), (na = 0 ∨ ¬ (1 ≤ na ∧ ¬ (1 ≤ na ∧ lo (6 * f + ap_A p (16 * m + i)) = 0 ∧ ac_N (nI 0) h lo (f + 1) fY M na = 1)) → post (kn, nI M, nI L, up, dn, nI (f + 1), nI (B + 1), nI 0, (-1), sh, rn, nI Q, nI E, ap_oo p, sA, sB, ap_c p, ap_sz p, ap_L p, NY, PY, KY, va, fY, al, me, upd pt f (nI (i + 1)), h, lo, ou, es, td, ph)) →
      (1 ≤ na → ¬ (1 ≤ na ∧ lo (6 * f + ap_A p (16 * m + i)) = 0 ∧ ac_N (nI 0) h lo (f + 1) fY M na = 1) → (L = 24 → post (kn, nI M, nI L, up, dn, nI (f + 1), nI (B + 1), nI 0, 1, sh, rn, nI Q, nI E, ap_oo p, sA, sB, ap_c p, ap_sz p, ap_L p, NY, PY, KY, va, fY, al, me, pt, h, lo, ou, es, td, ph)) ∧ (L < 24 → wpY_own (fun u => post u) (kn, nI M, nI L, up, dn, nI (f + 1), nI (B + 1), nI 0, (-1), sh, rn, nI Q, nI E, ap_oo p, sA, sB, ap_c p, ap_sz p, ap_L p, NY, PY, KY, va, fY, al, me, upd pt f (nI (i + 1)), h, lo, ou, es, td, ph) (nI (6 * f + ap_A p (16 * m + i))) (nI na))) →
      wpY_carryOut post (kn, nI M, nI L, up, dn, nI (f + 1), nI (B + 1), nI 0, (-1), sh, rn, nI Q, nI E, ap_oo p, sA, sB, ap_c p, ap_sz p, ap_L p, NY, PY, KY, va, fY, al, me, pt, h, lo, ou, es, td, ph) (nI (6 * f)) (nI (16 * m + i)) := by
    intro post h1 h2
    refine by_pre hAB hf hk hAA (by omega) (by omega) (by omega) post ?_
    rw [ena, eo]
    refine by_58 (by omega) post _ _ _ _ _ (fun z => by omega) (fun z => by omega) (fun z => by omega) (fun z => by omega) (by_134 hM (by omega) (by omega) (by omega) post _ _ _ _ _ (fun z hz' => ?_))
    have tail : ∀ K : wY_carryOut_294 post (nI (16 * m + i)) (nI 8) (nI (6 * f + ap_A p (16 * m + i))) (nI (6 * f) + sB (16 * m + i)) (ap_c p (16 * m + i)) (nI na) z (nI (i + 1)) (nI f) kn (nI M) (nI L) up dn (nI (f + 1)) (nI (B + 1)) (nI 0) (-1) sh rn (nI Q) (nI E) (ap_oo p) sA sB (ap_c p) (ap_sz p) (ap_L p) NY PY KY va fY al me pt h lo ou es td ph, wY_carryOut_193 post (nI (16 * m + i)) (nI 8) (nI (6 * f + ap_A p (16 * m + i))) (nI (6 * f) + sB (16 * m + i)) (ap_c p (16 * m + i)) (nI na) 0 z kn (nI M) (nI L) up dn (nI (f + 1)) (nI (B + 1)) (nI 0) (-1) sh rn (nI Q) (nI E) (ap_oo p) sA sB (ap_c p) (ap_sz p) (ap_L p) NY PY KY va fY al me pt h lo ou es td ph := by
      intro K
      refine br_t rfl (br_f (by decide) (br_f (by decide) (br_f (by decide) (br_f (by decide) (br_f (by decide) (?_))))))
      unfold wY_carryOut_281
      rw [nI_pred, nI_clamp (n := f) (by omega), ei, nI_1]
      exact ⟨vf, K⟩
    by_cases n0 : na = 0
    · subst n0
      refine br_t (by decide) (br_t (by decide) (tail ⟨vf, nm_r (e' := upd pt f (nI (i + 1))) (by rw [ef]) (br_f (by decide) (br_f (by decide) (br_f (by decide) (br_t (by decide) (br_t (by decide) (br_t (by decide) (h1 (Or.inl rfl))))))))⟩))
    · have pos : ¬ nI na ≤ 0 := nI_nle (by omega) (by omega)
      rcases hz' with ⟨e, c⟩ | ⟨e, c⟩
      · subst e
        exact br_t (by decide) (br_f pos (br_f (by decide) (tail ⟨vf, nm_r (e' := upd pt f (nI (i + 1))) (by rw [ef]) (br_f (by decide) (br_f (by decide) (br_f (by decide) (br_t (by decide) (br_f pos (br_f (by decide) (br_t (by decide) (h1 (Or.inr (fun q => q.2 c))))))))))⟩)))
      · subst e
        obtain ⟨k1, k2⟩ := h2 (by omega) c
        refine br_t (by decide) (br_f pos (br_t rfl (pk_eq L 24 (fun q => k1 q) (fun q => tail ⟨vf, nm_r (e' := upd pt f (nI (i + 1))) (by rw [ef]) (br_f (by decide) (br_f (by decide) (br_f (by decide) (br_t (by decide) (br_f pos (br_t rfl (k2 (by omega))))))))⟩))))
  by_cases n0 : na = 0
  · refine ⟨f + 1, M, L, E, Q, 0, 1, -1, up, dn, h, lx, lo, al, rf, fX, fY, pe, td, ph, es, me, upd pt f (nI (i + 1)), va, ou, Or.inl ⟨rfl, rfl, by omega, rfl⟩,
      ⟨I1, I2, I3, by omega, by omega, by omega, by omega, ag_F_pc I8 em ei hm hi (ag_ne I2) hnd hiz (by omega) scn⟩, fun post hp => ?_, fun post hp => Yc post (fun _ => hp) (fun z => by omega)⟩
    exact nm_r x1e ⟨vf, vf, nm_r x2e ⟨hI, nm_r x3e ⟨hI, nm_r x4e ⟨hI, nm_r x5e (br_f (by decide) (br_f (by decide) (br_f (by decide) (br_f (by decide) (br_f (by decide) (br_f (by decide) (br_f (by decide) (br_f (by decide) (br_f (by decide) (br_f (by decide) (br_t (by decide) (⟨va36, nm_r (e' := nI na) (by rw [eka]; exact ena) (br_t (by rw [n0]; rfl) (br_f (by decide) ⟨vf, vf, nm_r (e' := upd pt f (nI (i + 1))) (by rw [ef, ei, nI_1]) ⟨rfl, hp⟩⟩))⟩))))))))))))⟩⟩⟩⟩
  · have a1 : 1 ≤ na := by omega
    have nn0 : ¬ nI na = 0 := nI_ne0 a1 (by omega)
    by_cases on1 : 1 ≤ na ∧ lo (6 * f + ap_A p (16 * m + i)) = 0 ∧ ac_N (nI 0) h lo (f + 1) fY M na = 1
    · refine ⟨f + 1, M, L, E, Q, 0, 1, -1, up, dn, h, lx, lo, al, rf, fX, fY, pe, td, ph, es, me, upd pt f (nI (i + 1)), va, ou, Or.inl ⟨rfl, rfl, by omega, rfl⟩,
        ⟨I1, I2, I3, by omega, by omega, by omega, by omega, ag_F_pc I8 em ei hm hi (ag_ne I2) hnd hiz (by omega) scn⟩, fun post hp => ?_, fun post hp => Yc post (fun _ => hp) (fun _ z => absurd on1 z)⟩
      refine nm_r x1e ⟨vf, vf, nm_r x2e ⟨hI, nm_r x3e ⟨hI, nm_r x4e ⟨hI, nm_r x5e (br_f (by decide) (br_f (by decide) (br_f (by decide) (br_f (by decide) (br_f (by decide) (br_f (by decide) (br_f (by decide) (br_f (by decide) (br_f (by decide) (br_f (by decide) (br_t (by decide) (⟨va36, nm_r (by rw [eka]; exact ena) (br_f nn0 ?_)⟩))))))))))))⟩⟩⟩⟩
      exact bx_only (na := na) (by omega) (by omega) hna ena I1 I2 _ (fun c => br_f (by decide) (br_f (by decide) ⟨vf, vf, nm_r (e' := upd pt f (nI (i + 1))) (by rw [ef, ei, nI_1]) ⟨rfl, hp⟩⟩)) (fun c => absurd on1 c)
    · by_cases hL : L < 24
      · obtain ⟨y0, hy0, ey0⟩ := I1.2.1 na a1 hna 0 (by omega)
        obtain ⟨y1, hy1, ey1⟩ := I1.2.1 na a1 hna 1 (by omega)
        obtain ⟨y2, hy2, ey2⟩ := I1.2.1 na a1 hna 2 (by omega)
        have ay0 : 1 ≤ y0 → al y0 = 1 := fun z => ac_al_F3 I1 z hy0 a1 hna (alA a1) (by omega) ey0
        have ay1 : 1 ≤ y1 → al y1 = 1 := fun z => ac_al_F3 I1 z hy1 a1 hna (alA a1) (by omega) ey1
        have ay2 : 1 ≤ y2 → al y2 = 1 := fun z => ac_al_F3 I1 z hy2 a1 hna (alA a1) (by omega) ey2
        have ex0 := (ac_fld I1 a1 hna (alA a1) (j := 0) (by omega)).trans ey0
        have ex1 := (ac_fld I1 a1 hna (alA a1) (j := 1) (by omega)).trans ey1
        have ex2 := (ac_fld I1 a1 hna (alA a1) (j := 2) (by omega)).trans ey2
        have In := ac_new I1 hL (by omega) (af_ze fX (3 * (M + 1)) 3) (af_ze fY (3 * (M + 1)) 3) (fun x hx => af_ze_out (Or.inl hx)) (fun x hx => af_ze_out (Or.inl hx)) (fun j hj => af_ze_in (by omega) (by omega)) (fun j hj => af_ze_in (by omega) (by omega))
        have u1 : ∀ y, y ≤ M → (1 ≤ y → al y = 1) → 1 ≤ y → upd al (M + 1) 1 y = 1 := fun y hy ha z => by rw [pk_un (by omega)]; exact ha z
        have J0 := ac_cpy (q := M + 1) (j := 0) (y := y0) In (by omega) (Nat.le_refl _) pk_us (by omega) (by omega) (u1 y0 hy0 ay0) (af_ze_in (by omega) (by omega))
        have J1 := ac_cpy (q := M + 1) (j := 1) (y := y1) J0 (by omega) (Nat.le_refl _) pk_us (by omega) (by omega) (u1 y1 hy1 ay1) (by rw [pk_un (by omega)]; exact af_ze_in (by omega) (by omega))
        have J2 := ac_put2 (q := M + 1) (x := y2) J1 (by omega) (Nat.le_refl _) pk_us (by omega) (u1 y2 hy2 ay2)
        obtain ⟨al', rf', fX', fY', pe', td', ph', es', L', E', dn', K1, K2, K3, K4⟩ := bz_fill (p := p) (po := nI Q) (up := if y1 = 0 then (if y0 = 0 then up else up + 1) else (if y0 = 0 then up else up + 1) + 1) (bg := nI (B + 1)) (gX := nI 0) (sa := sa) (sh := sh) (N := N) (P := P) (K := K) (R := R) (me := me) (h := h) (lx := lx) (va := upd va (M + 1) (va na)) (ou := ou) (kn := kn) (gY := nI 0) (oc := (-1)) (rn := rn) (lo := lo) (sA := sA) (sB := sB) (NY := NY) (PY := PY) (KY := KY) (dn := dn) (pe := pe) (td := td) (ph := ph) (es := es) (v := 6 * f + ap_A p (16 * m + i)) (x := M + 1) (b := 0) (by rw [if_pos rfl]; exact J2) (by omega) (Nat.le_refl _) I2 (Or.inl rfl)
        rw [eg] at K1 K2 K4
        refine ⟨f + 1, M + 1, L', E', Q, 0, 1, -1, (if y1 = 0 then (if y0 = 0 then up else up + 1) else (if y0 = 0 then up else up + 1) + 1), dn', _, _, _, al', rf', fX', fY', pe', td', ph', es', me, upd pt f (nI (i + 1)), upd va (M + 1) (va na), ou, Or.inl ⟨rfl, rfl, by omega, rfl⟩,
          ⟨K1, K2, by rw [pk_un (by omega)]; exact I3, by omega, by omega, by omega, by omega, ag_F_set (b := ap_A p (16 * m + i)) I8 em ei hm hi (ag_ne I2) hnd hiz (by omega) scn _ (fun _ _ => rfl) (Or.inl rfl)⟩, fun post hp => ?_, fun post hp => Yc post (fun z => by rcases z with z | z; omega; exact absurd ⟨a1, on1⟩ z) (fun _ _ => ⟨fun z => by omega, fun _ => ?_⟩)⟩
        · refine nm_r x1e ⟨vf, vf, nm_r x2e ⟨hI, nm_r x3e ⟨hI, nm_r x4e ⟨hI, nm_r x5e (br_f (by decide) (br_f (by decide) (br_f (by decide) (br_f (by decide) (br_f (by decide) (br_f (by decide) (br_f (by decide) (br_f (by decide) (br_f (by decide) (br_f (by decide) (br_t (by decide) (⟨va36, nm_r (by rw [eka]; exact ena) (br_f nn0 ?_)⟩))))))))))))⟩⟩⟩⟩
          refine bx_only (na := na) (by omega) (by omega) hna ena I1 I2 _ (fun c => absurd c on1) (fun c => br_t rfl (br_t (nI_lt (b := 24) hL (by decide)) ⟨vp_in_nI (by omega) (by omega), ?_⟩))
          rw [nI_clamp (n := na) (by omega)]
          refine bx_make (by omega) _ _ ⟨4, ?_⟩
          refine bx_own1 (j := 0) (y := y0) _ (by omega) (by omega) (by omega) (by omega) (by rw [af_ze_out (Or.inl (by omega))]; exact ex0) ?_
          refine bx_own1 (j := 1) (y := y1) _ (by omega) (by omega) (by omega) (by omega) (by rw [pk_un (by omega), af_ze_out (Or.inl (by omega))]; exact ex1) ?_
          refine bx_own2 (y := y2) _ (by omega) (by omega) (by rw [pk_un (by omega), pk_un (by omega), af_ze_out (Or.inl (by omega))]; exact ex2) ?_
          exact K3 pt _ (br_f (by decide) ⟨vf, vf, nm_r (e' := upd pt f (nI (i + 1))) (by rw [ef, ei, nI_1]) ⟨rfl, hp⟩⟩)
        · unfold wpY_own
          refine ⟨vp_in_nI (by omega) (by omega), ?_⟩
          rw [nI_clamp (n := na) (by omega)]
          refine by_make (by omega) _ _ ⟨4, ?_⟩
          refine by_own1 (j := 0) (y := y0) _ (by omega) (by omega) (by omega) (by omega) (by rw [af_ze_out (Or.inl (by omega))]; exact ey0) ?_
          refine by_own1 (j := 1) (y := y1) _ (by omega) (by omega) (by omega) (by omega) (by rw [pk_un (by omega), af_ze_out (Or.inl (by omega))]; exact ey1) ?_
          refine by_own2 (y := y2) _ (by omega) (by omega) (by rw [pk_un (by omega), pk_un (by omega), af_ze_out (Or.inl (by omega))]; exact ey2) ?_
          exact K4 _ _ hp
      · refine ⟨f + 1, M, L, E, Q, 0, 0, 1, up, dn, h, lx, lo, al, rf, fX, fY, pe, td, ph, es, me, pt, va, ou, Or.inr (Or.inr ⟨rfl, rfl, rfl, rfl⟩), ⟨I1, I2, I3, by omega, by omega, by omega, I7, I8⟩, fun post hp => ?_, fun post hp => Yc post (fun z => by rcases z with z | z; omega; exact absurd ⟨a1, on1⟩ z) (fun _ _ => ⟨fun _ => hp, fun z => by omega⟩)⟩
        refine nm_r x1e ⟨vf, vf, nm_r x2e ⟨hI, nm_r x3e ⟨hI, nm_r x4e ⟨hI, nm_r x5e (br_f (by decide) (br_f (by decide) (br_f (by decide) (br_f (by decide) (br_f (by decide) (br_f (by decide) (br_f (by decide) (br_f (by decide) (br_f (by decide) (br_f (by decide) (br_t (by decide) (⟨va36, nm_r (by rw [eka]; exact ena) (br_f nn0 ?_)⟩))))))))))))⟩⟩⟩⟩
        exact bx_only (na := na) (by omega) (by omega) hna ena I1 I2 _ (fun c => absurd c on1) (fun c => br_t rfl (br_f (nI_nlt (b := 24) (by omega) (by omega)) (br_t rfl ⟨rfl, hp⟩)))
end
end
section
theorem af_ll_ze {h lx lo : Nat → Int32} (H : af_ll h lx lo) (b k : Nat) : af_ll (af_ze h b k) (af_ze lx b k) (af_ze lo b k) := by
  intro w
  by_cases c : b ≤ w ∧ w < b + k
  · rw [af_ze_in c.1 c.2, af_ze_in c.1 c.2, af_ze_in c.1 c.2]
    exact ⟨Or.inl rfl, fun _ => rfl, fun z => absurd rfl z⟩
  · rw [af_ze_out (by omega), af_ze_out (by omega), af_ze_out (by omega)]
    exact H w
section
variable {p : ap_T} {sh : Int32} {h lo me pt : Nat → Int32} {f m i : Nat}
theorem ag_F_leave (H : ap_OK p) (F : ag_F p sh (f + 1) h lo me pt) (f1 : 1 ≤ f) (h' lo' : Nat → Int32)
    (lw : ∀ w, w < 6 * f → (h' w = h w ∧ lo' w = lo w) ∨ (∃ m i, 1 ≤ f ∧ me (f - 1) = nI m ∧ pt (f - 1) = nI i ∧ w = 6 * (f - 1) + ap_A p (16 * m + i) ∧ lo' w = 0)) :
    ag_F p sh f h' lo' me (upd pt (f - 1) (pt (f - 1) + 1)) := by
  obtain ⟨F1, F2, F3⟩ := F
  have lw2 : ∀ w, w < 6 * (f - 1) → h' w = h w ∧ lo' w = lo w := by
    intro w hw
    rcases lw w (by omega) with q | ⟨m2, i2, _, _, _, q, _⟩
    · exact q
    · omega
  refine ⟨F1, fun s0 v hv => ?_, fun g hg => ?_⟩
  · rcases lw v hv with ⟨_, q⟩ | ⟨_, _, _, _, _, _, q⟩
    · rw [q]; exact F2 s0 v (by omega)
    · exact q
  · obtain ⟨m2, i2, q1, q2, q3, q4, q6, q5⟩ := F3 g (by omega)
    obtain ⟨z1, z2⟩ := q6 (by omega)
    have hz := H.2.1 m2
    have low : ∀ j, j < 6 → lo' (6 * g + j) ≠ 0 → ∃ w, w < 6 * g ∧ h' w = h' (6 * g + j) ∧ lo' w = 0 := by
      intro j hj hlo
      rcases lw (6 * g + j) (by omega) with ⟨t1, t2⟩ | ⟨_, _, _, _, _, _, t⟩
      · rw [t2] at hlo
        rcases q5 j hj hlo with ⟨w, w1, w2, w3⟩ | ⟨w, _⟩
        · obtain ⟨u1, u2⟩ := lw2 w (by omega)
          exact ⟨w, w1, by rw [u1, t1]; exact w2, by rw [u2]; exact w3⟩
        · omega
      · exact absurd t hlo
    by_cases c : g = f - 1
    · subst c
      exact ⟨m2, i2 + 1, q1, by omega, q3, by rw [pk_us, q4, nI_1], fun z => by omega, fun j hj hlo => Or.inl (low j hj hlo)⟩
    · exact ⟨m2, i2, q1, q2, q3, by rw [pk_un c]; exact q4, fun _ => ⟨z1, z2⟩, fun j hj hlo => Or.inl (low j hj hlo)⟩
theorem ag_F_call (F : ag_F p sh (f + 1) h lo me pt) (em : me f = nI m) (ei : pt f = nI i) (hm : m < 4) (hi : i < 16) (hll : ∀ v, lo v ≠ 0 → h v ≠ 0)
    (hnd : sh = 1 → ∀ j, j < 6 → h (6 * f + j) ≠ 0 → ap_nd p m i j) (hiz : i < ap_Z p m) (eo : ap_O p (16 * m + i) = 11) {B C nb : Nat} (hB : B < 6) (hC : C < 4) {h1 : Nat → Int32}
    (h1e : ∀ w, w ≠ 6 * f + B → h1 w = h w) (h1b : h1 (6 * f + B) = h (6 * f + B) ∨ lo (6 * f + B) = 0) (b : Int32) (hb : b ≠ 0 → sh ≠ 0 ∧ h1 = h ∧ h (6 * f + B) = nI nb) :
    ag_F p sh (f + 1 + 1) (upd (af_ze h1 (6 * (f + 1)) 6) (6 * (f + 1)) (nI nb)) (upd (af_ze lo (6 * (f + 1)) 6) (6 * (f + 1)) b) (upd me (f + 1) (nI C)) (upd pt (f + 1) 0) := by
  obtain ⟨F1, F2, F3⟩ := F
  have hlow : ∀ w, w < 6 * (f + 1) → upd (af_ze h1 (6 * (f + 1)) 6) (6 * (f + 1)) (nI nb) w = h1 w ∧ upd (af_ze lo (6 * (f + 1)) 6) (6 * (f + 1)) b w = lo w := by
    intro w hw
    rw [pk_un (by omega), pk_un (by omega), af_ze_out (by omega), af_ze_out (by omega)]
    exact ⟨rfl, rfl⟩
  have top : ∀ j, j < 6 → lo (6 * f + j) ≠ 0 → ∃ w, w < 6 * f ∧ h w = h (6 * f + j) ∧ lo w = 0 := by
    intro j hj hlo
    obtain ⟨m2, i2, q1, q2, q3, q4, _, q5⟩ := F3 f (by omega)
    have e1 : m2 = m := (nI_eq (by omega) (by omega)).mp (q3.symm.trans em)
    have e2 : i2 = i := (nI_eq (by omega) (by omega)).mp (q4.symm.trans ei)
    subst e1 e2
    rcases q5 j hj hlo with w | ⟨_, w⟩
    · exact w
    · have s1 : sh = 1 := by
        rcases F1 with z | z
        · exact absurd (F2 z (6 * f + j) (by omega)) hlo
        · exact z
      have := ap_LR_2 (w hiz) (hnd s1 j hj (hll _ hlo))
      unfold ap_al at this
      omega
  refine ⟨F1, fun s0 v hv => ?_, fun g hg => ?_⟩
  · by_cases c : v < 6 * (f + 1)
    · rw [(hlow v c).2]; exact F2 s0 v c
    · by_cases c2 : v = 6 * (f + 1)
      · subst c2
        rw [pk_us]
        apply Classical.byContradiction
        intro z
        exact (hb z).1 s0
      · rw [pk_un c2]; exact af_ze_in (by omega) (by omega)
  · by_cases c : g = f + 1
    · subst c
      refine ⟨C, 0, hC, by omega, pk_us, pk_us, fun z => by omega, fun j hj hlo => ?_⟩
      by_cases j0 : j = 0
      · subst j0
        rw [show 6 * (f + 1) + 0 = 6 * (f + 1) from rfl, pk_us] at hlo
        rw [show 6 * (f + 1) + 0 = 6 * (f + 1) from rfl, pk_us]
        obtain ⟨b1, b2, b3⟩ := hb hlo
        subst b2
        by_cases cl : lo (6 * f + B) = 0
        · exact Or.inl ⟨6 * f + B, by omega, by rw [(hlow _ (by omega)).1]; exact b3, by rw [(hlow _ (by omega)).2]; exact cl⟩
        · obtain ⟨w, w1, w2, w3⟩ := top B hB cl
          exact Or.inl ⟨w, by omega, by rw [(hlow w (by omega)).1, w2]; exact b3, by rw [(hlow w (by omega)).2]; exact w3⟩
      · rw [pk_un (by omega), af_ze_in (by omega) (by omega)] at hlo
        exact absurd rfl hlo
    · by_cases c2 : g = f
      · subst c2
        refine ⟨m, i, hm, by omega, by rw [pk_un (by omega)]; exact em, by rw [pk_un (by omega)]; exact ei, fun _ => ⟨hiz, eo⟩, fun j hj hlo => Or.inl ?_⟩
        rw [(hlow _ (by omega)).2] at hlo
        obtain ⟨w, w1, w2, w3⟩ := top j hj hlo
        have hj' : h1 (6 * g + j) = h (6 * g + j) := by
          by_cases jb : j = B
          · subst jb
            rcases h1b with q | q
            · exact q
            · exact absurd q hlo
          · exact h1e _ (by omega)
        exact ⟨w, w1, by rw [(hlow w (by omega)).1, (hlow _ (by omega)).1, hj', h1e w (by omega)]; exact w2, by rw [(hlow w (by omega)).2]; exact w3⟩
      · obtain ⟨m2, i2, q1, q2, q3, q4, q6, q5⟩ := F3 g (by omega)
        refine ⟨m2, i2, q1, q2, by rw [pk_un (by omega)]; exact q3, by rw [pk_un (by omega)]; exact q4, fun _ => q6 (by omega), fun j hj hlo => ?_⟩
        rw [(hlow _ (by omega)).2] at hlo
        rcases q5 j hj hlo with ⟨w, w1, w2, w3⟩ | ⟨w, _⟩
        · exact Or.inl ⟨w, w1, by rw [(hlow w (by omega)).1, (hlow (6 * g + j) (by omega)).1, h1e w (by omega), h1e (6 * g + j) (by omega)]; exact w2, by rw [(hlow w (by omega)).2]; exact w3⟩
        · omega
end
section
variable {p : ap_T} {kn po en up dn bg lv md gX gY dp sa sh oc rn : Int32} {sA sB N P K R NY PY KY me pt h lx lo va rf al fX fY pe ou es td ph : Nat → Int32}
variable {f m i M L E Q B d : Nat}
theorem by_give {v n : Nat} (hv : v < 36) (hn : n ≤ 300) (en' : h v = nI n) {h' : Nat → Int32} {up' : Int32}
    (hc : (sh ≠ 0 ∧ lo v = 0 ∧ h' = upd h v 0 ∧ up' = up) ∨ (¬ (sh ≠ 0 ∧ lo v = 0) ∧ h' = h ∧ up' = if n = 0 then up else up + 1)) (post : SY → Prop)
    (hp : post (kn, md, lv, up', dn, dp, bg, nI n, oc, sh, rn, po, en, ap_oo p, sA, sB, ap_c p, ap_sz p, ap_L p, NY, PY, KY, va, fY, al, me, pt, h', lo, ou, es, td, ph)) : wpY_give post (kn, md, lv, up, dn, dp, bg, gY, oc, sh, rn, po, en, ap_oo p, sA, sB, ap_c p, ap_sz p, ap_L p, NY, PY, KY, va, fY, al, me, pt, h, lo, ou, es, td, ph) (nI v) := by
  have vi : vp_in (nI v) 36 := vp_in_nI hv (by omega)
  have ek : (nI v).toNatClampNeg = v := nI_clamp (by omega)
  refine ⟨vi, nm_r (e' := nI n) (by rw [ek]; exact en') ?_⟩
  rcases hc with ⟨c1, c3, e1, e2⟩ | ⟨c, e1, e2⟩
  · refine br_f c1 ⟨vi, br_t (by rw [ek]; exact c3) ⟨vi, nm_r (e' := upd h v 0) (by rw [ek]) ?_⟩⟩
    rw [e1, e2] at hp; exact hp
  · have p0 : n = 0 → post (kn, md, lv, up, dn, dp, bg, nI n, oc, sh, rn, po, en, ap_oo p, sA, sB, ap_c p, ap_sz p, ap_L p, NY, PY, KY, va, fY, al, me, pt, h, lo, ou, es, td, ph) := fun z => by rw [e1, e2, if_pos z] at hp; exact hp
    have p1 : 1 ≤ n → post (kn, md, lv, up + 1, dn, dp, bg, nI n, oc, sh, rn, po, en, ap_oo p, sA, sB, ap_c p, ap_sz p, ap_L p, NY, PY, KY, va, fY, al, me, pt, h, lo, ou, es, td, ph) := fun z => by rw [e1, e2, if_neg (by omega)] at hp; exact hp
    by_cases c1 : sh = 0
    · exact br_t c1 (by_more hn _ p0 p1)
    · refine br_f c1 ⟨vi, ?_⟩
      rw [ek]
      exact br_c (fun c3 => absurd ⟨c1, c3⟩ c) (fun c3 => by_more hn _ p0 p1)
theorem bz_op12 (H : ap_OK p) (hAB : ap_AB p sA sB) (hA : ag_A p N P NY PY) (I : ag_I p sh (f + 1) M L E Q B 0 h lx lo al rf fX fY me pt va) (hB : B < 300) (em : me f = nI m) (ei : pt f = nI i) (hm : m < 4) (hiz : i < ap_Z p m)
    (hnd : sh = 1 → ∀ j, j < 6 → h (6 * f + j) ≠ 0 → ap_nd p m i j) (eo : ap_O p (16 * m + i) = 12) :
    ∃ (d' M' L' E' Q' g' : Nat) (r' oc' up' dn' : Int32) (h' lx' lo' al' rf' fX' fY' pe' td' ph' es' me' pt' va' ou' : Nat → Int32),
      ((r' = 1 ∧ oc' = -1 ∧ 1 ≤ d' ∧ g' = 0) ∨ (r' = 1 ∧ oc' = 0 ∧ d' = 0) ∨ (r' = 0 ∧ oc' = 1 ∧ d' = f + 1 ∧ g' = 0)) ∧ ag_I p sh d' M' L' E' Q' (B + 1) g' h' lx' lo' al' rf' fX' fY' me' pt' va' ∧
      (∀ post : Int32 → SX → Prop, post r' (nI Q', nI E', up', dn', nI (B + 1), nI L', nI M', nI g', nI d', sa, sh, ap_sz p, ap_L p, ap_oo p, ap_aA p, ap_aB p, ap_c p, N, P, K, R, me', pt', h', lx', va', rf', al', fX', pe', ou', es') → wpX_perform post (nI Q, nI E, up, dn, nI (B + 1), nI L, nI M, nI 0, nI (f + 1), sa, sh, ap_sz p, ap_L p, ap_oo p, ap_aA p, ap_aB p, ap_c p, N, P, K, R, me, pt, h, lx, va, rf, al, fX, pe, ou, es)) ∧
      (∀ post : SY → Prop, post (kn, nI M', nI L', up', dn', nI d', nI (B + 1), nI g', oc', sh, rn, nI Q', nI E', ap_oo p, sA, sB, ap_c p, ap_sz p, ap_L p, NY, PY, KY, va', fY', al', me', pt', h', lo', ou', es', td', ph') → wpY_carryOut post (kn, nI M, nI L, up, dn, nI (f + 1), nI (B + 1), nI 0, (-1), sh, rn, nI Q, nI E, ap_oo p, sA, sB, ap_c p, ap_sz p, ap_L p, NY, PY, KY, va, fY, al, me, pt, h, lo, ou, es, td, ph) (nI (6 * f)) (nI (16 * m + i))) := by
  obtain ⟨I1, I2, I3, I4, I5, I6, I7, I8⟩ := id I
  obtain ⟨hLc, hL24, hEL, hM, hd⟩ := I1.2.2.2.2.2.2.1
  have hL24' : L + 0 ≤ 24 := hL24
  have hz := H.2.1 m
  have hf : f < 6 := by omega
  have hi : i < 16 := by omega
  have hk : 16 * m + i < 64 := by omega
  have hI : vp_in (nI (16 * m + i)) 64 := vp_in_nI hk (by omega)
  have ek : (nI (16 * m + i)).toNatClampNeg = 16 * m + i := nI_clamp (by omega)
  have h14 := H.1 (16 * m + i)
  have hAA := h14.2.1
  have hBB := h14.2.2.1
  have vf : vp_in (nI f) 6 := vp_in_nI hf (by omega)
  have ef : (nI f).toNatClampNeg = f := nI_clamp (by omega)
  have x1e : nI (f + 1) - 1 = nI f := nI_pred f
  have x2e : me (nI f).toNatClampNeg * 16 + pt (nI f).toNatClampNeg = nI (16 * m + i) := by rw [ef, em, ei, ap_xk]
  have f6 : nI f * 6 = nI (6 * f) := by
    have : nI f * 6 = nI (f * 6) := pk_mul f 6
    rw [this, Nat.mul_comm]
  have x3e : nI f * 6 + ap_aA p (nI (16 * m + i)).toNatClampNeg = nI (6 * f + ap_A p (16 * m + i)) := by rw [ap_aAk p hk, f6, nI_add]
  have x4e : nI f * 6 + ap_aB p (nI (16 * m + i)).toNatClampNeg = nI (6 * f + ap_B p (16 * m + i)) := by rw [ap_aBk p hk, f6, nI_add]
  have x5e : ap_oo p (nI (16 * m + i)).toNatClampNeg = (12 : Int32) := by rw [ap_ook p hk, eo]; rfl
  obtain ⟨na, hna, ena⟩ := I1.2.2.2.1 (6 * f + ap_A p (16 * m + i)) (by omega)
  obtain ⟨nb, hnb, enb⟩ := I1.2.2.2.1 (6 * f + ap_B p (16 * m + i)) (by omega)
  have va36 : vp_in (nI (6 * f + ap_A p (16 * m + i))) 36 := vp_in_nI (by omega) (by omega)
  have vb36 : vp_in (nI (6 * f + ap_B p (16 * m + i))) 36 := vp_in_nI (by omega) (by omega)
  have eka : (nI (6 * f + ap_A p (16 * m + i))).toNatClampNeg = 6 * f + ap_A p (16 * m + i) := nI_clamp (by omega)
  have ekb : (nI (6 * f + ap_B p (16 * m + i))).toNatClampNeg = 6 * f + ap_B p (16 * m + i) := nI_clamp (by omega)
  have eP : P (16 * m + i) = PY (16 * m + i) := ap_Pl_u ((hA m hm).2.1 i hiz) ((hA m hm).2.2.2 i hiz)
  have eg : ∀ x : Nat, (if nI x = 0 then (0 : Int32) else 0) = 0 := fun x => by split <;> rfl
  have nal : ¬ ap_al p (16 * m + i) := fun z => by unfold ap_al at z; omega
  have alA := ag_alive (n := na) I1 I8 em ei hm hi hnd hiz nal hAA ena hna
  have alB := ag_alive (n := nb) I1 I8 em ei hm hi hnd hiz nal hBB enb hnb
  have hfr : 1 ≤ f → ∃ m i, m < 4 ∧ i < 16 ∧ me (f - 1) = nI m ∧ pt (f - 1) = nI i ∧ ap_O p (16 * m + i) = 11 := by
    intro f1
    obtain ⟨m2, i2, q1, q2, q3, q4, q5, _⟩ := I8.2.2 (f - 1) (by omega)
    have z2 := H.2.1 m2
    obtain ⟨q6, q7⟩ := q5 (by omega)
    exact ⟨m2, i2, q1, by omega, q3, q4, q7⟩
  obtain ⟨h1, rf1, up1, T1, T2, T3, T4, T5⟩ := bz_take (p := p) (po := nI Q) (up := up) (bg := nI (B + 1)) (gX := nI 0) (sa := sa) (sh := sh) (N := N) (P := P) (K := K) (R := R) (me := me) (h := h) (lx := lx) (va := va) (ou := ou) (gY := nI 0) (lo := lo) (dn := dn) (pe := pe) (es := es) (pt := pt) (v := 6 * f + ap_A p (16 * m + i)) (n := na) 1 I1 (by omega) ena hna alA I2
  obtain ⟨h', lx', lo', al', rf', fX', fY', pe', td', ph', es', L', E', dn', V1, V2, V3⟩ := bz_leave (p := p) (po := nI Q) (up := up1) (bg := nI (B + 1)) (gX := nI 0) (sa := sa) (sh := sh) (N := N) (P := P) (K := K) (R := R) (me := me) (h := h1) (lx := lx) (va := va) (ou := ou) (kn := kn) (oc := (-1)) (rn := rn) (lo := lo) (sA := sA) (sB := sB) (NY := NY) (PY := PY) (KY := KY) (dn := dn) (pe := pe) (td := td) (ph := ph) (es := es) (pt := pt) (f := f) H hAB hf hna (ac_giv T1 hna) T2 hfr
  have V2' : ∀ w, w < 6 * f → (h' w = h w ∧ lo' w = lo w) ∨ (∃ m i, 1 ≤ f ∧ me (f - 1) = nI m ∧ pt (f - 1) = nI i ∧ w = 6 * (f - 1) + ap_A p (16 * m + i) ∧ lo' w = 0) := by
    intro w hw
    have := V2 w hw
    rw [T3 w (by omega)] at this
    exact this
  have Yw : ∀ post : SY → Prop, wpY_leave (fun u => post u) (kn, nI M, nI L, up1, dn, nI (f + 1), nI (B + 1), nI na, (-1), sh, rn, nI Q, nI E, ap_oo p, sA, sB, ap_c p, ap_sz p, ap_L p, NY, PY, KY, va, fY, al, me, pt, h1, lo, ou, es, td, ph) → wpY_carryOut post (kn, nI M, nI L, up, dn, nI (f + 1), nI (B + 1), nI 0, (-1), sh, rn, nI Q, nI E, ap_oo p, sA, sB, ap_c p, ap_sz p, ap_L p, NY, PY, KY, va, fY, al, me, pt, h, lo, ou, es, td, ph) (nI (6 * f)) (nI (16 * m + i)) := by
    intro post K
    refine by_pre hAB hf hk hAA (by omega) (by omega) (by omega) post ?_
    rw [ena, eo]
    refine by_58 (by omega) post _ _ _ _ _ (fun z => by omega) (fun z => by omega) (fun z => by omega) (fun z => by omega) (by_134 hM (by omega) (by omega) (by omega) post _ _ _ _ _ (fun z _ => ?_))
    refine br_f (by decide) (br_t rfl (br_f (by decide) (br_t (by decide) (br_t (by decide) ?_))))
    refine by_give (v := 6 * f + ap_A p (16 * m + i)) (n := na) (h' := h1) (up' := up1) (by omega) (by omega) ena ?_ _ K
    rcases T4 with ⟨q1, q2, q3⟩ | ⟨q1, q2⟩
    · exact Or.inl ⟨q1, q3⟩
    · exact Or.inr ⟨fun z => q1 ⟨z.1, by decide, z.2⟩, q2⟩
  rcases V3 with ⟨f0, V4, V5, V6⟩ | ⟨f1, V4, V5, V6⟩
  · refine ⟨0, M, L', E', Q, na, 1, 0, up1, dn', h', lx', lo', al', rf', fX', fY', pe', td', ph', es', me, pt, va, ou, Or.inr (Or.inl ⟨rfl, rfl, rfl⟩), ⟨V4, V1, I3, by omega, by omega, by omega, by omega, ⟨I8.1, fun _ v hv => by omega, fun g hg => by omega⟩⟩, fun post hp => ?_, fun post hp => ?_⟩
    · exact nm_r x1e ⟨vf, vf, nm_r x2e ⟨hI, nm_r x3e ⟨hI, nm_r x4e ⟨hI, nm_r x5e (br_f (by decide) (br_f (by decide) (br_f (by decide) (br_f (by decide) (br_f (by decide) (br_f (by decide) (br_f (by decide) (br_f (by decide) (br_f (by decide) (br_f (by decide) (br_f (by decide) (br_f (by decide) (br_f (by decide) (br_f (by decide) (br_t (by decide) (T5 _ (V5 _ hp)))))))))))))))))⟩⟩⟩⟩
    · exact Yw post (V6 _ hp)
  · refine ⟨f, M, L', E', Q, 0, 1, -1, up1, dn', h', lx', lo', al', rf', fX', fY', pe', td', ph', es', me, upd pt (f - 1) (pt (f - 1) + 1), va, ou, Or.inl ⟨rfl, rfl, f1, rfl⟩, ⟨V4, V1, I3, by omega, by omega, by omega, by omega, ag_F_leave H I8 f1 h' lo' V2'⟩, fun post hp => ?_, fun post hp => ?_⟩
    · exact nm_r x1e ⟨vf, vf, nm_r x2e ⟨hI, nm_r x3e ⟨hI, nm_r x4e ⟨hI, nm_r x5e (br_f (by decide) (br_f (by decide) (br_f (by decide) (br_f (by decide) (br_f (by decide) (br_f (by decide) (br_f (by decide) (br_f (by decide) (br_f (by decide) (br_f (by decide) (br_f (by decide) (br_f (by decide) (br_f (by decide) (br_f (by decide) (br_t (by decide) (T5 _ (V5 _ hp)))))))))))))))))⟩⟩⟩⟩
    · exact Yw post (V6 _ hp)
theorem bz_op13 (H : ap_OK p) (hAB : ap_AB p sA sB) (hA : ag_A p N P NY PY) (I : ag_I p sh (f + 1) M L E Q B 0 h lx lo al rf fX fY me pt va) (hB : B < 300) (em : me f = nI m) (ei : pt f = nI i) (hm : m < 4) (hiz : i < ap_Z p m)
    (hnd : sh = 1 → ∀ j, j < 6 → h (6 * f + j) ≠ 0 → ap_nd p m i j) (eo : ap_O p (16 * m + i) = 13) :
    ∃ (d' M' L' E' Q' g' : Nat) (r' oc' up' dn' : Int32) (h' lx' lo' al' rf' fX' fY' pe' td' ph' es' me' pt' va' ou' : Nat → Int32),
      ((r' = 1 ∧ oc' = -1 ∧ 1 ≤ d' ∧ g' = 0) ∨ (r' = 1 ∧ oc' = 0 ∧ d' = 0) ∨ (r' = 0 ∧ oc' = 1 ∧ d' = f + 1 ∧ g' = 0)) ∧ ag_I p sh d' M' L' E' Q' (B + 1) g' h' lx' lo' al' rf' fX' fY' me' pt' va' ∧
      (∀ post : Int32 → SX → Prop, post r' (nI Q', nI E', up', dn', nI (B + 1), nI L', nI M', nI g', nI d', sa, sh, ap_sz p, ap_L p, ap_oo p, ap_aA p, ap_aB p, ap_c p, N, P, K, R, me', pt', h', lx', va', rf', al', fX', pe', ou', es') → wpX_perform post (nI Q, nI E, up, dn, nI (B + 1), nI L, nI M, nI 0, nI (f + 1), sa, sh, ap_sz p, ap_L p, ap_oo p, ap_aA p, ap_aB p, ap_c p, N, P, K, R, me, pt, h, lx, va, rf, al, fX, pe, ou, es)) ∧
      (∀ post : SY → Prop, post (kn, nI M', nI L', up', dn', nI d', nI (B + 1), nI g', oc', sh, rn, nI Q', nI E', ap_oo p, sA, sB, ap_c p, ap_sz p, ap_L p, NY, PY, KY, va', fY', al', me', pt', h', lo', ou', es', td', ph') → wpY_carryOut post (kn, nI M, nI L, up, dn, nI (f + 1), nI (B + 1), nI 0, (-1), sh, rn, nI Q, nI E, ap_oo p, sA, sB, ap_c p, ap_sz p, ap_L p, NY, PY, KY, va, fY, al, me, pt, h, lo, ou, es, td, ph) (nI (6 * f)) (nI (16 * m + i))) := by
  obtain ⟨I1, I2, I3, I4, I5, I6, I7, I8⟩ := id I
  obtain ⟨hLc, hL24, hEL, hM, hd⟩ := I1.2.2.2.2.2.2.1
  have hL24' : L + 0 ≤ 24 := hL24
  have hz := H.2.1 m
  have hf : f < 6 := by omega
  have hi : i < 16 := by omega
  have hk : 16 * m + i < 64 := by omega
  have hI : vp_in (nI (16 * m + i)) 64 := vp_in_nI hk (by omega)
  have ek : (nI (16 * m + i)).toNatClampNeg = 16 * m + i := nI_clamp (by omega)
  have h14 := H.1 (16 * m + i)
  have hAA := h14.2.1
  have hBB := h14.2.2.1
  have vf : vp_in (nI f) 6 := vp_in_nI hf (by omega)
  have ef : (nI f).toNatClampNeg = f := nI_clamp (by omega)
  have x1e : nI (f + 1) - 1 = nI f := nI_pred f
  have x2e : me (nI f).toNatClampNeg * 16 + pt (nI f).toNatClampNeg = nI (16 * m + i) := by rw [ef, em, ei, ap_xk]
  have f6 : nI f * 6 = nI (6 * f) := by
    have : nI f * 6 = nI (f * 6) := pk_mul f 6
    rw [this, Nat.mul_comm]
  have x3e : nI f * 6 + ap_aA p (nI (16 * m + i)).toNatClampNeg = nI (6 * f + ap_A p (16 * m + i)) := by rw [ap_aAk p hk, f6, nI_add]
  have x4e : nI f * 6 + ap_aB p (nI (16 * m + i)).toNatClampNeg = nI (6 * f + ap_B p (16 * m + i)) := by rw [ap_aBk p hk, f6, nI_add]
  have x5e : ap_oo p (nI (16 * m + i)).toNatClampNeg = (13 : Int32) := by rw [ap_ook p hk, eo]; rfl
  obtain ⟨na, hna, ena⟩ := I1.2.2.2.1 (6 * f + ap_A p (16 * m + i)) (by omega)
  obtain ⟨nb, hnb, enb⟩ := I1.2.2.2.1 (6 * f + ap_B p (16 * m + i)) (by omega)
  have va36 : vp_in (nI (6 * f + ap_A p (16 * m + i))) 36 := vp_in_nI (by omega) (by omega)
  have vb36 : vp_in (nI (6 * f + ap_B p (16 * m + i))) 36 := vp_in_nI (by omega) (by omega)
  have eka : (nI (6 * f + ap_A p (16 * m + i))).toNatClampNeg = 6 * f + ap_A p (16 * m + i) := nI_clamp (by omega)
  have ekb : (nI (6 * f + ap_B p (16 * m + i))).toNatClampNeg = 6 * f + ap_B p (16 * m + i) := nI_clamp (by omega)
  have eP : P (16 * m + i) = PY (16 * m + i) := ap_Pl_u ((hA m hm).2.1 i hiz) ((hA m hm).2.2.2 i hiz)
  have eg : ∀ x : Nat, (if nI x = 0 then (0 : Int32) else 0) = 0 := fun x => by split <;> rfl
  have hfr : 1 ≤ f → ∃ m i, m < 4 ∧ i < 16 ∧ me (f - 1) = nI m ∧ pt (f - 1) = nI i ∧ ap_O p (16 * m + i) = 11 := by
    intro f1
    obtain ⟨m2, i2, q1, q2, q3, q4, q5, _⟩ := I8.2.2 (f - 1) (by omega)
    have z2 := H.2.1 m2
    obtain ⟨q6, q7⟩ := q5 (by omega)
    exact ⟨m2, i2, q1, by omega, q3, q4, q7⟩
  obtain ⟨h', lx', lo', al', rf', fX', fY', pe', td', ph', es', L', E', dn', V1, V2', V3⟩ := bz_leave (p := p) (po := nI Q) (up := up) (bg := nI (B + 1)) (gX := nI 0) (sa := sa) (sh := sh) (N := N) (P := P) (K := K) (R := R) (me := me) (h := h) (lx := lx) (va := va) (ou := ou) (kn := kn) (oc := (-1)) (rn := rn) (lo := lo) (sA := sA) (sB := sB) (NY := NY) (PY := PY) (KY := KY) (dn := dn) (pe := pe) (td := td) (ph := ph) (es := es) (pt := pt) (f := f) (g := 0) H hAB hf (Nat.zero_le _) I1 I2 hfr
  have Yw : ∀ post : SY → Prop, wpY_leave (fun u => post u) (kn, nI M, nI L, up, dn, nI (f + 1), nI (B + 1), nI 0, (-1), sh, rn, nI Q, nI E, ap_oo p, sA, sB, ap_c p, ap_sz p, ap_L p, NY, PY, KY, va, fY, al, me, pt, h, lo, ou, es, td, ph) → wpY_carryOut post (kn, nI M, nI L, up, dn, nI (f + 1), nI (B + 1), nI 0, (-1), sh, rn, nI Q, nI E, ap_oo p, sA, sB, ap_c p, ap_sz p, ap_L p, NY, PY, KY, va, fY, al, me, pt, h, lo, ou, es, td, ph) (nI (6 * f)) (nI (16 * m + i)) := by
    intro post K
    refine ⟨hI, nm_r (ap_ook p hk) ⟨hI, nm_e ⟨hI, nm_e ⟨hI, nm_r (ap_ck p hk) ?_⟩⟩⟩⟩
    rw [eo]
    refine br_f (by decide) (br_t (by decide) ?_)
    exact by_58 (o := 13) (by omega) post _ _ _ _ _ (fun z => by omega) (fun z => by omega) (fun z => by omega) (fun z => by omega) (br_t (by decide) (br_f (by decide) (br_t rfl (br_f (by decide) (br_f (by decide) (br_t (by decide) (br_f (by decide) K)))))))
  rcases V3 with ⟨f0, V4, V5, V6⟩ | ⟨f1, V4, V5, V6⟩
  · refine ⟨0, M, L', E', Q, 0, 1, 0, up, dn', h', lx', lo', al', rf', fX', fY', pe', td', ph', es', me, pt, va, ou, Or.inr (Or.inl ⟨rfl, rfl, rfl⟩), ⟨V4, V1, I3, by omega, by omega, by omega, by omega, ⟨I8.1, fun _ v hv => by omega, fun g hg => by omega⟩⟩, fun post hp => ?_, fun post hp => ?_⟩
    · exact nm_r x1e ⟨vf, vf, nm_r x2e ⟨hI, nm_r x3e ⟨hI, nm_r x4e ⟨hI, nm_r x5e (br_f (by decide) (br_t (by decide) (V5 _ hp)))⟩⟩⟩⟩
    · exact Yw post (V6 _ hp)
  · refine ⟨f, M, L', E', Q, 0, 1, -1, up, dn', h', lx', lo', al', rf', fX', fY', pe', td', ph', es', me, upd pt (f - 1) (pt (f - 1) + 1), va, ou, Or.inl ⟨rfl, rfl, f1, rfl⟩, ⟨V4, V1, I3, by omega, by omega, by omega, by omega, ag_F_leave H I8 f1 h' lo' V2'⟩, fun post hp => ?_, fun post hp => ?_⟩
    · exact nm_r x1e ⟨vf, vf, nm_r x2e ⟨hI, nm_r x3e ⟨hI, nm_r x4e ⟨hI, nm_r x5e (br_f (by decide) (br_t (by decide) (V5 _ hp)))⟩⟩⟩⟩
    · exact Yw post (V6 _ hp)
end
end
section
section
variable {p : ap_T} {kn po en up dn bg lv md gX gY dp sa sh oc rn : Int32} {sA sB N P K R NY PY KY me pt h lx lo va rf al fX fY pe ou es td ph : Nat → Int32}
variable {f m i M L E Q B d : Nat}
theorem bz_op11 (H : ap_OK p) (hAB : ap_AB p sA sB) (hA : ag_A p N P NY PY) (I : ag_I p sh (f + 1) M L E Q B 0 h lx lo al rf fX fY me pt va) (hB : B < 300) (em : me f = nI m) (ei : pt f = nI i) (hm : m < 4) (hiz : i < ap_Z p m)
    (hnd : sh = 1 → ∀ j, j < 6 → h (6 * f + j) ≠ 0 → ap_nd p m i j) (eo : ap_O p (16 * m + i) = 11) :
    ∃ (d' M' L' E' Q' g' : Nat) (r' oc' up' dn' : Int32) (h' lx' lo' al' rf' fX' fY' pe' td' ph' es' me' pt' va' ou' : Nat → Int32),
      ((r' = 1 ∧ oc' = -1 ∧ 1 ≤ d' ∧ g' = 0) ∨ (r' = 1 ∧ oc' = 0 ∧ d' = 0) ∨ (r' = 0 ∧ oc' = 1 ∧ d' = f + 1 ∧ g' = 0)) ∧ ag_I p sh d' M' L' E' Q' (B + 1) g' h' lx' lo' al' rf' fX' fY' me' pt' va' ∧
      (∀ post : Int32 → SX → Prop, post r' (nI Q', nI E', up', dn', nI (B + 1), nI L', nI M', nI g', nI d', sa, sh, ap_sz p, ap_L p, ap_oo p, ap_aA p, ap_aB p, ap_c p, N, P, K, R, me', pt', h', lx', va', rf', al', fX', pe', ou', es') → wpX_perform post (nI Q, nI E, up, dn, nI (B + 1), nI L, nI M, nI 0, nI (f + 1), sa, sh, ap_sz p, ap_L p, ap_oo p, ap_aA p, ap_aB p, ap_c p, N, P, K, R, me, pt, h, lx, va, rf, al, fX, pe, ou, es)) ∧
      (∀ post : SY → Prop, post (kn, nI M', nI L', up', dn', nI d', nI (B + 1), nI g', oc', sh, rn, nI Q', nI E', ap_oo p, sA, sB, ap_c p, ap_sz p, ap_L p, NY, PY, KY, va', fY', al', me', pt', h', lo', ou', es', td', ph') → wpY_carryOut post (kn, nI M, nI L, up, dn, nI (f + 1), nI (B + 1), nI 0, (-1), sh, rn, nI Q, nI E, ap_oo p, sA, sB, ap_c p, ap_sz p, ap_L p, NY, PY, KY, va, fY, al, me, pt, h, lo, ou, es, td, ph) (nI (6 * f)) (nI (16 * m + i))) := by
  obtain ⟨I1, I2, I3, I4, I5, I6, I7, I8⟩ := id I
  obtain ⟨hLc, hL24, hEL, hM, hd⟩ := I1.2.2.2.2.2.2.1
  have hL24' : L + 0 ≤ 24 := hL24
  have hz := H.2.1 m
  have hf : f < 6 := by omega
  have hi : i < 16 := by omega
  have hk : 16 * m + i < 64 := by omega
  have hI : vp_in (nI (16 * m + i)) 64 := vp_in_nI hk (by omega)
  have ek : (nI (16 * m + i)).toNatClampNeg = 16 * m + i := nI_clamp (by omega)
  have h14 := H.1 (16 * m + i)
  have hAA := h14.2.1
  have hBB := h14.2.2.1
  have vf : vp_in (nI f) 6 := vp_in_nI hf (by omega)
  have ef : (nI f).toNatClampNeg = f := nI_clamp (by omega)
  have x1e : nI (f + 1) - 1 = nI f := nI_pred f
  have x2e : me (nI f).toNatClampNeg * 16 + pt (nI f).toNatClampNeg = nI (16 * m + i) := by rw [ef, em, ei, ap_xk]
  have f6 : nI f * 6 = nI (6 * f) := by
    have : nI f * 6 = nI (f * 6) := pk_mul f 6
    rw [this, Nat.mul_comm]
  have x3e : nI f * 6 + ap_aA p (nI (16 * m + i)).toNatClampNeg = nI (6 * f + ap_A p (16 * m + i)) := by rw [ap_aAk p hk, f6, nI_add]
  have x4e : nI f * 6 + ap_aB p (nI (16 * m + i)).toNatClampNeg = nI (6 * f + ap_B p (16 * m + i)) := by rw [ap_aBk p hk, f6, nI_add]
  have x5e : ap_oo p (nI (16 * m + i)).toNatClampNeg = (11 : Int32) := by rw [ap_ook p hk, eo]; rfl
  obtain ⟨na, hna, ena⟩ := I1.2.2.2.1 (6 * f + ap_A p (16 * m + i)) (by omega)
  obtain ⟨nb, hnb, enb⟩ := I1.2.2.2.1 (6 * f + ap_B p (16 * m + i)) (by omega)
  have va36 : vp_in (nI (6 * f + ap_A p (16 * m + i))) 36 := vp_in_nI (by omega) (by omega)
  have vb36 : vp_in (nI (6 * f + ap_B p (16 * m + i))) 36 := vp_in_nI (by omega) (by omega)
  have eka : (nI (6 * f + ap_A p (16 * m + i))).toNatClampNeg = 6 * f + ap_A p (16 * m + i) := nI_clamp (by omega)
  have ekb : (nI (6 * f + ap_B p (16 * m + i))).toNatClampNeg = 6 * f + ap_B p (16 * m + i) := nI_clamp (by omega)
  have eP : P (16 * m + i) = PY (16 * m + i) := ap_Pl_u ((hA m hm).2.1 i hiz) ((hA m hm).2.2.2 i hiz)
  have eg : ∀ x : Nat, (if nI x = 0 then (0 : Int32) else 0) = 0 := fun x => by split <;> rfl
  have on : ap_on p (16 * m + i) := ⟨by omega, by omega, by omega⟩
  have scn : i + 1 < ap_Z p m → ap_sc p m i (i + 1) := fun z => ⟨z, Or.inl ⟨on, rfl⟩⟩
  have y5e : nI (6 * f) + sB (16 * m + i) = nI (6 * f + ap_B p (16 * m + i)) := by rw [(hAB (16 * m + i)).2 (by omega), nI_add]
  have nal : ¬ ap_al p (16 * m + i) := fun z => by unfold ap_al at z; omega
  have alA := ag_alive (n := na) I1 I8 em ei hm hi hnd hiz nal hAA ena hna
  have alB := ag_alive (n := nb) I1 I8 em ei hm hi hnd hiz nal hBB enb hnb
  obtain ⟨ec, lc⟩ := h14.2.2.2.2.2 eo
  have ecx : ap_c p (nI (16 * m + i)).toNatClampNeg = nI (ap_C p (16 * m + i)) := by rw [ap_ck p hk]; exact ec
  have vC : vp_in (nI (ap_C p (16 * m + i))) 4 := vp_in_nI lc (by omega)
  have zC := H.2.1 (ap_C p (16 * m + i))
  have esz : ap_sz p (nI (ap_C p (16 * m + i))).toNatClampNeg = nI (ap_Z p (ap_C p (16 * m + i))) := ap_szm p lc
  by_cases d6 : f + 1 = 6
  · refine ⟨f + 1, M, L, E, Q, 0, 0, 1, up, dn, h, lx, lo, al, rf, fX, fY, pe, td, ph, es, me, pt, va, ou, Or.inr (Or.inr ⟨rfl, rfl, rfl, rfl⟩), ⟨I1, I2, I3, by omega, by omega, by omega, I7, I8⟩, fun post hp => ?_, fun post hp => ?_⟩
    · exact nm_r x1e ⟨vf, vf, nm_r x2e ⟨hI, nm_r x3e ⟨hI, nm_r x4e ⟨hI, nm_r x5e (br_f (by decide) (br_f (by decide) (br_f (by decide) (br_f (by decide) (br_f (by decide) (br_f (by decide) (br_f (by decide) (br_f (by decide) (br_f (by decide) (br_f (by decide) (br_f (by decide) (br_f (by decide) (br_f (by decide) (br_t (by decide) (⟨hI, nm_r ecx (br_t (nI_le (a := 6) (by omega) (by omega)) ⟨rfl, hp⟩)⟩)))))))))))))))⟩⟩⟩⟩
    · exact by_fail hAB hf hk hAA hM (by omega) (by omega) ena (by omega) (by omega) (by omega) (by omega) post (Or.inr (Or.inr (Or.inr ⟨eo, Or.inl (by rw [d6]; rfl)⟩))) hp
  by_cases z0 : ap_Z p (ap_C p (16 * m + i)) = 0
  · refine ⟨f + 1, M, L, E, Q, 0, 0, 1, up, dn, h, lx, lo, al, rf, fX, fY, pe, td, ph, es, me, pt, va, ou, Or.inr (Or.inr ⟨rfl, rfl, rfl, rfl⟩), ⟨I1, I2, I3, by omega, by omega, by omega, I7, I8⟩, fun post hp => ?_, fun post hp => ?_⟩
    · exact nm_r x1e ⟨vf, vf, nm_r x2e ⟨hI, nm_r x3e ⟨hI, nm_r x4e ⟨hI, nm_r x5e (br_f (by decide) (br_f (by decide) (br_f (by decide) (br_f (by decide) (br_f (by decide) (br_f (by decide) (br_f (by decide) (br_f (by decide) (br_f (by decide) (br_f (by decide) (br_f (by decide) (br_f (by decide) (br_f (by decide) (br_t (by decide) (⟨hI, nm_r ecx (br_f (nI_ge (b := 6) (by omega) (by decide)) ⟨vC, br_t (by rw [esz, z0]; rfl) ⟨rfl, hp⟩⟩)⟩)))))))))))))))⟩⟩⟩⟩
    · exact by_fail hAB hf hk hAA hM (by omega) (by omega) ena (by omega) (by omega) (by omega) (by omega) post (Or.inr (Or.inr (Or.inr ⟨eo, Or.inr ⟨fun z => d6 ((nI_eq (b := 6) (by omega) (by decide)).mp z), by rw [ec]; exact vC, by rw [ec, esz, z0]; rfl⟩⟩))) hp
  have nz : ¬ ap_sz p (nI (ap_C p (16 * m + i))).toNatClampNeg = 0 := by rw [esz]; exact nI_ne0 (by omega) (by omega)
  have eCk : (nI (ap_C p (16 * m + i))).toNatClampNeg = ap_C p (16 * m + i) := nI_clamp (by omega)
  have Xw : ∀ (post : Int32 → SX → Prop) (z : Int32), ((z = 1 ∧ sh ≠ 0 ∧ ap_L p (ap_C p (16 * m + i)) ≠ 0) ∨ (z = 0 ∧ ¬ (sh ≠ 0 ∧ ap_L p (ap_C p (16 * m + i)) ≠ 0))) → wX_startCall_48 post (nI (16 * m + i)) (nI (6 * f + ap_B p (16 * m + i))) (nI (ap_C p (16 * m + i))) z (nI Q) (nI E) up dn (nI (B + 1)) (nI L) (nI M) (nI 0) (nI (f + 1)) sa sh (ap_sz p) (ap_L p) (ap_oo p) (ap_aA p) (ap_aB p) (ap_c p) N P K R me pt h lx va rf al fX pe ou es → wpX_startCall post (nI Q, nI E, up, dn, nI (B + 1), nI L, nI M, nI 0, nI (f + 1), sa, sh, ap_sz p, ap_L p, ap_oo p, ap_aA p, ap_aB p, ap_c p, N, P, K, R, me, pt, h, lx, va, rf, al, fX, pe, ou, es) (nI (16 * m + i)) (nI (6 * f + ap_B p (16 * m + i))) := by
    intro post z hz2 KK
    refine ⟨hI, nm_r ecx (br_f (nI_ge (b := 6) (by omega) (by decide)) ⟨vC, br_f nz ?_⟩)⟩
    rcases hz2 with ⟨a, b, c⟩ | ⟨a, b⟩
    · subst a
      exact br_f b ⟨vC, br_f (by rw [eCk]; exact c) KK⟩
    · subst a
      by_cases s0 : sh = 0
      · exact br_t s0 KK
      · refine br_f s0 ⟨vC, br_t ?_ KK⟩
        rw [eCk]
        apply Classical.byContradiction
        intro q
        exact b ⟨s0, q⟩
  have Yw : ∀ (post : SY → Prop) (z : Int32), ((z = 1 ∧ sh ≠ 0 ∧ ap_L p (ap_C p (16 * m + i)) ≠ 0) ∨ (z = 0 ∧ ¬ (sh ≠ 0 ∧ ap_L p (ap_C p (16 * m + i)) ≠ 0))) → wY_call_21 (fun u => post u) (nI (16 * m + i)) (nI (6 * f + ap_B p (16 * m + i))) (nI (ap_C p (16 * m + i))) z kn (nI M) (nI L) up dn (nI (f + 1)) (nI (B + 1)) (nI 0) (-1) sh rn (nI Q) (nI E) (ap_oo p) sA sB (ap_c p) (ap_sz p) (ap_L p) NY PY KY va fY al me pt h lo ou es td ph → wpY_carryOut post (kn, nI M, nI L, up, dn, nI (f + 1), nI (B + 1), nI 0, (-1), sh, rn, nI Q, nI E, ap_oo p, sA, sB, ap_c p, ap_sz p, ap_L p, NY, PY, KY, va, fY, al, me, pt, h, lo, ou, es, td, ph) (nI (6 * f)) (nI (16 * m + i)) := by
    intro post z hz2 KK
    refine by_pre hAB hf hk hAA (by omega) (by omega) (by omega) post ?_
    rw [ena, eo, y5e, ec]
    refine by_58 (by omega) post _ _ _ _ _ (fun z => by omega) (fun z => by omega) (fun z => by omega) (fun _ => ⟨fun z => d6 ((nI_eq (b := 6) (by omega) (by decide)).mp z), vC, nz⟩) (by_134 hM (by omega) (by omega) (by omega) post _ _ _ _ _ (fun y _ => ?_))
    refine br_f (by decide) (br_t rfl (br_t (by decide) ?_))
    unfold wpY_call
    rcases hz2 with ⟨a, b, c⟩ | ⟨a, b⟩
    · subst a
      exact br_f b ⟨vC, br_f (by rw [eCk]; exact c) KK⟩
    · subst a
      by_cases s0 : sh = 0
      · exact br_t s0 KK
      · refine br_f s0 ⟨vC, br_t ?_ KK⟩
        rw [eCk]
        apply Classical.byContradiction
        intro q
        exact b ⟨s0, q⟩
  by_cases lent : sh ≠ 0 ∧ ap_L p (ap_C p (16 * m + i)) ≠ 0
  · have In := ac_ent (x := nb) (if nI nb = 0 then 0 else (1 : Int32)) (by rw [af_bx (by omega), if_neg (by decide)]; exact I1) (by omega) hnb (upd (af_ze h (6 * (f + 1)) 6) (6 * (f + 1)) (nI nb)) (upd (af_ze lo (6 * (f + 1)) 6) (6 * (f + 1)) (if nI nb = 0 then 0 else 1))
      (fun v hv => by rw [pk_un (by omega), pk_un (by omega), af_ze_out (by omega), af_ze_out (by omega)]; exact ⟨rfl, rfl⟩) ⟨pk_us, pk_us⟩ (fun j j1 j2 => by rw [pk_un (by omega)]; exact af_ze_in (by omega) (by omega))
    refine ⟨f + 1 + 1, M, L, E, Q, 0, 1, -1, up, dn, _, upd (af_ze lx (6 * (f + 1)) 6) (6 * (f + 1)) 1, _, al, rf, fX, fY, pe, td, ph, es, upd me (f + 1) (nI (ap_C p (16 * m + i))), upd pt (f + 1) 0, va, ou, Or.inl ⟨rfl, rfl, by omega, rfl⟩,
      ⟨In, af_ll_u (af_ll_ze I2 _ _) _ (Or.inr rfl) (fun c => by rw [if_pos c]) (fun c => by rw [if_neg c]), I3, by omega, by omega, by omega, by omega, ag_F_call I8 em ei hm hi (ag_ne I2) hnd hiz eo hBB lc (fun _ _ => rfl) (Or.inl rfl) _ (fun _ => ⟨lent.1, rfl, enb⟩)⟩, fun post hp => ?_, fun post hp => ?_⟩
    · refine nm_r x1e ⟨vf, vf, nm_r x2e ⟨hI, nm_r x3e ⟨hI, nm_r x4e ⟨hI, nm_r x5e (br_f (by decide) (br_f (by decide) (br_f (by decide) (br_f (by decide) (br_f (by decide) (br_f (by decide) (br_f (by decide) (br_f (by decide) (br_f (by decide) (br_f (by decide) (br_f (by decide) (br_f (by decide) (br_f (by decide) (br_t (by decide) (Xw _ 1 (Or.inl ⟨rfl, lent⟩) (br_f (by decide) ⟨vb36, ?_⟩))))))))))))))))⟩⟩⟩⟩
      rw [ekb, enb]
      unfold wX_startCall_84
      exact bx_enter (by omega) 1 (Or.inr rfl) _ ⟨rfl, hp⟩
    · refine Yw post 1 (Or.inl ⟨rfl, lent⟩) (br_f (by decide) ⟨vb36, ?_⟩)
      rw [ekb, enb]
      unfold wY_call_43
      exact by_enter (by omega) (by omega) 1 (Or.inr rfl) _ hp
  · have mbe : ∃ mb : Int32, ((P (16 * m + i) = 2 ∧ mb = 1) ∨ (¬ P (16 * m + i) = 2 ∧ mb = 0)) := by
      by_cases c : P (16 * m + i) = 2
      · exact ⟨1, Or.inl ⟨c, rfl⟩⟩
      · exact ⟨0, Or.inr ⟨c, rfl⟩⟩
    obtain ⟨mb, hmb⟩ := mbe
    obtain ⟨h1, rf1, up1, T1, T2, T3, T4, T5⟩ := bz_take (p := p) (po := nI Q) (up := up) (bg := nI (B + 1)) (gX := nI 0) (sa := sa) (sh := sh) (N := N) (P := P) (K := K) (R := R) (me := me) (h := h) (lx := lx) (va := va) (ou := ou) (gY := nI 0) (lo := lo) (dn := dn) (pe := pe) (es := es) (pt := pt) (v := 6 * f + ap_B p (16 * m + i)) (n := nb) mb I1 (by omega) enb hnb alB I2
    have In := ac_ent (x := nb) (0 : Int32) (by rw [if_pos rfl]; exact T1) (by omega) hnb (upd (af_ze h1 (6 * (f + 1)) 6) (6 * (f + 1)) (nI nb)) (upd (af_ze lo (6 * (f + 1)) 6) (6 * (f + 1)) 0)
      (fun v hv => by rw [pk_un (by omega), pk_un (by omega), af_ze_out (by omega), af_ze_out (by omega)]; exact ⟨rfl, rfl⟩) ⟨pk_us, pk_us⟩ (fun j j1 j2 => by rw [pk_un (by omega)]; exact af_ze_in (by omega) (by omega))
    refine ⟨f + 1 + 1, M, L, E, Q, 0, 1, -1, up1, dn, _, upd (af_ze lx (6 * (f + 1)) 6) (6 * (f + 1)) 0, _, al, rf1, fX, fY, pe, td, ph, es, upd me (f + 1) (nI (ap_C p (16 * m + i))), upd pt (f + 1) 0, va, ou, Or.inl ⟨rfl, rfl, by omega, rfl⟩,
      ⟨In, af_ll_u (af_ll_ze T2 _ _) _ (Or.inl rfl) (fun c => rfl) (fun c => rfl), I3, by omega, by omega, by omega, by omega, ag_F_call I8 em ei hm hi (ag_ne I2) hnd hiz eo hBB lc T3 (by rcases T4 with ⟨_, _, q, _⟩ | ⟨_, q, _⟩; exact Or.inr q; exact Or.inl (by rw [q])) 0 (fun z => absurd rfl z)⟩, fun post hp => ?_, fun post hp => ?_⟩
    · refine nm_r x1e ⟨vf, vf, nm_r x2e ⟨hI, nm_r x3e ⟨hI, nm_r x4e ⟨hI, nm_r x5e (br_f (by decide) (br_f (by decide) (br_f (by decide) (br_f (by decide) (br_f (by decide) (br_f (by decide) (br_f (by decide) (br_f (by decide) (br_f (by decide) (br_f (by decide) (br_f (by decide) (br_f (by decide) (br_f (by decide) (br_t (by decide) (Xw _ 0 (Or.inr ⟨rfl, lent⟩) (br_t rfl ⟨hI, ?_⟩))))))))))))))))⟩⟩⟩⟩
      rw [ek]
      rcases hmb with ⟨c, e⟩ | ⟨c, e⟩
      · subst e; exact br_t c (T5 _ (bx_enter (by omega) 0 (Or.inl rfl) _ ⟨rfl, hp⟩))
      · subst e; exact br_f c (T5 _ (bx_enter (by omega) 0 (Or.inl rfl) _ ⟨rfl, hp⟩))
    · refine Yw post 0 (Or.inr ⟨rfl, lent⟩) (br_t rfl ?_)
      refine by_ref (by omega) hk (by omega) enb (h' := h1) (up' := up1) ?_ _ (by_enter (by omega) (by omega) 0 (Or.inl rfl) _ (by rw [eg]; exact hp))
      rw [← eP]
      rcases T4 with ⟨q1, q2, q3⟩ | ⟨q1, q2⟩
      · exact Or.inl ⟨q1, by rcases hmb with q | q; exact q.1; exact absurd q.2 q2, q3⟩
      · exact Or.inr ⟨fun z => q1 ⟨z.1, by rcases hmb with q | q; rw [q.2]; decide; exact absurd z.2.1 q.1, z.2.2⟩, q2⟩
theorem bz_perf (H : ap_OK p) (hAB : ap_AB p sA sB) (hA : ag_A p N P NY PY) (I : ag_I p sh (f + 1) M L E Q B 0 h lx lo al rf fX fY me pt va) (hB : B < 300) (em : me f = nI m) (ei : pt f = nI i) (hm : m < 4) (hiz : i < ap_Z p m)
    (hnd : sh = 1 → ∀ j, j < 6 → h (6 * f + j) ≠ 0 → ap_nd p m i j) :
    ∃ (d' M' L' E' Q' g' : Nat) (r' oc' up' dn' : Int32) (h' lx' lo' al' rf' fX' fY' pe' td' ph' es' me' pt' va' ou' : Nat → Int32),
      ((r' = 1 ∧ oc' = -1 ∧ 1 ≤ d' ∧ g' = 0) ∨ (r' = 1 ∧ oc' = 0 ∧ d' = 0) ∨ (r' = 0 ∧ oc' = 1 ∧ d' = f + 1 ∧ g' = 0)) ∧ ag_I p sh d' M' L' E' Q' (B + 1) g' h' lx' lo' al' rf' fX' fY' me' pt' va' ∧
      (∀ post : Int32 → SX → Prop, post r' (nI Q', nI E', up', dn', nI (B + 1), nI L', nI M', nI g', nI d', sa, sh, ap_sz p, ap_L p, ap_oo p, ap_aA p, ap_aB p, ap_c p, N, P, K, R, me', pt', h', lx', va', rf', al', fX', pe', ou', es') → wpX_perform post (nI Q, nI E, up, dn, nI (B + 1), nI L, nI M, nI 0, nI (f + 1), sa, sh, ap_sz p, ap_L p, ap_oo p, ap_aA p, ap_aB p, ap_c p, N, P, K, R, me, pt, h, lx, va, rf, al, fX, pe, ou, es)) ∧
      (∀ post : SY → Prop, post (kn, nI M', nI L', up', dn', nI d', nI (B + 1), nI g', oc', sh, rn, nI Q', nI E', ap_oo p, sA, sB, ap_c p, ap_sz p, ap_L p, NY, PY, KY, va', fY', al', me', pt', h', lo', ou', es', td', ph') → wpY_carryOut post (kn, nI M, nI L, up, dn, nI (f + 1), nI (B + 1), nI 0, (-1), sh, rn, nI Q, nI E, ap_oo p, sA, sB, ap_c p, ap_sz p, ap_L p, NY, PY, KY, va, fY, al, me, pt, h, lo, ou, es, td, ph) (nI (6 * f)) (nI (16 * m + i))) := by
  rcases ap_14 H (16 * m + i) with e | e | e | e | e | e | e | e | e | e | e | e | e | e
  · exact bz_op0 H hAB hA I hB em ei hm hiz hnd e
  · exact bz_op1 H hAB hA I hB em ei hm hiz hnd e
  · exact bz_op2 H hAB hA I hB em ei hm hiz hnd e
  · exact bz_op3 H hAB hA I hB em ei hm hiz hnd e
  · exact bz_op4 H hAB hA I hB em ei hm hiz hnd e
  · exact bz_op5 H hAB hA I hB em ei hm hiz hnd e
  · exact bz_op6 H hAB hA I hB em ei hm hiz hnd e
  · exact bz_op7 H hAB hA I hB em ei hm hiz hnd e
  · exact bz_op8 H hAB hA I hB em ei hm hiz hnd e
  · exact bz_op9 H hAB hA I hB em ei hm hiz hnd e
  · exact bz_op10 H hAB hA I hB em ei hm hiz hnd e
  · exact bz_op11 H hAB hA I hB em ei hm hiz hnd e
  · exact bz_op12 H hAB hA I hB em ei hm hiz hnd e
  · exact bz_op13 H hAB hA I hB em ei hm hiz hnd e
end
end
section
def by_R (post : Int32 → SY → Prop) (n : Nat) : SY → Prop := fun u => match u with | (f_known, f_made, f_living, f_counted, f_less, f_depth, f_begun, f_given, f_outcome, f_isShort, f_ran, f_put, f_ended, a_ops, a_as, a_bs, a_cs, a_size, a_lent, a_need, a_plans, a_keep, a_value, a_fields, a_alive, a_method, a_pc, a_variable, a_loan, a_outs, a_ends, a_todo, a_phase) => wY_run_94 post n f_known f_made f_living f_counted f_less f_depth f_begun f_given f_outcome f_isShort f_ran f_put f_ended a_ops a_as a_bs a_cs a_size a_lent a_need a_plans a_keep a_value a_fields a_alive a_method a_pc a_variable a_loan a_outs a_ends a_todo a_phase
section
variable {p : ap_T} {kn po en up dn bg lv md gX gY dp sa sh oc rn : Int32} {sA sB N P K R NY PY KY me pt h lx lo va rf al fX fY pe ou es td ph : Nat → Int32}
variable {M f : Nat}
/-- an empty frame: nothing is let go -/
theorem by_leave0 (hf : f < 6) (hz : ∀ j, j < 6 → h (6 * f + j) = 0 ∧ lo (6 * f + j) = 0) : ∀ e v, v + e = 6 → ∀ (post : SY → Prop) (n : Nat), wY_leave_12 post (nI f) n (nI (6 * f + 6)) kn md lv up dn dp bg gY oc sh rn po en (ap_oo p) sA sB (ap_c p) (ap_sz p) (ap_L p) NY PY KY va fY al me pt h lo ou es td ph → wY_leave_12 post (nI f) (n + e) (nI (6 * f + v)) kn md lv up dn dp bg gY oc sh rn po en (ap_oo p) sA sB (ap_c p) (ap_sz p) (ap_L p) NY PY KY va fY al me pt h lo ou es td ph := by
  have e66 : 6 * nI f + 6 = nI (6 * f + 6) := by
    have : 6 * nI f = nI (6 * f) := pk_mul 6 f
    rw [this]; exact nI_add _ _
  intro e
  induction e with
  | zero =>
    intro v hv post n KK
    have : v = 6 := by omega
    subst this
    exact KK
  | succ e ih =>
    intro v hv post n KK
    obtain ⟨z1, z2⟩ := hz v (by omega)
    have vi : vp_in (nI (6 * f + v)) 36 := vp_in_nI (by omega) (by omega)
    refine br_f (by rw [e66]; exact nI_ge (by omega) (by omega)) (by_get (x := 0) (by omega) (Or.inl rfl) (by omega) _ (fun z ez => ?_))
    rw [ad_updS h (6 * f + v) (nI 0) z1]
    refine ⟨vi, nm_r (e' := lo) ?_ (br_t ?_ (nm_r (nI_1 _) (ih (v + 1) (by omega) post n KK)))⟩
    · rw [nI_clamp (by omega), show (if nI 0 = 0 then (0 : Int32) else 0) = 0 from rfl, ad_nb0]
      exact ad_updS lo _ 0 z2
    · rw [ez, z1]; split <;> rfl
/-- the end of a call behind the last instruction, in a step of the reference -/
theorem bz_leave2 {g L E : Nat} (H : ap_OK p) (hAB : ap_AB p sA sB) (hf : f < 6) (hg : g ≤ M) (I : ac_MI 0 [] (nI g) h lo (f + 1) M al rf fX fY L E) (hl : af_ll h lx lo)
    (hg0 : g = 0) (hfr : 1 ≤ f → ∃ m i, m < 4 ∧ i < 16 ∧ me (f - 1) = nI m ∧ pt (f - 1) = nI i ∧ ap_O p (16 * m + i) = 11) :
    ∃ h' lx' lo' : Nat → Int32, ∃ (al' rf' fX' fY' pe' td' ph' es' : Nat → Int32) (L' E' : Nat) (dn' : Int32), af_ll h' lx' lo' ∧
      (∀ w, w < 6 * f → (h' w = h w ∧ lo' w = lo w) ∨ (∃ m i, 1 ≤ f ∧ me (f - 1) = nI m ∧ pt (f - 1) = nI i ∧ w = 6 * (f - 1) + ap_A p (16 * m + i) ∧ lo' w = 0)) ∧
      ((f = 0 ∧ ac_MI 0 [] (nI g) h' lo' 0 M al' rf' fX' fY' L' E' ∧
          (∀ post : SX → Prop, post (po, nI E', up, dn', bg, nI L', nI M, nI g, nI 0, sa, sh, ap_sz p, ap_L p, ap_oo p, ap_aA p, ap_aB p, ap_c p, N, P, K, R, me, pt, h', lx', va, rf', al', fX', pe', ou, es') → wpX_leave post (po, nI E, up, dn, bg, nI L, nI M, gX, nI (f + 1), sa, sh, ap_sz p, ap_L p, ap_oo p, ap_aA p, ap_aB p, ap_c p, N, P, K, R, me, pt, h, lx, va, rf, al, fX, pe, ou, es) (nI g)) ∧
          (∀ post : SY → Prop, post (kn, nI M, nI L', up, dn', nI 0, bg, nI g, 0, sh, rn, po, nI E', ap_oo p, sA, sB, ap_c p, ap_sz p, ap_L p, NY, PY, KY, va, fY', al', me, pt, h', lo', ou, es', td', ph') → wpY_leave post (kn, nI M, nI L, up, dn, nI (f + 1), bg, nI g, oc, sh, rn, po, nI E, ap_oo p, sA, sB, ap_c p, ap_sz p, ap_L p, NY, PY, KY, va, fY, al, me, pt, h, lo, ou, es, td, ph)) ∧
          (sh ≠ 0 → ∀ (post : SY → Prop) (x2 x3 : Int32), vp_in x2 4 → ¬ x3 < ap_sz p x2.toNatClampNeg → post (kn, nI M, nI L', up, dn', nI 0, bg, nI g, 0, sh, rn, po, nI E', ap_oo p, sA, sB, ap_c p, ap_sz p, ap_L p, NY, PY, KY, va, fY', al', me, pt, h', lo', ou, es', td', ph') → wY_step_51 post (nI f) x2 x3 0 7 (nI 0) kn (nI M) (nI L) up dn (nI (f + 1)) bg (nI g) oc sh rn po (nI E) (ap_oo p) sA sB (ap_c p) (ap_sz p) (ap_L p) NY PY KY va fY al me pt h lo ou es td ph)) ∨
       (1 ≤ f ∧ ac_MI 0 [] 0 h' lo' f M al' rf' fX' fY' L' E' ∧
          (∀ post : SX → Prop, post (po, nI E', up, dn', bg, nI L', nI M, gX, nI f, sa, sh, ap_sz p, ap_L p, ap_oo p, ap_aA p, ap_aB p, ap_c p, N, P, K, R, me, upd pt (f - 1) (pt (f - 1) + 1), h', lx', va, rf', al', fX', pe', ou, es') → wpX_leave post (po, nI E, up, dn, bg, nI L, nI M, gX, nI (f + 1), sa, sh, ap_sz p, ap_L p, ap_oo p, ap_aA p, ap_aB p, ap_c p, N, P, K, R, me, pt, h, lx, va, rf, al, fX, pe, ou, es) (nI g)) ∧
          (∀ post : SY → Prop, post (kn, nI M, nI L', up, dn', nI f, bg, 0, oc, sh, rn, po, nI E', ap_oo p, sA, sB, ap_c p, ap_sz p, ap_L p, NY, PY, KY, va, fY', al', me, upd pt (f - 1) (pt (f - 1) + 1), h', lo', ou, es', td', ph') → wpY_leave post (kn, nI M, nI L, up, dn, nI (f + 1), bg, nI g, oc, sh, rn, po, nI E, ap_oo p, sA, sB, ap_c p, ap_sz p, ap_L p, NY, PY, KY, va, fY, al, me, pt, h, lo, ou, es, td, ph)) ∧
          (sh ≠ 0 → ∀ (post : SY → Prop) (x2 x3 : Int32), vp_in x2 4 → ¬ x3 < ap_sz p x2.toNatClampNeg → post (kn, nI M, nI L', up, dn', nI f, bg, 0, oc, sh, rn, po, nI E', ap_oo p, sA, sB, ap_c p, ap_sz p, ap_L p, NY, PY, KY, va, fY', al', me, upd pt (f - 1) (pt (f - 1) + 1), h', lo', ou, es', td', ph') → wY_step_51 post (nI f) x2 x3 0 7 (nI 0) kn (nI M) (nI L) up dn (nI (f + 1)) bg (nI g) oc sh rn po (nI E) (ap_oo p) sA sB (ap_c p) (ap_sz p) (ap_L p) NY PY KY va fY al me pt h lo ou es td ph))) := by
  obtain ⟨h1, lx1, lo1, al1, rf1, fX1, fY1, pe1, td1, ph1, es1, L1, E1, dn1, J1, J2, J3, J4, J5, J6⟩ := bz_lga (p := p) (po := po) (up := up) (bg := bg) (gX := gX) (sa := sa) (sh := sh) (N := N) (P := P) (K := K) (R := R) (me := me) (va := va) (ou := ou) (kn := kn) (gY := nI g) (oc := oc) (rn := rn) (sA := sA) (sB := sB) (NY := NY) (PY := PY) (KY := KY) hf 0 6 0 (by omega) h lx lo al rf fX fY pe td ph es L E dn I hl
  have zz : ∀ j, j < 6 → h1 (6 * f + j) = 0 ∧ lo1 (6 * f + j) = 0 := fun j hj => by
    have := (J3 (6 * f + j)).1 ⟨by omega, by omega, b_0 _⟩
    exact ⟨this.1, this.2.1⟩
  have z1 : ∀ j, j < 6 → h1 (6 * f + j) = 0 := fun j hj => ((J3 (6 * f + j)).1 ⟨by omega, by omega, b_0 _⟩).1
  have J1' := ac_lea J1 z1
  have lw : ∀ w, w < 6 * f → h1 w = h w ∧ lo1 w = lo w := fun w hw => by
    have := (J3 w).2 (fun z => by have := z.1; omega)
    exact ⟨this.1, this.2.1⟩
  have c6 : (nI (f + 1) - 1) * 6 = nI (6 * f) := by
    rw [nI_pred]
    have : nI f * 6 = nI (f * 6) := pk_mul f 6
    rw [this, Nat.mul_comm]
  have d6 : 6 * (nI (f + 1) - 1) = nI (6 * f + 0) := by rw [nI_pred]; exact pk_mul 6 f
  have e66 : 6 * nI f + 6 = nI (6 * f + 6) := by
    have : 6 * nI f = nI (6 * f) := pk_mul 6 f
    rw [this]; exact nI_add _ _
  obtain ⟨_, hL24, hEL, hM, hd⟩ := J1'.2.2.2.2.2.2.1
  by_cases f0 : f = 0
  · subst f0
    refine ⟨h1, lx1, lo1, al1, rf1, fX1, fY1, pe1, td1, ph1, es1, L1, E1, dn1, J2, fun w hw => by omega, Or.inl ⟨rfl, J1', fun post hp => nm_r c6 ⟨7, J4 pt _ (nm_r (nI_pred 0) (br_t rfl hp))⟩, fun post hp => ?_, fun hs post x2 x3 v2 v3 hp => J5 hs pt post x2 x3 ⟨v2, br_f v3 ?_⟩⟩⟩
    · refine nm_r (nI_pred 0) (nm_r (e' := nI (6 * 0 + 0)) rfl ⟨1 + 6, J6 rfl pt post 1 ?_⟩)
      exact br_t (by decide) (br_t rfl hp)
    · refine nm_r (nI_pred 0) (nm_r (e' := nI (6 * 0 + 0)) rfl ⟨1 + 6, by_leave0 (f := 0) (by omega) zz 6 0 (by omega) _ 1 ?_⟩)
      exact br_t (by decide) (br_t rfl hp)
  · have f1 : 1 ≤ f := by omega
    obtain ⟨m, i, hm, hi, em, ei, eo⟩ := hfr f1
    have h14 := H.1 (16 * m + i)
    have hA := h14.2.1
    have hk : 16 * m + i < 64 := by omega
    have hI : vp_in (nI (16 * m + i)) 64 := vp_in_nI hk (by omega)
    obtain ⟨al', rf', fX', fY', pe', td', ph', es', L', E', dn', K1, K2, K3, K4⟩ := bz_fill (p := p) (po := po) (up := up) (bg := bg) (gX := gX) (sa := sa) (sh := sh) (N := N) (P := P) (K := K) (R := R) (me := me) (h := h1) (lx := lx1) (va := va) (ou := ou) (kn := kn) (gY := 0) (oc := oc) (rn := rn) (lo := lo1) (sA := sA) (sB := sB) (NY := NY) (PY := PY) (KY := KY) (dn := dn1) (pe := pe1) (td := td1) (ph := ph1) (es := es1) (v := 6 * (f - 1) + ap_A p (16 * m + i)) (x := g) (b := 0) (by rw [if_pos rfl]; exact ac_get J1' hg) (by omega) hg J2 (Or.inl rfl)
    have vf : vp_in (nI (f - 1)) 6 := vp_in_nI (by omega) (by omega)
    have ef : (nI (f - 1)).toNatClampNeg = f - 1 := nI_clamp (by omega)
    have ep : nI f - 1 = nI (f - 1) := by
      have := nI_pred (f - 1)
      rw [show f - 1 + 1 = f by omega] at this
      exact this
    have nf : ¬ nI f = 0 := nI_ne0 f1 (by omega)
    have exk : me (nI (f - 1)).toNatClampNeg * 16 + pt (nI (f - 1)).toNatClampNeg = nI (16 * m + i) := by rw [ef, em, ei, ap_xk]
    have eyk : 16 * me (nI (f - 1)).toNatClampNeg + pt (nI (f - 1)).toNatClampNeg = nI (16 * m + i) := by rw [ef, em, ei, ap_yk]
    have exa : nI (f - 1) * 6 + ap_aA p (nI (16 * m + i)).toNatClampNeg = nI (6 * (f - 1) + ap_A p (16 * m + i)) := by
      have : nI (f - 1) * 6 = nI ((f - 1) * 6) := pk_mul (f - 1) 6
      rw [ap_aAk p hk, this, nI_add, Nat.mul_comm]
    have eya : 6 * nI (f - 1) + sA (nI (16 * m + i)).toNatClampNeg = nI (6 * (f - 1) + ap_A p (16 * m + i)) := by
      have : 6 * nI (f - 1) = nI (6 * (f - 1)) := pk_mul 6 (f - 1)
      rw [nI_clamp (by omega), (hAB (16 * m + i)).1 (by omega) (by omega), this, nI_add]
    have eg : (if nI g = 0 then (0 : Int32) else 0) = 0 := by split <;> rfl
    rw [eg] at K1 K2 K4
    have TL : ∀ post : SY → Prop, post (kn, nI M, nI L', up, dn', nI f, bg, 0, oc, sh, rn, po, nI E', ap_oo p, sA, sB, ap_c p, ap_sz p, ap_L p, NY, PY, KY, va, fY', al', me, upd pt (f - 1) (pt (f - 1) + 1), upd h1 (6 * (f - 1) + ap_A p (16 * m + i)) (nI g), upd lo1 (6 * (f - 1) + ap_A p (16 * m + i)) 0, ou, es', td', ph') →
        wY_leave_12 (fun u => post u) (nI f) 1 (nI (6 * f + 6)) kn (nI M) (nI L1) up dn1 (nI (f + 1)) bg (nI g) oc sh rn po (nI E1) (ap_oo p) sA sB (ap_c p) (ap_sz p) (ap_L p) NY PY KY va fY1 al1 me pt h1 lo1 ou es1 td1 ph1 := by
      intro post hp
      refine br_t (by rw [e66]; exact nI_le (by omega) (by omega)) (br_f nf ?_)
      rw [ep]
      refine ⟨vf, vf, by rw [eyk]; exact hI, nm_r (e' := nI (6 * (f - 1) + ap_A p (16 * m + i))) (by rw [eyk]; exact eya) ⟨vf, vf, nm_r (e' := upd pt (f - 1) (pt (f - 1) + 1)) (by rw [ef]) ?_⟩⟩
      exact K4 (upd pt (f - 1) (pt (f - 1) + 1)) _ hp
    refine ⟨_, _, _, al', rf', fX', fY', pe', td', ph', es', L', E', dn', K2, fun w hw => ?_, Or.inr ⟨f1, K1, fun post hp => nm_r c6 ⟨7, J4 pt _ (nm_r (nI_pred f) (br_f nf (nm_r ep ⟨vf, vf, nm_r exk ⟨hI, ?_⟩⟩)))⟩, fun post hp => nm_r (nI_pred f) (nm_r (e' := nI (6 * f + 0)) ?_ ⟨1 + 6, J6 rfl pt post 1 (TL post hp)⟩), fun hs post x2 x3 v2 v3 hp => J5 hs pt post x2 x3 ⟨v2, br_f v3 (nm_r (nI_pred f) (nm_r (e' := nI (6 * f + 0)) ?_ ⟨1 + 6, by_leave0 (by omega) zz 6 0 (by omega) _ 1 (TL post hp)⟩))⟩⟩⟩
    · by_cases ew : w = 6 * (f - 1) + ap_A p (16 * m + i)
      · exact Or.inr ⟨m, i, f1, em, ei, ew, by rw [ew, pk_us]⟩
      · rw [pk_un ew, pk_un ew]; exact Or.inl (lw w hw)
    · rw [exa]
      refine K3 pt _ ⟨vf, vf, nm_r (e' := upd pt (f - 1) (pt (f - 1) + 1)) (by rw [ef]) hp⟩
    · exact pk_mul 6 f
    · exact pk_mul 6 f
theorem ag_F_lga {sh : Int32} {h lo me pt : Nat → Int32} {kept : Int32} (F : ag_F p sh (f + 1) h lo me pt) (h' lo' : Nat → Int32)
    (J : ∀ w, (af_at kept f 0 w → h' w = 0 ∧ lo' w = 0) ∧ (¬ af_at kept f 0 w → h' w = h w ∧ lo' w = lo w)) : ag_F p sh (f + 1) h' lo' me pt := by
  obtain ⟨F1, F2, F3⟩ := F
  have keep : ∀ w, lo' w ≠ 0 → h' w = h w ∧ lo' w = lo w := by
    intro w hw
    by_cases c : af_at kept f 0 w
    · exact absurd ((J w).1 c).2 hw
    · exact (J w).2 c
  have low : ∀ w, w < 6 * f → h' w = h w ∧ lo' w = lo w := fun w hw => (J w).2 (fun z => by have := z.1; omega)
  refine ⟨F1, fun s0 v hv => ?_, fun g hg => ?_⟩
  · by_cases c : lo' v = 0
    · exact c
    · rw [(keep v c).2]; exact F2 s0 v hv
  · obtain ⟨m, i, q1, q2, q3, q4, q5, q6⟩ := F3 g hg
    refine ⟨m, i, q1, q2, q3, q4, q5, fun j hj hlo => ?_⟩
    obtain ⟨k1, k2⟩ := keep _ hlo
    rw [k2] at hlo
    rcases q6 j hj hlo with ⟨w, w1, w2, w3⟩ | q
    · obtain ⟨l1, l2⟩ := low w (by omega)
      exact Or.inl ⟨w, w1, by rw [l1, k1]; exact w2, by rw [l2]; exact w3⟩
    · exact Or.inr q
end
section
variable {p : ap_T} {kn po en up dn bg lv md gX gY dp sa sh oc rn : Int32} {sA sB N P K R NY PY KY me pt h lx lo va rf al fX fY pe ou es td ph : Nat → Int32}
variable {M Q B : Nat}
theorem bz_settle (H : ap_OK p) (hAB : ap_AB p sA sB) (hA : ag_A p N P NY PY) : ∀ (d r L E : Nat) (dn : Int32) (h lx lo al rf fX fY pe td ph es pt : Nat → Int32), r + d ≤ 6 → 1 ≤ d → ag_I p sh d M L E Q B 0 h lx lo al rf fX fY me pt va →
    ∃ (d' L' E' : Nat) (dn' : Int32) (h' lx' lo' al' rf' fX' fY' pe' td' ph' es' pt' : Nat → Int32), ag_I p sh d' M L' E' Q B 0 h' lx' lo' al' rf' fX' fY' me pt' va ∧
      (∀ post : SX → Prop, post (nI Q, nI E', up, dn', nI B, nI L', nI M, nI 0, nI d', sa, sh, ap_sz p, ap_L p, ap_oo p, ap_aA p, ap_aB p, ap_c p, N, P, K, R, me, pt', h', lx', va, rf', al', fX', pe', ou, es') → ∃ n, wX_settle_4 post n 1 (nI r) (nI Q) (nI E) up dn (nI B) (nI L) (nI M) (nI 0) (nI d) sa sh (ap_sz p) (ap_L p) (ap_oo p) (ap_aA p) (ap_aB p) (ap_c p) N P K R me pt h lx va rf al fX pe ou es) ∧
      ((d' = 0 ∧ ∀ post : Int32 → SY → Prop, (∃ n, wY_run_94 post n kn (nI M) (nI L') up dn' (nI d') (nI B) (nI 0) 0 sh rn (nI Q) (nI E') (ap_oo p) sA sB (ap_c p) (ap_sz p) (ap_L p) NY PY KY va fY' al' me pt' h' lo' ou es' td' ph') → ∃ n, wY_run_94 post n kn (nI M) (nI L) up dn (nI d) (nI B) (nI 0) (-1) sh rn (nI Q) (nI E) (ap_oo p) sA sB (ap_c p) (ap_sz p) (ap_L p) NY PY KY va fY al me pt h lo ou es td ph) ∨
       (∃ f m i, d' = f + 1 ∧ m < 4 ∧ me f = nI m ∧ pt' f = nI i ∧ i < ap_Z p m ∧ (sh = 1 → ∀ j, j < 6 → h' (6 * f + j) ≠ 0 → ap_nd p m i j) ∧
          ∀ (post : Int32 → SY → Prop) (n : Nat), wY_step_94 (by_R post n) (nI f) (nI m) (nI i) kn (nI M) (nI L') up dn' (nI d') (nI B) (nI 0) (-1) sh rn (nI Q) (nI E') (ap_oo p) sA sB (ap_c p) (ap_sz p) (ap_L p) NY PY KY va fY' al' me pt' h' lo' ou es' td' ph' → ∃ n', wY_run_94 post n' kn (nI M) (nI L) up dn (nI d) (nI B) (nI 0) (-1) sh rn (nI Q) (nI E) (ap_oo p) sA sB (ap_c p) (ap_sz p) (ap_L p) NY PY KY va fY al me pt h lo ou es td ph)) := by
  intro d
  induction d with
  | zero => intro r L E dn h lx lo al rf fX fY pe td ph es pt hr hd; omega
  | succ f ih =>
    intro r L E dn h lx lo al rf fX fY pe td ph es pt hr hd I
    obtain ⟨I1, I2, I3, I4, I5, I6, I7, I8⟩ := id I
    obtain ⟨hLc, hL24, hEL, hM, hd6⟩ := I1.2.2.2.2.2.2.1
    obtain ⟨m, i, hm, hi16, em, ei, _, _⟩ := I8.2.2 f (by omega)
    have hz := H.2.1 m
    have hf : f < 6 := by omega
    have vf : vp_in (nI f) 6 := vp_in_nI hf (by omega)
    have ef : (nI f).toNatClampNeg = f := nI_clamp (by omega)
    have x1e : nI (f + 1) - 1 = nI f := nI_pred f
    have vm : vp_in (nI m) 4 := vp_in_nI hm (by omega)
    have esz : ap_sz p (nI m).toNatClampNeg = nI (ap_Z p m) := ap_szm p hm
    -- the component up to the question whether the place is behind the last
    have Xw : ∀ (post : SX → Prop) (n : Nat), wX_settle_62 post (wX_settle_4 post n) (nI r) (nI m) (nI i) (if i < ap_Z p m then 0 else 1) (nI Q) (nI E) up dn (nI B) (nI L) (nI M) (nI 0) (nI (f + 1)) sa sh (ap_sz p) (ap_L p) (ap_oo p) (ap_aA p) (ap_aB p) (ap_c p) N P K R me pt h lx va rf al fX pe ou es → wX_settle_4 post (n + 1) 1 (nI r) (nI Q) (nI E) up dn (nI B) (nI L) (nI M) (nI 0) (nI (f + 1)) sa sh (ap_sz p) (ap_L p) (ap_oo p) (ap_aA p) (ap_aB p) (ap_c p) N P K R me pt h lx va rf al fX pe ou es := by
      intro post n KK
      refine br_f (nI_ge (b := 6) (by omega) (by decide)) (br_f (by decide) (br_f (nI_nle (by omega) (by omega)) ?_))
      rw [x1e]
      refine ⟨vf, nm_r (e' := nI m) (by rw [ef]; exact em) ⟨vf, nm_r (e' := nI i) (by rw [ef]; exact ei) ⟨vm, ?_⟩⟩⟩
      rw [esz]
      refine pk_lt i (ap_Z p m) (fun c => ?_) (fun c => ?_)
      · rw [if_pos c] at KK; exact KK
      · rw [if_neg (by omega)] at KK; exact KK
    by_cases c : i < ap_Z p m
    · -- an instruction is due
      have hk : 16 * m + i < 64 := by omega
      have hI : vp_in (nI (16 * m + i)) 64 := vp_in_nI hk (by omega)
      have ek : (nI (16 * m + i)).toNatClampNeg = 16 * m + i := nI_clamp (by omega)
      have eN : N (16 * m + i) = NY (16 * m + i) := ap_NS_u (hA m hm).1 (hA m hm).2.2.1 c
      rcases I8.1 with s0 | s1
      · refine ⟨f + 1, L, E, dn, h, lx, lo, al, rf, fX, fY, pe, td, ph, es, pt, I, fun post hp => ⟨2, Xw post 1 ?_⟩, Or.inr ⟨f, m, i, rfl, hm, em, ei, c, fun z => absurd (s0.symm.trans z) (by decide), fun post n KK => ⟨n + 1, ?_⟩⟩⟩
        · rw [if_pos c]
          exact br_t rfl (br_t s0 (nm_r (nI_1 r) (br_c (fun _ => hp) (fun _ => br_t rfl hp))))
        · refine br_t rfl (nm_r x1e ⟨vf, nm_r (e' := nI m) (by rw [ef]; exact em) ⟨vf, nm_r (e' := nI i) (by rw [ef]; exact ei) ⟨vm, br_f (by rw [esz]; exact nI_ge c (by omega)) ?_⟩⟩⟩)
          rw [ap_yk]
          exact ⟨hI, nm_e ⟨1, br_f (by decide) (br_t s0 KK)⟩⟩
      · have sn : sh ≠ 0 := by rw [s1]; decide
        obtain ⟨h1, lx1, lo1, al1, rf1, fX1, fY1, pe1, td1, ph1, es1, L1, E1, dn1, J1, J2, J3, J4, J5, J6⟩ := bz_lga (p := p) (po := nI Q) (up := up) (bg := nI B) (gX := nI 0) (sa := sa) (sh := sh) (N := N) (P := P) (K := K) (R := R) (me := me) (va := va) (ou := ou) (kn := kn) (gY := nI 0) (oc := (-1)) (rn := rn) (sA := sA) (sB := sB) (NY := NY) (PY := PY) (KY := KY) hf (N (16 * m + i)) 6 0 (by omega) h lx lo al rf fX fY pe td ph es L E dn I1 I2
        refine ⟨f + 1, L1, E1, dn1, h1, lx1, lo1, al1, rf1, fX1, fY1, pe1, td1, ph1, es1, pt, ⟨J1, J2, I3, I4, I5, I6, I7, ag_F_lga I8 h1 lo1 (fun w => ⟨fun z => ⟨((J3 w).1 z).1, ((J3 w).1 z).2.1⟩, fun z => ⟨((J3 w).2 z).1, ((J3 w).2 z).2.1⟩⟩)⟩, fun post hp => ⟨2, Xw post 1 ?_⟩, Or.inr ⟨f, m, i, rfl, hm, em, ei, c, fun _ j hj hh => ?_, fun post n KK => ⟨n + 1, ?_⟩⟩⟩
        · rw [if_pos c]
          refine br_t rfl (br_f sn ?_)
          rw [ap_xk, ek]
          refine ⟨hI, nm_r (e' := nI (6 * f)) ?_ ⟨7, J4 pt _ (nm_r (nI_1 r) (br_c (fun _ => hp) (fun _ => br_t rfl hp)))⟩⟩
          rw [nI_pred]
          have : nI f * 6 = nI (f * 6) := pk_mul f 6
          rw [this, Nat.mul_comm]
        · apply Classical.byContradiction
          intro z
          have b0 : bt (N (16 * m + i)) j = false := by
            cases e : bt (N (16 * m + i)) j with
            | false => rfl
            | true => exact absurd (((hA m hm).1 i c j (by omega)).mp e) z
          exact hh ((J3 (6 * f + j)).1 ⟨by omega, by omega, by rw [show 6 * f + j - 6 * f = j by omega]; exact b0⟩).1
        · refine br_t rfl (nm_r x1e ⟨vf, nm_r (e' := nI m) (by rw [ef]; exact em) ⟨vf, nm_r (e' := nI i) (by rw [ef]; exact ei) ⟨vm, br_f (by rw [esz]; exact nI_ge c (by omega)) ?_⟩⟩⟩)
          rw [ap_yk]
          refine ⟨hI, nm_r (e' := N (16 * m + i)) (by rw [ek]; exact eN.symm) ⟨7, J5 sn pt (by_R post n) (nI m) (nI i) KK⟩⟩
    · -- behind the last
      have hfr : 1 ≤ f → ∃ m i, m < 4 ∧ i < 16 ∧ me (f - 1) = nI m ∧ pt (f - 1) = nI i ∧ ap_O p (16 * m + i) = 11 := by
        intro f1
        obtain ⟨m2, i2, q1, q2, q3, q4, q5, _⟩ := I8.2.2 (f - 1) (by omega)
        have z2 := H.2.1 m2
        obtain ⟨q6, q7⟩ := q5 (by omega)
        exact ⟨m2, i2, q1, by omega, q3, q4, q7⟩
      obtain ⟨h1, lx1, lo1, al1, rf1, fX1, fY1, pe1, td1, ph1, es1, L1, E1, dn1, V1, V2, V3⟩ := bz_leave2 (p := p) (po := nI Q) (up := up) (bg := nI B) (gX := nI 0) (sa := sa) (sh := sh) (N := N) (P := P) (K := K) (R := R) (me := me) (h := h) (lx := lx) (va := va) (ou := ou) (kn := kn) (oc := (-1)) (rn := rn) (lo := lo) (sA := sA) (sB := sB) (NY := NY) (PY := PY) (KY := KY) (dn := dn) (pe := pe) (td := td) (ph := ph) (es := es) (pt := pt) (f := f) (g := 0) H hAB hf (Nat.zero_le _) I1 I2 rfl hfr
      have v3 : ¬ nI i < ap_sz p (nI m).toNatClampNeg := by rw [esz]; exact nI_nlt (by omega) (by omega)
      -- the reference: a step that leaves
      have Yw : ∀ (post : Int32 → SY → Prop) (n : Nat), (sh = 0 → wpY_leave (by_R post n) (kn, nI M, nI L, up, dn, nI (f + 1), nI B, nI 0, (-1), sh, rn, nI Q, nI E, ap_oo p, sA, sB, ap_c p, ap_sz p, ap_L p, NY, PY, KY, va, fY, al, me, pt, h, lo, ou, es, td, ph)) → (sh ≠ 0 → wY_step_51 (by_R post n) (nI f) (nI m) (nI i) 0 7 (nI 0) kn (nI M) (nI L) up dn (nI (f + 1)) (nI B) (nI 0) (-1) sh rn (nI Q) (nI E) (ap_oo p) sA sB (ap_c p) (ap_sz p) (ap_L p) NY PY KY va fY al me pt h lo ou es td ph) → wY_run_94 post (n + 1) kn (nI M) (nI L) up dn (nI (f + 1)) (nI B) (nI 0) (-1) sh rn (nI Q) (nI E) (ap_oo p) sA sB (ap_c p) (ap_sz p) (ap_L p) NY PY KY va fY al me pt h lo ou es td ph := by
        intro post n k0 k1
        refine br_t rfl (nm_r x1e ⟨vf, nm_r (e' := nI m) (by rw [ef]; exact em) ⟨vf, nm_r (e' := nI i) (by rw [ef]; exact ei) ⟨vm, br_t (by rw [esz]; exact nI_le (by omega) (by omega)) ?_⟩⟩⟩)
        by_cases s0 : sh = 0
        · exact ⟨1, br_f (by decide) (br_t s0 ⟨vm, br_f v3 (k0 s0)⟩)⟩
        · exact ⟨7, k1 s0⟩
      rcases V3 with ⟨f0, V4, V5, V6, V7⟩ | ⟨f1, V4, V5, V6, V7⟩
      · refine ⟨0, L1, E1, dn1, h1, lx1, lo1, al1, rf1, fX1, fY1, pe1, td1, ph1, es1, pt, ⟨V4, V1, I3, I4, I5, I6, I7, ⟨I8.1, fun _ v hv => by omega, fun g hg => by omega⟩⟩, fun post hp => ⟨2, Xw post 1 ?_⟩, Or.inl ⟨rfl, fun post KK => ?_⟩⟩
        · rw [if_neg c]
          exact br_f (by decide) (V5 _ (nm_r (nI_1 r) (br_c (fun _ => hp) (fun _ => br_f (by decide) (br_t (by decide) hp)))))
        · obtain ⟨n, hn⟩ := KK
          exact ⟨n + 1, Yw post n (fun _ => V6 (by_R post n) hn) (fun s => V7 s (by_R post n) (nI m) (nI i) vm v3 hn)⟩
      · obtain ⟨d', L', E', dn', h', lx', lo', al', rf', fX', fY', pe', td', ph', es', pt', W1, W2, W3⟩ := ih (r + 1) L1 E1 dn1 h1 lx1 lo1 al1 rf1 fX1 fY1 pe1 td1 ph1 es1 (upd pt (f - 1) (pt (f - 1) + 1)) (by omega) f1 ⟨V4, V1, I3, I4, I5, I6, I7, ag_F_leave H I8 f1 h1 lo1 V2⟩
        refine ⟨d', L', E', dn', h', lx', lo', al', rf', fX', fY', pe', td', ph', es', pt', W1, fun post hp => ?_, ?_⟩
        · obtain ⟨n, hn⟩ := W2 post hp
          refine ⟨n + 1, Xw post n ?_⟩
          rw [if_neg c]
          exact br_f (by decide) (V5 _ (nm_r (nI_1 r) hn))
        · have back : ∀ post : Int32 → SY → Prop, (∃ n, wY_run_94 post n kn (nI M) (nI L1) up dn1 (nI f) (nI B) (nI 0) (-1) sh rn (nI Q) (nI E1) (ap_oo p) sA sB (ap_c p) (ap_sz p) (ap_L p) NY PY KY va fY1 al1 me (upd pt (f - 1) (pt (f - 1) + 1)) h1 lo1 ou es1 td1 ph1) → ∃ n, wY_run_94 post n kn (nI M) (nI L) up dn (nI (f + 1)) (nI B) (nI 0) (-1) sh rn (nI Q) (nI E) (ap_oo p) sA sB (ap_c p) (ap_sz p) (ap_L p) NY PY KY va fY al me pt h lo ou es td ph := by
            intro post KK
            obtain ⟨n, hn⟩ := KK
            exact ⟨n + 1, Yw post n (fun _ => V6 (by_R post n) hn) (fun s => V7 s (by_R post n) (nI m) (nI i) vm v3 hn)⟩
          rcases W3 with ⟨e0, W4⟩ | ⟨f', m', i', q1, q2, q3, q4, q5, q6, W4⟩
          · exact Or.inl ⟨e0, fun post KK => back post (W4 post KK)⟩
          · exact Or.inr ⟨f', m', i', q1, q2, q3, q4, q5, q6, fun post n KK => back post (W4 post n KK)⟩
end
end
section
section
variable {p : ap_T} {kn po en up dn bg lv md gX gY dp sa sh oc rn : Int32} {sA sB N P K R NY PY KY me pt h lx lo va rf al fX fY pe ou es td ph : Nat → Int32}
theorem bx_144 {d : Nat} (hd : 1 ≤ d) (hd6 : d ≤ 6) {r : Int32} (hr : r ≠ 0) (post : Int32 → SX → Prop) (hp : post r (po, en, up, dn, bg, lv, md, gX, nI d, 16 * me (d - 1) + pt (d - 1), sh, ap_sz p, ap_L p, ap_oo p, ap_aA p, ap_aB p, ap_c p, N, P, K, R, me, pt, h, lx, va, rf, al, fX, pe, ou, es)) : wX_run_144 post r po en up dn bg lv md gX (nI d) sa sh (ap_sz p) (ap_L p) (ap_oo p) (ap_aA p) (ap_aB p) (ap_c p) N P K R me pt h lx va rf al fX pe ou es := by
  have e1 : nI d - 1 = nI (d - 1) := by
    have := nI_pred (d - 1)
    rw [show d - 1 + 1 = d by omega] at this
    exact this
  have v : vp_in (nI (d - 1)) 6 := vp_in_nI (by omega) (by omega)
  refine br_f hr ?_
  rw [e1, nI_clamp (by omega)]
  exact ⟨v, v, nm_e hp⟩
theorem bz_runl (H : ap_OK p) (hAB : ap_AB p sA sB) (hA : ag_A p N P NY PY) : ∀ (k B d M L E Q : Nat) (up dn : Int32) (h lx lo al rf fX fY pe td ph es me pt va ou : Nat → Int32), B + k = 300 → 1 ≤ d → ag_I p sh d M L E Q B 0 h lx lo al rf fX fY me pt va →
    ∃ (d' M' L' E' Q' B' g' : Nat) (r' sa' up' dn' : Int32) (h' lx' lo' al' rf' fX' fY' pe' td' ph' es' me' pt' va' ou' : Nat → Int32),
      ((r' = 0 ∧ d' = 0 ∧ sa' = -1) ∨ ((r' = 1 ∨ r' = 2) ∧ 1 ≤ d' ∧ g' = 0 ∧ sa' = 16 * me' (d' - 1) + pt' (d' - 1))) ∧ ag_I p sh d' M' L' E' Q' B' g' h' lx' lo' al' rf' fX' fY' me' pt' va' ∧
      (∀ post : Int32 → SX → Prop, post r' (nI Q', nI E', up', dn', nI B', nI L', nI M', nI g', nI d', sa', sh, ap_sz p, ap_L p, ap_oo p, ap_aA p, ap_aB p, ap_c p, N, P, K, R, me', pt', h', lx', va', rf', al', fX', pe', ou', es') → ∃ n, wX_run_63 post n 0 (nI B) (nI Q) (nI E) up dn (nI B) (nI L) (nI M) (nI 0) (nI d) sa sh (ap_sz p) (ap_L p) (ap_oo p) (ap_aA p) (ap_aB p) (ap_c p) N P K R me pt h lx va rf al fX pe ou es) ∧
      (∀ post : Int32 → SY → Prop, post r' (kn, nI M', nI L', up', dn', nI d', nI B', nI g', r', sh, rn, nI Q', nI E', ap_oo p, sA, sB, ap_c p, ap_sz p, ap_L p, NY, PY, KY, va', fY', al', me', pt', h', lo', ou', es', td', ph') → ∃ n, wY_run_94 post n kn (nI M) (nI L) up dn (nI d) (nI B) (nI 0) (-1) sh rn (nI Q) (nI E) (ap_oo p) sA sB (ap_c p) (ap_sz p) (ap_L p) NY PY KY va fY al me pt h lo ou es td ph) := by
  intro k
  induction k with
  | zero =>
    intro B d M L E Q up dn h lx lo al rf fX fY pe td ph es me pt va ou hB hd I
    have hB300 : B = 300 := by omega
    have hd6 := I.1.2.2.2.2.2.2.1.2.2.2.2
    obtain ⟨d', L', E', dn', h', lx', lo', al', rf', fX', fY', pe', td', ph', es', pt', W1, W2, W3⟩ := bz_settle (sa := sa) (K := K) (R := R) (kn := kn) (rn := rn) (KY := KY) (up := up) (ou := ou) H hAB hA d 0 L E dn h lx lo al rf fX fY pe td ph es pt (by omega) hd I
    have n1 : ¬ 300 < nI B := nI_nlt (b := B) (a := 300) (by omega) (by omega)
    have nd : ¬ nI d ≤ 0 := nI_nle (by omega) (by omega)
    rcases W3 with ⟨e0, W4⟩ | ⟨f, m, i, q1, q2, q3, q4, q5, q6, W4⟩
    · subst e0
      refine ⟨0, M, L', E', Q, B, 0, 0, -1, up, dn', h', lx', lo', al', rf', fX', fY', pe', td', ph', es', me, pt', va, ou, Or.inl ⟨rfl, rfl, rfl⟩, W1, fun post hp => ⟨2, ?_⟩, fun post hp => W4 post ⟨1, br_f (by decide) hp⟩⟩
      refine br_f n1 (br_t rfl (br_f nd (W2 _ (br_t (by decide) (br_t (by decide) (nm_e (br_c (fun _ => br_t rfl hp) (fun _ => br_t rfl (br_t (by decide) (br_t rfl hp))))))))))
    · subst q1
      have hd6' := W1.1.2.2.2.2.2.2.1.2.2.2.2
      refine ⟨f + 1, M, L', E', Q, B, 0, 2, 16 * me (f + 1 - 1) + pt' (f + 1 - 1), up, dn', h', lx', lo', al', rf', fX', fY', pe', td', ph', es', me, pt', va, ou, Or.inr ⟨Or.inr rfl, by omega, rfl, rfl⟩, W1, fun post hp => ⟨2, ?_⟩, fun post hp => W4 post 1 ?_⟩
      · refine br_f n1 (br_t rfl (br_f nd (W2 _ (br_f (nI_nle (by omega) (by omega)) (br_f (by rw [hB300]; decide) (nm_r (nI_1 B) (br_t (nI_lt (a := 300) (by omega) (by omega)) (bx_144 (by omega) hd6' (by decide) post hp))))))))
      · exact ⟨vp_in_nI q2 (by omega), br_t (by rw [ap_szm p q2]; have := H.2.1 m; exact nI_lt q5 (by omega)) (br_t (by rw [hB300]; rfl) (br_f (by decide) hp))⟩
  | succ k ih =>
    intro B d M L E Q up dn h lx lo al rf fX fY pe td ph es me pt va ou hB hd I
    have hd6 := I.1.2.2.2.2.2.2.1.2.2.2.2
    obtain ⟨d', L', E', dn', h', lx', lo', al', rf', fX', fY', pe', td', ph', es', pt', W1, W2, W3⟩ := bz_settle (sa := sa) (K := K) (R := R) (kn := kn) (rn := rn) (KY := KY) (up := up) (ou := ou) H hAB hA d 0 L E dn h lx lo al rf fX fY pe td ph es pt (by omega) hd I
    have n1 : ¬ 300 < nI B := nI_nlt (b := B) (a := 300) (by omega) (by omega)
    have nd : ¬ nI d ≤ 0 := nI_nle (by omega) (by omega)
    rcases W3 with ⟨e0, W4⟩ | ⟨f, m, i, q1, q2, q3, q4, q5, q6, W4⟩
    · subst e0
      refine ⟨0, M, L', E', Q, B, 0, 0, -1, up, dn', h', lx', lo', al', rf', fX', fY', pe', td', ph', es', me, pt', va, ou, Or.inl ⟨rfl, rfl, rfl⟩, W1, fun post hp => ⟨2, ?_⟩, fun post hp => W4 post ⟨1, br_f (by decide) hp⟩⟩
      refine br_f n1 (br_t rfl (br_f nd (W2 _ (br_t (by decide) (br_t (by decide) (nm_e (br_c (fun _ => br_t rfl hp) (fun _ => br_t rfl (br_t (by decide) (br_t rfl hp))))))))))
    · subst q1
      have hd6' := W1.1.2.2.2.2.2.2.1.2.2.2.2
      have hz := H.2.1 m
      obtain ⟨d2, M2, L2, E2, Q2, g2, r2, oc2, up2, dn2, h2, lx2, lo2, al2, rf2, fX2, fY2, pe2, td2, ph2, es2, me2, pt2, va2, ou2, P1, P2, P3, P4⟩ := bz_perf (sa := sa) (K := K) (R := R) (kn := kn) (rn := rn) (KY := KY) (up := up) (dn := dn') (pe := pe') (td := td') (ph := ph') (es := es') (ou := ou) H hAB hA W1 (by omega) q3 q4 q2 q5 q6
      have b3 : nI B < 300 := nI_lt (b := 300) (by omega) (by decide)
      -- one turn of both, up to what the instruction makes
      have Xw : ∀ (post : Int32 → SX → Prop) (n : Nat), (∃ n', n = n') → ((r2 = 0 → wX_run_63 post n 1 (nI (B + 1)) (nI Q2) (nI E2) up2 dn2 (nI (B + 1)) (nI L2) (nI M2) (nI g2) (nI d2) sa sh (ap_sz p) (ap_L p) (ap_oo p) (ap_aA p) (ap_aB p) (ap_c p) N P K R me2 pt2 h2 lx2 va2 rf2 al2 fX2 pe2 ou2 es2) ∧
          (¬ r2 = 0 → wX_run_63 post n 0 (nI (B + 1)) (nI Q2) (nI E2) up2 dn2 (nI (B + 1)) (nI L2) (nI M2) (nI g2) (nI d2) sa sh (ap_sz p) (ap_L p) (ap_oo p) (ap_aA p) (ap_aB p) (ap_c p) N P K R me2 pt2 h2 lx2 va2 rf2 al2 fX2 pe2 ou2 es2)) → wX_run_63 post (n + 1) 0 (nI B) (nI Q) (nI E) up dn (nI B) (nI L) (nI M) (nI 0) (nI d) sa sh (ap_sz p) (ap_L p) (ap_oo p) (ap_aA p) (ap_aB p) (ap_c p) N P K R me pt h lx va rf al fX pe ou es := by
        intro post n _ KK
        refine br_f n1 (br_t rfl (br_f nd (W2 _ (br_f (nI_nle (by omega) (by omega)) (br_t b3 (br_f (nI_nle (by omega) (by omega)) (nm_r (nI_1 B) (P3 _ ?_))))))))
        exact br_c (fun c => nm_r (nI_1 B) (KK.1 c)) (fun c => nm_r (nI_1 B) (KK.2 c))
      have Yw : ∀ (post : Int32 → SY → Prop) (n : Nat), wY_run_94 post n kn (nI M2) (nI L2) up2 dn2 (nI d2) (nI (B + 1)) (nI g2) oc2 sh rn (nI Q2) (nI E2) (ap_oo p) sA sB (ap_c p) (ap_sz p) (ap_L p) NY PY KY va2 fY2 al2 me2 pt2 h2 lo2 ou2 es2 td2 ph2 → ∃ n', wY_run_94 post n' kn (nI M) (nI L) up dn (nI d) (nI B) (nI 0) (-1) sh rn (nI Q) (nI E) (ap_oo p) sA sB (ap_c p) (ap_sz p) (ap_L p) NY PY KY va fY al me pt h lo ou es td ph := by
        intro post n KK
        refine W4 post n ⟨vp_in_nI q2 (by omega), br_t (by rw [ap_szm p q2]; exact nI_lt q5 (by omega)) (br_f (fun z => by have := (nI_eq (b := 300) (by omega) (by decide)).mp z; omega) (nm_r (nI_1 B) ?_))⟩
        have e6 : 6 * nI f = nI (6 * f) := pk_mul 6 f
        rw [e6, ap_yk]
        exact P4 (by_R post n) KK
      rcases P1 with ⟨e1, e2, e3, e4⟩ | ⟨e1, e2, e3⟩ | ⟨e1, e2, e3, e4⟩
      · subst e1 e2 e4
        obtain ⟨d3, M3, L3, E3, Q3, B3, g3, r3, sa3, up3, dn3, h3, lx3, lo3, al3, rf3, fX3, fY3, pe3, td3, ph3, es3, me3, pt3, va3, ou3, R1, R2, R3, R4⟩ := ih (B + 1) d2 M2 L2 E2 Q2 up2 dn2 h2 lx2 lo2 al2 rf2 fX2 fY2 pe2 td2 ph2 es2 me2 pt2 va2 ou2 (by omega) e3 P2
        refine ⟨d3, M3, L3, E3, Q3, B3, g3, r3, sa3, up3, dn3, h3, lx3, lo3, al3, rf3, fX3, fY3, pe3, td3, ph3, es3, me3, pt3, va3, ou3, R1, R2, fun post hp => ?_, fun post hp => ?_⟩
        · obtain ⟨n, hn⟩ := R3 post hp
          exact ⟨n + 1, Xw post n ⟨n, rfl⟩ ⟨fun z => absurd z (by decide), fun _ => hn⟩⟩
        · obtain ⟨n, hn⟩ := R4 post hp
          exact Yw post n hn
      · subst e1 e2 e3
        refine ⟨0, M2, L2, E2, Q2, B + 1, g2, 0, -1, up2, dn2, h2, lx2, lo2, al2, rf2, fX2, fY2, pe2, td2, ph2, es2, me2, pt2, va2, ou2, Or.inl ⟨rfl, rfl, rfl⟩, P2, fun post hp => ⟨2, Xw post 1 ⟨1, rfl⟩ ⟨fun z => absurd z (by decide), fun _ => br_c (fun _ => br_t rfl hp) (fun _ => br_t rfl (br_t (by decide) (br_t rfl hp)))⟩⟩, fun post hp => Yw post 1 (br_f (by decide) hp)⟩
      · subst e1 e2 e3 e4
        refine ⟨f + 1, M2, L2, E2, Q2, B + 1, 0, 1, 16 * me2 (f + 1 - 1) + pt2 (f + 1 - 1), up2, dn2, h2, lx2, lo2, al2, rf2, fX2, fY2, pe2, td2, ph2, es2, me2, pt2, va2, ou2, Or.inr ⟨Or.inl rfl, by omega, rfl, rfl⟩, P2, fun post hp => ⟨2, Xw post 1 ⟨1, rfl⟩ ⟨fun _ => br_c (fun _ => bx_144 (by omega) hd6' (by decide) post hp) (fun _ => br_f (by decide) (bx_144 (by omega) hd6' (by decide) post hp)), fun z => absurd rfl z⟩⟩, fun post hp => Yw post 1 (br_f (by decide) hp)⟩
end
end
section
def ar_R (d M L E Q B g : Nat) (sa oc rn : Int32) (h lx lo al rf fX fY me pt va : Nat → Int32) : Prop :=
  ac_MI 0 [] (nI g) h lo d M al rf fX fY L E ∧ af_ll h lx lo ∧ va 0 = 0 ∧ Q ≤ B ∧ M ≤ B ∧ B ≤ 300 ∧ g ≤ M ∧ (oc ≠ 0 → g = 0) ∧
  (((rn = 0 ∨ oc = 0) ∧ sa = -1) ∨ (rn ≠ 0 ∧ oc ≠ 0 ∧ 1 ≤ d ∧ sa = 16 * me (d - 1) + pt (d - 1)))
/-- the two desks: one program, one run; what is found is known or not -/
def i_Rel (_ : Nat) (u : SX) (v : SY) : Prop :=
  ∃ (p : ap_T) (d M L E Q B g : Nat) (kn up dn sa sh oc rn : Int32) (sA sB N P K R NY PY KY me pt h lx lo va rf al fX fY pe ou es td ph : Nat → Int32),
    u = (nI Q, nI E, up, dn, nI B, nI L, nI M, nI g, nI d, sa, sh, ap_sz p, ap_L p, ap_oo p, ap_aA p, ap_aB p, ap_c p, N, P, K, R, me, pt, h, lx, va, rf, al, fX, pe, ou, es) ∧ v = (kn, nI M, nI L, up, dn, nI d, nI B, nI g, oc, sh, rn, nI Q, nI E, ap_oo p, sA, sB, ap_c p, ap_sz p, ap_L p, NY, PY, KY, va, fY, al, me, pt, h, lo, ou, es, td, ph) ∧ ap_OK p ∧ ap_AB p sA sB ∧ (kn = 0 ∨ (kn = 1 ∧ ∀ m, m < 4 → ay_Sp p m NY PY KY)) ∧ ar_R d M L E Q B g sa oc rn h lx lo al rf fX fY me pt va
theorem i_up {k : Nat} {u : SX} {v : SY} (h : i_Rel k u v) : i_Rel (k + 6) u v := h
theorem i_vc0 : wpX_init (fun u => wpY_init (fun v => i_Rel 0 u v)) := by
  refine ⟨(fun _ => 0, fun _ => 0, fun _ => 0, fun _ => 0, fun _ => 0, fun _ => 0), 0, 0, 0, 0, 0, 0, 0, 0, 0, 0, -1, 0, -1, 0, fun _ => 0, fun _ => 0, fun _ => 0, fun _ => 0, fun _ => 0, fun _ => 0, fun _ => 0, fun _ => 0, fun _ => 0, fun _ => 0, fun _ => 0, fun _ => 0, fun _ => 0, fun _ => 0, fun _ => 0, fun _ => 0, fun _ => 0, fun _ => 0, fun _ => 0, fun _ => 0, fun _ => 0, fun _ => 0, fun _ => 0, fun _ => 0, rfl, rfl, ?_, ?_, Or.inl rfl, ?_⟩
  · refine ⟨fun k => ⟨by show 0 ≤ 13; omega, by show 0 < 6; omega, by show 0 < 6; omega, fun z => ?_, fun z => ?_, fun z => ?_⟩, fun m => by show 0 ≤ 16; omega, fun m => Or.inl rfl⟩
    · have z' : (0 : Nat) = 3 ∨ (0 : Nat) = 4 := z
      omega
    · have z' : (0 : Nat) = 9 ∨ (0 : Nat) = 10 := z
      omega
    · have z' : (0 : Nat) = 11 := z
      omega
  · exact fun k => ⟨fun _ _ => rfl, fun _ => rfl⟩
  · refine ⟨⟨fun n h1 h2 => by omega, fun n h1 h2 => by omega, fun n h1 h2 => by omega, fun v hv => by omega, ⟨0, Nat.le_refl _, rfl⟩, Nat.le_refl _, ⟨rfl, by show 0 + 0 ≤ 24; omega, rfl, by omega, by omega⟩, True.intro⟩, fun v => ⟨Or.inl rfl, fun _ => rfl, fun z => absurd rfl z⟩, rfl, Nat.le_refl _, Nat.le_refl _, by omega, Nat.le_refl _, fun _ => rfl, Or.inl ⟨Or.inl rfl, rfl⟩⟩
section
variable {p : ap_T} {kn md lv up dn dp bg gY oc sh rn po en : Int32} {sA sB NY PY KY va fY al me pt h lo ou es td ph : Nat → Int32}
theorem ym_bad4 (post : Int32 → SY → Prop) {v1 b : Int32} (c : v1 < 0 ∨ nI 4 ≤ v1) (hp : post (-1) (kn, md, lv, up, dn, dp, bg, gY, oc, sh, rn, po, en, ap_oo p, sA, sB, ap_c p, ap_sz p, ap_L p, NY, PY, KY, va, fY, al, me, pt, h, lo, ou, es, td, ph)) : wpY_method post (kn, md, lv, up, dn, dp, bg, gY, oc, sh, rn, po, en, ap_oo p, sA, sB, ap_c p, ap_sz p, ap_L p, NY, PY, KY, va, fY, al, me, pt, h, lo, ou, es, td, ph) v1 b := by
  unfold wpY_method
  refine ay_no _ v1 (n := 4) (by decide) (fun j hj e => ?_) (fun _ => br_f (by decide) hp)
  rw [e] at c
  rcases c with c | c
  · exact absurd c (nI_pos (by omega))
  · exact absurd c (nI_ge (b := 4) hj (by decide))
theorem ym_ok4 (post : Int32 → SY → Prop) {m : Nat} (hm : m < 4) {b : Int32} (hb : b = 0 ∨ b = 1) (hp : post (ap_sz p (nI m).toNatClampNeg) (0, md, lv, up, dn, dp, bg, gY, oc, sh, rn, po, en, ap_oo p, sA, sB, ap_c p, upd (ap_sz p) m 0, upd (ap_L p) m b, NY, PY, KY, va, fY, al, me, pt, h, lo, ou, es, td, ph)) : wpY_method post (kn, md, lv, up, dn, dp, bg, gY, oc, sh, rn, po, en, ap_oo p, sA, sB, ap_c p, ap_sz p, ap_L p, NY, PY, KY, va, fY, al, me, pt, h, lo, ou, es, td, ph) (nI m) b := by
  have vm : vp_in (nI m) 4 := vp_in_nI hm (by omega)
  have em : (nI m).toNatClampNeg = m := nI_clamp (by omega)
  unfold wpY_method
  refine ay_no _ (nI m) (n := 4) (by decide) (fun _ _ _ => br_t rfl ⟨vm, nm_e ⟨vm, nm_r (e' := upd (ap_sz p) m 0) (by rw [em]) ⟨vm, nm_r (e' := upd (ap_L p) m b) (by rw [em, ad_nb hb]) hp⟩⟩⟩) (fun z => ?_)
  rcases z with z | z
  · exact absurd z (nI_pos (by omega))
  · exact absurd z (nI_ge (b := 4) hm (by decide))
theorem ym_out (post : Int32 → Prop) {v1 : Int32} {Q : Nat} (hQ : Q ≤ 300) (h0 : v1 < 0 ∨ nI Q ≤ v1 → post 0) (h1 : ∀ j, j < Q → v1 = nI j → post (ou j)) : wpY_out post (kn, md, lv, up, dn, dp, bg, gY, oc, sh, rn, nI Q, en, ap_oo p, sA, sB, ap_c p, ap_sz p, ap_L p, NY, PY, KY, va, fY, al, me, pt, h, lo, ou, es, td, ph) v1 := by
  unfold wpY_out
  refine ay_no _ v1 (n := Q) (by omega) (fun j hj e => br_t rfl ⟨?_, ?_⟩) (fun z => br_f (by decide) (h0 z))
  · rw [e]; exact vp_in_nI (by omega) (by omega)
  · rw [e, nI_clamp (by omega)]; exact h1 j hj e
theorem ym_ended (post : Int32 → Prop) {v1 : Int32} {Q : Nat} (hQ : Q ≤ 300) (h0 : v1 < 0 ∨ nI Q ≤ v1 → post 0) (h1 : ∀ j, j < Q → v1 = nI j → post (es j)) : wpY_ended post (kn, md, lv, up, dn, dp, bg, gY, oc, sh, rn, po, nI Q, ap_oo p, sA, sB, ap_c p, ap_sz p, ap_L p, NY, PY, KY, va, fY, al, me, pt, h, lo, ou, es, td, ph) v1 := by
  unfold wpY_ended
  refine ay_no _ v1 (n := Q) (by omega) (fun j hj e => br_t rfl ⟨?_, ?_⟩) (fun z => br_f (by decide) (h0 z))
  · rw [e]; exact vp_in_nI (by omega) (by omega)
  · rw [e, nI_clamp (by omega)]; exact h1 j hj e
end
theorem ar_lwz (v : Int32) : lw_bz v = 0 ∨ lw_bz v = 1 := lw_bz_01 v
theorem i_vc_method {k : Nat} {u : SX} {v : SY} (I : i_Rel k u v) (hk : k + 6 ≤ 3072) (v1 : Int32) (v2 : Int32) : wpX_method (fun r u' => wpY_method (fun r' v' => r' = r ∧ i_Rel (k + 6) u' v') v v1 (lw_bz v2)) u v1 (lw_bz v2) := by
  have II := I
  obtain ⟨p, d, M, L, E, Q, B, g, kn, up, dn, sa, sh, oc, rn, sA, sB, N, P, K, R, NY, PY, KY, me, pt, h, lx, lo, va, rf, al, fX, fY, pe, ou, es, td, ph, rfl, rfl, H, hAB, hkn, hR⟩ := I
  rcases pk_ix v1 (n := 4) (by decide) with c | c | ⟨m, hm, rfl⟩
  · exact br_t c (ym_bad4 _ (Or.inl c) ⟨rfl, II⟩)
  · exact br_f (Int32.not_lt.mpr (Int32.le_trans (by decide) c)) (br_f (Int32.not_lt.mpr c) (ym_bad4 _ (Or.inr c) ⟨rfl, II⟩))
  · have vm : vp_in (nI m) 4 := vp_in_nI hm (by omega)
    have em : (nI m).toNatClampNeg = m := nI_clamp (by omega)
    have e1 : upd (ap_sz p) m 0 = ap_sz (p.1, p.2.1, p.2.2.1, p.2.2.2.1, (fun j => if j = m then 0 else ap_Z p j), upd (ap_L p) m (lw_bz v2)) := ad_updN (ap_Z p) m 0
    refine br_f (nI_pos (by omega)) (br_t (nI_lt (b := 4) hm (by decide)) ⟨vm, nm_e ⟨vm, nm_r (e' := upd (ap_sz p) m 0) (by rw [em]) ⟨vm, nm_r (e' := upd (ap_L p) m (lw_bz v2)) (by rw [em, ad_nb (ar_lwz v2)]) ?_⟩⟩⟩)
    refine ym_ok4 _ hm (ar_lwz v2) ⟨rfl, ?_⟩
    rw [e1]
    refine ⟨_, d, M, L, E, Q, B, g, 0, up, dn, sa, sh, oc, rn, sA, sB, N, P, K, R, NY, PY, KY, me, pt, h, lx, lo, va, rf, al, fX, fY, pe, ou, es, td, ph, rfl, rfl, ⟨H.1, fun j => ?_, fun j => ?_⟩, hAB, Or.inl rfl, hR⟩
    · show (if j = m then 0 else ap_Z p j) ≤ 16
      split
      · omega
      · exact H.2.1 j
    · show upd (ap_L p) m (lw_bz v2) j = 0 ∨ upd (ap_L p) m (lw_bz v2) j = 1
      by_cases c : j = m
      · subst c; rw [pk_us]; exact ar_lwz v2
      · rw [pk_un c]; exact H.2.2 j
theorem i_vc_out {k : Nat} {u : SX} {v : SY} (I : i_Rel k u v) (hk : k + 6 ≤ 3072) (v1 : Int32) : wpX_out (fun r => wpY_out (fun r' => r' = r ∧ i_Rel (k + 6) u v) v v1) u v1 := by
  have II := I
  obtain ⟨p, d, M, L, E, Q, B, g, kn, up, dn, sa, sh, oc, rn, sA, sB, N, P, K, R, NY, PY, KY, me, pt, h, lx, lo, va, rf, al, fX, fY, pe, ou, es, td, ph, rfl, rfl, H, hAB, hkn, hR⟩ := I
  obtain ⟨R1, R2, R3, R4, R5, R6, R7, R8, R9⟩ := hR
  rcases pk_ix v1 (n := Q) (by omega) with c | c | ⟨m, hm, rfl⟩
  · exact br_t c (ym_out _ (by omega) (fun _ => ⟨rfl, II⟩) (fun j hj e => by rw [e] at c; exact absurd c (nI_pos (by omega))))
  · exact br_f (Int32.not_lt.mpr (Int32.le_trans (nI_pos' (n := Q) (by omega)) c)) (br_f (Int32.not_lt.mpr c) (ym_out _ (by omega) (fun _ => ⟨rfl, II⟩) (fun j hj e => by rw [e] at c; exact absurd c (nI_ge hj (by omega)))))
  · have vm : vp_in (nI m) 300 := vp_in_nI (by omega) (by omega)
    refine br_f (nI_pos (by omega)) (br_t (nI_lt hm (by omega)) ⟨vm, ?_⟩)
    rw [nI_clamp (by omega)]
    refine ym_out _ (by omega) (fun z => ?_) (fun j hj e => ⟨by rw [(nI_eq (by omega) (by omega)).mp e], II⟩)
    rcases z with z | z
    · exact absurd z (nI_pos (by omega))
    · exact absurd z (nI_ge hm (by omega))
theorem i_vc_ended {k : Nat} {u : SX} {v : SY} (I : i_Rel k u v) (hk : k + 6 ≤ 3072) (v1 : Int32) : wpX_ended (fun r => wpY_ended (fun r' => r' = r ∧ i_Rel (k + 6) u v) v v1) u v1 := by
  have II := I
  obtain ⟨p, d, M, L, E, Q, B, g, kn, up, dn, sa, sh, oc, rn, sA, sB, N, P, K, R, NY, PY, KY, me, pt, h, lx, lo, va, rf, al, fX, fY, pe, ou, es, td, ph, rfl, rfl, H, hAB, hkn, hR⟩ := I
  obtain ⟨R1, R2, R3, R4, R5, R6, R7, R8, R9⟩ := hR
  obtain ⟨hLc, hL24, hEL, hM, hd⟩ := R1.2.2.2.2.2.2.1
  rcases pk_ix v1 (n := E) (by omega) with c | c | ⟨m, hm, rfl⟩
  · exact br_t c (ym_ended _ (by omega) (fun _ => ⟨rfl, II⟩) (fun j hj e => by rw [e] at c; exact absurd c (nI_pos (by omega))))
  · exact br_f (Int32.not_lt.mpr (Int32.le_trans (nI_pos' (n := E) (by omega)) c)) (br_f (Int32.not_lt.mpr c) (ym_ended _ (by omega) (fun _ => ⟨rfl, II⟩) (fun j hj e => by rw [e] at c; exact absurd c (nI_ge hj (by omega)))))
  · have vm : vp_in (nI m) 301 := vp_in_nI (by omega) (by omega)
    refine br_f (nI_pos (by omega)) (br_t (nI_lt hm (by omega)) ⟨vm, ?_⟩)
    rw [nI_clamp (by omega)]
    refine ym_ended _ (by omega) (fun z => ?_) (fun j hj e => ⟨by rw [(nI_eq (by omega) (by omega)).mp e], II⟩)
    rcases z with z | z
    · exact absurd z (nI_pos (by omega))
    · exact absurd z (nI_ge hm (by omega))
end
section
section
variable {p : ap_T} {kn po en up dn bg lv md gX gY dp sa sh oc rn : Int32} {sA sB N P K R NY PY KY me pt h lx lo va rf al fX fY pe ou es td ph : Nat → Int32}
variable {d M L E : Nat}
/-- whether n is an object that is alive, on both sides -/
theorem ar_live (n : Int32) (R1 : ac_MI 0 [] gY h lo d M al rf fX fY L E) :
    ∃ x : Int32, ((x = 0) ∨ (x = 1 ∧ ∃ j, 1 ≤ j ∧ j ≤ M ∧ n = nI j ∧ al j = 1)) ∧ (∀ post : Int32 → Prop, post x → wpX_isAlive post (po, en, up, dn, bg, lv, nI M, gX, dp, sa, sh, ap_sz p, ap_L p, ap_oo p, ap_aA p, ap_aB p, ap_c p, N, P, K, R, me, pt, h, lx, va, rf, al, fX, pe, ou, es) n) ∧ (∀ post : Int32 → Prop, post x → wpY_isAlive post (kn, nI M, lv, up, dn, dp, bg, gY, oc, sh, rn, po, en, ap_oo p, sA, sB, ap_c p, ap_sz p, ap_L p, NY, PY, KY, va, fY, al, me, pt, h, lo, ou, es, td, ph) n) := by
  obtain ⟨hLc, hL24, hEL, hM, hd⟩ := R1.2.2.2.2.2.2.1
  by_cases c : n ≤ 0
  · exact ⟨0, Or.inl rfl, fun post hp => br_t c hp, fun post hp => br_t c hp⟩
  · obtain ⟨j, hj, rfl⟩ := nI_of (x := n) (fun z => c (Int32.le_of_lt z))
    by_cases c2 : M < j
    · have c2' : nI M < nI j := nI_lt c2 hj
      exact ⟨0, Or.inl rfl, fun post hp => br_f c (br_t c2' hp), fun post hp => br_f c (br_t c2' hp)⟩
    · have c2' : ¬ nI M < nI j := nI_nlt (by omega) (by omega)
      have j1 : 1 ≤ j := by
        apply Classical.byContradiction
        intro z
        exact c (by rw [show j = 0 by omega]; decide)
      have vj : vp_in (nI j) 301 := vp_in_nI (by omega) (by omega)
      have ej : (nI j).toNatClampNeg = j := nI_clamp hj
      rcases ac_al01 R1 j1 (by omega) with a | a
      · exact ⟨0, Or.inl rfl, fun post hp => br_f c (br_f c2' ⟨vj, br_t (by rw [ej]; exact a) hp⟩), fun post hp => br_f c (br_f c2' ⟨vj, br_t (by rw [ej]; exact a) hp⟩)⟩
      · exact ⟨1, Or.inr ⟨rfl, j, j1, by omega, rfl, a⟩, fun post hp => br_f c (br_f c2' ⟨vj, br_f (by rw [ej, a]; decide) hp⟩), fun post hp => br_f c (br_f c2' ⟨vj, br_f (by rw [ej, a]; decide) hp⟩)⟩
end
theorem i_vc_count {k : Nat} {u : SX} {v : SY} (I : i_Rel k u v) (hk : k + 6 ≤ 3072) (v1 : Int32) : wpX_count (fun r => wpY_count (fun r' => r' = r ∧ i_Rel (k + 6) u v) v v1) u v1 := by
  have II := I
  obtain ⟨p, d, M, L, E, Q, B, g, kn, up, dn, sa, sh, oc, rn, sA, sB, N, P, K, R, NY, PY, KY, me, pt, h, lx, lo, va, rf, al, fX, fY, pe, ou, es, td, ph, rfl, rfl, H, hAB, hkn, hR⟩ := I
  obtain ⟨R1, R2, R3, R4, R5, R6, R7, R8, R9⟩ := hR
  obtain ⟨hLc, hL24, hEL, hM, hd⟩ := R1.2.2.2.2.2.2.1
  obtain ⟨x, hx, wX, wY⟩ := ar_live (p := p) (po := nI Q) (en := nI E) (up := up) (dn := dn) (bg := nI B) (lv := nI L) (gX := nI g) (dp := nI d) (sa := sa) (sh := sh) (N := N) (P := P) (K := K) (R := R) (me := me) (pt := pt) (lx := lx) (va := va) (pe := pe) (ou := ou) (es := es) (kn := kn) (gY := nI g) (oc := oc) (rn := rn) (sA := sA) (sB := sB) (NY := NY) (PY := PY) (KY := KY) (td := td) (ph := ph) v1 R1
  unfold wpX_count
  refine wX _ ?_
  rcases hx with e | ⟨e, j, j1, j2, ej, ja⟩
  · refine br_t e ?_
    unfold wpY_count
    exact wY _ (br_t e ⟨rfl, II⟩)
  · subst ej
    obtain ⟨r1, r2⟩ := ac_rf R1 j1 j2 ja
    refine br_f (by rw [e]; decide) ⟨vp_in_nI (by omega) (by omega), ?_⟩
    rw [nI_clamp (by omega), r1]
    unfold wpY_count
    refine wY _ (br_f (by rw [e]; decide) (by_count hM hd _ ⟨rfl, II⟩))
theorem i_vc_field {k : Nat} {u : SX} {v : SY} (I : i_Rel k u v) (hk : k + 6 ≤ 3072) (v1 : Int32) (v2 : Int32) : wpX_field (fun r => wpY_field (fun r' => r' = r ∧ i_Rel (k + 6) u v) v v1 v2) u v1 v2 := by
  have II := I
  obtain ⟨p, d, M, L, E, Q, B, g, kn, up, dn, sa, sh, oc, rn, sA, sB, N, P, K, R, NY, PY, KY, me, pt, h, lx, lo, va, rf, al, fX, fY, pe, ou, es, td, ph, rfl, rfl, H, hAB, hkn, hR⟩ := I
  obtain ⟨R1, R2, R3, R4, R5, R6, R7, R8, R9⟩ := hR
  obtain ⟨hLc, hL24, hEL, hM, hd⟩ := R1.2.2.2.2.2.2.1
  obtain ⟨x, hx, wX, wY⟩ := ar_live (p := p) (po := nI Q) (en := nI E) (up := up) (dn := dn) (bg := nI B) (lv := nI L) (gX := nI g) (dp := nI d) (sa := sa) (sh := sh) (N := N) (P := P) (K := K) (R := R) (me := me) (pt := pt) (lx := lx) (va := va) (pe := pe) (ou := ou) (es := es) (kn := kn) (gY := nI g) (oc := oc) (rn := rn) (sA := sA) (sB := sB) (NY := NY) (PY := PY) (KY := KY) (td := td) (ph := ph) v1 R1
  unfold wpX_field
  refine wX _ ?_
  rcases hx with e | ⟨e, j, j1, j2, ej, ja⟩
  · refine br_t e ?_
    unfold wpY_field
    exact wY _ (br_t e ⟨rfl, II⟩)
  · subst ej
    have e0 : ¬ x = 0 := by rw [e]; decide
    refine br_f e0 ?_
    rcases pk_ix v2 (n := 3) (by decide) with c | c | ⟨m, hm, rfl⟩
    · refine br_t c ?_
      unfold wpY_field
      exact wY _ (br_f e0 (ay_no _ v2 (n := 3) (by decide) (fun j hj e => by rw [e] at c; exact absurd c (nI_pos (by omega))) (fun _ => br_f (by decide) ⟨rfl, II⟩)))
    · refine br_f (Int32.not_lt.mpr (Int32.le_trans (by decide) c)) (br_t c ?_)
      unfold wpY_field
      exact wY _ (br_f e0 (ay_no _ v2 (n := 3) (by decide) (fun j hj e => by rw [e] at c; exact absurd c (nI_ge (b := 3) hj (by decide))) (fun _ => br_f (by decide) ⟨rfl, II⟩)))
    · have iX : nI j * 3 + nI m = nI (3 * j + m) := by
        have : nI j * 3 = nI (j * 3) := pk_mul j 3
        rw [this, nI_add, Nat.mul_comm]
      have iY : 3 * nI j + nI m = nI (3 * j + m) := by
        have : 3 * nI j = nI (3 * j) := pk_mul 3 j
        rw [this, nI_add]
      have vx : vp_in (nI (3 * j + m)) 903 := vp_in_nI (by omega) (by omega)
      refine br_f (nI_pos (by omega)) (br_f (nI_ge (b := 3) hm (by decide)) ?_)
      rw [iX, nI_clamp (n := 3 * j + m) (by omega)]
      refine ⟨vx, ?_⟩
      unfold wpY_field
      refine wY _ (br_f e0 (ay_no _ (nI m) (n := 3) (by decide) (fun _ _ _ => br_t rfl ?_) (fun z => by rcases z with z | z; exact absurd z (nI_pos (by omega)); exact absurd z (nI_ge (b := 3) hm (by decide)))))
      rw [iY, nI_clamp (n := 3 * j + m) (by omega)]
      exact ⟨vx, (ac_fld R1 j1 j2 ja hm).symm, II⟩
theorem i_vc_state {k : Nat} {u : SX} {v : SY} (I : i_Rel k u v) (hk : k + 6 ≤ 3072) (v1 : Int32) : wpX_state (fun r => wpY_state (fun r' => r' = r ∧ i_Rel (k + 6) u v) v v1) u v1 := by
  have II := I
  obtain ⟨p, d, M, L, E, Q, B, g, kn, up, dn, sa, sh, oc, rn, sA, sB, N, P, K, R, NY, PY, KY, me, pt, h, lx, lo, va, rf, al, fX, fY, pe, ou, es, td, ph, rfl, rfl, H, hAB, hkn, hR⟩ := I
  obtain ⟨R1, R2, R3, R4, R5, R6, R7, R8, R9⟩ := hR
  obtain ⟨hLc, hL24, hEL, hM, hd⟩ := R1.2.2.2.2.2.2.1
  rcases pk_ix v1 (n := 10) (by decide) with c | c | ⟨m, hm, rfl⟩
  · exact br_t c (br_t c ⟨rfl, II⟩)
  · have c9 : (9 : Int32) < v1 := Int32.lt_of_lt_of_le (by decide) c
    have c0 : ¬ v1 < 0 := Int32.not_lt.mpr (Int32.le_trans (by decide) c)
    exact br_f c0 (br_t c9 (br_f c0 (br_t c9 ⟨rfl, II⟩)))
  · have h10 : m = 0 ∨ m = 1 ∨ m = 2 ∨ m = 3 ∨ m = 4 ∨ m = 5 ∨ m = 6 ∨ m = 7 ∨ m = 8 ∨ m = 9 := by omega
    rcases h10 with e | e | e | e | e | e | e | e | e | e <;> subst e
    · exact br_f (by decide) (br_f (by decide) (br_t (by decide) (br_f (by decide) (br_f (by decide) (br_t (by decide) (⟨rfl, II⟩))))))
    · exact br_f (by decide) (br_f (by decide) (br_f (by decide) (br_t (by decide) (br_f (by decide) (br_f (by decide) (br_f (by decide) (br_t (by decide) (⟨rfl, II⟩))))))))
    · exact br_f (by decide) (br_f (by decide) (br_f (by decide) (br_f (by decide) (br_t (by decide) (br_f (by decide) (br_f (by decide) (br_f (by decide) (br_f (by decide) (br_t (by decide) (⟨rfl, II⟩))))))))))
    · exact br_f (by decide) (br_f (by decide) (br_f (by decide) (br_f (by decide) (br_f (by decide) (br_t (by decide) (br_f (by decide) (br_f (by decide) (br_f (by decide) (br_f (by decide) (br_f (by decide) (br_t (by decide) (⟨rfl, II⟩))))))))))))
    · exact br_f (by decide) (br_f (by decide) (br_f (by decide) (br_f (by decide) (br_f (by decide) (br_f (by decide) (br_t (by decide) (br_f (by decide) (br_f (by decide) (br_f (by decide) (br_f (by decide) (br_f (by decide) (br_f (by decide) (br_t (by decide) (⟨rfl, II⟩))))))))))))))
    · exact br_f (by decide) (br_f (by decide) (br_f (by decide) (br_f (by decide) (br_f (by decide) (br_f (by decide) (br_f (by decide) (br_t (by decide) (br_f (by decide) (br_f (by decide) (br_f (by decide) (br_f (by decide) (br_f (by decide) (br_f (by decide) (br_f (by decide) (br_t (by decide) (⟨rfl, II⟩))))))))))))))))
    · exact br_f (by decide) (br_f (by decide) (br_f (by decide) (br_f (by decide) (br_f (by decide) (br_f (by decide) (br_f (by decide) (br_f (by decide) (br_t (by decide) (br_f (by decide) (br_f (by decide) (br_f (by decide) (br_f (by decide) (br_f (by decide) (br_f (by decide) (br_f (by decide) (br_f (by decide) (br_t (by decide) (⟨rfl, II⟩))))))))))))))))))
    · refine br_f (by decide) (br_f (by decide) (br_f (by decide) (br_f (by decide) (br_f (by decide) (br_f (by decide) (br_f (by decide) (br_f (by decide) (br_f (by decide) (br_t (by decide) (br_f (by decide) (br_f (by decide) (br_f (by decide) (br_f (by decide) (br_f (by decide) (br_f (by decide) (br_f (by decide) (br_f (by decide) (br_f (by decide) (br_t (by decide) (?_))))))))))))))))))))
      by_cases c : oc = 0
      · exact br_t c ⟨rfl, II⟩
      · exact br_f c ⟨by rw [R8 c]; rfl, II⟩
    · exact br_f (by decide) (br_f (by decide) (br_f (by decide) (br_f (by decide) (br_f (by decide) (br_f (by decide) (br_f (by decide) (br_f (by decide) (br_f (by decide) (br_f (by decide) (br_t (by decide) (br_f (by decide) (br_f (by decide) (br_f (by decide) (br_f (by decide) (br_f (by decide) (br_f (by decide) (br_f (by decide) (br_f (by decide) (br_f (by decide) (br_f (by decide) (br_t (by decide) (⟨rfl, II⟩))))))))))))))))))))))
    · refine br_f (by decide) (br_f (by decide) (br_f (by decide) (br_f (by decide) (br_f (by decide) (br_f (by decide) (br_f (by decide) (br_f (by decide) (br_f (by decide) (br_f (by decide) (br_f (by decide) (br_t (by decide) (br_f (by decide) (br_f (by decide) (br_f (by decide) (br_f (by decide) (br_f (by decide) (br_f (by decide) (br_f (by decide) (br_f (by decide) (br_f (by decide) (br_f (by decide) (br_f (by decide) (br_t (by decide) (?_))))))))))))))))))))))))
      rcases R9 with ⟨a, b⟩ | ⟨a, b, c, e⟩
      · by_cases r0 : rn = 0
        · exact br_t r0 ⟨b.symm, II⟩
        · exact br_f r0 (br_t (by rcases a with a | a; exact absurd a r0; exact a) ⟨b.symm, II⟩)
      · have e1 : nI d - 1 = nI (d - 1) := by
          have := nI_pred (d - 1)
          rw [show d - 1 + 1 = d by omega] at this
          exact this
        have v : vp_in (nI (d - 1)) 6 := vp_in_nI (by omega) (by omega)
        refine br_f a (br_f b ?_)
        rw [e1, nI_clamp (n := d - 1) (by omega)]
        exact ⟨v, v, e.symm, II⟩
end
section
section
variable {p : ap_T} {kn po en up dn bg lv md gX gY dp sa sh oc rn : Int32} {sA sB N P K R NY PY KY me pt h lx lo va rf al fX fY pe ou es td ph : Nat → Int32}
theorem ar_there (H : ap_OK p) (v1 v2 : Int32) :
    (∃ m i, m < 4 ∧ i < ap_Z p m ∧ v1 = nI m ∧ v2 = nI i ∧ (∀ post : Int32 → Prop, post 1 → wpX_isThere post (po, en, up, dn, bg, lv, md, gX, dp, sa, sh, ap_sz p, ap_L p, ap_oo p, ap_aA p, ap_aB p, ap_c p, N, P, K, R, me, pt, h, lx, va, rf, al, fX, pe, ou, es) v1 v2) ∧ (∀ post : Int32 → Prop, post 1 → wpY_has post (kn, md, lv, up, dn, dp, bg, gY, oc, sh, rn, po, en, ap_oo p, sA, sB, ap_c p, ap_sz p, ap_L p, NY, PY, KY, va, fY, al, me, pt, h, lo, ou, es, td, ph) v1 v2)) ∨
    ((∀ post : Int32 → Prop, post 0 → wpX_isThere post (po, en, up, dn, bg, lv, md, gX, dp, sa, sh, ap_sz p, ap_L p, ap_oo p, ap_aA p, ap_aB p, ap_c p, N, P, K, R, me, pt, h, lx, va, rf, al, fX, pe, ou, es) v1 v2) ∧ (∀ post : Int32 → Prop, post 0 → wpY_has post (kn, md, lv, up, dn, dp, bg, gY, oc, sh, rn, po, en, ap_oo p, sA, sB, ap_c p, ap_sz p, ap_L p, NY, PY, KY, va, fY, al, me, pt, h, lo, ou, es, td, ph) v1 v2)) := by
  rcases pk_ix v1 (n := 4) (by decide) with c | c | ⟨m, hm, rfl⟩
  · refine Or.inr ⟨fun post hp => br_t c hp, fun post hp => ?_⟩
    unfold wpY_has
    exact ay_no _ v1 (n := 4) (by decide) (fun j hj e => by rw [e] at c; exact absurd c (nI_pos (by omega))) (fun _ => br_f (by decide) hp)
  · refine Or.inr ⟨fun post hp => br_f (Int32.not_lt.mpr (Int32.le_trans (by decide) c)) (br_t c hp), fun post hp => ?_⟩
    unfold wpY_has
    exact ay_no _ v1 (n := 4) (by decide) (fun j hj e => by rw [e] at c; exact absurd c (nI_ge (b := 4) hj (by decide))) (fun _ => br_f (by decide) hp)
  · have hz := H.2.1 m
    have vm : vp_in (nI m) 4 := vp_in_nI hm (by omega)
    have m0 : ¬ nI m < 0 := nI_pos (by omega)
    have m4 : ¬ (4 : Int32) ≤ nI m := nI_ge (b := 4) hm (by decide)
    have esz := ap_szm p hm
    have Yin : ∀ post : Int32 → Prop, wpY_no (fun r => ((r = 0 → post 1) ∧ (¬ r = 0 → post 0))) v2 (nI (ap_Z p m)) → wpY_has post (kn, md, lv, up, dn, dp, bg, gY, oc, sh, rn, po, en, ap_oo p, sA, sB, ap_c p, ap_sz p, ap_L p, NY, PY, KY, va, fY, al, me, pt, h, lo, ou, es, td, ph) (nI m) v2 := by
      intro post KK
      unfold wpY_has
      refine ay_no _ (nI m) (n := 4) (by decide) (fun _ _ _ => br_t rfl ⟨vm, ?_⟩) (fun z => ?_)
      · rw [esz]; exact KK
      · rcases z with z | z
        · exact absurd z m0
        · exact absurd z m4
    rcases pk_ix v2 (n := ap_Z p m) (by omega) with c | c | ⟨i, hi, rfl⟩
    · refine Or.inr ⟨fun post hp => br_f m0 (br_f m4 (br_t c hp)), fun post hp => Yin post (ay_no _ v2 (by omega) (fun j hj e => by rw [e] at c; exact absurd c (nI_pos (by omega))) (fun _ => br_f (by decide) hp))⟩
    · refine Or.inr ⟨fun post hp => br_f m0 (br_f m4 (br_f (Int32.not_lt.mpr (Int32.le_trans (nI_pos' (n := ap_Z p m) (by omega)) c)) ⟨vm, br_t (by rw [esz]; exact c) hp⟩)), fun post hp => Yin post (ay_no _ v2 (by omega) (fun j hj e => by rw [e] at c; exact absurd c (nI_ge hj (by omega))) (fun _ => br_f (by decide) hp))⟩
    · refine Or.inl ⟨m, i, hm, hi, rfl, rfl, fun post hp => br_f m0 (br_f m4 (br_f (nI_pos (by omega)) ⟨vm, br_f (by rw [esz]; exact nI_ge hi (by omega)) hp⟩)), fun post hp => Yin post (ay_no _ (nI i) (by omega) (fun _ _ _ => br_t rfl hp) (fun z => ?_))⟩
      rcases z with z | z
      · exact absurd z (nI_pos (by omega))
      · exact absurd z (nI_ge hi (by omega))
end
theorem i_vc_plan {k : Nat} {u : SX} {v : SY} (I : i_Rel k u v) (hk : k + 6 ≤ 3072) (v1 : Int32) (v2 : Int32) : wpX_plan (fun r u' => wpY_plan (fun r' v' => r' = r ∧ i_Rel (k + 6) u' v') v v1 v2) u v1 v2 := by
  have II := I
  obtain ⟨p, d, M, L, E, Q, B, g, kn, up, dn, sa, sh, oc, rn, sA, sB, N, P, K, R, NY, PY, KY, me, pt, h, lx, lo, va, rf, al, fX, fY, pe, ou, es, td, ph, rfl, rfl, H, hAB, hkn, hR⟩ := I
  unfold wpX_plan
  rcases ar_there (p := p) (po := nI Q) (en := nI E) (up := up) (dn := dn) (bg := nI B) (lv := nI L) (md := nI M) (gX := nI g) (dp := nI d) (sa := sa) (sh := sh) (N := N) (P := P) (K := K) (R := R) (me := me) (pt := pt) (h := h) (lx := lx) (va := va) (rf := rf) (al := al) (fX := fX) (pe := pe) (ou := ou) (es := es) (kn := kn) (gY := nI g) (oc := oc) (rn := rn) (sA := sA) (sB := sB) (NY := NY) (PY := PY) (KY := KY) (fY := fY) (lo := lo) (td := td) (ph := ph) H v1 v2 with ⟨m, i, hm, hi, rfl, rfl, wX, wY⟩ | ⟨wX, wY⟩
  · have hz := H.2.1 m
    refine wX _ (br_f (by decide) (ax_analyse H hm _ (fun N' P' K' R' h1 h2 h3 o1 o2 o3 o4 => ?_)))
    dsimp only
    rw [ap_xk, nI_clamp (n := 16 * m + i) (by omega)]
    refine ⟨vp_in_nI (by omega) (by omega), ?_⟩
    unfold wpY_plan
    refine wY _ (br_f (by decide) (ay_look H hAB hkn _ (fun NY' PY' KY' s f1 f2 f3 => ?_)))
    dsimp only
    rw [ap_yk, nI_clamp (n := 16 * m + i) (by omega)]
    refine ⟨vp_in_nI (by omega) (by omega), ap_Pl_u ((s m hm).2.1 i hi) (h2 i hi), ?_⟩
    exact ⟨p, d, M, L, E, Q, B, g, 1, up, dn, sa, sh, oc, rn, sA, sB, N', P', K', R', NY', PY', KY', me, pt, h, lx, lo, va, rf, al, fX, fY, pe, ou, es, td, ph, rfl, rfl, H, hAB, Or.inr ⟨rfl, s⟩, hR⟩
  · refine wX _ (br_t rfl ?_)
    unfold wpY_plan
    exact wY _ (br_t rfl ⟨rfl, II⟩)
end
section
section
variable {p : ap_T} {kn po en up dn bg lv md gX gY dp sa sh oc rn : Int32} {sA sB N P K R NY PY KY me pt h lx lo va rf al fX fY pe ou es td ph : Nat → Int32}
theorem bx_an (H : ap_OK p) (post : Int32 → SX → Prop) (x1 x2 : Int32)
    (hp : ∀ N P K R, (∀ m, m < 4 → ap_NS p m N ∧ ap_PS p m P ∧ ap_KX p m K R) → wX_run_13 post x1 x2 1 (nI 4) po en up dn bg lv md gX dp sa sh (ap_sz p) (ap_L p) (ap_oo p) (ap_aA p) (ap_aB p) (ap_c p) N P K R me pt h lx va rf al fX pe ou es) :
    ∀ e m, m + e = 4 → ∀ N P K R, (∀ j, j < m → ap_NS p j N ∧ ap_PS p j P ∧ ap_KX p j K R) → wX_run_13 post x1 x2 (e + 1) (nI m) po en up dn bg lv md gX dp sa sh (ap_sz p) (ap_L p) (ap_oo p) (ap_aA p) (ap_aB p) (ap_c p) N P K R me pt h lx va rf al fX pe ou es := by
  intro e
  induction e with
  | zero =>
    intro m hm N P K R hs
    have : m = 4 := by omega
    subst this
    exact hp N P K R hs
  | succ e ih =>
    intro m hm N P K R hs
    refine br_f (nI_ge (b := 4) (by omega) (by decide)) (ax_analyse H (by omega) _ (fun N' P' K' R' h1 h2 h3 o1 o2 o3 o4 => nm_r (nI_1 m) (ih (m + 1) (by omega) N' P' K' R' (fun j hj => ?_))))
    by_cases c : j = m
    · subst c; exact ⟨h1, h2, h3⟩
    · obtain ⟨a1, a2, a3⟩ := hs j (by omega)
      have hz := H.2.1 j
      have q : ∀ i, i < ap_Z p j → (16 * j + i) / 16 ≠ m := fun i hi => by omega
      refine ⟨fun i hi v hv => ?_, fun i hi => ?_, fun i hi => ?_⟩
      · rw [o1 _ (q i hi)]; exact a1 i hi v hv
      · rw [o2 _ (q i hi)]; exact a2 i hi
      · rw [o3 _ (q i hi), o4 _ (q i hi)]; exact a3 i hi
/-- what X found, in Y's arrays -/
theorem ar_wit (H : ap_OK p) (hs : ∀ m, m < 4 → ap_NS p m N ∧ ap_PS p m P ∧ ap_KX p m K R) (NY PY KY : Nat → Int32) :
    ∃ N1 P1 K1 : Nat → Int32, (∀ m, m < 4 → ay_Sp p m N1 P1 K1) ∧ al_fr p NY N1 ∧ al_fr p PY P1 ∧ al_fr p KY K1 := by
  have hv : ∀ m i, m < 4 → i < ap_Z p m → (16 * m + i) / 16 < 4 ∧ (16 * m + i) % 16 < ap_Z p ((16 * m + i) / 16) := by
    intro m i hm hi
    have hz := H.2.1 m
    have e1 : (16 * m + i) / 16 = m := by omega
    have e2 : (16 * m + i) % 16 = i := by omega
    rw [e1, e2]; exact ⟨hm, hi⟩
  refine ⟨fun k => if k / 16 < 4 ∧ k % 16 < ap_Z p (k / 16) then N k else NY k, fun k => if k / 16 < 4 ∧ k % 16 < ap_Z p (k / 16) then P k else PY k, fun k => if k / 16 < 4 ∧ k % 16 < ap_Z p (k / 16) then (if R k = 0 then -1 else K k) else KY k, fun m hm => ⟨fun i hi v hv2 => ?_, fun i hi => ?_, fun i hi => ?_⟩, fun k hk => if_neg hk, fun k hk => if_neg hk, fun k hk => if_neg hk⟩
  · dsimp only
    rw [if_pos (hv m i hm hi)]; exact (hs m hm).1 i hi v hv2
  · dsimp only
    rw [if_pos (hv m i hm hi)]; exact (hs m hm).2.1 i hi
  · dsimp only
    rw [if_pos (hv m i hm hi)]
    obtain ⟨r1, r2, r3⟩ := (hs m hm).2.2 i hi
    rcases r1 with r | r
    · rw [if_pos r]
      exact Or.inl ⟨fun z => by have := r2.mpr z; rw [r] at this; exact absurd this (by decide), rfl⟩
    · rw [if_neg (by rw [r]; decide)]
      exact Or.inr ⟨r2.mp r, r3⟩
end
theorem ar_fit (v : Int32) : fits .boolean (.int (lw_bz v)) = true := by
  rcases lw_bz_01 v with e | e <;> rw [e] <;> rfl
theorem i_vc_run {k : Nat} {u : SX} {v : SY} (I : i_Rel k u v) (hk : k + 6 ≤ 3072) (v1 : Int32) (v2 : Int32) : wpX_run (fun r u' => wpY_run (fun r' v' => r' = r ∧ i_Rel (k + 6) u' v') v (lw_bz v1) v2) u (lw_bz v1) v2 := by
  have II := I
  obtain ⟨p, d, M, L, E, Q, B, g, kn, up, dn, sa, sh, oc, rn, sA, sB, N, P, K, R, NY, PY, KY, me, pt, h, lx, lo, va, rf, al, fX, fY, pe, ou, es, td, ph, rfl, rfl, H, hAB, hkn, hR⟩ := I
  obtain ⟨R1, R2, R3, R4, R5, R6, R7, R8, R9⟩ := hR
  rcases pk_ix v2 (n := 4) (by decide) with c | c | ⟨m, hm, rfl⟩
  · refine br_t c ?_
    dsimp only
    unfold wpY_run
    exact ay_no _ v2 (n := 4) (by decide) (fun j hj e => by rw [e] at c; exact absurd c (nI_pos (by omega))) (fun _ => br_f (by decide) ⟨rfl, II⟩)
  · refine br_f (Int32.not_lt.mpr (Int32.le_trans (by decide) c)) (br_f (Int32.not_lt.mpr c) ?_)
    dsimp only
    unfold wpY_run
    exact ay_no _ v2 (n := 4) (by decide) (fun j hj e => by rw [e] at c; exact absurd c (nI_ge (b := 4) hj (by decide))) (fun _ => br_f (by decide) ⟨rfl, II⟩)
  · have hz := H.2.1 m
    have vm : vp_in (nI m) 4 := vp_in_nI hm (by omega)
    have esz := ap_szm p hm
    refine br_f (nI_pos (by omega)) (br_t (nI_lt (b := 4) hm (by decide)) ⟨5, ?_⟩)
    refine bx_an H _ _ _ (fun N' P' K' R' hs => ?_) 4 0 (by omega) N P K R (fun j hj => by omega)
    obtain ⟨N1, P1, K1, w1, w2, w3, w4⟩ := ar_wit H hs NY PY KY
    -- the run begins
    have M0 : ac_MI 0 [] (nI 0) h lo 0 0 al rf fX fY 0 0 :=
      ⟨fun n h1 h2 => by omega, fun n h1 h2 => by omega, fun n h1 h2 => by omega, fun v hv => by omega, ⟨0, Nat.le_refl _, rfl⟩, Nat.le_refl _, ⟨rfl, by show 0 + 0 ≤ 24; omega, rfl, by omega, by omega⟩, True.intro⟩
    have M1 := ac_ent (x := 0) (0 : Int32) (by rw [if_pos rfl]; exact M0) (by omega) (Nat.le_refl _) (upd (af_ze h (6 * 0) 6) (6 * 0) (nI 0)) (upd (af_ze lo (6 * 0) 6) (6 * 0) 0)
      (fun v hv => by omega) ⟨pk_us, pk_us⟩ (fun j j1 j2 => by rw [pk_un (by omega)]; exact af_ze_in (by omega) (by omega))
    have L1 : af_ll (upd (af_ze h (6 * 0) 6) (6 * 0) (nI 0)) (upd (af_ze lx (6 * 0) 6) (6 * 0) 0) (upd (af_ze lo (6 * 0) 6) (6 * 0) 0) := af_ll_u (af_ll_ze R2 _ _) _ (Or.inl rfl) (fun _ => rfl) (fun _ => rfl)
    have lo0 : ∀ j, j < 6 → upd (af_ze lo (6 * 0) 6) (6 * 0) 0 j = 0 := by
      intro j hj
      by_cases c : j = 6 * 0
      · rw [c]; exact pk_us
      · rw [pk_un c]; exact af_ze_in (by omega) (by omega)
    have F1 : ag_F p (lw_bz v1) (0 + 1) (upd (af_ze h (6 * 0) 6) (6 * 0) (nI 0)) (upd (af_ze lo (6 * 0) 6) (6 * 0) 0) (upd me 0 (nI m)) (upd pt 0 0) := by
      refine ⟨lw_bz_01 v1, fun _ v hv => lo0 v (by omega), fun f hf => ?_⟩
      have f0 : f = 0 := by omega
      subst f0
      refine ⟨m, 0, hm, by omega, pk_us, pk_us, fun z => by omega, fun j hj hlo => ?_⟩
      rw [show 6 * 0 + j = j by omega, lo0 j hj] at hlo
      exact absurd rfl hlo
    have hA : ag_A p N' P' N1 P1 := fun m hm => ⟨(hs m hm).1, (hs m hm).2.1, (w1 m hm).1, (w1 m hm).2.1⟩
    refine br_t (by decide) ⟨lw_bz_n v1, ar_fit v1, bx_enter (d := 0) (m := m) (x := 0) (by omega) 0 (Or.inl rfl) _ ⟨vm, ?_⟩⟩
    -- the reference, up to its loop
    have Yb : ∀ (post : Int32 → SY → Prop), ((nI (ap_Z p m) = 0 → ∃ n, wY_run_94 post n 1 (nI 0) (nI 0) 0 0 (nI 1) (nI 0) (nI 0) 1 (lw_bz v1) 1 (nI 0) (nI 0) (ap_oo p) sA sB (ap_c p) (ap_sz p) (ap_L p) N1 P1 K1 va fY al (upd me 0 (nI m)) (upd pt 0 0) (upd (af_ze h (6 * 0) 6) (6 * 0) (nI 0)) (upd (af_ze lo (6 * 0) 6) (6 * 0) 0) ou es td ph) ∧
        (¬ nI (ap_Z p m) = 0 → ∃ n, wY_run_94 post n 1 (nI 0) (nI 0) 0 0 (nI 1) (nI 0) (nI 0) (-1) (lw_bz v1) 1 (nI 0) (nI 0) (ap_oo p) sA sB (ap_c p) (ap_sz p) (ap_L p) N1 P1 K1 va fY al (upd me 0 (nI m)) (upd pt 0 0) (upd (af_ze h (6 * 0) 6) (6 * 0) (nI 0)) (upd (af_ze lo (6 * 0) 6) (6 * 0) 0) ou es td ph)) → wpY_run post (kn, nI M, nI L, up, dn, nI d, nI B, nI g, oc, sh, rn, nI Q, nI E, ap_oo p, sA, sB, ap_c p, ap_sz p, ap_L p, NY, PY, KY, va, fY, al, me, pt, h, lo, ou, es, td, ph) (lw_bz v1) (nI m) := by
      intro post KK
      unfold wpY_run
      refine ay_no _ (nI m) (n := 4) (by decide) (fun _ _ _ => br_t rfl ?_) (fun z => ?_)
      · refine ay_ev H hAB hkn w1 w2 w3 w4 _ ⟨lw_bz_n v1, ar_fit v1, by_enter (d := 0) (m := m) (x := 0) (by omega) (by omega) 0 (Or.inl rfl) _ ⟨vm, ?_⟩⟩
        rw [esz]
        exact KK
      · rcases z with z | z
        · exact absurd z (nI_pos (by omega))
        · exact absurd z (nI_ge (b := 4) hm (by decide))
    rw [esz]
    by_cases z0 : ap_Z p m = 0
    · refine br_t (by rw [z0]; rfl) ⟨1, br_f (by decide) (br_f (by decide) (bx_144 (d := 1) (by omega) (by omega) (by decide) _ (Yb _ ⟨fun _ => ⟨1, br_f (by decide) ⟨rfl, ?_⟩⟩, fun z => absurd (by rw [z0]; rfl) z⟩)))⟩
      exact ⟨p, 1, 0, 0, 0, 0, 0, 0, 1, 0, 0, _, lw_bz v1, 1, 1, sA, sB, N', P', K', R', N1, P1, K1, upd me 0 (nI m), upd pt 0 0, _, upd (af_ze lx (6 * 0) 6) (6 * 0) 0, _, va, rf, al, fX, fY, pe, ou, es, td, ph, rfl, rfl, H, hAB, Or.inr ⟨rfl, w1⟩, ⟨M1, L1, R3, Nat.le_refl _, Nat.le_refl _, by omega, Nat.le_refl _, fun _ => rfl, Or.inr ⟨by decide, by decide, by omega, rfl⟩⟩⟩
    · have nz : ¬ nI (ap_Z p m) = 0 := nI_ne0 (by omega) (by omega)
      obtain ⟨d', M', L', E', Q', B', g', r', sa', up', dn', h', lx', lo', al', rf', fX', fY', pe', td', ph', es', me', pt', va', ou', S1, S2, S3, S4⟩ := bz_runl (sa := sa) (K := K') (R := R') (kn := 1) (rn := 1) (KY := K1) H hAB hA 300 0 (0 + 1) 0 0 0 0 0 0 _ _ _ al rf fX fY pe td ph es _ _ va ou (by omega) (by omega) ⟨M1, L1, R3, Nat.le_refl _, Nat.le_refl _, by omega, Nat.le_refl _, F1⟩
      refine br_f nz (S3 _ (Yb _ ⟨fun z => absurd z nz, fun _ => S4 _ ⟨rfl, ?_⟩⟩))
      obtain ⟨T1, T2, T3, T4, T5, T6, T7, T8⟩ := S2
      refine ⟨p, d', M', L', E', Q', B', g', 1, up', dn', sa', lw_bz v1, r', 1, sA, sB, N', P', K', R', N1, P1, K1, me', pt', h', lx', lo', va', rf', al', fX', fY', pe', ou', es', td', ph', rfl, rfl, H, hAB, Or.inr ⟨rfl, w1⟩, ⟨T1, T2, T3, T4, T5, T6, T7, fun z => ?_, ?_⟩⟩
      · rcases S1 with ⟨a, _, _⟩ | ⟨_, _, a, _⟩
        · exact absurd a z
        · exact a
      · rcases S1 with ⟨a, b, c⟩ | ⟨a, b, c, e⟩
        · exact Or.inl ⟨Or.inr a, c⟩
        · exact Or.inr ⟨by decide, by rcases a with a | a <;> rw [a] <;> decide, b, e⟩
end
section
section
variable {p : ap_T} {kn po en up dn bg lv md gX gY dp sa sh oc rn : Int32} {sA sB N P K R NY PY KY me pt h lx lo va rf al fX fY pe ou es td ph : Nat → Int32}
variable {m i t : Nat}
/-- what is LEFT on a way: the reference answers as the component -/
theorem ar_120 (H : ap_OK p) (hAB : ap_AB p sA sB) (hm : m < 4) (hi : i < ap_Z p m) (ht : t ≤ 16) (hN : ap_NS p m N) (hP : ap_PS p m P) (hK : ap_KX p m K R) (s : ay_Sp p m NY PY KY) (h6 : ap_kp p m i 6) {x z : Int32}
    (hx : ∀ v, v < 32 → (bt x v = true ↔ (ap_gn p m i v ∨ bt (K (16 * m + i)) v = true ∧ ¬ ap_kl p m i v))) (hz1 : (t < ap_Z p m ∧ z = N (16 * m + t)) ∨ (ap_Z p m ≤ t ∧ z = 0)) :
    ∀ post : Int32 → SY → Prop, post (x &&& (z ^^^ (-1))) (kn, md, lv, up, dn, dp, bg, gY, oc, sh, rn, po, en, ap_oo p, sA, sB, ap_c p, ap_sz p, ap_L p, NY, PY, KY, va, fY, al, me, pt, h, lo, ou, es, td, ph) → wY_set_120 post (nI m) (nI (16 * m + i)) (nI t) kn md lv up dn dp bg gY oc sh rn po en (ap_oo p) sA sB (ap_c p) (ap_sz p) (ap_L p) NY PY KY va fY al me pt h lo ou es td ph := by
  have hz := H.2.1 m
  have hk : 16 * m + i < 64 := by omega
  have hI : vp_in (nI (16 * m + i)) 64 := vp_in_nI hk (by omega)
  have ek : (nI (16 * m + i)).toNatClampNeg = 16 * m + i := nI_clamp (by omega)
  obtain ⟨y, hy, wy⟩ := ay_kb (kn := kn) (md := md) (lv := lv) (up := up) (dn := dn) (dp := dp) (bg := bg) (gY := gY) (oc := oc) (sh := sh) (rn := rn) (po := po) (en := en) (sA := sA) (sB := sB) (NY := NY) (PY := PY) (KY := KY) (va := va) (fY := fY) (al := al) (me := me) (pt := pt) (h := h) (lo := lo) (ou := ou) (es := es) (td := td) (ph := ph) H hAB hm hi s.2.1
  have kY : ∀ v, v < 32 → (bt (KY (16 * m + i)) v = true ↔ v < 6 ∧ ap_kp p m i v) := by
    rcases s.2.2 i hi with ⟨a, _⟩ | ⟨_, b⟩
    · exact absurd h6 a
    · exact b
  have exy : x = y := by
    refine b_ext (fun v hv => ad_iffb (hx v hv) ?_)
    rw [hy v hv, kY v hv, ((hK i hi).2.2 v hv)]
  have pos : (0 : Int32) ≤ KY (16 * m + i) := by
    apply Int32.not_lt.mp
    intro c
    have := ((kY 31 (by omega)).mp ((ad_neg _).mp c)).1
    omega
  intro post hp
  refine ⟨hI, br_t (by rw [ek]; exact pos) (wy _ ⟨vp_in_nI hm (by omega), ?_⟩)⟩
  rw [ap_szm p hm, ← exy]
  rcases hz1 with ⟨a, e⟩ | ⟨a, e⟩
  · refine br_f (nI_ge a (by omega)) ?_
    rw [ap_yk, nI_clamp (n := 16 * m + t) (by omega)]
    refine ⟨vp_in_nI (by omega) (by omega), ?_⟩
    rw [← ap_NS_u hN s.1 a, ← e]; exact hp
  · refine br_t (nI_le a (by omega)) ?_
    rw [e] at hp; exact hp
end
theorem i_vc_set {k : Nat} {u : SX} {v : SY} (I : i_Rel k u v) (hk : k + 6 ≤ 3072) (v1 : Int32) (v2 : Int32) (v3 : Int32) : wpX_set (fun r u' => wpY_set (fun r' v' => r' = r ∧ i_Rel (k + 6) u' v') v v1 v2 v3) u v1 v2 v3 := by
  have II := I
  obtain ⟨p, d, M, L, E, Q, B, g, kn, up, dn, sa, sh, oc, rn, sA, sB, N, P, K, R, NY, PY, KY, me, pt, h, lx, lo, va, rf, al, fX, fY, pe, ou, es, td, ph, rfl, rfl, H, hAB, hkn, hR⟩ := I
  unfold wpX_set
  rcases ar_there (p := p) (po := nI Q) (en := nI E) (up := up) (dn := dn) (bg := nI B) (lv := nI L) (md := nI M) (gX := nI g) (dp := nI d) (sa := sa) (sh := sh) (N := N) (P := P) (K := K) (R := R) (me := me) (pt := pt) (h := h) (lx := lx) (va := va) (rf := rf) (al := al) (fX := fX) (pe := pe) (ou := ou) (es := es) (kn := kn) (gY := nI g) (oc := oc) (rn := rn) (sA := sA) (sB := sB) (NY := NY) (PY := PY) (KY := KY) (fY := fY) (lo := lo) (td := td) (ph := ph) H v1 v2 with ⟨m, i, hm, hi, rfl, rfl, wX, wY⟩ | ⟨wX, wY⟩
  · have hz := H.2.1 m
    have hk' : 16 * m + i < 64 := by omega
    have hI : vp_in (nI (16 * m + i)) 64 := vp_in_nI hk' (by omega)
    have ek : (nI (16 * m + i)).toNatClampNeg = 16 * m + i := nI_clamp (by omega)
    have hcc := (H.1 (16 * m + i)).2.2.2.2.1
    refine wX _ (br_f (by decide) ?_)
    have Yin : ∀ post : Int32 → SY → Prop, (v3 = 2 → ∀ NY' PY' KY', (∀ m, m < 4 → ay_Sp p m NY' PY' KY') → wY_set_41 post (nI m) v3 (nI (16 * m + i)) (nI (i + 1)) 1 (nI M) (nI L) up dn (nI d) (nI B) (nI g) oc sh rn (nI Q) (nI E) (ap_oo p) sA sB (ap_c p) (ap_sz p) (ap_L p) NY' PY' KY' va fY al me pt h lo ou es td ph) → (¬ v3 = 2 → ∀ NY' PY' KY', (∀ m, m < 4 → ay_Sp p m NY' PY' KY') → wY_set_41 post (nI m) v3 (nI (16 * m + i)) (ap_c p (16 * m + i)) 1 (nI M) (nI L) up dn (nI d) (nI B) (nI g) oc sh rn (nI Q) (nI E) (ap_oo p) sA sB (ap_c p) (ap_sz p) (ap_L p) NY' PY' KY' va fY al me pt h lo ou es td ph) → wpY_set post (kn, nI M, nI L, up, dn, nI d, nI B, nI g, oc, sh, rn, nI Q, nI E, ap_oo p, sA, sB, ap_c p, ap_sz p, ap_L p, NY, PY, KY, va, fY, al, me, pt, h, lo, ou, es, td, ph) (nI m) (nI i) v3 := by
      intro post k2 k3
      unfold wpY_set
      refine wY _ (br_f (by decide) (ay_look H hAB hkn _ (fun NY' PY' KY' s f1 f2 f3 => nm_r (ap_yk m i) (br_c (fun c => ?_) (fun c => ⟨hI, ?_⟩)))))
      · rw [nI_1]; exact k2 c NY' PY' KY' s
      · rw [ap_ck p hk']; exact k3 c NY' PY' KY' s
    rcases pk_ix v3 (n := 4) (by decide) with c | c | ⟨w, hw, rfl⟩
    · have n0 : ∀ j : Nat, j < 4 → ¬ v3 = nI j := fun j hj e => by rw [e] at c; exact absurd c (nI_pos (by omega))
      refine br_t c (Yin _ (fun z => absurd z (n0 2 (by omega))) (fun _ NY' PY' KY' s => br_f (n0 0 (by omega)) (br_f (n0 1 (by omega)) (br_f (n0 2 (by omega)) (br_f (n0 3 (by omega)) ⟨rfl, ?_⟩)))))
      exact ⟨p, d, M, L, E, Q, B, g, 1, up, dn, sa, sh, oc, rn, sA, sB, N, P, K, R, NY', PY', KY', me, pt, h, lx, lo, va, rf, al, fX, fY, pe, ou, es, td, ph, rfl, rfl, H, hAB, Or.inr ⟨rfl, s⟩, hR⟩
    · have n0 : ∀ j : Nat, j < 4 → ¬ v3 = nI j := fun j hj e => by rw [e] at c; exact absurd c (nI_ge (b := 4) hj (by decide))
      have c3 : ¬ v3 ≤ 3 := Int32.not_le.mpr (Int32.lt_of_lt_of_le (by decide) c)
      refine br_f (Int32.not_lt.mpr (Int32.le_trans (by decide) c)) (br_f c3 (Yin _ (fun z => absurd z (n0 2 (by omega))) (fun _ NY' PY' KY' s => br_f (n0 0 (by omega)) (br_f (n0 1 (by omega)) (br_f (n0 2 (by omega)) (br_f (n0 3 (by omega)) ⟨rfl, ?_⟩))))))
      exact ⟨p, d, M, L, E, Q, B, g, 1, up, dn, sa, sh, oc, rn, sA, sB, N, P, K, R, NY', PY', KY', me, pt, h, lx, lo, va, rf, al, fX, fY, pe, ou, es, td, ph, rfl, rfl, H, hAB, Or.inr ⟨rfl, s⟩, hR⟩
    · refine br_f (nI_pos (by omega)) (br_t (nI_le (b := 3) (by omega) (by decide)) (nm_r (ap_xk m i) ?_))
      have h4 : w = 0 ∨ w = 1 ∨ w = 2 ∨ w = 3 := by omega
      rcases h4 with e | e | e | e <;> subst e
      · refine br_f (by decide) (br_f (by decide) (ax_analyse H hm _ (fun N' P' K' R' h1 h2 h3 o1 o2 o3 o4 => br_t rfl ⟨hI, ?_⟩)))
        rw [ek]
        refine Yin _ (fun z => absurd z (by decide)) (fun _ NY' PY' KY' s => br_t rfl ⟨hI, ?_, ?_⟩)
        · rw [ek]; exact (ap_NS_u h1 (s m hm).1 hi).symm
        · exact ⟨p, d, M, L, E, Q, B, g, 1, up, dn, sa, sh, oc, rn, sA, sB, N', P', K', R', NY', PY', KY', me, pt, h, lx, lo, va, rf, al, fX, fY, pe, ou, es, td, ph, rfl, rfl, H, hAB, Or.inr ⟨rfl, s⟩, hR⟩
      · refine br_f (by decide) (br_f (by decide) (ax_analyse H hm _ (fun N' P' K' R' h1 h2 h3 o1 o2 o3 o4 => br_f (by decide) ⟨hI, ?_⟩)))
        rw [ek]
        obtain ⟨r1, r2, r3⟩ := h3 i hi
        by_cases h6 : ap_kp p m i 6
        · refine br_f (by rw [r2.mpr h6]; decide) (br_t rfl ⟨hI, ?_⟩)
          refine Yin _ (fun z => absurd z (by decide)) (fun _ NY' PY' KY' s => br_f (by decide) (br_t rfl ⟨hI, ?_⟩))
          have kY : ∀ v, v < 32 → (bt (KY' (16 * m + i)) v = true ↔ v < 6 ∧ ap_kp p m i v) := by
            rcases (s m hm).2.2 i hi with ⟨a, _⟩ | ⟨_, b⟩
            · exact absurd h6 a
            · exact b
          have pos : (0 : Int32) ≤ KY' (16 * m + i) := by
            apply Int32.not_lt.mp
            intro c
            have := ((kY 31 (by omega)).mp ((ad_neg _).mp c)).1
            omega
          rw [ek]
          refine br_t pos ⟨hI, b_ext (fun v hv => ad_iffb (kY v hv) (r3 v hv)), ?_⟩
          exact ⟨p, d, M, L, E, Q, B, g, 1, up, dn, sa, sh, oc, rn, sA, sB, N', P', K', R', NY', PY', KY', me, pt, h, lx, lo, va, rf, al, fX, fY, pe, ou, es, td, ph, rfl, rfl, H, hAB, Or.inr ⟨rfl, s⟩, hR⟩
        · have r0 : R' (16 * m + i) = 0 := by
            rcases r1 with r | r
            · exact r
            · exact absurd (r2.mp r) h6
          refine br_t r0 ?_
          refine Yin _ (fun z => absurd z (by decide)) (fun _ NY' PY' KY' s => br_f (by decide) (br_t rfl ⟨hI, ?_⟩))
          have km : KY' (16 * m + i) = -1 := by
            rcases (s m hm).2.2 i hi with ⟨_, b⟩ | ⟨a, _⟩
            · exact b
            · exact absurd a h6
          rw [ek, km]
          refine br_f (by decide) ⟨rfl, ?_⟩
          exact ⟨p, d, M, L, E, Q, B, g, 1, up, dn, sa, sh, oc, rn, sA, sB, N', P', K', R', NY', PY', KY', me, pt, h, lx, lo, va, rf, al, fX, fY, pe, ou, es, td, ph, rfl, rfl, H, hAB, Or.inr ⟨rfl, s⟩, hR⟩
      · obtain ⟨x1, hx1, wx1⟩ := ax_on (po := nI Q) (en := nI E) (up := up) (dn := dn) (bg := nI B) (lv := nI L) (md := nI M) (gX := nI g) (dp := nI d) (sa := sa) (sh := sh) (N := N) (P := P) (K := K) (R := R) (me := me) (pt := pt) (h := h) (lx := lx) (va := va) (rf := rf) (al := al) (fX := fX) (pe := pe) (ou := ou) (es := es) (i := i) H hm (by omega)
        refine br_t rfl (wx1 _ ?_)
        rcases hx1 with ⟨a, e⟩ | ⟨a, e⟩
        · skip
          refine br_f (by rw [e]; decide) (br_f (by decide) (ax_analyse H hm _ (fun N' P' K' R' h1 h2 h3 o1 o2 o3 o4 => br_f (by decide) ⟨hI, ?_⟩)))
          rw [ek]
          obtain ⟨r1, r2, r3⟩ := h3 i hi
          by_cases h6 : ap_kp p m i 6
          · refine br_f (by rw [r2.mpr h6]; decide) (br_f (by decide) (br_t rfl ?_))
            rw [nI_1]
            obtain ⟨x, hx, wx⟩ := ax_kb (po := nI Q) (en := nI E) (up := up) (dn := dn) (bg := nI B) (lv := nI L) (md := nI M) (gX := nI g) (dp := nI d) (sa := sa) (sh := sh) (N := N') (P := P') (K := K') (R := R') (me := me) (pt := pt) (h := h) (lx := lx) (va := va) (rf := rf) (al := al) (fX := fX) (pe := pe) (ou := ou) (es := es) H hm hi h2
            obtain ⟨z, hz1, wz⟩ := ax_na (po := nI Q) (en := nI E) (up := up) (dn := dn) (bg := nI B) (lv := nI L) (md := nI M) (gX := nI g) (dp := nI d) (sa := sa) (sh := sh) (N := N') (P := P') (K := K') (R := R') (me := me) (pt := pt) (h := h) (lx := lx) (va := va) (rf := rf) (al := al) (fX := fX) (pe := pe) (ou := ou) (es := es) H hm (j := i + 1) (by omega)
            refine wx _ (wz _ ?_)
            refine Yin _ (fun _ NY' PY' KY' s => ?_) (fun z => absurd rfl z)
            obtain ⟨y1, hy1, wy1⟩ := ay_on (kn := 1) (md := nI M) (lv := nI L) (up := up) (dn := dn) (dp := nI d) (bg := nI B) (gY := nI g) (oc := oc) (sh := sh) (rn := rn) (po := nI Q) (en := nI E) (sA := sA) (sB := sB) (NY := NY') (PY := PY') (KY := KY') (va := va) (fY := fY) (al := al) (me := me) (pt := pt) (h := h) (lo := lo) (ou := ou) (es := es) (td := td) (ph := ph) (i := i) H hm (by omega)
            refine br_f (by decide) (br_f (by decide) (br_t rfl (br_t rfl (wy1 _ ?_))))
            rcases hy1 with ⟨a', e'⟩ | ⟨a', e'⟩
            · refine br_f (by rw [e']; decide) ?_
              skip
              have y := ar_120 (po := nI Q) (en := nI E) (up := up) (dn := dn) (bg := nI B) (lv := nI L) (md := nI M) (dp := nI d) (sh := sh) (me := me) (pt := pt) (h := h) (va := va) (al := al) (ou := ou) (es := es) (kn := 1) (gY := nI g) (oc := oc) (rn := rn) (fY := fY) (lo := lo) (td := td) (ph := ph) (t := i + 1) H hAB hm hi (by omega) h1 h2 h3 (s m hm) h6 hx hz1
              exact y _ ⟨rfl, ⟨p, d, M, L, E, Q, B, g, 1, up, dn, sa, sh, oc, rn, sA, sB, N', P', K', R', NY', PY', KY', me, pt, h, lx, lo, va, rf, al, fX, fY, pe, ou, es, td, ph, rfl, rfl, H, hAB, Or.inr ⟨rfl, s⟩, hR⟩⟩
            · exact absurd a a'
          · have r0 : R' (16 * m + i) = 0 := by
              rcases r1 with r | r
              · exact r
              · exact absurd (r2.mp r) h6
            refine br_t r0 ?_
            refine Yin _ (fun _ NY' PY' KY' s => ?_) (fun z => absurd rfl z)
            obtain ⟨y1, hy1, wy1⟩ := ay_on (kn := 1) (md := nI M) (lv := nI L) (up := up) (dn := dn) (dp := nI d) (bg := nI B) (gY := nI g) (oc := oc) (sh := sh) (rn := rn) (po := nI Q) (en := nI E) (sA := sA) (sB := sB) (NY := NY') (PY := PY') (KY := KY') (va := va) (fY := fY) (al := al) (me := me) (pt := pt) (h := h) (lo := lo) (ou := ou) (es := es) (td := td) (ph := ph) (i := i) H hm (by omega)
            refine br_f (by decide) (br_f (by decide) (br_t rfl (br_t rfl (wy1 _ ?_))))
            rcases hy1 with ⟨a', e'⟩ | ⟨a', e'⟩
            · refine br_f (by rw [e']; decide) ⟨hI, ?_⟩
              have km : KY' (16 * m + i) = -1 := by
                rcases (s m hm).2.2 i hi with ⟨_, b⟩ | ⟨q, _⟩
                · exact b
                · exact absurd q h6
              rw [ek, km]
              exact br_f (by decide) ⟨rfl, ⟨p, d, M, L, E, Q, B, g, 1, up, dn, sa, sh, oc, rn, sA, sB, N', P', K', R', NY', PY', KY', me, pt, h, lx, lo, va, rf, al, fX, fY, pe, ou, es, td, ph, rfl, rfl, H, hAB, Or.inr ⟨rfl, s⟩, hR⟩⟩
            · exact absurd a a'
        · refine br_t e ?_
          refine Yin _ (fun _ NY' PY' KY' s => ?_) (fun z => absurd rfl z)
          obtain ⟨y1, hy1, wy1⟩ := ay_on (kn := 1) (md := nI M) (lv := nI L) (up := up) (dn := dn) (dp := nI d) (bg := nI B) (gY := nI g) (oc := oc) (sh := sh) (rn := rn) (po := nI Q) (en := nI E) (sA := sA) (sB := sB) (NY := NY') (PY := PY') (KY := KY') (va := va) (fY := fY) (al := al) (me := me) (pt := pt) (h := h) (lo := lo) (ou := ou) (es := es) (td := td) (ph := ph) (i := i) H hm (by omega)
          refine br_f (by decide) (br_f (by decide) (br_t rfl (br_t rfl (wy1 _ ?_))))
          rcases hy1 with ⟨a', e'⟩ | ⟨a', e'⟩
          · exact absurd a' a
          · exact br_t e' ⟨rfl, ⟨p, d, M, L, E, Q, B, g, 1, up, dn, sa, sh, oc, rn, sA, sB, N, P, K, R, NY', PY', KY', me, pt, h, lx, lo, va, rf, al, fX, fY, pe, ou, es, td, ph, rfl, rfl, H, hAB, Or.inr ⟨rfl, s⟩, hR⟩⟩
      · obtain ⟨x1, hx1, wx1⟩ := ax_jp (po := nI Q) (en := nI E) (up := up) (dn := dn) (bg := nI B) (lv := nI L) (md := nI M) (gX := nI g) (dp := nI d) (sa := sa) (sh := sh) (N := N) (P := P) (K := K) (R := R) (me := me) (pt := pt) (h := h) (lx := lx) (va := va) (rf := rf) (al := al) (fX := fX) (pe := pe) (ou := ou) (es := es) (i := i) H hm (by omega)
        refine br_f (by decide) (br_t rfl (wx1 _ ?_))
        rcases hx1 with ⟨a, e⟩ | ⟨a, e⟩
        · obtain ⟨c1, c2⟩ := hcc a
          refine br_f (by rw [e]; decide) (ax_analyse H hm _ (fun N' P' K' R' h1 h2 h3 o1 o2 o3 o4 => br_f (by decide) ⟨hI, ?_⟩))
          rw [ek]
          obtain ⟨r1, r2, r3⟩ := h3 i hi
          by_cases h6 : ap_kp p m i 6
          · refine br_f (by rw [r2.mpr h6]; decide) (br_f (by decide) (br_f (by decide) ⟨hI, ?_⟩))
            rw [c1]
            obtain ⟨x, hx, wx⟩ := ax_kb (po := nI Q) (en := nI E) (up := up) (dn := dn) (bg := nI B) (lv := nI L) (md := nI M) (gX := nI g) (dp := nI d) (sa := sa) (sh := sh) (N := N') (P := P') (K := K') (R := R') (me := me) (pt := pt) (h := h) (lx := lx) (va := va) (rf := rf) (al := al) (fX := fX) (pe := pe) (ou := ou) (es := es) H hm hi h2
            obtain ⟨z, hz1, wz⟩ := ax_na (po := nI Q) (en := nI E) (up := up) (dn := dn) (bg := nI B) (lv := nI L) (md := nI M) (gX := nI g) (dp := nI d) (sa := sa) (sh := sh) (N := N') (P := P') (K := K') (R := R') (me := me) (pt := pt) (h := h) (lx := lx) (va := va) (rf := rf) (al := al) (fX := fX) (pe := pe) (ou := ou) (es := es) H hm (j := ap_C p (16 * m + i)) (by omega)
            refine wx _ (wz _ ?_)
            refine Yin _ (fun z => absurd z (by decide)) (fun _ NY' PY' KY' s => ?_)
            obtain ⟨y1, hy1, wy1⟩ := ay_jp (kn := 1) (md := nI M) (lv := nI L) (up := up) (dn := dn) (dp := nI d) (bg := nI B) (gY := nI g) (oc := oc) (sh := sh) (rn := rn) (po := nI Q) (en := nI E) (sA := sA) (sB := sB) (NY := NY') (PY := PY') (KY := KY') (va := va) (fY := fY) (al := al) (me := me) (pt := pt) (h := h) (lo := lo) (ou := ou) (es := es) (td := td) (ph := ph) (i := i) H hm (by omega)
            refine br_f (by decide) (br_f (by decide) (br_f (by decide) (br_t rfl (br_f (by decide) (wy1 _ ?_)))))
            rcases hy1 with ⟨a', e'⟩ | ⟨a', e'⟩
            · refine br_f (by rw [e']; decide) ?_
              rw [c1]
              have y := ar_120 (po := nI Q) (en := nI E) (up := up) (dn := dn) (bg := nI B) (lv := nI L) (md := nI M) (dp := nI d) (sh := sh) (me := me) (pt := pt) (h := h) (va := va) (al := al) (ou := ou) (es := es) (kn := 1) (gY := nI g) (oc := oc) (rn := rn) (fY := fY) (lo := lo) (td := td) (ph := ph) (t := ap_C p (16 * m + i)) H hAB hm hi (by omega) h1 h2 h3 (s m hm) h6 hx hz1
              exact y _ ⟨rfl, ⟨p, d, M, L, E, Q, B, g, 1, up, dn, sa, sh, oc, rn, sA, sB, N', P', K', R', NY', PY', KY', me, pt, h, lx, lo, va, rf, al, fX, fY, pe, ou, es, td, ph, rfl, rfl, H, hAB, Or.inr ⟨rfl, s⟩, hR⟩⟩
            · exact absurd a a'
          · have r0 : R' (16 * m + i) = 0 := by
              rcases r1 with r | r
              · exact r
              · exact absurd (r2.mp r) h6
            refine br_t r0 ?_
            refine Yin _ (fun z => absurd z (by decide)) (fun _ NY' PY' KY' s => ?_)
            obtain ⟨y1, hy1, wy1⟩ := ay_jp (kn := 1) (md := nI M) (lv := nI L) (up := up) (dn := dn) (dp := nI d) (bg := nI B) (gY := nI g) (oc := oc) (sh := sh) (rn := rn) (po := nI Q) (en := nI E) (sA := sA) (sB := sB) (NY := NY') (PY := PY') (KY := KY') (va := va) (fY := fY) (al := al) (me := me) (pt := pt) (h := h) (lo := lo) (ou := ou) (es := es) (td := td) (ph := ph) (i := i) H hm (by omega)
            refine br_f (by decide) (br_f (by decide) (br_f (by decide) (br_t rfl (br_f (by decide) (wy1 _ ?_)))))
            rcases hy1 with ⟨a', e'⟩ | ⟨a', e'⟩
            · refine br_f (by rw [e']; decide) ⟨hI, ?_⟩
              have km : KY' (16 * m + i) = -1 := by
                rcases (s m hm).2.2 i hi with ⟨_, b⟩ | ⟨q, _⟩
                · exact b
                · exact absurd q h6
              rw [ek, km]
              exact br_f (by decide) ⟨rfl, ⟨p, d, M, L, E, Q, B, g, 1, up, dn, sa, sh, oc, rn, sA, sB, N', P', K', R', NY', PY', KY', me, pt, h, lx, lo, va, rf, al, fX, fY, pe, ou, es, td, ph, rfl, rfl, H, hAB, Or.inr ⟨rfl, s⟩, hR⟩⟩
            · exact absurd a a'
        · refine br_t e ?_
          refine Yin _ (fun z => absurd z (by decide)) (fun _ NY' PY' KY' s => ?_)
          obtain ⟨y1, hy1, wy1⟩ := ay_jp (kn := 1) (md := nI M) (lv := nI L) (up := up) (dn := dn) (dp := nI d) (bg := nI B) (gY := nI g) (oc := oc) (sh := sh) (rn := rn) (po := nI Q) (en := nI E) (sA := sA) (sB := sB) (NY := NY') (PY := PY') (KY := KY') (va := va) (fY := fY) (al := al) (me := me) (pt := pt) (h := h) (lo := lo) (ou := ou) (es := es) (td := td) (ph := ph) (i := i) H hm (by omega)
          refine br_f (by decide) (br_f (by decide) (br_f (by decide) (br_t rfl (br_f (by decide) (wy1 _ ?_)))))
          rcases hy1 with ⟨a', e'⟩ | ⟨a', e'⟩
          · exact absurd a' a
          · exact br_t e' ⟨rfl, ⟨p, d, M, L, E, Q, B, g, 1, up, dn, sa, sh, oc, rn, sA, sB, N, P, K, R, NY', PY', KY', me, pt, h, lx, lo, va, rf, al, fX, fY, pe, ou, es, td, ph, rfl, rfl, H, hAB, Or.inr ⟨rfl, s⟩, hR⟩⟩
  · refine wX _ (br_t rfl ?_)
    unfold wpY_set
    exact wY _ (br_t rfl ⟨rfl, II⟩)
end
section
def ap_add (p : ap_T) (m o A B : Nat) (c : Int32) : ap_T :=
  ((fun j => if j = 16 * m + ap_Z p m then o else ap_O p j), (fun j => if j = 16 * m + ap_Z p m then A else ap_A p j), (fun j => if j = 16 * m + ap_Z p m then B else ap_B p j), upd (ap_c p) (16 * m + ap_Z p m) c, (fun j => if j = m then ap_Z p m + 1 else ap_Z p j), ap_L p)
theorem by_no0 {post : Int32 → Prop} {j : Nat} (n : Nat) (h : j < n) (hn : n < 2 ^ 31) (hp : post 0) : wpY_no post (nI j) (nI n) := br_f (nI_pos (by omega)) (br_t (nI_lt h hn) hp)
theorem by_no1 {post : Int32 → Prop} {x : Int32} (n : Nat) (c : x < 0 ∨ nI n ≤ x) (hp : post 1) : wpY_no post x (nI n) := by
  refine br_c (fun _ => hp) (fun h => br_c (fun h2 => ?_) (fun _ => hp))
  rcases c with c | c
  · exact absurd c h
  · exact absurd h2 (Int32.not_lt.mpr c)
theorem xb_bad {x : Int32} {P Q : Prop} (n : Nat) (c : x < 0 ∨ nI n ≤ x) (hp : P) : (x < 0 → P) ∧ (¬ x < 0 → ((nI n ≤ x → P) ∧ (¬ nI n ≤ x → Q))) :=
  ⟨fun _ => hp, fun h => ⟨fun _ => hp, fun h2 => by rcases c with c | c; exact absurd c h; exact absurd c h2⟩⟩
theorem xb_ok {j : Nat} {P Q : Prop} (n : Nat) (h : j < n) (hn : n < 2 ^ 31) (hq : Q) : (nI j < 0 → P) ∧ (¬ nI j < 0 → ((nI n ≤ nI j → P) ∧ (¬ nI n ≤ nI j → Q))) :=
  br_f (nI_pos (by omega)) (br_f (nI_ge h hn) hq)
theorem xc_lim (n : Nat) (hn : n + 1 < 2 ^ 31) (x : Int32) : x ≤ nI n ↔ ¬ nI (n + 1) ≤ x := by
  rw [Int32.le_iff_toInt_le, Int32.le_iff_toInt_le, nI_toInt (by omega), nI_toInt hn]
  omega
theorem xc_bad {x : Int32} {P Q : Prop} (n : Nat) (hn : n + 1 < 2 ^ 31) (c : x < 0 ∨ nI (n + 1) ≤ x) (hp : P) : (x < 0 → P) ∧ (¬ x < 0 → ((x ≤ nI n → Q) ∧ (¬ x ≤ nI n → P))) :=
  ⟨fun _ => hp, fun h => ⟨fun h2 => by rcases c with c | c; exact absurd c h; exact absurd c ((xc_lim n hn x).mp h2), fun _ => hp⟩⟩
theorem xc_ok {j : Nat} {P Q : Prop} (n : Nat) (h : j < n + 1) (hn : n + 1 < 2 ^ 31) (hq : Q) : (nI j < 0 → P) ∧ (¬ nI j < 0 → ((nI j ≤ nI n → Q) ∧ (¬ nI j ≤ nI n → P))) :=
  br_f (nI_pos (by omega)) (br_t (nI_le (by omega) (by omega)) hq)
theorem ar_rng (x : Int32) (n : Nat) (hn : n < 2 ^ 31) : (x < 0 ∨ nI n ≤ x) ∨ ∃ j, j < n ∧ x = nI j := by
  rcases pk_ix x hn with c | c | c
  · exact Or.inl (Or.inl c)
  · exact Or.inl (Or.inr c)
  · exact Or.inr c
/-- the instruction is written, or the METHOD is full -/
theorem ar_fin {p : ap_T} {d M L E Q B g : Nat} {kn up dn sa sh oc rn : Int32} {sA sB N P K R NY PY KY me pt h lx lo va rf al fX fY pe ou es td ph : Nat → Int32} {k m o A B' : Nat} {a b c x6 x7 : Int32}
    (H : ap_OK p) (hAB : ap_AB p sA sB) (hkn : kn = 0 ∨ (kn = 1 ∧ ∀ m, m < 4 → ay_Sp p m NY PY KY)) (hR : ar_R d M L E Q B g sa oc rn h lx lo al rf fX fY me pt va) (hm : m < 4) (ho : o ≤ 13)
    (hA : A < 6) (hB : B' < 6) (h6 : (x6 = 0 ∧ A = 0) ∨ (x6 ≠ 0 ∧ a = nI A)) (h7 : (x7 = 0 ∧ B' = 0) ∨ (x7 ≠ 0 ∧ b = nI B')) (ya : o ≠ 10 → o ≠ 13 → a = nI A) (yb : (o = 1 ∨ o = 3 ∨ o = 4 ∨ o = 11) → b = nI B')
    (hc : (o = 3 ∨ o = 4 → ∃ j, j < 3 ∧ c = nI j) ∧ (o = 9 ∨ o = 10 → ∃ j, j < 16 ∧ c = nI j) ∧ (o = 11 → ∃ j, j < 4 ∧ c = nI j))
    (KK : ∀ post : Int32 → SY → Prop, wY_add_131 post (nI m) (nI o) a b c kn (nI M) (nI L) up dn (nI d) (nI B) (nI g) oc sh rn (nI Q) (nI E) (ap_oo p) sA sB (ap_c p) (ap_sz p) (ap_L p) NY PY KY va fY al me pt h lo ou es td ph → wpY_add post (kn, nI M, nI L, up, dn, nI d, nI B, nI g, oc, sh, rn, nI Q, nI E, ap_oo p, sA, sB, ap_c p, ap_sz p, ap_L p, NY, PY, KY, va, fY, al, me, pt, h, lo, ou, es, td, ph) (nI m) (nI o) a b c) :
    wX_add_126 (fun r u' => wpY_add (fun r' v' => r' = r ∧ i_Rel k u' v') (kn, nI M, nI L, up, dn, nI d, nI B, nI g, oc, sh, rn, nI Q, nI E, ap_oo p, sA, sB, ap_c p, ap_sz p, ap_L p, NY, PY, KY, va, fY, al, me, pt, h, lo, ou, es, td, ph) (nI m) (nI o) a b c) (nI m) (nI o) a b c x6 x7 (nI Q) (nI E) up dn (nI B) (nI L) (nI M) (nI g) (nI d) sa sh (ap_sz p) (ap_L p) (ap_oo p) (ap_aA p) (ap_aB p) (ap_c p) N P K R me pt h lx va rf al fX pe ou es := by
  have hz := H.2.1 m
  have vm : vp_in (nI m) 4 := vp_in_nI hm (by omega)
  have em : (nI m).toNatClampNeg = m := nI_clamp (by omega)
  have esz := ap_szm p hm
  refine ⟨vm, ?_⟩
  rw [esz]
  by_cases full : ap_Z p m = 16
  · refine br_f (by rw [full]; decide) (KK _ ⟨vm, br_t (by rw [esz, full]; rfl) ⟨rfl, ?_⟩⟩)
    exact ⟨p, d, M, L, E, Q, B, g, kn, up, dn, sa, sh, oc, rn, sA, sB, N, P, K, R, NY, PY, KY, me, pt, h, lx, lo, va, rf, al, fX, fY, pe, ou, es, td, ph, rfl, rfl, H, hAB, hkn, hR⟩
  · have hk : 16 * m + ap_Z p m < 64 := by omega
    have vk : vp_in (nI (16 * m + ap_Z p m)) 64 := vp_in_nI hk (by omega)
    have ek : (nI (16 * m + ap_Z p m)).toNatClampNeg = 16 * m + ap_Z p m := nI_clamp (by omega)
    have eo : upd (ap_oo p) (16 * m + ap_Z p m) (nI o) = ap_oo (ap_add p m o A B' c) := ad_updN (ap_O p) _ o
    have eA : upd (ap_aA p) (16 * m + ap_Z p m) (nI A) = ap_aA (ap_add p m o A B' c) := ad_updN (ap_A p) _ A
    have eB : upd (ap_aB p) (16 * m + ap_Z p m) (nI B') = ap_aB (ap_add p m o A B' c) := ad_updN (ap_B p) _ B'
    have eZ : upd (ap_sz p) m (nI (ap_Z p m + 1)) = ap_sz (ap_add p m o A B' c) := ad_updN (ap_Z p) m (ap_Z p m + 1)
    have eC : upd (ap_c p) (16 * m + ap_Z p m) c = ap_c (ap_add p m o A B' c) := rfl
    have zs : upd (ap_sz p) m (nI (ap_Z p m + 1)) m = nI (ap_Z p m + 1) := pk_us
    have s16 : ¬ nI (ap_Z p m) = 16 := fun z => full ((nI_eq (b := 16) (by omega) (by decide)).mp z)
    have Cj : ∀ j, j ≤ 16 → (nI j).toNatClampNeg = j := fun j hj => nI_clamp (by omega)
    have REL : i_Rel k (nI Q, nI E, up, dn, nI B, nI L, nI M, nI g, nI d, sa, sh, ap_sz (ap_add p m o A B' c), ap_L p, ap_oo (ap_add p m o A B' c), ap_aA (ap_add p m o A B' c), ap_aB (ap_add p m o A B' c), ap_c (ap_add p m o A B' c), N, P, K, R, me, pt, h, lx, va, rf, al, fX, pe, ou, es)
        (0, nI M, nI L, up, dn, nI d, nI B, nI g, oc, sh, rn, nI Q, nI E, ap_oo (ap_add p m o A B' c), upd sA (16 * m + ap_Z p m) a, upd sB (16 * m + ap_Z p m) b, ap_c (ap_add p m o A B' c), ap_sz (ap_add p m o A B' c), ap_L p, NY, PY, KY, va, fY, al, me, pt, h, lo, ou, es, td, ph) := by
      refine ⟨ap_add p m o A B' c, d, M, L, E, Q, B, g, 0, up, dn, sa, sh, oc, rn, upd sA (16 * m + ap_Z p m) a, upd sB (16 * m + ap_Z p m) b, N, P, K, R, NY, PY, KY, me, pt, h, lx, lo, va, rf, al, fX, fY, pe, ou, es, td, ph, rfl, rfl, ⟨fun j => ?_, fun j => ?_, H.2.2⟩, fun j => ?_, Or.inl rfl, hR⟩
      · by_cases c1 : j = 16 * m + ap_Z p m
        · have o1 : ap_O (ap_add p m o A B' c) j = o := if_pos c1
          have o2 : ap_A (ap_add p m o A B' c) j = A := if_pos c1
          have o3 : ap_B (ap_add p m o A B' c) j = B' := if_pos c1
          have o4 : ap_c (ap_add p m o A B' c) j = c := by rw [c1]; exact pk_us
          have o5 : ap_C (ap_add p m o A B' c) j = c.toNatClampNeg := by unfold ap_C; rw [o4]
          rw [o1, o2, o3, o4, o5]
          refine ⟨ho, hA, hB, fun z => ?_, fun z => ?_, fun z => ?_⟩
          · obtain ⟨j, hj, e⟩ := hc.1 z
            rw [e, Cj j (by omega)]; exact ⟨rfl, hj⟩
          · obtain ⟨j, hj, e⟩ := hc.2.1 z
            rw [e, Cj j (by omega)]; exact ⟨rfl, hj⟩
          · obtain ⟨j, hj, e⟩ := hc.2.2 z
            rw [e, Cj j (by omega)]; exact ⟨rfl, hj⟩
        · have o1 : ap_O (ap_add p m o A B' c) j = ap_O p j := if_neg c1
          have o2 : ap_A (ap_add p m o A B' c) j = ap_A p j := if_neg c1
          have o3 : ap_B (ap_add p m o A B' c) j = ap_B p j := if_neg c1
          have o4 : ap_c (ap_add p m o A B' c) j = ap_c p j := pk_un c1
          have o5 : ap_C (ap_add p m o A B' c) j = ap_C p j := by unfold ap_C; rw [o4]
          rw [o1, o2, o3, o4, o5]
          exact H.1 j
      · show (if j = m then ap_Z p m + 1 else ap_Z p j) ≤ 16
        split
        · omega
        · exact H.2.1 j
      · by_cases c1 : j = 16 * m + ap_Z p m
        · have o1 : ap_O (ap_add p m o A B' c) j = o := if_pos c1
          have o2 : ap_A (ap_add p m o A B' c) j = A := if_pos c1
          have o3 : ap_B (ap_add p m o A B' c) j = B' := if_pos c1
          rw [o1, o2, o3, c1, pk_us, pk_us]
          exact ⟨ya, yb⟩
        · have o1 : ap_O (ap_add p m o A B' c) j = ap_O p j := if_neg c1
          have o2 : ap_A (ap_add p m o A B' c) j = ap_A p j := if_neg c1
          have o3 : ap_B (ap_add p m o A B' c) j = ap_B p j := if_neg c1
          rw [o1, o2, o3, pk_un c1, pk_un c1]
          exact hAB j
    have Yf : wpY_add (fun r' v' => r' = nI (ap_Z p m + 1) ∧ i_Rel k (nI Q, nI E, up, dn, nI B, nI L, nI M, nI g, nI d, sa, sh, ap_sz (ap_add p m o A B' c), ap_L p, ap_oo (ap_add p m o A B' c), ap_aA (ap_add p m o A B' c), ap_aB (ap_add p m o A B' c), ap_c (ap_add p m o A B' c), N, P, K, R, me, pt, h, lx, va, rf, al, fX, pe, ou, es) v') (kn, nI M, nI L, up, dn, nI d, nI B, nI g, oc, sh, rn, nI Q, nI E, ap_oo p, sA, sB, ap_c p, ap_sz p, ap_L p, NY, PY, KY, va, fY, al, me, pt, h, lo, ou, es, td, ph) (nI m) (nI o) a b c := by
      refine KK _ ⟨vm, br_f (by rw [esz]; exact s16) ⟨vm, vm, nm_r (e' := ap_sz (ap_add p m o A B' c)) (by rw [em, ← eZ]; show upd (ap_sz p) m (nI (ap_Z p m) + 1) = _; rw [nI_1]) (nm_r (e' := nI (16 * m + ap_Z p m)) (by rw [esz, ap_yk]) ⟨vk, nm_r (e' := ap_oo (ap_add p m o A B' c)) (by rw [ek, eo]) ⟨vk, nm_r (e' := upd sA (16 * m + ap_Z p m) a) (by rw [ek]) ⟨vk, nm_r (e' := upd sB (16 * m + ap_Z p m) b) (by rw [ek]) ⟨vk, nm_r (e' := ap_c (ap_add p m o A B' c)) (by rw [ek, eC]) ⟨vm, ?_, REL⟩⟩⟩⟩⟩)⟩⟩
      rw [em, ← eZ]; exact zs
    have X195 : ∀ z0 : Int32, z0 = nI B' → wX_add_195 (fun r u' => wpY_add (fun r' v' => r' = r ∧ i_Rel k u' v') (kn, nI M, nI L, up, dn, nI d, nI B, nI g, oc, sh, rn, nI Q, nI E, ap_oo p, sA, sB, ap_c p, ap_sz p, ap_L p, NY, PY, KY, va, fY, al, me, pt, h, lo, ou, es, td, ph) (nI m) (nI o) a b c) (nI m) c (nI (16 * m + ap_Z p m)) z0 (nI (16 * m + ap_Z p m)) (nI Q) (nI E) up dn (nI B) (nI L) (nI M) (nI g) (nI d) sa sh (ap_sz p) (ap_L p) (ap_oo (ap_add p m o A B' c)) (ap_aA (ap_add p m o A B' c)) (ap_aB p) (ap_c p) N P K R me pt h lx va rf al fX pe ou es := by
      intro z0 e0
      subst e0
      refine ⟨vk, nm_r (e' := ap_aB (ap_add p m o A B' c)) (by rw [ek, eB]) ⟨vk, nm_r (e' := ap_c (ap_add p m o A B' c)) (by rw [ek, eC]) ⟨vm, vm, nm_r (e' := ap_sz (ap_add p m o A B' c)) (by rw [em, ← eZ]; show upd (ap_sz p) m (nI (ap_Z p m) + 1) = _; rw [nI_1]) ⟨vm, ?_⟩⟩⟩⟩
      rw [em, show ap_sz (ap_add p m o A B' c) m = nI (ap_Z p m + 1) by rw [← eZ]; exact zs]
      exact Yf
    have X177 : ∀ z0 : Int32, z0 = nI A → wX_add_177 (fun r u' => wpY_add (fun r' v' => r' = r ∧ i_Rel k u' v') (kn, nI M, nI L, up, dn, nI d, nI B, nI g, oc, sh, rn, nI Q, nI E, ap_oo p, sA, sB, ap_c p, ap_sz p, ap_L p, NY, PY, KY, va, fY, al, me, pt, h, lo, ou, es, td, ph) (nI m) (nI o) a b c) (nI m) b c x7 (nI (16 * m + ap_Z p m)) z0 (nI (16 * m + ap_Z p m)) (nI Q) (nI E) up dn (nI B) (nI L) (nI M) (nI g) (nI d) sa sh (ap_sz p) (ap_L p) (ap_oo (ap_add p m o A B' c)) (ap_aA p) (ap_aB p) (ap_c p) N P K R me pt h lx va rf al fX pe ou es := by
      intro z0 e0
      subst e0
      refine ⟨vk, nm_r (e' := ap_aA (ap_add p m o A B' c)) (by rw [ek, eA]) ?_⟩
      rcases h7 with ⟨q1, q2⟩ | ⟨q1, q2⟩
      · exact br_t q1 (X195 0 (by rw [q2]; rfl))
      · exact br_f q1 (X195 b q2)
    refine br_t (nI_lt (b := 16) (by omega) (by decide)) ⟨vm, nm_r (e' := nI (16 * m + ap_Z p m)) (by rw [ap_xk]) ⟨vk, nm_r (e' := ap_oo (ap_add p m o A B' c)) (by rw [ek, eo]) ?_⟩⟩
    rcases h6 with ⟨q1, q2⟩ | ⟨q1, q2⟩
    · exact br_t q1 (X177 0 (by rw [q2]; rfl))
    · exact br_f q1 (X177 a q2)
theorem ar_add0 {p : ap_T} {d M L E Q B g : Nat} {kn up dn sa sh oc rn : Int32} {sA sB N P K R NY PY KY me pt h lx lo va rf al fX fY pe ou es td ph : Nat → Int32} {k m : Nat} {a b c : Int32}
    (H : ap_OK p) (hAB : ap_AB p sA sB) (hkn : kn = 0 ∨ (kn = 1 ∧ ∀ m, m < 4 → ay_Sp p m NY PY KY)) (hR : ar_R d M L E Q B g sa oc rn h lx lo al rf fX fY me pt va) (hm : m < 4) :
    wpX_add (fun r u' => wpY_add (fun r' v' => r' = r ∧ i_Rel k u' v') (kn, nI M, nI L, up, dn, nI d, nI B, nI g, oc, sh, rn, nI Q, nI E, ap_oo p, sA, sB, ap_c p, ap_sz p, ap_L p, NY, PY, KY, va, fY, al, me, pt, h, lo, ou, es, td, ph) (nI m) (nI 0) a b c) (nI Q, nI E, up, dn, nI B, nI L, nI M, nI g, nI d, sa, sh, ap_sz p, ap_L p, ap_oo p, ap_aA p, ap_aB p, ap_c p, N, P, K, R, me, pt, h, lx, va, rf, al, fX, pe, ou, es) (nI m) (nI 0) a b c := by
  have II : i_Rel k (nI Q, nI E, up, dn, nI B, nI L, nI M, nI g, nI d, sa, sh, ap_sz p, ap_L p, ap_oo p, ap_aA p, ap_aB p, ap_c p, N, P, K, R, me, pt, h, lx, va, rf, al, fX, pe, ou, es) (kn, nI M, nI L, up, dn, nI d, nI B, nI g, oc, sh, rn, nI Q, nI E, ap_oo p, sA, sB, ap_c p, ap_sz p, ap_L p, NY, PY, KY, va, fY, al, me, pt, h, lo, ou, es, td, ph) := ⟨p, d, M, L, E, Q, B, g, kn, up, dn, sa, sh, oc, rn, sA, sB, N, P, K, R, NY, PY, KY, me, pt, h, lx, lo, va, rf, al, fX, fY, pe, ou, es, td, ph, rfl, rfl, H, hAB, hkn, hR⟩
  rcases ar_rng a 6 (by decide) with ha | ⟨A, ha, rfl⟩
  · unfold wpX_add; exact br_f (nI_pos (by omega)) (br_f (nI_ge (b := 4) hm (by decide)) (br_f (by decide) (br_t (by decide) (br_f (by decide) (br_f (by decide) (br_f (by decide) (br_f (by decide) (br_f (by decide) (br_f (by decide) (br_t (by decide) (br_f (by decide) (xb_bad 6 ha (by unfold wpY_add; exact by_no0 4 hm (by decide) (br_t rfl (by_no0 14 (j := 0) (by decide) (by decide) (br_t rfl (br_f (by decide) (br_f (by decide) (by_no1 6 ha (br_f (by decide) ⟨rfl, II⟩))))))))))))))))))))
  unfold wpX_add
  exact br_f (nI_pos (by omega)) (br_f (nI_ge (b := 4) hm (by decide)) (br_f (by decide) (br_t (by decide) (br_f (by decide) (br_f (by decide) (br_f (by decide) (br_f (by decide) (br_f (by decide) (br_f (by decide) (br_t (by decide) (br_f (by decide) (xb_ok 6 ha (by decide) (br_t rfl (br_t (by decide) (ar_fin (o := 0) (A := A) (B' := 0) H hAB hkn hR hm (by omega) ha (by omega) (Or.inr ⟨by decide, rfl⟩) (Or.inl ⟨rfl, rfl⟩) (fun _ _ => rfl) (fun z => by omega) ⟨fun z => by omega, fun z => by omega, fun z => by omega⟩ (fun post K131 => by unfold wpY_add; exact by_no0 4 hm (by decide) (br_t rfl (by_no0 14 (j := 0) (by decide) (by decide) (br_t rfl (br_f (by decide) (br_f (by decide) (by_no0 6 ha (by decide) (br_t rfl (br_f (by decide) (br_f (by decide) (br_f (by decide) (br_f (by decide) (br_f (by decide) (br_f (by decide) (br_f (by decide) (br_f (by decide) (br_f (by decide) (K131)))))))))))))))))))))))))))))))))
theorem ar_add1 {p : ap_T} {d M L E Q B g : Nat} {kn up dn sa sh oc rn : Int32} {sA sB N P K R NY PY KY me pt h lx lo va rf al fX fY pe ou es td ph : Nat → Int32} {k m : Nat} {a b c : Int32}
    (H : ap_OK p) (hAB : ap_AB p sA sB) (hkn : kn = 0 ∨ (kn = 1 ∧ ∀ m, m < 4 → ay_Sp p m NY PY KY)) (hR : ar_R d M L E Q B g sa oc rn h lx lo al rf fX fY me pt va) (hm : m < 4) :
    wpX_add (fun r u' => wpY_add (fun r' v' => r' = r ∧ i_Rel k u' v') (kn, nI M, nI L, up, dn, nI d, nI B, nI g, oc, sh, rn, nI Q, nI E, ap_oo p, sA, sB, ap_c p, ap_sz p, ap_L p, NY, PY, KY, va, fY, al, me, pt, h, lo, ou, es, td, ph) (nI m) (nI 1) a b c) (nI Q, nI E, up, dn, nI B, nI L, nI M, nI g, nI d, sa, sh, ap_sz p, ap_L p, ap_oo p, ap_aA p, ap_aB p, ap_c p, N, P, K, R, me, pt, h, lx, va, rf, al, fX, pe, ou, es) (nI m) (nI 1) a b c := by
  have II : i_Rel k (nI Q, nI E, up, dn, nI B, nI L, nI M, nI g, nI d, sa, sh, ap_sz p, ap_L p, ap_oo p, ap_aA p, ap_aB p, ap_c p, N, P, K, R, me, pt, h, lx, va, rf, al, fX, pe, ou, es) (kn, nI M, nI L, up, dn, nI d, nI B, nI g, oc, sh, rn, nI Q, nI E, ap_oo p, sA, sB, ap_c p, ap_sz p, ap_L p, NY, PY, KY, va, fY, al, me, pt, h, lo, ou, es, td, ph) := ⟨p, d, M, L, E, Q, B, g, kn, up, dn, sa, sh, oc, rn, sA, sB, N, P, K, R, NY, PY, KY, me, pt, h, lx, lo, va, rf, al, fX, fY, pe, ou, es, td, ph, rfl, rfl, H, hAB, hkn, hR⟩
  rcases ar_rng a 6 (by decide) with ha | ⟨A, ha, rfl⟩
  · unfold wpX_add; exact br_f (nI_pos (by omega)) (br_f (nI_ge (b := 4) hm (by decide)) (br_f (by decide) (br_t (by decide) (br_f (by decide) (br_f (by decide) (br_t (by decide) (br_t (by decide) (br_f (by decide) (xb_bad 6 ha (by unfold wpY_add; exact by_no0 4 hm (by decide) (br_t rfl (by_no0 14 (j := 1) (by decide) (by decide) (br_t rfl (br_f (by decide) (br_f (by decide) (by_no1 6 ha (br_f (by decide) ⟨rfl, II⟩)))))))))))))))))
  rcases ar_rng b 6 (by decide) with hb | ⟨B', hb, rfl⟩
  · unfold wpX_add; exact br_f (nI_pos (by omega)) (br_f (nI_ge (b := 4) hm (by decide)) (br_f (by decide) (br_t (by decide) (br_f (by decide) (br_f (by decide) (br_t (by decide) (br_t (by decide) (br_f (by decide) (xb_ok 6 ha (by decide) (br_f (by decide) (xb_bad 6 hb (by unfold wpY_add; exact by_no0 4 hm (by decide) (br_t rfl (by_no0 14 (j := 1) (by decide) (by decide) (br_t rfl (br_f (by decide) (br_f (by decide) (by_no0 6 ha (by decide) (br_t rfl (br_t (by decide) (by_no1 6 hb (br_f (by decide) ⟨rfl, II⟩))))))))))))))))))))))
  unfold wpX_add
  exact br_f (nI_pos (by omega)) (br_f (nI_ge (b := 4) hm (by decide)) (br_f (by decide) (br_t (by decide) (br_f (by decide) (br_f (by decide) (br_t (by decide) (br_t (by decide) (br_f (by decide) (xb_ok 6 ha (by decide) (br_f (by decide) (xb_ok 6 hb (by decide) (br_t (by decide) (ar_fin (o := 1) (A := A) (B' := B') H hAB hkn hR hm (by omega) ha hb (Or.inr ⟨by decide, rfl⟩) (Or.inr ⟨by decide, rfl⟩) (fun _ _ => rfl) (fun _ => rfl) ⟨fun z => by omega, fun z => by omega, fun z => by omega⟩ (fun post K131 => by unfold wpY_add; exact by_no0 4 hm (by decide) (br_t rfl (by_no0 14 (j := 1) (by decide) (by decide) (br_t rfl (br_f (by decide) (br_f (by decide) (by_no0 6 ha (by decide) (br_t rfl (br_t (by decide) (by_no0 6 hb (by decide) (br_t rfl (br_f (by decide) (br_f (by decide) (br_f (by decide) (br_f (by decide) (br_f (by decide) (K131))))))))))))))))))))))))))))))
theorem ar_add2 {p : ap_T} {d M L E Q B g : Nat} {kn up dn sa sh oc rn : Int32} {sA sB N P K R NY PY KY me pt h lx lo va rf al fX fY pe ou es td ph : Nat → Int32} {k m : Nat} {a b c : Int32}
    (H : ap_OK p) (hAB : ap_AB p sA sB) (hkn : kn = 0 ∨ (kn = 1 ∧ ∀ m, m < 4 → ay_Sp p m NY PY KY)) (hR : ar_R d M L E Q B g sa oc rn h lx lo al rf fX fY me pt va) (hm : m < 4) :
    wpX_add (fun r u' => wpY_add (fun r' v' => r' = r ∧ i_Rel k u' v') (kn, nI M, nI L, up, dn, nI d, nI B, nI g, oc, sh, rn, nI Q, nI E, ap_oo p, sA, sB, ap_c p, ap_sz p, ap_L p, NY, PY, KY, va, fY, al, me, pt, h, lo, ou, es, td, ph) (nI m) (nI 2) a b c) (nI Q, nI E, up, dn, nI B, nI L, nI M, nI g, nI d, sa, sh, ap_sz p, ap_L p, ap_oo p, ap_aA p, ap_aB p, ap_c p, N, P, K, R, me, pt, h, lx, va, rf, al, fX, pe, ou, es) (nI m) (nI 2) a b c := by
  have II : i_Rel k (nI Q, nI E, up, dn, nI B, nI L, nI M, nI g, nI d, sa, sh, ap_sz p, ap_L p, ap_oo p, ap_aA p, ap_aB p, ap_c p, N, P, K, R, me, pt, h, lx, va, rf, al, fX, pe, ou, es) (kn, nI M, nI L, up, dn, nI d, nI B, nI g, oc, sh, rn, nI Q, nI E, ap_oo p, sA, sB, ap_c p, ap_sz p, ap_L p, NY, PY, KY, va, fY, al, me, pt, h, lo, ou, es, td, ph) := ⟨p, d, M, L, E, Q, B, g, kn, up, dn, sa, sh, oc, rn, sA, sB, N, P, K, R, NY, PY, KY, me, pt, h, lx, lo, va, rf, al, fX, fY, pe, ou, es, td, ph, rfl, rfl, H, hAB, hkn, hR⟩
  rcases ar_rng a 6 (by decide) with ha | ⟨A, ha, rfl⟩
  · unfold wpX_add; exact br_f (nI_pos (by omega)) (br_f (nI_ge (b := 4) hm (by decide)) (br_f (by decide) (br_t (by decide) (br_f (by decide) (br_f (by decide) (br_f (by decide) (br_f (by decide) (br_f (by decide) (br_f (by decide) (br_t (by decide) (br_f (by decide) (xb_bad 6 ha (by unfold wpY_add; exact by_no0 4 hm (by decide) (br_t rfl (by_no0 14 (j := 2) (by decide) (by decide) (br_t rfl (br_f (by decide) (br_f (by decide) (by_no1 6 ha (br_f (by decide) ⟨rfl, II⟩))))))))))))))))))))
  unfold wpX_add
  exact br_f (nI_pos (by omega)) (br_f (nI_ge (b := 4) hm (by decide)) (br_f (by decide) (br_t (by decide) (br_f (by decide) (br_f (by decide) (br_f (by decide) (br_f (by decide) (br_f (by decide) (br_f (by decide) (br_t (by decide) (br_f (by decide) (xb_ok 6 ha (by decide) (br_t rfl (br_t (by decide) (ar_fin (o := 2) (A := A) (B' := 0) H hAB hkn hR hm (by omega) ha (by omega) (Or.inr ⟨by decide, rfl⟩) (Or.inl ⟨rfl, rfl⟩) (fun _ _ => rfl) (fun z => by omega) ⟨fun z => by omega, fun z => by omega, fun z => by omega⟩ (fun post K131 => by unfold wpY_add; exact by_no0 4 hm (by decide) (br_t rfl (by_no0 14 (j := 2) (by decide) (by decide) (br_t rfl (br_f (by decide) (br_f (by decide) (by_no0 6 ha (by decide) (br_t rfl (br_f (by decide) (br_f (by decide) (br_f (by decide) (br_f (by decide) (br_f (by decide) (br_f (by decide) (br_f (by decide) (br_f (by decide) (br_f (by decide) (K131)))))))))))))))))))))))))))))))))
theorem ar_add3 {p : ap_T} {d M L E Q B g : Nat} {kn up dn sa sh oc rn : Int32} {sA sB N P K R NY PY KY me pt h lx lo va rf al fX fY pe ou es td ph : Nat → Int32} {k m : Nat} {a b c : Int32}
    (H : ap_OK p) (hAB : ap_AB p sA sB) (hkn : kn = 0 ∨ (kn = 1 ∧ ∀ m, m < 4 → ay_Sp p m NY PY KY)) (hR : ar_R d M L E Q B g sa oc rn h lx lo al rf fX fY me pt va) (hm : m < 4) :
    wpX_add (fun r u' => wpY_add (fun r' v' => r' = r ∧ i_Rel k u' v') (kn, nI M, nI L, up, dn, nI d, nI B, nI g, oc, sh, rn, nI Q, nI E, ap_oo p, sA, sB, ap_c p, ap_sz p, ap_L p, NY, PY, KY, va, fY, al, me, pt, h, lo, ou, es, td, ph) (nI m) (nI 3) a b c) (nI Q, nI E, up, dn, nI B, nI L, nI M, nI g, nI d, sa, sh, ap_sz p, ap_L p, ap_oo p, ap_aA p, ap_aB p, ap_c p, N, P, K, R, me, pt, h, lx, va, rf, al, fX, pe, ou, es) (nI m) (nI 3) a b c := by
  have II : i_Rel k (nI Q, nI E, up, dn, nI B, nI L, nI M, nI g, nI d, sa, sh, ap_sz p, ap_L p, ap_oo p, ap_aA p, ap_aB p, ap_c p, N, P, K, R, me, pt, h, lx, va, rf, al, fX, pe, ou, es) (kn, nI M, nI L, up, dn, nI d, nI B, nI g, oc, sh, rn, nI Q, nI E, ap_oo p, sA, sB, ap_c p, ap_sz p, ap_L p, NY, PY, KY, va, fY, al, me, pt, h, lo, ou, es, td, ph) := ⟨p, d, M, L, E, Q, B, g, kn, up, dn, sa, sh, oc, rn, sA, sB, N, P, K, R, NY, PY, KY, me, pt, h, lx, lo, va, rf, al, fX, fY, pe, ou, es, td, ph, rfl, rfl, H, hAB, hkn, hR⟩
  rcases ar_rng a 6 (by decide) with ha | ⟨A, ha, rfl⟩
  · unfold wpX_add; exact br_f (nI_pos (by omega)) (br_f (nI_ge (b := 4) hm (by decide)) (br_f (by decide) (br_t (by decide) (br_f (by decide) (br_f (by decide) (br_f (by decide) (br_t (by decide) (br_f (by decide) (br_f (by decide) (br_t (by decide) (br_f (by decide) (xb_bad 6 ha (by unfold wpY_add; exact by_no0 4 hm (by decide) (br_t rfl (by_no0 14 (j := 3) (by decide) (by decide) (br_t rfl (br_f (by decide) (br_f (by decide) (by_no1 6 ha (br_f (by decide) ⟨rfl, II⟩))))))))))))))))))))
  rcases ar_rng b 6 (by decide) with hb | ⟨B', hb, rfl⟩
  · unfold wpX_add; exact br_f (nI_pos (by omega)) (br_f (nI_ge (b := 4) hm (by decide)) (br_f (by decide) (br_t (by decide) (br_f (by decide) (br_f (by decide) (br_f (by decide) (br_t (by decide) (br_f (by decide) (br_f (by decide) (br_t (by decide) (br_f (by decide) (xb_ok 6 ha (by decide) (br_f (by decide) (xb_bad 6 hb (by unfold wpY_add; exact by_no0 4 hm (by decide) (br_t rfl (by_no0 14 (j := 3) (by decide) (by decide) (br_t rfl (br_f (by decide) (br_f (by decide) (by_no0 6 ha (by decide) (br_t rfl (br_f (by decide) (br_t (by decide) (by_no1 6 hb (br_f (by decide) ⟨rfl, II⟩))))))))))))))))))))))))))
  rcases ar_rng c 3 (by decide) with hc | ⟨C, hc, rfl⟩
  · unfold wpX_add; exact br_f (nI_pos (by omega)) (br_f (nI_ge (b := 4) hm (by decide)) (br_f (by decide) (br_t (by decide) (br_f (by decide) (br_f (by decide) (br_f (by decide) (br_t (by decide) (br_f (by decide) (br_f (by decide) (br_t (by decide) (br_f (by decide) (xb_ok 6 ha (by decide) (br_f (by decide) (xb_ok 6 hb (by decide) (br_f (by decide) (xc_bad 2 (by decide) hc (by unfold wpY_add; exact by_no0 4 hm (by decide) (br_t rfl (by_no0 14 (j := 3) (by decide) (by decide) (br_t rfl (br_f (by decide) (br_f (by decide) (by_no0 6 ha (by decide) (br_t rfl (br_f (by decide) (br_t (by decide) (by_no0 6 hb (by decide) (br_t rfl (br_t (by decide) (by_no1 3 hc (br_f (by decide) ⟨rfl, II⟩)))))))))))))))))))))))))))))))
  unfold wpX_add
  exact br_f (nI_pos (by omega)) (br_f (nI_ge (b := 4) hm (by decide)) (br_f (by decide) (br_t (by decide) (br_f (by decide) (br_f (by decide) (br_f (by decide) (br_t (by decide) (br_f (by decide) (br_f (by decide) (br_t (by decide) (br_f (by decide) (xb_ok 6 ha (by decide) (br_f (by decide) (xb_ok 6 hb (by decide) (br_f (by decide) (xc_ok 2 hc (by decide) (ar_fin (o := 3) (A := A) (B' := B') H hAB hkn hR hm (by omega) ha hb (Or.inr ⟨by decide, rfl⟩) (Or.inr ⟨by decide, rfl⟩) (fun _ _ => rfl) (fun _ => rfl) ⟨fun _ => ⟨C, hc, rfl⟩, fun z => by omega, fun z => by omega⟩ (fun post K131 => by unfold wpY_add; exact by_no0 4 hm (by decide) (br_t rfl (by_no0 14 (j := 3) (by decide) (by decide) (br_t rfl (br_f (by decide) (br_f (by decide) (by_no0 6 ha (by decide) (br_t rfl (br_f (by decide) (br_t (by decide) (by_no0 6 hb (by decide) (br_t rfl (br_t (by decide) (by_no0 3 hc (by decide) (br_t rfl (br_f (by decide) (br_f (by decide) (br_f (by decide) (K131))))))))))))))))))))))))))))))))))))
theorem ar_add4 {p : ap_T} {d M L E Q B g : Nat} {kn up dn sa sh oc rn : Int32} {sA sB N P K R NY PY KY me pt h lx lo va rf al fX fY pe ou es td ph : Nat → Int32} {k m : Nat} {a b c : Int32}
    (H : ap_OK p) (hAB : ap_AB p sA sB) (hkn : kn = 0 ∨ (kn = 1 ∧ ∀ m, m < 4 → ay_Sp p m NY PY KY)) (hR : ar_R d M L E Q B g sa oc rn h lx lo al rf fX fY me pt va) (hm : m < 4) :
    wpX_add (fun r u' => wpY_add (fun r' v' => r' = r ∧ i_Rel k u' v') (kn, nI M, nI L, up, dn, nI d, nI B, nI g, oc, sh, rn, nI Q, nI E, ap_oo p, sA, sB, ap_c p, ap_sz p, ap_L p, NY, PY, KY, va, fY, al, me, pt, h, lo, ou, es, td, ph) (nI m) (nI 4) a b c) (nI Q, nI E, up, dn, nI B, nI L, nI M, nI g, nI d, sa, sh, ap_sz p, ap_L p, ap_oo p, ap_aA p, ap_aB p, ap_c p, N, P, K, R, me, pt, h, lx, va, rf, al, fX, pe, ou, es) (nI m) (nI 4) a b c := by
  have II : i_Rel k (nI Q, nI E, up, dn, nI B, nI L, nI M, nI g, nI d, sa, sh, ap_sz p, ap_L p, ap_oo p, ap_aA p, ap_aB p, ap_c p, N, P, K, R, me, pt, h, lx, va, rf, al, fX, pe, ou, es) (kn, nI M, nI L, up, dn, nI d, nI B, nI g, oc, sh, rn, nI Q, nI E, ap_oo p, sA, sB, ap_c p, ap_sz p, ap_L p, NY, PY, KY, va, fY, al, me, pt, h, lo, ou, es, td, ph) := ⟨p, d, M, L, E, Q, B, g, kn, up, dn, sa, sh, oc, rn, sA, sB, N, P, K, R, NY, PY, KY, me, pt, h, lx, lo, va, rf, al, fX, fY, pe, ou, es, td, ph, rfl, rfl, H, hAB, hkn, hR⟩
  rcases ar_rng a 6 (by decide) with ha | ⟨A, ha, rfl⟩
  · unfold wpX_add; exact br_f (nI_pos (by omega)) (br_f (nI_ge (b := 4) hm (by decide)) (br_f (by decide) (br_t (by decide) (br_f (by decide) (br_f (by decide) (br_f (by decide) (br_f (by decide) (br_t (by decide) (br_f (by decide) (br_f (by decide) (br_f (by decide) (br_t (by decide) (br_f (by decide) (xb_bad 6 ha (by unfold wpY_add; exact by_no0 4 hm (by decide) (br_t rfl (by_no0 14 (j := 4) (by decide) (by decide) (br_t rfl (br_f (by decide) (br_f (by decide) (by_no1 6 ha (br_f (by decide) ⟨rfl, II⟩))))))))))))))))))))))
  rcases ar_rng b 6 (by decide) with hb | ⟨B', hb, rfl⟩
  · unfold wpX_add; exact br_f (nI_pos (by omega)) (br_f (nI_ge (b := 4) hm (by decide)) (br_f (by decide) (br_t (by decide) (br_f (by decide) (br_f (by decide) (br_f (by decide) (br_f (by decide) (br_t (by decide) (br_f (by decide) (br_f (by decide) (br_f (by decide) (br_t (by decide) (br_f (by decide) (xb_ok 6 ha (by decide) (br_f (by decide) (xb_bad 6 hb (by unfold wpY_add; exact by_no0 4 hm (by decide) (br_t rfl (by_no0 14 (j := 4) (by decide) (by decide) (br_t rfl (br_f (by decide) (br_f (by decide) (by_no0 6 ha (by decide) (br_t rfl (br_f (by decide) (br_f (by decide) (br_t (by decide) (by_no1 6 hb (br_f (by decide) ⟨rfl, II⟩)))))))))))))))))))))))))))))
  rcases ar_rng c 3 (by decide) with hc | ⟨C, hc, rfl⟩
  · unfold wpX_add; exact br_f (nI_pos (by omega)) (br_f (nI_ge (b := 4) hm (by decide)) (br_f (by decide) (br_t (by decide) (br_f (by decide) (br_f (by decide) (br_f (by decide) (br_f (by decide) (br_t (by decide) (br_f (by decide) (br_f (by decide) (br_f (by decide) (br_t (by decide) (br_f (by decide) (xb_ok 6 ha (by decide) (br_f (by decide) (xb_ok 6 hb (by decide) (br_f (by decide) (xc_bad 2 (by decide) hc (by unfold wpY_add; exact by_no0 4 hm (by decide) (br_t rfl (by_no0 14 (j := 4) (by decide) (by decide) (br_t rfl (br_f (by decide) (br_f (by decide) (by_no0 6 ha (by decide) (br_t rfl (br_f (by decide) (br_f (by decide) (br_t (by decide) (by_no0 6 hb (by decide) (br_t rfl (br_f (by decide) (br_t (by decide) (by_no1 3 hc (br_f (by decide) ⟨rfl, II⟩)))))))))))))))))))))))))))))))))))
  unfold wpX_add
  exact br_f (nI_pos (by omega)) (br_f (nI_ge (b := 4) hm (by decide)) (br_f (by decide) (br_t (by decide) (br_f (by decide) (br_f (by decide) (br_f (by decide) (br_f (by decide) (br_t (by decide) (br_f (by decide) (br_f (by decide) (br_f (by decide) (br_t (by decide) (br_f (by decide) (xb_ok 6 ha (by decide) (br_f (by decide) (xb_ok 6 hb (by decide) (br_f (by decide) (xc_ok 2 hc (by decide) (ar_fin (o := 4) (A := A) (B' := B') H hAB hkn hR hm (by omega) ha hb (Or.inr ⟨by decide, rfl⟩) (Or.inr ⟨by decide, rfl⟩) (fun _ _ => rfl) (fun _ => rfl) ⟨fun _ => ⟨C, hc, rfl⟩, fun z => by omega, fun z => by omega⟩ (fun post K131 => by unfold wpY_add; exact by_no0 4 hm (by decide) (br_t rfl (by_no0 14 (j := 4) (by decide) (by decide) (br_t rfl (br_f (by decide) (br_f (by decide) (by_no0 6 ha (by decide) (br_t rfl (br_f (by decide) (br_f (by decide) (br_t (by decide) (by_no0 6 hb (by decide) (br_t rfl (br_f (by decide) (br_t (by decide) (by_no0 3 hc (by decide) (br_t rfl (br_f (by decide) (br_f (by decide) (br_f (by decide) (K131))))))))))))))))))))))))))))))))))))))))
theorem ar_add5 {p : ap_T} {d M L E Q B g : Nat} {kn up dn sa sh oc rn : Int32} {sA sB N P K R NY PY KY me pt h lx lo va rf al fX fY pe ou es td ph : Nat → Int32} {k m : Nat} {a b c : Int32}
    (H : ap_OK p) (hAB : ap_AB p sA sB) (hkn : kn = 0 ∨ (kn = 1 ∧ ∀ m, m < 4 → ay_Sp p m NY PY KY)) (hR : ar_R d M L E Q B g sa oc rn h lx lo al rf fX fY me pt va) (hm : m < 4) :
    wpX_add (fun r u' => wpY_add (fun r' v' => r' = r ∧ i_Rel k u' v') (kn, nI M, nI L, up, dn, nI d, nI B, nI g, oc, sh, rn, nI Q, nI E, ap_oo p, sA, sB, ap_c p, ap_sz p, ap_L p, NY, PY, KY, va, fY, al, me, pt, h, lo, ou, es, td, ph) (nI m) (nI 5) a b c) (nI Q, nI E, up, dn, nI B, nI L, nI M, nI g, nI d, sa, sh, ap_sz p, ap_L p, ap_oo p, ap_aA p, ap_aB p, ap_c p, N, P, K, R, me, pt, h, lx, va, rf, al, fX, pe, ou, es) (nI m) (nI 5) a b c := by
  have II : i_Rel k (nI Q, nI E, up, dn, nI B, nI L, nI M, nI g, nI d, sa, sh, ap_sz p, ap_L p, ap_oo p, ap_aA p, ap_aB p, ap_c p, N, P, K, R, me, pt, h, lx, va, rf, al, fX, pe, ou, es) (kn, nI M, nI L, up, dn, nI d, nI B, nI g, oc, sh, rn, nI Q, nI E, ap_oo p, sA, sB, ap_c p, ap_sz p, ap_L p, NY, PY, KY, va, fY, al, me, pt, h, lo, ou, es, td, ph) := ⟨p, d, M, L, E, Q, B, g, kn, up, dn, sa, sh, oc, rn, sA, sB, N, P, K, R, NY, PY, KY, me, pt, h, lx, lo, va, rf, al, fX, fY, pe, ou, es, td, ph, rfl, rfl, H, hAB, hkn, hR⟩
  rcases ar_rng a 6 (by decide) with ha | ⟨A, ha, rfl⟩
  · unfold wpX_add; exact br_f (nI_pos (by omega)) (br_f (nI_ge (b := 4) hm (by decide)) (br_f (by decide) (br_t (by decide) (br_f (by decide) (br_f (by decide) (br_f (by decide) (br_f (by decide) (br_f (by decide) (br_f (by decide) (br_f (by decide) (br_f (by decide) (br_f (by decide) (br_f (by decide) (br_t (by decide) (br_f (by decide) (xb_bad 6 ha (by unfold wpY_add; exact by_no0 4 hm (by decide) (br_t rfl (by_no0 14 (j := 5) (by decide) (by decide) (br_t rfl (br_f (by decide) (br_f (by decide) (by_no1 6 ha (br_f (by decide) ⟨rfl, II⟩))))))))))))))))))))))))
  unfold wpX_add
  exact br_f (nI_pos (by omega)) (br_f (nI_ge (b := 4) hm (by decide)) (br_f (by decide) (br_t (by decide) (br_f (by decide) (br_f (by decide) (br_f (by decide) (br_f (by decide) (br_f (by decide) (br_f (by decide) (br_f (by decide) (br_f (by decide) (br_f (by decide) (br_f (by decide) (br_t (by decide) (br_f (by decide) (xb_ok 6 ha (by decide) (br_t rfl (br_t (by decide) (ar_fin (o := 5) (A := A) (B' := 0) H hAB hkn hR hm (by omega) ha (by omega) (Or.inr ⟨by decide, rfl⟩) (Or.inl ⟨rfl, rfl⟩) (fun _ _ => rfl) (fun z => by omega) ⟨fun z => by omega, fun z => by omega, fun z => by omega⟩ (fun post K131 => by unfold wpY_add; exact by_no0 4 hm (by decide) (br_t rfl (by_no0 14 (j := 5) (by decide) (by decide) (br_t rfl (br_f (by decide) (br_f (by decide) (by_no0 6 ha (by decide) (br_t rfl (br_f (by decide) (br_f (by decide) (br_f (by decide) (br_f (by decide) (br_f (by decide) (br_f (by decide) (br_f (by decide) (br_f (by decide) (br_f (by decide) (K131)))))))))))))))))))))))))))))))))))))
theorem ar_add6 {p : ap_T} {d M L E Q B g : Nat} {kn up dn sa sh oc rn : Int32} {sA sB N P K R NY PY KY me pt h lx lo va rf al fX fY pe ou es td ph : Nat → Int32} {k m : Nat} {a b c : Int32}
    (H : ap_OK p) (hAB : ap_AB p sA sB) (hkn : kn = 0 ∨ (kn = 1 ∧ ∀ m, m < 4 → ay_Sp p m NY PY KY)) (hR : ar_R d M L E Q B g sa oc rn h lx lo al rf fX fY me pt va) (hm : m < 4) :
    wpX_add (fun r u' => wpY_add (fun r' v' => r' = r ∧ i_Rel k u' v') (kn, nI M, nI L, up, dn, nI d, nI B, nI g, oc, sh, rn, nI Q, nI E, ap_oo p, sA, sB, ap_c p, ap_sz p, ap_L p, NY, PY, KY, va, fY, al, me, pt, h, lo, ou, es, td, ph) (nI m) (nI 6) a b c) (nI Q, nI E, up, dn, nI B, nI L, nI M, nI g, nI d, sa, sh, ap_sz p, ap_L p, ap_oo p, ap_aA p, ap_aB p, ap_c p, N, P, K, R, me, pt, h, lx, va, rf, al, fX, pe, ou, es) (nI m) (nI 6) a b c := by
  have II : i_Rel k (nI Q, nI E, up, dn, nI B, nI L, nI M, nI g, nI d, sa, sh, ap_sz p, ap_L p, ap_oo p, ap_aA p, ap_aB p, ap_c p, N, P, K, R, me, pt, h, lx, va, rf, al, fX, pe, ou, es) (kn, nI M, nI L, up, dn, nI d, nI B, nI g, oc, sh, rn, nI Q, nI E, ap_oo p, sA, sB, ap_c p, ap_sz p, ap_L p, NY, PY, KY, va, fY, al, me, pt, h, lo, ou, es, td, ph) := ⟨p, d, M, L, E, Q, B, g, kn, up, dn, sa, sh, oc, rn, sA, sB, N, P, K, R, NY, PY, KY, me, pt, h, lx, lo, va, rf, al, fX, fY, pe, ou, es, td, ph, rfl, rfl, H, hAB, hkn, hR⟩
  rcases ar_rng a 6 (by decide) with ha | ⟨A, ha, rfl⟩
  · unfold wpX_add; exact br_f (nI_pos (by omega)) (br_f (nI_ge (b := 4) hm (by decide)) (br_f (by decide) (br_t (by decide) (br_f (by decide) (br_f (by decide) (br_f (by decide) (br_f (by decide) (br_f (by decide) (br_f (by decide) (br_f (by decide) (br_f (by decide) (br_f (by decide) (br_f (by decide) (br_f (by decide) (br_t (by decide) (br_f (by decide) (xb_bad 6 ha (by unfold wpY_add; exact by_no0 4 hm (by decide) (br_t rfl (by_no0 14 (j := 6) (by decide) (by decide) (br_t rfl (br_f (by decide) (br_f (by decide) (by_no1 6 ha (br_f (by decide) ⟨rfl, II⟩)))))))))))))))))))))))))
  unfold wpX_add
  exact br_f (nI_pos (by omega)) (br_f (nI_ge (b := 4) hm (by decide)) (br_f (by decide) (br_t (by decide) (br_f (by decide) (br_f (by decide) (br_f (by decide) (br_f (by decide) (br_f (by decide) (br_f (by decide) (br_f (by decide) (br_f (by decide) (br_f (by decide) (br_f (by decide) (br_f (by decide) (br_t (by decide) (br_f (by decide) (xb_ok 6 ha (by decide) (br_t rfl (br_t (by decide) (ar_fin (o := 6) (A := A) (B' := 0) H hAB hkn hR hm (by omega) ha (by omega) (Or.inr ⟨by decide, rfl⟩) (Or.inl ⟨rfl, rfl⟩) (fun _ _ => rfl) (fun z => by omega) ⟨fun z => by omega, fun z => by omega, fun z => by omega⟩ (fun post K131 => by unfold wpY_add; exact by_no0 4 hm (by decide) (br_t rfl (by_no0 14 (j := 6) (by decide) (by decide) (br_t rfl (br_f (by decide) (br_f (by decide) (by_no0 6 ha (by decide) (br_t rfl (br_f (by decide) (br_f (by decide) (br_f (by decide) (br_f (by decide) (br_f (by decide) (br_f (by decide) (br_f (by decide) (br_f (by decide) (br_f (by decide) (K131))))))))))))))))))))))))))))))))))))))
theorem ar_add7 {p : ap_T} {d M L E Q B g : Nat} {kn up dn sa sh oc rn : Int32} {sA sB N P K R NY PY KY me pt h lx lo va rf al fX fY pe ou es td ph : Nat → Int32} {k m : Nat} {a b c : Int32}
    (H : ap_OK p) (hAB : ap_AB p sA sB) (hkn : kn = 0 ∨ (kn = 1 ∧ ∀ m, m < 4 → ay_Sp p m NY PY KY)) (hR : ar_R d M L E Q B g sa oc rn h lx lo al rf fX fY me pt va) (hm : m < 4) :
    wpX_add (fun r u' => wpY_add (fun r' v' => r' = r ∧ i_Rel k u' v') (kn, nI M, nI L, up, dn, nI d, nI B, nI g, oc, sh, rn, nI Q, nI E, ap_oo p, sA, sB, ap_c p, ap_sz p, ap_L p, NY, PY, KY, va, fY, al, me, pt, h, lo, ou, es, td, ph) (nI m) (nI 7) a b c) (nI Q, nI E, up, dn, nI B, nI L, nI M, nI g, nI d, sa, sh, ap_sz p, ap_L p, ap_oo p, ap_aA p, ap_aB p, ap_c p, N, P, K, R, me, pt, h, lx, va, rf, al, fX, pe, ou, es) (nI m) (nI 7) a b c := by
  have II : i_Rel k (nI Q, nI E, up, dn, nI B, nI L, nI M, nI g, nI d, sa, sh, ap_sz p, ap_L p, ap_oo p, ap_aA p, ap_aB p, ap_c p, N, P, K, R, me, pt, h, lx, va, rf, al, fX, pe, ou, es) (kn, nI M, nI L, up, dn, nI d, nI B, nI g, oc, sh, rn, nI Q, nI E, ap_oo p, sA, sB, ap_c p, ap_sz p, ap_L p, NY, PY, KY, va, fY, al, me, pt, h, lo, ou, es, td, ph) := ⟨p, d, M, L, E, Q, B, g, kn, up, dn, sa, sh, oc, rn, sA, sB, N, P, K, R, NY, PY, KY, me, pt, h, lx, lo, va, rf, al, fX, fY, pe, ou, es, td, ph, rfl, rfl, H, hAB, hkn, hR⟩
  rcases ar_rng a 6 (by decide) with ha | ⟨A, ha, rfl⟩
  · unfold wpX_add; exact br_f (nI_pos (by omega)) (br_f (nI_ge (b := 4) hm (by decide)) (br_f (by decide) (br_t (by decide) (br_f (by decide) (br_f (by decide) (br_f (by decide) (br_f (by decide) (br_f (by decide) (br_f (by decide) (br_f (by decide) (br_f (by decide) (br_f (by decide) (br_f (by decide) (br_f (by decide) (br_f (by decide) (br_t (by decide) (br_f (by decide) (xb_bad 6 ha (by unfold wpY_add; exact by_no0 4 hm (by decide) (br_t rfl (by_no0 14 (j := 7) (by decide) (by decide) (br_t rfl (br_f (by decide) (br_f (by decide) (by_no1 6 ha (br_f (by decide) ⟨rfl, II⟩))))))))))))))))))))))))))
  unfold wpX_add
  exact br_f (nI_pos (by omega)) (br_f (nI_ge (b := 4) hm (by decide)) (br_f (by decide) (br_t (by decide) (br_f (by decide) (br_f (by decide) (br_f (by decide) (br_f (by decide) (br_f (by decide) (br_f (by decide) (br_f (by decide) (br_f (by decide) (br_f (by decide) (br_f (by decide) (br_f (by decide) (br_f (by decide) (br_t (by decide) (br_f (by decide) (xb_ok 6 ha (by decide) (br_t rfl (br_t (by decide) (ar_fin (o := 7) (A := A) (B' := 0) H hAB hkn hR hm (by omega) ha (by omega) (Or.inr ⟨by decide, rfl⟩) (Or.inl ⟨rfl, rfl⟩) (fun _ _ => rfl) (fun z => by omega) ⟨fun z => by omega, fun z => by omega, fun z => by omega⟩ (fun post K131 => by unfold wpY_add; exact by_no0 4 hm (by decide) (br_t rfl (by_no0 14 (j := 7) (by decide) (by decide) (br_t rfl (br_f (by decide) (br_f (by decide) (by_no0 6 ha (by decide) (br_t rfl (br_f (by decide) (br_f (by decide) (br_f (by decide) (br_f (by decide) (br_f (by decide) (br_f (by decide) (br_f (by decide) (br_f (by decide) (br_f (by decide) (K131)))))))))))))))))))))))))))))))))))))))
theorem ar_add8 {p : ap_T} {d M L E Q B g : Nat} {kn up dn sa sh oc rn : Int32} {sA sB N P K R NY PY KY me pt h lx lo va rf al fX fY pe ou es td ph : Nat → Int32} {k m : Nat} {a b c : Int32}
    (H : ap_OK p) (hAB : ap_AB p sA sB) (hkn : kn = 0 ∨ (kn = 1 ∧ ∀ m, m < 4 → ay_Sp p m NY PY KY)) (hR : ar_R d M L E Q B g sa oc rn h lx lo al rf fX fY me pt va) (hm : m < 4) :
    wpX_add (fun r u' => wpY_add (fun r' v' => r' = r ∧ i_Rel k u' v') (kn, nI M, nI L, up, dn, nI d, nI B, nI g, oc, sh, rn, nI Q, nI E, ap_oo p, sA, sB, ap_c p, ap_sz p, ap_L p, NY, PY, KY, va, fY, al, me, pt, h, lo, ou, es, td, ph) (nI m) (nI 8) a b c) (nI Q, nI E, up, dn, nI B, nI L, nI M, nI g, nI d, sa, sh, ap_sz p, ap_L p, ap_oo p, ap_aA p, ap_aB p, ap_c p, N, P, K, R, me, pt, h, lx, va, rf, al, fX, pe, ou, es) (nI m) (nI 8) a b c := by
  have II : i_Rel k (nI Q, nI E, up, dn, nI B, nI L, nI M, nI g, nI d, sa, sh, ap_sz p, ap_L p, ap_oo p, ap_aA p, ap_aB p, ap_c p, N, P, K, R, me, pt, h, lx, va, rf, al, fX, pe, ou, es) (kn, nI M, nI L, up, dn, nI d, nI B, nI g, oc, sh, rn, nI Q, nI E, ap_oo p, sA, sB, ap_c p, ap_sz p, ap_L p, NY, PY, KY, va, fY, al, me, pt, h, lo, ou, es, td, ph) := ⟨p, d, M, L, E, Q, B, g, kn, up, dn, sa, sh, oc, rn, sA, sB, N, P, K, R, NY, PY, KY, me, pt, h, lx, lo, va, rf, al, fX, fY, pe, ou, es, td, ph, rfl, rfl, H, hAB, hkn, hR⟩
  rcases ar_rng a 6 (by decide) with ha | ⟨A, ha, rfl⟩
  · unfold wpX_add; exact br_f (nI_pos (by omega)) (br_f (nI_ge (b := 4) hm (by decide)) (br_f (by decide) (br_t (by decide) (br_f (by decide) (br_f (by decide) (br_f (by decide) (br_f (by decide) (br_f (by decide) (br_f (by decide) (br_f (by decide) (br_f (by decide) (br_f (by decide) (br_f (by decide) (br_f (by decide) (br_f (by decide) (br_f (by decide) (br_t (by decide) (br_f (by decide) (xb_bad 6 ha (by unfold wpY_add; exact by_no0 4 hm (by decide) (br_t rfl (by_no0 14 (j := 8) (by decide) (by decide) (br_t rfl (br_f (by decide) (br_f (by decide) (by_no1 6 ha (br_f (by decide) ⟨rfl, II⟩)))))))))))))))))))))))))))
  unfold wpX_add
  exact br_f (nI_pos (by omega)) (br_f (nI_ge (b := 4) hm (by decide)) (br_f (by decide) (br_t (by decide) (br_f (by decide) (br_f (by decide) (br_f (by decide) (br_f (by decide) (br_f (by decide) (br_f (by decide) (br_f (by decide) (br_f (by decide) (br_f (by decide) (br_f (by decide) (br_f (by decide) (br_f (by decide) (br_f (by decide) (br_t (by decide) (br_f (by decide) (xb_ok 6 ha (by decide) (br_t rfl (br_t (by decide) (ar_fin (o := 8) (A := A) (B' := 0) H hAB hkn hR hm (by omega) ha (by omega) (Or.inr ⟨by decide, rfl⟩) (Or.inl ⟨rfl, rfl⟩) (fun _ _ => rfl) (fun z => by omega) ⟨fun z => by omega, fun z => by omega, fun z => by omega⟩ (fun post K131 => by unfold wpY_add; exact by_no0 4 hm (by decide) (br_t rfl (by_no0 14 (j := 8) (by decide) (by decide) (br_t rfl (br_f (by decide) (br_f (by decide) (by_no0 6 ha (by decide) (br_t rfl (br_f (by decide) (br_f (by decide) (br_f (by decide) (br_f (by decide) (br_f (by decide) (br_f (by decide) (br_f (by decide) (br_f (by decide) (br_f (by decide) (K131))))))))))))))))))))))))))))))))))))))))
theorem ar_add9 {p : ap_T} {d M L E Q B g : Nat} {kn up dn sa sh oc rn : Int32} {sA sB N P K R NY PY KY me pt h lx lo va rf al fX fY pe ou es td ph : Nat → Int32} {k m : Nat} {a b c : Int32}
    (H : ap_OK p) (hAB : ap_AB p sA sB) (hkn : kn = 0 ∨ (kn = 1 ∧ ∀ m, m < 4 → ay_Sp p m NY PY KY)) (hR : ar_R d M L E Q B g sa oc rn h lx lo al rf fX fY me pt va) (hm : m < 4) :
    wpX_add (fun r u' => wpY_add (fun r' v' => r' = r ∧ i_Rel k u' v') (kn, nI M, nI L, up, dn, nI d, nI B, nI g, oc, sh, rn, nI Q, nI E, ap_oo p, sA, sB, ap_c p, ap_sz p, ap_L p, NY, PY, KY, va, fY, al, me, pt, h, lo, ou, es, td, ph) (nI m) (nI 9) a b c) (nI Q, nI E, up, dn, nI B, nI L, nI M, nI g, nI d, sa, sh, ap_sz p, ap_L p, ap_oo p, ap_aA p, ap_aB p, ap_c p, N, P, K, R, me, pt, h, lx, va, rf, al, fX, pe, ou, es) (nI m) (nI 9) a b c := by
  have II : i_Rel k (nI Q, nI E, up, dn, nI B, nI L, nI M, nI g, nI d, sa, sh, ap_sz p, ap_L p, ap_oo p, ap_aA p, ap_aB p, ap_c p, N, P, K, R, me, pt, h, lx, va, rf, al, fX, pe, ou, es) (kn, nI M, nI L, up, dn, nI d, nI B, nI g, oc, sh, rn, nI Q, nI E, ap_oo p, sA, sB, ap_c p, ap_sz p, ap_L p, NY, PY, KY, va, fY, al, me, pt, h, lo, ou, es, td, ph) := ⟨p, d, M, L, E, Q, B, g, kn, up, dn, sa, sh, oc, rn, sA, sB, N, P, K, R, NY, PY, KY, me, pt, h, lx, lo, va, rf, al, fX, fY, pe, ou, es, td, ph, rfl, rfl, H, hAB, hkn, hR⟩
  rcases ar_rng a 6 (by decide) with ha | ⟨A, ha, rfl⟩
  · unfold wpX_add; exact br_f (nI_pos (by omega)) (br_f (nI_ge (b := 4) hm (by decide)) (br_f (by decide) (br_t (by decide) (br_f (by decide) (br_f (by decide) (br_f (by decide) (br_f (by decide) (br_f (by decide) (br_f (by decide) (br_f (by decide) (br_f (by decide) (br_f (by decide) (br_f (by decide) (br_f (by decide) (br_f (by decide) (br_f (by decide) (br_f (by decide) (br_t (by decide) (br_f (by decide) (xb_bad 6 ha (by unfold wpY_add; exact by_no0 4 hm (by decide) (br_t rfl (by_no0 14 (j := 9) (by decide) (by decide) (br_t rfl (br_f (by decide) (br_f (by decide) (by_no1 6 ha (br_f (by decide) ⟨rfl, II⟩))))))))))))))))))))))))))))
  rcases ar_rng c 16 (by decide) with hc | ⟨C, hc, rfl⟩
  · unfold wpX_add; exact br_f (nI_pos (by omega)) (br_f (nI_ge (b := 4) hm (by decide)) (br_f (by decide) (br_t (by decide) (br_f (by decide) (br_f (by decide) (br_f (by decide) (br_f (by decide) (br_f (by decide) (br_f (by decide) (br_f (by decide) (br_f (by decide) (br_f (by decide) (br_f (by decide) (br_f (by decide) (br_f (by decide) (br_f (by decide) (br_f (by decide) (br_t (by decide) (br_f (by decide) (xb_ok 6 ha (by decide) (br_t rfl (br_f (by decide) (xc_bad 15 (by decide) hc (by unfold wpY_add; exact by_no0 4 hm (by decide) (br_t rfl (by_no0 14 (j := 9) (by decide) (by decide) (br_t rfl (br_f (by decide) (br_f (by decide) (by_no0 6 ha (by decide) (br_t rfl (br_f (by decide) (br_f (by decide) (br_f (by decide) (br_f (by decide) (br_f (by decide) (br_f (by decide) (br_t (by decide) (by_no1 16 hc (br_f (by decide) ⟨rfl, II⟩))))))))))))))))))))))))))))))))))))))))
  unfold wpX_add
  exact br_f (nI_pos (by omega)) (br_f (nI_ge (b := 4) hm (by decide)) (br_f (by decide) (br_t (by decide) (br_f (by decide) (br_f (by decide) (br_f (by decide) (br_f (by decide) (br_f (by decide) (br_f (by decide) (br_f (by decide) (br_f (by decide) (br_f (by decide) (br_f (by decide) (br_f (by decide) (br_f (by decide) (br_f (by decide) (br_f (by decide) (br_t (by decide) (br_f (by decide) (xb_ok 6 ha (by decide) (br_t rfl (br_f (by decide) (xc_ok 15 hc (by decide) (ar_fin (o := 9) (A := A) (B' := 0) H hAB hkn hR hm (by omega) ha (by omega) (Or.inr ⟨by decide, rfl⟩) (Or.inl ⟨rfl, rfl⟩) (fun _ _ => rfl) (fun z => by omega) ⟨fun z => by omega, fun _ => ⟨C, hc, rfl⟩, fun z => by omega⟩ (fun post K131 => by unfold wpY_add; exact by_no0 4 hm (by decide) (br_t rfl (by_no0 14 (j := 9) (by decide) (by decide) (br_t rfl (br_f (by decide) (br_f (by decide) (by_no0 6 ha (by decide) (br_t rfl (br_f (by decide) (br_f (by decide) (br_f (by decide) (br_f (by decide) (br_f (by decide) (br_f (by decide) (br_t (by decide) (by_no0 16 hc (by decide) (br_t rfl (br_f (by decide) (K131)))))))))))))))))))))))))))))))))))))))))))
theorem ar_add10 {p : ap_T} {d M L E Q B g : Nat} {kn up dn sa sh oc rn : Int32} {sA sB N P K R NY PY KY me pt h lx lo va rf al fX fY pe ou es td ph : Nat → Int32} {k m : Nat} {a b c : Int32}
    (H : ap_OK p) (hAB : ap_AB p sA sB) (hkn : kn = 0 ∨ (kn = 1 ∧ ∀ m, m < 4 → ay_Sp p m NY PY KY)) (hR : ar_R d M L E Q B g sa oc rn h lx lo al rf fX fY me pt va) (hm : m < 4) :
    wpX_add (fun r u' => wpY_add (fun r' v' => r' = r ∧ i_Rel k u' v') (kn, nI M, nI L, up, dn, nI d, nI B, nI g, oc, sh, rn, nI Q, nI E, ap_oo p, sA, sB, ap_c p, ap_sz p, ap_L p, NY, PY, KY, va, fY, al, me, pt, h, lo, ou, es, td, ph) (nI m) (nI 10) a b c) (nI Q, nI E, up, dn, nI B, nI L, nI M, nI g, nI d, sa, sh, ap_sz p, ap_L p, ap_oo p, ap_aA p, ap_aB p, ap_c p, N, P, K, R, me, pt, h, lx, va, rf, al, fX, pe, ou, es) (nI m) (nI 10) a b c := by
  have II : i_Rel k (nI Q, nI E, up, dn, nI B, nI L, nI M, nI g, nI d, sa, sh, ap_sz p, ap_L p, ap_oo p, ap_aA p, ap_aB p, ap_c p, N, P, K, R, me, pt, h, lx, va, rf, al, fX, pe, ou, es) (kn, nI M, nI L, up, dn, nI d, nI B, nI g, oc, sh, rn, nI Q, nI E, ap_oo p, sA, sB, ap_c p, ap_sz p, ap_L p, NY, PY, KY, va, fY, al, me, pt, h, lo, ou, es, td, ph) := ⟨p, d, M, L, E, Q, B, g, kn, up, dn, sa, sh, oc, rn, sA, sB, N, P, K, R, NY, PY, KY, me, pt, h, lx, lo, va, rf, al, fX, fY, pe, ou, es, td, ph, rfl, rfl, H, hAB, hkn, hR⟩
  rcases ar_rng c 16 (by decide) with hc | ⟨C, hc, rfl⟩
  · unfold wpX_add; exact br_f (nI_pos (by omega)) (br_f (nI_ge (b := 4) hm (by decide)) (br_f (by decide) (br_t (by decide) (br_t (by decide) (br_f (by decide) (br_f (by decide) (br_f (by decide) (br_f (by decide) (br_f (by decide) (br_f (by decide) (br_f (by decide) (br_f (by decide) (br_f (by decide) (br_f (by decide) (br_f (by decide) (br_f (by decide) (br_f (by decide) (br_t (by decide) (br_t rfl (br_t rfl (br_f (by decide) (xc_bad 15 (by decide) hc (by unfold wpY_add; exact by_no0 4 hm (by decide) (br_t rfl (by_no0 14 (j := 10) (by decide) (by decide) (br_t rfl (br_t (by decide) (br_f (by decide) (br_f (by decide) (br_f (by decide) (br_f (by decide) (br_f (by decide) (br_f (by decide) (br_f (by decide) (br_t (by decide) (by_no1 16 hc (br_f (by decide) ⟨rfl, II⟩)))))))))))))))))))))))))))))))))))))
  unfold wpX_add
  exact br_f (nI_pos (by omega)) (br_f (nI_ge (b := 4) hm (by decide)) (br_f (by decide) (br_t (by decide) (br_t (by decide) (br_f (by decide) (br_f (by decide) (br_f (by decide) (br_f (by decide) (br_f (by decide) (br_f (by decide) (br_f (by decide) (br_f (by decide) (br_f (by decide) (br_f (by decide) (br_f (by decide) (br_f (by decide) (br_f (by decide) (br_t (by decide) (br_t rfl (br_t rfl (br_f (by decide) (xc_ok 15 hc (by decide) (ar_fin (o := 10) (A := 0) (B' := 0) H hAB hkn hR hm (by omega) (by omega) (by omega) (Or.inl ⟨rfl, rfl⟩) (Or.inl ⟨rfl, rfl⟩) (fun z => absurd rfl z) (fun z => by omega) ⟨fun z => by omega, fun _ => ⟨C, hc, rfl⟩, fun z => by omega⟩ (fun post K131 => by unfold wpY_add; exact by_no0 4 hm (by decide) (br_t rfl (by_no0 14 (j := 10) (by decide) (by decide) (br_t rfl (br_t (by decide) (br_f (by decide) (br_f (by decide) (br_f (by decide) (br_f (by decide) (br_f (by decide) (br_f (by decide) (br_f (by decide) (br_t (by decide) (by_no0 16 hc (by decide) (br_t rfl (br_f (by decide) (K131))))))))))))))))))))))))))))))))))))))))
theorem ar_add11 {p : ap_T} {d M L E Q B g : Nat} {kn up dn sa sh oc rn : Int32} {sA sB N P K R NY PY KY me pt h lx lo va rf al fX fY pe ou es td ph : Nat → Int32} {k m : Nat} {a b c : Int32}
    (H : ap_OK p) (hAB : ap_AB p sA sB) (hkn : kn = 0 ∨ (kn = 1 ∧ ∀ m, m < 4 → ay_Sp p m NY PY KY)) (hR : ar_R d M L E Q B g sa oc rn h lx lo al rf fX fY me pt va) (hm : m < 4) :
    wpX_add (fun r u' => wpY_add (fun r' v' => r' = r ∧ i_Rel k u' v') (kn, nI M, nI L, up, dn, nI d, nI B, nI g, oc, sh, rn, nI Q, nI E, ap_oo p, sA, sB, ap_c p, ap_sz p, ap_L p, NY, PY, KY, va, fY, al, me, pt, h, lo, ou, es, td, ph) (nI m) (nI 11) a b c) (nI Q, nI E, up, dn, nI B, nI L, nI M, nI g, nI d, sa, sh, ap_sz p, ap_L p, ap_oo p, ap_aA p, ap_aB p, ap_c p, N, P, K, R, me, pt, h, lx, va, rf, al, fX, pe, ou, es) (nI m) (nI 11) a b c := by
  have II : i_Rel k (nI Q, nI E, up, dn, nI B, nI L, nI M, nI g, nI d, sa, sh, ap_sz p, ap_L p, ap_oo p, ap_aA p, ap_aB p, ap_c p, N, P, K, R, me, pt, h, lx, va, rf, al, fX, pe, ou, es) (kn, nI M, nI L, up, dn, nI d, nI B, nI g, oc, sh, rn, nI Q, nI E, ap_oo p, sA, sB, ap_c p, ap_sz p, ap_L p, NY, PY, KY, va, fY, al, me, pt, h, lo, ou, es, td, ph) := ⟨p, d, M, L, E, Q, B, g, kn, up, dn, sa, sh, oc, rn, sA, sB, N, P, K, R, NY, PY, KY, me, pt, h, lx, lo, va, rf, al, fX, fY, pe, ou, es, td, ph, rfl, rfl, H, hAB, hkn, hR⟩
  rcases ar_rng a 6 (by decide) with ha | ⟨A, ha, rfl⟩
  · unfold wpX_add; exact br_f (nI_pos (by omega)) (br_f (nI_ge (b := 4) hm (by decide)) (br_f (by decide) (br_t (by decide) (br_f (by decide) (br_f (by decide) (br_f (by decide) (br_f (by decide) (br_f (by decide) (br_t (by decide) (br_f (by decide) (br_f (by decide) (br_f (by decide) (br_f (by decide) (br_f (by decide) (br_f (by decide) (br_f (by decide) (br_f (by decide) (br_f (by decide) (br_f (by decide) (br_t (by decide) (br_f (by decide) (xb_bad 6 ha (by unfold wpY_add; exact by_no0 4 hm (by decide) (br_t rfl (by_no0 14 (j := 11) (by decide) (by decide) (br_t rfl (br_f (by decide) (br_f (by decide) (by_no1 6 ha (br_f (by decide) ⟨rfl, II⟩))))))))))))))))))))))))))))))
  rcases ar_rng b 6 (by decide) with hb | ⟨B', hb, rfl⟩
  · unfold wpX_add; exact br_f (nI_pos (by omega)) (br_f (nI_ge (b := 4) hm (by decide)) (br_f (by decide) (br_t (by decide) (br_f (by decide) (br_f (by decide) (br_f (by decide) (br_f (by decide) (br_f (by decide) (br_t (by decide) (br_f (by decide) (br_f (by decide) (br_f (by decide) (br_f (by decide) (br_f (by decide) (br_f (by decide) (br_f (by decide) (br_f (by decide) (br_f (by decide) (br_f (by decide) (br_t (by decide) (br_f (by decide) (xb_ok 6 ha (by decide) (br_f (by decide) (xb_bad 6 hb (by unfold wpY_add; exact by_no0 4 hm (by decide) (br_t rfl (by_no0 14 (j := 11) (by decide) (by decide) (br_t rfl (br_f (by decide) (br_f (by decide) (by_no0 6 ha (by decide) (br_t rfl (br_f (by decide) (br_f (by decide) (br_f (by decide) (br_t (by decide) (by_no1 6 hb (br_f (by decide) ⟨rfl, II⟩))))))))))))))))))))))))))))))))))))))
  rcases ar_rng c 4 (by decide) with hc | ⟨C, hc, rfl⟩
  · unfold wpX_add; exact br_f (nI_pos (by omega)) (br_f (nI_ge (b := 4) hm (by decide)) (br_f (by decide) (br_t (by decide) (br_f (by decide) (br_f (by decide) (br_f (by decide) (br_f (by decide) (br_f (by decide) (br_t (by decide) (br_f (by decide) (br_f (by decide) (br_f (by decide) (br_f (by decide) (br_f (by decide) (br_f (by decide) (br_f (by decide) (br_f (by decide) (br_f (by decide) (br_f (by decide) (br_t (by decide) (br_f (by decide) (xb_ok 6 ha (by decide) (br_f (by decide) (xb_ok 6 hb (by decide) (br_f (by decide) (xc_bad 3 (by decide) hc (by unfold wpY_add; exact by_no0 4 hm (by decide) (br_t rfl (by_no0 14 (j := 11) (by decide) (by decide) (br_t rfl (br_f (by decide) (br_f (by decide) (by_no0 6 ha (by decide) (br_t rfl (br_f (by decide) (br_f (by decide) (br_f (by decide) (br_t (by decide) (by_no0 6 hb (by decide) (br_t rfl (br_f (by decide) (br_f (by decide) (br_f (by decide) (br_f (by decide) (br_t (by decide) (by_no1 4 hc (br_f (by decide) ⟨rfl, II⟩)))))))))))))))))))))))))))))))))))))))))))))))
  unfold wpX_add
  exact br_f (nI_pos (by omega)) (br_f (nI_ge (b := 4) hm (by decide)) (br_f (by decide) (br_t (by decide) (br_f (by decide) (br_f (by decide) (br_f (by decide) (br_f (by decide) (br_f (by decide) (br_t (by decide) (br_f (by decide) (br_f (by decide) (br_f (by decide) (br_f (by decide) (br_f (by decide) (br_f (by decide) (br_f (by decide) (br_f (by decide) (br_f (by decide) (br_f (by decide) (br_t (by decide) (br_f (by decide) (xb_ok 6 ha (by decide) (br_f (by decide) (xb_ok 6 hb (by decide) (br_f (by decide) (xc_ok 3 hc (by decide) (ar_fin (o := 11) (A := A) (B' := B') H hAB hkn hR hm (by omega) ha hb (Or.inr ⟨by decide, rfl⟩) (Or.inr ⟨by decide, rfl⟩) (fun _ _ => rfl) (fun _ => rfl) ⟨fun z => by omega, fun z => by omega, fun _ => ⟨C, hc, rfl⟩⟩ (fun post K131 => by unfold wpY_add; exact by_no0 4 hm (by decide) (br_t rfl (by_no0 14 (j := 11) (by decide) (by decide) (br_t rfl (br_f (by decide) (br_f (by decide) (by_no0 6 ha (by decide) (br_t rfl (br_f (by decide) (br_f (by decide) (br_f (by decide) (br_t (by decide) (by_no0 6 hb (by decide) (br_t rfl (br_f (by decide) (br_f (by decide) (br_f (by decide) (br_f (by decide) (br_t (by decide) (by_no0 4 hc (by decide) (br_t rfl (K131)))))))))))))))))))))))))))))))))))))))))))))))))
theorem ar_add12 {p : ap_T} {d M L E Q B g : Nat} {kn up dn sa sh oc rn : Int32} {sA sB N P K R NY PY KY me pt h lx lo va rf al fX fY pe ou es td ph : Nat → Int32} {k m : Nat} {a b c : Int32}
    (H : ap_OK p) (hAB : ap_AB p sA sB) (hkn : kn = 0 ∨ (kn = 1 ∧ ∀ m, m < 4 → ay_Sp p m NY PY KY)) (hR : ar_R d M L E Q B g sa oc rn h lx lo al rf fX fY me pt va) (hm : m < 4) :
    wpX_add (fun r u' => wpY_add (fun r' v' => r' = r ∧ i_Rel k u' v') (kn, nI M, nI L, up, dn, nI d, nI B, nI g, oc, sh, rn, nI Q, nI E, ap_oo p, sA, sB, ap_c p, ap_sz p, ap_L p, NY, PY, KY, va, fY, al, me, pt, h, lo, ou, es, td, ph) (nI m) (nI 12) a b c) (nI Q, nI E, up, dn, nI B, nI L, nI M, nI g, nI d, sa, sh, ap_sz p, ap_L p, ap_oo p, ap_aA p, ap_aB p, ap_c p, N, P, K, R, me, pt, h, lx, va, rf, al, fX, pe, ou, es) (nI m) (nI 12) a b c := by
  have II : i_Rel k (nI Q, nI E, up, dn, nI B, nI L, nI M, nI g, nI d, sa, sh, ap_sz p, ap_L p, ap_oo p, ap_aA p, ap_aB p, ap_c p, N, P, K, R, me, pt, h, lx, va, rf, al, fX, pe, ou, es) (kn, nI M, nI L, up, dn, nI d, nI B, nI g, oc, sh, rn, nI Q, nI E, ap_oo p, sA, sB, ap_c p, ap_sz p, ap_L p, NY, PY, KY, va, fY, al, me, pt, h, lo, ou, es, td, ph) := ⟨p, d, M, L, E, Q, B, g, kn, up, dn, sa, sh, oc, rn, sA, sB, N, P, K, R, NY, PY, KY, me, pt, h, lx, lo, va, rf, al, fX, fY, pe, ou, es, td, ph, rfl, rfl, H, hAB, hkn, hR⟩
  rcases ar_rng a 6 (by decide) with ha | ⟨A, ha, rfl⟩
  · unfold wpX_add; exact br_f (nI_pos (by omega)) (br_f (nI_ge (b := 4) hm (by decide)) (br_f (by decide) (br_t (by decide) (br_f (by decide) (br_f (by decide) (br_f (by decide) (br_f (by decide) (br_f (by decide) (br_f (by decide) (br_f (by decide) (br_t (by decide) (br_f (by decide) (xb_bad 6 ha (by unfold wpY_add; exact by_no0 4 hm (by decide) (br_t rfl (by_no0 14 (j := 12) (by decide) (by decide) (br_t rfl (br_f (by decide) (br_f (by decide) (by_no1 6 ha (br_f (by decide) ⟨rfl, II⟩)))))))))))))))))))))
  unfold wpX_add
  exact br_f (nI_pos (by omega)) (br_f (nI_ge (b := 4) hm (by decide)) (br_f (by decide) (br_t (by decide) (br_f (by decide) (br_f (by decide) (br_f (by decide) (br_f (by decide) (br_f (by decide) (br_f (by decide) (br_f (by decide) (br_t (by decide) (br_f (by decide) (xb_ok 6 ha (by decide) (br_t rfl (br_t (by decide) (ar_fin (o := 12) (A := A) (B' := 0) H hAB hkn hR hm (by omega) ha (by omega) (Or.inr ⟨by decide, rfl⟩) (Or.inl ⟨rfl, rfl⟩) (fun _ _ => rfl) (fun z => by omega) ⟨fun z => by omega, fun z => by omega, fun z => by omega⟩ (fun post K131 => by unfold wpY_add; exact by_no0 4 hm (by decide) (br_t rfl (by_no0 14 (j := 12) (by decide) (by decide) (br_t rfl (br_f (by decide) (br_f (by decide) (by_no0 6 ha (by decide) (br_t rfl (br_f (by decide) (br_f (by decide) (br_f (by decide) (br_f (by decide) (br_f (by decide) (br_f (by decide) (br_f (by decide) (br_f (by decide) (br_f (by decide) (K131))))))))))))))))))))))))))))))))))
theorem ar_add13 {p : ap_T} {d M L E Q B g : Nat} {kn up dn sa sh oc rn : Int32} {sA sB N P K R NY PY KY me pt h lx lo va rf al fX fY pe ou es td ph : Nat → Int32} {k m : Nat} {a b c : Int32}
    (H : ap_OK p) (hAB : ap_AB p sA sB) (hkn : kn = 0 ∨ (kn = 1 ∧ ∀ m, m < 4 → ay_Sp p m NY PY KY)) (hR : ar_R d M L E Q B g sa oc rn h lx lo al rf fX fY me pt va) (hm : m < 4) :
    wpX_add (fun r u' => wpY_add (fun r' v' => r' = r ∧ i_Rel k u' v') (kn, nI M, nI L, up, dn, nI d, nI B, nI g, oc, sh, rn, nI Q, nI E, ap_oo p, sA, sB, ap_c p, ap_sz p, ap_L p, NY, PY, KY, va, fY, al, me, pt, h, lo, ou, es, td, ph) (nI m) (nI 13) a b c) (nI Q, nI E, up, dn, nI B, nI L, nI M, nI g, nI d, sa, sh, ap_sz p, ap_L p, ap_oo p, ap_aA p, ap_aB p, ap_c p, N, P, K, R, me, pt, h, lx, va, rf, al, fX, pe, ou, es) (nI m) (nI 13) a b c := by
  have II : i_Rel k (nI Q, nI E, up, dn, nI B, nI L, nI M, nI g, nI d, sa, sh, ap_sz p, ap_L p, ap_oo p, ap_aA p, ap_aB p, ap_c p, N, P, K, R, me, pt, h, lx, va, rf, al, fX, pe, ou, es) (kn, nI M, nI L, up, dn, nI d, nI B, nI g, oc, sh, rn, nI Q, nI E, ap_oo p, sA, sB, ap_c p, ap_sz p, ap_L p, NY, PY, KY, va, fY, al, me, pt, h, lo, ou, es, td, ph) := ⟨p, d, M, L, E, Q, B, g, kn, up, dn, sa, sh, oc, rn, sA, sB, N, P, K, R, NY, PY, KY, me, pt, h, lx, lo, va, rf, al, fX, fY, pe, ou, es, td, ph, rfl, rfl, H, hAB, hkn, hR⟩
  unfold wpX_add
  exact br_f (nI_pos (by omega)) (br_f (nI_ge (b := 4) hm (by decide)) (br_f (by decide) (br_t (by decide) (br_f (by decide) (br_t (by decide) (br_f (by decide) (br_f (by decide) (br_f (by decide) (br_f (by decide) (br_f (by decide) (br_t (by decide) (br_t rfl (br_t rfl (br_t (by decide) (ar_fin (o := 13) (A := 0) (B' := 0) H hAB hkn hR hm (by omega) (by omega) (by omega) (Or.inl ⟨rfl, rfl⟩) (Or.inl ⟨rfl, rfl⟩) (fun _ z => absurd rfl z) (fun z => by omega) ⟨fun z => by omega, fun z => by omega, fun z => by omega⟩ (fun post K131 => by unfold wpY_add; exact by_no0 4 hm (by decide) (br_t rfl (by_no0 14 (j := 13) (by decide) (by decide) (br_t rfl (br_f (by decide) (br_t (by decide) (br_f (by decide) (br_f (by decide) (br_f (by decide) (br_f (by decide) (br_f (by decide) (br_f (by decide) (br_f (by decide) (br_f (by decide) (br_f (by decide) (K131)))))))))))))))))))))))))))))))
end
section
theorem i_vc_add {k : Nat} {u : SX} {v : SY} (I : i_Rel k u v) (hk : k + 6 ≤ 3072) (v1 : Int32) (v2 : Int32) (v3 : Int32) (v4 : Int32) (v5 : Int32) : wpX_add (fun r u' => wpY_add (fun r' v' => r' = r ∧ i_Rel (k + 6) u' v') v v1 v2 v3 v4 v5) u v1 v2 v3 v4 v5 := by
  have II := I
  obtain ⟨p, d, M, L, E, Q, B, g, kn, up, dn, sa, sh, oc, rn, sA, sB, N, P, K, R, NY, PY, KY, me, pt, h, lx, lo, va, rf, al, fX, fY, pe, ou, es, td, ph, rfl, rfl, H, hAB, hkn, hR⟩ := I
  rcases ar_rng v1 4 (by decide) with c | ⟨m, hm, rfl⟩
  · unfold wpX_add
    exact xb_bad 4 c (by unfold wpY_add; exact by_no1 4 c (br_f (by decide) ⟨rfl, II⟩))
  · rcases ar_rng v2 14 (by decide) with c | ⟨o, ho, rfl⟩
    · unfold wpX_add
      exact br_f (nI_pos (by omega)) (br_f (nI_ge (b := 4) hm (by decide)) (xc_bad 13 (by decide) c (by unfold wpY_add; exact by_no0 4 hm (by decide) (br_t rfl (by_no1 14 c (br_f (by decide) ⟨rfl, II⟩))))))
    · have h14 : o = 0 ∨ o = 1 ∨ o = 2 ∨ o = 3 ∨ o = 4 ∨ o = 5 ∨ o = 6 ∨ o = 7 ∨ o = 8 ∨ o = 9 ∨ o = 10 ∨ o = 11 ∨ o = 12 ∨ o = 13 := by omega
      rcases h14 with e | e | e | e | e | e | e | e | e | e | e | e | e | e <;> subst e
      · exact ar_add0 H hAB hkn hR hm
      · exact ar_add1 H hAB hkn hR hm
      · exact ar_add2 H hAB hkn hR hm
      · exact ar_add3 H hAB hkn hR hm
      · exact ar_add4 H hAB hkn hR hm
      · exact ar_add5 H hAB hkn hR hm
      · exact ar_add6 H hAB hkn hR hm
      · exact ar_add7 H hAB hkn hR hm
      · exact ar_add8 H hAB hkn hR hm
      · exact ar_add9 H hAB hkn hR hm
      · exact ar_add10 H hAB hkn hR hm
      · exact ar_add11 H hAB hkn hR hm
      · exact ar_add12 H hAB hkn hR hm
      · exact ar_add13 H hAB hkn hR hm
end
