/-! counts of true places -/
def ad_ct (p : Nat → Bool) : Nat → Nat
  | 0 => 0
  | n + 1 => ad_ct p n + (if p n = true then 1 else 0)
theorem ad_ct_le (p : Nat → Bool) : ∀ n, ad_ct p n ≤ n := by
  intro n
  induction n with
  | zero => exact Nat.le_refl 0
  | succ n ih =>
    show ad_ct p n + (if p n = true then 1 else 0) ≤ n + 1
    split <;> omega
theorem ad_ct_mono {p q : Nat → Bool} : ∀ n, (∀ i, i < n → p i = true → q i = true) → ad_ct p n ≤ ad_ct q n := by
  intro n
  induction n with
  | zero => exact fun _ => Nat.le_refl 0
  | succ n ih =>
    intro h
    have h1 := ih (fun i hi => h i (by omega))
    have h2 := h n (by omega)
    show ad_ct p n + (if p n = true then 1 else 0) ≤ ad_ct q n + (if q n = true then 1 else 0)
    by_cases hp : p n = true
    · rw [if_pos hp, if_pos (h2 hp)]; omega
    · rw [if_neg hp]; omega
theorem ad_ct_lt {p q : Nat → Bool} {x : Nat} : ∀ n, (∀ i, i < n → p i = true → q i = true) → x < n → p x = false → q x = true → ad_ct p n < ad_ct q n := by
  intro n
  induction n with
  | zero => intro _ h; omega
  | succ n ih =>
    intro h hx hp hq
    have h2 := h n (by omega)
    have h3 := ad_ct_mono n (fun i hi => h i (by omega))
    show ad_ct p n + (if p n = true then 1 else 0) < ad_ct q n + (if q n = true then 1 else 0)
    by_cases e : x = n
    · subst e
      rw [if_pos hq, hp, if_neg (by decide)]; omega
    · have h1 := ih (fun i hi => h i (by omega)) (by omega) hp hq
      by_cases hp' : p n = true
      · rw [if_pos hp', if_pos (h2 hp')]; omega
      · rw [if_neg hp']; omega
theorem ad_ct_congr {p q : Nat → Bool} : ∀ n, (∀ i, i < n → p i = q i) → ad_ct p n = ad_ct q n := by
  intro n
  induction n with
  | zero => exact fun _ => rfl
  | succ n ih =>
    intro h
    show ad_ct p n + (if p n = true then 1 else 0) = ad_ct q n + (if q n = true then 1 else 0)
    rw [ih (fun i hi => h i (by omega)), h n (by omega)]
theorem ad_ct_one {p q : Nat → Bool} {x : Nat} : ∀ n, x < n → (∀ i, i < n → i ≠ x → q i = p i) →
    ad_ct q n + (if p x = true then 1 else 0) = ad_ct p n + (if q x = true then 1 else 0) := by
  intro n
  induction n with
  | zero => intro h; omega
  | succ n ih =>
    intro hx h
    show ad_ct q n + (if q n = true then 1 else 0) + _ = ad_ct p n + (if p n = true then 1 else 0) + _
    by_cases e : x = n
    · subst e
      rw [ad_ct_congr x (fun i hi => h i (by omega) (by omega))]; omega
    · have h1 := ih (by omega) (fun i hi => h i (by omega))
      rw [h n (by omega) (by omega)]; omega
theorem ad_ct_none {p : Nat → Bool} : ∀ n, (∀ i, i < n → p i = false) → ad_ct p n = 0 := by
  intro n
  induction n with
  | zero => exact fun _ => rfl
  | succ n ih =>
    intro h
    show ad_ct p n + (if p n = true then 1 else 0) = 0
    rw [ih (fun i hi => h i (by omega)), h n (by omega)]; rfl
theorem ad_ct_pos {p : Nat → Bool} {x n : Nat} (hx : x < n) (h : p x = true) : 1 ≤ ad_ct p n := by
  have h0 := ad_ct_none (p := fun _ => false) n (fun _ _ => rfl)
  have h1 := ad_ct_lt (p := fun _ => false) (q := p) (x := x) n (fun _ _ z => absurd z (by decide)) hx rfl h
  omega
theorem ad_ct_ex {p : Nat → Bool} {n : Nat} (h : 1 ≤ ad_ct p n) : ∃ x, x < n ∧ p x = true := by
  apply Classical.byContradiction
  intro z
  have := ad_ct_none (p := p) n (fun i hi => by
    cases e : p i with
    | false => rfl
    | true => exact absurd ⟨i, hi, e⟩ z)
  omega
theorem ad_ct_all {p : Nat → Bool} {n : Nat} (h : n ≤ ad_ct p n) : ∀ x, x < n → p x = true := by
  intro x hx
  cases e : p x with
  | true => rfl
  | false =>
    have h1 := ad_ct_lt (p := p) (q := fun _ => true) (x := x) n (fun _ _ _ => rfl) hx e rfl
    have h2 := ad_ct_le (fun _ => true) n
    omega
theorem ad_ct_succ (p : Nat → Bool) (n : Nat) : ad_ct p (n + 1) = ad_ct p n + (if p n = true then 1 else 0) := rfl
/-! sets of small numbers as ints -/
theorem ad_one : ∀ v, v < 32 → ∀ i, i < 32 → bt ((1 : Int32) <<< (nI v &&& 31)) i = decide (i = v) := by decide +kernel
theorem ad_two : ∀ v, v < 17 → ∀ i, i < 32 → bt ((2 : Int32) <<< (nI v &&& 31)) i = decide (i = v + 1) := by decide +kernel
theorem ad_mask : ∀ z, z < 17 → ∀ i, i < 32 → bt ((1 : Int32) <<< (nI z &&& 31) - 1) i = decide (i < z) := by decide +kernel
theorem ad_bt1 : ∀ i, i < 32 → bt 1 i = decide (i = 0) := by decide +kernel
theorem ad_not (x : Int32) {i : Nat} (h : i < 32) : bt (x ^^^ (-1)) i = !bt x i := by
  rw [b_xor, b_m1 i h, Bool.xor_true]
theorem ad_zero (x : Int32) : x = 0 ↔ ∀ i, i < 32 → bt x i = false :=
  ⟨fun h i _ => by rw [h]; exact b_0 i, fun h => b_ext (fun i hi => by rw [h i hi, b_0])⟩
theorem ad_and0 (x : Int32) {v : Nat} (hv : v < 32) : x &&& ((1 : Int32) <<< (nI v &&& 31)) = 0 ↔ bt x v = false := by
  rw [ad_zero]
  constructor
  · intro h
    have h1 := h v hv
    rw [b_and, ad_one v hv v hv, decide_eq_true rfl, Bool.and_true] at h1
    exact h1
  · intro h i hi
    rw [b_and, ad_one v hv i hi]
    by_cases e : i = v
    · rw [e, h]; rfl
    · rw [decide_eq_false e, Bool.and_false]
theorem ad_shr1 (x : Int32) {j : Nat} (hj : j < 32) : (x >>> (nI j &&& 31)) &&& 1 = 0 ↔ bt x j = false := by
  rw [ad_zero]
  constructor
  · intro h
    have h1 := h 0 (by decide)
    rw [b_and, b_sshr j hj x (by decide), ad_bt1 0 (by decide), decide_eq_true rfl, Bool.and_true, if_pos (by omega)] at h1
    exact h1
  · intro h i hi
    rw [b_and, ad_bt1 i hi]
    by_cases e : i = 0
    · rw [e, b_sshr j hj x (by decide), if_pos (by omega), Nat.add_zero, h]; rfl
    · rw [decide_eq_false e, Bool.and_false]
theorem ad_sub0 (x y : Int32) : x &&& (y ^^^ (-1)) = 0 ↔ ∀ i, i < 32 → bt x i = true → bt y i = true := by
  rw [ad_zero]
  constructor
  · intro h i hi hx
    have h1 := h i hi
    rw [b_and, ad_not y hi, hx] at h1
    cases e : bt y i with
    | true => rfl
    | false => rw [e] at h1; exact absurd h1 (by decide)
  · intro h i hi
    rw [b_and, ad_not y hi]
    cases e : bt x i with
    | false => rfl
    | true => rw [h i hi e]; rfl
theorem ad_sup (x y : Int32) : x &&& y = y ↔ ∀ i, i < 32 → bt y i = true → bt x i = true := by
  constructor
  · intro h i hi hy
    have h1 : bt (x &&& y) i = true := by rw [h]; exact hy
    rw [b_and, hy, Bool.and_true] at h1
    exact h1
  · intro h
    refine b_ext (fun i hi => ?_)
    rw [b_and]
    cases e : bt y i with
    | false => exact Bool.and_false _
    | true => rw [h i hi e]; rfl
theorem ad_neg (x : Int32) : x < 0 ↔ bt x 31 = true := by
  have h : bt x 31 = x.toBitVec.msb := by
    rw [BitVec.msb_eq_getLsbD_last]; rfl
  rw [h, BitVec.msb_eq_toInt, decide_eq_true_iff, Int32.lt_iff_toInt_lt]
  exact Iff.rfl
theorem ad_nb0 : vp_nar .boolean 0 = 0 := by decide
theorem ad_nb1 : vp_nar .boolean 1 = 1 := by decide
/-! nI under updates -/
theorem ad_updN (f : Nat → Nat) (k x : Nat) : upd (fun j => nI (f j)) k (nI x) = fun j => nI (if j = k then x else f j) := by
  funext j
  show (if j = k then nI x else nI (f j)) = nI (if j = k then x else f j)
  split <;> rfl
theorem ad_upd2 (f : Nat → Int32) (k : Nat) (x y : Int32) : upd (upd f k x) k y = upd f k y := by
  funext j
  show (if j = k then y else if j = k then x else f j) = if j = k then y else f j
  split <;> rfl
theorem ad_updS (f : Nat → Int32) (k : Nat) (x : Int32) (h : f k = x) : upd f k x = f := by
  funext j
  show (if j = k then x else f j) = f j
  split
  · rename_i e; rw [e, h]
  · rfl
/-! least sets: needed, loans' regions, keeping; rd, wr: place and variable; sc: place to place -/
def ad_nd (rd wr sc : Nat → Nat → Prop) (i v : Nat) : Prop :=
  ∀ P : Nat → Prop, (∀ i, rd i v → P i) → (∀ i j, ¬ wr i v → sc i j → P j → P i) → P i
theorem ad_nd_rd {rd wr sc : Nat → Nat → Prop} {i v : Nat} (h : rd i v) : ad_nd rd wr sc i v := fun _ a _ => a i h
theorem ad_nd_st {rd wr sc : Nat → Nat → Prop} {i j v : Nat} (h1 : ¬ wr i v) (h2 : sc i j) (h3 : ad_nd rd wr sc j v) : ad_nd rd wr sc i v :=
  fun P a b => b i j h1 h2 (h3 P a b)
theorem ad_nd_out {rd wr sc : Nat → Nat → Prop} {i v : Nat} (h : ad_nd rd wr sc i v) : rd i v ∨ (¬ wr i v ∧ ∃ j, sc i j ∧ ad_nd rd wr sc j v) := by
  refine h (fun i => rd i v ∨ (¬ wr i v ∧ ∃ j, sc i j ∧ ad_nd rd wr sc j v)) (fun i h => Or.inl h) (fun i j h1 h2 h3 => Or.inr ⟨h1, j, h2, ?_⟩)
  rcases h3 with h3 | ⟨h3, l, h4, h5⟩
  · exact ad_nd_rd h3
  · exact ad_nd_st h3 h4 h5
/-- reached from s by places where na holds -/
def ad_rg (na : Nat → Prop) (sc : Nat → Nat → Prop) (s j : Nat) : Prop :=
  ∀ P : Nat → Prop, P s → (∀ i j, P i → na i → sc i j → P j) → P j
theorem ad_rg_0 {na : Nat → Prop} {sc : Nat → Nat → Prop} {s : Nat} : ad_rg na sc s s := fun _ a _ => a
theorem ad_rg_st {na : Nat → Prop} {sc : Nat → Nat → Prop} {s i j : Nat} (h : ad_rg na sc s i) (h1 : na i) (h2 : sc i j) : ad_rg na sc s j :=
  fun P a b => b i j (h P a b) h1 h2
theorem ad_rg_tr {na : Nat → Prop} {sc : Nat → Nat → Prop} {s i j : Nat} (h : ad_rg na sc s i) (h1 : ad_rg na sc i j) : ad_rg na sc s j :=
  fun P a b => h1 P (h P a b) b
/-- v < 6: kept in front of j; v = 6: reached -/
def ad_kp (z : Nat) (own : Prop) (nd gen kil sc : Nat → Nat → Prop) (j v : Nat) : Prop :=
  ∀ P : Nat → Nat → Prop, (0 < z → P 0 6) → (0 < z → own → nd 0 0 → P 0 0) → (∀ i j, P i 6 → sc i j → P j 6) →
    (∀ i j v, v < 6 → P i 6 → sc i j → gen i v → nd j v → P j v) →
    (∀ i j v, v < 6 → P i 6 → P i v → ¬ kil i v → sc i j → nd j v → P j v) → P j v
section
variable {z : Nat} {own : Prop} {nd gen kil sc : Nat → Nat → Prop}
theorem ad_kp_0 (h : 0 < z) : ad_kp z own nd gen kil sc 0 6 := fun _ a _ _ _ _ => a h
theorem ad_kp_1 (h : 0 < z) (ho : own) (hn : nd 0 0) : ad_kp z own nd gen kil sc 0 0 := fun _ _ a _ _ _ => a h ho hn
theorem ad_kp_2 {i j : Nat} (h : ad_kp z own nd gen kil sc i 6) (hs : sc i j) : ad_kp z own nd gen kil sc j 6 :=
  fun P a b c d e => c i j (h P a b c d e) hs
theorem ad_kp_3 {i j v : Nat} (hv : v < 6) (h : ad_kp z own nd gen kil sc i 6) (hs : sc i j) (hg : gen i v) (hn : nd j v) : ad_kp z own nd gen kil sc j v :=
  fun P a b c d e => d i j v hv (h P a b c d e) hs hg hn
theorem ad_kp_4 {i j v : Nat} (hv : v < 6) (h : ad_kp z own nd gen kil sc i 6) (h1 : ad_kp z own nd gen kil sc i v) (hk : ¬ kil i v) (hs : sc i j) (hn : nd j v) : ad_kp z own nd gen kil sc j v :=
  fun P a b c d e => e i j v hv (h P a b c d e) (h1 P a b c d e) hk hs hn
end
theorem ad_nf {b : Bool} (h : ¬ b = false) : b = true := by
  cases b with
  | true => rfl
  | false => exact absurd rfl h
