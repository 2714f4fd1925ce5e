/-! the program's picture: o, A, B (numbers), c (ints), size, lent -/
abbrev ap_T : Type := (Nat → Nat) × (Nat → Nat) × (Nat → Nat) × (Nat → Int32) × (Nat → Nat) × (Nat → Int32)
def ap_O (p : ap_T) (k : Nat) : Nat := p.1 k
def ap_A (p : ap_T) (k : Nat) : Nat := p.2.1 k
def ap_B (p : ap_T) (k : Nat) : Nat := p.2.2.1 k
def ap_c (p : ap_T) (k : Nat) : Int32 := p.2.2.2.1 k
def ap_C (p : ap_T) (k : Nat) : Nat := (ap_c p k).toNatClampNeg
def ap_Z (p : ap_T) (m : Nat) : Nat := p.2.2.2.2.1 m
def ap_L (p : ap_T) (m : Nat) : Int32 := p.2.2.2.2.2 m
def ap_OK (p : ap_T) : Prop :=
  (∀ k, ap_O p k ≤ 13 ∧ ap_A p k < 6 ∧ ap_B p k < 6 ∧ (ap_O p k = 3 ∨ ap_O p k = 4 → ap_c p k = nI (ap_C p k) ∧ ap_C p k < 3) ∧
    (ap_O p k = 9 ∨ ap_O p k = 10 → ap_c p k = nI (ap_C p k) ∧ ap_C p k < 16) ∧ (ap_O p k = 11 → ap_c p k = nI (ap_C p k) ∧ ap_C p k < 4)) ∧
  (∀ m, ap_Z p m ≤ 16) ∧ (∀ m, ap_L p m = 0 ∨ ap_L p m = 1)
def ap_on (p : ap_T) (k : Nat) : Prop := ap_O p k ≠ 10 ∧ ap_O p k ≠ 12 ∧ ap_O p k ≠ 13
def ap_jp (p : ap_T) (k : Nat) : Prop := ap_O p k = 9 ∨ ap_O p k = 10
def ap_rd (p : ap_T) (m i v : Nat) : Prop :=
  ((4 ≤ ap_O p (16 * m + i) ∧ ap_O p (16 * m + i) ≤ 9) ∨ ap_O p (16 * m + i) = 12) ∧ ap_A p (16 * m + i) = v ∨
  (ap_O p (16 * m + i) = 1 ∨ ap_O p (16 * m + i) = 3 ∨ ap_O p (16 * m + i) = 4 ∨ ap_O p (16 * m + i) = 11) ∧ ap_B p (16 * m + i) = v
def ap_wr (p : ap_T) (m i v : Nat) : Prop :=
  (ap_O p (16 * m + i) ≤ 3 ∨ ap_O p (16 * m + i) = 8 ∨ ap_O p (16 * m + i) = 11) ∧ ap_A p (16 * m + i) = v
def ap_sc (p : ap_T) (m i j : Nat) : Prop :=
  j < ap_Z p m ∧ (ap_on p (16 * m + i) ∧ j = i + 1 ∨ ap_jp p (16 * m + i) ∧ j = ap_C p (16 * m + i))
def ap_nd (p : ap_T) (m i v : Nat) : Prop := ad_nd (ap_rd p m) (ap_wr p m) (ap_sc p m) i v
/-- what may stand on the ways of a loan -/
def ap_al (p : ap_T) (k : Nat) : Prop := ap_O p k = 5 ∨ ap_O p k = 6 ∨ ap_O p k = 7 ∨ ap_O p k = 9 ∨ ap_O p k = 10
def ap_ln (p : ap_T) (m i : Nat) : Prop :=
  ap_O p (16 * m + i) = 3 ∧ ap_C p (16 * m + i) ≠ 2 ∧ ap_A p (16 * m + i) ≠ ap_B p (16 * m + i) ∧
  ∀ s j, ap_sc p m i s → ad_rg (fun x => ap_nd p m x (ap_A p (16 * m + i))) (ap_sc p m) s j → ap_nd p m j (ap_A p (16 * m + i)) →
    ap_al p (16 * m + j) ∧ ∀ v, v ≠ ap_A p (16 * m + i) → ap_nd p m i v → ap_nd p m j v
/-- b is not needed behind -/
def ap_la (p : ap_T) (m i : Nat) : Prop := ¬ (i + 1 < ap_Z p m ∧ ap_nd p m (i + 1) (ap_B p (16 * m + i)))
def ap_ho (p : ap_T) (m i : Nat) : Prop :=
  ap_O p (16 * m + i) = 1 ∧ ap_la p m i ∧ ap_A p (16 * m + i) ≠ ap_B p (16 * m + i) ∨
  ap_O p (16 * m + i) = 4 ∧ ap_la p m i ∧ ap_A p (16 * m + i) ≠ ap_B p (16 * m + i) ∧ ap_C p (16 * m + i) ≠ 2 ∨
  ap_O p (16 * m + i) = 11 ∧ (ap_la p m i ∨ ap_A p (16 * m + i) = ap_B p (16 * m + i)) ∧ ap_L p (ap_C p (16 * m + i)) = 0
def ap_Pl (p : ap_T) (m i : Nat) (x : Int32) : Prop := (ap_ln p m i → x = 1) ∧ (¬ ap_ln p m i → ap_ho p m i → x = 2) ∧ (¬ ap_ln p m i → ¬ ap_ho p m i → x = 0)
def ap_gn (p : ap_T) (m i v : Nat) : Prop :=
  v = ap_A p (16 * m + i) ∧ (ap_O p (16 * m + i) = 0 ∨ ap_O p (16 * m + i) = 1 ∨ ap_O p (16 * m + i) = 3 ∨ ap_O p (16 * m + i) = 8 ∨ ap_O p (16 * m + i) = 11) ∧ ¬ ap_ln p m i
def ap_kl (p : ap_T) (m i v : Nat) : Prop := ap_ho p m i ∧ v = ap_B p (16 * m + i) ∨ (ap_O p (16 * m + i) = 2 ∨ ap_ln p m i) ∧ v = ap_A p (16 * m + i)
def ap_kp (p : ap_T) (m j v : Nat) : Prop := ad_kp (ap_Z p m) (ap_L p m = 0) (ap_nd p m) (ap_gn p m) (ap_kl p m) (ap_sc p m) j v
/-- the arrays of what is found, for METHOD m -/
def ap_NS (p : ap_T) (m : Nat) (N : Nat → Int32) : Prop := ∀ i, i < ap_Z p m → ∀ v, v < 32 → (bt (N (16 * m + i)) v = true ↔ ap_nd p m i v)
def ap_PS (p : ap_T) (m : Nat) (P : Nat → Int32) : Prop := ∀ i, i < ap_Z p m → ap_Pl p m i (P (16 * m + i))
def ap_KX (p : ap_T) (m : Nat) (K R : Nat → Int32) : Prop := ∀ i, i < ap_Z p m →
  (R (16 * m + i) = 0 ∨ R (16 * m + i) = 1) ∧ (R (16 * m + i) = 1 ↔ ap_kp p m i 6) ∧ ∀ v, v < 32 → (bt (K (16 * m + i)) v = true ↔ v < 6 ∧ ap_kp p m i v)
def ap_KY (p : ap_T) (m : Nat) (K : Nat → Int32) : Prop := ∀ i, i < ap_Z p m →
  (¬ ap_kp p m i 6 ∧ K (16 * m + i) = -1) ∨ (ap_kp p m i 6 ∧ ∀ v, v < 32 → (bt (K (16 * m + i)) v = true ↔ v < 6 ∧ ap_kp p m i v))
section
variable {p : ap_T} {m : Nat}
theorem ap_nd_6 (H : ap_OK p) {i v : Nat} (h : ap_nd p m i v) : v < 6 := by
  refine h (fun _ => v < 6) (fun i h => ?_) (fun _ _ _ _ h => h)
  have hk := H.1 (16 * m + i)
  rcases h with ⟨_, h⟩ | ⟨_, h⟩ <;> omega
theorem ap_ln_ho {i : Nat} (h : ap_ln p m i) : ¬ ap_ho p m i := by
  have h1 := h.1
  rintro (h2 | h2 | h2) <;> have h3 := h2.1 <;> omega
theorem ap_Pl_1 {i : Nat} {x : Int32} (h : ap_Pl p m i x) : x = 1 ↔ ap_ln p m i := by
  constructor
  · intro e
    apply Classical.byContradiction
    intro n
    by_cases h2 : ap_ho p m i
    · rw [h.2.1 n h2] at e; exact absurd e (by decide)
    · rw [h.2.2 n h2] at e; exact absurd e (by decide)
  · exact h.1
theorem ap_Pl_2 {i : Nat} {x : Int32} (h : ap_Pl p m i x) : x = 2 ↔ ap_ho p m i := by
  constructor
  · intro e
    apply Classical.byContradiction
    intro n
    by_cases h2 : ap_ln p m i
    · rw [h.1 h2] at e; exact absurd e (by decide)
    · rw [h.2.2 h2 n] at e; exact absurd e (by decide)
  · intro e
    exact h.2.1 (fun z => ap_ln_ho z e) e
theorem ap_Pl_u {i : Nat} {x y : Int32} (h : ap_Pl p m i x) (h' : ap_Pl p m i y) : x = y := by
  by_cases h1 : ap_ln p m i
  · rw [h.1 h1, h'.1 h1]
  · by_cases h2 : ap_ho p m i
    · rw [h.2.1 h1 h2, h'.2.1 h1 h2]
    · rw [h.2.2 h1 h2, h'.2.2 h1 h2]
theorem ad_iffb {a b : Bool} {P : Prop} (h : a = true ↔ P) (h' : b = true ↔ P) : a = b := by
  cases a <;> cases b <;> simp_all
theorem ap_NS_u {N N' : Nat → Int32} (h : ap_NS p m N) (h' : ap_NS p m N') {i : Nat} (hi : i < ap_Z p m) : N (16 * m + i) = N' (16 * m + i) :=
  b_ext (fun v hv => ad_iffb (h i hi v hv) (h' i hi v hv))
/-- the way that a loan has before it -/
def ap_LR (p : ap_T) (m v i : Nat) : Prop := ∀ j, ad_rg (fun x => ap_nd p m x v) (ap_sc p m) i j → ap_nd p m j v → ap_al p (16 * m + j)
theorem ap_LR_0 {i s : Nat} (h : ap_ln p m i) (hs : ap_sc p m i s) : ap_LR p m (ap_A p (16 * m + i)) s :=
  fun j hj hn => (h.2.2.2 s j hs hj hn).1
theorem ap_LR_1 {v i s : Nat} (h : ap_LR p m v i) (hn : ap_nd p m i v) (hs : ap_sc p m i s) : ap_LR p m v s :=
  fun j hj hv => h j (ad_rg_tr (ad_rg_st ad_rg_0 hn hs) hj) hv
theorem ap_LR_2 {v i : Nat} (h : ap_LR p m v i) (hn : ap_nd p m i v) : ap_al p (16 * m + i) := h i ad_rg_0 hn
end
/-! the arrays of the program, as ints -/
def ap_oo (p : ap_T) : Nat → Int32 := fun k => nI (ap_O p k)
def ap_aA (p : ap_T) : Nat → Int32 := fun k => nI (ap_A p k)
def ap_aB (p : ap_T) : Nat → Int32 := fun k => nI (ap_B p k)
def ap_sz (p : ap_T) : Nat → Int32 := fun m => nI (ap_Z p m)
def ap_AB (p : ap_T) (sA sB : Nat → Int32) : Prop :=
  ∀ k, (ap_O p k ≠ 10 → ap_O p k ≠ 13 → sA k = nI (ap_A p k)) ∧ ((ap_O p k = 1 ∨ ap_O p k = 3 ∨ ap_O p k = 4 ∨ ap_O p k = 11) → sB k = nI (ap_B p k))
theorem ap_14 {p : ap_T} (H : ap_OK p) (k : Nat) : ap_O p k = 0 ∨ ap_O p k = 1 ∨ ap_O p k = 2 ∨ ap_O p k = 3 ∨ ap_O p k = 4 ∨ ap_O p k = 5 ∨ ap_O p k = 6 ∨ ap_O p k = 7 ∨ ap_O p k = 8 ∨ ap_O p k = 9 ∨ ap_O p k = 10 ∨ ap_O p k = 11 ∨ ap_O p k = 12 ∨ ap_O p k = 13 := by
  have := (H.1 k).1
  omega
theorem ap_ook (p : ap_T) {k : Nat} (hk : k < 64) : ap_oo p (nI k).toNatClampNeg = nI (ap_O p k) := by rw [nI_clamp (by omega)]; rfl
theorem ap_aAk (p : ap_T) {k : Nat} (hk : k < 64) : ap_aA p (nI k).toNatClampNeg = nI (ap_A p k) := by rw [nI_clamp (by omega)]; rfl
theorem ap_aBk (p : ap_T) {k : Nat} (hk : k < 64) : ap_aB p (nI k).toNatClampNeg = nI (ap_B p k) := by rw [nI_clamp (by omega)]; rfl
theorem ap_ck (p : ap_T) {k : Nat} (hk : k < 64) : ap_c p (nI k).toNatClampNeg = ap_c p k := by rw [nI_clamp (by omega)]
theorem ap_szm (p : ap_T) {m : Nat} (hm : m < 4) : ap_sz p (nI m).toNatClampNeg = nI (ap_Z p m) := by rw [nI_clamp (by omega)]; rfl
theorem ap_xk (m i : Nat) : nI m * 16 + nI i = nI (16 * m + i) := by
  show nI m * nI 16 + nI i = _
  rw [pk_mul, nI_add, Nat.mul_comm]
theorem ap_yk (m i : Nat) : 16 * nI m + nI i = nI (16 * m + i) := by
  show nI 16 * nI m + nI i = _
  rw [pk_mul, nI_add]
/-- a set of one -/
theorem ad_b1 {v : Nat} (hv : v < 6) : ∀ i, i < 32 → (bt ((1 : Int32) <<< (nI v &&& 31)) i = true ↔ i = v) := by
  intro i hi
  rw [ad_one v (by omega) i hi, decide_eq_true_iff]
theorem ad_bn {b : Bool} {P : Prop} (h : b = true ↔ P) : (!b) = true ↔ ¬ P := by
  rw [← h]; cases b <;> decide
