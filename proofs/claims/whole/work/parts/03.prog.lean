/-! the program's picture: o, A, B (numbers), c (ints), size, lent -/
abbrev AP : Type := (Nat → Nat) × (Nat → Nat) × (Nat → Nat) × (Nat → Int32) × (Nat → Nat) × (Nat → Int32)
def pO (p : AP) (k : Nat) : Nat := p.1 k
def pA (p : AP) (k : Nat) : Nat := p.2.1 k
def pB (p : AP) (k : Nat) : Nat := p.2.2.1 k
def pc (p : AP) (k : Nat) : Int32 := p.2.2.2.1 k
def pC (p : AP) (k : Nat) : Nat := (pc p k).toNatClampNeg
def pZ (p : AP) (m : Nat) : Nat := p.2.2.2.2.1 m
def pL (p : AP) (m : Nat) : Int32 := p.2.2.2.2.2 m
def POK (p : AP) : Prop :=
  (∀ k, pO p k ≤ 13 ∧ pA p k < 6 ∧ pB p k < 6 ∧ (pO p k = 3 ∨ pO p k = 4 → pc p k = nI (pC p k) ∧ pC p k < 3) ∧
    (pO p k = 9 ∨ pO p k = 10 → pc p k = nI (pC p k) ∧ pC p k < 16) ∧ (pO p k = 11 → pc p k = nI (pC p k) ∧ pC p k < 4)) ∧
  (∀ m, pZ p m ≤ 16) ∧ (∀ m, pL p m = 0 ∨ pL p m = 1)
def pon (p : AP) (k : Nat) : Prop := pO p k ≠ 10 ∧ pO p k ≠ 12 ∧ pO p k ≠ 13
def pjp (p : AP) (k : Nat) : Prop := pO p k = 9 ∨ pO p k = 10
def prd (p : AP) (m i v : Nat) : Prop :=
  ((4 ≤ pO p (16 * m + i) ∧ pO p (16 * m + i) ≤ 9) ∨ pO p (16 * m + i) = 12) ∧ pA p (16 * m + i) = v ∨
  (pO p (16 * m + i) = 1 ∨ pO p (16 * m + i) = 3 ∨ pO p (16 * m + i) = 4 ∨ pO p (16 * m + i) = 11) ∧ pB p (16 * m + i) = v
def pwr (p : AP) (m i v : Nat) : Prop :=
  (pO p (16 * m + i) ≤ 3 ∨ pO p (16 * m + i) = 8 ∨ pO p (16 * m + i) = 11) ∧ pA p (16 * m + i) = v
def psc (p : AP) (m i j : Nat) : Prop :=
  j < pZ p m ∧ (pon p (16 * m + i) ∧ j = i + 1 ∨ pjp p (16 * m + i) ∧ j = pC p (16 * m + i))
def pnd (p : AP) (m i v : Nat) : Prop := ad_nd (prd p m) (pwr p m) (psc p m) i v
/-- what may stand on the ways of a loan -/
def pal (p : AP) (k : Nat) : Prop := pO p k = 5 ∨ pO p k = 6 ∨ pO p k = 7 ∨ pO p k = 9 ∨ pO p k = 10
def pln (p : AP) (m i : Nat) : Prop :=
  pO p (16 * m + i) = 3 ∧ pC p (16 * m + i) ≠ 2 ∧ pA p (16 * m + i) ≠ pB p (16 * m + i) ∧
  ∀ s j, psc p m i s → ad_rg (fun x => pnd p m x (pA p (16 * m + i))) (psc p m) s j → pnd p m j (pA p (16 * m + i)) →
    pal p (16 * m + j) ∧ ∀ v, v ≠ pA p (16 * m + i) → pnd p m i v → pnd p m j v
/-- b is not needed behind -/
def pla (p : AP) (m i : Nat) : Prop := ¬ (i + 1 < pZ p m ∧ pnd p m (i + 1) (pB p (16 * m + i)))
def pho (p : AP) (m i : Nat) : Prop :=
  pO p (16 * m + i) = 1 ∧ pla p m i ∧ pA p (16 * m + i) ≠ pB p (16 * m + i) ∨
  pO p (16 * m + i) = 4 ∧ pla p m i ∧ pA p (16 * m + i) ≠ pB p (16 * m + i) ∧ pC p (16 * m + i) ≠ 2 ∨
  pO p (16 * m + i) = 11 ∧ (pla p m i ∨ pA p (16 * m + i) = pB p (16 * m + i)) ∧ pL p (pC p (16 * m + i)) = 0
def pPl (p : AP) (m i : Nat) (x : Int32) : Prop := (pln p m i → x = 1) ∧ (¬ pln p m i → pho p m i → x = 2) ∧ (¬ pln p m i → ¬ pho p m i → x = 0)
def pgn (p : AP) (m i v : Nat) : Prop :=
  v = pA p (16 * m + i) ∧ (pO p (16 * m + i) = 0 ∨ pO p (16 * m + i) = 1 ∨ pO p (16 * m + i) = 3 ∨ pO p (16 * m + i) = 8 ∨ pO p (16 * m + i) = 11) ∧ ¬ pln p m i
def pkl (p : AP) (m i v : Nat) : Prop := pho p m i ∧ v = pB p (16 * m + i) ∨ (pO p (16 * m + i) = 2 ∨ pln p m i) ∧ v = pA p (16 * m + i)
def pkp (p : AP) (m j v : Nat) : Prop := ad_kp (pZ p m) (pL p m = 0) (pnd p m) (pgn p m) (pkl p m) (psc p m) j v
/-- the arrays of what is found, for METHOD m -/
def pNS (p : AP) (m : Nat) (N : Nat → Int32) : Prop := ∀ i, i < pZ p m → ∀ v, v < 32 → (bt (N (16 * m + i)) v = true ↔ pnd p m i v)
def pPS (p : AP) (m : Nat) (P : Nat → Int32) : Prop := ∀ i, i < pZ p m → pPl p m i (P (16 * m + i))
def pKX (p : AP) (m : Nat) (K R : Nat → Int32) : Prop := ∀ i, i < pZ p m →
  (R (16 * m + i) = 0 ∨ R (16 * m + i) = 1) ∧ (R (16 * m + i) = 1 ↔ pkp p m i 6) ∧ ∀ v, v < 32 → (bt (K (16 * m + i)) v = true ↔ v < 6 ∧ pkp p m i v)
def pKY (p : AP) (m : Nat) (K : Nat → Int32) : Prop := ∀ i, i < pZ p m →
  (¬ pkp p m i 6 ∧ K (16 * m + i) = -1) ∨ (pkp p m i 6 ∧ ∀ v, v < 32 → (bt (K (16 * m + i)) v = true ↔ v < 6 ∧ pkp p m i v))
section
variable {p : AP} {m : Nat}
theorem pnd_6 (H : POK p) {i v : Nat} (h : pnd p m i v) : v < 6 := by
  refine h (fun _ => v < 6) (fun i h => ?_) (fun _ _ _ _ h => h)
  have hk := H.1 (16 * m + i)
  rcases h with ⟨_, h⟩ | ⟨_, h⟩ <;> omega
theorem pln_ho {i : Nat} (h : pln p m i) : ¬ pho p m i := by
  have h1 := h.1
  rintro (h2 | h2 | h2) <;> have h3 := h2.1 <;> omega
theorem pPl_1 {i : Nat} {x : Int32} (h : pPl p m i x) : x = 1 ↔ pln p m i := by
  constructor
  · intro e
    apply Classical.byContradiction
    intro n
    by_cases h2 : pho p m i
    · rw [h.2.1 n h2] at e; exact absurd e (by decide)
    · rw [h.2.2 n h2] at e; exact absurd e (by decide)
  · exact h.1
theorem pPl_2 {i : Nat} {x : Int32} (h : pPl p m i x) : x = 2 ↔ pho p m i := by
  constructor
  · intro e
    apply Classical.byContradiction
    intro n
    by_cases h2 : pln p m i
    · rw [h.1 h2] at e; exact absurd e (by decide)
    · rw [h.2.2 h2 n] at e; exact absurd e (by decide)
  · intro e
    exact h.2.1 (fun z => pln_ho z e) e
theorem pPl_u {i : Nat} {x y : Int32} (h : pPl p m i x) (h' : pPl p m i y) : x = y := by
  by_cases h1 : pln p m i
  · rw [h.1 h1, h'.1 h1]
  · by_cases h2 : pho p m i
    · rw [h.2.1 h1 h2, h'.2.1 h1 h2]
    · rw [h.2.2 h1 h2, h'.2.2 h1 h2]
theorem ad_iffb {a b : Bool} {P : Prop} (h : a = true ↔ P) (h' : b = true ↔ P) : a = b := by
  cases a <;> cases b <;> simp_all
theorem pNS_u {N N' : Nat → Int32} (h : pNS p m N) (h' : pNS p m N') {i : Nat} (hi : i < pZ p m) : N (16 * m + i) = N' (16 * m + i) :=
  b_ext (fun v hv => ad_iffb (h i hi v hv) (h' i hi v hv))
/-- the way that a loan has before it -/
def pLR (p : AP) (m v i : Nat) : Prop := ∀ j, ad_rg (fun x => pnd p m x v) (psc p m) i j → pnd p m j v → pal p (16 * m + j)
theorem pLR_0 {i s : Nat} (h : pln p m i) (hs : psc p m i s) : pLR p m (pA p (16 * m + i)) s :=
  fun j hj hn => (h.2.2.2 s j hs hj hn).1
theorem pLR_1 {v i s : Nat} (h : pLR p m v i) (hn : pnd p m i v) (hs : psc p m i s) : pLR p m v s :=
  fun j hj hv => h j (ad_rg_tr (ad_rg_st ad_rg_0 hn hs) hj) hv
theorem pLR_2 {v i : Nat} (h : pLR p m v i) (hn : pnd p m i v) : pal p (16 * m + i) := h i ad_rg_0 hn
end
