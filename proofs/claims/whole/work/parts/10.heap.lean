/-! the counts of references: given, variables, fields -/
def ac_V (h l : Nat → Int32) (d n : Nat) : Nat := ad_ct (fun v => decide (h v = nI n) && decide (l v = 0)) (6 * d)
def ac_F (f : Nat → Int32) (M n : Nat) : Nat := ad_ct (fun x => decide (f (3 * (x / 2 + 1) + x % 2) = nI n)) (2 * M)
def ac_N (g : Int32) (h l : Nat → Int32) (d : Nat) (f : Nat → Int32) (M n : Nat) : Nat := (if g = nI n then 1 else 0) + ac_V h l d n + ac_F f M n
theorem ac_N_le (g : Int32) (h l : Nat → Int32) (d : Nat) (f : Nat → Int32) (M n : Nat) : ac_N g h l d f M n ≤ 1 + 6 * d + 2 * M := by
  have h1 := ad_ct_le (fun v => decide (h v = nI n) && decide (l v = 0)) (6 * d)
  have h2 := ad_ct_le (fun x => decide (f (3 * (x / 2 + 1) + x % 2) = nI n)) (2 * M)
  unfold ac_N ac_V ac_F
  split <;> omega
theorem ac_if2 {a b : Prop} [Decidable a] [Decidable b] : (if (decide a && decide b) = true then 1 else 0 : Nat) = if a ∧ b then 1 else 0 := by
  by_cases h : a <;> by_cases h' : b <;> simp [h, h']
theorem ac_if1 {a : Prop} [Decidable a] : (if decide a = true then 1 else 0 : Nat) = if a then 1 else 0 := by
  by_cases h : a <;> simp [h]
theorem ac_V_upd {h l : Nat → Int32} {d v : Nat} (hv : v < 6 * d) (x y : Int32) (n : Nat) :
    ac_V (upd h v x) (upd l v y) d n + (if h v = nI n ∧ l v = 0 then 1 else 0) = ac_V h l d n + (if x = nI n ∧ y = 0 then 1 else 0) := by
  have e := ad_ct_one (p := fun w => decide (h w = nI n) && decide (l w = 0)) (q := fun w => decide (upd h v x w = nI n) && decide (upd l v y w = 0)) (x := v) (6 * d) hv
    (fun i _ hi => by show (decide (upd h v x i = nI n) && decide (upd l v y i = 0)) = _; rw [pk_un hi, pk_un hi])
  simp only [pk_us, ac_if2] at e
  exact e
theorem ac_V_congr {h l h' l' : Nat → Int32} {d n : Nat} (e : ∀ v, v < 6 * d → h' v = h v ∧ l' v = l v) : ac_V h' l' d n = ac_V h l d n :=
  ad_ct_congr _ (fun i hi => by rw [(e i hi).1, (e i hi).2])
theorem ac_F_upd {f : Nat → Int32} {M q j : Nat} (h1 : 1 ≤ q) (h2 : q ≤ M) (hj : j < 2) (x : Int32) (n : Nat) :
    ac_F (upd f (3 * q + j) x) M n + (if f (3 * q + j) = nI n then 1 else 0) = ac_F f M n + (if x = nI n then 1 else 0) := by
  have e := ad_ct_one (p := fun w => decide (f (3 * (w / 2 + 1) + w % 2) = nI n)) (q := fun w => decide (upd f (3 * q + j) x (3 * (w / 2 + 1) + w % 2) = nI n)) (x := 2 * (q - 1) + j) (2 * M) (by omega)
    (fun i _ hi => by show decide (upd f (3 * q + j) x _ = nI n) = _; rw [pk_un (by omega)])
  have ei : 3 * ((2 * (q - 1) + j) / 2 + 1) + (2 * (q - 1) + j) % 2 = 3 * q + j := by omega
  simp only [ei, pk_us, ac_if1] at e
  exact e
theorem ac_F_congr {f f' : Nat → Int32} {M n : Nat} (e : ∀ q j, 1 ≤ q → q ≤ M → j < 2 → f' (3 * q + j) = f (3 * q + j)) : ac_F f' M n = ac_F f M n :=
  ad_ct_congr _ (fun i hi => by
    have h := e (i / 2 + 1) (i % 2) (by omega) (by omega) (by omega)
    rw [h])
theorem ac_F_succ (f : Nat → Int32) (M n : Nat) : ac_F f (M + 1) n = ac_F f M n + (if f (3 * (M + 1)) = nI n then 1 else 0) + (if f (3 * (M + 1) + 1) = nI n then 1 else 0) := by
  have e : 2 * (M + 1) = 2 * M + 1 + 1 := by omega
  unfold ac_F
  rw [e, ad_ct_succ, ad_ct_succ]
  have e1 : 3 * (2 * M / 2 + 1) + 2 * M % 2 = 3 * (M + 1) := by omega
  have e2 : 3 * ((2 * M + 1) / 2 + 1) + (2 * M + 1) % 2 = 3 * (M + 1) + 1 := by omega
  simp only [e1, e2, ac_if1]
theorem ac_V_succ (h l : Nat → Int32) (d n : Nat) : ac_V h l (d + 1) n = ac_V h l d n + (if h (6 * d) = nI n ∧ l (6 * d) = 0 then 1 else 0) + (if h (6 * d + 1) = nI n ∧ l (6 * d + 1) = 0 then 1 else 0)
    + (if h (6 * d + 2) = nI n ∧ l (6 * d + 2) = 0 then 1 else 0) + (if h (6 * d + 3) = nI n ∧ l (6 * d + 3) = 0 then 1 else 0)
    + (if h (6 * d + 4) = nI n ∧ l (6 * d + 4) = 0 then 1 else 0) + (if h (6 * d + 5) = nI n ∧ l (6 * d + 5) = 0 then 1 else 0) := by
  have e : 6 * (d + 1) = 6 * d + 1 + 1 + 1 + 1 + 1 + 1 := by omega
  unfold ac_V
  rw [e, ad_ct_succ, ad_ct_succ, ad_ct_succ, ad_ct_succ, ad_ct_succ, ad_ct_succ]
  simp only [ac_if2, Nat.add_assoc]
theorem ac_V_pos {h l : Nat → Int32} {d v n : Nat} (hv : v < 6 * d) (e : h v = nI n) (e' : l v = 0) : 1 ≤ ac_V h l d n :=
  ad_ct_pos (p := fun v => decide (h v = nI n) && decide (l v = 0)) hv (by simp [e, e'])
theorem ac_F_pos {f : Nat → Int32} {M q j n : Nat} (h1 : 1 ≤ q) (h2 : q ≤ M) (hj : j < 2) (e : f (3 * q + j) = nI n) : 1 ≤ ac_F f M n := by
  have ei : 3 * ((2 * (q - 1) + j) / 2 + 1) + (2 * (q - 1) + j) % 2 = 3 * q + j := by omega
  exact ad_ct_pos (p := fun w => decide (f (3 * (w / 2 + 1) + w % 2) = nI n)) (x := 2 * (q - 1) + j) (by omega) (by show decide (f (3 * ((2 * (q - 1) + j) / 2 + 1) + (2 * (q - 1) + j) % 2) = nI n) = true; rw [ei, e]; exact decide_eq_true rfl)
/-! FIELDS 2 that hold n are emptied -/
def ac_cl (f : Nat → Int32) (M n : Nat) : Nat → Int32 := fun x => if x % 3 = 2 ∧ 3 ≤ x ∧ x < 3 * M + 3 ∧ f x = nI n then 0 else f x
theorem ac_cl_01 {f : Nat → Int32} {M n q j : Nat} (hj : j < 2) : ac_cl f M n (3 * q + j) = f (3 * q + j) :=
  if_neg (fun z => by have := z.1; omega)
theorem ac_cl_2 {f : Nat → Int32} {M n q : Nat} (h1 : 1 ≤ q) (h2 : q ≤ M) : ac_cl f M n (3 * q + 2) = if f (3 * q + 2) = nI n then 0 else f (3 * q + 2) := by
  unfold ac_cl
  by_cases e : f (3 * q + 2) = nI n
  · rw [if_pos ⟨by omega, by omega, by omega, e⟩, if_pos e]
  · rw [if_neg (fun z => e z.2.2.2), if_neg e]
theorem ac_cl_0 (f : Nat → Int32) (n : Nat) : ac_cl f 0 n = f := by
  funext x
  exact if_neg (fun z => by have := z.2; omega)
theorem ac_cl_ne (f : Nat → Int32) (M n : Nat) {x : Nat} (hx : x ≠ 3 * (M + 1) + 2) : ac_cl f (M + 1) n x = ac_cl f M n x := by
  unfold ac_cl
  by_cases c : x % 3 = 2 ∧ 3 ≤ x ∧ x < 3 * M + 3 ∧ f x = nI n
  · rw [if_pos c, if_pos ⟨c.1, c.2.1, by have := c.2.2.1; omega, c.2.2.2⟩]
  · rw [if_neg c, if_neg]
    rintro ⟨z1, z2, z3, z4⟩
    exact c ⟨z1, z2, by omega, z4⟩
theorem ac_cl_s (f : Nat → Int32) (M n : Nat) : ac_cl f (M + 1) n = if f (3 * (M + 1) + 2) = nI n then upd (ac_cl f M n) (3 * (M + 1) + 2) 0 else ac_cl f M n := by
  by_cases e : f (3 * (M + 1) + 2) = nI n
  · rw [if_pos e]
    funext x
    by_cases ex : x = 3 * (M + 1) + 2
    · subst ex
      rw [pk_us]
      exact if_pos ⟨by omega, by omega, by omega, e⟩
    · rw [pk_un ex, ac_cl_ne f M n ex]
  · rw [if_neg e]
    funext x
    by_cases ex : x = 3 * (M + 1) + 2
    · subst ex
      unfold ac_cl
      rw [if_neg (fun z => e z.2.2.2), if_neg (fun z => e z.2.2.2)]
    · exact ac_cl_ne f M n ex
/-! what holds of the objects: e is a reference that lies in no place yet (0: none), l the objects that end, with what is to be let go of them -/
def ac_ob (e : Nat) (l : List (Nat × Nat)) (cn : Nat → Nat) (al rf fX fY : Nat → Int32) (n : Nat) : Prop :=
  (al n = 1 ∧ rf n = nI (cn n + (if n = e then 1 else 0)) ∧ 1 ≤ cn n + (if n = e then 1 else 0) ∧ ∀ j, j < 3 → fX (3 * n + j) = fY (3 * n + j)) ∨
  (al n = 0 ∧ cn n + (if n = e then 1 else 0) = 0 ∧ ∀ j, j < 2 → fY (3 * n + j) ≠ 0 → ∃ q, (n, q) ∈ l ∧ q ≤ j)
def ac_wf (M : Nat) (al : Nat → Int32) : List (Nat × Nat) → Prop
  | [] => True
  | x :: l => (1 ≤ x.1 ∧ x.1 ≤ M ∧ al x.1 = 0 ∧ x.2 ≤ 2 ∧ ∀ y, y ∈ l → y.1 ≠ x.1) ∧ ac_wf M al l
def ac_MI (e : Nat) (l : List (Nat × Nat)) (g : Int32) (h lo : Nat → Int32) (d M : Nat) (al rf fX fY : Nat → Int32) (L E : Nat) : Prop :=
  (∀ n, 1 ≤ n → n ≤ M → ac_ob e l (ac_N g h lo d fY M) al rf fX fY n) ∧
  (∀ n, 1 ≤ n → n ≤ M → ∀ j, j < 3 → ∃ q, q ≤ M ∧ fY (3 * n + j) = nI q) ∧
  (∀ n, 1 ≤ n → n ≤ M → al n = 1 → ∀ q, 1 ≤ q → q ≤ M → fY (3 * n + 2) = nI q → al q = 1) ∧
  (∀ v, v < 6 * d → ∃ q, q ≤ M ∧ h v = nI q) ∧
  (∃ q, q ≤ M ∧ g = nI q) ∧ e ≤ M ∧
  (L = ad_ct (fun n => decide (al (n + 1) = 1)) M ∧ L + l.length ≤ 24 ∧ E + L = M ∧ M ≤ 300 ∧ d ≤ 6) ∧ ac_wf M al l
theorem ac_wf_al {M : Nat} {al al' : Nat → Int32} : ∀ l, ac_wf M al l → (∀ x, x ∈ l → al' x.1 = al x.1) → ac_wf M al' l := by
  intro l
  induction l with
  | nil => exact fun _ _ => True.intro
  | cons x l ih =>
    intro h e
    obtain ⟨⟨h1, h2, h3, h4, h5⟩, h6⟩ := h
    exact ⟨⟨h1, h2, (e x (List.mem_cons_self ..)).trans h3, h4, h5⟩, ih h6 (fun y hy => e y (List.mem_cons_of_mem _ hy))⟩
theorem ac_wf_mem {M : Nat} {al : Nat → Int32} : ∀ l, ac_wf M al l → ∀ x, x ∈ l → 1 ≤ x.1 ∧ x.1 ≤ M ∧ al x.1 = 0 := by
  intro l
  induction l with
  | nil => exact fun _ x hx => absurd hx (List.not_mem_nil)
  | cons x l ih =>
    intro h y hy
    obtain ⟨⟨h1, h2, h3, h4, h5⟩, h6⟩ := h
    rcases List.mem_cons.mp hy with e | hy
    · rw [e]; exact ⟨h1, h2, h3⟩
    · exact ih h6 y hy
section
variable {e : Nat} {l : List (Nat × Nat)} {g : Int32} {h lo : Nat → Int32} {d M : Nat} {al rf fX fY : Nat → Int32} {L E : Nat}
/-- what is in flight is alive -/
theorem ac_e_al (I : ac_MI e l g h lo d M al rf fX fY L E) (he : 1 ≤ e) : al e = 1 ∧ rf e = nI (ac_N g h lo d fY M e + 1) ∧ ∀ j, j < 3 → fX (3 * e + j) = fY (3 * e + j) := by
  rcases I.1 e he I.2.2.2.2.2.1 with ⟨a, b, c, f⟩ | ⟨a, b, c⟩
  · rw [if_pos rfl] at b
    exact ⟨a, b, f⟩
  · rw [if_pos rfl] at b
    omega
theorem ac_al01 (I : ac_MI e l g h lo d M al rf fX fY L E) {n : Nat} (h1 : 1 ≤ n) (h2 : n ≤ M) : al n = 0 ∨ al n = 1 := by
  rcases I.1 n h1 h2 with ⟨a, _⟩ | ⟨a, _⟩
  · exact Or.inr a
  · exact Or.inl a
/-- one less, and it does not end -/
theorem ac_dec (I : ac_MI e l g h lo d M al rf fX fY L E) (he : 1 ≤ e) (hc : 1 ≤ ac_N g h lo d fY M e) :
    ac_MI 0 l g h lo d M al (upd rf e (nI (ac_N g h lo d fY M e))) fX fY L E := by
  obtain ⟨I1, I2, I3, I4, I5, I6, I7, I8⟩ := I
  refine ⟨fun n h1 h2 => ?_, I2, I3, I4, I5, Nat.zero_le _, I7, I8⟩
  have hn0 : ¬ n = 0 := by omega
  rcases I1 n h1 h2 with ⟨a, b, c, f⟩ | ⟨a, b, c⟩
  · refine Or.inl ⟨a, ?_, ?_, f⟩
    · rw [if_neg hn0]
      by_cases en : n = e
      · subst en; rw [pk_us]; rfl
      · rw [pk_un en, b, if_neg en]
    · rw [if_neg hn0]
      by_cases en : n = e
      · subst en; exact hc
      · rw [if_neg en] at c; exact c
  · have en : ¬ n = e := fun z => by rw [if_pos z] at b; omega
    rw [if_neg en] at b
    exact Or.inr ⟨a, by rw [if_neg hn0]; exact b, c⟩
theorem ac_N_cl (n q : Nat) : ac_N g h lo d (ac_cl fY M q) M n = ac_N g h lo d fY M n := by
  unfold ac_N
  rw [ac_F_congr (f := fY) (f' := ac_cl fY M q) (fun q' j _ _ hj => ac_cl_01 hj)]
/-- one less, and it ends -/
theorem ac_end (I : ac_MI e l g h lo d M al rf fX fY L E) (he : 1 ≤ e) (hc : ac_N g h lo d fY M e = 0) (x : Int32) :
    1 ≤ L ∧ ac_MI 0 ((e, 0) :: l) g h lo d M (upd al e 0) (upd rf e x) (ac_cl fX M e) (ac_cl fY M e) (L - 1) (E + 1) := by
  obtain ⟨ae, _, fe⟩ := ac_e_al I he
  obtain ⟨I1, I2, I3, I4, I5, I6, ⟨I7, I8, I9, I10, I11⟩, I12⟩ := I
  have hL : ad_ct (fun n => decide (upd al e 0 (n + 1) = 1)) M + 1 = ad_ct (fun n => decide (al (n + 1) = 1)) M := by
    have e1 := ad_ct_one (p := fun n => decide (al (n + 1) = 1)) (q := fun n => decide (upd al e 0 (n + 1) = 1)) (x := e - 1) M (by omega)
      (fun i _ hi => by show decide (upd al e 0 (i + 1) = 1) = _; rw [pk_un (by omega)])
    have e2 : e - 1 + 1 = e := by omega
    simp only [e2, pk_us, ae, ac_if1] at e1
    exact e1
  refine ⟨by omega, fun n h1 h2 => ?_, fun n h1 h2 j hj => ?_, fun n h1 h2 ha q q1 q2 eq => ?_, I4, I5, Nat.zero_le _, ⟨by omega, ?_, by omega, I10, I11⟩, ?_⟩
  · have hn0 : ¬ n = 0 := by omega
    by_cases en : n = e
    · subst en
      exact Or.inr ⟨pk_us, by rw [if_neg hn0, ac_N_cl, hc], fun j _ _ => ⟨0, List.mem_cons_self .., Nat.zero_le _⟩⟩
    · rcases I1 n h1 h2 with ⟨a, b, c, f⟩ | ⟨a, b, c⟩
      · rw [if_neg en] at b c
        refine Or.inl ⟨by rw [pk_un en]; exact a, by rw [pk_un en, if_neg hn0, ac_N_cl]; exact b, by rw [if_neg hn0, ac_N_cl]; exact c, fun j hj => ?_⟩
        by_cases j2 : j < 2
        · rw [ac_cl_01 j2, ac_cl_01 j2]; exact f j hj
        · have ej : j = 2 := by omega
          subst ej
          rw [ac_cl_2 h1 h2, ac_cl_2 h1 h2, f 2 hj]
      · rw [if_neg en] at b
        refine Or.inr ⟨by rw [pk_un en]; exact a, by rw [if_neg hn0, ac_N_cl]; exact b, fun j hj hz => ?_⟩
        rw [ac_cl_01 hj] at hz
        obtain ⟨q, hq, hq'⟩ := c j hj hz
        exact ⟨q, List.mem_cons_of_mem _ hq, hq'⟩
  · by_cases j2 : j < 2
    · rw [ac_cl_01 j2]; exact I2 n h1 h2 j hj
    · have ej : j = 2 := by omega
      subst ej
      rw [ac_cl_2 h1 h2]
      split
      · exact ⟨0, Nat.zero_le _, rfl⟩
      · exact I2 n h1 h2 2 hj
  · have en : n ≠ e := fun z => by rw [z, pk_us] at ha; exact absurd ha (by decide)
    rw [pk_un en] at ha
    rw [ac_cl_2 h1 h2] at eq
    have eq0 : ¬ (0 : Int32) = nI q := fun z => nI_ne0 q1 (by omega) z.symm
    by_cases ez : fY (3 * n + 2) = nI e
    · rw [if_pos ez] at eq; exact absurd eq eq0
    · rw [if_neg ez] at eq
      have qe : q ≠ e := fun z => ez (by rw [← z]; exact eq)
      rw [pk_un qe]
      exact I3 n h1 h2 ha q q1 q2 eq
  · show L - 1 + (l.length + 1) ≤ 24
    omega
  · refine ⟨⟨he, I6, pk_us, Nat.zero_le _, fun y hy z => ?_⟩, ac_wf_al l I12 (fun y hy => pk_un (fun z => ?_))⟩
    · have := (ac_wf_mem l I12 y hy).2.2
      rw [z, ae] at this; exact absurd this (by decide)
    · have := (ac_wf_mem l I12 y hy).2.2
      rw [z, ae] at this; exact absurd this (by decide)
end
theorem ac_N_fupd {f : Nat → Int32} {g : Int32} {h lo : Nat → Int32} {d M q j y n : Nat} (h1 : 1 ≤ q) (h2 : q ≤ M) (hj : j < 2) (hM : M ≤ 300) (hy : y ≤ M) (e : f (3 * q + j) = nI y) (x : Nat) (hx : x ≤ M) (n1 : 1 ≤ n) (n2 : n ≤ M) :
    ac_N g h lo d (upd f (3 * q + j) (nI x)) M n + (if n = y then 1 else 0) = ac_N g h lo d f M n + (if n = x then 1 else 0) := by
  have e1 := ac_F_upd (f := f) h1 h2 hj (nI x) n
  rw [e] at e1
  have a : (nI y = nI n) = (n = y) := propext ((nI_eq (by omega) (by omega)).trans ⟨Eq.symm, Eq.symm⟩)
  have b : (nI x = nI n) = (n = x) := propext ((nI_eq (by omega) (by omega)).trans ⟨Eq.symm, Eq.symm⟩)
  simp only [a, b] at e1
  unfold ac_N
  omega
section
variable {e : Nat} {l : List (Nat × Nat)} {g : Int32} {h lo : Nat → Int32} {d M : Nat} {al rf fX fY : Nat → Int32} {L E : Nat}
/-- the next field of an object that ends -/
theorem ac_nxt {q p y : Nat} (I : ac_MI 0 ((q, p) :: l) g h lo d M al rf fX fY L E) (hp : p < 2) (ey : fY (3 * q + p) = nI y) (hy : y ≤ M) :
    ac_MI y ((q, p + 1) :: l) g h lo d M al rf fX (upd fY (3 * q + p) 0) L E := by
  obtain ⟨I1, I2, I3, I4, I5, I6, ⟨I7, I8, I9, I10, I11⟩, ⟨⟨W1, W2, W3, W4, W5⟩, W6⟩⟩ := I
  dsimp only at W1 W2 W3 W4 W5
  have cn : ∀ n, 1 ≤ n → n ≤ M → ac_N g h lo d (upd fY (3 * q + p) 0) M n + (if n = y then 1 else 0) = ac_N g h lo d fY M n := by
    intro n h1 h2
    have := ac_N_fupd (g := g) (h := h) (lo := lo) (d := d) W1 W2 hp I10 hy ey 0 (Nat.zero_le _) h1 h2
    rw [if_neg (show ¬ n = 0 by omega)] at this
    exact this
  refine ⟨fun n h1 h2 => ?_, fun n h1 h2 j hj => ?_, fun n h1 h2 ha r r1 r2 er => ?_, I4, I5, hy, ⟨I7, I8, I9, I10, I11⟩, ⟨⟨W1, W2, W3, by show p + 1 ≤ 2; omega, W5⟩, W6⟩⟩
  · have hn0 : ¬ n = 0 := by omega
    rcases I1 n h1 h2 with ⟨a, b, c, f⟩ | ⟨a, b, c⟩
    · rw [if_neg hn0] at b c
      have nq : n ≠ q := fun z => by rw [z, W3] at a; exact absurd a (by decide)
      refine Or.inl ⟨a, by rw [cn n h1 h2]; exact b, by rw [cn n h1 h2]; exact c, fun j hj => ?_⟩
      rw [pk_un (by omega)]
      exact f j hj
    · rw [if_neg hn0] at b
      refine Or.inr ⟨a, by rw [cn n h1 h2]; exact b, fun j hj hz => ?_⟩
      by_cases ex : 3 * n + j = 3 * q + p
      · rw [ex, pk_us] at hz; exact absurd rfl hz
      · rw [pk_un ex] at hz
        obtain ⟨r, hr, hr'⟩ := c j hj hz
        rcases List.mem_cons.mp hr with z | z
        · have z1 : n = q := congrArg Prod.fst z
          have z2 : r = p := congrArg Prod.snd z
          subst z1
          exact ⟨p + 1, List.mem_cons_self .., by omega⟩
        · exact ⟨r, List.mem_cons_of_mem _ z, hr'⟩
  · by_cases ex : 3 * n + j = 3 * q + p
    · rw [ex, pk_us]; exact ⟨0, Nat.zero_le _, rfl⟩
    · rw [pk_un ex]; exact I2 n h1 h2 j hj
  · rw [pk_un (by omega)] at er
    exact I3 n h1 h2 ha r r1 r2 er
theorem ac_pop {q : Nat} (I : ac_MI 0 ((q, 2) :: l) g h lo d M al rf fX fY L E) : ac_MI 0 l g h lo d M al rf fX fY L E := by
  obtain ⟨I1, I2, I3, I4, I5, I6, ⟨I7, I8, I9, I10, I11⟩, ⟨_, W6⟩⟩ := I
  have I8' : L + (l.length + 1) ≤ 24 := I8
  refine ⟨fun n h1 h2 => ?_, I2, I3, I4, I5, I6, ⟨I7, by omega, I9, I10, I11⟩, W6⟩
  rcases I1 n h1 h2 with a | ⟨a, b, c⟩
  · exact Or.inl a
  · refine Or.inr ⟨a, b, fun j hj hz => ?_⟩
    obtain ⟨r, hr, hr'⟩ := c j hj hz
    rcases List.mem_cons.mp hr with z | z
    · have z2 : r = 2 := congrArg Prod.snd z
      omega
    · exact ⟨r, z, hr'⟩
end
/-! the two stacks -/
def ac_td (td ph : Nat → Int32) : List (Nat × Nat) → Prop
  | [] => True
  | x :: l => (td l.length = nI x.1 ∧ ph l.length = nI x.2) ∧ ac_td td ph l
def ac_pe (pe : Nat → Int32) : List Int32 → Prop
  | [] => True
  | x :: l => pe l.length = x ∧ ac_pe pe l
def ac_rm (f : Nat → Int32) : List (Nat × Nat) → List Int32
  | [] => []
  | x :: l => match x.2 with
    | 0 => f (3 * x.1) :: f (3 * x.1 + 1) :: ac_rm f l
    | 1 => f (3 * x.1 + 1) :: ac_rm f l
    | _ => ac_rm f l
theorem ac_td_u {td ph : Nat → Int32} {k k' : Nat} {x y : Int32} : ∀ l, ac_td td ph l → l.length ≤ k → l.length ≤ k' → ac_td (upd td k x) (upd ph k' y) l := by
  intro l
  induction l with
  | nil => exact fun _ _ _ => True.intro
  | cons a l ih =>
    intro h hk hk'
    have hk1 : l.length + 1 ≤ k := hk
    have hk2 : l.length + 1 ≤ k' := hk'
    exact ⟨⟨by rw [pk_un (by omega)]; exact h.1.1, by rw [pk_un (by omega)]; exact h.1.2⟩, ih h.2 (by omega) (by omega)⟩
theorem ac_td_up {td ph : Nat → Int32} {k' : Nat} {y : Int32} : ∀ l, ac_td td ph l → l.length ≤ k' → ac_td td (upd ph k' y) l := by
  intro l
  induction l with
  | nil => exact fun _ _ => True.intro
  | cons a l ih =>
    intro h hk'
    have hk2 : l.length + 1 ≤ k' := hk'
    exact ⟨⟨h.1.1, by rw [pk_un (by omega)]; exact h.1.2⟩, ih h.2 (by omega)⟩
theorem ac_pe_u {pe : Nat → Int32} {k : Nat} {x : Int32} : ∀ l, ac_pe pe l → l.length ≤ k → ac_pe (upd pe k x) l := by
  intro l
  induction l with
  | nil => exact fun _ _ => True.intro
  | cons a l ih =>
    intro h hk
    have hk1 : l.length + 1 ≤ k := hk
    exact ⟨by rw [pk_un (by omega)]; exact h.1, ih h.2 (by omega)⟩
theorem ac_rm_congr {f f' : Nat → Int32} : ∀ l : List (Nat × Nat), (∀ x, x ∈ l → ∀ j, j < 2 → f' (3 * x.1 + j) = f (3 * x.1 + j)) → ac_rm f' l = ac_rm f l := by
  intro l
  induction l with
  | nil => exact fun _ => rfl
  | cons a l ih =>
    intro h
    have h0 := h a (List.mem_cons_self ..) 0 (by decide)
    have h1 := h a (List.mem_cons_self ..) 1 (by decide)
    have h2 := ih (fun x hx => h x (List.mem_cons_of_mem _ hx))
    obtain ⟨q, p⟩ := a
    rcases p with _ | _ | p
    · show f' (3 * q) :: f' (3 * q + 1) :: ac_rm f' l = _
      rw [h2]
      show f' (3 * q + 0) :: f' (3 * q + 1) :: _ = _
      rw [h0, h1]; rfl
    · show f' (3 * q + 1) :: ac_rm f' l = _
      rw [h2, h1]; rfl
    · exact h2
theorem ac_rm_len (f : Nat → Int32) : ∀ l, (ac_rm f l).length ≤ 2 * l.length := by
  intro l
  induction l with
  | nil => exact Nat.le_refl 0
  | cons a l ih =>
    obtain ⟨q, p⟩ := a
    rcases p with _ | _ | p
    · show (ac_rm f l).length + 1 + 1 ≤ 2 * (l.length + 1); omega
    · show (ac_rm f l).length + 1 ≤ 2 * (l.length + 1); omega
    · show (ac_rm f l).length ≤ 2 * (l.length + 1); omega
/-- what is left to do of the objects that end -/
def ac_mu : List (Nat × Nat) → Nat
  | [] => 0
  | x :: l => (3 - x.2) + ac_mu l
