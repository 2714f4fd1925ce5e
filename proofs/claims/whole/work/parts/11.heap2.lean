section
variable {e : Nat} {l : List (Nat × Nat)} {g : Int32} {h lo : Nat → Int32} {d M : Nat} {al rf fX fY : Nat → Int32} {L E : Nat}
theorem ac_tr (I : ac_MI e [] g h lo d M al rf fX fY L E) {e' : Nat} {g' : Int32} {h' lo' : Nat → Int32} {d' : Nat}
    (hN : ∀ n, 1 ≤ n → n ≤ M → ac_N g' h' lo' d' fY M n + (if n = e' then 1 else 0) = ac_N g h lo d fY M n + (if n = e then 1 else 0))
    (hh : ∀ v, v < 6 * d' → ∃ q, q ≤ M ∧ h' v = nI q) (hg : ∃ q, q ≤ M ∧ g' = nI q) (he : e' ≤ M) (hd : d' ≤ 6) :
    ac_MI e' [] g' h' lo' d' M al rf fX fY L E := by
  obtain ⟨I1, I2, I3, I4, I5, I6, ⟨I7, I8, I9, I10, I11⟩, I12⟩ := I
  refine ⟨fun n h1 h2 => ?_, I2, I3, hh, hg, he, ⟨I7, I8, I9, I10, hd⟩, I12⟩
  rcases I1 n h1 h2 with ⟨a, b, c, f⟩ | ⟨a, b, c⟩
  · exact Or.inl ⟨a, by rw [hN n h1 h2]; exact b, by rw [hN n h1 h2]; exact c, f⟩
  · exact Or.inr ⟨a, by rw [hN n h1 h2]; exact b, c⟩
/-- counted, hence alive -/
theorem ac_alive (I : ac_MI e l g h lo d M al rf fX fY L E) {n : Nat} (h1 : 1 ≤ n) (h2 : n ≤ M) (hc : 1 ≤ ac_N g h lo d fY M n) : al n = 1 := by
  rcases I.1 n h1 h2 with ⟨a, _⟩ | ⟨a, b, c⟩
  · exact a
  · omega
theorem ac_al_V (I : ac_MI e l g h lo d M al rf fX fY L E) {v n : Nat} (h1 : 1 ≤ n) (h2 : n ≤ M) (hv : v < 6 * d) (eh : h v = nI n) (el : lo v = 0) : al n = 1 :=
  ac_alive I h1 h2 (by have := ac_V_pos hv eh el; unfold ac_N; omega)
theorem ac_al_F (I : ac_MI e l g h lo d M al rf fX fY L E) {q j n : Nat} (h1 : 1 ≤ n) (h2 : n ≤ M) (q1 : 1 ≤ q) (q2 : q ≤ M) (hj : j < 2) (ef : fY (3 * q + j) = nI n) : al n = 1 :=
  ac_alive I h1 h2 (by have := ac_F_pos q1 q2 hj ef; unfold ac_N; omega)
theorem ac_fld (I : ac_MI e l g h lo d M al rf fX fY L E) {n j : Nat} (h1 : 1 ≤ n) (h2 : n ≤ M) (ha : al n = 1) (hj : j < 3) : fX (3 * n + j) = fY (3 * n + j) := by
  rcases I.1 n h1 h2 with ⟨a, b, c, f⟩ | ⟨a, b, c⟩
  · exact f j hj
  · rw [a] at ha; exact absurd ha (by decide)
theorem ac_rf (I : ac_MI 0 l g h lo d M al rf fX fY L E) {n : Nat} (h1 : 1 ≤ n) (h2 : n ≤ M) (ha : al n = 1) : rf n = nI (ac_N g h lo d fY M n) ∧ 1 ≤ ac_N g h lo d fY M n := by
  rcases I.1 n h1 h2 with ⟨a, b, c, f⟩ | ⟨a, b, c⟩
  · rw [if_neg (by omega)] at b c
    exact ⟨b, c⟩
  · rw [a] at ha; exact absurd ha (by decide)
/-- a field of what is alive holds nothing, or what is alive -/
theorem ac_al_F3 (I : ac_MI e l g h lo d M al rf fX fY L E) {q j n : Nat} (h1 : 1 ≤ n) (h2 : n ≤ M) (q1 : 1 ≤ q) (q2 : q ≤ M) (ha : al q = 1) (hj : j < 3) (ef : fY (3 * q + j) = nI n) : al n = 1 := by
  by_cases j2 : j < 2
  · exact ac_al_F I h1 h2 q1 q2 j2 ef
  · have ej : j = 2 := by omega
    subst ej
    exact I.2.2.1 q q1 q2 ha n h1 h2 ef
theorem ac_ifn {M n q : Nat} (hM : M ≤ 300) (h2 : n ≤ M) (hq : q ≤ M) : (nI q = nI n) = (n = q) := propext ((nI_eq (by omega) (by omega)).trans ⟨Eq.symm, Eq.symm⟩)
theorem ac_ife {n q : Nat} (c : Prop) [Decidable c] (h1 : 1 ≤ n) : (if n = (if c then q else 0) then 1 else 0 : Nat) = if n = q ∧ c then 1 else 0 := by
  by_cases h : c
  · rw [if_pos h]
    by_cases e : n = q
    · rw [if_pos e, if_pos ⟨e, h⟩]
    · rw [if_neg e, if_neg (fun z => e z.1)]
  · rw [if_neg h, if_neg (show ¬ n = 0 by omega), if_neg (fun z => h z.2)]
/-- a variable gets x (counted, in flight, or lent): what was there is in flight then -/
theorem ac_store {v x q : Nat} (y : Int32) (I : ac_MI (if y = 0 then x else 0) [] g h lo d M al rf fX fY L E) (hv : v < 6 * d) (hx : x ≤ M) (eq : h v = nI q) (hq : q ≤ M) :
    ac_MI (if lo v = 0 then q else 0) [] g (upd h v (nI x)) (upd lo v y) d M al rf fX fY L E := by
  obtain ⟨I1, I2, I3, I4, I5, I6, ⟨I7, I8, I9, I10, I11⟩, I12⟩ := id I
  refine ac_tr I (fun n h1 h2 => ?_) (fun w hw => ?_) I5 (by split <;> omega) I11
  · have e1 := ac_V_upd (h := h) (l := lo) hv (nI x) y n
    rw [eq] at e1
    simp only [ac_ifn I10 h2 hq, ac_ifn I10 h2 hx] at e1
    rw [ac_ife (lo v = 0) h1, ac_ife (y = 0) h1]
    unfold ac_N
    omega
  · by_cases ew : w = v
    · subst ew; rw [pk_us]; exact ⟨x, hx, rfl⟩
    · rw [pk_un ew]; exact I4 w hw
/-- handed over: what b held is in flight -/
theorem ac_hand {b q : Nat} (I : ac_MI 0 [] g h lo d M al rf fX fY L E) (hb : b < 6 * d) (eq : h b = nI q) (hq : q ≤ M) (el : lo b = 0) :
    ac_MI q [] g (upd h b 0) lo d M al rf fX fY L E := by
  have := ac_store (x := 0) (0 : Int32) (I := by rw [if_pos rfl]; exact I) hb (Nat.zero_le _) eq hq
  rw [if_pos el, ad_updS lo b 0 el] at this
  exact this
/-- one counted reference more, in flight -/
theorem ac_up {n : Nat} (I : ac_MI 0 [] g h lo d M al rf fX fY L E) (h1 : 1 ≤ n) (h2 : n ≤ M) (ha : al n = 1) :
    ac_MI n [] g h lo d M al (upd rf n (rf n + 1)) fX fY L E := by
  obtain ⟨I1, I2, I3, I4, I5, I6, I7, I8⟩ := I
  refine ⟨fun k k1 k2 => ?_, I2, I3, I4, I5, h2, I7, I8⟩
  have k0 : ¬ k = 0 := by omega
  rcases I1 k k1 k2 with ⟨a, b, c, f⟩ | ⟨a, b, c⟩
  · rw [if_neg k0] at b c
    refine Or.inl ⟨a, ?_, by omega, f⟩
    by_cases ek : k = n
    · subst ek; rw [pk_us, if_pos rfl, b, nI_1]
    · rw [pk_un ek, if_neg ek]; exact b
  · rw [if_neg k0] at b
    have ek : ¬ k = n := fun z => by rw [z, ha] at a; exact absurd a (by decide)
    exact Or.inr ⟨a, by rw [if_neg ek]; exact b, c⟩
/-- field j < 2 of q gets x (in flight): what was there is in flight then -/
theorem ac_put {q j x y : Nat} (I : ac_MI x [] g h lo d M al rf fX fY L E) (q1 : 1 ≤ q) (q2 : q ≤ M) (hq : al q = 1) (hj : j < 2) (hx : x ≤ M) (ey : fY (3 * q + j) = nI y) (hy : y ≤ M) :
    ac_MI y [] g h lo d M al rf (upd fX (3 * q + j) (nI x)) (upd fY (3 * q + j) (nI x)) L E := by
  obtain ⟨I1, I2, I3, I4, I5, I6, ⟨I7, I8, I9, I10, I11⟩, I12⟩ := I
  have hN : ∀ n, 1 ≤ n → n ≤ M → ac_N g h lo d (upd fY (3 * q + j) (nI x)) M n + (if n = y then 1 else 0) = ac_N g h lo d fY M n + (if n = x then 1 else 0) :=
    fun n h1 h2 => ac_N_fupd q1 q2 hj I10 hy ey x hx h1 h2
  refine ⟨fun n h1 h2 => ?_, fun n h1 h2 i hi => ?_, fun n h1 h2 ha r r1 r2 er => ?_, I4, I5, hy, ⟨I7, I8, I9, I10, I11⟩, I12⟩
  · rcases I1 n h1 h2 with ⟨a, b, c, f⟩ | ⟨a, b, c⟩
    · refine Or.inl ⟨a, by rw [hN n h1 h2]; exact b, by rw [hN n h1 h2]; exact c, fun i hi => ?_⟩
      by_cases ei : 3 * n + i = 3 * q + j
      · rw [ei, pk_us, pk_us]
      · rw [pk_un ei, pk_un ei]; exact f i hi
    · have nq : n ≠ q := fun z => by rw [z, hq] at a; exact absurd a (by decide)
      refine Or.inr ⟨a, by rw [hN n h1 h2]; exact b, fun i hi hz => ?_⟩
      rw [pk_un (by omega)] at hz
      exact c i hi hz
  · by_cases ei : 3 * n + i = 3 * q + j
    · rw [ei, pk_us]; exact ⟨x, hx, rfl⟩
    · rw [pk_un ei]; exact I2 n h1 h2 i hi
  · rw [pk_un (by omega)] at er
    exact I3 n h1 h2 ha r r1 r2 er
/-- FIELD 2 of q gets x -/
theorem ac_put2 {q x : Nat} (I : ac_MI e [] g h lo d M al rf fX fY L E) (q1 : 1 ≤ q) (q2 : q ≤ M) (hq : al q = 1) (hx : x ≤ M) (ax : 1 ≤ x → al x = 1) :
    ac_MI e [] g h lo d M al rf (upd fX (3 * q + 2) (nI x)) (upd fY (3 * q + 2) (nI x)) L E := by
  obtain ⟨I1, I2, I3, I4, I5, I6, ⟨I7, I8, I9, I10, I11⟩, I12⟩ := I
  have hN : ∀ n, ac_N g h lo d (upd fY (3 * q + 2) (nI x)) M n = ac_N g h lo d fY M n := fun n => by
    unfold ac_N
    rw [ac_F_congr (f := fY) (fun q' j _ _ hj => pk_un (by omega))]
  refine ⟨fun n h1 h2 => ?_, fun n h1 h2 i hi => ?_, fun n h1 h2 ha r r1 r2 er => ?_, I4, I5, I6, ⟨I7, I8, I9, I10, I11⟩, I12⟩
  · rcases I1 n h1 h2 with ⟨a, b, c, f⟩ | ⟨a, b, c⟩
    · refine Or.inl ⟨a, by rw [hN]; exact b, by rw [hN]; exact c, fun i hi => ?_⟩
      by_cases ei : 3 * n + i = 3 * q + 2
      · rw [ei, pk_us, pk_us]
      · rw [pk_un ei, pk_un ei]; exact f i hi
    · refine Or.inr ⟨a, by rw [hN]; exact b, fun i hi hz => ?_⟩
      rw [pk_un (by omega)] at hz
      exact c i hi hz
  · by_cases ei : 3 * n + i = 3 * q + 2
    · rw [ei, pk_us]; exact ⟨x, hx, rfl⟩
    · rw [pk_un ei]; exact I2 n h1 h2 i hi
  · by_cases en : n = q
    · subst en
      rw [pk_us] at er
      have : x = r := (nI_eq (by omega) (by omega)).mp er
      subst this
      exact ax r1
    · rw [pk_un (by omega)] at er
      exact I3 n h1 h2 ha r r1 r2 er
/-- a field j < 2 of q, empty yet, gets x, counted -/
theorem ac_put0 {q j x : Nat} (I : ac_MI e [] g h lo d M al rf fX fY L E) (q1 : 1 ≤ q) (q2 : q ≤ M) (hq : al q = 1) (hj : j < 2) (x1 : 1 ≤ x) (hx : x ≤ M) (ax : al x = 1) (ey : fY (3 * q + j) = 0) :
    ac_MI e [] g h lo d M al (upd rf x (rf x + 1)) (upd fX (3 * q + j) (nI x)) (upd fY (3 * q + j) (nI x)) L E := by
  obtain ⟨I1, I2, I3, I4, I5, I6, ⟨I7, I8, I9, I10, I11⟩, I12⟩ := I
  have hN : ∀ n, 1 ≤ n → n ≤ M → ac_N g h lo d (upd fY (3 * q + j) (nI x)) M n = ac_N g h lo d fY M n + (if n = x then 1 else 0) := by
    intro n h1 h2
    have := ac_N_fupd (g := g) (h := h) (lo := lo) (d := d) q1 q2 hj I10 (Nat.zero_le M) (y := 0) ey x hx h1 h2
    rw [if_neg (show ¬ n = 0 by omega)] at this
    exact this
  refine ⟨fun n h1 h2 => ?_, fun n h1 h2 i hi => ?_, fun n h1 h2 ha r r1 r2 er => ?_, I4, I5, I6, ⟨I7, I8, I9, I10, I11⟩, I12⟩
  · rcases I1 n h1 h2 with ⟨a, b, c, f⟩ | ⟨a, b, c⟩
    · refine Or.inl ⟨a, ?_, by rw [hN n h1 h2]; omega, fun i hi => ?_⟩
      · rw [hN n h1 h2]
        by_cases en : n = x
        · subst en
          rw [pk_us, b, if_pos rfl, nI_1]
          exact congrArg nI (by omega)
        · rw [pk_un en, b, if_neg en]; rfl
      · by_cases ei : 3 * n + i = 3 * q + j
        · rw [ei, pk_us, pk_us]
        · rw [pk_un ei, pk_un ei]; exact f i hi
    · have nx : ¬ n = x := fun z => by rw [z, ax] at a; exact absurd a (by decide)
      have nq : n ≠ q := fun z => by rw [z, hq] at a; exact absurd a (by decide)
      refine Or.inr ⟨a, by rw [hN n h1 h2, if_neg nx]; omega, fun i hi hz => ?_⟩
      rw [pk_un (by omega)] at hz
      exact c i hi hz
  · by_cases ei : 3 * n + i = 3 * q + j
    · rw [ei, pk_us]; exact ⟨x, hx, rfl⟩
    · rw [pk_un ei]; exact I2 n h1 h2 i hi
  · rw [pk_un (by omega)] at er
    exact I3 n h1 h2 ha r r1 r2 er
/-- a new object, in flight -/
theorem ac_new (I : ac_MI 0 [] g h lo d M al rf fX fY L E) (hL : L < 24) (hM : M < 300) (fX' fY' : Nat → Int32)
    (hX : ∀ x, x < 3 * (M + 1) → fX' x = fX x) (hY : ∀ x, x < 3 * (M + 1) → fY' x = fY x) (zX : ∀ j, j < 3 → fX' (3 * (M + 1) + j) = 0) (zY : ∀ j, j < 3 → fY' (3 * (M + 1) + j) = 0) :
    ac_MI (M + 1) [] g h lo d (M + 1) (upd al (M + 1) 1) (upd rf (M + 1) 1) fX' fY' (L + 1) E := by
  obtain ⟨I1, I2, I3, I4, I5, I6, ⟨I7, I8, I9, I10, I11⟩, I12⟩ := I
  have z0 : ∀ n, 1 ≤ n → n ≤ 300 → ¬ (0 : Int32) = nI n := fun n h1 h2 z => nI_ne0 h1 (by omega) z.symm
  have hF : ∀ n, ac_F fY' M n = ac_F fY M n := fun n => ac_F_congr (fun q j q1 q2 hj => hY _ (by omega))
  have hN : ∀ n, 1 ≤ n → n ≤ M + 1 → ac_N g h lo d fY' (M + 1) n = ac_N g h lo d fY M n := by
    intro n h1 h2
    have a := zY 0 (by decide)
    have b := zY 1 (by decide)
    rw [Nat.add_zero] at a
    unfold ac_N
    rw [ac_F_succ, hF, a, b, if_neg (z0 n h1 (by omega))]
    omega
  have hN1 : ac_N g h lo d fY M (M + 1) = 0 := by
    obtain ⟨q, hq, eg⟩ := I5
    have a : ac_V h lo d (M + 1) = 0 := ad_ct_none _ (fun v hv => by
      obtain ⟨q, hq, eq⟩ := I4 v hv
      have : ¬ h v = nI (M + 1) := by rw [eq, nI_eq (by omega) (by omega)]; omega
      simp [this])
    have b : ac_F fY M (M + 1) = 0 := ad_ct_none _ (fun x hx => by
      obtain ⟨q, hq, eq⟩ := I2 (x / 2 + 1) (by omega) (by omega) (x % 2) (by omega)
      have : ¬ fY (3 * (x / 2 + 1) + x % 2) = nI (M + 1) := by rw [eq, nI_eq (by omega) (by omega)]; omega
      simp [this])
    unfold ac_N
    rw [a, b, eg, if_neg (by rw [nI_eq (by omega) (by omega)]; omega)]
  have hLn : ad_ct (fun n => decide (upd al (M + 1) 1 (n + 1) = 1)) (M + 1) = L + 1 := by
    rw [ad_ct_succ, pk_us, if_pos (by decide), ad_ct_congr (q := fun n => decide (al (n + 1) = 1)) M (fun i hi => by rw [pk_un (by omega)]), ← I7]
  refine ⟨fun n h1 h2 => ?_, fun n h1 h2 j hj => ?_, fun n h1 h2 ha q q1 q2 eq => ?_, fun v hv => ?_, ?_, Nat.le_refl _, ⟨hLn.symm, ?_, by omega, by omega, I11⟩, True.intro⟩
  · rw [show ac_ob (M + 1) [] (ac_N g h lo d fY' (M + 1)) (upd al (M + 1) 1) (upd rf (M + 1) 1) fX' fY' n = ((upd al (M + 1) 1 n = 1 ∧ upd rf (M + 1) 1 n = nI (ac_N g h lo d fY' (M + 1) n + (if n = M + 1 then 1 else 0)) ∧ 1 ≤ ac_N g h lo d fY' (M + 1) n + (if n = M + 1 then 1 else 0) ∧ ∀ j, j < 3 → fX' (3 * n + j) = fY' (3 * n + j)) ∨
      (upd al (M + 1) 1 n = 0 ∧ ac_N g h lo d fY' (M + 1) n + (if n = M + 1 then 1 else 0) = 0 ∧ ∀ j, j < 2 → fY' (3 * n + j) ≠ 0 → ∃ q, (n, q) ∈ ([] : List (Nat × Nat)) ∧ q ≤ j)) from rfl, hN n h1 h2]
    by_cases en : n = M + 1
    · subst en
      rw [pk_us, pk_us, hN1, if_pos rfl]
      exact Or.inl ⟨rfl, rfl, Nat.le_refl _, fun j hj => by rw [zX j hj, zY j hj]⟩
    · rw [pk_un en, pk_un en, if_neg en]
      rcases I1 n h1 (by omega) with ⟨a, b, c, f⟩ | ⟨a, b, c⟩
      · rw [if_neg (by omega)] at b c
        exact Or.inl ⟨a, b, c, fun j hj => by rw [hX _ (by omega), hY _ (by omega)]; exact f j hj⟩
      · rw [if_neg (by omega)] at b
        exact Or.inr ⟨a, b, fun j hj hz => c j hj (by rw [hY _ (by omega)] at hz; exact hz)⟩
  · by_cases en : n = M + 1
    · subst en; rw [zY j hj]; exact ⟨0, Nat.zero_le _, rfl⟩
    · rw [hY _ (by omega)]
      obtain ⟨q, hq, eq⟩ := I2 n h1 (by omega) j hj
      exact ⟨q, by omega, eq⟩
  · by_cases en : n = M + 1
    · subst en
      rw [zY 2 (by decide)] at eq
      exact absurd eq (z0 q q1 (by omega))
    · rw [pk_un en] at ha
      rw [hY _ (by omega)] at eq
      obtain ⟨r, hr, er⟩ := I2 n h1 (by omega) 2 (by decide)
      have : q = r := (nI_eq (by omega) (by omega)).mp (eq.symm.trans er)
      rw [pk_un (by omega)]
      exact I3 n h1 (by omega) ha q q1 (by omega) eq
  · obtain ⟨q, hq, eq⟩ := I4 v hv
    exact ⟨q, by omega, eq⟩
  · obtain ⟨q, hq, eq⟩ := I5
    exact ⟨q, by omega, eq⟩
  · show L + 1 + 0 ≤ 24
    omega
/-- a new frame: VARIABLE 0 gets x -/
theorem ac_ent {x : Nat} (y : Int32) (I : ac_MI (if y = 0 then x else 0) [] g h lo d M al rf fX fY L E) (hd : d < 6) (hx : x ≤ M) (h' lo' : Nat → Int32)
    (e1 : ∀ v, v < 6 * d → h' v = h v ∧ lo' v = lo v) (e2 : h' (6 * d) = nI x ∧ lo' (6 * d) = y) (e3 : ∀ j, 1 ≤ j → j < 6 → h' (6 * d + j) = 0) :
    ac_MI 0 [] g h' lo' (d + 1) M al rf fX fY L E := by
  obtain ⟨I1, I2, I3, I4, I5, I6, ⟨I7, I8, I9, I10, I11⟩, I12⟩ := id I
  refine ac_tr I (fun n h1 h2 => ?_) (fun w hw => ?_) I5 (Nat.zero_le _) (by omega)
  · have z0 : ¬ (0 : Int32) = nI n := fun z => nI_ne0 h1 (by omega) z.symm
    have a := ac_V_succ h' lo' d n
    rw [ac_V_congr e1, e2.1, e2.2, e3 1 (by omega) (by omega), e3 2 (by omega) (by omega), e3 3 (by omega) (by omega), e3 4 (by omega) (by omega), e3 5 (by omega) (by omega)] at a
    simp only [ac_ifn I10 h2 hx] at a
    simp only [z0, false_and, if_false, Nat.add_zero] at a
    rw [ac_ife (y = 0) h1, if_neg (show ¬ n = 0 by omega)]
    unfold ac_N
    omega
  · by_cases c : w < 6 * d
    · rw [(e1 w c).1]; exact I4 w c
    · by_cases c' : w = 6 * d
      · rw [c', e2.1]; exact ⟨x, hx, rfl⟩
      · have := e3 (w - 6 * d) (by omega) (by omega)
        rw [show 6 * d + (w - 6 * d) = w by omega] at this
        rw [this]; exact ⟨0, Nat.zero_le _, rfl⟩
/-- the frame is empty, and goes -/
theorem ac_lea (I : ac_MI 0 [] g h lo (d + 1) M al rf fX fY L E) (e3 : ∀ j, j < 6 → h (6 * d + j) = 0) :
    ac_MI 0 [] g h lo d M al rf fX fY L E := by
  obtain ⟨I1, I2, I3, I4, I5, I6, ⟨I7, I8, I9, I10, I11⟩, I12⟩ := id I
  refine ac_tr I (fun n h1 h2 => ?_) (fun w hw => I4 w (by omega)) I5 (Nat.zero_le _) (by omega)
  have z0 : ¬ (0 : Int32) = nI n := fun z => nI_ne0 h1 (by omega) z.symm
  have a := ac_V_succ h lo d n
  have b := e3 0 (by omega)
  rw [Nat.add_zero] at b
  rw [b, e3 1 (by omega), e3 2 (by omega), e3 3 (by omega), e3 4 (by omega), e3 5 (by omega)] at a
  simp [z0] at a
  unfold ac_N
  omega
/-- what is given is in flight, or back -/
theorem ac_giv {x : Nat} (I : ac_MI x [] 0 h lo d M al rf fX fY L E) (hx : x ≤ M) : ac_MI 0 [] (nI x) h lo d M al rf fX fY L E := by
  obtain ⟨I1, I2, I3, I4, I5, I6, ⟨I7, I8, I9, I10, I11⟩, I12⟩ := id I
  refine ac_tr I (fun n h1 h2 => ?_) I4 ⟨x, hx, rfl⟩ (Nat.zero_le _) I11
  have z0 : ¬ (0 : Int32) = nI n := fun z => nI_ne0 h1 (by omega) z.symm
  unfold ac_N
  simp only [ac_ifn I10 h2 hx]
  rw [if_neg z0, if_neg (show ¬ n = 0 by omega)]
  omega
theorem ac_get {x : Nat} (I : ac_MI 0 [] (nI x) h lo d M al rf fX fY L E) (hx : x ≤ M) : ac_MI x [] 0 h lo d M al rf fX fY L E := by
  obtain ⟨I1, I2, I3, I4, I5, I6, ⟨I7, I8, I9, I10, I11⟩, I12⟩ := id I
  refine ac_tr I (fun n h1 h2 => ?_) I4 ⟨0, Nat.zero_le _, rfl⟩ hx I11
  have z0 : ¬ (0 : Int32) = nI n := fun z => nI_ne0 h1 (by omega) z.symm
  unfold ac_N
  simp only [ac_ifn I10 h2 hx]
  rw [if_neg z0, if_neg (show ¬ n = 0 by omega)]
  omega
end
