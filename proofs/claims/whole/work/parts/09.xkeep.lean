/-! KEEPING: the component's arrays K (sets), R (reached) -/
def ak_S (m : Nat) (K R : Nat → Int32) : Nat → Nat → Bool := fun j v => if v = 6 then decide (R (16 * m + j) = 1) else bt (K (16 * m + j)) v
def ak_G (p : ap_T) (m : Nat) (K R : Nat → Int32) : Prop := ∀ i, i < ap_Z p m →
  (R (16 * m + i) = 0 ∨ R (16 * m + i) = 1) ∧ (R (16 * m + i) = 1 → ap_kp p m i 6) ∧ ∀ v, v < 32 → bt (K (16 * m + i)) v = true → v < 6 ∧ ap_kp p m i v
theorem ak_S6 {m : Nat} {K R : Nat → Int32} {j : Nat} : ak_S m K R j 6 = true ↔ R (16 * m + j) = 1 := by
  unfold ak_S; rw [if_pos rfl, decide_eq_true_iff]
theorem ak_Sv {m : Nat} {K R : Nat → Int32} {j v : Nat} (hv : v < 6) : ak_S m K R j v = bt (K (16 * m + j)) v := if_neg (by omega)
section
variable {p : ap_T} {m : Nat} {N K R : Nat → Int32}
theorem ak_G_so (G : ak_G p m K R) : ak_so p m (ak_S m K R) := by
  intro i hi v hv h
  by_cases c : v = 6
  · subst c; exact (G i hi).2.1 (ak_S6.mp h)
  · rw [ak_Sv (by omega)] at h; exact ((G i hi).2.2 v (by omega) h).2
theorem ak_re (H : ap_OK p) (hN : ap_NS p m N) (G : ak_G p m K R) {j : Nat} (hj : j < ap_Z p m) (h6 : ap_kp p m j 6) {x : Int32}
    (hx : ∀ v, v < 6 → bt x v = true → ap_nd p m j v → ap_kp p m j v) (a : Int32) (ha : a = K (16 * m + j) ||| (x &&& N (16 * m + j))) :
    ak_G p m (upd K (16 * m + j) a) (upd R (16 * m + j) 1) ∧ (∀ i, i < ap_Z p m → ∀ v, v ≤ 6 → ak_S m K R i v = true → ak_S m (upd K (16 * m + j) a) (upd R (16 * m + j) 1) i v = true) ∧
    (ak_S m (upd K (16 * m + j) a) (upd R (16 * m + j) 1) j 6 = true ∧ ∀ v, v < 6 → ap_nd p m j v → bt x v = true → ak_S m (upd K (16 * m + j) a) (upd R (16 * m + j) 1) j v = true) ∧
    ((R (16 * m + j) = 0 ∨ a ≠ K (16 * m + j)) → ak_ca p m (ak_S m K R) < ak_ca p m (ak_S m (upd K (16 * m + j) a) (upd R (16 * m + j) 1))) := by
  have hb : ∀ v, v < 32 → (bt a v = true ↔ bt (K (16 * m + j)) v = true ∨ (bt x v = true ∧ ap_nd p m j v)) := by
    intro v hv
    rw [ha, b_or, b_and, Bool.or_eq_true, Bool.and_eq_true, hN j hj v hv]
  have sub : ∀ i, i < ap_Z p m → ∀ v, v ≤ 6 → ak_S m K R i v = true → ak_S m (upd K (16 * m + j) a) (upd R (16 * m + j) 1) i v = true := by
    intro i hi v hv h
    by_cases e : i = j
    · subst e
      by_cases c : v = 6
      · subst c; rw [ak_S6, pk_us]
      · rw [ak_Sv (by omega)] at h ⊢
        rw [pk_us]; exact (hb v (by omega)).mpr (Or.inl h)
    · unfold ak_S at h ⊢
      rw [pk_un (by omega), pk_un (by omega)]; exact h
  refine ⟨fun i hi => ?_, sub, ⟨by rw [ak_S6, pk_us], fun v hv hn hbx => ?_⟩, fun hc => ?_⟩
  · by_cases e : i = j
    · subst e
      rw [pk_us, pk_us]
      refine ⟨Or.inr rfl, fun _ => h6, fun v hv hv2 => ?_⟩
      rcases (hb v hv).mp hv2 with q | ⟨q1, q2⟩
      · exact (G i hi).2.2 v hv q
      · have v6 := ap_nd_6 H q2
        exact ⟨v6, hx v v6 q1 q2⟩
    · rw [pk_un (by omega), pk_un (by omega)]; exact G i hi
  · rw [ak_Sv hv, pk_us]; exact (hb v (by omega)).mpr (Or.inr ⟨hbx, hn⟩)
  · by_cases c : R (16 * m + j) = 0
    · refine ak_lt sub hj (v := 6) (by omega) ?_ (by rw [ak_S6, pk_us])
      unfold ak_S; rw [if_pos rfl, c]; decide
    · have hc' : a ≠ K (16 * m + j) := by
        rcases hc with hc | hc
        · exact absurd hc c
        · exact hc
      have ex : ∃ v, v < 32 ∧ bt a v = true ∧ bt (K (16 * m + j)) v = false := by
        apply Classical.byContradiction
        intro nn
        apply hc'
        refine b_ext (fun v hv => ?_)
        cases e : bt (K (16 * m + j)) v with
        | true => exact (hb v hv).mpr (Or.inl e)
        | false =>
          cases e' : bt a v with
          | false => rfl
          | true => exact absurd ⟨v, hv, e', e⟩ nn
      obtain ⟨v, hv, q1, q2⟩ := ex
      have v6 : v < 6 := by
        rcases (hb v hv).mp q1 with q | ⟨_, q⟩
        · rw [q2] at q; exact absurd q (by decide)
        · exact ap_nd_6 H q
      exact ak_lt sub hj (v := v) (by omega) (by rw [ak_Sv v6]; exact q2) (by rw [ak_Sv v6, pk_us]; exact q1)
/-- in a round that found K0, R0: fl says whether anything is new -/
def ak_T (p : ap_T) (m : Nat) (K0 R0 K R : Nat → Int32) (fl : Int32) : Prop :=
  ak_G p m K R ∧ ap_out m K0 K ∧ ap_out m R0 R ∧ (∀ i, i < ap_Z p m → ∀ v, v ≤ 6 → ak_S m K0 R0 i v = true → ak_S m K R i v = true) ∧
  ((fl = 0 ∧ K = K0 ∧ R = R0) ∨ (fl = 1 ∧ ak_ca p m (ak_S m K0 R0) < ak_ca p m (ak_S m K R)))
theorem ap_out_t {m : Nat} {N N' N'' : Nat → Int32} (h : ap_out m N N') (h' : ap_out m N' N'') : ap_out m N N'' := fun k hk => (h' k hk).trans (h k hk)
end
section
variable {p : ap_T} {po en up dn bg lv md gX dp sa sh : Int32} {N P K R me pt h lx va rf al fX pe ou es : Nat → Int32}
variable {m : Nat}
theorem ax_re (H : ap_OK p) (hm : m < 4) (hN : ap_NS p m N) {K0 R0 : Nat → Int32} {fl : Int32} (T : ak_T p m K0 R0 K R fl) {j : Nat} (hj : j ≤ 16) (x : Int32)
    (h6 : j < ap_Z p m → ap_kp p m j 6 ∧ ∀ v, v < 6 → bt x v = true → ap_nd p m j v → ap_kp p m j v) (post : Int32 → SX → Prop)
    (hp : ∀ K' R' r, ak_T p m K0 R0 K' R' (fl ||| r) → (r = 0 ∨ r = 1) → (∀ k, k ≠ 16 * m + j → K' k = K k ∧ R' k = R k) →
      (j < ap_Z p m → ak_S m K' R' j 6 = true ∧ ∀ v, v < 6 → ap_nd p m j v → bt x v = true → ak_S m K' R' j v = true) → post r (po, en, up, dn, bg, lv, md, gX, dp, sa, sh, ap_sz p, ap_L p, ap_oo p, ap_aA p, ap_aB p, ap_c p, N, P, K', R', me, pt, h, lx, va, rf, al, fX, pe, ou, es)) :
    wpX_reach post (po, en, up, dn, bg, lv, md, gX, dp, sa, sh, ap_sz p, ap_L p, ap_oo p, ap_aA p, ap_aB p, ap_c p, N, P, K, R, me, pt, h, lx, va, rf, al, fX, pe, ou, es) (nI m) (nI j) x := by
  have hz := H.2.1 m
  by_cases c : j < ap_Z p m
  · have hk : 16 * m + j < 64 := by omega
    have hI : vp_in (nI (16 * m + j)) 64 := vp_in_nI hk (by omega)
    have ek : (nI (16 * m + j)).toNatClampNeg = 16 * m + j := nI_clamp (by omega)
    obtain ⟨T1, T2, T3, T4, T5⟩ := T
    obtain ⟨A1, A2, A3, A4⟩ := ak_re H hN T1 c (h6 c).1 (h6 c).2 _ rfl
    have fin : ∀ r : Int32, (r = 0 ∨ r = 1) → ((fl ||| r = 0 ∧ upd K (16 * m + j) (K (16 * m + j) ||| (x &&& N (16 * m + j))) = K0 ∧ upd R (16 * m + j) 1 = R0) ∨ (fl ||| r = 1 ∧ ak_ca p m (ak_S m K0 R0) < ak_ca p m (ak_S m (upd K (16 * m + j) (K (16 * m + j) ||| (x &&& N (16 * m + j)))) (upd R (16 * m + j) 1)))) →
        wX_reach_66 post (nI (16 * m + j)) (K (16 * m + j) ||| (x &&& N (16 * m + j))) r po en up dn bg lv md gX dp sa sh (ap_sz p) (ap_L p) (ap_oo p) (ap_aA p) (ap_aB p) (ap_c p) N P K R me pt h lx va rf al fX pe ou es := by
      intro r hr h5
      refine ⟨hI, nm_r (congrArg (upd R (nI (16 * m + j)).toNatClampNeg) ad_nb1) ⟨hI, nm_e ?_⟩⟩
      rw [ek]
      refine ⟨by rcases hr with e | e <;> rw [e] <;> rfl, hp _ _ r ⟨A1, ap_out_u T2 (by omega) _, ap_out_u T3 (by omega) _, fun i hi v hv q => A2 i hi v hv (T4 i hi v hv q), h5⟩ hr (fun k hk => ⟨pk_un hk, pk_un hk⟩) (fun _ => A3)⟩
    have or1 : ∀ r : Int32, r = 1 → (fl = 0 ∨ fl = 1) → fl ||| r = 1 := by
      intro r e hf
      rcases hf with f | f <;> rw [e, f] <;> decide
    have fl01 : fl = 0 ∨ fl = 1 := by
      rcases T5 with ⟨f, _⟩ | ⟨f, _⟩
      · exact Or.inl f
      · exact Or.inr f
    have le : ak_ca p m (ak_S m K0 R0) ≤ ak_ca p m (ak_S m K R) := ak_mono T4
    refine ⟨vp_in_nI hm (by omega), br_t (by rw [ap_szm p hm]; exact nI_lt c (by omega)) (nm_r (ap_xk m j) ⟨hI, hI, nm_r (by rw [ek]) ⟨hI, ?_⟩⟩)⟩
    rw [ek]
    refine br_c (fun c1 => fin 1 (Or.inr rfl) (Or.inr ⟨or1 1 rfl fl01, Nat.lt_of_le_of_lt le (A4 (Or.inl c1))⟩)) (fun c1 => ⟨hI, br_c (fun c2 => fin 0 (Or.inl rfl) ?_) (fun c2 => fin 1 (Or.inr rfl) (Or.inr ⟨or1 1 rfl fl01, Nat.lt_of_le_of_lt le (A4 (Or.inr c2))⟩))⟩)
    have r1 : R (16 * m + j) = 1 := by
      rcases (T1 j c).1 with q | q
      · exact absurd q c1
      · exact q
    have e1 : upd K (16 * m + j) (K (16 * m + j) ||| (x &&& N (16 * m + j))) = K := ad_updS _ _ _ c2.symm
    have e2 : upd R (16 * m + j) 1 = R := ad_updS _ _ _ r1
    rw [e1, e2]
    rcases T5 with ⟨f, g⟩ | ⟨f, g⟩
    · exact Or.inl ⟨by rw [f]; rfl, g⟩
    · exact Or.inr ⟨by rw [f]; rfl, g⟩
  · refine ⟨vp_in_nI hm (by omega), br_f (by rw [ap_szm p hm]; exact nI_nlt (by omega) (by omega)) (hp K R 0 ?_ (Or.inl rfl) (fun _ _ => ⟨rfl, rfl⟩) (fun q => absurd q c))⟩
    rw [show fl ||| 0 = fl from Int32.or_zero]
    exact T
end
theorem ak_or0 {a b : Int32} (ha : a = 0 ∨ a = 1) (hb : b = 0 ∨ b = 1) (h : a ||| b = 0) : a = 0 ∧ b = 0 := by
  rcases ha with e | e <;> rcases hb with f | f <;> rw [e, f] at h ⊢ <;> first | exact ⟨rfl, rfl⟩ | exact absurd h (by decide)
theorem ak_T01 {p : ap_T} {m : Nat} {K0 R0 K R : Nat → Int32} {fl : Int32} (T : ak_T p m K0 R0 K R fl) : fl = 0 ∨ fl = 1 := by
  rcases T.2.2.2.2 with ⟨f, _⟩ | ⟨f, _⟩
  · exact Or.inl f
  · exact Or.inr f
theorem ak_T0 {p : ap_T} {m : Nat} {K0 R0 K R : Nat → Int32} {fl : Int32} (T : ak_T p m K0 R0 K R fl) (h : fl = 0) : K = K0 ∧ R = R0 := by
  rcases T.2.2.2.2 with ⟨_, f⟩ | ⟨f, _⟩
  · exact f
  · rw [h] at f; exact absurd f (by decide)
section
variable {p : ap_T} {po en up dn bg lv md gX dp sa sh : Int32} {N P K R me pt h lx va rf al fX pe ou es : Nat → Int32}
variable {m : Nat}
theorem ak_inner (H : ap_OK p) (hm : m < 4) (hN : ap_NS p m N) (hP : ap_PS p m P) (post : SX → Prop) (J : Int32 → Int32 → Int32 → Int32 → Int32 → Int32 → Int32 → Int32 → Int32 → Int32 → Int32 → Int32 → Int32 → (Nat → Int32) → (Nat → Int32) → (Nat → Int32) → (Nat → Int32) → (Nat → Int32) → (Nat → Int32) → (Nat → Int32) → (Nat → Int32) → (Nat → Int32) → (Nat → Int32) → (Nat → Int32) → (Nat → Int32) → (Nat → Int32) → (Nat → Int32) → (Nat → Int32) → (Nat → Int32) → (Nat → Int32) → (Nat → Int32) → (Nat → Int32) → (Nat → Int32) → (Nat → Int32) → Prop) (x4 : Int32) (K0 R0 : Nat → Int32)
    (hJ : ∀ K R fl, ak_T p m K0 R0 K R fl → (fl = 0 → ∀ i, i < ap_Z p m → ak_cl p m (ak_S m K0 R0) i) → J fl (x4 + 1) po en up dn bg lv md gX dp sa sh (ap_sz p) (ap_L p) (ap_oo p) (ap_aA p) (ap_aB p) (ap_c p) N P K R me pt h lx va rf al fX pe ou es) :
    ∀ d i, i + d = ap_Z p m → ∀ K R fl, ak_T p m K0 R0 K R fl → (fl = 0 → ∀ j, j < i → ak_cl p m (ak_S m K0 R0) j) → wX_findKeeping_84 post J (nI m) x4 (d + 1) fl (nI i) po en up dn bg lv md gX dp sa sh (ap_sz p) (ap_L p) (ap_oo p) (ap_aA p) (ap_aB p) (ap_c p) N P K R me pt h lx va rf al fX pe ou es := by
  have hz := H.2.1 m
  intro d
  induction d with
  | zero =>
    intro i hi K R fl T hc
    have e : i = ap_Z p m := by omega
    subst e
    exact ⟨vp_in_nI hm (by omega), br_t (by rw [ap_szm p hm]; exact nI_le (by omega) (by omega)) (nm_e (hJ K R fl T hc))⟩
  | succ d ih =>
    intro i hi K R fl T hc
    have hk : 16 * m + i < 64 := by omega
    have hI : vp_in (nI (16 * m + i)) 64 := vp_in_nI hk (by omega)
    have ek : (nI (16 * m + i)).toNatClampNeg = 16 * m + i := nI_clamp (by omega)
    have hcc := (H.1 (16 * m + i)).2.2.2.2.1
    obtain ⟨x, hx, wx⟩ := ax_kb (po := po) (en := en) (up := up) (dn := dn) (bg := bg) (lv := lv) (md := md) (gX := gX) (dp := dp) (sa := sa) (sh := sh) (N := N) (P := P) (K := K) (R := R) (me := me) (pt := pt) (h := h) (lx := lx) (va := va) (rf := rf) (al := al) (fX := fX) (pe := pe) (ou := ou) (es := es) H hm (i := i) (by omega) hP
    have T01 := ak_T01 T
    have next : ∀ K2 R2 fl2, ak_T p m K0 R0 K2 R2 fl2 → (fl2 = 0 → fl = 0 ∧ ak_cl p m (ak_S m K0 R0) i) → ∀ y : Int32, y = nI i + 1 → wX_findKeeping_84 post J (nI m) x4 (d + 1) fl2 y po en up dn bg lv md gX dp sa sh (ap_sz p) (ap_L p) (ap_oo p) (ap_aA p) (ap_aB p) (ap_c p) N P K2 R2 me pt h lx va rf al fX pe ou es := by
      intro K2 R2 fl2 T2 h2 y ey
      rw [ey, nI_1]
      refine ih (i + 1) (by omega) K2 R2 fl2 T2 (fun f j hj => ?_)
      by_cases e : j = i
      · subst e; exact (h2 f).2
      · exact hc (h2 f).1 j (by omega)
    by_cases r0 : R (16 * m + i) = 0
    · -- no way leads here yet
      refine ⟨vp_in_nI hm (by omega), br_f (by rw [ap_szm p hm]; exact nI_ge (by omega) (by omega)) (nm_r (ap_xk m i) (wx _ ⟨hI, br_t (by rw [ek]; exact r0) ⟨hI, br_t (by rw [ek]; exact r0) (next K R fl T (fun f => ⟨f, fun q => ?_⟩))⟩⟩))⟩
      rw [ak_S6, ← (ak_T0 T f).2, r0] at q
      exact absurd q (by decide)
    have r1 : R (16 * m + i) = 1 := by
      rcases (T.1 i (by omega)).1 with q | q
      · exact absurd q r0
      · exact q
    have k6 := (T.1 i (by omega)).2.1 r1
    have so : ∀ j, ap_sc p m i j → ap_kp p m j 6 ∧ ∀ v, v < 6 → bt x v = true → ap_nd p m j v → ap_kp p m j v := by
      intro j hs
      refine ⟨ad_kp_2 k6 hs, fun v hv hb hn => ?_⟩
      rcases (hx v (by omega)).mp hb with g | ⟨g1, g2⟩
      · exact ad_kp_3 hv k6 hs g hn
      · exact ad_kp_4 hv k6 ((T.1 i (by omega)).2.2 v (by omega) g1).2 g2 hs hn
    -- what is known of the successor j once nothing is new
    have clo : (∀ j, ap_sc p m i j → ak_S m K0 R0 j 6 = true ∧ ∀ v, v < 6 → ap_nd p m j v → bt x v = true → ak_S m K0 R0 j v = true) → K = K0 → ak_cl p m (ak_S m K0 R0) i := by
      intro q eK _ j hs
      refine ⟨(q j hs).1, fun v hv hn g => (q j hs).2 v hv hn ((hx v (by omega)).mpr ?_)⟩
      rcases g with g | ⟨g1, g2⟩
      · exact Or.inl g
      · rw [ak_Sv hv, ← eK] at g1; exact Or.inr ⟨g1, g2⟩
    obtain ⟨b1, g1, v1⟩ := ax_on (po := po) (en := en) (up := up) (dn := dn) (bg := bg) (lv := lv) (md := md) (gX := gX) (dp := dp) (sa := sa) (sh := sh) (N := N) (P := P) (K := K) (R := R) (me := me) (pt := pt) (h := h) (lx := lx) (va := va) (rf := rf) (al := al) (fX := fX) (pe := pe) (ou := ou) (es := es) (i := i) H hm (by omega)
    -- the jump
    have cont : ∀ K1 R1 fl1, ak_T p m K0 R0 K1 R1 fl1 → R1 (16 * m + i) = 1 → (fl1 = 0 → fl = 0 ∧ ∀ j, ap_sc p m i j → ap_on p (16 * m + i) ∧ j = i + 1 → ak_S m K0 R0 j 6 = true ∧ ∀ v, v < 6 → ap_nd p m j v → bt x v = true → ak_S m K0 R0 j v = true) →
        wX_findKeeping_145 post J (wX_findKeeping_84 post J (nI m) x4 (d + 1)) (nI m) fl1 x4 (nI i) (nI (16 * m + i)) x po en up dn bg lv md gX dp sa sh (ap_sz p) (ap_L p) (ap_oo p) (ap_aA p) (ap_aB p) (ap_c p) N P K1 R1 me pt h lx va rf al fX pe ou es := by
      intro K1 R1 fl1 T1 e1 q1
      obtain ⟨b2, g2, v2⟩ := ax_jp (po := po) (en := en) (up := up) (dn := dn) (bg := bg) (lv := lv) (md := md) (gX := gX) (dp := dp) (sa := sa) (sh := sh) (N := N) (P := P) (K := K1) (R := R1) (me := me) (pt := pt) (h := h) (lx := lx) (va := va) (rf := rf) (al := al) (fX := fX) (pe := pe) (ou := ou) (es := es) (i := i) H hm (by omega)
      refine ⟨hI, br_f (by rw [ek, e1]; decide) (v2 _ ?_)⟩
      rcases g2 with ⟨a, e⟩ | ⟨a, e⟩
      · obtain ⟨c1, c2⟩ := hcc a
        refine br_f (by rw [e]; decide) ⟨hI, ?_⟩
        rw [ap_ck p hk, c1]
        refine ax_re H hm hN T1 (by omega) x (fun q => so _ ⟨q, Or.inr ⟨a, rfl⟩⟩) _ (fun K' R' r T' hr hk' hS => ?_)
        refine nm_e (next K' R' _ T' (fun f => ?_))
        obtain ⟨f1, f2⟩ := ak_or0 (ak_T01 T1) hr f
        obtain ⟨q2, q3⟩ := q1 f1
        obtain ⟨u1, u2⟩ := ak_T0 T' f
        refine ⟨q2, clo (fun j hs => ?_) (ak_T0 T q2).1⟩
        rcases hs.2 with ⟨s1, s2⟩ | ⟨s1, s2⟩
        · exact q3 j hs ⟨s1, s2⟩
        · subst s2
          have := hS hs.1
          rw [u1, u2] at this
          exact this
      · refine br_t e (next K1 R1 fl1 T1 (fun f => ?_))
        obtain ⟨q2, q3⟩ := q1 f
        refine ⟨q2, clo (fun j hs => ?_) (ak_T0 T q2).1⟩
        rcases hs.2 with s | s
        · exact q3 j hs s
        · exact absurd s.1 a
    refine ⟨vp_in_nI hm (by omega), br_f (by rw [ap_szm p hm]; exact nI_ge (by omega) (by omega)) (nm_r (ap_xk m i) (wx _ ⟨hI, br_f (by rw [ek]; exact r0) (v1 _ ?_)⟩))⟩
    rcases g1 with ⟨a, e⟩ | ⟨a, e⟩
    · refine br_f (by rw [e]; decide) ?_
      rw [nI_1]
      refine ax_re H hm hN T (by omega) x (fun q => so _ ⟨q, Or.inl ⟨a, rfl⟩⟩) _ (fun K' R' r T' hr hk' hS => nm_e (cont K' R' _ T' ?_ (fun f => ?_)))
      · rw [(hk' (16 * m + i) (by omega)).2]; exact r1
      · obtain ⟨f1, f2⟩ := ak_or0 T01 hr f
        obtain ⟨u1, u2⟩ := ak_T0 T' f
        refine ⟨f1, fun j hs s => ?_⟩
        have s2 := s.2
        subst s2
        have := hS hs.1
        rw [u1, u2] at this
        exact this
    · exact br_t e (cont K R fl T r1 (fun f => ⟨f, fun j hs s => absurd s.1 a⟩))
theorem ak_outer (H : ap_OK p) (hm : m < 4) (hN : ap_NS p m N) (hP : ap_PS p m P) (post : SX → Prop) (K0 R0 : Nat → Int32)
    (hp : ∀ K R, ap_KX p m K R → ap_out m K0 K → ap_out m R0 R → post (po, en, up, dn, bg, lv, md, gX, dp, sa, sh, ap_sz p, ap_L p, ap_oo p, ap_aA p, ap_aB p, ap_c p, N, P, K, R, me, pt, h, lx, va, rf, al, fX, pe, ou, es)) :
    ∀ d r, r + d = 113 → ∀ K R fl, ak_G p m K R → ap_out m K0 K → ap_out m R0 R → (0 < ap_Z p m → ak_S m K R 0 6 = true) → (0 < ap_Z p m → ap_L p m = 0 → ap_nd p m 0 0 → ak_S m K R 0 0 = true) →
      ((fl = 0 ∧ ∀ i, i < ap_Z p m → ak_cl p m (ak_S m K R) i) ∨ (fl = 1 ∧ r ≤ ak_ca p m (ak_S m K R))) → wX_findKeeping_68 post (nI m) (d + 1) fl (nI r) po en up dn bg lv md gX dp sa sh (ap_sz p) (ap_L p) (ap_oo p) (ap_aA p) (ap_aB p) (ap_c p) N P K R me pt h lx va rf al fX pe ou es := by
  intro d
  have fin : ∀ K R, ak_G p m K R → ap_out m K0 K → ap_out m R0 R → (0 < ap_Z p m → ak_S m K R 0 6 = true) → (0 < ap_Z p m → ap_L p m = 0 → ap_nd p m 0 0 → ak_S m K R 0 0 = true) →
      (∀ i, i < ap_Z p m → ak_cl p m (ak_S m K R) i) → post (po, en, up, dn, bg, lv, md, gX, dp, sa, sh, ap_sz p, ap_L p, ap_oo p, ap_aA p, ap_aB p, ap_c p, N, P, K, R, me, pt, h, lx, va, rf, al, fX, pe, ou, es) := by
    intro K R G o1 o2 b1 b2 cl
    have D := ak_done (ak_G_so G) b1 b2 cl
    refine hp K R (fun i hi => ⟨(G i hi).1, ?_, fun v hv => ?_⟩) o1 o2
    · rw [← ak_S6 (K := K)]; exact D i hi 6 (by omega)
    · constructor
      · exact (G i hi).2.2 v hv
      · rintro ⟨v6, q⟩
        have := (D i hi v (by omega)).mpr q
        rw [ak_Sv v6] at this
        exact this
  induction d with
  | zero =>
    intro r hr K R fl G o1 o2 b1 b2 h
    rcases h with ⟨_, h⟩ | ⟨_, h⟩
    · exact br_t (nI_lt (a := 112) (by omega) (by omega)) (fin K R G o1 o2 b1 b2 h)
    · have := ak_ca_le (m := m) H (ak_S m K R)
      omega
  | succ d ih =>
    intro r hr K R fl G o1 o2 b1 b2 h
    refine br_f (nI_nlt (b := r) (a := 112) (by omega) (by decide)) ?_
    rcases h with ⟨f, h⟩ | ⟨f, h⟩
    · exact br_t f (fin K R G o1 o2 b1 b2 h)
    · refine br_f (by rw [f]; decide) ⟨ap_Z p m + 1, ?_⟩
      refine ak_inner H hm hN hP post _ (nI r) K R (fun K' R' fl' T' hc => ?_) (ap_Z p m) 0 (by omega) K R 0 ⟨G, ap_out_r, ap_out_r, fun _ _ _ _ q => q, Or.inl ⟨rfl, rfl, rfl⟩⟩ (fun _ j hj => by omega)
      rw [nI_1]
      obtain ⟨T1, T2, T3, T4, T5⟩ := T'
      refine ih (r + 1) (by omega) K' R' fl' T1 (ap_out_t o1 T2) (ap_out_t o2 T3) (fun q => T4 0 q 6 (by omega) (b1 q)) (fun q q1 q2 => T4 0 q 0 (by omega) (b2 q q1 q2)) ?_
      rcases T5 with ⟨f0, e1, e2⟩ | ⟨f1, lt⟩
      · exact Or.inl ⟨f0, by rw [e1, e2]; exact hc f0⟩
      · exact Or.inr ⟨f1, by omega⟩
theorem ak_clear (H : ap_OK p) (hm : m < 4) (hN : ap_NS p m N) (hP : ap_PS p m P) (post : SX → Prop) (K0 R0 : Nat → Int32)
    (hp : ∀ K R, ap_KX p m K R → ap_out m K0 K → ap_out m R0 R → post (po, en, up, dn, bg, lv, md, gX, dp, sa, sh, ap_sz p, ap_L p, ap_oo p, ap_aA p, ap_aB p, ap_c p, N, P, K, R, me, pt, h, lx, va, rf, al, fX, pe, ou, es)) :
    ∀ d i, i + d = ap_Z p m → ∀ K R, ap_out m K0 K → ap_out m R0 R → (∀ j, j < i → K (16 * m + j) = 0 ∧ R (16 * m + j) = 0) → wX_findKeeping_2 post (nI m) po en up dn bg lv md gX dp sa sh (d + 1) (nI i) (ap_sz p) (ap_L p) (ap_oo p) (ap_aA p) (ap_aB p) (ap_c p) N P K R me pt h lx va rf al fX pe ou es := by
  intro d
  have hz := H.2.1 m
  have hL := H.2.2 m
  induction d with
  | zero =>
    intro i hi K R o1 o2 z
    have G : ak_G p m K R := fun j hj => ⟨Or.inl (z j (by omega)).2, fun q => by rw [(z j (by omega)).2] at q; exact absurd q (by decide), fun v _ q => by rw [(z j (by omega)).1, b_0] at q; exact absurd q (by decide)⟩
    have T : ak_T p m K R K R 0 := ⟨G, ap_out_r, ap_out_r, fun _ _ _ _ q => q, Or.inl ⟨rfl, rfl, rfl⟩⟩
    have go : ∀ x : Int32, (ap_L p m = 0 ∧ x = 1 ∨ ap_L p m ≠ 0 ∧ x = 0) → wX_findKeeping_56 post (nI m) x po en up dn bg lv md gX dp sa sh (ap_sz p) (ap_L p) (ap_oo p) (ap_aA p) (ap_aB p) (ap_c p) N P K R me pt h lx va rf al fX pe ou es := by
      intro x hx
      refine ax_re (j := 0) H hm hN T (by omega) x (fun q => ⟨ad_kp_0 q, fun v hv hb hn => ?_⟩) _ (fun K' R' r T' hr hk' hS => ⟨114, ?_⟩)
      · rcases hx with ⟨l, e⟩ | ⟨l, e⟩
        · rw [e, ad_bt1 v (by omega), decide_eq_true_iff] at hb
          subst hb
          exact ad_kp_1 q l hn
        · rw [e, b_0] at hb; exact absurd hb (by decide)
      · obtain ⟨T1, T2, T3, T4, T5⟩ := T'
        rw [show (0 : Int32) ||| r = r from Int32.zero_or] at T5
        refine ak_outer H hm hN hP post K0 R0 hp 113 0 (by omega) K' R' r T1 (ap_out_t o1 T2) (ap_out_t o2 T3) (fun q => (hS q).1) (fun q q1 q2 => (hS q).2 0 (by omega) q2 ?_) ?_
        · rcases hx with ⟨l, e⟩ | ⟨l, e⟩
          · rw [e]; decide
          · exact absurd q1 l
        · rcases T5 with ⟨f, e1, e2⟩ | ⟨f, lt⟩
          · refine Or.inl ⟨f, fun i' hi' => ?_⟩
            have := (hS (by omega)).1
            rw [ak_S6, e2, (z 0 (by omega)).2] at this
            exact absurd this (by decide)
          · exact Or.inr ⟨f, Nat.zero_le _⟩
    refine ⟨vp_in_nI hm (by omega), br_t (by rw [ap_szm p hm]; exact nI_le (by omega) (by omega)) ⟨vp_in_nI hm (by omega), ?_⟩⟩
    rw [nI_clamp (by omega)]
    exact br_c (fun c => go 1 (Or.inl ⟨c, rfl⟩)) (fun c => go 0 (Or.inr ⟨c, rfl⟩))
  | succ d ih =>
    intro i hi K R o1 o2 z
    refine ⟨vp_in_nI hm (by omega), br_f (by rw [ap_szm p hm]; exact nI_ge (by omega) (by omega)) ?_⟩
    rw [ap_xk, nI_clamp (by omega)]
    refine ⟨vp_in_nI (by omega) (by omega), nm_e ⟨vp_in_nI (by omega) (by omega), nm_r (congrArg (upd R (16 * m + i)) ad_nb0) (nm_r (nI_1 i) (ih (i + 1) (by omega) _ _ (ap_out_u o1 (by omega) 0) (ap_out_u o2 (by omega) 0) (fun j hj => ?_)))⟩⟩
    by_cases c : j = i
    · subst c; exact ⟨pk_us, pk_us⟩
    · rw [pk_un (by omega), pk_un (by omega)]; exact z j (by omega)
theorem ax_plans (H : ap_OK p) (hm : m < 4) (hN : ap_NS p m N) (post : SX → Prop) (P0 K0 R0 : Nat → Int32)
    (hp : ∀ P K R, ap_PS p m P → ap_KX p m K R → ap_out m P0 P → ap_out m K0 K → ap_out m R0 R → post (po, en, up, dn, bg, lv, md, gX, dp, sa, sh, ap_sz p, ap_L p, ap_oo p, ap_aA p, ap_aB p, ap_c p, N, P, K, R, me, pt, h, lx, va, rf, al, fX, pe, ou, es)) :
    ∀ d i, i + d = ap_Z p m → ∀ P, ap_out m P0 P → (∀ j, j < i → ap_Pl p m j (P (16 * m + j))) → wX_analyse_7 post (nI m) po en up dn bg lv md gX dp sa sh (d + 1) (nI i) (ap_sz p) (ap_L p) (ap_oo p) (ap_aA p) (ap_aB p) (ap_c p) N P K0 R0 me pt h lx va rf al fX pe ou es := by
  intro d
  have hz := H.2.1 m
  induction d with
  | zero =>
    intro i hi P o1 z
    have hP : ap_PS p m P := fun j hj => z j (by omega)
    refine ⟨vp_in_nI hm (by omega), br_t (by rw [ap_szm p hm]; exact nI_le (by omega) (by omega)) ⟨ap_Z p m + 1, ?_⟩⟩
    exact ak_clear H hm hN hP _ K0 R0 (fun K R h1 h2 h3 => hp P K R hP h1 o1 h2 h3) (ap_Z p m) 0 (by omega) K0 R0 ap_out_r ap_out_r (fun j hj => by omega)
  | succ d ih =>
    intro i hi P o1 z
    have hI : vp_in (nI (16 * m + i)) 64 := vp_in_nI (by omega) (by omega)
    have st : ∀ x : Int32, ap_Pl p m i x → ∀ y : Int32, y = nI i + 1 → wX_analyse_7 post (nI m) po en up dn bg lv md gX dp sa sh (d + 1) y (ap_sz p) (ap_L p) (ap_oo p) (ap_aA p) (ap_aB p) (ap_c p) N (upd P (nI (16 * m + i)).toNatClampNeg x) K0 R0 me pt h lx va rf al fX pe ou es := by
      intro x hx y ey
      rw [ey, nI_1, nI_clamp (by omega)]
      refine ih (i + 1) (by omega) _ (ap_out_u o1 (by omega) x) (fun j hj => ?_)
      by_cases c : j = i
      · subst c; rw [pk_us]; exact hx
      · rw [pk_un (by omega)]; exact z j (by omega)
    refine ⟨vp_in_nI hm (by omega), br_f (by rw [ap_szm p hm]; exact nI_ge (by omega) (by omega)) (nm_r (ap_xk m i) ?_)⟩
    refine ax_ln H hm (by omega) hN _ (fun c => br_t rfl ?_) (fun c => br_f (by decide) ⟨hI, nm_e (st 1 ⟨fun _ => rfl, fun q => absurd c q, fun q => absurd c q⟩)⟩)
    exact ax_ho H hm (by omega) hN _ (fun c2 => br_t rfl ⟨hI, nm_e (st 0 ⟨fun q => absurd q c, fun _ q => absurd q c2, fun _ _ => rfl⟩)⟩) (fun c2 => br_f (by decide) ⟨hI, nm_e (st 2 ⟨fun q => absurd q c, fun _ _ => rfl, fun _ q => absurd c2 q⟩)⟩)
/-- what is found of METHOD m -/
theorem ax_analyse (H : ap_OK p) (hm : m < 4) (post : SX → Prop)
    (hp : ∀ N' P' K' R', ap_NS p m N' → ap_PS p m P' → ap_KX p m K' R' → ap_out m N N' → ap_out m P P' → ap_out m K K' → ap_out m R R' → post (po, en, up, dn, bg, lv, md, gX, dp, sa, sh, ap_sz p, ap_L p, ap_oo p, ap_aA p, ap_aB p, ap_c p, N', P', K', R', me, pt, h, lx, va, rf, al, fX, pe, ou, es)) :
    wpX_analyse post (po, en, up, dn, bg, lv, md, gX, dp, sa, sh, ap_sz p, ap_L p, ap_oo p, ap_aA p, ap_aB p, ap_c p, N, P, K, R, me, pt, h, lx, va, rf, al, fX, pe, ou, es) (nI m) := by
  refine ax_need H hm _ (fun N' hN o => ⟨ap_Z p m + 1, ?_⟩)
  exact ax_plans H hm hN post P K R (fun P' K' R' h1 h2 h3 h4 h5 => hp N' P' K' R' hN h1 h2 o h3 h4 h5) (ap_Z p m) 0 (by omega) P ap_out_r (fun j hj => by omega)
end
