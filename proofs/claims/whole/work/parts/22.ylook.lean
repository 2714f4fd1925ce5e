/-- only places of METHOD m are written -/
def al_out (p : ap_T) (m : Nat) (N N' : Nat → Int32) : Prop := ∀ k, ¬ (k / 16 = m ∧ k % 16 < ap_Z p m) → N' k = N k
theorem al_out_u {p : ap_T} {m i : Nat} {N N' : Nat → Int32} (h : al_out p m N N') (hi : i < ap_Z p m ∧ i < 16) (x : Int32) : al_out p m N (upd N' (16 * m + i) x) := fun k hk => by
  rw [pk_un (by intro z; apply hk; rw [z]; have e1 : (16 * m + i) / 16 = m := by omega
                have e2 : (16 * m + i) % 16 = i := by omega
                rw [e1, e2]; exact ⟨rfl, hi.1⟩)]
  exact h k hk
theorem al_out_r {p : ap_T} {m : Nat} {N : Nat → Int32} : al_out p m N N := fun _ _ => rfl
theorem al_out_t {p : ap_T} {m : Nat} {N N' N'' : Nat → Int32} (h : al_out p m N N') (h' : al_out p m N' N'') : al_out p m N N'' := fun k hk => (h' k hk).trans (h k hk)
/-! KEEPING: the reference's array: -1 where no way leads -/
def al_S (m : Nat) (K : Nat → Int32) : Nat → Nat → Bool := fun j v => !bt (K (16 * m + j)) 31 && (decide (v = 6) || bt (K (16 * m + j)) v)
def al_G (p : ap_T) (m : Nat) (K : Nat → Int32) : Prop := ∀ i, i < ap_Z p m →
  K (16 * m + i) = -1 ∨ (ap_kp p m i 6 ∧ ∀ v, v < 32 → bt (K (16 * m + i)) v = true → v < 6 ∧ ap_kp p m i v)
section
variable {p : ap_T} {m : Nat} {N K : Nat → Int32}
theorem al_31 (G : al_G p m K) {i : Nat} (hi : i < ap_Z p m) : (K (16 * m + i) = -1 ∧ bt (K (16 * m + i)) 31 = true) ∨ (bt (K (16 * m + i)) 31 = false ∧ ap_kp p m i 6 ∧ ∀ v, v < 32 → bt (K (16 * m + i)) v = true → v < 6 ∧ ap_kp p m i v) := by
  rcases G i hi with h | h
  · exact Or.inl ⟨h, by rw [h]; decide⟩
  · refine Or.inr ⟨?_, h⟩
    cases e : bt (K (16 * m + i)) 31 with
    | false => rfl
    | true => have := (h.2 31 (by omega) e).1; omega
theorem al_S6 {j : Nat} : al_S m K j 6 = true ↔ bt (K (16 * m + j)) 31 = false := by
  unfold al_S; cases bt (K (16 * m + j)) 31 <;> simp
theorem al_Sv {j v : Nat} (hv : v < 6) : al_S m K j v = true ↔ bt (K (16 * m + j)) 31 = false ∧ bt (K (16 * m + j)) v = true := by
  unfold al_S
  have : ¬ v = 6 := by omega
  cases bt (K (16 * m + j)) 31 <;> simp [this]
theorem al_G_so (G : al_G p m K) : ak_so p m (al_S m K) := by
  intro i hi v hv h
  rcases al_31 G hi with ⟨_, q⟩ | ⟨q, q6, qv⟩
  · by_cases c : v = 6
    · subst c; rw [al_S6, q] at h; exact absurd h (by decide)
    · rw [al_Sv (by omega), q] at h; exact absurd h.1 (by decide)
  · by_cases c : v = 6
    · subst c; exact q6
    · rw [al_Sv (by omega)] at h; exact (qv v (by omega) h.2).2
/-- z: what j had, 0 if no way led to it -/
theorem al_re (H : ap_OK p) (hN : ap_NS p m N) (G : al_G p m K) {j : Nat} (hj : j < ap_Z p m) (h6 : ap_kp p m j 6) {x : Int32}
    (hx : ∀ v, v < 6 → bt x v = true → ap_nd p m j v → ap_kp p m j v) (z : Int32) (hz : (bt (K (16 * m + j)) 31 = true ∧ z = 0) ∨ (bt (K (16 * m + j)) 31 = false ∧ z = K (16 * m + j))) (a : Int32) (ha : a = z ||| (x &&& N (16 * m + j))) :
    al_G p m (upd K (16 * m + j) a) ∧ (∀ i, i < ap_Z p m → ∀ v, v ≤ 6 → al_S m K i v = true → al_S m (upd K (16 * m + j) a) i v = true) ∧
    (al_S m (upd K (16 * m + j) a) j 6 = true ∧ ∀ v, v < 6 → ap_nd p m j v → bt x v = true → al_S m (upd K (16 * m + j) a) j v = true) ∧
    (a ≠ K (16 * m + j) → ak_ca p m (al_S m K) < ak_ca p m (al_S m (upd K (16 * m + j) a))) := by
  have hb : ∀ v, v < 32 → (bt a v = true ↔ bt z v = true ∨ (bt x v = true ∧ ap_nd p m j v)) := by
    intro v hv
    rw [ha, b_or, b_and, Bool.or_eq_true, Bool.and_eq_true, hN j hj v hv]
  have zb : ∀ v, v < 32 → bt z v = true → v < 6 ∧ ap_kp p m j v := by
    intro v hv q
    rcases hz with ⟨_, e⟩ | ⟨e1, e2⟩
    · rw [e, b_0] at q; exact absurd q (by decide)
    · rcases al_31 G hj with ⟨_, w⟩ | ⟨_, _, w⟩
      · rw [e1] at w; exact absurd w (by decide)
      · rw [e2] at q; exact w v hv q
  have a6 : ∀ v, v < 32 → bt a v = true → v < 6 ∧ ap_kp p m j v := by
    intro v hv q
    rcases (hb v hv).mp q with q | ⟨q1, q2⟩
    · exact zb v hv q
    · have v6 := ap_nd_6 H q2
      exact ⟨v6, hx v v6 q1 q2⟩
  have a31 : bt a 31 = false := by
    cases e : bt a 31 with
    | false => rfl
    | true => have := (a6 31 (by omega) e).1; omega
  have sub : ∀ i, i < ap_Z p m → ∀ v, v ≤ 6 → al_S m K i v = true → al_S m (upd K (16 * m + j) a) i v = true := by
    intro i hi v hv h
    by_cases e : i = j
    · subst e
      by_cases c : v = 6
      · subst c; rw [al_S6, pk_us]; exact a31
      · rw [al_Sv (by omega)] at h ⊢
        rw [pk_us]
        refine ⟨a31, (hb v (by omega)).mpr (Or.inl ?_)⟩
        rcases hz with ⟨e1, _⟩ | ⟨_, e2⟩
        · rw [e1] at h; exact absurd h.1 (by decide)
        · rw [e2]; exact h.2
    · unfold al_S at h ⊢
      rw [pk_un (by omega)]; exact h
  refine ⟨fun i hi => ?_, sub, ⟨by rw [al_S6, pk_us]; exact a31, fun v hv hn hbx => ?_⟩, fun hc => ?_⟩
  · by_cases e : i = j
    · subst e
      rw [pk_us]
      exact Or.inr ⟨h6, a6⟩
    · rw [pk_un (by omega)]; exact G i hi
  · rw [al_Sv hv, pk_us]; exact ⟨a31, (hb v (by omega)).mpr (Or.inr ⟨hbx, hn⟩)⟩
  · rcases hz with ⟨e1, e2⟩ | ⟨e1, e2⟩
    · refine ak_lt sub hj (v := 6) (by omega) ?_ (by rw [al_S6, pk_us]; exact a31)
      cases e : al_S m K j 6 with
      | false => rfl
      | true => rw [al_S6, e1] at e; exact absurd e (by decide)
    · have ex : ∃ v, v < 32 ∧ bt a v = true ∧ bt (K (16 * m + j)) v = false := by
        apply Classical.byContradiction
        intro nn
        apply hc
        refine b_ext (fun v hv => ?_)
        cases e : bt (K (16 * m + j)) v with
        | true => exact (hb v hv).mpr (Or.inl (by rw [e2]; exact e))
        | false =>
          cases e' : bt a v with
          | false => rfl
          | true => exact absurd ⟨v, hv, e', e⟩ nn
      obtain ⟨v, hv, q1, q2⟩ := ex
      have v6 := (a6 v hv q1).1
      refine ak_lt sub hj (v := v) (by omega) ?_ (by rw [al_Sv v6, pk_us]; exact ⟨a31, q1⟩)
      cases e : al_S m K j v with
      | false => rfl
      | true => rw [al_Sv v6, q2] at e; exact absurd e.2 (by decide)
def al_T (p : ap_T) (m : Nat) (K0 K : Nat → Int32) (fl : Int32) : Prop :=
  al_G p m K ∧ al_out p m K0 K ∧ (∀ i, i < ap_Z p m → ∀ v, v ≤ 6 → al_S m K0 i v = true → al_S m K i v = true) ∧
  ((fl = 0 ∧ K = K0) ∨ (fl = 1 ∧ ak_ca p m (al_S m K0) < ak_ca p m (al_S m K)))
theorem al_T01 {K0 : Nat → Int32} {fl : Int32} (T : al_T p m K0 K fl) : fl = 0 ∨ fl = 1 := by
  rcases T.2.2.2 with ⟨f, _⟩ | ⟨f, _⟩
  · exact Or.inl f
  · exact Or.inr f
theorem al_T0 {K0 : Nat → Int32} {fl : Int32} (T : al_T p m K0 K fl) (h : fl = 0) : K = K0 := by
  rcases T.2.2.2 with ⟨_, f⟩ | ⟨f, _⟩
  · exact f
  · rw [h] at f; exact absurd f (by decide)
end
section
variable {p : ap_T} {kn md lv up dn dp bg gY oc sh rn po en : Int32} {sA sB NY PY KY va fY al me pt h lo ou es td ph : Nat → Int32}
variable {m i : Nat}
/-- what is known of place s behind i when nothing is new -/
def al_C (p : ap_T) (m i : Nat) (K0 : Nat → Int32) (s : Nat) : Prop :=
  al_S m K0 i 6 = true → ap_sc p m i s → al_S m K0 s 6 = true ∧ ∀ v, v < 6 → ap_nd p m s v → (ap_gn p m i v ∨ al_S m K0 i v = true ∧ ¬ ap_kl p m i v) → al_S m K0 s v = true
theorem ay_spl (H : ap_OK p) (hAB : ap_AB p sA sB) (hm : m < 4) (hi : i < ap_Z p m) (hN : ap_NS p m NY) (hP : ap_PS p m PY) (K0 : Nat → Int32) (fl set : Int32) (hs : ∀ j, j < 32 → (bt set j = true ↔ ap_sc p m i j)) (hf : fl = 0 ∨ fl = 1) (post : Int32 → SY → Prop)
    (hp : ∀ KY r, (r = 0 ∨ r = 1) → al_T p m K0 KY (fl ||| r) → (fl ||| r = 0 → ∀ s, s < ap_Z p m → al_C p m i K0 s) → post r (kn, md, lv, up, dn, dp, bg, gY, oc, sh, rn, po, en, ap_oo p, sA, sB, ap_c p, ap_sz p, ap_L p, NY, PY, KY, va, fY, al, me, pt, h, lo, ou, es, td, ph)) :
    ∀ d j, j + d = ap_Z p m → ∀ KY nw, (nw = 0 ∨ nw = 1) → al_T p m K0 KY (fl ||| nw) → (fl ||| nw = 0 → ∀ s, s < j → al_C p m i K0 s) → wY_spread_24 post (nI m) (nI (16 * m + i)) set kn md lv up dn dp bg gY oc sh rn po en (d + 1) nw (nI (16 * m + j)) (ap_oo p) sA sB (ap_c p) (ap_sz p) (ap_L p) NY PY KY va fY al me pt h lo ou es td ph := by
  have hz := H.2.1 m
  have hk : 16 * m + i < 64 := by omega
  have hI : vp_in (nI (16 * m + i)) 64 := vp_in_nI hk (by omega)
  have ek : (nI (16 * m + i)).toNatClampNeg = 16 * m + i := nI_clamp (by omega)
  have eZ : 16 * nI m + ap_sz p (nI m).toNatClampNeg = nI (16 * m + ap_Z p m) := by rw [ap_szm p hm, ap_yk]
  intro d
  induction d with
  | zero =>
    intro j hj KY nw hn T hc
    have e : j = ap_Z p m := by omega
    subst e
    refine ⟨vp_in_nI hm (by omega), br_t (by rw [eZ]; exact nI_le (by omega) (by omega)) ⟨by rcases hn with e | e <;> rw [e] <;> rfl, hp KY nw hn T hc⟩⟩
  | succ d ih =>
    intro j hj KY nw hn T hc
    have hkj : 16 * m + j < 64 := by omega
    have hIj : vp_in (nI (16 * m + j)) 64 := vp_in_nI hkj (by omega)
    have ekj : (nI (16 * m + j)).toNatClampNeg = 16 * m + j := nI_clamp (by omega)
    have skip : (fl ||| nw = 0 → al_C p m i K0 j) → ∀ y : Int32, y = nI (16 * m + j) + 1 → wY_spread_24 post (nI m) (nI (16 * m + i)) set kn md lv up dn dp bg gY oc sh rn po en (d + 1) nw y (ap_oo p) sA sB (ap_c p) (ap_sz p) (ap_L p) NY PY KY va fY al me pt h lo ou es td ph := by
      intro hcj y ey
      rw [ey, nI_1]
      refine ih (j + 1) (by omega) KY nw hn T (fun f s hs' => ?_)
      by_cases e : s = j
      · subst e; exact hcj f
      · exact hc f s (by omega)
    refine ⟨vp_in_nI hm (by omega), br_f (by rw [eZ]; exact nI_ge (by omega) (by omega)) ⟨hI, ?_⟩⟩
    rw [ek]
    refine br_c (fun c => skip (fun f q => ?_)) (fun c => ?_)
    · rw [al_S6, ← al_T0 T f] at q
      rw [ad_neg, q] at c; exact absurd c (by decide)
    · have i31 : bt (KY (16 * m + i)) 31 = false := by
        rw [ad_neg] at c
        cases e : bt (KY (16 * m + i)) 31 with
        | false => rfl
        | true => exact absurd e c
      obtain ⟨_, i6, iv⟩ : bt (KY (16 * m + i)) 31 = false ∧ ap_kp p m i 6 ∧ ∀ v, v < 32 → bt (KY (16 * m + i)) v = true → v < 6 ∧ ap_kp p m i v := by
        rcases al_31 T.1 hi with ⟨_, w⟩ | w
        · rw [i31] at w; exact absurd w (by decide)
        · exact w
      have eis : nI (16 * m + j) - 16 * nI m = nI j := by
        have : (16 : Int32) * nI m = nI (16 * m) := pk_mul 16 m
        rw [this, pk_sub (by omega), show 16 * m + j - 16 * m = j by omega]
      rw [eis]
      refine br_c (fun c2 => skip (fun f _ q => ?_)) (fun c2 => ⟨hIj, ?_⟩)
      · rw [ad_shr1 _ (by omega), (hs j (by omega)).mpr q] at c2; exact absurd c2 (by decide)
      · have hsc : ap_sc p m i j := (hs j (by omega)).mp (by rw [ad_shr1 _ (by omega)] at c2; exact ad_nf c2)
        obtain ⟨x, hx, wx⟩ := ay_kb (kn := kn) (md := md) (lv := lv) (up := up) (dn := dn) (dp := dp) (bg := bg) (gY := gY) (oc := oc) (sh := sh) (rn := rn) (po := po) (en := en) (sA := sA) (sB := sB) (NY := NY) (PY := PY) (KY := KY) (va := va) (fY := fY) (al := al) (me := me) (pt := pt) (h := h) (lo := lo) (ou := ou) (es := es) (td := td) (ph := ph) H hAB hm hi hP
        have so : ∀ v, v < 6 → bt x v = true → ap_nd p m j v → ap_kp p m j v := by
          intro v hv hb hn
          rcases (hx v (by omega)).mp hb with g | ⟨g1, g2⟩
          · exact ad_kp_3 hv i6 hsc g hn
          · exact ad_kp_4 hv i6 (iv v (by omega) g1).2 g2 hsc hn
        have go : ∀ z : Int32, ((bt (KY (16 * m + j)) 31 = true ∧ z = 0) ∨ (bt (KY (16 * m + j)) 31 = false ∧ z = KY (16 * m + j))) →
            wY_spread_88 post (wY_spread_24 post (nI m) (nI (16 * m + i)) set kn md lv up dn dp bg gY oc sh rn po en (d + 1)) (nI m) (nI (16 * m + i)) set nw (nI (16 * m + j)) z kn md lv up dn dp bg gY oc sh rn po en (ap_oo p) sA sB (ap_c p) (ap_sz p) (ap_L p) NY PY KY va fY al me pt h lo ou es td ph := by
          intro z hzz
          obtain ⟨A1, A2, A3, A4⟩ := al_re H hN T.1 hsc.1 (ad_kp_2 i6 hsc) so z hzz _ rfl
          refine wx _ ⟨hIj, nm_e ⟨hIj, ?_⟩⟩
          rw [ekj]
          refine br_c (fun c3 => skip (fun f q _ => ?_)) (fun c3 => ⟨hIj, nm_e (nm_r (nI_1 _) ?_)⟩)
          · rw [ad_updS _ _ _ c3.symm] at A3
            have eK := al_T0 T f
            refine ⟨by rw [← eK]; exact A3.1, fun v hv hn g => ?_⟩
            rw [← eK]
            refine A3.2 v hv hn ((hx v (by omega)).mpr ?_)
            rcases g with g | ⟨g1, g2⟩
            · exact Or.inl g
            · rw [al_Sv hv, ← eK] at g1; exact Or.inr ⟨g1.2, g2⟩
          · have o1 : fl ||| (1 : Int32) = 1 := by rcases hf with e | e <;> rw [e] <;> decide
            rw [show 16 * m + j + 1 = 16 * m + (j + 1) by omega]
            refine ih (j + 1) (by omega) _ 1 (Or.inr rfl) ⟨A1, al_out_u T.2.1 (by omega) _, fun a ha v hv q => A2 a ha v hv (T.2.2.1 a ha v hv q), Or.inr ⟨o1, Nat.lt_of_le_of_lt (ak_mono T.2.2.1) (A4 c3)⟩⟩ (fun f => ?_)
            rw [o1] at f; exact absurd f (by decide)
        rw [ekj]
        refine br_c (fun c3 => ⟨hIj, go _ (Or.inr ⟨?_, rfl⟩)⟩) (fun c3 => go 0 (Or.inl ⟨?_, rfl⟩))
        · cases e : bt (KY (16 * m + j)) 31 with
          | false => rfl
          | true => exact absurd c3 (Int32.not_le.mpr ((ad_neg _).mpr e))
        · exact (ad_neg _).mp (Int32.not_le.mp c3)
theorem ay_sp (H : ap_OK p) (hAB : ap_AB p sA sB) (hm : m < 4) (hi : i < ap_Z p m) (hN : ap_NS p m NY) (hP : ap_PS p m PY) (K0 : Nat → Int32) (fl : Int32) (T : al_T p m K0 KY fl) (post : Int32 → SY → Prop)
    (hp : ∀ KY r, (r = 0 ∨ r = 1) → al_T p m K0 KY (fl ||| r) → (fl ||| r = 0 → ak_cl p m (al_S m K0) i) → post r (kn, md, lv, up, dn, dp, bg, gY, oc, sh, rn, po, en, ap_oo p, sA, sB, ap_c p, ap_sz p, ap_L p, NY, PY, KY, va, fY, al, me, pt, h, lo, ou, es, td, ph)) : wpY_spread post (kn, md, lv, up, dn, dp, bg, gY, oc, sh, rn, po, en, ap_oo p, sA, sB, ap_c p, ap_sz p, ap_L p, NY, PY, KY, va, fY, al, me, pt, h, lo, ou, es, td, ph) (nI m) (nI i) := by
  have hz := H.2.1 m
  obtain ⟨x, hx, wx⟩ := ay_af (kn := kn) (md := md) (lv := lv) (up := up) (dn := dn) (dp := dp) (bg := bg) (gY := gY) (oc := oc) (sh := sh) (rn := rn) (po := po) (en := en) (sA := sA) (sB := sB) (NY := NY) (PY := PY) (KY := KY) (va := va) (fY := fY) (al := al) (me := me) (pt := pt) (h := h) (lo := lo) (ou := ou) (es := es) (td := td) (ph := ph) H hm (i := i) (by omega)
  refine nm_r (ap_yk m i) (wx _ (nm_r (e' := nI (16 * m + 0)) (pk_mul 16 m) ⟨ap_Z p m + 1, ?_⟩))
  refine ay_spl H hAB hm hi hN hP K0 fl x hx (al_T01 T) post (fun K' r hr T' hc => hp K' r hr T' (fun f q j hs => hc f j hs.1 q hs)) (ap_Z p m) 0 (by omega) KY 0 (Or.inl rfl) ?_ (fun _ s hs => by omega)
  rw [Int32.or_zero]; exact T
theorem ay_113 (n : Nat) : 112 - n + (if (1 : Int32) = 0 then 0 else 1) ≤ 113 := by
  rw [if_neg (by decide)]; omega
theorem ay_rounds (H : ap_OK p) (hAB : ap_AB p sA sB) (hm : m < 4) (hN : ap_NS p m NY) (hP : ap_PS p m PY) (post : SY → Prop) (J : Int32 → Int32 → Int32 → Int32 → Int32 → Int32 → Int32 → Int32 → Int32 → Int32 → Int32 → Int32 → Int32 → Int32 → (Nat → Int32) → (Nat → Int32) → (Nat → Int32) → (Nat → Int32) → (Nat → Int32) → (Nat → Int32) → (Nat → Int32) → (Nat → Int32) → (Nat → Int32) → (Nat → Int32) → (Nat → Int32) → (Nat → Int32) → (Nat → Int32) → (Nat → Int32) → (Nat → Int32) → (Nat → Int32) → (Nat → Int32) → (Nat → Int32) → (Nat → Int32) → (Nat → Int32) → Prop) (K1 : Nat → Int32)
    (hJ : ∀ KY, ap_KY p m KY → al_out p m K1 KY → J (nI m + 1) kn md lv up dn dp bg gY oc sh rn po en (ap_oo p) sA sB (ap_c p) (ap_sz p) (ap_L p) NY PY KY va fY al me pt h lo ou es td ph) :
    ∀ d KY fl, 112 - ak_ca p m (al_S m KY) + (if fl = 0 then 0 else 1) ≤ d → (fl = 0 ∨ fl = 1) → al_G p m KY → al_out p m K1 KY → (0 < ap_Z p m → al_S m KY 0 6 = true) → (0 < ap_Z p m → ap_L p m = 0 → ap_nd p m 0 0 → al_S m KY 0 0 = true) →
      (fl = 0 → ∀ i, i < ap_Z p m → ak_cl p m (al_S m KY) i) → wY_look_214 post J (nI m) (d + 1) fl kn md lv up dn dp bg gY oc sh rn po en (ap_oo p) sA sB (ap_c p) (ap_sz p) (ap_L p) NY PY KY va fY al me pt h lo ou es td ph := by
  have hz := H.2.1 m
  intro d
  have fin : ∀ KY, al_G p m KY → al_out p m K1 KY → (0 < ap_Z p m → al_S m KY 0 6 = true) → (0 < ap_Z p m → ap_L p m = 0 → ap_nd p m 0 0 → al_S m KY 0 0 = true) →
      (∀ i, i < ap_Z p m → ak_cl p m (al_S m KY) i) → J (nI m + 1) kn md lv up dn dp bg gY oc sh rn po en (ap_oo p) sA sB (ap_c p) (ap_sz p) (ap_L p) NY PY KY va fY al me pt h lo ou es td ph := by
    intro KY G o b1 b2 cl
    have D := ak_done (al_G_so G) b1 b2 cl
    refine hJ KY (fun i hi => ?_) o
    rcases al_31 G hi with ⟨e, w⟩ | ⟨w, w6, wv⟩
    · refine Or.inl ⟨fun q => ?_, e⟩
      have := (D i hi 6 (by omega)).mpr q
      rw [al_S6, w] at this; exact absurd this (by decide)
    · refine Or.inr ⟨w6, fun v hv => ⟨wv v hv, fun ⟨v6, q⟩ => ?_⟩⟩
      have := (D i hi v (by omega)).mpr q
      rw [al_Sv v6] at this; exact this.2
  induction d with
  | zero =>
    intro KY fl hd hf G o b1 b2 hc
    have f0 : fl = 0 := by
      rcases hf with f | f
      · exact f
      · rw [if_neg (by rw [f]; decide)] at hd; omega
    exact br_t f0 (nm_e (fin KY G o b1 b2 (hc f0)))
  | succ d ih =>
    intro KY fl hd hf G o b1 b2 hc
    rcases hf with f | f
    · exact br_t f (nm_e (fin KY G o b1 b2 (hc f)))
    · refine br_f (by rw [f]; decide) ⟨ap_Z p m + 1, ?_⟩
      rw [if_neg (by rw [f]; decide)] at hd
      have inner : ∀ e i, i + e = ap_Z p m → ∀ K' fl', al_T p m KY K' fl' → (fl' = 0 → ∀ j, j < i → ak_cl p m (al_S m KY) j) →
          wY_look_222 post J (wY_look_214 post J (nI m) (d + 1)) (nI m) (e + 1) fl' (nI i) kn md lv up dn dp bg gY oc sh rn po en (ap_oo p) sA sB (ap_c p) (ap_sz p) (ap_L p) NY PY K' va fY al me pt h lo ou es td ph := by
        intro e
        induction e with
        | zero =>
          intro i hi K' fl' T hc'
          have ei : i = ap_Z p m := by omega
          subst ei
          refine ⟨vp_in_nI hm (by omega), br_t (by rw [ap_szm p hm]; exact nI_le (by omega) (by omega)) ?_⟩
          obtain ⟨T1, T2, T3, T4⟩ := T
          refine ih K' fl' ?_ (al_T01 ⟨T1, T2, T3, T4⟩) T1 (al_out_t o T2) (fun q => T3 0 q 6 (by omega) (b1 q)) (fun q q1 q2 => T3 0 q 0 (by omega) (b2 q q1 q2)) ?_
          · rcases T4 with ⟨g, eK⟩ | ⟨g, lt⟩
            · rw [if_pos g, eK]; omega
            · rw [if_neg (by rw [g]; decide)]
              have := ak_ca_le (m := m) H (al_S m K')
              omega
          · intro g
            have eK := al_T0 ⟨T1, T2, T3, T4⟩ g
            rw [eK]; exact hc' g
        | succ e ihe =>
          intro i hi K' fl' T hc'
          refine ⟨vp_in_nI hm (by omega), br_f (by rw [ap_szm p hm]; exact nI_ge (by omega) (by omega)) ?_⟩
          refine ay_sp H hAB hm (by omega) hN hP KY fl' T _ (fun K'' r hr T' hcl => nm_e (nm_r (nI_1 i) (ihe (i + 1) (by omega) K'' _ T' (fun g j hj => ?_))))
          by_cases ej : j = i
          · subst ej; exact hcl g
          · exact hc' (ak_or0 (al_T01 T) hr g).1 j (by omega)
      exact inner (ap_Z p m) 0 (by omega) KY 0 ⟨G, al_out_r, fun _ _ _ _ q => q, Or.inl ⟨rfl, rfl⟩⟩ (fun _ j hj => by omega)
theorem ay_plans (H : ap_OK p) (hAB : ap_AB p sA sB) (hm : m < 4) (hN : ap_NS p m NY) (post : SY → Prop) (J : Int32 → Int32 → Int32 → Int32 → Int32 → Int32 → Int32 → Int32 → Int32 → Int32 → Int32 → Int32 → Int32 → Int32 → (Nat → Int32) → (Nat → Int32) → (Nat → Int32) → (Nat → Int32) → (Nat → Int32) → (Nat → Int32) → (Nat → Int32) → (Nat → Int32) → (Nat → Int32) → (Nat → Int32) → (Nat → Int32) → (Nat → Int32) → (Nat → Int32) → (Nat → Int32) → (Nat → Int32) → (Nat → Int32) → (Nat → Int32) → (Nat → Int32) → (Nat → Int32) → (Nat → Int32) → Prop) (P1 K1 : Nat → Int32)
    (hJ : ∀ PY KY, ap_PS p m PY → ap_KY p m KY → al_out p m P1 PY → al_out p m K1 KY → J (nI m + 1) kn md lv up dn dp bg gY oc sh rn po en (ap_oo p) sA sB (ap_c p) (ap_sz p) (ap_L p) NY PY KY va fY al me pt h lo ou es td ph) :
    ∀ d i, i + d = ap_Z p m → ∀ PY KY, al_out p m P1 PY → al_out p m K1 KY → (∀ j, j < i → ap_Pl p m j (PY (16 * m + j)) ∧ KY (16 * m + j) = -1) → wY_look_99 post J (nI m) kn md lv up dn dp bg gY oc sh rn po en (d + 1) (nI (16 * m + i)) (ap_oo p) sA sB (ap_c p) (ap_sz p) (ap_L p) NY PY KY va fY al me pt h lo ou es td ph := by
  have hz := H.2.1 m
  have eZ : 16 * nI m + ap_sz p (nI m).toNatClampNeg = nI (16 * m + ap_Z p m) := by rw [ap_szm p hm, ap_yk]
  have e0 : 16 * nI m = nI (16 * m) := pk_mul 16 m
  have ek0 : (nI (16 * m)).toNatClampNeg = 16 * m := nI_clamp (by omega)
  intro d
  induction d with
  | zero =>
    intro i hi PY KY o1 o2 z
    have hP : ap_PS p m PY := fun j hj => (z j (by omega)).1
    refine ⟨vp_in_nI hm (by omega), br_t (by rw [eZ]; exact nI_le (by omega) (by omega)) ⟨vp_in_nI hm (by omega), ?_⟩⟩
    rw [ap_szm p hm]
    refine pk_le _ 0 (fun c => ⟨114, ?_⟩) (fun c => ⟨vp_in_nI hm (by omega), ?_⟩)
    · exact ay_rounds H hAB hm hN hP post J K1 (fun K' h1 h2 => hJ PY K' hP h1 o1 h2) 113 KY 1 (ay_113 _) (Or.inr rfl) (fun j hj => by omega) o2 (fun q => by omega) (fun q => by omega) (fun q => absurd q (by decide))
    · have go : ∀ x : Int32, (∀ v, v < 32 → (bt x v = true ↔ v = 0 ∧ ap_L p m = 0 ∧ ap_nd p m 0 0)) → ∃ n, wY_look_214 post J (nI m) n 1 kn md lv up dn dp bg gY oc sh rn po en (ap_oo p) sA sB (ap_c p) (ap_sz p) (ap_L p) NY PY (upd KY (16 * m) x) va fY al me pt h lo ou es td ph := by
        intro x hx
        have x31 : bt x 31 = false := by
          cases e : bt x 31 with
          | false => rfl
          | true => have := ((hx 31 (by omega)).mp e).1; omega
        have u0 : upd KY (16 * m) x (16 * m + 0) = x := pk_us
        refine ⟨114, ay_rounds H hAB hm hN hP post J K1 (fun K' h1 h2 => hJ PY K' hP h1 o1 h2) 113 _ 1 (ay_113 _) (Or.inr rfl) (fun j hj => ?_) ?_ (fun q => ?_) (fun q q1 q2 => ?_) (fun q => absurd q (by decide))⟩
        · by_cases ej : j = 0
          · subst ej
            rw [u0]
            refine Or.inr ⟨ad_kp_0 hj, fun v hv hb => ?_⟩
            obtain ⟨w1, w2, w3⟩ := (hx v hv).mp hb
            subst w1
            exact ⟨by omega, ad_kp_1 hj w2 w3⟩
          · rw [pk_un (by omega)]; exact Or.inl (z j (by omega)).2
        · have := al_out_u (i := 0) o2 (by omega) x
          exact this
        · rw [al_S6, u0]; exact x31
        · rw [al_Sv (by omega), u0]; exact ⟨x31, (hx 0 (by omega)).mpr ⟨rfl, q1, q2⟩⟩
      have hI0 : vp_in (nI (16 * m)) 64 := vp_in_nI (by omega) (by omega)
      rw [e0, nI_clamp (n := m) (by omega)]
      refine br_c (fun c1 => ⟨hI0, hI0, nm_e ?_⟩) (fun c1 => ⟨hI0, nm_e ?_⟩)
      · rw [ek0]
        refine go _ (fun v hv => ?_)
        have hn := hN 0 (by omega) 0 (by omega)
        rw [Nat.add_zero] at hn
        rw [b_and, ad_bt1 v hv, Bool.and_eq_true, decide_eq_true_iff]
        constructor
        · rintro ⟨w1, w2⟩
          subst w2
          exact ⟨rfl, c1, hn.mp w1⟩
        · rintro ⟨w1, _, w3⟩
          subst w1
          exact ⟨hn.mpr w3, rfl⟩
      · rw [ek0]
        refine go 0 (fun v hv => ?_)
        rw [b_0]
        exact ⟨fun q => absurd q (by decide), fun q => absurd q.2.1 c1⟩
  | succ d ih =>
    intro i hi PY KY o1 o2 z
    have hI : vp_in (nI (16 * m + i)) 64 := vp_in_nI (by omega) (by omega)
    have eis : nI (16 * m + i) - 16 * nI m = nI i := by
      rw [e0, pk_sub (by omega), show 16 * m + i - 16 * m = i by omega]
    have st : ∀ x : Int32, ap_Pl p m i x → wY_look_156 post J (wY_look_99 post J (nI m) kn md lv up dn dp bg gY oc sh rn po en (d + 1)) (nI m) (nI (16 * m + i)) x (nI (16 * m + i)) kn md lv up dn dp bg gY oc sh rn po en (ap_oo p) sA sB (ap_c p) (ap_sz p) (ap_L p) NY PY KY va fY al me pt h lo ou es td ph := by
      intro x hx
      refine ⟨hI, nm_e ⟨hI, nm_e (nm_r (nI_1 _) ?_)⟩⟩
      rw [nI_clamp (by omega), show 16 * m + i + 1 = 16 * m + (i + 1) by omega]
      refine ih (i + 1) (by omega) _ _ (al_out_u o1 (by omega) x) (al_out_u o2 (by omega) _) (fun j hj => ?_)
      by_cases c : j = i
      · subst c; rw [pk_us, pk_us]; exact ⟨hx, rfl⟩
      · rw [pk_un (by omega), pk_un (by omega)]; exact z j (by omega)
    refine ⟨vp_in_nI hm (by omega), br_f (by rw [eZ]; exact nI_ge (by omega) (by omega)) ?_⟩
    rw [eis]
    refine ay_ln H hAB hm (by omega) hN _ (fun c => br_t rfl ?_) (fun c => br_f (by decide) (st 1 ⟨fun _ => rfl, fun q => absurd c q, fun q => absurd c q⟩))
    exact ay_ho H hAB hm (by omega) hN _ (fun c2 => br_t rfl (st 0 ⟨fun q => absurd q c, fun _ q => absurd q c2, fun _ _ => rfl⟩)) (fun c2 => br_f (by decide) (st 2 ⟨fun q => absurd q c, fun _ _ => rfl, fun _ q => absurd c2 q⟩))
theorem ay_need (H : ap_OK p) (hAB : ap_AB p sA sB) (hm : m < 4) (post : SY → Prop) (J : Int32 → Int32 → Int32 → Int32 → Int32 → Int32 → Int32 → Int32 → Int32 → Int32 → Int32 → Int32 → Int32 → Int32 → (Nat → Int32) → (Nat → Int32) → (Nat → Int32) → (Nat → Int32) → (Nat → Int32) → (Nat → Int32) → (Nat → Int32) → (Nat → Int32) → (Nat → Int32) → (Nat → Int32) → (Nat → Int32) → (Nat → Int32) → (Nat → Int32) → (Nat → Int32) → (Nat → Int32) → (Nat → Int32) → (Nat → Int32) → (Nat → Int32) → (Nat → Int32) → (Nat → Int32) → Prop) (N1 : Nat → Int32)
    (hJ : ∀ NY PY' KY', ap_NS p m NY → ap_PS p m PY' → ap_KY p m KY' → al_out p m N1 NY → al_out p m PY PY' → al_out p m KY KY' → J (nI m + 1) kn md lv up dn dp bg gY oc sh rn po en (ap_oo p) sA sB (ap_c p) (ap_sz p) (ap_L p) NY PY' KY' va fY al me pt h lo ou es td ph) :
    ∀ d i, i + d = ap_Z p m → ∀ NY, al_out p m N1 NY → (∀ j, j < i → ∀ v, v < 32 → (bt (NY (16 * m + j)) v = true ↔ ap_nd p m j v)) → wY_look_25 post J (nI m) kn md lv up dn dp bg gY oc sh rn po en (d + 1) (nI (16 * m + i)) (ap_oo p) sA sB (ap_c p) (ap_sz p) (ap_L p) NY PY KY va fY al me pt h lo ou es td ph := by
  have hz := H.2.1 m
  have eZ : 16 * nI m + ap_sz p (nI m).toNatClampNeg = nI (16 * m + ap_Z p m) := by rw [ap_szm p hm, ap_yk]
  have e0 : 16 * nI m = nI (16 * m) := pk_mul 16 m
  intro d
  induction d with
  | zero =>
    intro i hi NY o1 z
    have hN : ap_NS p m NY := fun j hj => z j (by omega)
    refine ⟨vp_in_nI hm (by omega), br_t (by rw [eZ]; exact nI_le (by omega) (by omega)) (nm_r (e' := nI (16 * m + 0)) e0 ⟨ap_Z p m + 1, ?_⟩)⟩
    exact ay_plans H hAB hm hN post J PY KY (fun P' K' h1 h2 h3 h4 => hJ NY P' K' hN h1 h2 o1 h3 h4) (ap_Z p m) 0 (by omega) PY KY al_out_r al_out_r (fun j hj => by omega)
  | succ d ih =>
    intro i hi NY o1 z
    have hI : vp_in (nI (16 * m + i)) 64 := vp_in_nI (by omega) (by omega)
    have ek : (nI (16 * m + i)).toNatClampNeg = 16 * m + i := nI_clamp (by omega)
    have eis : nI (16 * m + i) - 16 * nI m = nI i := by
      rw [e0, pk_sub (by omega), show 16 * m + i - 16 * m = i by omega]
    have inner : ∀ e v, v + e = 6 → ∀ N', al_out p m N1 N' → (∀ j, j < i → N' (16 * m + j) = NY (16 * m + j)) → (∀ w, w < 32 → (bt (N' (16 * m + i)) w = true ↔ w < v ∧ ap_nd p m i w)) →
        wY_look_49 post J (wY_look_25 post J (nI m) kn md lv up dn dp bg gY oc sh rn po en (d + 1)) (nI m) (nI (16 * m + i)) kn md lv up dn dp bg gY oc sh rn po en (e + 1) (nI v) (ap_oo p) sA sB (ap_c p) (ap_sz p) (ap_L p) N' PY KY va fY al me pt h lo ou es td ph := by
      intro e
      induction e with
      | zero =>
        intro v hv N' o2 h1 h2
        have : v = 6 := by omega
        subst this
        refine br_t (by decide) (nm_r (nI_1 _) ?_)
        rw [show 16 * m + i + 1 = 16 * m + (i + 1) by omega]
        refine ih (i + 1) (by omega) N' o2 (fun j hj w hw => ?_)
        by_cases c : j = i
        · subst c
          rw [h2 w hw]
          exact ⟨fun q => q.2, fun q => ⟨ap_nd_6 H q, q⟩⟩
        · rw [h1 j (by omega)]; exact z j (by omega) w hw
      | succ e ihe =>
        intro v hv N' o2 h1 h2
        refine br_f (nI_ge (b := 6) (by omega) (by decide)) ?_
        rw [eis]
        refine ay_nd H hAB hm (by omega) (by omega) _ (fun c => br_t rfl (nm_r (nI_1 v) (ihe (v + 1) (by omega) N' o2 h1 (fun w hw => ?_)))) (fun c => br_f (by decide) ⟨hI, hI, nm_e (nm_r (nI_1 v) ?_)⟩)
        · rw [h2 w hw]
          constructor
          · exact fun q => ⟨by omega, q.2⟩
          · rintro ⟨q1, q2⟩
            refine ⟨?_, q2⟩
            have : w ≠ v := fun y => c (by rw [← y]; exact q2)
            omega
        · rw [ek]
          refine ihe (v + 1) (by omega) _ (al_out_u o2 (by omega) _) (fun j hj => by rw [pk_un (by omega)]; exact h1 j hj) (fun w hw => ?_)
          rw [pk_us, b_or, Bool.or_eq_true, h2 w hw, ad_b1 (by omega) w hw]
          constructor
          · rintro (⟨q1, q2⟩ | q)
            · exact ⟨by omega, q2⟩
            · subst q; exact ⟨by omega, c⟩
          · rintro ⟨q1, q2⟩
            by_cases y : w = v
            · exact Or.inr y
            · exact Or.inl ⟨by omega, q2⟩
    refine ⟨vp_in_nI hm (by omega), br_f (by rw [eZ]; exact nI_ge (by omega) (by omega)) ⟨hI, nm_e ⟨7, ?_⟩⟩⟩
    rw [ek]
    refine inner 6 0 (by omega) _ (al_out_u o1 (by omega) 0) (fun j hj => pk_un (by omega)) (fun w hw => ?_)
    rw [pk_us, b_0]
    exact ⟨fun q => absurd q (by decide), fun q => by omega⟩
/-- all that is found -/
def ay_Sp (p : ap_T) (m : Nat) (NY PY KY : Nat → Int32) : Prop := ap_NS p m NY ∧ ap_PS p m PY ∧ ap_KY p m KY
theorem ay_Sp_o {p : ap_T} {m m' : Nat} {N P K N' P' K' : Nat → Int32} (H : ap_OK p) (h : ay_Sp p m N P K) (hm : m ≠ m') (o1 : al_out p m' N N') (o2 : al_out p m' P P') (o3 : al_out p m' K K') : ay_Sp p m N' P' K' := by
  have hz := H.2.1 m
  obtain ⟨h1, h2, h3⟩ := h
  have q : ∀ i, i < ap_Z p m → (16 * m + i) / 16 ≠ m' := fun i hi => by omega
  refine ⟨fun i hi v hv => ?_, fun i hi => ?_, fun i hi => ?_⟩
  · rw [o1 _ (fun z => q i hi z.1)]; exact h1 i hi v hv
  · rw [o2 _ (fun z => q i hi z.1)]; exact h2 i hi
  · rw [o3 _ (fun z => q i hi z.1)]; exact h3 i hi
/-- places that no METHOD has stay as they are -/
def al_fr (p : ap_T) (N N' : Nat → Int32) : Prop := ∀ k, ¬ (k / 16 < 4 ∧ k % 16 < ap_Z p (k / 16)) → N' k = N k
theorem al_fr_t {p : ap_T} {m : Nat} {N N' N'' : Nat → Int32} (hm : m < 4) (h : al_fr p N N') (h' : al_out p m N' N'') : al_fr p N N'' := fun k hk => (h' k (fun z => hk ⟨by omega, by rw [z.1]; exact z.2⟩)).trans (h k hk)
theorem ay_lookl (H : ap_OK p) (hAB : ap_AB p sA sB) (N0 P0 K0 : Nat → Int32) (post : SY → Prop)
    (hp : ∀ NY PY KY, (∀ m, m < 4 → ay_Sp p m NY PY KY) → al_fr p N0 NY → al_fr p P0 PY → al_fr p K0 KY → post (kn, md, lv, up, dn, dp, bg, gY, oc, sh, rn, po, en, ap_oo p, sA, sB, ap_c p, ap_sz p, ap_L p, NY, PY, KY, va, fY, al, me, pt, h, lo, ou, es, td, ph)) :
    ∀ d m, m + d = 4 → ∀ NY PY KY, (∀ j, j < m → ay_Sp p j NY PY KY) → al_fr p N0 NY → al_fr p P0 PY → al_fr p K0 KY → wY_look_15 post (d + 1) (nI m) kn md lv up dn dp bg gY oc sh rn po en (ap_oo p) sA sB (ap_c p) (ap_sz p) (ap_L p) NY PY KY va fY al me pt h lo ou es td ph := by
  intro d
  induction d with
  | zero =>
    intro m hm NY PY KY h f1 f2 f3
    have : m = 4 := by omega
    subst this
    exact br_t (by decide) (hp NY PY KY h f1 f2 f3)
  | succ d ih =>
    intro m hm NY PY KY h f1 f2 f3
    have e0 : 16 * nI m = nI (16 * m) := pk_mul 16 m
    refine br_f (nI_ge (b := 4) (by omega) (by decide)) (nm_r (e' := nI (16 * m + 0)) e0 ⟨ap_Z p m + 1, ?_⟩)
    refine ay_need H hAB (by omega) post _ NY (fun N' P' K' h1 h2 h3 o1 o2 o3 => ?_) (ap_Z p m) 0 (by omega) NY al_out_r (fun j hj => by omega)
    rw [nI_1]
    refine ih (m + 1) (by omega) N' P' K' (fun j hj => ?_) (al_fr_t (by omega) f1 o1) (al_fr_t (by omega) f2 o2) (al_fr_t (by omega) f3 o3)
    by_cases c : j = m
    · subst c; exact ⟨h1, h2, h3⟩
    · exact ay_Sp_o H (h j (by omega)) c o1 o2 o3
theorem ay_look (H : ap_OK p) (hAB : ap_AB p sA sB) (hk : kn = 0 ∨ (kn = 1 ∧ ∀ m, m < 4 → ay_Sp p m NY PY KY)) (post : SY → Prop)
    (hp : ∀ NY' PY' KY', (∀ m, m < 4 → ay_Sp p m NY' PY' KY') → al_fr p NY NY' → al_fr p PY PY' → al_fr p KY KY' → post (1, md, lv, up, dn, dp, bg, gY, oc, sh, rn, po, en, ap_oo p, sA, sB, ap_c p, ap_sz p, ap_L p, NY', PY', KY', va, fY, al, me, pt, h, lo, ou, es, td, ph)) : wpY_look post (kn, md, lv, up, dn, dp, bg, gY, oc, sh, rn, po, en, ap_oo p, sA, sB, ap_c p, ap_sz p, ap_L p, NY, PY, KY, va, fY, al, me, pt, h, lo, ou, es, td, ph) := by
  rcases hk with e | ⟨e, h⟩
  · exact br_t e ⟨5, ay_lookl H hAB NY PY KY post hp 4 0 (by omega) NY PY KY (fun j hj => by omega) (fun _ _ => rfl) (fun _ _ => rfl) (fun _ _ => rfl)⟩
  · subst e
    exact br_f (by decide) (hp NY PY KY h (fun _ _ => rfl) (fun _ _ => rfl) (fun _ _ => rfl))
theorem ay_KY_u {p : ap_T} {m i : Nat} {K K' : Nat → Int32} (h : ap_KY p m K) (h' : ap_KY p m K') (hi : i < ap_Z p m) : K (16 * m + i) = K' (16 * m + i) := by
  rcases h i hi with ⟨a, b⟩ | ⟨a, b⟩ <;> rcases h' i hi with ⟨c, d⟩ | ⟨c, d⟩
  · rw [b, d]
  · exact absurd c a
  · exact absurd a c
  · exact b_ext (fun v hv => ad_iffb (b v hv) (d v hv))
/-- what is found is one thing -/
theorem ay_ev (H : ap_OK p) (hAB : ap_AB p sA sB) (hk : kn = 0 ∨ (kn = 1 ∧ ∀ m, m < 4 → ay_Sp p m NY PY KY)) {N1 P1 K1 : Nat → Int32} (h1 : ∀ m, m < 4 → ay_Sp p m N1 P1 K1) (f1 : al_fr p NY N1) (f2 : al_fr p PY P1) (f3 : al_fr p KY K1) (post : SY → Prop)
    (hp : post (1, md, lv, up, dn, dp, bg, gY, oc, sh, rn, po, en, ap_oo p, sA, sB, ap_c p, ap_sz p, ap_L p, N1, P1, K1, va, fY, al, me, pt, h, lo, ou, es, td, ph)) : wpY_look post (kn, md, lv, up, dn, dp, bg, gY, oc, sh, rn, po, en, ap_oo p, sA, sB, ap_c p, ap_sz p, ap_L p, NY, PY, KY, va, fY, al, me, pt, h, lo, ou, es, td, ph) := by
  refine ay_look H hAB hk post (fun N2 P2 K2 h2 g1 g2 g3 => ?_)
  have sp : ∀ k : Nat, 16 * (k / 16) + k % 16 = k := fun k => by omega
  have eN : N2 = N1 := by
    funext k
    by_cases c : k / 16 < 4 ∧ k % 16 < ap_Z p (k / 16)
    · have := ap_NS_u (h2 _ c.1).1 (h1 _ c.1).1 c.2
      rw [sp] at this; exact this
    · rw [g1 k c, f1 k c]
  have eP : P2 = P1 := by
    funext k
    by_cases c : k / 16 < 4 ∧ k % 16 < ap_Z p (k / 16)
    · have := ap_Pl_u ((h2 _ c.1).2.1 _ c.2) ((h1 _ c.1).2.1 _ c.2)
      rw [sp] at this; exact this
    · rw [g2 k c, f2 k c]
  have eK : K2 = K1 := by
    funext k
    by_cases c : k / 16 < 4 ∧ k % 16 < ap_Z p (k / 16)
    · have := ay_KY_u (h2 _ c.1).2.2 (h1 _ c.1).2.2 c.2
      rw [sp] at this; exact this
    · rw [g3 k c, f3 k c]
  rw [eN, eP, eK]
  exact hp
end
