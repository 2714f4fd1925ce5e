/-! k places from b on hold nothing -/
def af_ze (f : Nat → Int32) (b k : Nat) : Nat → Int32 := fun w => if b ≤ w ∧ w < b + k then 0 else f w
theorem af_ze_0 (f : Nat → Int32) (b : Nat) : af_ze f b 0 = f := by
  funext w
  exact if_neg (fun z => by omega)
theorem af_ze_s (f : Nat → Int32) (b v : Nat) : upd (af_ze f b v) (b + v) 0 = af_ze f b (v + 1) := by
  funext w
  by_cases e : w = b + v
  · subst e
    rw [pk_us]
    exact (if_pos ⟨by omega, by omega⟩).symm
  · rw [pk_un e]
    unfold af_ze
    by_cases c : b ≤ w ∧ w < b + v
    · rw [if_pos c, if_pos ⟨c.1, by omega⟩]
    · rw [if_neg c, if_neg (fun z => c ⟨z.1, by omega⟩)]
theorem af_ze_in {f : Nat → Int32} {b k w : Nat} (h1 : b ≤ w) (h2 : w < b + k) : af_ze f b k w = 0 := if_pos ⟨h1, h2⟩
theorem af_ze_out {f : Nat → Int32} {b k w : Nat} (h : w < b ∨ b + k ≤ w) : af_ze f b k w = f w := if_neg (fun z => by omega)
section
variable {p : ap_T} {kn po en up dn bg lv md gX gY dp sa sh oc rn : Int32} {sA sB N P K R NY PY KY me pt h lx lo va rf al fX fY pe ou es td ph : Nat → Int32}
variable {d M L E m x : Nat}
theorem bx_entl (hd : d < 6) (b : Int32) (hb : b = 0 ∨ b = 1) (post : SX → Prop)
    (hp : post (po, en, up, dn, bg, lv, md, gX, nI (d + 1), sa, sh, ap_sz p, ap_L p, ap_oo p, ap_aA p, ap_aB p, ap_c p, N, P, K, R, upd me d (nI m), upd pt d 0, upd (af_ze h (6 * d) 6) (6 * d) (nI x), upd (af_ze lx (6 * d) 6) (6 * d) b, va, rf, al, fX, pe, ou, es)) :
    ∀ e v, v + e = 6 → wX_enter_12 post (nI m) (nI x) b (nI (6 * d)) po en up dn bg lv md gX (nI d) sa sh (e + 1) (nI v) (ap_sz p) (ap_L p) (ap_oo p) (ap_aA p) (ap_aB p) (ap_c p) N P K R me pt (af_ze h (6 * d) v) (af_ze lx (6 * d) v) va rf al fX pe ou es := by
  intro e
  induction e with
  | zero =>
    intro v hv
    have : v = 6 := by omega
    subst this
    have vi : vp_in (nI (6 * d)) 36 := vp_in_nI (by omega) (by omega)
    have vd : vp_in (nI d) 6 := vp_in_nI hd (by omega)
    have ek : (nI (6 * d)).toNatClampNeg = 6 * d := nI_clamp (by omega)
    have ed : (nI d).toNatClampNeg = d := nI_clamp (by omega)
    exact br_t (by decide) ⟨vi, nm_r (e' := upd (af_ze h (6 * d) 6) (6 * d) (nI x)) (by rw [ek]) ⟨vi, nm_r (e' := upd (af_ze lx (6 * d) 6) (6 * d) b) (by rw [ek, ad_nb hb]) ⟨vd, nm_r (e' := upd me d (nI m)) (by rw [ed]) ⟨vd, nm_r (e' := upd pt d 0) (by rw [ed]) (nm_r (nI_1 d) hp)⟩⟩⟩⟩
  | succ e ih =>
    intro v hv
    have ei : nI (6 * d) + nI v = nI (6 * d + v) := nI_add _ _
    have ek : (nI (6 * d) + nI v).toNatClampNeg = 6 * d + v := by rw [ei, nI_clamp (by omega)]
    have vi : vp_in (nI (6 * d) + nI v) 36 := by rw [ei]; exact vp_in_nI (by omega) (by omega)
    exact br_f (nI_ge (b := 6) (by omega) (by decide)) ⟨vi, nm_r (e' := af_ze h (6 * d) (v + 1)) (by rw [ek, af_ze_s]) ⟨vi, nm_r (e' := af_ze lx (6 * d) (v + 1)) (by rw [ek, ad_nb0, af_ze_s]) (nm_r (nI_1 v) (ih (v + 1) (by omega)))⟩⟩
theorem bx_enter (hd : d < 6) (b : Int32) (hb : b = 0 ∨ b = 1) (post : SX → Prop)
    (hp : post (po, en, up, dn, bg, lv, md, gX, nI (d + 1), sa, sh, ap_sz p, ap_L p, ap_oo p, ap_aA p, ap_aB p, ap_c p, N, P, K, R, upd me d (nI m), upd pt d 0, upd (af_ze h (6 * d) 6) (6 * d) (nI x), upd (af_ze lx (6 * d) 6) (6 * d) b, va, rf, al, fX, pe, ou, es)) :
    wpX_enter post (po, en, up, dn, bg, lv, md, gX, nI d, sa, sh, ap_sz p, ap_L p, ap_oo p, ap_aA p, ap_aB p, ap_c p, N, P, K, R, me, pt, h, lx, va, rf, al, fX, pe, ou, es) (nI m) (nI x) b := by
  have e6 : nI d * 6 = nI (6 * d) := by
    have : nI d * 6 = nI (d * 6) := pk_mul d 6
    rw [this, Nat.mul_comm]
  refine nm_r e6 ⟨7, ?_⟩
  have := bx_entl hd b hb post hp 6 0 (by omega)
  rw [af_ze_0, af_ze_0] at this
  exact this
theorem by_entl (hd : d < 6) (hx : x ≤ 300) (b : Int32) (hb : b = 0 ∨ b = 1) (post : SY → Prop)
    (hp : post (kn, md, lv, up, dn, nI (d + 1), bg, gY, oc, sh, rn, po, en, ap_oo p, sA, sB, ap_c p, ap_sz p, ap_L p, NY, PY, KY, va, fY, al, me, pt, upd (af_ze h (6 * d) 6) (6 * d) (nI x), upd (af_ze lo (6 * d) 6) (6 * d) (if nI x = 0 then 0 else b), ou, es, td, ph)) :
    ∀ e v, v + e = 6 → wY_enter_29 post (nI x) b kn md lv up dn (nI d) bg gY oc sh rn po en (e + 1) (nI (6 * d + v)) (ap_oo p) sA sB (ap_c p) (ap_sz p) (ap_L p) NY PY KY va fY al me pt (af_ze h (6 * d) v) (af_ze lo (6 * d) v) ou es td ph := by
  have e6 : 6 * nI d = nI (6 * d) := pk_mul 6 d
  have e66 : 6 * nI d + 6 = nI (6 * d + 6) := by rw [e6]; exact nI_add _ _
  intro e
  induction e with
  | zero =>
    intro v hv
    have : v = 6 := by omega
    subst this
    have vi : vp_in (6 * nI d) 36 := by rw [e6]; exact vp_in_nI (by omega) (by omega)
    have ek : (6 * nI d).toNatClampNeg = 6 * d := by rw [e6, nI_clamp (by omega)]
    refine br_t (by rw [e66]; exact nI_le (by omega) (by omega)) ⟨vi, nm_r (e' := upd (af_ze h (6 * d) 6) (6 * d) (nI x)) (by rw [ek]) ?_⟩
    have fin : ∀ z : Int32, z = (if nI x = 0 then 0 else b) → wY_enter_103 post z (6 * nI d) kn md lv up dn (nI d) bg gY oc sh rn po en (ap_oo p) sA sB (ap_c p) (ap_sz p) (ap_L p) NY PY KY va fY al me pt (upd (af_ze h (6 * d) 6) (6 * d) (nI x)) (af_ze lo (6 * d) 6) ou es td ph := by
      intro z ez
      refine ⟨vi, nm_r (e' := upd (af_ze lo (6 * d) 6) (6 * d) (if nI x = 0 then 0 else b)) ?_ (nm_r (nI_1 d) hp)⟩
      rw [ek, ez, ad_nb]
      split
      · exact Or.inl rfl
      · exact hb
    rcases hb with f | f
    · exact br_t f (fin 0 (by rw [f]; split <;> rfl))
    · refine br_f (by rw [f]; decide) ?_
      by_cases c : x = 0
      · subst c
        exact br_t (by decide) (fin 0 rfl)
      · exact br_f (nI_nle (by omega) (by omega)) (fin 1 (by rw [if_neg (nI_ne0 (by omega) (by omega)), f]))
  | succ e ih =>
    intro v hv
    have ek : (nI (6 * d + v)).toNatClampNeg = 6 * d + v := nI_clamp (by omega)
    have vi : vp_in (nI (6 * d + v)) 36 := vp_in_nI (by omega) (by omega)
    exact br_f (by rw [e66]; exact nI_ge (by omega) (by omega)) ⟨vi, nm_r (e' := af_ze h (6 * d) (v + 1)) (by rw [ek, af_ze_s]) ⟨vi, nm_r (e' := af_ze lo (6 * d) (v + 1)) (by rw [ek, ad_nb0, af_ze_s]) (nm_r (nI_1 _) (ih (v + 1) (by omega)))⟩⟩
theorem by_enter (hd : d < 6) (hx : x ≤ 300) (b : Int32) (hb : b = 0 ∨ b = 1) (post : SY → Prop)
    (hp : post (kn, md, lv, up, dn, nI (d + 1), bg, gY, oc, sh, rn, po, en, ap_oo p, sA, sB, ap_c p, ap_sz p, ap_L p, NY, PY, KY, va, fY, al, upd me d (nI m), upd pt d 0, upd (af_ze h (6 * d) 6) (6 * d) (nI x), upd (af_ze lo (6 * d) 6) (6 * d) (if nI x = 0 then 0 else b), ou, es, td, ph)) :
    wpY_enter post (kn, md, lv, up, dn, nI d, bg, gY, oc, sh, rn, po, en, ap_oo p, sA, sB, ap_c p, ap_sz p, ap_L p, NY, PY, KY, va, fY, al, me, pt, h, lo, ou, es, td, ph) (nI m) (nI x) b := by
  have vd : vp_in (nI d) 6 := vp_in_nI hd (by omega)
  have ed : (nI d).toNatClampNeg = d := nI_clamp (by omega)
  have e6 : 6 * nI d = nI (6 * d) := pk_mul 6 d
  refine ⟨vd, nm_r (e' := upd me d (nI m)) (by rw [ed]) ⟨vd, nm_r (e' := upd pt d 0) (by rw [ed]) (nm_r (e' := nI (6 * d + 0)) e6 ⟨7, ?_⟩)⟩⟩
  have := by_entl (me := upd me d (nI m)) (pt := upd pt d 0) hd hx b hb post hp 6 0 (by omega)
  rw [af_ze_0, af_ze_0] at this
  exact this
/-! a new object -/
theorem bx_mkl (hM : M < 300) (post : Int32 → SX → Prop) (hp : post (nI (M + 1)) (po, en, up, dn, bg, lv, nI (M + 1), gX, dp, sa, sh, ap_sz p, ap_L p, ap_oo p, ap_aA p, ap_aB p, ap_c p, N, P, K, R, me, pt, h, lx, va, rf, al, af_ze fX (3 * (M + 1)) 3, pe, ou, es)) :
    ∀ e v, v + e = 3 → wX_makeObject_52 post po en up dn bg lv (nI (M + 1)) gX dp sa sh (e + 1) (nI v) (ap_sz p) (ap_L p) (ap_oo p) (ap_aA p) (ap_aB p) (ap_c p) N P K R me pt h lx va rf al (af_ze fX (3 * (M + 1)) v) pe ou es := by
  intro e
  induction e with
  | zero =>
    intro v hv
    have : v = 3 := by omega
    subst this
    exact br_t (by decide) hp
  | succ e ih =>
    intro v hv
    have ei : nI (M + 1) * 3 + nI v = nI (3 * (M + 1) + v) := by
      have : nI (M + 1) * 3 = nI ((M + 1) * 3) := pk_mul (M + 1) 3
      rw [this, nI_add, Nat.mul_comm]
    have ek : (nI (M + 1) * 3 + nI v).toNatClampNeg = 3 * (M + 1) + v := by rw [ei, nI_clamp (by omega)]
    exact br_f (nI_ge (b := 3) (by omega) (by decide)) ⟨by rw [ei]; exact vp_in_nI (by omega) (by omega), nm_r (e' := af_ze fX (3 * (M + 1)) (v + 1)) (by rw [ek, af_ze_s]) (nm_r (nI_1 v) (ih (v + 1) (by omega)))⟩
theorem bx_make (hM : M < 300) (c : Int32) (post : Int32 → SX → Prop)
    (hp : post (nI (M + 1)) (po, en, up, dn, bg, nI (L + 1), nI (M + 1), gX, dp, sa, sh, ap_sz p, ap_L p, ap_oo p, ap_aA p, ap_aB p, ap_c p, N, P, K, R, me, pt, h, lx, upd va (M + 1) c, upd rf (M + 1) 1, upd al (M + 1) 1, af_ze fX (3 * (M + 1)) 3, pe, ou, es)) :
    wpX_makeObject post (po, en, up, dn, bg, nI L, nI M, gX, dp, sa, sh, ap_sz p, ap_L p, ap_oo p, ap_aA p, ap_aB p, ap_c p, N, P, K, R, me, pt, h, lx, va, rf, al, fX, pe, ou, es) c := by
  have vi : vp_in (nI (M + 1)) 301 := vp_in_nI (by omega) (by omega)
  have ek : (nI (M + 1)).toNatClampNeg = M + 1 := nI_clamp (by omega)
  refine nm_r (nI_1 M) (nm_r (nI_1 L) ⟨vi, nm_r (e' := upd va (M + 1) c) (by rw [ek]) ⟨vi, nm_r (e' := upd rf (M + 1) 1) (by rw [ek]) ⟨vi, nm_r (e' := upd al (M + 1) 1) (by rw [ek, ad_nb1]) ⟨4, ?_⟩⟩⟩⟩)
  have := bx_mkl (lv := nI (L + 1)) (va := upd va (M + 1) c) (rf := upd rf (M + 1) 1) (al := upd al (M + 1) 1) hM post hp 3 0 (by omega)
  rw [af_ze_0] at this
  exact this
theorem by_mkl (hM : M < 300) (post : Int32 → SY → Prop) (hp : post (nI (M + 1)) (kn, nI (M + 1), lv, up, dn, dp, bg, gY, oc, sh, rn, po, en, ap_oo p, sA, sB, ap_c p, ap_sz p, ap_L p, NY, PY, KY, va, af_ze fY (3 * (M + 1)) 3, al, me, pt, h, lo, ou, es, td, ph)) :
    ∀ e v, v + e = 3 → wY_make_40 post (nI (M + 1)) kn (nI (M + 1)) lv up dn dp bg gY oc sh rn po en (e + 1) (nI (3 * (M + 1) + v)) (ap_oo p) sA sB (ap_c p) (ap_sz p) (ap_L p) NY PY KY va (af_ze fY (3 * (M + 1)) v) al me pt h lo ou es td ph := by
  have e3 : 3 * nI (M + 1) + 3 = nI (3 * (M + 1) + 3) := by
    have : 3 * nI (M + 1) = nI (3 * (M + 1)) := pk_mul 3 (M + 1)
    rw [this]; exact nI_add _ 3
  intro e
  induction e with
  | zero =>
    intro v hv
    have : v = 3 := by omega
    subst this
    exact br_t (by rw [e3]; exact nI_le (by omega) (by omega)) hp
  | succ e ih =>
    intro v hv
    have ek : (nI (3 * (M + 1) + v)).toNatClampNeg = 3 * (M + 1) + v := nI_clamp (by omega)
    exact br_f (by rw [e3]; exact nI_ge (by omega) (by omega)) ⟨vp_in_nI (by omega) (by omega), nm_r (e' := af_ze fY (3 * (M + 1)) (v + 1)) (by rw [ek, af_ze_s]) (nm_r (nI_1 _) (ih (v + 1) (by omega)))⟩
theorem by_make (hM : M < 300) (c : Int32) (post : Int32 → SY → Prop)
    (hp : post (nI (M + 1)) (kn, nI (M + 1), nI (L + 1), up, dn, dp, bg, gY, oc, sh, rn, po, en, ap_oo p, sA, sB, ap_c p, ap_sz p, ap_L p, NY, PY, KY, upd va (M + 1) c, af_ze fY (3 * (M + 1)) 3, upd al (M + 1) 1, me, pt, h, lo, ou, es, td, ph)) :
    wpY_make post (kn, nI M, nI L, up, dn, dp, bg, gY, oc, sh, rn, po, en, ap_oo p, sA, sB, ap_c p, ap_sz p, ap_L p, NY, PY, KY, va, fY, al, me, pt, h, lo, ou, es, td, ph) c := by
  have vi : vp_in (nI (M + 1)) 301 := vp_in_nI (by omega) (by omega)
  have ek : (nI (M + 1)).toNatClampNeg = M + 1 := nI_clamp (by omega)
  have e3 : 3 * nI (M + 1) = nI (3 * (M + 1) + 0) := pk_mul 3 (M + 1)
  refine nm_r (nI_1 M) (nm_r (nI_1 M) (nm_r (nI_1 L) ⟨vi, nm_r (e' := upd al (M + 1) 1) (by rw [ek, ad_nb1]) ⟨vi, nm_r (e' := upd va (M + 1) c) (by rw [ek]) (nm_r e3 ⟨4, ?_⟩)⟩⟩))
  have := by_mkl (lv := nI (L + 1)) (va := upd va (M + 1) c) (al := upd al (M + 1) 1) hM post hp 3 0 (by omega)
  rw [af_ze_0] at this
  exact this
/-! one reference more -/
theorem bx_up {n : Nat} (hn : n ≤ 300) (post : SX → Prop) (h0 : n = 0 → post (po, en, up, dn, bg, lv, md, gX, dp, sa, sh, ap_sz p, ap_L p, ap_oo p, ap_aA p, ap_aB p, ap_c p, N, P, K, R, me, pt, h, lx, va, rf, al, fX, pe, ou, es)) (h1 : 1 ≤ n → post (po, en, up + 1, dn, bg, lv, md, gX, dp, sa, sh, ap_sz p, ap_L p, ap_oo p, ap_aA p, ap_aB p, ap_c p, N, P, K, R, me, pt, h, lx, va, upd rf n (rf n + 1), al, fX, pe, ou, es)) : wpX_countUp post (po, en, up, dn, bg, lv, md, gX, dp, sa, sh, ap_sz p, ap_L p, ap_oo p, ap_aA p, ap_aB p, ap_c p, N, P, K, R, me, pt, h, lx, va, rf, al, fX, pe, ou, es) (nI n) := by
  by_cases c : n = 0
  · subst c; exact br_t rfl (h0 rfl)
  · have vi : vp_in (nI n) 301 := vp_in_nI (by omega) (by omega)
    exact br_f (nI_ne0 (by omega) (by omega)) ⟨vi, vi, nm_r (e' := upd rf n (rf n + 1)) (by rw [nI_clamp (by omega)]) (nm_e (h1 (by omega)))⟩
theorem by_more {n : Nat} (hn : n ≤ 300) (post : Int32 → SY → Prop) (h0 : n = 0 → post (nI n) (kn, md, lv, up, dn, dp, bg, gY, oc, sh, rn, po, en, ap_oo p, sA, sB, ap_c p, ap_sz p, ap_L p, NY, PY, KY, va, fY, al, me, pt, h, lo, ou, es, td, ph)) (h1 : 1 ≤ n → post (nI n) (kn, md, lv, up + 1, dn, dp, bg, gY, oc, sh, rn, po, en, ap_oo p, sA, sB, ap_c p, ap_sz p, ap_L p, NY, PY, KY, va, fY, al, me, pt, h, lo, ou, es, td, ph)) : wpY_more post (kn, md, lv, up, dn, dp, bg, gY, oc, sh, rn, po, en, ap_oo p, sA, sB, ap_c p, ap_sz p, ap_L p, NY, PY, KY, va, fY, al, me, pt, h, lo, ou, es, td, ph) (nI n) := by
  by_cases c : n = 0
  · subst c; exact br_t (by decide) (h0 rfl)
  · exact br_f (nI_nle (by omega) (by omega)) (nm_e (h1 (by omega)))
/-- what a variable holds is taken, for another place -/
theorem bz_take {v n : Nat} (mb : Int32) (I : ac_MI 0 [] gY h lo d M al rf fX fY L E) (hv : v < 6 * d) (en' : h v = nI n) (hn : n ≤ M) (ha : 1 ≤ n → al n = 1) (hl : af_ll h lx lo) :
    ∃ (h' rf' : Nat → Int32) (up' : Int32), ac_MI n [] gY h' lo d M al rf' fX fY L E ∧ af_ll h' lx lo ∧ (∀ w, w ≠ v → h' w = h w) ∧
      ((sh ≠ 0 ∧ mb ≠ 0 ∧ lo v = 0 ∧ h' = upd h v 0 ∧ up' = up) ∨ (¬ (sh ≠ 0 ∧ mb ≠ 0 ∧ lo v = 0) ∧ h' = h ∧ up' = if n = 0 then up else up + 1)) ∧
      (∀ post : Int32 → SX → Prop, post (nI n) (po, nI E, up', dn, bg, nI L, nI M, gX, nI d, sa, sh, ap_sz p, ap_L p, ap_oo p, ap_aA p, ap_aB p, ap_c p, N, P, K, R, me, pt, h', lx, va, rf', al, fX, pe, ou, es) → wpX_take post (po, nI E, up, dn, bg, nI L, nI M, gX, nI d, sa, sh, ap_sz p, ap_L p, ap_oo p, ap_aA p, ap_aB p, ap_c p, N, P, K, R, me, pt, h, lx, va, rf, al, fX, pe, ou, es) (nI v) mb) := by
  obtain ⟨_, hL24, hEL, hM, hd⟩ := I.2.2.2.2.2.2.1
  have vi : vp_in (nI v) 36 := vp_in_nI (by omega) (by omega)
  have ek : (nI v).toNatClampNeg = v := nI_clamp (by omega)
  by_cases c : sh ≠ 0 ∧ mb ≠ 0 ∧ lo v = 0
  · by_cases c2 : lx v = 0
    · refine ⟨upd h v 0, rf, up, ac_hand I hv en' hn c.2.2, af_ll_h hl c.2.2, fun w hw => pk_un hw, Or.inl ⟨c.1, c.2.1, c.2.2, rfl, rfl⟩, fun post hp => ⟨vi, nm_r (e' := nI n) (by rw [ek]; exact en') ?_⟩⟩
      exact br_f c.1 (br_f c.2.1 ⟨vi, br_t (by rw [ek]; exact c2) ⟨vi, nm_r (e' := upd h v 0) (by rw [ek]) hp⟩⟩)
    · have h0 : h v = 0 := by
        apply Classical.byContradiction
        intro z
        exact c2 (by rw [← (hl v).2.2 z]; exact c.2.2)
      have n0 : n = 0 := (nI_eq (b := 0) (by omega) (by decide)).mp (en'.symm.trans h0)
      subst n0
      refine ⟨upd h v 0, rf, up, ac_hand I hv en' hn c.2.2, af_ll_h hl c.2.2, fun w hw => pk_un hw, Or.inl ⟨c.1, c.2.1, c.2.2, rfl, rfl⟩, fun post hp => ⟨vi, nm_r (e' := nI 0) (by rw [ek]; exact en') ?_⟩⟩
      rw [ad_updS h v 0 h0] at hp
      exact br_f c.1 (br_f c.2.1 ⟨vi, br_f (by rw [ek]; exact c2) (bx_up (by omega) _ (fun _ => hp) (fun z => by omega))⟩)
  · have mi : ac_MI n [] gY h lo d M al (if n = 0 then rf else upd rf n (rf n + 1)) fX fY L E := by
      by_cases c3 : n = 0
      · subst c3; rw [if_pos rfl]; exact I
      · rw [if_neg c3]; exact ac_up I (by omega) hn (ha (by omega))
    refine ⟨h, if n = 0 then rf else upd rf n (rf n + 1), if n = 0 then up else up + 1, mi, hl, fun _ _ => rfl, Or.inr ⟨c, rfl, rfl⟩, fun post hp => ⟨vi, nm_r (e' := nI n) (by rw [ek]; exact en') ?_⟩⟩
    have K : wX_take_37 post (nI n) po (nI E) up dn bg (nI L) (nI M) gX (nI d) sa sh (ap_sz p) (ap_L p) (ap_oo p) (ap_aA p) (ap_aB p) (ap_c p) N P K R me pt h lx va rf al fX pe ou es := by
      refine bx_up (by omega) _ (fun z => ?_) (fun z => ?_)
      · rw [if_pos z, if_pos z] at hp; exact hp
      · rw [if_neg (by omega), if_neg (by omega)] at hp; exact hp
    by_cases c1 : sh = 0
    · exact br_t c1 K
    · refine br_f c1 ?_
      by_cases c2 : mb = 0
      · exact br_t c2 K
      · refine br_f c2 ⟨vi, br_f ?_ K⟩
        rw [ek]
        intro z
        apply c
        refine ⟨c1, c2, ?_⟩
        by_cases c3 : h v = 0
        · exact (hl v).2.1 c3
        · rw [(hl v).2.2 c3]; exact z
theorem by_ref {v n k : Nat} (hv : v < 36) (hk : k < 64) (hn : n ≤ 300) (en' : h v = nI n) {h' : Nat → Int32} {up' : Int32}
    (hc : (sh ≠ 0 ∧ PY k = 2 ∧ lo v = 0 ∧ h' = upd h v 0 ∧ up' = up) ∨ (¬ (sh ≠ 0 ∧ PY k = 2 ∧ lo v = 0) ∧ h' = h ∧ up' = if n = 0 then up else up + 1)) (post : Int32 → SY → Prop)
    (hp : post (nI n) (kn, md, lv, up', dn, dp, bg, gY, oc, sh, rn, po, en, ap_oo p, sA, sB, ap_c p, ap_sz p, ap_L p, NY, PY, KY, va, fY, al, me, pt, h', lo, ou, es, td, ph)) : wpY_reference post (kn, md, lv, up, dn, dp, bg, gY, oc, sh, rn, po, en, ap_oo p, sA, sB, ap_c p, ap_sz p, ap_L p, NY, PY, KY, va, fY, al, me, pt, h, lo, ou, es, td, ph) (nI k) (nI v) := by
  have vi : vp_in (nI v) 36 := vp_in_nI hv (by omega)
  have ek : (nI v).toNatClampNeg = v := nI_clamp (by omega)
  have vk : vp_in (nI k) 64 := vp_in_nI hk (by omega)
  have ekk : (nI k).toNatClampNeg = k := nI_clamp (by omega)
  refine ⟨vi, nm_r (e' := nI n) (by rw [ek]; exact en') ?_⟩
  rcases hc with ⟨c1, c2, c3, e1, e2⟩ | ⟨c, e1, e2⟩
  · refine br_f c1 ⟨vk, br_t (by rw [ekk]; exact c2) ⟨vi, br_t (by rw [ek]; exact c3) (br_f (by decide) ⟨vi, nm_r (e' := upd h v 0) (by rw [ek]) ?_⟩)⟩⟩
    rw [e1, e2] at hp; exact hp
  · have p0 : n = 0 → post (nI n) (kn, md, lv, up, dn, dp, bg, gY, oc, sh, rn, po, en, ap_oo p, sA, sB, ap_c p, ap_sz p, ap_L p, NY, PY, KY, va, fY, al, me, pt, h, lo, ou, es, td, ph) := fun z => by rw [e1, e2, if_pos z] at hp; exact hp
    have p1 : 1 ≤ n → post (nI n) (kn, md, lv, up + 1, dn, dp, bg, gY, oc, sh, rn, po, en, ap_oo p, sA, sB, ap_c p, ap_sz p, ap_L p, NY, PY, KY, va, fY, al, me, pt, h, lo, ou, es, td, ph) := fun z => by rw [e1, e2, if_neg (by omega)] at hp; exact hp
    by_cases c1 : sh = 0
    · exact br_t c1 (br_t rfl (by_more hn _ p0 p1))
    · refine br_f c1 ⟨vk, ?_⟩
      rw [ekk]
      refine br_c (fun c2 => ⟨vi, ?_⟩) (fun c2 => br_t rfl (by_more hn _ p0 p1))
      rw [ek]
      exact br_c (fun c3 => absurd ⟨c1, c2, c3⟩ c) (fun c3 => br_t rfl (by_more hn _ p0 p1))
end
