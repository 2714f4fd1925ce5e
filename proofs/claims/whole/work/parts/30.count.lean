section
variable {p : ap_T} {kn md lv up dn dp bg gY oc sh rn po en : Int32} {sA sB NY PY KY va fY al me pt h lo ou es td ph : Nat → Int32}
variable {d M n : Nat}
theorem by_cf (hM : M ≤ 300) (post : Int32 → Prop) (c1 : Nat) (hc : c1 ≤ 100) (hp : post (nI (c1 + ac_F fY M n))) :
    ∀ e o, o + e = M → wY_countOf_57 post (nI n) kn (nI M) lv up dn dp bg gY oc sh rn po en (ap_oo p) sA sB (ap_c p) (ap_sz p) (ap_L p) NY PY KY va fY al me pt h lo ou es td ph (e + 1) (nI (c1 + ad_ct (fun x => decide (fY (3 * (x / 2 + 1) + x % 2) = nI n)) (2 * o))) (nI (o + 1)) := by
  intro e
  induction e with
  | zero =>
    intro o ho
    have : o = M := by omega
    subst this
    exact br_t (nI_lt (by omega) (by omega)) hp
  | succ e ih =>
    intro o ho
    have i0 : 3 * nI (o + 1) = nI (3 * (o + 1)) := pk_mul 3 (o + 1)
    have i1 : 3 * nI (o + 1) + 1 = nI (3 * (o + 1) + 1) := by rw [i0, nI_1]
    have k0 : (3 * nI (o + 1)).toNatClampNeg = 3 * (o + 1) := by rw [i0, nI_clamp (by omega)]
    have k1 : (3 * nI (o + 1) + 1).toNatClampNeg = 3 * (o + 1) + 1 := by rw [i1, nI_clamp (by omega)]
    have v0 : vp_in (3 * nI (o + 1)) 903 := by rw [i0]; exact vp_in_nI (by omega) (by omega)
    have v1 : vp_in (3 * nI (o + 1) + 1) 903 := by rw [i1]; exact vp_in_nI (by omega) (by omega)
    have h2 := ih (o + 1) (by omega)
    rw [show 2 * (o + 1) = 2 * o + 1 + 1 by omega, ad_ct_succ, ad_ct_succ, show 3 * (2 * o / 2 + 1) + 2 * o % 2 = 3 * (o + 1) by omega, show 3 * ((2 * o + 1) / 2 + 1) + (2 * o + 1) % 2 = 3 * (o + 1) + 1 by omega, ac_if1, ac_if1] at h2
    refine br_f (nI_nlt (by omega) (by omega)) ⟨v0, ?_⟩
    rw [k0]
    refine br_c (fun c => nm_r (nI_1 _) ⟨v1, ?_⟩) (fun c => ⟨v1, ?_⟩)
    · rw [if_pos c] at h2
      rw [k1]
      refine br_c (fun c' => nm_r (nI_1 _) (nm_r (nI_1 _) ?_)) (fun c' => nm_r (nI_1 _) ?_)
      · rw [if_pos c'] at h2; exact h2
      · rw [if_neg c'] at h2; exact h2
    · rw [if_neg c] at h2
      rw [k1]
      refine br_c (fun c' => nm_r (nI_1 _) (nm_r (nI_1 _) ?_)) (fun c' => nm_r (nI_1 _) ?_)
      · rw [if_pos c'] at h2; exact h2
      · rw [if_neg c'] at h2; exact h2
theorem by_cv (hM : M ≤ 300) (hd : d ≤ 6) (post : Int32 → Prop) (c0 : Nat) (hc : c0 ≤ 1) (hp : post (nI (c0 + ac_V h lo d n + ac_F fY M n))) :
    ∀ e v, v + e = 6 * d → wY_countOf_16 post (nI n) kn (nI M) lv up dn (nI d) bg gY oc sh rn po en (ap_oo p) sA sB (ap_c p) (ap_sz p) (ap_L p) NY PY KY va fY al me pt h lo ou es td ph (e + 1) (nI (c0 + ad_ct (fun v => decide (h v = nI n) && decide (lo v = 0)) v)) (nI v) := by
  have i6 : 6 * nI d = nI (6 * d) := pk_mul 6 d
  intro e
  induction e with
  | zero =>
    intro v hv
    have : v = 6 * d := by omega
    subst this
    have hb : ac_V h lo d n ≤ 6 * d := ad_ct_le _ _
    exact br_t (by rw [i6]; exact nI_le (by omega) (by omega)) ⟨M + 1, by_cf hM post (c0 + ac_V h lo d n) (by omega) hp M 0 (by omega)⟩
  | succ e ih =>
    intro v hv
    have h2 := ih (v + 1) (by omega)
    rw [ad_ct_succ, ac_if2] at h2
    have vi : vp_in (nI v) 36 := vp_in_nI (by omega) (by omega)
    refine br_f (by rw [i6]; exact nI_ge (by omega) (by omega)) ⟨vi, ?_⟩
    rw [nI_clamp (by omega)]
    refine br_c (fun c => ⟨vi, br_c (fun c' => nm_r (nI_1 _) (nm_r (nI_1 _) ?_)) (fun c' => nm_r (nI_1 _) ?_)⟩) (fun c => nm_r (nI_1 _) ?_)
    · rw [if_pos ⟨c, c'⟩] at h2; exact h2
    · rw [if_neg (fun z => c' z.2)] at h2; exact h2
    · rw [if_neg (fun z => c z.1)] at h2; exact h2
theorem by_count (hM : M ≤ 300) (hd : d ≤ 6) (post : Int32 → Prop) (hp : post (nI (ac_N gY h lo d fY M n))) : wpY_countOf post (kn, nI M, lv, up, dn, nI d, bg, gY, oc, sh, rn, po, en, ap_oo p, sA, sB, ap_c p, ap_sz p, ap_L p, NY, PY, KY, va, fY, al, me, pt, h, lo, ou, es, td, ph) (nI n) := by
  unfold ac_N at hp
  refine br_c (fun c => ⟨6 * d + 1, by_cv hM hd post 1 (by omega) ?_ (6 * d) 0 (by omega)⟩) (fun c => ⟨6 * d + 1, by_cv hM hd post 0 (by omega) ?_ (6 * d) 0 (by omega)⟩)
  · rw [if_pos c] at hp; exact hp
  · rw [if_neg c] at hp; exact hp
end
theorem ac_cl_hi {f : Nat → Int32} {i n x : Nat} (h : 3 * i + 3 ≤ x) : ac_cl f i n x = f x := if_neg (fun z => by have := z.2.2.1; omega)
section
variable {p : ap_T} {kn po en up dn bg lv md gX gY dp sa sh oc rn : Int32} {sA sB N P K R NY PY KY me pt h lx lo va rf al fX fY pe ou es td ph : Nat → Int32}
variable {d M n L E t : Nat}
theorem bx_markl (hM : M ≤ 300) (post : SX → Prop) (hp : post (po, en, up, dn, bg, lv, nI M, gX, dp, sa, sh, ap_sz p, ap_L p, ap_oo p, ap_aA p, ap_aB p, ap_c p, N, P, K, R, me, pt, h, lx, va, rf, al, ac_cl fX M n, pe, ou, es)) :
    ∀ e i, i + e = M → wX_markEnded_39 post (nI n) po en up dn bg lv (nI M) gX dp sa sh (e + 1) (nI (i + 1)) (ap_sz p) (ap_L p) (ap_oo p) (ap_aA p) (ap_aB p) (ap_c p) N P K R me pt h lx va rf al (ac_cl fX i n) pe ou es := by
  intro e
  induction e with
  | zero =>
    intro i hi
    have : i = M := by omega
    subst this
    exact br_t (nI_lt (by omega) (by omega)) hp
  | succ e ih =>
    intro i hi
    have i2 : nI (i + 1) * 3 + 2 = nI (3 * (i + 1) + 2) := by
      have : nI (i + 1) * 3 = nI ((i + 1) * 3) := pk_mul (i + 1) 3
      rw [this]
      have := nI_add ((i + 1) * 3) 2
      rw [show (i + 1) * 3 + 2 = 3 * (i + 1) + 2 by omega] at this
      exact this
    have k2 : (nI (i + 1) * 3 + 2).toNatClampNeg = 3 * (i + 1) + 2 := by rw [i2, nI_clamp (by omega)]
    have v2 : vp_in (nI (i + 1) * 3 + 2) 903 := by rw [i2]; exact vp_in_nI (by omega) (by omega)
    have h2 := ih (i + 1) (by omega)
    refine br_f (nI_nlt (by omega) (by omega)) ⟨v2, ?_⟩
    rw [k2, ac_cl_hi (by omega)]
    refine br_c (fun c => ⟨v2, nm_e (nm_r (nI_1 _) ?_)⟩) (fun c => nm_r (nI_1 _) ?_)
    · rw [ac_cl_s, if_pos c] at h2; exact h2
    · rw [ac_cl_s, if_neg c] at h2; exact h2
theorem bx_mark (h1 : 1 ≤ n) (h2 : n ≤ M) (hM : M ≤ 300) (hE : E ≤ 300) (hL : 1 ≤ L) (post : SX → Prop)
    (hp : post (po, nI (E + 1), up, dn, bg, nI (L - 1), nI M, gX, dp, sa, sh, ap_sz p, ap_L p, ap_oo p, ap_aA p, ap_aB p, ap_c p, N, P, K, R, me, pt, h, lx, va, rf, upd al n 0, ac_cl fX M n, pe, ou, upd es E (nI n))) :
    wpX_markEnded post (po, nI E, up, dn, bg, nI L, nI M, gX, dp, sa, sh, ap_sz p, ap_L p, ap_oo p, ap_aA p, ap_aB p, ap_c p, N, P, K, R, me, pt, h, lx, va, rf, al, fX, pe, ou, es) (nI n) := by
  have vn : vp_in (nI n) 301 := vp_in_nI (by omega) (by omega)
  have vE : vp_in (nI E) 301 := vp_in_nI (by omega) (by omega)
  have eL : nI L - 1 = nI (L - 1) := by
    have := nI_pred (L - 1)
    rw [show L - 1 + 1 = L by omega] at this
    exact this
  refine ⟨vn, nm_r (e' := upd al n 0) (by rw [nI_clamp (by omega), ad_nb0]) (nm_r eL ⟨vE, nm_r (e' := upd es E (nI n)) (by rw [nI_clamp (by omega)]) (nm_r (nI_1 E) ⟨M + 1, ?_⟩)⟩)⟩
  have := bx_markl (en := nI (E + 1)) (lv := nI (L - 1)) (al := upd al n 0) (es := upd es E (nI n)) (n := n) hM post hp M 0 (by omega)
  rw [ac_cl_0] at this
  exact this
theorem by_endl (hM : M ≤ 300) (ht : t < 32) (post : Int32 → SY → Prop) (hp : post (nI (t + 1)) (kn, nI M, lv, up, dn, dp, bg, gY, oc, sh, rn, po, en, ap_oo p, sA, sB, ap_c p, ap_sz p, ap_L p, NY, PY, KY, va, ac_cl fY M n, al, me, pt, h, lo, ou, es, upd td t (nI n), upd ph t 0)) :
    ∀ e i, i + e = M → wY_end_36 post (nI n) (nI t) kn (nI M) lv up dn dp bg gY oc sh rn po en (e + 1) (nI (i + 1)) (ap_oo p) sA sB (ap_c p) (ap_sz p) (ap_L p) NY PY KY va (ac_cl fY i n) al me pt h lo ou es td ph := by
  intro e
  induction e with
  | zero =>
    intro i hi
    have : i = M := by omega
    subst this
    have vt : vp_in (nI t) 32 := vp_in_nI ht (by omega)
    refine br_t (nI_lt (by omega) (by omega)) ⟨vt, nm_r (e' := upd td t (nI n)) (by rw [nI_clamp (by omega)]) ⟨vt, nm_r (e' := upd ph t 0) (by rw [nI_clamp (by omega)]) ?_⟩⟩
    rw [nI_1]; exact hp
  | succ e ih =>
    intro i hi
    have i2 : 3 * nI (i + 1) + 2 = nI (3 * (i + 1) + 2) := by
      have : 3 * nI (i + 1) = nI (3 * (i + 1)) := pk_mul 3 (i + 1)
      rw [this]
      exact nI_add (3 * (i + 1)) 2
    have k2 : (3 * nI (i + 1) + 2).toNatClampNeg = 3 * (i + 1) + 2 := by rw [i2, nI_clamp (by omega)]
    have v2 : vp_in (3 * nI (i + 1) + 2) 903 := by rw [i2]; exact vp_in_nI (by omega) (by omega)
    have h2 := ih (i + 1) (by omega)
    refine br_f (nI_nlt (by omega) (by omega)) ⟨v2, ?_⟩
    rw [k2, ac_cl_hi (by omega)]
    refine br_c (fun c => ⟨v2, nm_e (nm_r (nI_1 _) ?_)⟩) (fun c => nm_r (nI_1 _) ?_)
    · rw [ac_cl_s, if_pos c] at h2; exact h2
    · rw [ac_cl_s, if_neg c] at h2; exact h2
theorem by_end (h1 : 1 ≤ n) (h2 : n ≤ M) (hM : M ≤ 300) (hE : E ≤ 300) (hL : 1 ≤ L) (ht : t < 32) (post : Int32 → SY → Prop)
    (hp : post (nI (t + 1)) (kn, nI M, nI (L - 1), up, dn, dp, bg, gY, oc, sh, rn, po, nI (E + 1), ap_oo p, sA, sB, ap_c p, ap_sz p, ap_L p, NY, PY, KY, va, ac_cl fY M n, upd al n 0, me, pt, h, lo, ou, upd es E (nI n), upd td t (nI n), upd ph t 0)) :
    wpY_end post (kn, nI M, nI L, up, dn, dp, bg, gY, oc, sh, rn, po, nI E, ap_oo p, sA, sB, ap_c p, ap_sz p, ap_L p, NY, PY, KY, va, fY, al, me, pt, h, lo, ou, es, td, ph) (nI n) (nI t) := by
  have vn : vp_in (nI n) 301 := vp_in_nI (by omega) (by omega)
  have vE : vp_in (nI E) 301 := vp_in_nI (by omega) (by omega)
  have eL : nI L - 1 = nI (L - 1) := by
    have := nI_pred (L - 1)
    rw [show L - 1 + 1 = L by omega] at this
    exact this
  refine nm_r (nI_1 E) ⟨vE, nm_r (e' := upd es E (nI n)) (by rw [nI_clamp (by omega)]) ⟨vn, nm_r (e' := upd al n 0) (by rw [nI_clamp (by omega), ad_nb0]) (nm_r eL ⟨M + 1, ?_⟩)⟩⟩
  have := by_endl (en := nI (E + 1)) (lv := nI (L - 1)) (al := upd al n 0) (es := upd es E (nI n)) (n := n) hM ht post hp M 0 (by omega)
  rw [ac_cl_0] at this
  exact this
end
