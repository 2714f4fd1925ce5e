theorem ad_nb {b : Int32} (h : b = 0 ∨ b = 1) : vp_nar .boolean b = b := by
  rcases h with e | e <;> rw [e] <;> decide
/-- the two marks of a loan -/
def af_ll (h lx lo : Nat → Int32) : Prop := ∀ v, (lx v = 0 ∨ lx v = 1) ∧ (h v = 0 → lo v = 0) ∧ (h v ≠ 0 → lo v = lx v)
theorem af_ll_u {h lx lo : Nat → Int32} (H : af_ll h lx lo) (v : Nat) {x b b' : Int32} (hb : b = 0 ∨ b = 1) (h0 : x = 0 → b' = 0) (h1 : x ≠ 0 → b' = b) : af_ll (upd h v x) (upd lx v b) (upd lo v b') := by
  intro w
  by_cases e : w = v
  · subst e
    rw [pk_us, pk_us, pk_us]
    exact ⟨hb, h0, h1⟩
  · rw [pk_un e, pk_un e, pk_un e]
    exact H w
theorem af_ll_h {h lx lo : Nat → Int32} (H : af_ll h lx lo) {v : Nat} (hl : lo v = 0) : af_ll (upd h v 0) lx lo := by
  intro w
  by_cases e : w = v
  · subst e
    rw [pk_us]
    exact ⟨(H w).1, fun _ => hl, fun z => absurd rfl z⟩
  · rw [pk_un e]
    exact H w
theorem af_old {h lx lo : Nat → Int32} (H : af_ll h lx lo) (v : Nat) : (if lx v = 0 then h v else 0) = (if lo v = 0 then h v else 0) := by
  obtain ⟨_, h2, h3⟩ := H v
  by_cases c : h v = 0
  · rw [c]; simp
  · rw [h3 c]
theorem af_bx {x : Nat} {b : Int32} (hx : x ≤ 300) : (if (if nI x = 0 then 0 else b) = 0 then x else 0) = (if b = 0 then x else 0) := by
  by_cases c : nI x = 0
  · have : x = 0 := (nI_eq (b := 0) (by omega) (by decide)).mp c
    subst this
    simp
  · rw [if_neg c]
section
variable {p : ap_T} {kn po en up dn bg lv md gX gY dp sa sh oc rn : Int32} {sA sB N P K R NY PY KY me pt h lx lo va rf al fX fY pe ou es td ph : Nat → Int32}
variable {d M L E : Nat}
theorem bx_emp {v : Nat} (hv : v < 36) (post : Int32 → SX → Prop) (hp : post (if lx v = 0 then h v else 0) (po, en, up, dn, bg, lv, md, gX, dp, sa, sh, ap_sz p, ap_L p, ap_oo p, ap_aA p, ap_aB p, ap_c p, N, P, K, R, me, pt, upd h v 0, upd lx v 0, va, rf, al, fX, pe, ou, es)) : wpX_emptied post (po, en, up, dn, bg, lv, md, gX, dp, sa, sh, ap_sz p, ap_L p, ap_oo p, ap_aA p, ap_aB p, ap_c p, N, P, K, R, me, pt, h, lx, va, rf, al, fX, pe, ou, es) (nI v) := by
  have vi : vp_in (nI v) 36 := vp_in_nI hv (by omega)
  have ek : (nI v).toNatClampNeg = v := nI_clamp (by omega)
  have fin : ∀ z : Int32, z = (if lx v = 0 then h v else 0) → wX_emptied_19 post (nI v) z po en up dn bg lv md gX dp sa sh (ap_sz p) (ap_L p) (ap_oo p) (ap_aA p) (ap_aB p) (ap_c p) N P K R me pt h lx va rf al fX pe ou es := by
    intro z ez
    refine ⟨vi, nm_r (e' := upd h v 0) (by rw [ek]) ⟨vi, nm_r (e' := upd lx v 0) (by rw [ek, ad_nb0]) ?_⟩⟩
    rw [ez]; exact hp
  refine ⟨vi, ?_⟩
  rw [ek]
  exact br_c (fun c => ⟨vi, fin _ (by rw [if_pos c])⟩) (fun c => fin _ (by rw [if_neg c]))
/-- what a variable holds goes (X: out of it, then let go; Y: it gets nothing) -/
theorem by_get {v x : Nat} {b : Int32} (hv : v < 36) (hb : b = 0 ∨ b = 1) (hx : x ≤ 300) (post : SY → Prop)
    (K : ∀ z : Int32, z = (if lo v = 0 then h v else 0) → wY_get_46 post z (if nI x = 0 then 0 else b) (nI v) kn md lv up dn dp bg gY oc sh rn po en (ap_oo p) sA sB (ap_c p) (ap_sz p) (ap_L p) NY PY KY va fY al me pt (upd h v (nI x)) lo ou es td ph) : wpY_get post (kn, md, lv, up, dn, dp, bg, gY, oc, sh, rn, po, en, ap_oo p, sA, sB, ap_c p, ap_sz p, ap_L p, NY, PY, KY, va, fY, al, me, pt, h, lo, ou, es, td, ph) (nI v) (nI x) b := by
  have vi : vp_in (nI v) 36 := vp_in_nI hv (by omega)
  have ek : (nI v).toNatClampNeg = v := nI_clamp (by omega)
  have fin : ∀ z : Int32, z = (if lo v = 0 then h v else 0) → wY_get_19 post (nI v) (nI x) b z kn md lv up dn dp bg gY oc sh rn po en (ap_oo p) sA sB (ap_c p) (ap_sz p) (ap_L p) NY PY KY va fY al me pt h lo ou es td ph := by
    intro z ez
    have k := K z ez
    refine ⟨vi, nm_r (e' := upd h v (nI x)) (by rw [ek]) ?_⟩
    rcases hb with e | e
    · refine br_t e ?_
      have : (if nI x = 0 then 0 else b) = 0 := by rw [e]; split <;> rfl
      rw [this] at k
      exact k
    · refine br_f (by rw [e]; decide) ?_
      by_cases c : x = 0
      · subst c
        exact br_t (by decide) k
      · refine br_f (nI_nle (by omega) (by omega)) ?_
        rw [if_neg (nI_ne0 (by omega) (by omega)), e] at k
        exact k
  refine ⟨vi, ?_⟩
  rw [ek]
  exact br_c (fun c => ⟨vi, fin _ (by rw [if_pos c])⟩) (fun c => fin _ (by rw [if_neg c]))
theorem bz_fill {v x : Nat} {b : Int32} (I : ac_MI (if b = 0 then x else 0) [] gY h lo d M al rf fX fY L E) (hv : v < 6 * d) (hx : x ≤ M) (hl : af_ll h lx lo) (hb : b = 0 ∨ b = 1) :
    ∃ (al' rf' fX' fY' pe' td' ph' es' : Nat → Int32) (L' E' : Nat) (dn' : Int32), ac_MI 0 [] gY (upd h v (nI x)) (upd lo v (if nI x = 0 then 0 else b)) d M al' rf' fX' fY' L' E' ∧ af_ll (upd h v (nI x)) (upd lx v b) (upd lo v (if nI x = 0 then 0 else b)) ∧
      (∀ (pt : Nat → Int32) (post : SX → Prop), post (po, nI E', up, dn', bg, nI L', nI M, gX, nI d, sa, sh, ap_sz p, ap_L p, ap_oo p, ap_aA p, ap_aB p, ap_c p, N, P, K, R, me, pt, upd h v (nI x), upd lx v b, va, rf', al', fX', pe', ou, es') → wpX_fill post (po, nI E, up, dn, bg, nI L, nI M, gX, nI d, sa, sh, ap_sz p, ap_L p, ap_oo p, ap_aA p, ap_aB p, ap_c p, N, P, K, R, me, pt, h, lx, va, rf, al, fX, pe, ou, es) (nI v) (nI x) b) ∧
      (∀ (pt : Nat → Int32) (post : SY → Prop), post (kn, nI M, nI L', up, dn', nI d, bg, gY, oc, sh, rn, po, nI E', ap_oo p, sA, sB, ap_c p, ap_sz p, ap_L p, NY, PY, KY, va, fY', al', me, pt, upd h v (nI x), upd lo v (if nI x = 0 then 0 else b), ou, es', td', ph') → wpY_get post (kn, nI M, nI L, up, dn, nI d, bg, gY, oc, sh, rn, po, nI E, ap_oo p, sA, sB, ap_c p, ap_sz p, ap_L p, NY, PY, KY, va, fY, al, me, pt, h, lo, ou, es, td, ph) (nI v) (nI x) b) := by
  obtain ⟨_, hL24, hEL, hM, hd⟩ := I.2.2.2.2.2.2.1
  obtain ⟨q, hq, eq⟩ := I.2.2.2.1 v hv
  have v36 : v < 36 := by omega
  have vi : vp_in (nI v) 36 := vp_in_nI v36 (by omega)
  have ek : (nI v).toNatClampNeg = v := nI_clamp (by omega)
  have I1 := ac_store (v := v) (x := x) (if nI x = 0 then 0 else b) (by rw [af_bx (by omega)]; exact I) hv hx eq hq
  obtain ⟨al', rf', fX', fY', pe', td', ph', es', L', E', dn', J1, J2, J3⟩ := bz_drop (p := p) (po := po) (up := up) (bg := bg) (gX := gX) (sa := sa) (sh := sh) (N := N) (P := P) (K := K) (R := R) (me := me) (h := upd h v (nI x)) (lx := upd lx v b) (va := va) (ou := ou) (kn := kn) (gY := gY) (oc := oc) (rn := rn) (lo := upd lo v (if nI x = 0 then 0 else b)) (sA := sA) (sB := sB) (NY := NY) (PY := PY) (KY := KY) (dn := dn) (pe := pe) (td := td) (ph := ph) (es := es) I1
  have eo : nI (if lo v = 0 then q else 0) = (if lo v = 0 then h v else 0) := by
    by_cases c : lo v = 0
    · rw [if_pos c, if_pos c, eq]
    · rw [if_neg c, if_neg c]; rfl
  rw [eo] at J2 J3
  refine ⟨al', rf', fX', fY', pe', td', ph', es', L', E', dn', J1, af_ll_u hl v hb (fun c => by rw [if_pos c]) (fun c => by rw [if_neg c]), fun pt post hp => ?_, fun pt post hp => ?_⟩
  · refine bx_emp v36 _ ?_
    rw [af_old hl v]
    refine ⟨vi, nm_r (e' := upd h v (nI x)) (by rw [ek, ad_upd2]) ⟨vi, nm_r (e' := upd lx v b) (by rw [ek, ad_upd2, ad_nb hb]) (J2 pt _ hp)⟩⟩
  · refine by_get v36 hb (by omega) post (fun z ez => ⟨vi, nm_r (e' := upd lo v (if nI x = 0 then 0 else b)) (by rw [ek, ad_nb]; split; exact Or.inl rfl; exact hb) ?_⟩)
    rw [ez]
    exact J3 pt _ hp
/-- a variable is emptied -/
theorem bz_emp {v : Nat} (I : ac_MI 0 [] gY h lo d M al rf fX fY L E) (hv : v < 6 * d) (hl : af_ll h lx lo) :
    ∃ (al' rf' fX' fY' pe' td' ph' es' : Nat → Int32) (L' E' : Nat) (dn' : Int32), ac_MI 0 [] gY (upd h v 0) (upd lo v 0) d M al' rf' fX' fY' L' E' ∧ af_ll (upd h v 0) (upd lx v 0) (upd lo v 0) ∧
      (∀ (pt : Nat → Int32) (post : SX → Prop), post (po, nI E', up, dn', bg, nI L', nI M, gX, nI d, sa, sh, ap_sz p, ap_L p, ap_oo p, ap_aA p, ap_aB p, ap_c p, N, P, K, R, me, pt, upd h v 0, upd lx v 0, va, rf', al', fX', pe', ou, es') → wpX_letGo post (po, nI E, up, dn, bg, nI L, nI M, gX, nI d, sa, sh, ap_sz p, ap_L p, ap_oo p, ap_aA p, ap_aB p, ap_c p, N, P, K, R, me, pt, upd h v 0, upd lx v 0, va, rf, al, fX, pe, ou, es) (if lx v = 0 then h v else 0)) ∧
      (∀ (pt : Nat → Int32) (post : SY → Prop), post (kn, nI M, nI L', up, dn', nI d, bg, gY, oc, sh, rn, po, nI E', ap_oo p, sA, sB, ap_c p, ap_sz p, ap_L p, NY, PY, KY, va, fY', al', me, pt, upd h v 0, upd lo v 0, ou, es', td', ph') → wpY_get post (kn, nI M, nI L, up, dn, nI d, bg, gY, oc, sh, rn, po, nI E, ap_oo p, sA, sB, ap_c p, ap_sz p, ap_L p, NY, PY, KY, va, fY, al, me, pt, h, lo, ou, es, td, ph) (nI v) 0 0) := by
  obtain ⟨_, hL24, hEL, hM, hd⟩ := I.2.2.2.2.2.2.1
  obtain ⟨q, hq, eq⟩ := I.2.2.2.1 v hv
  have v36 : v < 36 := by omega
  have vi : vp_in (nI v) 36 := vp_in_nI v36 (by omega)
  have ek : (nI v).toNatClampNeg = v := nI_clamp (by omega)
  have I1 := ac_store (v := v) (x := 0) (0 : Int32) (by rw [if_pos rfl]; exact I) hv (Nat.zero_le _) eq hq
  obtain ⟨al', rf', fX', fY', pe', td', ph', es', L', E', dn', J1, J2, J3⟩ := bz_drop (p := p) (po := po) (up := up) (bg := bg) (gX := gX) (sa := sa) (sh := sh) (N := N) (P := P) (K := K) (R := R) (me := me) (h := upd h v 0) (lx := upd lx v 0) (va := va) (ou := ou) (kn := kn) (gY := gY) (oc := oc) (rn := rn) (lo := upd lo v 0) (sA := sA) (sB := sB) (NY := NY) (PY := PY) (KY := KY) (dn := dn) (pe := pe) (td := td) (ph := ph) (es := es) I1
  have eo : nI (if lo v = 0 then q else 0) = (if lo v = 0 then h v else 0) := by
    by_cases c : lo v = 0
    · rw [if_pos c, if_pos c, eq]
    · rw [if_neg c, if_neg c]; rfl
  rw [eo] at J2 J3
  refine ⟨al', rf', fX', fY', pe', td', ph', es', L', E', dn', J1, af_ll_u hl v (Or.inl rfl) (fun _ => rfl) (fun _ => rfl), fun pt post hp => ?_, fun pt post hp => ?_⟩
  · rw [af_old hl v]; exact J2 pt post hp
  · refine by_get (x := 0) v36 (Or.inl rfl) (by omega) post (fun z ez => ⟨vi, nm_r (e' := upd lo v 0) (by rw [ek, show (if nI 0 = 0 then (0 : Int32) else 0) = 0 from rfl, ad_nb0]) ?_⟩)
    rw [ez]
    exact J3 pt _ hp
end
