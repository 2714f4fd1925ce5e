section
variable {p : ap_T} {kn po en up dn bg lv md gX gY dp sa sh oc rn : Int32} {sA sB N P K R NY PY KY me pt h lx lo va rf al fX fY pe ou es td ph : Nat → Int32}
variable {M f : Nat}
/-- which places of the frame are emptied -/
def af_at (kept : Int32) (f v w : Nat) : Prop := 6 * f + v ≤ w ∧ w < 6 * f + 6 ∧ bt kept (w - 6 * f) = false
theorem bz_lga (hf : f < 6) (kept : Int32) : ∀ e v, v + e = 6 → ∀ (h lx lo al rf fX fY pe td ph es : Nat → Int32) (L E : Nat) (dn : Int32), ac_MI 0 [] gY h lo (f + 1) M al rf fX fY L E → af_ll h lx lo →
    ∃ h' lx' lo' : Nat → Int32, ∃ (al' rf' fX' fY' pe' td' ph' es' : Nat → Int32) (L' E' : Nat) (dn' : Int32), ac_MI 0 [] gY h' lo' (f + 1) M al' rf' fX' fY' L' E' ∧ af_ll h' lx' lo' ∧
      (∀ w, (af_at kept f v w → h' w = 0 ∧ lo' w = 0 ∧ lx' w = 0) ∧ (¬ af_at kept f v w → h' w = h w ∧ lo' w = lo w ∧ lx' w = lx w)) ∧
      (∀ (pt : Nat → Int32) (post : SX → Prop), post (po, nI E', up, dn', bg, nI L', nI M, gX, nI (f + 1), sa, sh, ap_sz p, ap_L p, ap_oo p, ap_aA p, ap_aB p, ap_c p, N, P, K, R, me, pt, h', lx', va, rf', al', fX', pe', ou, es') → wX_letGoAllBut_12 post kept (nI (6 * f)) (e + 1) (nI v) po (nI E) up dn bg (nI L) (nI M) gX (nI (f + 1)) sa sh (ap_sz p) (ap_L p) (ap_oo p) (ap_aA p) (ap_aB p) (ap_c p) N P K R me pt h lx va rf al fX pe ou es) ∧
      (sh ≠ 0 → ∀ (pt : Nat → Int32) (post : SY → Prop) (x2 x3 : Int32), wY_step_94 post (nI f) x2 x3 kn (nI M) (nI L') up dn' (nI (f + 1)) bg gY oc sh rn po (nI E') (ap_oo p) sA sB (ap_c p) (ap_sz p) (ap_L p) NY PY KY va fY' al' me pt h' lo' ou es' td' ph' → wY_step_51 post (nI f) x2 x3 kept (e + 1) (nI v) kn (nI M) (nI L) up dn (nI (f + 1)) bg gY oc sh rn po (nI E) (ap_oo p) sA sB (ap_c p) (ap_sz p) (ap_L p) NY PY KY va fY al me pt h lo ou es td ph) ∧
      (kept = 0 → ∀ (pt : Nat → Int32) (post : SY → Prop) (n : Nat), wY_leave_12 post (nI f) n (nI (6 * f + 6)) kn (nI M) (nI L') up dn' (nI (f + 1)) bg gY oc sh rn po (nI E') (ap_oo p) sA sB (ap_c p) (ap_sz p) (ap_L p) NY PY KY va fY' al' me pt h' lo' ou es' td' ph' → wY_leave_12 post (nI f) (n + e) (nI (6 * f + v)) kn (nI M) (nI L) up dn (nI (f + 1)) bg gY oc sh rn po (nI E) (ap_oo p) sA sB (ap_c p) (ap_sz p) (ap_L p) NY PY KY va fY al me pt h lo ou es td ph) := by
  intro e
  induction e with
  | zero =>
    intro v hv h lx lo al rf fX fY pe td ph es L E dn I hl
    have : v = 6 := by omega
    subst this
    refine ⟨h, lx, lo, al, rf, fX, fY, pe, td, ph, es, L, E, dn, I, hl, fun w => ⟨fun z => by unfold af_at at z; omega, fun _ => ⟨rfl, rfl, rfl⟩⟩, fun pt post hp => br_t (by decide) hp, fun _ pt post x2 x3 hp => br_t (by decide) hp, fun _ pt post n hp => hp⟩
  | succ e ih =>
    intro v hv h lx lo al rf fX fY pe td ph es L E dn I hl
    have ei : nI (6 * f) + nI v = nI (6 * f + v) := nI_add _ _
    have e6 : 6 * nI f = nI (6 * f) := pk_mul 6 f
    have e66 : 6 * nI f + 6 = nI (6 * f + 6) := by rw [e6]; exact nI_add _ _
    cases c : bt kept v with
    | true =>
      obtain ⟨h', lx', lo', al', rf', fX', fY', pe', td', ph', es', L', E', dn', J1, J2, J3, J4, J5, J6⟩ := ih (v + 1) (by omega) h lx lo al rf fX fY pe td ph es L E dn I hl
      refine ⟨h', lx', lo', al', rf', fX', fY', pe', td', ph', es', L', E', dn', J1, J2, fun w => ?_, fun pt post hp => ?_, fun hs pt post x2 x3 hp => ?_, fun hk => ?_⟩
      · have q : af_at kept f v w ↔ af_at kept f (v + 1) w := by
          unfold af_at
          constructor
          · rintro ⟨a, b, z⟩
            refine ⟨?_, b, z⟩
            by_cases ew : w = 6 * f + v
            · subst ew
              rw [show 6 * f + v - 6 * f = v by omega, c] at z; exact absurd z (by decide)
            · omega
          · rintro ⟨a, b, z⟩; exact ⟨by omega, b, z⟩
        rw [q]; exact J3 w
      · exact br_f (nI_ge (b := 6) (by omega) (by decide)) (br_f (by rw [ad_and0 _ (by omega), c]; decide) (nm_r (nI_1 v) (J4 pt post hp)))
      · exact br_f (nI_ge (b := 6) (by omega) (by decide)) (br_f hs (br_f (by rw [ad_shr1 _ (by omega), c]; decide) (nm_r (nI_1 v) (J5 hs pt post x2 x3 hp))))
      · rw [hk, b_0] at c; exact absurd c (by decide)
    | false =>
      obtain ⟨al1, rf1, fX1, fY1, pe1, td1, ph1, es1, L1, E1, dn1, K1, K2, K3, K4⟩ := bz_emp (p := p) (po := po) (up := up) (bg := bg) (gX := gX) (sa := sa) (sh := sh) (N := N) (P := P) (K := K) (R := R) (me := me) (h := h) (lx := lx) (va := va) (ou := ou) (kn := kn) (gY := gY) (oc := oc) (rn := rn) (lo := lo) (sA := sA) (sB := sB) (NY := NY) (PY := PY) (KY := KY) (dn := dn) (pe := pe) (td := td) (ph := ph) (es := es) (v := 6 * f + v) I (by omega) hl
      obtain ⟨h', lx', lo', al', rf', fX', fY', pe', td', ph', es', L', E', dn', J1, J2, J3, J4, J5, J6⟩ := ih (v + 1) (by omega) (upd h (6 * f + v) 0) (upd lx (6 * f + v) 0) (upd lo (6 * f + v) 0) al1 rf1 fX1 fY1 pe1 td1 ph1 es1 L1 E1 dn1 K1 K2
      refine ⟨h', lx', lo', al', rf', fX', fY', pe', td', ph', es', L', E', dn', J1, J2, fun w => ?_, fun pt post hp => ?_, fun hs pt post x2 x3 hp => ?_, fun hk pt post n hp => ?_⟩
      · constructor
        · rintro ⟨a, b, z⟩
          by_cases ew : w = 6 * f + v
          · subst ew
            obtain ⟨k1, k2, k3⟩ := (J3 (6 * f + v)).2 (fun y => by unfold af_at at y; omega)
            rw [pk_us] at k1 k2 k3
            exact ⟨k1, k2, k3⟩
          · exact (J3 w).1 ⟨by omega, b, z⟩
        · intro z
          have ew : w ≠ 6 * f + v := by
            intro ew
            apply z
            subst ew
            exact ⟨by omega, by omega, by rw [show 6 * f + v - 6 * f = v by omega]; exact c⟩
          obtain ⟨k1, k2, k3⟩ := (J3 w).2 (fun y => z ⟨by have := y.1; omega, y.2⟩)
          rw [pk_un ew] at k1 k2 k3
          exact ⟨k1, k2, k3⟩
      · refine br_f (nI_ge (b := 6) (by omega) (by decide)) (br_t (by rw [ad_and0 _ (by omega)]; exact c) ?_)
        rw [ei]
        exact bx_emp (by omega) _ (K3 pt _ (nm_r (nI_1 v) (J4 pt post hp)))
      · refine br_f (nI_ge (b := 6) (by omega) (by decide)) (br_f hs (br_t (by rw [ad_shr1 _ (by omega)]; exact c) ?_))
        rw [e6, ei]
        exact K4 pt _ (nm_r (nI_1 v) (J5 hs pt post x2 x3 hp))
      · refine br_f (by rw [e66]; exact nI_ge (by omega) (by omega)) (K4 pt _ (nm_r (nI_1 _) ?_))
        exact J6 hk pt post n hp
/-- the end of a call: X has the gift, Y has it in given -/
theorem bz_leave {g L E : Nat} (H : ap_OK p) (hAB : ap_AB p sA sB) (hf : f < 6) (hg : g ≤ M) (I : ac_MI 0 [] (nI g) h lo (f + 1) M al rf fX fY L E) (hl : af_ll h lx lo)
    (hfr : 1 ≤ f → ∃ m i, m < 4 ∧ i < 16 ∧ me (f - 1) = nI m ∧ pt (f - 1) = nI i ∧ ap_O p (16 * m + i) = 11) :
    ∃ h' lx' lo' : Nat → Int32, ∃ (al' rf' fX' fY' pe' td' ph' es' : Nat → Int32) (L' E' : Nat) (dn' : Int32), af_ll h' lx' lo' ∧
      (∀ w, w < 6 * f → (h' w = h w ∧ lo' w = lo w) ∨ (∃ m i, 1 ≤ f ∧ me (f - 1) = nI m ∧ pt (f - 1) = nI i ∧ w = 6 * (f - 1) + ap_A p (16 * m + i) ∧ lo' w = 0)) ∧
      ((f = 0 ∧ ac_MI 0 [] (nI g) h' lo' 0 M al' rf' fX' fY' L' E' ∧
          (∀ post : SX → Prop, post (po, nI E', up, dn', bg, nI L', nI M, nI g, nI 0, sa, sh, ap_sz p, ap_L p, ap_oo p, ap_aA p, ap_aB p, ap_c p, N, P, K, R, me, pt, h', lx', va, rf', al', fX', pe', ou, es') → wpX_leave post (po, nI E, up, dn, bg, nI L, nI M, gX, nI (f + 1), sa, sh, ap_sz p, ap_L p, ap_oo p, ap_aA p, ap_aB p, ap_c p, N, P, K, R, me, pt, h, lx, va, rf, al, fX, pe, ou, es) (nI g)) ∧
          (∀ post : SY → Prop, post (kn, nI M, nI L', up, dn', nI 0, bg, nI g, 0, sh, rn, po, nI E', ap_oo p, sA, sB, ap_c p, ap_sz p, ap_L p, NY, PY, KY, va, fY', al', me, pt, h', lo', ou, es', td', ph') → wpY_leave post (kn, nI M, nI L, up, dn, nI (f + 1), bg, nI g, oc, sh, rn, po, nI E, ap_oo p, sA, sB, ap_c p, ap_sz p, ap_L p, NY, PY, KY, va, fY, al, me, pt, h, lo, ou, es, td, ph))) ∨
       (1 ≤ f ∧ ac_MI 0 [] 0 h' lo' f M al' rf' fX' fY' L' E' ∧
          (∀ post : SX → Prop, post (po, nI E', up, dn', bg, nI L', nI M, gX, nI f, sa, sh, ap_sz p, ap_L p, ap_oo p, ap_aA p, ap_aB p, ap_c p, N, P, K, R, me, upd pt (f - 1) (pt (f - 1) + 1), h', lx', va, rf', al', fX', pe', ou, es') → wpX_leave post (po, nI E, up, dn, bg, nI L, nI M, gX, nI (f + 1), sa, sh, ap_sz p, ap_L p, ap_oo p, ap_aA p, ap_aB p, ap_c p, N, P, K, R, me, pt, h, lx, va, rf, al, fX, pe, ou, es) (nI g)) ∧
          (∀ post : SY → Prop, post (kn, nI M, nI L', up, dn', nI f, bg, 0, oc, sh, rn, po, nI E', ap_oo p, sA, sB, ap_c p, ap_sz p, ap_L p, NY, PY, KY, va, fY', al', me, upd pt (f - 1) (pt (f - 1) + 1), h', lo', ou, es', td', ph') → wpY_leave post (kn, nI M, nI L, up, dn, nI (f + 1), bg, nI g, oc, sh, rn, po, nI E, ap_oo p, sA, sB, ap_c p, ap_sz p, ap_L p, NY, PY, KY, va, fY, al, me, pt, h, lo, ou, es, td, ph)))) := by
  obtain ⟨h1, lx1, lo1, al1, rf1, fX1, fY1, pe1, td1, ph1, es1, L1, E1, dn1, J1, J2, J3, J4, J5, J6⟩ := bz_lga (p := p) (po := po) (up := up) (bg := bg) (gX := gX) (sa := sa) (sh := sh) (N := N) (P := P) (K := K) (R := R) (me := me) (va := va) (ou := ou) (kn := kn) (gY := nI g) (oc := oc) (rn := rn) (sA := sA) (sB := sB) (NY := NY) (PY := PY) (KY := KY) hf 0 6 0 (by omega) h lx lo al rf fX fY pe td ph es L E dn I hl
  have z1 : ∀ j, j < 6 → h1 (6 * f + j) = 0 := fun j hj => ((J3 (6 * f + j)).1 ⟨by omega, by omega, b_0 _⟩).1
  have J1' := ac_lea J1 z1
  have lw : ∀ w, w < 6 * f → h1 w = h w ∧ lo1 w = lo w := fun w hw => by
    have := (J3 w).2 (fun z => by have := z.1; omega)
    exact ⟨this.1, this.2.1⟩
  have c6 : (nI (f + 1) - 1) * 6 = nI (6 * f) := by
    rw [nI_pred]
    have : nI f * 6 = nI (f * 6) := pk_mul f 6
    rw [this, Nat.mul_comm]
  have d6 : 6 * (nI (f + 1) - 1) = nI (6 * f + 0) := by rw [nI_pred]; exact pk_mul 6 f
  have e66 : 6 * nI f + 6 = nI (6 * f + 6) := by
    have : 6 * nI f = nI (6 * f) := pk_mul 6 f
    rw [this]; exact nI_add _ _
  obtain ⟨_, hL24, hEL, hM, hd⟩ := J1'.2.2.2.2.2.2.1
  by_cases f0 : f = 0
  · subst f0
    refine ⟨h1, lx1, lo1, al1, rf1, fX1, fY1, pe1, td1, ph1, es1, L1, E1, dn1, J2, fun w hw => by omega, Or.inl ⟨rfl, J1', fun post hp => nm_r c6 ⟨7, J4 pt _ (nm_r (nI_pred 0) (br_t rfl hp))⟩, fun post hp => ?_⟩⟩
    refine nm_r (nI_pred 0) (nm_r (e' := nI (6 * 0 + 0)) rfl ⟨1 + 6, J6 rfl pt post 1 ?_⟩)
    exact br_t (by decide) (br_t rfl hp)
  · have f1 : 1 ≤ f := by omega
    obtain ⟨m, i, hm, hi, em, ei, eo⟩ := hfr f1
    have h14 := H.1 (16 * m + i)
    have hA := h14.2.1
    have hk : 16 * m + i < 64 := by omega
    have hI : vp_in (nI (16 * m + i)) 64 := vp_in_nI hk (by omega)
    obtain ⟨al', rf', fX', fY', pe', td', ph', es', L', E', dn', K1, K2, K3, K4⟩ := bz_fill (p := p) (po := po) (up := up) (bg := bg) (gX := gX) (sa := sa) (sh := sh) (N := N) (P := P) (K := K) (R := R) (me := me) (h := h1) (lx := lx1) (va := va) (ou := ou) (kn := kn) (gY := 0) (oc := oc) (rn := rn) (lo := lo1) (sA := sA) (sB := sB) (NY := NY) (PY := PY) (KY := KY) (dn := dn1) (pe := pe1) (td := td1) (ph := ph1) (es := es1) (v := 6 * (f - 1) + ap_A p (16 * m + i)) (x := g) (b := 0) (by rw [if_pos rfl]; exact ac_get J1' hg) (by omega) hg J2 (Or.inl rfl)
    have vf : vp_in (nI (f - 1)) 6 := vp_in_nI (by omega) (by omega)
    have ef : (nI (f - 1)).toNatClampNeg = f - 1 := nI_clamp (by omega)
    have ep : nI f - 1 = nI (f - 1) := by
      have := nI_pred (f - 1)
      rw [show f - 1 + 1 = f by omega] at this
      exact this
    have nf : ¬ nI f = 0 := nI_ne0 f1 (by omega)
    have exk : me (nI (f - 1)).toNatClampNeg * 16 + pt (nI (f - 1)).toNatClampNeg = nI (16 * m + i) := by rw [ef, em, ei, ap_xk]
    have eyk : 16 * me (nI (f - 1)).toNatClampNeg + pt (nI (f - 1)).toNatClampNeg = nI (16 * m + i) := by rw [ef, em, ei, ap_yk]
    have exa : nI (f - 1) * 6 + ap_aA p (nI (16 * m + i)).toNatClampNeg = nI (6 * (f - 1) + ap_A p (16 * m + i)) := by
      have : nI (f - 1) * 6 = nI ((f - 1) * 6) := pk_mul (f - 1) 6
      rw [ap_aAk p hk, this, nI_add, Nat.mul_comm]
    have eya : 6 * nI (f - 1) + sA (nI (16 * m + i)).toNatClampNeg = nI (6 * (f - 1) + ap_A p (16 * m + i)) := by
      have : 6 * nI (f - 1) = nI (6 * (f - 1)) := pk_mul 6 (f - 1)
      rw [nI_clamp (by omega), (hAB (16 * m + i)).1 (by omega) (by omega), this, nI_add]
    have eg : (if nI g = 0 then (0 : Int32) else 0) = 0 := by split <;> rfl
    rw [eg] at K1 K2 K4
    refine ⟨_, _, _, al', rf', fX', fY', pe', td', ph', es', L', E', dn', K2, fun w hw => ?_, Or.inr ⟨f1, K1, fun post hp => nm_r c6 ⟨7, J4 pt _ (nm_r (nI_pred f) (br_f nf (nm_r ep ⟨vf, vf, nm_r exk ⟨hI, ?_⟩⟩)))⟩, fun post hp => nm_r (nI_pred f) (nm_r (e' := nI (6 * f + 0)) ?_ ⟨1 + 6, J6 rfl pt post 1 ?_⟩)⟩⟩
    · by_cases ew : w = 6 * (f - 1) + ap_A p (16 * m + i)
      · exact Or.inr ⟨m, i, f1, em, ei, ew, by rw [ew, pk_us]⟩
      · rw [pk_un ew, pk_un ew]; exact Or.inl (lw w hw)
    · rw [exa]
      refine K3 pt _ ⟨vf, vf, nm_r (e' := upd pt (f - 1) (pt (f - 1) + 1)) (by rw [ef]) hp⟩
    · exact pk_mul 6 f
    · refine br_t (by rw [e66]; exact nI_le (by omega) (by omega)) (br_f nf ?_)
      rw [ep]
      refine ⟨vf, vf, by rw [eyk]; exact hI, nm_r (e' := nI (6 * (f - 1) + ap_A p (16 * m + i))) (by rw [eyk]; exact eya) ⟨vf, vf, nm_r (e' := upd pt (f - 1) (pt (f - 1) + 1)) (by rw [ef]) ?_⟩⟩
      exact K4 (upd pt (f - 1) (pt (f - 1) + 1)) _ hp
end
