def by_R (post : Int32 → SY → Prop) (n : Nat) : SY → Prop := fun u => match u with | (f_known, f_made, f_living, f_counted, f_less, f_depth, f_begun, f_given, f_outcome, f_isShort, f_ran, f_put, f_ended, a_ops, a_as, a_bs, a_cs, a_size, a_lent, a_need, a_plans, a_keep, a_value, a_fields, a_alive, a_method, a_pc, a_variable, a_loan, a_outs, a_ends, a_todo, a_phase) => wY_run_94 post n f_known f_made f_living f_counted f_less f_depth f_begun f_given f_outcome f_isShort f_ran f_put f_ended a_ops a_as a_bs a_cs a_size a_lent a_need a_plans a_keep a_value a_fields a_alive a_method a_pc a_variable a_loan a_outs a_ends a_todo a_phase
section
variable {p : ap_T} {kn po en up dn bg lv md gX gY dp sa sh oc rn : Int32} {sA sB N P K R NY PY KY me pt h lx lo va rf al fX fY pe ou es td ph : Nat → Int32}
variable {M f : Nat}
/-- an empty frame: nothing is let go -/
theorem by_leave0 (hf : f < 6) (hz : ∀ j, j < 6 → h (6 * f + j) = 0 ∧ lo (6 * f + j) = 0) : ∀ e v, v + e = 6 → ∀ (post : SY → Prop) (n : Nat), wY_leave_12 post (nI f) n (nI (6 * f + 6)) kn md lv up dn dp bg gY oc sh rn po en (ap_oo p) sA sB (ap_c p) (ap_sz p) (ap_L p) NY PY KY va fY al me pt h lo ou es td ph → wY_leave_12 post (nI f) (n + e) (nI (6 * f + v)) kn md lv up dn dp bg gY oc sh rn po en (ap_oo p) sA sB (ap_c p) (ap_sz p) (ap_L p) NY PY KY va fY al me pt h lo ou es td ph := by
  have e66 : 6 * nI f + 6 = nI (6 * f + 6) := by
    have : 6 * nI f = nI (6 * f) := pk_mul 6 f
    rw [this]; exact nI_add _ _
  intro e
  induction e with
  | zero =>
    intro v hv post n KK
    have : v = 6 := by omega
    subst this
    exact KK
  | succ e ih =>
    intro v hv post n KK
    obtain ⟨z1, z2⟩ := hz v (by omega)
    have vi : vp_in (nI (6 * f + v)) 36 := vp_in_nI (by omega) (by omega)
    refine br_f (by rw [e66]; exact nI_ge (by omega) (by omega)) (by_get (x := 0) (by omega) (Or.inl rfl) (by omega) _ (fun z ez => ?_))
    rw [ad_updS h (6 * f + v) (nI 0) z1]
    refine ⟨vi, nm_r (e' := lo) ?_ (br_t ?_ (nm_r (nI_1 _) (ih (v + 1) (by omega) post n KK)))⟩
    · rw [nI_clamp (by omega), show (if nI 0 = 0 then (0 : Int32) else 0) = 0 from rfl, ad_nb0]
      exact ad_updS lo _ 0 z2
    · rw [ez, z1]; split <;> rfl
/-- the end of a call behind the last instruction, in a step of the reference -/
theorem bz_leave2 {g L E : Nat} (H : ap_OK p) (hAB : ap_AB p sA sB) (hf : f < 6) (hg : g ≤ M) (I : ac_MI 0 [] (nI g) h lo (f + 1) M al rf fX fY L E) (hl : af_ll h lx lo)
    (hg0 : g = 0) (hfr : 1 ≤ f → ∃ m i, m < 4 ∧ i < 16 ∧ me (f - 1) = nI m ∧ pt (f - 1) = nI i ∧ ap_O p (16 * m + i) = 11) :
    ∃ h' lx' lo' : Nat → Int32, ∃ (al' rf' fX' fY' pe' td' ph' es' : Nat → Int32) (L' E' : Nat) (dn' : Int32), af_ll h' lx' lo' ∧
      (∀ w, w < 6 * f → (h' w = h w ∧ lo' w = lo w) ∨ (∃ m i, 1 ≤ f ∧ me (f - 1) = nI m ∧ pt (f - 1) = nI i ∧ w = 6 * (f - 1) + ap_A p (16 * m + i) ∧ lo' w = 0)) ∧
      ((f = 0 ∧ ac_MI 0 [] (nI g) h' lo' 0 M al' rf' fX' fY' L' E' ∧
          (∀ post : SX → Prop, post (po, nI E', up, dn', bg, nI L', nI M, nI g, nI 0, sa, sh, ap_sz p, ap_L p, ap_oo p, ap_aA p, ap_aB p, ap_c p, N, P, K, R, me, pt, h', lx', va, rf', al', fX', pe', ou, es') → wpX_leave post (po, nI E, up, dn, bg, nI L, nI M, gX, nI (f + 1), sa, sh, ap_sz p, ap_L p, ap_oo p, ap_aA p, ap_aB p, ap_c p, N, P, K, R, me, pt, h, lx, va, rf, al, fX, pe, ou, es) (nI g)) ∧
          (∀ post : SY → Prop, post (kn, nI M, nI L', up, dn', nI 0, bg, nI g, 0, sh, rn, po, nI E', ap_oo p, sA, sB, ap_c p, ap_sz p, ap_L p, NY, PY, KY, va, fY', al', me, pt, h', lo', ou, es', td', ph') → wpY_leave post (kn, nI M, nI L, up, dn, nI (f + 1), bg, nI g, oc, sh, rn, po, nI E, ap_oo p, sA, sB, ap_c p, ap_sz p, ap_L p, NY, PY, KY, va, fY, al, me, pt, h, lo, ou, es, td, ph)) ∧
          (sh ≠ 0 → ∀ (post : SY → Prop) (x2 x3 : Int32), vp_in x2 4 → ¬ x3 < ap_sz p x2.toNatClampNeg → post (kn, nI M, nI L', up, dn', nI 0, bg, nI g, 0, sh, rn, po, nI E', ap_oo p, sA, sB, ap_c p, ap_sz p, ap_L p, NY, PY, KY, va, fY', al', me, pt, h', lo', ou, es', td', ph') → wY_step_51 post (nI f) x2 x3 0 7 (nI 0) kn (nI M) (nI L) up dn (nI (f + 1)) bg (nI g) oc sh rn po (nI E) (ap_oo p) sA sB (ap_c p) (ap_sz p) (ap_L p) NY PY KY va fY al me pt h lo ou es td ph)) ∨
       (1 ≤ f ∧ ac_MI 0 [] 0 h' lo' f M al' rf' fX' fY' L' E' ∧
          (∀ post : SX → Prop, post (po, nI E', up, dn', bg, nI L', nI M, gX, nI f, sa, sh, ap_sz p, ap_L p, ap_oo p, ap_aA p, ap_aB p, ap_c p, N, P, K, R, me, upd pt (f - 1) (pt (f - 1) + 1), h', lx', va, rf', al', fX', pe', ou, es') → wpX_leave post (po, nI E, up, dn, bg, nI L, nI M, gX, nI (f + 1), sa, sh, ap_sz p, ap_L p, ap_oo p, ap_aA p, ap_aB p, ap_c p, N, P, K, R, me, pt, h, lx, va, rf, al, fX, pe, ou, es) (nI g)) ∧
          (∀ post : SY → Prop, post (kn, nI M, nI L', up, dn', nI f, bg, 0, oc, sh, rn, po, nI E', ap_oo p, sA, sB, ap_c p, ap_sz p, ap_L p, NY, PY, KY, va, fY', al', me, upd pt (f - 1) (pt (f - 1) + 1), h', lo', ou, es', td', ph') → wpY_leave post (kn, nI M, nI L, up, dn, nI (f + 1), bg, nI g, oc, sh, rn, po, nI E, ap_oo p, sA, sB, ap_c p, ap_sz p, ap_L p, NY, PY, KY, va, fY, al, me, pt, h, lo, ou, es, td, ph)) ∧
          (sh ≠ 0 → ∀ (post : SY → Prop) (x2 x3 : Int32), vp_in x2 4 → ¬ x3 < ap_sz p x2.toNatClampNeg → post (kn, nI M, nI L', up, dn', nI f, bg, 0, oc, sh, rn, po, nI E', ap_oo p, sA, sB, ap_c p, ap_sz p, ap_L p, NY, PY, KY, va, fY', al', me, upd pt (f - 1) (pt (f - 1) + 1), h', lo', ou, es', td', ph') → wY_step_51 post (nI f) x2 x3 0 7 (nI 0) kn (nI M) (nI L) up dn (nI (f + 1)) bg (nI g) oc sh rn po (nI E) (ap_oo p) sA sB (ap_c p) (ap_sz p) (ap_L p) NY PY KY va fY al me pt h lo ou es td ph))) := by
  obtain ⟨h1, lx1, lo1, al1, rf1, fX1, fY1, pe1, td1, ph1, es1, L1, E1, dn1, J1, J2, J3, J4, J5, J6⟩ := bz_lga (p := p) (po := po) (up := up) (bg := bg) (gX := gX) (sa := sa) (sh := sh) (N := N) (P := P) (K := K) (R := R) (me := me) (va := va) (ou := ou) (kn := kn) (gY := nI g) (oc := oc) (rn := rn) (sA := sA) (sB := sB) (NY := NY) (PY := PY) (KY := KY) hf 0 6 0 (by omega) h lx lo al rf fX fY pe td ph es L E dn I hl
  have zz : ∀ j, j < 6 → h1 (6 * f + j) = 0 ∧ lo1 (6 * f + j) = 0 := fun j hj => by
    have := (J3 (6 * f + j)).1 ⟨by omega, by omega, b_0 _⟩
    exact ⟨this.1, this.2.1⟩
  have z1 : ∀ j, j < 6 → h1 (6 * f + j) = 0 := fun j hj => ((J3 (6 * f + j)).1 ⟨by omega, by omega, b_0 _⟩).1
  have J1' := ac_lea J1 z1
  have lw : ∀ w, w < 6 * f → h1 w = h w ∧ lo1 w = lo w := fun w hw => by
    have := (J3 w).2 (fun z => by have := z.1; omega)
    exact ⟨this.1, this.2.1⟩
  have c6 : (nI (f + 1) - 1) * 6 = nI (6 * f) := by
    rw [nI_pred]
    have : nI f * 6 = nI (f * 6) := pk_mul f 6
    rw [this, Nat.mul_comm]
  have d6 : 6 * (nI (f + 1) - 1) = nI (6 * f + 0) := by rw [nI_pred]; exact pk_mul 6 f
  have e66 : 6 * nI f + 6 = nI (6 * f + 6) := by
    have : 6 * nI f = nI (6 * f) := pk_mul 6 f
    rw [this]; exact nI_add _ _
  obtain ⟨_, hL24, hEL, hM, hd⟩ := J1'.2.2.2.2.2.2.1
  by_cases f0 : f = 0
  · subst f0
    refine ⟨h1, lx1, lo1, al1, rf1, fX1, fY1, pe1, td1, ph1, es1, L1, E1, dn1, J2, fun w hw => by omega, Or.inl ⟨rfl, J1', fun post hp => nm_r c6 ⟨7, J4 pt _ (nm_r (nI_pred 0) (br_t rfl hp))⟩, fun post hp => ?_, fun hs post x2 x3 v2 v3 hp => J5 hs pt post x2 x3 ⟨v2, br_f v3 ?_⟩⟩⟩
    · refine nm_r (nI_pred 0) (nm_r (e' := nI (6 * 0 + 0)) rfl ⟨1 + 6, J6 rfl pt post 1 ?_⟩)
      exact br_t (by decide) (br_t rfl hp)
    · refine nm_r (nI_pred 0) (nm_r (e' := nI (6 * 0 + 0)) rfl ⟨1 + 6, by_leave0 (f := 0) (by omega) zz 6 0 (by omega) _ 1 ?_⟩)
      exact br_t (by decide) (br_t rfl hp)
  · have f1 : 1 ≤ f := by omega
    obtain ⟨m, i, hm, hi, em, ei, eo⟩ := hfr f1
    have h14 := H.1 (16 * m + i)
    have hA := h14.2.1
    have hk : 16 * m + i < 64 := by omega
    have hI : vp_in (nI (16 * m + i)) 64 := vp_in_nI hk (by omega)
    obtain ⟨al', rf', fX', fY', pe', td', ph', es', L', E', dn', K1, K2, K3, K4⟩ := bz_fill (p := p) (po := po) (up := up) (bg := bg) (gX := gX) (sa := sa) (sh := sh) (N := N) (P := P) (K := K) (R := R) (me := me) (h := h1) (lx := lx1) (va := va) (ou := ou) (kn := kn) (gY := 0) (oc := oc) (rn := rn) (lo := lo1) (sA := sA) (sB := sB) (NY := NY) (PY := PY) (KY := KY) (dn := dn1) (pe := pe1) (td := td1) (ph := ph1) (es := es1) (v := 6 * (f - 1) + ap_A p (16 * m + i)) (x := g) (b := 0) (by rw [if_pos rfl]; exact ac_get J1' hg) (by omega) hg J2 (Or.inl rfl)
    have vf : vp_in (nI (f - 1)) 6 := vp_in_nI (by omega) (by omega)
    have ef : (nI (f - 1)).toNatClampNeg = f - 1 := nI_clamp (by omega)
    have ep : nI f - 1 = nI (f - 1) := by
      have := nI_pred (f - 1)
      rw [show f - 1 + 1 = f by omega] at this
      exact this
    have nf : ¬ nI f = 0 := nI_ne0 f1 (by omega)
    have exk : me (nI (f - 1)).toNatClampNeg * 16 + pt (nI (f - 1)).toNatClampNeg = nI (16 * m + i) := by rw [ef, em, ei, ap_xk]
    have eyk : 16 * me (nI (f - 1)).toNatClampNeg + pt (nI (f - 1)).toNatClampNeg = nI (16 * m + i) := by rw [ef, em, ei, ap_yk]
    have exa : nI (f - 1) * 6 + ap_aA p (nI (16 * m + i)).toNatClampNeg = nI (6 * (f - 1) + ap_A p (16 * m + i)) := by
      have : nI (f - 1) * 6 = nI ((f - 1) * 6) := pk_mul (f - 1) 6
      rw [ap_aAk p hk, this, nI_add, Nat.mul_comm]
    have eya : 6 * nI (f - 1) + sA (nI (16 * m + i)).toNatClampNeg = nI (6 * (f - 1) + ap_A p (16 * m + i)) := by
      have : 6 * nI (f - 1) = nI (6 * (f - 1)) := pk_mul 6 (f - 1)
      rw [nI_clamp (by omega), (hAB (16 * m + i)).1 (by omega) (by omega), this, nI_add]
    have eg : (if nI g = 0 then (0 : Int32) else 0) = 0 := by split <;> rfl
    rw [eg] at K1 K2 K4
    have TL : ∀ post : SY → Prop, post (kn, nI M, nI L', up, dn', nI f, bg, 0, oc, sh, rn, po, nI E', ap_oo p, sA, sB, ap_c p, ap_sz p, ap_L p, NY, PY, KY, va, fY', al', me, upd pt (f - 1) (pt (f - 1) + 1), upd h1 (6 * (f - 1) + ap_A p (16 * m + i)) (nI g), upd lo1 (6 * (f - 1) + ap_A p (16 * m + i)) 0, ou, es', td', ph') →
        wY_leave_12 (fun u => post u) (nI f) 1 (nI (6 * f + 6)) kn (nI M) (nI L1) up dn1 (nI (f + 1)) bg (nI g) oc sh rn po (nI E1) (ap_oo p) sA sB (ap_c p) (ap_sz p) (ap_L p) NY PY KY va fY1 al1 me pt h1 lo1 ou es1 td1 ph1 := by
      intro post hp
      refine br_t (by rw [e66]; exact nI_le (by omega) (by omega)) (br_f nf ?_)
      rw [ep]
      refine ⟨vf, vf, by rw [eyk]; exact hI, nm_r (e' := nI (6 * (f - 1) + ap_A p (16 * m + i))) (by rw [eyk]; exact eya) ⟨vf, vf, nm_r (e' := upd pt (f - 1) (pt (f - 1) + 1)) (by rw [ef]) ?_⟩⟩
      exact K4 (upd pt (f - 1) (pt (f - 1) + 1)) _ hp
    refine ⟨_, _, _, al', rf', fX', fY', pe', td', ph', es', L', E', dn', K2, fun w hw => ?_, Or.inr ⟨f1, K1, fun post hp => nm_r c6 ⟨7, J4 pt _ (nm_r (nI_pred f) (br_f nf (nm_r ep ⟨vf, vf, nm_r exk ⟨hI, ?_⟩⟩)))⟩, fun post hp => nm_r (nI_pred f) (nm_r (e' := nI (6 * f + 0)) ?_ ⟨1 + 6, J6 rfl pt post 1 (TL post hp)⟩), fun hs post x2 x3 v2 v3 hp => J5 hs pt post x2 x3 ⟨v2, br_f v3 (nm_r (nI_pred f) (nm_r (e' := nI (6 * f + 0)) ?_ ⟨1 + 6, by_leave0 (by omega) zz 6 0 (by omega) _ 1 (TL post hp)⟩))⟩⟩⟩
    · by_cases ew : w = 6 * (f - 1) + ap_A p (16 * m + i)
      · exact Or.inr ⟨m, i, f1, em, ei, ew, by rw [ew, pk_us]⟩
      · rw [pk_un ew, pk_un ew]; exact Or.inl (lw w hw)
    · rw [exa]
      refine K3 pt _ ⟨vf, vf, nm_r (e' := upd pt (f - 1) (pt (f - 1) + 1)) (by rw [ef]) hp⟩
    · exact pk_mul 6 f
    · exact pk_mul 6 f
theorem ag_F_lga {sh : Int32} {h lo me pt : Nat → Int32} {kept : Int32} (F : ag_F p sh (f + 1) h lo me pt) (h' lo' : Nat → Int32)
    (J : ∀ w, (af_at kept f 0 w → h' w = 0 ∧ lo' w = 0) ∧ (¬ af_at kept f 0 w → h' w = h w ∧ lo' w = lo w)) : ag_F p sh (f + 1) h' lo' me pt := by
  obtain ⟨F1, F2, F3⟩ := F
  have keep : ∀ w, lo' w ≠ 0 → h' w = h w ∧ lo' w = lo w := by
    intro w hw
    by_cases c : af_at kept f 0 w
    · exact absurd ((J w).1 c).2 hw
    · exact (J w).2 c
  have low : ∀ w, w < 6 * f → h' w = h w ∧ lo' w = lo w := fun w hw => (J w).2 (fun z => by have := z.1; omega)
  refine ⟨F1, fun s0 v hv => ?_, fun g hg => ?_⟩
  · by_cases c : lo' v = 0
    · exact c
    · rw [(keep v c).2]; exact F2 s0 v hv
  · obtain ⟨m, i, q1, q2, q3, q4, q5, q6⟩ := F3 g hg
    refine ⟨m, i, q1, q2, q3, q4, q5, fun j hj hlo => ?_⟩
    obtain ⟨k1, k2⟩ := keep _ hlo
    rw [k2] at hlo
    rcases q6 j hj hlo with ⟨w, w1, w2, w3⟩ | q
    · obtain ⟨l1, l2⟩ := low w (by omega)
      exact Or.inl ⟨w, w1, by rw [l1, k1]; exact w2, by rw [l2]; exact w3⟩
    · exact Or.inr q
end
section
variable {p : ap_T} {kn po en up dn bg lv md gX gY dp sa sh oc rn : Int32} {sA sB N P K R NY PY KY me pt h lx lo va rf al fX fY pe ou es td ph : Nat → Int32}
variable {M Q B : Nat}
theorem bz_settle (H : ap_OK p) (hAB : ap_AB p sA sB) (hA : ag_A p N P NY PY) : ∀ (d r L E : Nat) (dn : Int32) (h lx lo al rf fX fY pe td ph es pt : Nat → Int32), r + d ≤ 6 → 1 ≤ d → ag_I p sh d M L E Q B 0 h lx lo al rf fX fY me pt va →
    ∃ (d' L' E' : Nat) (dn' : Int32) (h' lx' lo' al' rf' fX' fY' pe' td' ph' es' pt' : Nat → Int32), ag_I p sh d' M L' E' Q B 0 h' lx' lo' al' rf' fX' fY' me pt' va ∧
      (∀ post : SX → Prop, post (nI Q, nI E', up, dn', nI B, nI L', nI M, nI 0, nI d', sa, sh, ap_sz p, ap_L p, ap_oo p, ap_aA p, ap_aB p, ap_c p, N, P, K, R, me, pt', h', lx', va, rf', al', fX', pe', ou, es') → ∃ n, wX_settle_4 post n 1 (nI r) (nI Q) (nI E) up dn (nI B) (nI L) (nI M) (nI 0) (nI d) sa sh (ap_sz p) (ap_L p) (ap_oo p) (ap_aA p) (ap_aB p) (ap_c p) N P K R me pt h lx va rf al fX pe ou es) ∧
      ((d' = 0 ∧ ∀ post : Int32 → SY → Prop, (∃ n, wY_run_94 post n kn (nI M) (nI L') up dn' (nI d') (nI B) (nI 0) 0 sh rn (nI Q) (nI E') (ap_oo p) sA sB (ap_c p) (ap_sz p) (ap_L p) NY PY KY va fY' al' me pt' h' lo' ou es' td' ph') → ∃ n, wY_run_94 post n kn (nI M) (nI L) up dn (nI d) (nI B) (nI 0) (-1) sh rn (nI Q) (nI E) (ap_oo p) sA sB (ap_c p) (ap_sz p) (ap_L p) NY PY KY va fY al me pt h lo ou es td ph) ∨
       (∃ f m i, d' = f + 1 ∧ m < 4 ∧ me f = nI m ∧ pt' f = nI i ∧ i < ap_Z p m ∧ (sh = 1 → ∀ j, j < 6 → h' (6 * f + j) ≠ 0 → ap_nd p m i j) ∧
          ∀ (post : Int32 → SY → Prop) (n : Nat), wY_step_94 (by_R post n) (nI f) (nI m) (nI i) kn (nI M) (nI L') up dn' (nI d') (nI B) (nI 0) (-1) sh rn (nI Q) (nI E') (ap_oo p) sA sB (ap_c p) (ap_sz p) (ap_L p) NY PY KY va fY' al' me pt' h' lo' ou es' td' ph' → ∃ n', wY_run_94 post n' kn (nI M) (nI L) up dn (nI d) (nI B) (nI 0) (-1) sh rn (nI Q) (nI E) (ap_oo p) sA sB (ap_c p) (ap_sz p) (ap_L p) NY PY KY va fY al me pt h lo ou es td ph)) := by
  intro d
  induction d with
  | zero => intro r L E dn h lx lo al rf fX fY pe td ph es pt hr hd; omega
  | succ f ih =>
    intro r L E dn h lx lo al rf fX fY pe td ph es pt hr hd I
    obtain ⟨I1, I2, I3, I4, I5, I6, I7, I8⟩ := id I
    obtain ⟨hLc, hL24, hEL, hM, hd6⟩ := I1.2.2.2.2.2.2.1
    obtain ⟨m, i, hm, hi16, em, ei, _, _⟩ := I8.2.2 f (by omega)
    have hz := H.2.1 m
    have hf : f < 6 := by omega
    have vf : vp_in (nI f) 6 := vp_in_nI hf (by omega)
    have ef : (nI f).toNatClampNeg = f := nI_clamp (by omega)
    have x1e : nI (f + 1) - 1 = nI f := nI_pred f
    have vm : vp_in (nI m) 4 := vp_in_nI hm (by omega)
    have esz : ap_sz p (nI m).toNatClampNeg = nI (ap_Z p m) := ap_szm p hm
    -- the component up to the question whether the place is behind the last
    have Xw : ∀ (post : SX → Prop) (n : Nat), wX_settle_62 post (wX_settle_4 post n) (nI r) (nI m) (nI i) (if i < ap_Z p m then 0 else 1) (nI Q) (nI E) up dn (nI B) (nI L) (nI M) (nI 0) (nI (f + 1)) sa sh (ap_sz p) (ap_L p) (ap_oo p) (ap_aA p) (ap_aB p) (ap_c p) N P K R me pt h lx va rf al fX pe ou es → wX_settle_4 post (n + 1) 1 (nI r) (nI Q) (nI E) up dn (nI B) (nI L) (nI M) (nI 0) (nI (f + 1)) sa sh (ap_sz p) (ap_L p) (ap_oo p) (ap_aA p) (ap_aB p) (ap_c p) N P K R me pt h lx va rf al fX pe ou es := by
      intro post n KK
      refine br_f (nI_ge (b := 6) (by omega) (by decide)) (br_f (by decide) (br_f (nI_nle (by omega) (by omega)) ?_))
      rw [x1e]
      refine ⟨vf, nm_r (e' := nI m) (by rw [ef]; exact em) ⟨vf, nm_r (e' := nI i) (by rw [ef]; exact ei) ⟨vm, ?_⟩⟩⟩
      rw [esz]
      refine pk_lt i (ap_Z p m) (fun c => ?_) (fun c => ?_)
      · rw [if_pos c] at KK; exact KK
      · rw [if_neg (by omega)] at KK; exact KK
    by_cases c : i < ap_Z p m
    · -- an instruction is due
      have hk : 16 * m + i < 64 := by omega
      have hI : vp_in (nI (16 * m + i)) 64 := vp_in_nI hk (by omega)
      have ek : (nI (16 * m + i)).toNatClampNeg = 16 * m + i := nI_clamp (by omega)
      have eN : N (16 * m + i) = NY (16 * m + i) := ap_NS_u (hA m hm).1 (hA m hm).2.2.1 c
      rcases I8.1 with s0 | s1
      · refine ⟨f + 1, L, E, dn, h, lx, lo, al, rf, fX, fY, pe, td, ph, es, pt, I, fun post hp => ⟨2, Xw post 1 ?_⟩, Or.inr ⟨f, m, i, rfl, hm, em, ei, c, fun z => absurd (s0.symm.trans z) (by decide), fun post n KK => ⟨n + 1, ?_⟩⟩⟩
        · rw [if_pos c]
          exact br_t rfl (br_t s0 (nm_r (nI_1 r) (br_c (fun _ => hp) (fun _ => br_t rfl hp))))
        · refine br_t rfl (nm_r x1e ⟨vf, nm_r (e' := nI m) (by rw [ef]; exact em) ⟨vf, nm_r (e' := nI i) (by rw [ef]; exact ei) ⟨vm, br_f (by rw [esz]; exact nI_ge c (by omega)) ?_⟩⟩⟩)
          rw [ap_yk]
          exact ⟨hI, nm_e ⟨1, br_f (by decide) (br_t s0 KK)⟩⟩
      · have sn : sh ≠ 0 := by rw [s1]; decide
        obtain ⟨h1, lx1, lo1, al1, rf1, fX1, fY1, pe1, td1, ph1, es1, L1, E1, dn1, J1, J2, J3, J4, J5, J6⟩ := bz_lga (p := p) (po := nI Q) (up := up) (bg := nI B) (gX := nI 0) (sa := sa) (sh := sh) (N := N) (P := P) (K := K) (R := R) (me := me) (va := va) (ou := ou) (kn := kn) (gY := nI 0) (oc := (-1)) (rn := rn) (sA := sA) (sB := sB) (NY := NY) (PY := PY) (KY := KY) hf (N (16 * m + i)) 6 0 (by omega) h lx lo al rf fX fY pe td ph es L E dn I1 I2
        refine ⟨f + 1, L1, E1, dn1, h1, lx1, lo1, al1, rf1, fX1, fY1, pe1, td1, ph1, es1, pt, ⟨J1, J2, I3, I4, I5, I6, I7, ag_F_lga I8 h1 lo1 (fun w => ⟨fun z => ⟨((J3 w).1 z).1, ((J3 w).1 z).2.1⟩, fun z => ⟨((J3 w).2 z).1, ((J3 w).2 z).2.1⟩⟩)⟩, fun post hp => ⟨2, Xw post 1 ?_⟩, Or.inr ⟨f, m, i, rfl, hm, em, ei, c, fun _ j hj hh => ?_, fun post n KK => ⟨n + 1, ?_⟩⟩⟩
        · rw [if_pos c]
          refine br_t rfl (br_f sn ?_)
          rw [ap_xk, ek]
          refine ⟨hI, nm_r (e' := nI (6 * f)) ?_ ⟨7, J4 pt _ (nm_r (nI_1 r) (br_c (fun _ => hp) (fun _ => br_t rfl hp)))⟩⟩
          rw [nI_pred]
          have : nI f * 6 = nI (f * 6) := pk_mul f 6
          rw [this, Nat.mul_comm]
        · apply Classical.byContradiction
          intro z
          have b0 : bt (N (16 * m + i)) j = false := by
            cases e : bt (N (16 * m + i)) j with
            | false => rfl
            | true => exact absurd (((hA m hm).1 i c j (by omega)).mp e) z
          exact hh ((J3 (6 * f + j)).1 ⟨by omega, by omega, by rw [show 6 * f + j - 6 * f = j by omega]; exact b0⟩).1
        · refine br_t rfl (nm_r x1e ⟨vf, nm_r (e' := nI m) (by rw [ef]; exact em) ⟨vf, nm_r (e' := nI i) (by rw [ef]; exact ei) ⟨vm, br_f (by rw [esz]; exact nI_ge c (by omega)) ?_⟩⟩⟩)
          rw [ap_yk]
          refine ⟨hI, nm_r (e' := N (16 * m + i)) (by rw [ek]; exact eN.symm) ⟨7, J5 sn pt (by_R post n) (nI m) (nI i) KK⟩⟩
    · -- behind the last
      have hfr : 1 ≤ f → ∃ m i, m < 4 ∧ i < 16 ∧ me (f - 1) = nI m ∧ pt (f - 1) = nI i ∧ ap_O p (16 * m + i) = 11 := by
        intro f1
        obtain ⟨m2, i2, q1, q2, q3, q4, q5, _⟩ := I8.2.2 (f - 1) (by omega)
        have z2 := H.2.1 m2
        obtain ⟨q6, q7⟩ := q5 (by omega)
        exact ⟨m2, i2, q1, by omega, q3, q4, q7⟩
      obtain ⟨h1, lx1, lo1, al1, rf1, fX1, fY1, pe1, td1, ph1, es1, L1, E1, dn1, V1, V2, V3⟩ := bz_leave2 (p := p) (po := nI Q) (up := up) (bg := nI B) (gX := nI 0) (sa := sa) (sh := sh) (N := N) (P := P) (K := K) (R := R) (me := me) (h := h) (lx := lx) (va := va) (ou := ou) (kn := kn) (oc := (-1)) (rn := rn) (lo := lo) (sA := sA) (sB := sB) (NY := NY) (PY := PY) (KY := KY) (dn := dn) (pe := pe) (td := td) (ph := ph) (es := es) (pt := pt) (f := f) (g := 0) H hAB hf (Nat.zero_le _) I1 I2 rfl hfr
      have v3 : ¬ nI i < ap_sz p (nI m).toNatClampNeg := by rw [esz]; exact nI_nlt (by omega) (by omega)
      -- the reference: a step that leaves
      have Yw : ∀ (post : Int32 → SY → Prop) (n : Nat), (sh = 0 → wpY_leave (by_R post n) (kn, nI M, nI L, up, dn, nI (f + 1), nI B, nI 0, (-1), sh, rn, nI Q, nI E, ap_oo p, sA, sB, ap_c p, ap_sz p, ap_L p, NY, PY, KY, va, fY, al, me, pt, h, lo, ou, es, td, ph)) → (sh ≠ 0 → wY_step_51 (by_R post n) (nI f) (nI m) (nI i) 0 7 (nI 0) kn (nI M) (nI L) up dn (nI (f + 1)) (nI B) (nI 0) (-1) sh rn (nI Q) (nI E) (ap_oo p) sA sB (ap_c p) (ap_sz p) (ap_L p) NY PY KY va fY al me pt h lo ou es td ph) → wY_run_94 post (n + 1) kn (nI M) (nI L) up dn (nI (f + 1)) (nI B) (nI 0) (-1) sh rn (nI Q) (nI E) (ap_oo p) sA sB (ap_c p) (ap_sz p) (ap_L p) NY PY KY va fY al me pt h lo ou es td ph := by
        intro post n k0 k1
        refine br_t rfl (nm_r x1e ⟨vf, nm_r (e' := nI m) (by rw [ef]; exact em) ⟨vf, nm_r (e' := nI i) (by rw [ef]; exact ei) ⟨vm, br_t (by rw [esz]; exact nI_le (by omega) (by omega)) ?_⟩⟩⟩)
        by_cases s0 : sh = 0
        · exact ⟨1, br_f (by decide) (br_t s0 ⟨vm, br_f v3 (k0 s0)⟩)⟩
        · exact ⟨7, k1 s0⟩
      rcases V3 with ⟨f0, V4, V5, V6, V7⟩ | ⟨f1, V4, V5, V6, V7⟩
      · refine ⟨0, L1, E1, dn1, h1, lx1, lo1, al1, rf1, fX1, fY1, pe1, td1, ph1, es1, pt, ⟨V4, V1, I3, I4, I5, I6, I7, ⟨I8.1, fun _ v hv => by omega, fun g hg => by omega⟩⟩, fun post hp => ⟨2, Xw post 1 ?_⟩, Or.inl ⟨rfl, fun post KK => ?_⟩⟩
        · rw [if_neg c]
          exact br_f (by decide) (V5 _ (nm_r (nI_1 r) (br_c (fun _ => hp) (fun _ => br_f (by decide) (br_t (by decide) hp)))))
        · obtain ⟨n, hn⟩ := KK
          exact ⟨n + 1, Yw post n (fun _ => V6 (by_R post n) hn) (fun s => V7 s (by_R post n) (nI m) (nI i) vm v3 hn)⟩
      · obtain ⟨d', L', E', dn', h', lx', lo', al', rf', fX', fY', pe', td', ph', es', pt', W1, W2, W3⟩ := ih (r + 1) L1 E1 dn1 h1 lx1 lo1 al1 rf1 fX1 fY1 pe1 td1 ph1 es1 (upd pt (f - 1) (pt (f - 1) + 1)) (by omega) f1 ⟨V4, V1, I3, I4, I5, I6, I7, ag_F_leave H I8 f1 h1 lo1 V2⟩
        refine ⟨d', L', E', dn', h', lx', lo', al', rf', fX', fY', pe', td', ph', es', pt', W1, fun post hp => ?_, ?_⟩
        · obtain ⟨n, hn⟩ := W2 post hp
          refine ⟨n + 1, Xw post n ?_⟩
          rw [if_neg c]
          exact br_f (by decide) (V5 _ (nm_r (nI_1 r) hn))
        · have back : ∀ post : Int32 → SY → Prop, (∃ n, wY_run_94 post n kn (nI M) (nI L1) up dn1 (nI f) (nI B) (nI 0) (-1) sh rn (nI Q) (nI E1) (ap_oo p) sA sB (ap_c p) (ap_sz p) (ap_L p) NY PY KY va fY1 al1 me (upd pt (f - 1) (pt (f - 1) + 1)) h1 lo1 ou es1 td1 ph1) → ∃ n, wY_run_94 post n kn (nI M) (nI L) up dn (nI (f + 1)) (nI B) (nI 0) (-1) sh rn (nI Q) (nI E) (ap_oo p) sA sB (ap_c p) (ap_sz p) (ap_L p) NY PY KY va fY al me pt h lo ou es td ph := by
            intro post KK
            obtain ⟨n, hn⟩ := KK
            exact ⟨n + 1, Yw post n (fun _ => V6 (by_R post n) hn) (fun s => V7 s (by_R post n) (nI m) (nI i) vm v3 hn)⟩
          rcases W3 with ⟨e0, W4⟩ | ⟨f', m', i', q1, q2, q3, q4, q5, q6, W4⟩
          · exact Or.inl ⟨e0, fun post KK => back post (W4 post KK)⟩
          · exact Or.inr ⟨f', m', i', q1, q2, q3, q4, q5, q6, fun post n KK => back post (W4 post n KK)⟩
end
