section
variable {p : ap_T} {kn po en up dn bg lv md gX gY dp sa sh oc rn : Int32} {sA sB N P K R NY PY KY me pt h lx lo va rf al fX fY pe ou es td ph : Nat → Int32}
theorem ar_there (H : ap_OK p) (v1 v2 : Int32) :
    (∃ m i, m < 4 ∧ i < ap_Z p m ∧ v1 = nI m ∧ v2 = nI i ∧ (∀ post : Int32 → Prop, post 1 → wpX_isThere post (po, en, up, dn, bg, lv, md, gX, dp, sa, sh, ap_sz p, ap_L p, ap_oo p, ap_aA p, ap_aB p, ap_c p, N, P, K, R, me, pt, h, lx, va, rf, al, fX, pe, ou, es) v1 v2) ∧ (∀ post : Int32 → Prop, post 1 → wpY_has post (kn, md, lv, up, dn, dp, bg, gY, oc, sh, rn, po, en, ap_oo p, sA, sB, ap_c p, ap_sz p, ap_L p, NY, PY, KY, va, fY, al, me, pt, h, lo, ou, es, td, ph) v1 v2)) ∨
    ((∀ post : Int32 → Prop, post 0 → wpX_isThere post (po, en, up, dn, bg, lv, md, gX, dp, sa, sh, ap_sz p, ap_L p, ap_oo p, ap_aA p, ap_aB p, ap_c p, N, P, K, R, me, pt, h, lx, va, rf, al, fX, pe, ou, es) v1 v2) ∧ (∀ post : Int32 → Prop, post 0 → wpY_has post (kn, md, lv, up, dn, dp, bg, gY, oc, sh, rn, po, en, ap_oo p, sA, sB, ap_c p, ap_sz p, ap_L p, NY, PY, KY, va, fY, al, me, pt, h, lo, ou, es, td, ph) v1 v2)) := by
  rcases pk_ix v1 (n := 4) (by decide) with c | c | ⟨m, hm, rfl⟩
  · refine Or.inr ⟨fun post hp => br_t c hp, fun post hp => ?_⟩
    unfold wpY_has
    exact ay_no _ v1 (n := 4) (by decide) (fun j hj e => by rw [e] at c; exact absurd c (nI_pos (by omega))) (fun _ => br_f (by decide) hp)
  · refine Or.inr ⟨fun post hp => br_f (Int32.not_lt.mpr (Int32.le_trans (by decide) c)) (br_t c hp), fun post hp => ?_⟩
    unfold wpY_has
    exact ay_no _ v1 (n := 4) (by decide) (fun j hj e => by rw [e] at c; exact absurd c (nI_ge (b := 4) hj (by decide))) (fun _ => br_f (by decide) hp)
  · have hz := H.2.1 m
    have vm : vp_in (nI m) 4 := vp_in_nI hm (by omega)
    have m0 : ¬ nI m < 0 := nI_pos (by omega)
    have m4 : ¬ (4 : Int32) ≤ nI m := nI_ge (b := 4) hm (by decide)
    have esz := ap_szm p hm
    have Yin : ∀ post : Int32 → Prop, wpY_no (fun r => ((r = 0 → post 1) ∧ (¬ r = 0 → post 0))) v2 (nI (ap_Z p m)) → wpY_has post (kn, md, lv, up, dn, dp, bg, gY, oc, sh, rn, po, en, ap_oo p, sA, sB, ap_c p, ap_sz p, ap_L p, NY, PY, KY, va, fY, al, me, pt, h, lo, ou, es, td, ph) (nI m) v2 := by
      intro post KK
      unfold wpY_has
      refine ay_no _ (nI m) (n := 4) (by decide) (fun _ _ _ => br_t rfl ⟨vm, ?_⟩) (fun z => ?_)
      · rw [esz]; exact KK
      · rcases z with z | z
        · exact absurd z m0
        · exact absurd z m4
    rcases pk_ix v2 (n := ap_Z p m) (by omega) with c | c | ⟨i, hi, rfl⟩
    · refine Or.inr ⟨fun post hp => br_f m0 (br_f m4 (br_t c hp)), fun post hp => Yin post (ay_no _ v2 (by omega) (fun j hj e => by rw [e] at c; exact absurd c (nI_pos (by omega))) (fun _ => br_f (by decide) hp))⟩
    · refine Or.inr ⟨fun post hp => br_f m0 (br_f m4 (br_f (Int32.not_lt.mpr (Int32.le_trans (nI_pos' (n := ap_Z p m) (by omega)) c)) ⟨vm, br_t (by rw [esz]; exact c) hp⟩)), fun post hp => Yin post (ay_no _ v2 (by omega) (fun j hj e => by rw [e] at c; exact absurd c (nI_ge hj (by omega))) (fun _ => br_f (by decide) hp))⟩
    · refine Or.inl ⟨m, i, hm, hi, rfl, rfl, fun post hp => br_f m0 (br_f m4 (br_f (nI_pos (by omega)) ⟨vm, br_f (by rw [esz]; exact nI_ge hi (by omega)) hp⟩)), fun post hp => Yin post (ay_no _ (nI i) (by omega) (fun _ _ _ => br_t rfl hp) (fun z => ?_))⟩
      rcases z with z | z
      · exact absurd z (nI_pos (by omega))
      · exact absurd z (nI_ge hi (by omega))
end
theorem i_vc_plan {k : Nat} {u : SX} {v : SY} (I : i_Rel k u v) (hk : k + 6 ≤ 3072) (v1 : Int32) (v2 : Int32) : wpX_plan (fun r u' => wpY_plan (fun r' v' => r' = r ∧ i_Rel (k + 6) u' v') v v1 v2) u v1 v2 := by
  have II := I
  obtain ⟨p, d, M, L, E, Q, B, g, kn, up, dn, sa, sh, oc, rn, sA, sB, N, P, K, R, NY, PY, KY, me, pt, h, lx, lo, va, rf, al, fX, fY, pe, ou, es, td, ph, rfl, rfl, H, hAB, hkn, hR⟩ := I
  unfold wpX_plan
  rcases ar_there (p := p) (po := nI Q) (en := nI E) (up := up) (dn := dn) (bg := nI B) (lv := nI L) (md := nI M) (gX := nI g) (dp := nI d) (sa := sa) (sh := sh) (N := N) (P := P) (K := K) (R := R) (me := me) (pt := pt) (h := h) (lx := lx) (va := va) (rf := rf) (al := al) (fX := fX) (pe := pe) (ou := ou) (es := es) (kn := kn) (gY := nI g) (oc := oc) (rn := rn) (sA := sA) (sB := sB) (NY := NY) (PY := PY) (KY := KY) (fY := fY) (lo := lo) (td := td) (ph := ph) H v1 v2 with ⟨m, i, hm, hi, rfl, rfl, wX, wY⟩ | ⟨wX, wY⟩
  · have hz := H.2.1 m
    refine wX _ (br_f (by decide) (ax_analyse H hm _ (fun N' P' K' R' h1 h2 h3 o1 o2 o3 o4 => ?_)))
    dsimp only
    rw [ap_xk, nI_clamp (n := 16 * m + i) (by omega)]
    refine ⟨vp_in_nI (by omega) (by omega), ?_⟩
    unfold wpY_plan
    refine wY _ (br_f (by decide) (ay_look H hAB hkn _ (fun NY' PY' KY' s f1 f2 f3 => ?_)))
    dsimp only
    rw [ap_yk, nI_clamp (n := 16 * m + i) (by omega)]
    refine ⟨vp_in_nI (by omega) (by omega), ap_Pl_u ((s m hm).2.1 i hi) (h2 i hi), ?_⟩
    exact ⟨p, d, M, L, E, Q, B, g, 1, up, dn, sa, sh, oc, rn, sA, sB, N', P', K', R', NY', PY', KY', me, pt, h, lx, lo, va, rf, al, fX, fY, pe, ou, es, td, ph, rfl, rfl, H, hAB, Or.inr ⟨rfl, s⟩, hR⟩
  · refine wX _ (br_t rfl ?_)
    unfold wpY_plan
    exact wY _ (br_t rfl ⟨rfl, II⟩)
