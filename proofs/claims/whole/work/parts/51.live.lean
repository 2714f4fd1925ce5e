section
variable {p : ap_T} {kn po en up dn bg lv md gX gY dp sa sh oc rn : Int32} {sA sB N P K R NY PY KY me pt h lx lo va rf al fX fY pe ou es td ph : Nat → Int32}
variable {d M L E : Nat}
/-- whether n is an object that is alive, on both sides -/
theorem ar_live (n : Int32) (R1 : ac_MI 0 [] gY h lo d M al rf fX fY L E) :
    ∃ x : Int32, ((x = 0) ∨ (x = 1 ∧ ∃ j, 1 ≤ j ∧ j ≤ M ∧ n = nI j ∧ al j = 1)) ∧ (∀ post : Int32 → Prop, post x → wpX_isAlive post (po, en, up, dn, bg, lv, nI M, gX, dp, sa, sh, ap_sz p, ap_L p, ap_oo p, ap_aA p, ap_aB p, ap_c p, N, P, K, R, me, pt, h, lx, va, rf, al, fX, pe, ou, es) n) ∧ (∀ post : Int32 → Prop, post x → wpY_isAlive post (kn, nI M, lv, up, dn, dp, bg, gY, oc, sh, rn, po, en, ap_oo p, sA, sB, ap_c p, ap_sz p, ap_L p, NY, PY, KY, va, fY, al, me, pt, h, lo, ou, es, td, ph) n) := by
  obtain ⟨hLc, hL24, hEL, hM, hd⟩ := R1.2.2.2.2.2.2.1
  by_cases c : n ≤ 0
  · exact ⟨0, Or.inl rfl, fun post hp => br_t c hp, fun post hp => br_t c hp⟩
  · obtain ⟨j, hj, rfl⟩ := nI_of (x := n) (fun z => c (Int32.le_of_lt z))
    by_cases c2 : M < j
    · have c2' : nI M < nI j := nI_lt c2 hj
      exact ⟨0, Or.inl rfl, fun post hp => br_f c (br_t c2' hp), fun post hp => br_f c (br_t c2' hp)⟩
    · have c2' : ¬ nI M < nI j := nI_nlt (by omega) (by omega)
      have j1 : 1 ≤ j := by
        apply Classical.byContradiction
        intro z
        exact c (by rw [show j = 0 by omega]; decide)
      have vj : vp_in (nI j) 301 := vp_in_nI (by omega) (by omega)
      have ej : (nI j).toNatClampNeg = j := nI_clamp hj
      rcases ac_al01 R1 j1 (by omega) with a | a
      · exact ⟨0, Or.inl rfl, fun post hp => br_f c (br_f c2' ⟨vj, br_t (by rw [ej]; exact a) hp⟩), fun post hp => br_f c (br_f c2' ⟨vj, br_t (by rw [ej]; exact a) hp⟩)⟩
      · exact ⟨1, Or.inr ⟨rfl, j, j1, by omega, rfl, a⟩, fun post hp => br_f c (br_f c2' ⟨vj, br_f (by rw [ej, a]; decide) hp⟩), fun post hp => br_f c (br_f c2' ⟨vj, br_f (by rw [ej, a]; decide) hp⟩)⟩
end
theorem i_vc_count {k : Nat} {u : SX} {v : SY} (I : i_Rel k u v) (hk : k + 6 ≤ 3072) (v1 : Int32) : wpX_count (fun r => wpY_count (fun r' => r' = r ∧ i_Rel (k + 6) u v) v v1) u v1 := by
  have II := I
  obtain ⟨p, d, M, L, E, Q, B, g, kn, up, dn, sa, sh, oc, rn, sA, sB, N, P, K, R, NY, PY, KY, me, pt, h, lx, lo, va, rf, al, fX, fY, pe, ou, es, td, ph, rfl, rfl, H, hAB, hkn, hR⟩ := I
  obtain ⟨R1, R2, R3, R4, R5, R6, R7, R8, R9⟩ := hR
  obtain ⟨hLc, hL24, hEL, hM, hd⟩ := R1.2.2.2.2.2.2.1
  obtain ⟨x, hx, wX, wY⟩ := ar_live (p := p) (po := nI Q) (en := nI E) (up := up) (dn := dn) (bg := nI B) (lv := nI L) (gX := nI g) (dp := nI d) (sa := sa) (sh := sh) (N := N) (P := P) (K := K) (R := R) (me := me) (pt := pt) (lx := lx) (va := va) (pe := pe) (ou := ou) (es := es) (kn := kn) (gY := nI g) (oc := oc) (rn := rn) (sA := sA) (sB := sB) (NY := NY) (PY := PY) (KY := KY) (td := td) (ph := ph) v1 R1
  unfold wpX_count
  refine wX _ ?_
  rcases hx with e | ⟨e, j, j1, j2, ej, ja⟩
  · refine br_t e ?_
    unfold wpY_count
    exact wY _ (br_t e ⟨rfl, II⟩)
  · subst ej
    obtain ⟨r1, r2⟩ := ac_rf R1 j1 j2 ja
    refine br_f (by rw [e]; decide) ⟨vp_in_nI (by omega) (by omega), ?_⟩
    rw [nI_clamp (by omega), r1]
    unfold wpY_count
    refine wY _ (br_f (by rw [e]; decide) (by_count hM hd _ ⟨rfl, II⟩))
theorem i_vc_field {k : Nat} {u : SX} {v : SY} (I : i_Rel k u v) (hk : k + 6 ≤ 3072) (v1 : Int32) (v2 : Int32) : wpX_field (fun r => wpY_field (fun r' => r' = r ∧ i_Rel (k + 6) u v) v v1 v2) u v1 v2 := by
  have II := I
  obtain ⟨p, d, M, L, E, Q, B, g, kn, up, dn, sa, sh, oc, rn, sA, sB, N, P, K, R, NY, PY, KY, me, pt, h, lx, lo, va, rf, al, fX, fY, pe, ou, es, td, ph, rfl, rfl, H, hAB, hkn, hR⟩ := I
  obtain ⟨R1, R2, R3, R4, R5, R6, R7, R8, R9⟩ := hR
  obtain ⟨hLc, hL24, hEL, hM, hd⟩ := R1.2.2.2.2.2.2.1
  obtain ⟨x, hx, wX, wY⟩ := ar_live (p := p) (po := nI Q) (en := nI E) (up := up) (dn := dn) (bg := nI B) (lv := nI L) (gX := nI g) (dp := nI d) (sa := sa) (sh := sh) (N := N) (P := P) (K := K) (R := R) (me := me) (pt := pt) (lx := lx) (va := va) (pe := pe) (ou := ou) (es := es) (kn := kn) (gY := nI g) (oc := oc) (rn := rn) (sA := sA) (sB := sB) (NY := NY) (PY := PY) (KY := KY) (td := td) (ph := ph) v1 R1
  unfold wpX_field
  refine wX _ ?_
  rcases hx with e | ⟨e, j, j1, j2, ej, ja⟩
  · refine br_t e ?_
    unfold wpY_field
    exact wY _ (br_t e ⟨rfl, II⟩)
  · subst ej
    have e0 : ¬ x = 0 := by rw [e]; decide
    refine br_f e0 ?_
    rcases pk_ix v2 (n := 3) (by decide) with c | c | ⟨m, hm, rfl⟩
    · refine br_t c ?_
      unfold wpY_field
      exact wY _ (br_f e0 (ay_no _ v2 (n := 3) (by decide) (fun j hj e => by rw [e] at c; exact absurd c (nI_pos (by omega))) (fun _ => br_f (by decide) ⟨rfl, II⟩)))
    · refine br_f (Int32.not_lt.mpr (Int32.le_trans (by decide) c)) (br_t c ?_)
      unfold wpY_field
      exact wY _ (br_f e0 (ay_no _ v2 (n := 3) (by decide) (fun j hj e => by rw [e] at c; exact absurd c (nI_ge (b := 3) hj (by decide))) (fun _ => br_f (by decide) ⟨rfl, II⟩)))
    · have iX : nI j * 3 + nI m = nI (3 * j + m) := by
        have : nI j * 3 = nI (j * 3) := pk_mul j 3
        rw [this, nI_add, Nat.mul_comm]
      have iY : 3 * nI j + nI m = nI (3 * j + m) := by
        have : 3 * nI j = nI (3 * j) := pk_mul 3 j
        rw [this, nI_add]
      have vx : vp_in (nI (3 * j + m)) 903 := vp_in_nI (by omega) (by omega)
      refine br_f (nI_pos (by omega)) (br_f (nI_ge (b := 3) hm (by decide)) ?_)
      rw [iX, nI_clamp (n := 3 * j + m) (by omega)]
      refine ⟨vx, ?_⟩
      unfold wpY_field
      refine wY _ (br_f e0 (ay_no _ (nI m) (n := 3) (by decide) (fun _ _ _ => br_t rfl ?_) (fun z => by rcases z with z | z; exact absurd z (nI_pos (by omega)); exact absurd z (nI_ge (b := 3) hm (by decide)))))
      rw [iY, nI_clamp (n := 3 * j + m) (by omega)]
      exact ⟨vx, (ac_fld R1 j1 j2 ja hm).symm, II⟩
theorem i_vc_state {k : Nat} {u : SX} {v : SY} (I : i_Rel k u v) (hk : k + 6 ≤ 3072) (v1 : Int32) : wpX_state (fun r => wpY_state (fun r' => r' = r ∧ i_Rel (k + 6) u v) v v1) u v1 := by
  have II := I
  obtain ⟨p, d, M, L, E, Q, B, g, kn, up, dn, sa, sh, oc, rn, sA, sB, N, P, K, R, NY, PY, KY, me, pt, h, lx, lo, va, rf, al, fX, fY, pe, ou, es, td, ph, rfl, rfl, H, hAB, hkn, hR⟩ := I
  obtain ⟨R1, R2, R3, R4, R5, R6, R7, R8, R9⟩ := hR
  obtain ⟨hLc, hL24, hEL, hM, hd⟩ := R1.2.2.2.2.2.2.1
  rcases pk_ix v1 (n := 10) (by decide) with c | c | ⟨m, hm, rfl⟩
  · exact br_t c (br_t c ⟨rfl, II⟩)
  · have c9 : (9 : Int32) < v1 := Int32.lt_of_lt_of_le (by decide) c
    have c0 : ¬ v1 < 0 := Int32.not_lt.mpr (Int32.le_trans (by decide) c)
    exact br_f c0 (br_t c9 (br_f c0 (br_t c9 ⟨rfl, II⟩)))
  · have h10 : m = 0 ∨ m = 1 ∨ m = 2 ∨ m = 3 ∨ m = 4 ∨ m = 5 ∨ m = 6 ∨ m = 7 ∨ m = 8 ∨ m = 9 := by omega
    rcases h10 with e | e | e | e | e | e | e | e | e | e <;> subst e
    · exact br_f (by decide) (br_f (by decide) (br_t (by decide) (br_f (by decide) (br_f (by decide) (br_t (by decide) (⟨rfl, II⟩))))))
    · exact br_f (by decide) (br_f (by decide) (br_f (by decide) (br_t (by decide) (br_f (by decide) (br_f (by decide) (br_f (by decide) (br_t (by decide) (⟨rfl, II⟩))))))))
    · exact br_f (by decide) (br_f (by decide) (br_f (by decide) (br_f (by decide) (br_t (by decide) (br_f (by decide) (br_f (by decide) (br_f (by decide) (br_f (by decide) (br_t (by decide) (⟨rfl, II⟩))))))))))
    · exact br_f (by decide) (br_f (by decide) (br_f (by decide) (br_f (by decide) (br_f (by decide) (br_t (by decide) (br_f (by decide) (br_f (by decide) (br_f (by decide) (br_f (by decide) (br_f (by decide) (br_t (by decide) (⟨rfl, II⟩))))))))))))
    · exact br_f (by decide) (br_f (by decide) (br_f (by decide) (br_f (by decide) (br_f (by decide) (br_f (by decide) (br_t (by decide) (br_f (by decide) (br_f (by decide) (br_f (by decide) (br_f (by decide) (br_f (by decide) (br_f (by decide) (br_t (by decide) (⟨rfl, II⟩))))))))))))))
    · exact br_f (by decide) (br_f (by decide) (br_f (by decide) (br_f (by decide) (br_f (by decide) (br_f (by decide) (br_f (by decide) (br_t (by decide) (br_f (by decide) (br_f (by decide) (br_f (by decide) (br_f (by decide) (br_f (by decide) (br_f (by decide) (br_f (by decide) (br_t (by decide) (⟨rfl, II⟩))))))))))))))))
    · exact br_f (by decide) (br_f (by decide) (br_f (by decide) (br_f (by decide) (br_f (by decide) (br_f (by decide) (br_f (by decide) (br_f (by decide) (br_t (by decide) (br_f (by decide) (br_f (by decide) (br_f (by decide) (br_f (by decide) (br_f (by decide) (br_f (by decide) (br_f (by decide) (br_f (by decide) (br_t (by decide) (⟨rfl, II⟩))))))))))))))))))
    · refine br_f (by decide) (br_f (by decide) (br_f (by decide) (br_f (by decide) (br_f (by decide) (br_f (by decide) (br_f (by decide) (br_f (by decide) (br_f (by decide) (br_t (by decide) (br_f (by decide) (br_f (by decide) (br_f (by decide) (br_f (by decide) (br_f (by decide) (br_f (by decide) (br_f (by decide) (br_f (by decide) (br_f (by decide) (br_t (by decide) (?_))))))))))))))))))))
      by_cases c : oc = 0
      · exact br_t c ⟨rfl, II⟩
      · exact br_f c ⟨by rw [R8 c]; rfl, II⟩
    · exact br_f (by decide) (br_f (by decide) (br_f (by decide) (br_f (by decide) (br_f (by decide) (br_f (by decide) (br_f (by decide) (br_f (by decide) (br_f (by decide) (br_f (by decide) (br_t (by decide) (br_f (by decide) (br_f (by decide) (br_f (by decide) (br_f (by decide) (br_f (by decide) (br_f (by decide) (br_f (by decide) (br_f (by decide) (br_f (by decide) (br_f (by decide) (br_t (by decide) (⟨rfl, II⟩))))))))))))))))))))))
    · refine br_f (by decide) (br_f (by decide) (br_f (by decide) (br_f (by decide) (br_f (by decide) (br_f (by decide) (br_f (by decide) (br_f (by decide) (br_f (by decide) (br_f (by decide) (br_f (by decide) (br_t (by decide) (br_f (by decide) (br_f (by decide) (br_f (by decide) (br_f (by decide) (br_f (by decide) (br_f (by decide) (br_f (by decide) (br_f (by decide) (br_f (by decide) (br_f (by decide) (br_f (by decide) (br_t (by decide) (?_))))))))))))))))))))))))
      rcases R9 with ⟨a, b⟩ | ⟨a, b, c, e⟩
      · by_cases r0 : rn = 0
        · exact br_t r0 ⟨b.symm, II⟩
        · exact br_f r0 (br_t (by rcases a with a | a; exact absurd a r0; exact a) ⟨b.symm, II⟩)
      · have e1 : nI d - 1 = nI (d - 1) := by
          have := nI_pred (d - 1)
          rw [show d - 1 + 1 = d by omega] at this
          exact this
        have v : vp_in (nI (d - 1)) 6 := vp_in_nI (by omega) (by omega)
        refine br_f a (br_f b ?_)
        rw [e1, nI_clamp (n := d - 1) (by omega)]
        exact ⟨v, v, e.symm, II⟩
