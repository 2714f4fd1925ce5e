section
variable {p : ap_T} {kn po en up dn bg lv md gX gY dp sa sh oc rn : Int32} {sA sB N P K R NY PY KY me pt h lx lo va rf al fX fY pe ou es td ph : Nat → Int32}
theorem bx_144 {d : Nat} (hd : 1 ≤ d) (hd6 : d ≤ 6) {r : Int32} (hr : r ≠ 0) (post : Int32 → SX → Prop) (hp : post r (po, en, up, dn, bg, lv, md, gX, nI d, 16 * me (d - 1) + pt (d - 1), sh, ap_sz p, ap_L p, ap_oo p, ap_aA p, ap_aB p, ap_c p, N, P, K, R, me, pt, h, lx, va, rf, al, fX, pe, ou, es)) : wX_run_144 post r po en up dn bg lv md gX (nI d) sa sh (ap_sz p) (ap_L p) (ap_oo p) (ap_aA p) (ap_aB p) (ap_c p) N P K R me pt h lx va rf al fX pe ou es := by
  have e1 : nI d - 1 = nI (d - 1) := by
    have := nI_pred (d - 1)
    rw [show d - 1 + 1 = d by omega] at this
    exact this
  have v : vp_in (nI (d - 1)) 6 := vp_in_nI (by omega) (by omega)
  refine br_f hr ?_
  rw [e1, nI_clamp (by omega)]
  exact ⟨v, v, nm_e hp⟩
theorem bz_runl (H : ap_OK p) (hAB : ap_AB p sA sB) (hA : ag_A p N P NY PY) : ∀ (k B d M L E Q : Nat) (up dn : Int32) (h lx lo al rf fX fY pe td ph es me pt va ou : Nat → Int32), B + k = 300 → 1 ≤ d → ag_I p sh d M L E Q B 0 h lx lo al rf fX fY me pt va →
    ∃ (d' M' L' E' Q' B' g' : Nat) (r' sa' up' dn' : Int32) (h' lx' lo' al' rf' fX' fY' pe' td' ph' es' me' pt' va' ou' : Nat → Int32),
      ((r' = 0 ∧ d' = 0 ∧ sa' = -1) ∨ ((r' = 1 ∨ r' = 2) ∧ 1 ≤ d' ∧ g' = 0 ∧ sa' = 16 * me' (d' - 1) + pt' (d' - 1))) ∧ ag_I p sh d' M' L' E' Q' B' g' h' lx' lo' al' rf' fX' fY' me' pt' va' ∧
      (∀ post : Int32 → SX → Prop, post r' (nI Q', nI E', up', dn', nI B', nI L', nI M', nI g', nI d', sa', sh, ap_sz p, ap_L p, ap_oo p, ap_aA p, ap_aB p, ap_c p, N, P, K, R, me', pt', h', lx', va', rf', al', fX', pe', ou', es') → ∃ n, wX_run_63 post n 0 (nI B) (nI Q) (nI E) up dn (nI B) (nI L) (nI M) (nI 0) (nI d) sa sh (ap_sz p) (ap_L p) (ap_oo p) (ap_aA p) (ap_aB p) (ap_c p) N P K R me pt h lx va rf al fX pe ou es) ∧
      (∀ post : Int32 → SY → Prop, post r' (kn, nI M', nI L', up', dn', nI d', nI B', nI g', r', sh, rn, nI Q', nI E', ap_oo p, sA, sB, ap_c p, ap_sz p, ap_L p, NY, PY, KY, va', fY', al', me', pt', h', lo', ou', es', td', ph') → ∃ n, wY_run_94 post n kn (nI M) (nI L) up dn (nI d) (nI B) (nI 0) (-1) sh rn (nI Q) (nI E) (ap_oo p) sA sB (ap_c p) (ap_sz p) (ap_L p) NY PY KY va fY al me pt h lo ou es td ph) := by
  intro k
  induction k with
  | zero =>
    intro B d M L E Q up dn h lx lo al rf fX fY pe td ph es me pt va ou hB hd I
    have hB300 : B = 300 := by omega
    have hd6 := I.1.2.2.2.2.2.2.1.2.2.2.2
    obtain ⟨d', L', E', dn', h', lx', lo', al', rf', fX', fY', pe', td', ph', es', pt', W1, W2, W3⟩ := bz_settle (sa := sa) (K := K) (R := R) (kn := kn) (rn := rn) (KY := KY) (up := up) (ou := ou) H hAB hA d 0 L E dn h lx lo al rf fX fY pe td ph es pt (by omega) hd I
    have n1 : ¬ 300 < nI B := nI_nlt (b := B) (a := 300) (by omega) (by omega)
    have nd : ¬ nI d ≤ 0 := nI_nle (by omega) (by omega)
    rcases W3 with ⟨e0, W4⟩ | ⟨f, m, i, q1, q2, q3, q4, q5, q6, W4⟩
    · subst e0
      refine ⟨0, M, L', E', Q, B, 0, 0, -1, up, dn', h', lx', lo', al', rf', fX', fY', pe', td', ph', es', me, pt', va, ou, Or.inl ⟨rfl, rfl, rfl⟩, W1, fun post hp => ⟨2, ?_⟩, fun post hp => W4 post ⟨1, br_f (by decide) hp⟩⟩
      refine br_f n1 (br_t rfl (br_f nd (W2 _ (br_t (by decide) (br_t (by decide) (nm_e (br_c (fun _ => br_t rfl hp) (fun _ => br_t rfl (br_t (by decide) (br_t rfl hp))))))))))
    · subst q1
      have hd6' := W1.1.2.2.2.2.2.2.1.2.2.2.2
      refine ⟨f + 1, M, L', E', Q, B, 0, 2, 16 * me (f + 1 - 1) + pt' (f + 1 - 1), up, dn', h', lx', lo', al', rf', fX', fY', pe', td', ph', es', me, pt', va, ou, Or.inr ⟨Or.inr rfl, by omega, rfl, rfl⟩, W1, fun post hp => ⟨2, ?_⟩, fun post hp => W4 post 1 ?_⟩
      · refine br_f n1 (br_t rfl (br_f nd (W2 _ (br_f (nI_nle (by omega) (by omega)) (br_f (by rw [hB300]; decide) (nm_r (nI_1 B) (br_t (nI_lt (a := 300) (by omega) (by omega)) (bx_144 (by omega) hd6' (by decide) post hp))))))))
      · exact ⟨vp_in_nI q2 (by omega), br_t (by rw [ap_szm p q2]; have := H.2.1 m; exact nI_lt q5 (by omega)) (br_t (by rw [hB300]; rfl) (br_f (by decide) hp))⟩
  | succ k ih =>
    intro B d M L E Q up dn h lx lo al rf fX fY pe td ph es me pt va ou hB hd I
    have hd6 := I.1.2.2.2.2.2.2.1.2.2.2.2
    obtain ⟨d', L', E', dn', h', lx', lo', al', rf', fX', fY', pe', td', ph', es', pt', W1, W2, W3⟩ := bz_settle (sa := sa) (K := K) (R := R) (kn := kn) (rn := rn) (KY := KY) (up := up) (ou := ou) H hAB hA d 0 L E dn h lx lo al rf fX fY pe td ph es pt (by omega) hd I
    have n1 : ¬ 300 < nI B := nI_nlt (b := B) (a := 300) (by omega) (by omega)
    have nd : ¬ nI d ≤ 0 := nI_nle (by omega) (by omega)
    rcases W3 with ⟨e0, W4⟩ | ⟨f, m, i, q1, q2, q3, q4, q5, q6, W4⟩
    · subst e0
      refine ⟨0, M, L', E', Q, B, 0, 0, -1, up, dn', h', lx', lo', al', rf', fX', fY', pe', td', ph', es', me, pt', va, ou, Or.inl ⟨rfl, rfl, rfl⟩, W1, fun post hp => ⟨2, ?_⟩, fun post hp => W4 post ⟨1, br_f (by decide) hp⟩⟩
      refine br_f n1 (br_t rfl (br_f nd (W2 _ (br_t (by decide) (br_t (by decide) (nm_e (br_c (fun _ => br_t rfl hp) (fun _ => br_t rfl (br_t (by decide) (br_t rfl hp))))))))))
    · subst q1
      have hd6' := W1.1.2.2.2.2.2.2.1.2.2.2.2
      have hz := H.2.1 m
      obtain ⟨d2, M2, L2, E2, Q2, g2, r2, oc2, up2, dn2, h2, lx2, lo2, al2, rf2, fX2, fY2, pe2, td2, ph2, es2, me2, pt2, va2, ou2, P1, P2, P3, P4⟩ := bz_perf (sa := sa) (K := K) (R := R) (kn := kn) (rn := rn) (KY := KY) (up := up) (dn := dn') (pe := pe') (td := td') (ph := ph') (es := es') (ou := ou) H hAB hA W1 (by omega) q3 q4 q2 q5 q6
      have b3 : nI B < 300 := nI_lt (b := 300) (by omega) (by decide)
      -- one turn of both, up to what the instruction makes
      have Xw : ∀ (post : Int32 → SX → Prop) (n : Nat), (∃ n', n = n') → ((r2 = 0 → wX_run_63 post n 1 (nI (B + 1)) (nI Q2) (nI E2) up2 dn2 (nI (B + 1)) (nI L2) (nI M2) (nI g2) (nI d2) sa sh (ap_sz p) (ap_L p) (ap_oo p) (ap_aA p) (ap_aB p) (ap_c p) N P K R me2 pt2 h2 lx2 va2 rf2 al2 fX2 pe2 ou2 es2) ∧
          (¬ r2 = 0 → wX_run_63 post n 0 (nI (B + 1)) (nI Q2) (nI E2) up2 dn2 (nI (B + 1)) (nI L2) (nI M2) (nI g2) (nI d2) sa sh (ap_sz p) (ap_L p) (ap_oo p) (ap_aA p) (ap_aB p) (ap_c p) N P K R me2 pt2 h2 lx2 va2 rf2 al2 fX2 pe2 ou2 es2)) → wX_run_63 post (n + 1) 0 (nI B) (nI Q) (nI E) up dn (nI B) (nI L) (nI M) (nI 0) (nI d) sa sh (ap_sz p) (ap_L p) (ap_oo p) (ap_aA p) (ap_aB p) (ap_c p) N P K R me pt h lx va rf al fX pe ou es := by
        intro post n _ KK
        refine br_f n1 (br_t rfl (br_f nd (W2 _ (br_f (nI_nle (by omega) (by omega)) (br_t b3 (br_f (nI_nle (by omega) (by omega)) (nm_r (nI_1 B) (P3 _ ?_))))))))
        exact br_c (fun c => nm_r (nI_1 B) (KK.1 c)) (fun c => nm_r (nI_1 B) (KK.2 c))
      have Yw : ∀ (post : Int32 → SY → Prop) (n : Nat), wY_run_94 post n kn (nI M2) (nI L2) up2 dn2 (nI d2) (nI (B + 1)) (nI g2) oc2 sh rn (nI Q2) (nI E2) (ap_oo p) sA sB (ap_c p) (ap_sz p) (ap_L p) NY PY KY va2 fY2 al2 me2 pt2 h2 lo2 ou2 es2 td2 ph2 → ∃ n', wY_run_94 post n' kn (nI M) (nI L) up dn (nI d) (nI B) (nI 0) (-1) sh rn (nI Q) (nI E) (ap_oo p) sA sB (ap_c p) (ap_sz p) (ap_L p) NY PY KY va fY al me pt h lo ou es td ph := by
        intro post n KK
        refine W4 post n ⟨vp_in_nI q2 (by omega), br_t (by rw [ap_szm p q2]; exact nI_lt q5 (by omega)) (br_f (fun z => by have := (nI_eq (b := 300) (by omega) (by decide)).mp z; omega) (nm_r (nI_1 B) ?_))⟩
        have e6 : 6 * nI f = nI (6 * f) := pk_mul 6 f
        rw [e6, ap_yk]
        exact P4 (by_R post n) KK
      rcases P1 with ⟨e1, e2, e3, e4⟩ | ⟨e1, e2, e3⟩ | ⟨e1, e2, e3, e4⟩
      · subst e1 e2 e4
        obtain ⟨d3, M3, L3, E3, Q3, B3, g3, r3, sa3, up3, dn3, h3, lx3, lo3, al3, rf3, fX3, fY3, pe3, td3, ph3, es3, me3, pt3, va3, ou3, R1, R2, R3, R4⟩ := ih (B + 1) d2 M2 L2 E2 Q2 up2 dn2 h2 lx2 lo2 al2 rf2 fX2 fY2 pe2 td2 ph2 es2 me2 pt2 va2 ou2 (by omega) e3 P2
        refine ⟨d3, M3, L3, E3, Q3, B3, g3, r3, sa3, up3, dn3, h3, lx3, lo3, al3, rf3, fX3, fY3, pe3, td3, ph3, es3, me3, pt3, va3, ou3, R1, R2, fun post hp => ?_, fun post hp => ?_⟩
        · obtain ⟨n, hn⟩ := R3 post hp
          exact ⟨n + 1, Xw post n ⟨n, rfl⟩ ⟨fun z => absurd z (by decide), fun _ => hn⟩⟩
        · obtain ⟨n, hn⟩ := R4 post hp
          exact Yw post n hn
      · subst e1 e2 e3
        refine ⟨0, M2, L2, E2, Q2, B + 1, g2, 0, -1, up2, dn2, h2, lx2, lo2, al2, rf2, fX2, fY2, pe2, td2, ph2, es2, me2, pt2, va2, ou2, Or.inl ⟨rfl, rfl, rfl⟩, P2, fun post hp => ⟨2, Xw post 1 ⟨1, rfl⟩ ⟨fun z => absurd z (by decide), fun _ => br_c (fun _ => br_t rfl hp) (fun _ => br_t rfl (br_t (by decide) (br_t rfl hp)))⟩⟩, fun post hp => Yw post 1 (br_f (by decide) hp)⟩
      · subst e1 e2 e3 e4
        refine ⟨f + 1, M2, L2, E2, Q2, B + 1, 0, 1, 16 * me2 (f + 1 - 1) + pt2 (f + 1 - 1), up2, dn2, h2, lx2, lo2, al2, rf2, fX2, fY2, pe2, td2, ph2, es2, me2, pt2, va2, ou2, Or.inr ⟨Or.inl rfl, by omega, rfl, rfl⟩, P2, fun post hp => ⟨2, Xw post 1 ⟨1, rfl⟩ ⟨fun _ => br_c (fun _ => bx_144 (by omega) hd6' (by decide) post hp) (fun _ => br_f (by decide) (bx_144 (by omega) hd6' (by decide) post hp)), fun z => absurd rfl z⟩⟩, fun post hp => Yw post 1 (br_f (by decide) hp)⟩
end
