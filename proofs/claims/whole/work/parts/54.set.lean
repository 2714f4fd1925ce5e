section
variable {p : ap_T} {kn po en up dn bg lv md gX gY dp sa sh oc rn : Int32} {sA sB N P K R NY PY KY me pt h lx lo va rf al fX fY pe ou es td ph : Nat → Int32}
variable {m i t : Nat}
/-- what is LEFT on a way: the reference answers as the component -/
theorem ar_120 (H : ap_OK p) (hAB : ap_AB p sA sB) (hm : m < 4) (hi : i < ap_Z p m) (ht : t ≤ 16) (hN : ap_NS p m N) (hP : ap_PS p m P) (hK : ap_KX p m K R) (s : ay_Sp p m NY PY KY) (h6 : ap_kp p m i 6) {x z : Int32}
    (hx : ∀ v, v < 32 → (bt x v = true ↔ (ap_gn p m i v ∨ bt (K (16 * m + i)) v = true ∧ ¬ ap_kl p m i v))) (hz1 : (t < ap_Z p m ∧ z = N (16 * m + t)) ∨ (ap_Z p m ≤ t ∧ z = 0)) :
    ∀ post : Int32 → SY → Prop, post (x &&& (z ^^^ (-1))) (kn, md, lv, up, dn, dp, bg, gY, oc, sh, rn, po, en, ap_oo p, sA, sB, ap_c p, ap_sz p, ap_L p, NY, PY, KY, va, fY, al, me, pt, h, lo, ou, es, td, ph) → wY_set_120 post (nI m) (nI (16 * m + i)) (nI t) kn md lv up dn dp bg gY oc sh rn po en (ap_oo p) sA sB (ap_c p) (ap_sz p) (ap_L p) NY PY KY va fY al me pt h lo ou es td ph := by
  have hz := H.2.1 m
  have hk : 16 * m + i < 64 := by omega
  have hI : vp_in (nI (16 * m + i)) 64 := vp_in_nI hk (by omega)
  have ek : (nI (16 * m + i)).toNatClampNeg = 16 * m + i := nI_clamp (by omega)
  obtain ⟨y, hy, wy⟩ := ay_kb (kn := kn) (md := md) (lv := lv) (up := up) (dn := dn) (dp := dp) (bg := bg) (gY := gY) (oc := oc) (sh := sh) (rn := rn) (po := po) (en := en) (sA := sA) (sB := sB) (NY := NY) (PY := PY) (KY := KY) (va := va) (fY := fY) (al := al) (me := me) (pt := pt) (h := h) (lo := lo) (ou := ou) (es := es) (td := td) (ph := ph) H hAB hm hi s.2.1
  have kY : ∀ v, v < 32 → (bt (KY (16 * m + i)) v = true ↔ v < 6 ∧ ap_kp p m i v) := by
    rcases s.2.2 i hi with ⟨a, _⟩ | ⟨_, b⟩
    · exact absurd h6 a
    · exact b
  have exy : x = y := by
    refine b_ext (fun v hv => ad_iffb (hx v hv) ?_)
    rw [hy v hv, kY v hv, ((hK i hi).2.2 v hv)]
  have pos : (0 : Int32) ≤ KY (16 * m + i) := by
    apply Int32.not_lt.mp
    intro c
    have := ((kY 31 (by omega)).mp ((ad_neg _).mp c)).1
    omega
  intro post hp
  refine ⟨hI, br_t (by rw [ek]; exact pos) (wy _ ⟨vp_in_nI hm (by omega), ?_⟩)⟩
  rw [ap_szm p hm, ← exy]
  rcases hz1 with ⟨a, e⟩ | ⟨a, e⟩
  · refine br_f (nI_ge a (by omega)) ?_
    rw [ap_yk, nI_clamp (n := 16 * m + t) (by omega)]
    refine ⟨vp_in_nI (by omega) (by omega), ?_⟩
    rw [← ap_NS_u hN s.1 a, ← e]; exact hp
  · refine br_t (nI_le a (by omega)) ?_
    rw [e] at hp; exact hp
end
theorem i_vc_set {k : Nat} {u : SX} {v : SY} (I : i_Rel k u v) (hk : k + 6 ≤ 3072) (v1 : Int32) (v2 : Int32) (v3 : Int32) : wpX_set (fun r u' => wpY_set (fun r' v' => r' = r ∧ i_Rel (k + 6) u' v') v v1 v2 v3) u v1 v2 v3 := by
  have II := I
  obtain ⟨p, d, M, L, E, Q, B, g, kn, up, dn, sa, sh, oc, rn, sA, sB, N, P, K, R, NY, PY, KY, me, pt, h, lx, lo, va, rf, al, fX, fY, pe, ou, es, td, ph, rfl, rfl, H, hAB, hkn, hR⟩ := I
  unfold wpX_set
  rcases ar_there (p := p) (po := nI Q) (en := nI E) (up := up) (dn := dn) (bg := nI B) (lv := nI L) (md := nI M) (gX := nI g) (dp := nI d) (sa := sa) (sh := sh) (N := N) (P := P) (K := K) (R := R) (me := me) (pt := pt) (h := h) (lx := lx) (va := va) (rf := rf) (al := al) (fX := fX) (pe := pe) (ou := ou) (es := es) (kn := kn) (gY := nI g) (oc := oc) (rn := rn) (sA := sA) (sB := sB) (NY := NY) (PY := PY) (KY := KY) (fY := fY) (lo := lo) (td := td) (ph := ph) H v1 v2 with ⟨m, i, hm, hi, rfl, rfl, wX, wY⟩ | ⟨wX, wY⟩
  · have hz := H.2.1 m
    have hk' : 16 * m + i < 64 := by omega
    have hI : vp_in (nI (16 * m + i)) 64 := vp_in_nI hk' (by omega)
    have ek : (nI (16 * m + i)).toNatClampNeg = 16 * m + i := nI_clamp (by omega)
    have hcc := (H.1 (16 * m + i)).2.2.2.2.1
    refine wX _ (br_f (by decide) ?_)
    have Yin : ∀ post : Int32 → SY → Prop, (v3 = 2 → ∀ NY' PY' KY', (∀ m, m < 4 → ay_Sp p m NY' PY' KY') → wY_set_41 post (nI m) v3 (nI (16 * m + i)) (nI (i + 1)) 1 (nI M) (nI L) up dn (nI d) (nI B) (nI g) oc sh rn (nI Q) (nI E) (ap_oo p) sA sB (ap_c p) (ap_sz p) (ap_L p) NY' PY' KY' va fY al me pt h lo ou es td ph) → (¬ v3 = 2 → ∀ NY' PY' KY', (∀ m, m < 4 → ay_Sp p m NY' PY' KY') → wY_set_41 post (nI m) v3 (nI (16 * m + i)) (ap_c p (16 * m + i)) 1 (nI M) (nI L) up dn (nI d) (nI B) (nI g) oc sh rn (nI Q) (nI E) (ap_oo p) sA sB (ap_c p) (ap_sz p) (ap_L p) NY' PY' KY' va fY al me pt h lo ou es td ph) → wpY_set post (kn, nI M, nI L, up, dn, nI d, nI B, nI g, oc, sh, rn, nI Q, nI E, ap_oo p, sA, sB, ap_c p, ap_sz p, ap_L p, NY, PY, KY, va, fY, al, me, pt, h, lo, ou, es, td, ph) (nI m) (nI i) v3 := by
      intro post k2 k3
      unfold wpY_set
      refine wY _ (br_f (by decide) (ay_look H hAB hkn _ (fun NY' PY' KY' s f1 f2 f3 => nm_r (ap_yk m i) (br_c (fun c => ?_) (fun c => ⟨hI, ?_⟩)))))
      · rw [nI_1]; exact k2 c NY' PY' KY' s
      · rw [ap_ck p hk']; exact k3 c NY' PY' KY' s
    rcases pk_ix v3 (n := 4) (by decide) with c | c | ⟨w, hw, rfl⟩
    · have n0 : ∀ j : Nat, j < 4 → ¬ v3 = nI j := fun j hj e => by rw [e] at c; exact absurd c (nI_pos (by omega))
      refine br_t c (Yin _ (fun z => absurd z (n0 2 (by omega))) (fun _ NY' PY' KY' s => br_f (n0 0 (by omega)) (br_f (n0 1 (by omega)) (br_f (n0 2 (by omega)) (br_f (n0 3 (by omega)) ⟨rfl, ?_⟩)))))
      exact ⟨p, d, M, L, E, Q, B, g, 1, up, dn, sa, sh, oc, rn, sA, sB, N, P, K, R, NY', PY', KY', me, pt, h, lx, lo, va, rf, al, fX, fY, pe, ou, es, td, ph, rfl, rfl, H, hAB, Or.inr ⟨rfl, s⟩, hR⟩
    · have n0 : ∀ j : Nat, j < 4 → ¬ v3 = nI j := fun j hj e => by rw [e] at c; exact absurd c (nI_ge (b := 4) hj (by decide))
      have c3 : ¬ v3 ≤ 3 := Int32.not_le.mpr (Int32.lt_of_lt_of_le (by decide) c)
      refine br_f (Int32.not_lt.mpr (Int32.le_trans (by decide) c)) (br_f c3 (Yin _ (fun z => absurd z (n0 2 (by omega))) (fun _ NY' PY' KY' s => br_f (n0 0 (by omega)) (br_f (n0 1 (by omega)) (br_f (n0 2 (by omega)) (br_f (n0 3 (by omega)) ⟨rfl, ?_⟩))))))
      exact ⟨p, d, M, L, E, Q, B, g, 1, up, dn, sa, sh, oc, rn, sA, sB, N, P, K, R, NY', PY', KY', me, pt, h, lx, lo, va, rf, al, fX, fY, pe, ou, es, td, ph, rfl, rfl, H, hAB, Or.inr ⟨rfl, s⟩, hR⟩
    · refine br_f (nI_pos (by omega)) (br_t (nI_le (b := 3) (by omega) (by decide)) (nm_r (ap_xk m i) ?_))
      have h4 : w = 0 ∨ w = 1 ∨ w = 2 ∨ w = 3 := by omega
      rcases h4 with e | e | e | e <;> subst e
      · refine br_f (by decide) (br_f (by decide) (ax_analyse H hm _ (fun N' P' K' R' h1 h2 h3 o1 o2 o3 o4 => br_t rfl ⟨hI, ?_⟩)))
        rw [ek]
        refine Yin _ (fun z => absurd z (by decide)) (fun _ NY' PY' KY' s => br_t rfl ⟨hI, ?_, ?_⟩)
        · rw [ek]; exact (ap_NS_u h1 (s m hm).1 hi).symm
        · exact ⟨p, d, M, L, E, Q, B, g, 1, up, dn, sa, sh, oc, rn, sA, sB, N', P', K', R', NY', PY', KY', me, pt, h, lx, lo, va, rf, al, fX, fY, pe, ou, es, td, ph, rfl, rfl, H, hAB, Or.inr ⟨rfl, s⟩, hR⟩
      · refine br_f (by decide) (br_f (by decide) (ax_analyse H hm _ (fun N' P' K' R' h1 h2 h3 o1 o2 o3 o4 => br_f (by decide) ⟨hI, ?_⟩)))
        rw [ek]
        obtain ⟨r1, r2, r3⟩ := h3 i hi
        by_cases h6 : ap_kp p m i 6
        · refine br_f (by rw [r2.mpr h6]; decide) (br_t rfl ⟨hI, ?_⟩)
          refine Yin _ (fun z => absurd z (by decide)) (fun _ NY' PY' KY' s => br_f (by decide) (br_t rfl ⟨hI, ?_⟩))
          have kY : ∀ v, v < 32 → (bt (KY' (16 * m + i)) v = true ↔ v < 6 ∧ ap_kp p m i v) := by
            rcases (s m hm).2.2 i hi with ⟨a, _⟩ | ⟨_, b⟩
            · exact absurd h6 a
            · exact b
          have pos : (0 : Int32) ≤ KY' (16 * m + i) := by
            apply Int32.not_lt.mp
            intro c
            have := ((kY 31 (by omega)).mp ((ad_neg _).mp c)).1
            omega
          rw [ek]
          refine br_t pos ⟨hI, b_ext (fun v hv => ad_iffb (kY v hv) (r3 v hv)), ?_⟩
          exact ⟨p, d, M, L, E, Q, B, g, 1, up, dn, sa, sh, oc, rn, sA, sB, N', P', K', R', NY', PY', KY', me, pt, h, lx, lo, va, rf, al, fX, fY, pe, ou, es, td, ph, rfl, rfl, H, hAB, Or.inr ⟨rfl, s⟩, hR⟩
        · have r0 : R' (16 * m + i) = 0 := by
            rcases r1 with r | r
            · exact r
            · exact absurd (r2.mp r) h6
          refine br_t r0 ?_
          refine Yin _ (fun z => absurd z (by decide)) (fun _ NY' PY' KY' s => br_f (by decide) (br_t rfl ⟨hI, ?_⟩))
          have km : KY' (16 * m + i) = -1 := by
            rcases (s m hm).2.2 i hi with ⟨_, b⟩ | ⟨a, _⟩
            · exact b
            · exact absurd a h6
          rw [ek, km]
          refine br_f (by decide) ⟨rfl, ?_⟩
          exact ⟨p, d, M, L, E, Q, B, g, 1, up, dn, sa, sh, oc, rn, sA, sB, N', P', K', R', NY', PY', KY', me, pt, h, lx, lo, va, rf, al, fX, fY, pe, ou, es, td, ph, rfl, rfl, H, hAB, Or.inr ⟨rfl, s⟩, hR⟩
      · obtain ⟨x1, hx1, wx1⟩ := ax_on (po := nI Q) (en := nI E) (up := up) (dn := dn) (bg := nI B) (lv := nI L) (md := nI M) (gX := nI g) (dp := nI d) (sa := sa) (sh := sh) (N := N) (P := P) (K := K) (R := R) (me := me) (pt := pt) (h := h) (lx := lx) (va := va) (rf := rf) (al := al) (fX := fX) (pe := pe) (ou := ou) (es := es) (i := i) H hm (by omega)
        refine br_t rfl (wx1 _ ?_)
        rcases hx1 with ⟨a, e⟩ | ⟨a, e⟩
        · skip
          refine br_f (by rw [e]; decide) (br_f (by decide) (ax_analyse H hm _ (fun N' P' K' R' h1 h2 h3 o1 o2 o3 o4 => br_f (by decide) ⟨hI, ?_⟩)))
          rw [ek]
          obtain ⟨r1, r2, r3⟩ := h3 i hi
          by_cases h6 : ap_kp p m i 6
          · refine br_f (by rw [r2.mpr h6]; decide) (br_f (by decide) (br_t rfl ?_))
            rw [nI_1]
            obtain ⟨x, hx, wx⟩ := ax_kb (po := nI Q) (en := nI E) (up := up) (dn := dn) (bg := nI B) (lv := nI L) (md := nI M) (gX := nI g) (dp := nI d) (sa := sa) (sh := sh) (N := N') (P := P') (K := K') (R := R') (me := me) (pt := pt) (h := h) (lx := lx) (va := va) (rf := rf) (al := al) (fX := fX) (pe := pe) (ou := ou) (es := es) H hm hi h2
            obtain ⟨z, hz1, wz⟩ := ax_na (po := nI Q) (en := nI E) (up := up) (dn := dn) (bg := nI B) (lv := nI L) (md := nI M) (gX := nI g) (dp := nI d) (sa := sa) (sh := sh) (N := N') (P := P') (K := K') (R := R') (me := me) (pt := pt) (h := h) (lx := lx) (va := va) (rf := rf) (al := al) (fX := fX) (pe := pe) (ou := ou) (es := es) H hm (j := i + 1) (by omega)
            refine wx _ (wz _ ?_)
            refine Yin _ (fun _ NY' PY' KY' s => ?_) (fun z => absurd rfl z)
            obtain ⟨y1, hy1, wy1⟩ := ay_on (kn := 1) (md := nI M) (lv := nI L) (up := up) (dn := dn) (dp := nI d) (bg := nI B) (gY := nI g) (oc := oc) (sh := sh) (rn := rn) (po := nI Q) (en := nI E) (sA := sA) (sB := sB) (NY := NY') (PY := PY') (KY := KY') (va := va) (fY := fY) (al := al) (me := me) (pt := pt) (h := h) (lo := lo) (ou := ou) (es := es) (td := td) (ph := ph) (i := i) H hm (by omega)
            refine br_f (by decide) (br_f (by decide) (br_t rfl (br_t rfl (wy1 _ ?_))))
            rcases hy1 with ⟨a', e'⟩ | ⟨a', e'⟩
            · refine br_f (by rw [e']; decide) ?_
              skip
              have y := ar_120 (po := nI Q) (en := nI E) (up := up) (dn := dn) (bg := nI B) (lv := nI L) (md := nI M) (dp := nI d) (sh := sh) (me := me) (pt := pt) (h := h) (va := va) (al := al) (ou := ou) (es := es) (kn := 1) (gY := nI g) (oc := oc) (rn := rn) (fY := fY) (lo := lo) (td := td) (ph := ph) (t := i + 1) H hAB hm hi (by omega) h1 h2 h3 (s m hm) h6 hx hz1
              exact y _ ⟨rfl, ⟨p, d, M, L, E, Q, B, g, 1, up, dn, sa, sh, oc, rn, sA, sB, N', P', K', R', NY', PY', KY', me, pt, h, lx, lo, va, rf, al, fX, fY, pe, ou, es, td, ph, rfl, rfl, H, hAB, Or.inr ⟨rfl, s⟩, hR⟩⟩
            · exact absurd a a'
          · have r0 : R' (16 * m + i) = 0 := by
              rcases r1 with r | r
              · exact r
              · exact absurd (r2.mp r) h6
            refine br_t r0 ?_
            refine Yin _ (fun _ NY' PY' KY' s => ?_) (fun z => absurd rfl z)
            obtain ⟨y1, hy1, wy1⟩ := ay_on (kn := 1) (md := nI M) (lv := nI L) (up := up) (dn := dn) (dp := nI d) (bg := nI B) (gY := nI g) (oc := oc) (sh := sh) (rn := rn) (po := nI Q) (en := nI E) (sA := sA) (sB := sB) (NY := NY') (PY := PY') (KY := KY') (va := va) (fY := fY) (al := al) (me := me) (pt := pt) (h := h) (lo := lo) (ou := ou) (es := es) (td := td) (ph := ph) (i := i) H hm (by omega)
            refine br_f (by decide) (br_f (by decide) (br_t rfl (br_t rfl (wy1 _ ?_))))
            rcases hy1 with ⟨a', e'⟩ | ⟨a', e'⟩
            · refine br_f (by rw [e']; decide) ⟨hI, ?_⟩
              have km : KY' (16 * m + i) = -1 := by
                rcases (s m hm).2.2 i hi with ⟨_, b⟩ | ⟨q, _⟩
                · exact b
                · exact absurd q h6
              rw [ek, km]
              exact br_f (by decide) ⟨rfl, ⟨p, d, M, L, E, Q, B, g, 1, up, dn, sa, sh, oc, rn, sA, sB, N', P', K', R', NY', PY', KY', me, pt, h, lx, lo, va, rf, al, fX, fY, pe, ou, es, td, ph, rfl, rfl, H, hAB, Or.inr ⟨rfl, s⟩, hR⟩⟩
            · exact absurd a a'
        · refine br_t e ?_
          refine Yin _ (fun _ NY' PY' KY' s => ?_) (fun z => absurd rfl z)
          obtain ⟨y1, hy1, wy1⟩ := ay_on (kn := 1) (md := nI M) (lv := nI L) (up := up) (dn := dn) (dp := nI d) (bg := nI B) (gY := nI g) (oc := oc) (sh := sh) (rn := rn) (po := nI Q) (en := nI E) (sA := sA) (sB := sB) (NY := NY') (PY := PY') (KY := KY') (va := va) (fY := fY) (al := al) (me := me) (pt := pt) (h := h) (lo := lo) (ou := ou) (es := es) (td := td) (ph := ph) (i := i) H hm (by omega)
          refine br_f (by decide) (br_f (by decide) (br_t rfl (br_t rfl (wy1 _ ?_))))
          rcases hy1 with ⟨a', e'⟩ | ⟨a', e'⟩
          · exact absurd a' a
          · exact br_t e' ⟨rfl, ⟨p, d, M, L, E, Q, B, g, 1, up, dn, sa, sh, oc, rn, sA, sB, N, P, K, R, NY', PY', KY', me, pt, h, lx, lo, va, rf, al, fX, fY, pe, ou, es, td, ph, rfl, rfl, H, hAB, Or.inr ⟨rfl, s⟩, hR⟩⟩
      · obtain ⟨x1, hx1, wx1⟩ := ax_jp (po := nI Q) (en := nI E) (up := up) (dn := dn) (bg := nI B) (lv := nI L) (md := nI M) (gX := nI g) (dp := nI d) (sa := sa) (sh := sh) (N := N) (P := P) (K := K) (R := R) (me := me) (pt := pt) (h := h) (lx := lx) (va := va) (rf := rf) (al := al) (fX := fX) (pe := pe) (ou := ou) (es := es) (i := i) H hm (by omega)
        refine br_f (by decide) (br_t rfl (wx1 _ ?_))
        rcases hx1 with ⟨a, e⟩ | ⟨a, e⟩
        · obtain ⟨c1, c2⟩ := hcc a
          refine br_f (by rw [e]; decide) (ax_analyse H hm _ (fun N' P' K' R' h1 h2 h3 o1 o2 o3 o4 => br_f (by decide) ⟨hI, ?_⟩))
          rw [ek]
          obtain ⟨r1, r2, r3⟩ := h3 i hi
          by_cases h6 : ap_kp p m i 6
          · refine br_f (by rw [r2.mpr h6]; decide) (br_f (by decide) (br_f (by decide) ⟨hI, ?_⟩))
            rw [c1]
            obtain ⟨x, hx, wx⟩ := ax_kb (po := nI Q) (en := nI E) (up := up) (dn := dn) (bg := nI B) (lv := nI L) (md := nI M) (gX := nI g) (dp := nI d) (sa := sa) (sh := sh) (N := N') (P := P') (K := K') (R := R') (me := me) (pt := pt) (h := h) (lx := lx) (va := va) (rf := rf) (al := al) (fX := fX) (pe := pe) (ou := ou) (es := es) H hm hi h2
            obtain ⟨z, hz1, wz⟩ := ax_na (po := nI Q) (en := nI E) (up := up) (dn := dn) (bg := nI B) (lv := nI L) (md := nI M) (gX := nI g) (dp := nI d) (sa := sa) (sh := sh) (N := N') (P := P') (K := K') (R := R') (me := me) (pt := pt) (h := h) (lx := lx) (va := va) (rf := rf) (al := al) (fX := fX) (pe := pe) (ou := ou) (es := es) H hm (j := ap_C p (16 * m + i)) (by omega)
            refine wx _ (wz _ ?_)
            refine Yin _ (fun z => absurd z (by decide)) (fun _ NY' PY' KY' s => ?_)
            obtain ⟨y1, hy1, wy1⟩ := ay_jp (kn := 1) (md := nI M) (lv := nI L) (up := up) (dn := dn) (dp := nI d) (bg := nI B) (gY := nI g) (oc := oc) (sh := sh) (rn := rn) (po := nI Q) (en := nI E) (sA := sA) (sB := sB) (NY := NY') (PY := PY') (KY := KY') (va := va) (fY := fY) (al := al) (me := me) (pt := pt) (h := h) (lo := lo) (ou := ou) (es := es) (td := td) (ph := ph) (i := i) H hm (by omega)
            refine br_f (by decide) (br_f (by decide) (br_f (by decide) (br_t rfl (br_f (by decide) (wy1 _ ?_)))))
            rcases hy1 with ⟨a', e'⟩ | ⟨a', e'⟩
            · refine br_f (by rw [e']; decide) ?_
              rw [c1]
              have y := ar_120 (po := nI Q) (en := nI E) (up := up) (dn := dn) (bg := nI B) (lv := nI L) (md := nI M) (dp := nI d) (sh := sh) (me := me) (pt := pt) (h := h) (va := va) (al := al) (ou := ou) (es := es) (kn := 1) (gY := nI g) (oc := oc) (rn := rn) (fY := fY) (lo := lo) (td := td) (ph := ph) (t := ap_C p (16 * m + i)) H hAB hm hi (by omega) h1 h2 h3 (s m hm) h6 hx hz1
              exact y _ ⟨rfl, ⟨p, d, M, L, E, Q, B, g, 1, up, dn, sa, sh, oc, rn, sA, sB, N', P', K', R', NY', PY', KY', me, pt, h, lx, lo, va, rf, al, fX, fY, pe, ou, es, td, ph, rfl, rfl, H, hAB, Or.inr ⟨rfl, s⟩, hR⟩⟩
            · exact absurd a a'
          · have r0 : R' (16 * m + i) = 0 := by
              rcases r1 with r | r
              · exact r
              · exact absurd (r2.mp r) h6
            refine br_t r0 ?_
            refine Yin _ (fun z => absurd z (by decide)) (fun _ NY' PY' KY' s => ?_)
            obtain ⟨y1, hy1, wy1⟩ := ay_jp (kn := 1) (md := nI M) (lv := nI L) (up := up) (dn := dn) (dp := nI d) (bg := nI B) (gY := nI g) (oc := oc) (sh := sh) (rn := rn) (po := nI Q) (en := nI E) (sA := sA) (sB := sB) (NY := NY') (PY := PY') (KY := KY') (va := va) (fY := fY) (al := al) (me := me) (pt := pt) (h := h) (lo := lo) (ou := ou) (es := es) (td := td) (ph := ph) (i := i) H hm (by omega)
            refine br_f (by decide) (br_f (by decide) (br_f (by decide) (br_t rfl (br_f (by decide) (wy1 _ ?_)))))
            rcases hy1 with ⟨a', e'⟩ | ⟨a', e'⟩
            · refine br_f (by rw [e']; decide) ⟨hI, ?_⟩
              have km : KY' (16 * m + i) = -1 := by
                rcases (s m hm).2.2 i hi with ⟨_, b⟩ | ⟨q, _⟩
                · exact b
                · exact absurd q h6
              rw [ek, km]
              exact br_f (by decide) ⟨rfl, ⟨p, d, M, L, E, Q, B, g, 1, up, dn, sa, sh, oc, rn, sA, sB, N', P', K', R', NY', PY', KY', me, pt, h, lx, lo, va, rf, al, fX, fY, pe, ou, es, td, ph, rfl, rfl, H, hAB, Or.inr ⟨rfl, s⟩, hR⟩⟩
            · exact absurd a a'
        · refine br_t e ?_
          refine Yin _ (fun z => absurd z (by decide)) (fun _ NY' PY' KY' s => ?_)
          obtain ⟨y1, hy1, wy1⟩ := ay_jp (kn := 1) (md := nI M) (lv := nI L) (up := up) (dn := dn) (dp := nI d) (bg := nI B) (gY := nI g) (oc := oc) (sh := sh) (rn := rn) (po := nI Q) (en := nI E) (sA := sA) (sB := sB) (NY := NY') (PY := PY') (KY := KY') (va := va) (fY := fY) (al := al) (me := me) (pt := pt) (h := h) (lo := lo) (ou := ou) (es := es) (td := td) (ph := ph) (i := i) H hm (by omega)
          refine br_f (by decide) (br_f (by decide) (br_f (by decide) (br_t rfl (br_f (by decide) (wy1 _ ?_)))))
          rcases hy1 with ⟨a', e'⟩ | ⟨a', e'⟩
          · exact absurd a' a
          · exact br_t e' ⟨rfl, ⟨p, d, M, L, E, Q, B, g, 1, up, dn, sa, sh, oc, rn, sA, sB, N, P, K, R, NY', PY', KY', me, pt, h, lx, lo, va, rf, al, fX, fY, pe, ou, es, td, ph, rfl, rfl, H, hAB, Or.inr ⟨rfl, s⟩, hR⟩⟩
  · refine wX _ (br_t rfl ?_)
    unfold wpY_set
    exact wY _ (br_t rfl ⟨rfl, II⟩)
