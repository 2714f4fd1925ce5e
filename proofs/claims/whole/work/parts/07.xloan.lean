section
variable {p : ap_T} {po en up dn bg lv md gX dp sa sh : Int32} {N P K R me pt h lx va rf al fX pe ou es : Nat → Int32}
variable {m i : Nat}
theorem ax_wy (H : ap_OK p) (hm : m < 4) (hi : i < 16) : ∃ x : Int32, (∀ j, j < 32 → (bt x j = true ↔ (ap_on p (16 * m + i) ∧ j = i + 1) ∨ (ap_jp p (16 * m + i) ∧ j = ap_C p (16 * m + i)))) ∧ ∀ post : Int32 → Prop, post x → wpX_waysFrom post (po, en, up, dn, bg, lv, md, gX, dp, sa, sh, ap_sz p, ap_L p, ap_oo p, ap_aA p, ap_aB p, ap_c p, N, P, K, R, me, pt, h, lx, va, rf, al, fX, pe, ou, es) (nI (16 * m + i)) := by
  have hk : 16 * m + i < 64 := by omega
  have hI : vp_in (nI (16 * m + i)) 64 := vp_in_nI hk (by omega)
  have hc := (H.1 (16 * m + i)).2.2.2.2.1
  obtain ⟨x1, h1, w1⟩ := ax_on (po := po) (en := en) (up := up) (dn := dn) (bg := bg) (lv := lv) (md := md) (gX := gX) (dp := dp) (sa := sa) (sh := sh) (N := N) (P := P) (K := K) (R := R) (me := me) (pt := pt) (h := h) (lx := lx) (va := va) (rf := rf) (al := al) (fX := fX) (pe := pe) (ou := ou) (es := es) H hm hi
  obtain ⟨x2, h2, w2⟩ := ax_jp (po := po) (en := en) (up := up) (dn := dn) (bg := bg) (lv := lv) (md := md) (gX := gX) (dp := dp) (sa := sa) (sh := sh) (N := N) (P := P) (K := K) (R := R) (me := me) (pt := pt) (h := h) (lx := lx) (va := va) (rf := rf) (al := al) (fX := fX) (pe := pe) (ou := ou) (es := es) H hm hi
  have z0 : ∀ v, ¬ bt 0 v = true := fun v => by rw [b_0]; decide
  have er : nI (16 * m + i) - nI (16 * m + i) / 16 * 16 = nI i := by
    have := pk_rem (a := 16 * m + i) (d := 16) (by omega) (by omega) (by omega)
    rw [show (16 * m + i) % 16 = i by omega] at this
    exact this
  have B : ∃ z : Int32, (∀ j, j < 32 → (bt z j = true ↔ ap_on p (16 * m + i) ∧ j = i + 1)) ∧ ∀ post : Int32 → Prop, wX_waysFrom_22 post (nI (16 * m + i)) z po en up dn bg lv md gX dp sa sh (ap_sz p) (ap_L p) (ap_oo p) (ap_aA p) (ap_aB p) (ap_c p) N P K R me pt h lx va rf al fX pe ou es → wpX_waysFrom post (po, en, up, dn, bg, lv, md, gX, dp, sa, sh, ap_sz p, ap_L p, ap_oo p, ap_aA p, ap_aB p, ap_c p, N, P, K, R, me, pt, h, lx, va, rf, al, fX, pe, ou, es) (nI (16 * m + i)) := by
    rcases h1 with ⟨a, e⟩ | ⟨a, e⟩
    · refine ⟨(1 : Int32) <<< (nI (i + 1) &&& 31), fun j hj => ?_, fun post hp => ⟨by decide, nm_r er (w1 _ (br_f (by rw [e]; decide) ?_))⟩⟩
      · rw [ad_one (i + 1) (by omega) j hj, decide_eq_true_iff]; exact ⟨fun q => ⟨a, q⟩, fun q => q.2⟩
      · rw [nI_1]; exact hp
    · exact ⟨0, fun v hv => ⟨fun q => absurd q (z0 v), fun q => absurd q.1 a⟩, fun post hp => ⟨by decide, nm_r er (w1 _ (br_t e hp))⟩⟩
  obtain ⟨z, hz, wz⟩ := B
  rcases h2 with ⟨a, e⟩ | ⟨a, e⟩
  · obtain ⟨c1, c2⟩ := hc a
    refine ⟨z ||| ((1 : Int32) <<< (nI (ap_C p (16 * m + i)) &&& 31)), fun j hj => ?_, fun post hp => wz post (w2 _ (br_f (by rw [e]; decide) ⟨hI, ?_⟩))⟩
    · rw [b_or, Bool.or_eq_true, hz j hj, ad_one _ (by omega) j hj, decide_eq_true_iff]
      constructor
      · rintro (q | q)
        · exact Or.inl q
        · exact Or.inr ⟨a, q⟩
      · rintro (q | q)
        · exact Or.inl q
        · exact Or.inr q.2
    · rw [ap_ck p hk, c1]; exact hp
  · refine ⟨z, fun j hj => ?_, fun post hp => wz post (w2 _ (br_t e hp))⟩
    rw [hz j hj]
    constructor
    · exact Or.inl
    · rintro (q | q)
      · exact q
      · exact absurd q.1 a
/-- one round over the ways of a loan, up to place j; W0: as the round found them -/
def aw_J (p : ap_T) (m i : Nat) (W0 W : Int32) (j : Nat) : Prop :=
  (∀ s, s < ap_Z p m → bt W0 s = true → bt W s = true) ∧ (∀ s, s < ap_Z p m → bt W s = true → aw_rg p m i s) ∧
  (∀ s, s < j → bt W0 s = true → ap_nd p m s (ap_A p (16 * m + i)) → aw_gd p m i s ∧ ∀ t, ap_sc p m s t → bt W t = true) ∧
  (aw_cl p m i (bt W0) → ∀ s, s < ap_Z p m → bt W s = true → bt W0 s = true)
theorem aw_inner (H : ap_OK p) (hm : m < 4) (hi : i < ap_Z p m) (hN : ap_NS p m N) (post : Int32 → Prop) (J : Int32 → Int32 → Prop) (x5 x7 : Int32)
    (h5 : ∀ v, v < 32 → (bt x5 v = true ↔ ap_nd p m i v ∧ v ≠ ap_A p (16 * m + i))) (h0 : ¬ ap_ln p m i → post 0) (W0 : Int32)
    (hJ : ∀ W', aw_J p m i W0 W' (ap_Z p m) → J W' (x7 + 1)) :
    ∀ d j, j + d = ap_Z p m → ∀ W, aw_J p m i W0 W j → wX_isLoan_87 post J (nI m) ((1 : Int32) <<< (nI (ap_A p (16 * m + i)) &&& 31)) x5 x7 po en up dn bg lv md gX dp sa sh (ap_sz p) (ap_L p) (ap_oo p) (ap_aA p) (ap_aB p) (ap_c p) N P K R me pt h lx va rf al fX pe ou es (d + 1) W (nI j) := by
  have hz := H.2.1 m
  have hA := (H.1 (16 * m + i)).2.1
  intro d
  induction d with
  | zero =>
    intro j hj W h
    have e : j = ap_Z p m := by omega
    subst e
    exact ⟨vp_in_nI hm (by omega), br_t (by rw [ap_szm p hm]; exact nI_le (by omega) (by omega)) (nm_e (hJ W h))⟩
  | succ d ih =>
    intro j hj W h
    obtain ⟨Ia, Ib, Ic, Id⟩ := h
    have hk : 16 * m + j < 64 := by omega
    have hI : vp_in (nI (16 * m + j)) 64 := vp_in_nI hk (by omega)
    have ek : (nI (16 * m + j)).toNatClampNeg = 16 * m + j := nI_clamp (by omega)
    refine ⟨vp_in_nI hm (by omega), br_f (by rw [ap_szm p hm]; exact nI_ge (by omega) (by omega)) (nm_r (ap_xk m j) ?_)⟩
    refine br_c (fun c => nm_r (nI_1 j) (ih (j + 1) (by omega) W ⟨Ia, Ib, fun s hs hw hn => ?_, Id⟩)) (fun c => ⟨hI, ?_⟩)
    · by_cases e : s = j
      · subst e
        rw [ad_and0 _ (by omega)] at c
        rw [Ia s (by omega) hw] at c
        exact absurd c (by decide)
      · exact Ic s (by omega) hw hn
    · have hw : bt W j = true := by
        rw [ad_and0 _ (by omega)] at c
        exact ad_nf c
      rw [ek]
      refine br_c (fun c2 => nm_r (nI_1 j) (ih (j + 1) (by omega) W ⟨Ia, Ib, fun s hs hw hn => ?_, Id⟩)) (fun c2 => ?_)
      · by_cases e : s = j
        · subst e
          rw [ad_and0 _ (by omega)] at c2
          rw [(hN s (by omega) _ (by omega)).mpr hn] at c2
          exact absurd c2 (by decide)
        · exact Ic s (by omega) hw hn
      · have hn : ap_nd p m j (ap_A p (16 * m + i)) := by
          rw [ad_and0 _ (by omega)] at c2
          exact (hN j (by omega) _ (by omega)).mp (ad_nf c2)
        have hr := Ib j (by omega) hw
        obtain ⟨x1, h1, w1⟩ := ax_al (po := po) (en := en) (up := up) (dn := dn) (bg := bg) (lv := lv) (md := md) (gX := gX) (dp := dp) (sa := sa) (sh := sh) (N := N) (P := P) (K := K) (R := R) (me := me) (pt := pt) (h := h) (lx := lx) (va := va) (rf := rf) (al := al) (fX := fX) (pe := pe) (ou := ou) (es := es) (i := j) H hm (by omega)
        refine w1 _ ?_
        rcases h1 with ⟨a, e⟩ | ⟨a, e⟩
        · refine br_f (by rw [e]; decide) ⟨hI, br_c (fun c3 => ?_) (fun c3 => h0 (aw_no hr hn (fun g => c3 ?_)))⟩
          · rw [ad_sub0] at c3
            have gd : aw_gd p m i j := ⟨a, fun v hv hnv => by
              have v6 := ap_nd_6 H hnv
              exact (hN j (by omega) v (by omega)).mp (c3 v (by omega) ((h5 v (by omega)).mpr ⟨hnv, hv⟩))⟩
            obtain ⟨y, hy, wy⟩ := ax_wy (po := po) (en := en) (up := up) (dn := dn) (bg := bg) (lv := lv) (md := md) (gX := gX) (dp := dp) (sa := sa) (sh := sh) (N := N) (P := P) (K := K) (R := R) (me := me) (pt := pt) (h := h) (lx := lx) (va := va) (rf := rf) (al := al) (fX := fX) (pe := pe) (ou := ou) (es := es) (i := j) H hm (by omega)
            have hyz : ∀ s, s < ap_Z p m → (bt y s = true ↔ ap_sc p m j s) := by
              intro s hs
              rw [hy s (by omega)]
              exact ⟨fun q => ⟨hs, q⟩, fun q => q.2⟩
            refine wy _ (nm_e (nm_r (nI_1 j) (ih (j + 1) (by omega) _ ⟨fun s hs q => ?_, fun s hs q => ?_, fun s hs q1 q2 => ?_, fun q1 s hs q => ?_⟩)))
            · rw [b_or, Ia s hs q]; rfl
            · rw [b_or, Bool.or_eq_true] at q
              rcases q with q | q
              · exact Ib s hs q
              · exact aw_st hr hn ((hyz s hs).mp q)
            · by_cases e' : s = j
              · subst e'
                refine ⟨gd, fun t ht => ?_⟩
                rw [b_or, (hyz t ht.1).mpr ht, Bool.or_true]
              · obtain ⟨g1, g2⟩ := Ic s (by omega) q1 q2
                exact ⟨g1, fun t ht => by rw [b_or, g2 t ht]; rfl⟩
            · rw [b_or, Bool.or_eq_true] at q
              rcases q with q | q
              · exact Id q1 s hs q
              · exact (q1 j (by omega) (Id q1 j (by omega) hw) hn).2 s ((hyz s hs).mp q)
          · rw [ad_sub0]
            intro v hv hb
            obtain ⟨b1, b2⟩ := (h5 v hv).mp hb
            exact (hN j (by omega) v hv).mpr (g.2 v b2 b1)
        · exact br_t e (h0 (aw_no hr hn (fun g => a g.1)))
theorem aw_outer (H : ap_OK p) (hm : m < 4) (hi : i < ap_Z p m) (hN : ap_NS p m N) (post : Int32 → Prop) (x5 : Int32)
    (h5 : ∀ v, v < 32 → (bt x5 v = true ↔ ap_nd p m i v ∧ v ≠ ap_A p (16 * m + i))) (h0 : ¬ ap_ln p m i → post 0) (h1 : ap_ln p m i → post 1)
    (c1 : ap_O p (16 * m + i) = 3) (c2 : ap_C p (16 * m + i) ≠ 2) (c3 : ap_A p (16 * m + i) ≠ ap_B p (16 * m + i)) :
    ∀ d r, r + d = 16 → ∀ W, (∀ s, ap_sc p m i s → bt W s = true) → (∀ s, s < ap_Z p m → bt W s = true → aw_rg p m i s) →
      (aw_cl p m i (bt W) ∨ r + 1 ≤ ad_ct (bt W) (ap_Z p m)) → wX_isLoan_77 post (nI m) ((1 : Int32) <<< (nI (ap_A p (16 * m + i)) &&& 31)) x5 po en up dn bg lv md gX dp sa sh (ap_sz p) (ap_L p) (ap_oo p) (ap_aA p) (ap_aB p) (ap_c p) N P K R me pt h lx va rf al fX pe ou es (d + 1) W (nI r) := by
  intro d
  induction d with
  | zero =>
    intro r hr W w0 w1 w2
    have e : r = 16 := by omega
    subst e
    exact br_t (by decide) (h1 (aw_yes c1 c2 c3 w0 (aw_q16 H w2)))
  | succ d ih =>
    intro r hr W w0 w1 w2
    refine br_f (nI_ge (b := 16) (by omega) (by decide)) ⟨ap_Z p m + 1, ?_⟩
    refine aw_inner H hm hi hN post _ x5 (nI r) h5 h0 W (fun W' hJ => ?_) (ap_Z p m) 0 (by omega) W ⟨fun s _ q => q, w1, fun s hs => by omega, fun _ s _ q => q⟩
    rw [nI_1]
    obtain ⟨Ia, Ib, Ic, Id⟩ := hJ
    exact ih (r + 1) (by omega) W' (fun s hs => Ia s hs.1 (w0 s hs)) Ib (aw_rnd w2 Ia Ic Id)
theorem ax_ln (H : ap_OK p) (hm : m < 4) (hi : i < ap_Z p m) (hN : ap_NS p m N) (post : Int32 → Prop)
    (h0 : ¬ ap_ln p m i → post 0) (h1 : ap_ln p m i → post 1) : wpX_isLoan post (po, en, up, dn, bg, lv, md, gX, dp, sa, sh, ap_sz p, ap_L p, ap_oo p, ap_aA p, ap_aB p, ap_c p, N, P, K, R, me, pt, h, lx, va, rf, al, fX, pe, ou, es) (nI m) (nI i) := by
  have hz := H.2.1 m
  have hk : 16 * m + i < 64 := by omega
  have hI : vp_in (nI (16 * m + i)) 64 := vp_in_nI hk (by omega)
  have hA := (H.1 (16 * m + i)).2.1
  have hB := (H.1 (16 * m + i)).2.2.1
  refine nm_r (ap_xk m i) ⟨hI, br_c (fun c1 => ⟨hI, br_c (fun c2 => h0 (fun l => ?_)) (fun c2 => ⟨hI, hI, br_c (fun c3 => h0 (fun l => ?_)) (fun c3 => ⟨hI, nm_r (by rw [ap_aAk p hk]) ⟨hI, nm_e ?_⟩⟩)⟩)⟩) (fun c1 => h0 (fun l => ?_))⟩
  · have := l.2.1
    rw [ap_ck p hk] at c2
    unfold ap_C at this
    rw [c2] at this
    exact this (by decide)
  · rw [ap_aAk p hk, ap_aBk p hk, nI_eq (by omega) (by omega)] at c3
    exact l.2.2.1 c3
  · have o3 : ap_O p (16 * m + i) = 3 := by
      rw [ap_ook p hk] at c1
      exact (nI_eq (b := 3) (by have := (H.1 (16 * m + i)).1; omega) (by decide)).mp c1
    have n2 : ap_C p (16 * m + i) ≠ 2 := by
      intro z
      rw [ap_ck p hk, ((H.1 (16 * m + i)).2.2.2.1 (Or.inl o3)).1, z] at c2
      exact c2 rfl
    have nAB : ap_A p (16 * m + i) ≠ ap_B p (16 * m + i) := by
      intro z
      rw [ap_aAk p hk, ap_aBk p hk, z] at c3
      exact c3 rfl
    obtain ⟨y, hy, wy⟩ := ax_wy (po := po) (en := en) (up := up) (dn := dn) (bg := bg) (lv := lv) (md := md) (gX := gX) (dp := dp) (sa := sa) (sh := sh) (N := N) (P := P) (K := K) (R := R) (me := me) (pt := pt) (h := h) (lx := lx) (va := va) (rf := rf) (al := al) (fX := fX) (pe := pe) (ou := ou) (es := es) (i := i) H hm (by omega)
    refine wy _ ⟨17, aw_outer H hm hi hN post _ (fun v hv => ?_) h0 h1 o3 n2 nAB 16 0 (by omega) y (fun s hs => (hy s (by have := hs.1; omega)).mpr hs.2) (fun s hs q => ⟨s, ⟨hs, (hy s (by omega)).mp q⟩, ad_rg_0⟩) aw_q0⟩
    rw [b_and, ad_not _ hv, Bool.and_eq_true, nI_clamp (by omega), hN i hi v hv]
    have e : (!bt ((1 : Int32) <<< (nI (ap_A p (16 * m + i)) &&& 31)) v) = true ↔ v ≠ ap_A p (16 * m + i) := by
      have := ad_b1 hA v hv
      constructor
      · intro q z
        rw [this.mpr z] at q
        exact absurd q (by decide)
      · intro q
        cases e' : bt ((1 : Int32) <<< (nI (ap_A p (16 * m + i)) &&& 31)) v with
        | false => rfl
        | true => exact absurd (this.mp e') q
    rw [e]
  · rw [ap_ook p hk, l.1] at c1
    exact c1 rfl
end
