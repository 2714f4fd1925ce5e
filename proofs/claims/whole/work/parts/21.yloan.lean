section
variable {p : ap_T} {kn md lv up dn dp bg gY oc sh rn po en : Int32} {sA sB NY PY KY va fY al me pt h lo ou es td ph : Nat → Int32}
variable {m i : Nat}
theorem ay_nbl (H : ap_OK p) (hm : m < 4) (set : Int32) (hs : ∀ j, j < 32 → (bt set j = true ↔ ap_sc p m i j)) (post : Int32 → Prop)
    (hp : ∀ x : Int32, (∀ v, v < 32 → (bt x v = true ↔ ∃ j, ap_sc p m i j ∧ bt (NY (16 * m + j)) v = true)) → post x) :
    ∀ d j, j + d = 16 → ∀ x : Int32, (∀ v, v < 32 → (bt x v = true ↔ ∃ s, s < j ∧ ap_sc p m i s ∧ bt (NY (16 * m + s)) v = true)) → wY_needBehind_13 post (nI m) set kn md lv up dn dp bg gY oc sh rn po en (ap_oo p) sA sB (ap_c p) (ap_sz p) (ap_L p) NY PY KY va fY al me pt h lo ou es td ph (d + 1) x (nI j) := by
  have hz := H.2.1 m
  intro d
  induction d with
  | zero =>
    intro j hj x hx
    have e : j = 16 := by omega
    subst e
    refine br_t (by decide) (hp x (fun v hv => ?_))
    rw [hx v hv]
    constructor
    · rintro ⟨s, _, a⟩; exact ⟨s, a⟩
    · rintro ⟨s, a⟩; exact ⟨s, by have := a.1.1; omega, a⟩
  | succ d ih =>
    intro j hj x hx
    refine br_f (nI_ge (b := 16) (by omega) (by decide)) (br_c (fun c => nm_r (nI_1 j) (ih (j + 1) (by omega) x (fun v hv => ?_))) (fun c => ?_))
    · rw [hx v hv]
      constructor
      · rintro ⟨s, a, b⟩; exact ⟨s, by omega, b⟩
      · rintro ⟨s, a, b, b'⟩
        by_cases e : s = j
        · subst e
          rw [ad_shr1 _ (by omega), (hs s (by omega)).mpr b] at c
          exact absurd c (by decide)
        · exact ⟨s, by omega, b, b'⟩
    · have hb : ap_sc p m i j := (hs j (by omega)).mp (by rw [ad_shr1 _ (by omega)] at c; exact ad_nf c)
      rw [ap_yk, nI_clamp (by omega)]
      refine ⟨vp_in_nI (by omega) (by omega), nm_e (nm_r (nI_1 j) (ih (j + 1) (by omega) _ (fun v hv => ?_)))⟩
      rw [b_or, Bool.or_eq_true, hx v hv]
      constructor
      · rintro (⟨s, a, b⟩ | a)
        · exact ⟨s, by omega, b⟩
        · exact ⟨j, by omega, hb, a⟩
      · rintro ⟨s, a, b, b'⟩
        by_cases e : s = j
        · subst e; exact Or.inr b'
        · exact Or.inl ⟨s, by omega, b, b'⟩
theorem ay_nb (H : ap_OK p) (hm : m < 4) (hi : i < 16) (post : Int32 → Prop)
    (hp : ∀ x : Int32, (∀ v, v < 32 → (bt x v = true ↔ ∃ j, ap_sc p m i j ∧ bt (NY (16 * m + j)) v = true)) → post x) : wpY_needBehind post (kn, md, lv, up, dn, dp, bg, gY, oc, sh, rn, po, en, ap_oo p, sA, sB, ap_c p, ap_sz p, ap_L p, NY, PY, KY, va, fY, al, me, pt, h, lo, ou, es, td, ph) (nI m) (nI i) := by
  obtain ⟨x, hx, wx⟩ := ay_af (kn := kn) (md := md) (lv := lv) (up := up) (dn := dn) (dp := dp) (bg := bg) (gY := gY) (oc := oc) (sh := sh) (rn := rn) (po := po) (en := en) (sA := sA) (sB := sB) (NY := NY) (PY := PY) (KY := KY) (va := va) (fY := fY) (al := al) (me := me) (pt := pt) (h := h) (lo := lo) (ou := ou) (es := es) (td := td) (ph := ph) H hm hi
  refine wx _ ⟨17, ay_nbl H hm x hx post hp 16 0 (by omega) 0 (fun v hv => ?_)⟩
  rw [b_0]
  exact ⟨fun q => absurd q (by decide), fun ⟨s, a, _⟩ => by omega⟩
/-- a LOAN, by a list of places -/
theorem ay_ll (H : ap_OK p) (hm : m < 4) (hi : i < ap_Z p m) (hN : ap_NS p m NY) (post : Int32 → Prop) (x5 : Int32)
    (h5 : ∀ v, v < 32 → (bt x5 v = true ↔ ap_nd p m i v ∧ v ≠ ap_A p (16 * m + i))) (h0 : ¬ ap_ln p m i → post 0) (h1 : ap_ln p m i → post 1)
    (c1 : ap_O p (16 * m + i) = 3) (c2 : ap_C p (16 * m + i) ≠ 2) (c3 : ap_A p (16 * m + i) ≠ ap_B p (16 * m + i)) :
    ∀ d (seen oq : Int32), ap_Z p m - ad_ct (bt seen) (ap_Z p m) ≤ d → ao_I (ap_Z p m) (aw_rg p m i) (fun j => ap_nd p m j (ap_A p (16 * m + i)) → aw_gd p m i j) (fun j => ap_nd p m j (ap_A p (16 * m + i))) (ap_sc p m) (bt oq) (bt seen) →
      (∀ s, ap_sc p m i s → bt oq s = true ∨ bt seen s = true) → wY_isLoan_74 post (nI m) (nI (ap_A p (16 * m + i))) x5 kn md lv up dn dp bg gY oc sh rn po en (ap_oo p) sA sB (ap_c p) (ap_sz p) (ap_L p) NY PY KY va fY al me pt h lo ou es td ph (d + 1) seen oq := by
  have hz := H.2.1 m
  have hA := (H.1 (16 * m + i)).2.1
  intro d
  induction d with
  | zero =>
    intro seen oq hd I hs
    by_cases c : oq = 0
    · exact br_t c (h1 (ao_ln I hs (fun s => by rw [c, b_0]) c1 c2 c3))
    · obtain ⟨j, _, j1, _⟩ := ay_lo c (fun j hj => by have := (I.1 j (Or.inl hj)).2; omega)
      have q1 := (I.1 j (Or.inl j1)).2
      have q2 := I.2.2 j j1
      have := ad_ct_all (p := bt seen) (n := ap_Z p m) (by omega) j q1
      rw [q2] at this; exact absurd this (by decide)
  | succ d ih =>
    intro seen oq hd I hs
    by_cases c : oq = 0
    · exact br_t c (h1 (ao_ln I hs (fun s => by rw [c, b_0]) c1 c2 c3))
    · obtain ⟨j, j16, j1, j2⟩ := ay_lo c (fun j hj => by have := (I.1 j (Or.inl hj)).2; omega)
      have jz := (I.1 j (Or.inl j1)).2
      have jr := (I.1 j (Or.inl j1)).1
      refine br_f c ⟨j + 1, ?_⟩
      have hk : 16 * m + j < 64 := by omega
      have hI : vp_in (nI (16 * m + j)) 64 := vp_in_nI hk (by omega)
      have ek : (nI (16 * m + j)).toNatClampNeg = 16 * m + j := nI_clamp (by omega)
      have hO := (H.1 (16 * m + j)).1
      have st : ∀ a b, aw_rg p m i a → (ap_nd p m a (ap_A p (16 * m + i)) → aw_gd p m i a) → ap_nd p m a (ap_A p (16 * m + i)) → ap_sc p m a b → aw_rg p m i b ∧ b < ap_Z p m :=
        fun a b x1 _ x3 x4 => ⟨aw_st x1 x3 x4, x4.1⟩
      have body : ∀ n, wY_isLoan_82 post (wY_isLoan_74 post (nI m) (nI (ap_A p (16 * m + i))) x5 kn md lv up dn dp bg gY oc sh rn po en (ap_oo p) sA sB (ap_c p) (ap_sz p) (ap_L p) NY PY KY va fY al me pt h lo ou es td ph (d + 1)) (nI m) (nI (ap_A p (16 * m + i))) x5 seen oq kn md lv up dn dp bg gY oc sh rn po en (ap_oo p) sA sB (ap_c p) (ap_sz p) (ap_L p) NY PY KY va fY al me pt h lo ou es td ph (n + 1) (nI j) := by
        intro n
        refine br_f (by rw [ad_shr1 _ (by omega), j1]; decide) (nm_e (nm_e (nm_r (ap_yk m j) ⟨hI, nm_r (ap_ook p hk) ⟨hI, ?_⟩⟩)))
        rw [ek]
        refine br_c (fun q => ?_) (fun q => ?_)
        · have nn : ¬ ap_nd p m j (ap_A p (16 * m + i)) := by
            rw [ad_shr1 _ (by omega)] at q
            rw [← hN j jz _ (by omega), q]; decide
          obtain ⟨A1, A2, A3⟩ := ao_st st I j1 (fun z => absurd z nn) (ay_se seen j16) (op' := bt (oq &&& (((1 : Int32) <<< (nI j &&& 31)) ^^^ (-1)))) (fun s => by
            rw [ay_op0 oq j16]
            constructor
            · exact Or.inl
            · rintro (y | ⟨y1, _⟩)
              · exact y
              · exact absurd y1 nn)
          exact ih _ _ (by omega) A1 (fun s hs' => A3 s (hs s hs'))
        · have hn : ap_nd p m j (ap_A p (16 * m + i)) := (hN j jz _ (by omega)).mp (by rw [ad_shr1 _ (by omega)] at q; exact ad_nf q)
          have bad : ¬ ap_al p (16 * m + j) → post 0 := fun z => h0 (aw_no jr hn (fun g => z g.1))
          refine pk_lt (ap_O p (16 * m + j)) 5 (fun z => bad (fun y => by unfold ap_al at y; omega)) (fun z1 => pk_lt 10 (ap_O p (16 * m + j)) (fun z => bad (fun y => by unfold ap_al at y; omega)) (fun z2 => pk_eq (ap_O p (16 * m + j)) 8 (fun z => bad (fun y => by unfold ap_al at y; omega)) (fun z3 => ⟨hI, br_c (fun z4 => ?_) (fun z4 => h0 (aw_no jr hn (fun g => z4 ?_)))⟩)))
          · rw [ad_sup] at z4
            have gd : aw_gd p m i j := ⟨by unfold ap_al; omega, fun v hv hnv => by
              have v6 := ap_nd_6 H hnv
              exact (hN j jz v (by omega)).mp (z4 v (by omega) ((h5 v (by omega)).mpr ⟨hnv, hv⟩))⟩
            obtain ⟨x, hx, wx⟩ := ay_af (kn := kn) (md := md) (lv := lv) (up := up) (dn := dn) (dp := dp) (bg := bg) (gY := gY) (oc := oc) (sh := sh) (rn := rn) (po := po) (en := en) (sA := sA) (sB := sB) (NY := NY) (PY := PY) (KY := KY) (va := va) (fY := fY) (al := al) (me := me) (pt := pt) (h := h) (lo := lo) (ou := ou) (es := es) (td := td) (ph := ph) H hm (i := j) (by omega)
            refine wx _ (nm_e ?_)
            obtain ⟨A1, A2, A3⟩ := ao_st st I j1 (fun _ => gd) (ay_se seen j16) (op' := bt (oq &&& (((1 : Int32) <<< (nI j &&& 31)) ^^^ (-1)) ||| (x &&& ((seen ||| ((1 : Int32) <<< (nI j &&& 31))) ^^^ (-1))))) (fun s => by
              rw [ay_op1, ay_op0 oq j16]
              constructor
              · rintro (y | ⟨y1, y2⟩)
                · exact Or.inl y
                · by_cases s32 : s < 32
                  · exact Or.inr ⟨hn, (hx s s32).mp y1, y2⟩
                  · rw [b_big (by omega)] at y1; exact absurd y1 (by decide)
              · rintro (y | ⟨y1, y2, y3⟩)
                · exact Or.inl y
                · exact Or.inr ⟨(hx s (by have := y2.1; omega)).mpr y2, y3⟩)
            exact ih _ _ (by omega) A1 (fun s hs' => A3 s (hs s hs'))
          · rw [ad_sup]
            intro v hv hb
            obtain ⟨b1, b2⟩ := (h5 v hv).mp hb
            exact (hN j jz v hv).mpr (g.2 v b2 b1)
      have walk : ∀ e a, a + e = j → wY_isLoan_82 post (wY_isLoan_74 post (nI m) (nI (ap_A p (16 * m + i))) x5 kn md lv up dn dp bg gY oc sh rn po en (ap_oo p) sA sB (ap_c p) (ap_sz p) (ap_L p) NY PY KY va fY al me pt h lo ou es td ph (d + 1)) (nI m) (nI (ap_A p (16 * m + i))) x5 seen oq kn md lv up dn dp bg gY oc sh rn po en (ap_oo p) sA sB (ap_c p) (ap_sz p) (ap_L p) NY PY KY va fY al me pt h lo ou es td ph (e + 1) (nI a) := by
        intro e
        induction e with
        | zero => intro a ha; have : a = j := by omega
                  subst this; exact body 0
        | succ e ihe =>
          intro a ha
          exact br_t (by rw [ad_shr1 _ (by omega)]; exact j2 a (by omega)) (nm_r (nI_1 a) (ihe (a + 1) (by omega)))
      exact walk j 0 (by omega)
theorem ay_ln (H : ap_OK p) (hAB : ap_AB p sA sB) (hm : m < 4) (hi : i < ap_Z p m) (hN : ap_NS p m NY) (post : Int32 → Prop)
    (h0 : ¬ ap_ln p m i → post 0) (h1 : ap_ln p m i → post 1) : wpY_isLoan post (kn, md, lv, up, dn, dp, bg, gY, oc, sh, rn, po, en, ap_oo p, sA, sB, ap_c p, ap_sz p, ap_L p, NY, PY, KY, va, fY, al, me, pt, h, lo, ou, es, td, ph) (nI m) (nI i) := by
  have hz := H.2.1 m
  have hk : 16 * m + i < 64 := by omega
  have hI : vp_in (nI (16 * m + i)) 64 := vp_in_nI hk (by omega)
  have ek : (nI (16 * m + i)).toNatClampNeg = 16 * m + i := nI_clamp (by omega)
  have h14 := H.1 (16 * m + i)
  have hA := h14.2.1
  have hB := h14.2.2.1
  by_cases o3 : ap_O p (16 * m + i) = 3
  · have eA : sA (nI (16 * m + i)).toNatClampNeg = nI (ap_A p (16 * m + i)) := by rw [ek]; exact (hAB (16 * m + i)).1 (by omega) (by omega)
    have eB : sB (nI (16 * m + i)).toNatClampNeg = nI (ap_B p (16 * m + i)) := by rw [ek]; exact (hAB (16 * m + i)).2 (by omega)
    obtain ⟨ec, lc⟩ := h14.2.2.2.1 (Or.inl o3)
    refine nm_r (ap_yk m i) ⟨hI, nm_r eA ⟨hI, br_t (by rw [ap_ook p hk, o3]; rfl) ⟨hI, ?_⟩⟩⟩
    rw [ap_ck p hk, ec]
    refine pk_eq _ 2 (fun c => h0 (fun l => l.2.1 c)) (fun n2 => ⟨hI, pk_eq _ _ (fun c => h0 (fun l => l.2.2.1 c)) (fun nAB => ⟨hI, nm_e ?_⟩) rfl eB⟩)
    obtain ⟨y, hy, wy⟩ := ay_af (kn := kn) (md := md) (lv := lv) (up := up) (dn := dn) (dp := dp) (bg := bg) (gY := gY) (oc := oc) (sh := sh) (rn := rn) (po := po) (en := en) (sA := sA) (sB := sB) (NY := NY) (PY := PY) (KY := KY) (va := va) (fY := fY) (al := al) (me := me) (pt := pt) (h := h) (lo := lo) (ou := ou) (es := es) (td := td) (ph := ph) H hm (i := i) (by omega)
    refine wy _ ⟨ap_Z p m + 1, ay_ll H hm hi hN post _ (fun v hv => ?_) h0 h1 o3 n2 nAB (ap_Z p m) 0 y (by omega) ⟨fun j hj => ?_, fun j hj => ?_, fun j hj => b_0 j⟩ (fun s hs => Or.inl ((hy s (by have := hs.1; omega)).mpr hs))⟩
    · rw [b_and, ad_not _ hv, Bool.and_eq_true, ek, hN i hi v hv, ad_bn (ad_b1 hA v hv)]
    · rcases hj with hj | hj
      · by_cases j32 : j < 32
        · have := (hy j j32).mp hj
          exact ⟨⟨j, this, ad_rg_0⟩, this.1⟩
        · rw [b_big (by omega)] at hj; exact absurd hj (by decide)
      · rw [b_0] at hj; exact absurd hj (by decide)
    · rw [b_0] at hj; exact absurd hj (by decide)
  · exact nm_r (ap_yk m i) ⟨hI, nm_e ⟨hI, br_f (fun z => o3 ((nI_eq (b := 3) (by have := h14.1; omega) (by decide)).mp ((ap_ook p hk).symm.trans z))) (h0 (fun l => o3 l.1))⟩⟩
theorem ay_ho (H : ap_OK p) (hAB : ap_AB p sA sB) (hm : m < 4) (hi : i < ap_Z p m) (hN : ap_NS p m NY) (post : Int32 → Prop)
    (h0 : ¬ ap_ho p m i → post 0) (h1 : ap_ho p m i → post 1) : wpY_handsOver post (kn, md, lv, up, dn, dp, bg, gY, oc, sh, rn, po, en, ap_oo p, sA, sB, ap_c p, ap_sz p, ap_L p, NY, PY, KY, va, fY, al, me, pt, h, lo, ou, es, td, ph) (nI m) (nI i) := by
  have hz := H.2.1 m
  have hk : 16 * m + i < 64 := by omega
  have hI : vp_in (nI (16 * m + i)) 64 := vp_in_nI hk (by omega)
  have ek : (nI (16 * m + i)).toNatClampNeg = 16 * m + i := nI_clamp (by omega)
  have h14 := H.1 (16 * m + i)
  have hA := h14.2.1
  have hB := h14.2.2.1
  have n : ∀ j, j < 64 → ap_O p (16 * m + i) ≠ j → ¬ nI (ap_O p (16 * m + i)) = nI j := fun j hj z => by rw [nI_eq (by omega) (by omega)]; exact z
  by_cases oc3 : ap_O p (16 * m + i) = 1 ∨ ap_O p (16 * m + i) = 4 ∨ ap_O p (16 * m + i) = 11
  · have eA : sA (nI (16 * m + i)).toNatClampNeg = nI (ap_A p (16 * m + i)) := by rw [ek]; exact (hAB (16 * m + i)).1 (by omega) (by omega)
    have eB : sB (nI (16 * m + i)).toNatClampNeg = nI (ap_B p (16 * m + i)) := by rw [ek]; exact (hAB (16 * m + i)).2 (by omega)
    have on : ap_on p (16 * m + i) := ⟨by omega, by omega, by omega⟩
    have njp : ¬ ap_jp p (16 * m + i) := fun z => by unfold ap_jp at z; omega
    have L : ∀ x5 z0 : Int32, ((ap_A p (16 * m + i) = ap_B p (16 * m + i) ∧ x5 = 1) ∨ (ap_A p (16 * m + i) ≠ ap_B p (16 * m + i) ∧ x5 = 0)) → ((ap_la p m i ∧ z0 = 0) ∨ (¬ ap_la p m i ∧ z0 = 1)) →
        wY_handsOver_60 post (nI (16 * m + i)) (nI (ap_O p (16 * m + i))) x5 z0 kn md lv up dn dp bg gY oc sh rn po en (ap_oo p) sA sB (ap_c p) (ap_sz p) (ap_L p) NY PY KY va fY al me pt h lo ou es td ph := by
      intro x5 z0 q5 q0
      by_cases c3 : ap_O p (16 * m + i) = 11
      · refine br_t (by rw [c3]; rfl) ⟨hI, ?_⟩
        obtain ⟨ec, lc⟩ := h14.2.2.2.2.2 c3
        rw [ap_ck p hk, ec, nI_clamp (by omega)]
        refine ⟨vp_in_nI lc (by omega), br_c (fun c => ?_) (fun c => h0 (fun z => by rcases z with z | z | z <;> have := z.1 <;> first | omega | exact c z.2.2))⟩
        rcases q5 with ⟨a, e⟩ | ⟨a, e⟩
        · exact br_f (by rw [e]; decide) (h1 (Or.inr (Or.inr ⟨c3, Or.inr a, c⟩)))
        · rcases q0 with ⟨b, f⟩ | ⟨b, f⟩
          · exact br_t e (br_t f (h1 (Or.inr (Or.inr ⟨c3, Or.inl b, c⟩))))
          · exact br_t e (br_f (by rw [f]; decide) (h0 (fun z => by rcases z with z | z | z <;> have := z.1 <;> first | omega | (rcases z.2.1 with y | y; exact b y; exact a y))))
      refine br_f (n 11 (by omega) c3) ?_
      by_cases c1 : ap_O p (16 * m + i) = 1
      · refine br_t (by rw [c1]; rfl) ?_
        rcases q5 with ⟨a, e⟩ | ⟨a, e⟩
        · exact br_f (by rw [e]; decide) (h0 (fun z => by rcases z with z | z | z <;> have := z.1 <;> first | omega | exact z.2.2 a))
        · rcases q0 with ⟨b, f⟩ | ⟨b, f⟩
          · exact br_t e (br_t f (h1 (Or.inl ⟨c1, b, a⟩)))
          · exact br_t e (br_f (by rw [f]; decide) (h0 (fun z => by rcases z with z | z | z <;> have := z.1 <;> first | omega | exact b z.2.1)))
      have c2 : ap_O p (16 * m + i) = 4 := by omega
      refine br_f (n 1 (by omega) c1) (br_t (by rw [c2]; rfl) ⟨hI, ?_⟩)
      obtain ⟨ec, lc⟩ := h14.2.2.2.1 (Or.inr c2)
      rw [ap_ck p hk, ec]
      refine pk_le 2 (ap_C p (16 * m + i)) (fun c => h0 (fun z => by rcases z with z | z | z <;> have := z.1 <;> first | omega | (have := z.2.2.2; omega))) (fun c => ?_)
      rcases q5 with ⟨a, e⟩ | ⟨a, e⟩
      · exact br_f (by rw [e]; decide) (h0 (fun z => by rcases z with z | z | z <;> have := z.1 <;> first | omega | exact z.2.2.1 a))
      · rcases q0 with ⟨b, f⟩ | ⟨b, f⟩
        · exact br_t e (br_t f (h1 (Or.inr (Or.inl ⟨c2, b, a, by omega⟩))))
        · exact br_t e (br_f (by rw [f]; decide) (h0 (fun z => by rcases z with z | z | z <;> have := z.1 <;> first | omega | exact b z.2.1)))
    have mid : ∀ x5 : Int32, ((ap_A p (16 * m + i) = ap_B p (16 * m + i) ∧ x5 = 1) ∨ (ap_A p (16 * m + i) ≠ ap_B p (16 * m + i) ∧ x5 = 0)) → wY_handsOver_35 post (nI m) (nI i) (nI (16 * m + i)) (nI (ap_O p (16 * m + i))) x5 kn md lv up dn dp bg gY oc sh rn po en (ap_oo p) sA sB (ap_c p) (ap_sz p) (ap_L p) NY PY KY va fY al me pt h lo ou es td ph := by
      intro x5 q5
      refine ay_nb H hm (by omega) _ (fun x hx => ⟨hI, ?_⟩)
      rw [eB]
      have hl : bt x (ap_B p (16 * m + i)) = true ↔ ¬ ap_la p m i := by
        rw [hx _ (by omega)]
        unfold ap_la
        rw [Classical.not_not]
        constructor
        · rintro ⟨j, ⟨j1, ⟨j2, j3⟩ | ⟨j2, j3⟩⟩, j4⟩
          · subst j3; exact ⟨j1, (hN _ j1 _ (by omega)).mp j4⟩
          · exact absurd j2 njp
        · rintro ⟨j1, j2⟩
          exact ⟨i + 1, ⟨j1, Or.inl ⟨on, rfl⟩⟩, (hN _ j1 _ (by omega)).mpr j2⟩
      refine br_c (fun c => L x5 0 q5 (Or.inl ⟨?_, rfl⟩)) (fun c => L x5 1 q5 (Or.inr ⟨?_, rfl⟩))
      · rw [ad_shr1 _ (by omega)] at c
        apply Classical.byContradiction
        intro z
        rw [hl.mpr z] at c; exact absurd c (by decide)
      · rw [ad_shr1 _ (by omega)] at c
        exact hl.mp (ad_nf c)
    exact nm_r (ap_yk m i) ⟨hI, nm_r (ap_ook p hk) ⟨hI, hI, pk_eq _ _ (fun c => mid 1 (Or.inl ⟨c, rfl⟩)) (fun c => mid 0 (Or.inr ⟨c, rfl⟩)) eA eB⟩⟩
  · have no : ¬ ap_ho p m i := fun z => by rcases z with z | z | z <;> have := z.1 <;> omega
    have L : ∀ x5 z0 : Int32, wY_handsOver_60 post (nI (16 * m + i)) (nI (ap_O p (16 * m + i))) x5 z0 kn md lv up dn dp bg gY oc sh rn po en (ap_oo p) sA sB (ap_c p) (ap_sz p) (ap_L p) NY PY KY va fY al me pt h lo ou es td ph := fun x5 z0 =>
      br_f (n 11 (by omega) (by omega)) (br_f (n 1 (by omega) (by omega)) (br_f (n 4 (by omega) (by omega)) (h0 no)))
    have mid : ∀ x5 : Int32, wY_handsOver_35 post (nI m) (nI i) (nI (16 * m + i)) (nI (ap_O p (16 * m + i))) x5 kn md lv up dn dp bg gY oc sh rn po en (ap_oo p) sA sB (ap_c p) (ap_sz p) (ap_L p) NY PY KY va fY al me pt h lo ou es td ph := fun x5 =>
      ay_nb H hm (by omega) _ (fun x hx => ⟨hI, br_c (fun _ => L x5 0) (fun _ => L x5 1)⟩)
    exact nm_r (ap_yk m i) ⟨hI, nm_r (ap_ook p hk) ⟨hI, hI, br_c (fun _ => mid 1) (fun _ => mid 0)⟩⟩
theorem ay_kb (H : ap_OK p) (hAB : ap_AB p sA sB) (hm : m < 4) (hi : i < ap_Z p m) (hP : ap_PS p m PY) : ∃ x : Int32, (∀ v, v < 32 → (bt x v = true ↔ (ap_gn p m i v ∨ bt (KY (16 * m + i)) v = true ∧ ¬ ap_kl p m i v))) ∧
    ∀ post : Int32 → Prop, post x → wpY_kept post (kn, md, lv, up, dn, dp, bg, gY, oc, sh, rn, po, en, ap_oo p, sA, sB, ap_c p, ap_sz p, ap_L p, NY, PY, KY, va, fY, al, me, pt, h, lo, ou, es, td, ph) (nI (16 * m + i)) := by
  have hz := H.2.1 m
  have hk : 16 * m + i < 64 := by omega
  have hI : vp_in (nI (16 * m + i)) 64 := vp_in_nI hk (by omega)
  have h14 := H.1 (16 * m + i)
  have sa := ad_b1 h14.2.1
  have sb := ad_b1 h14.2.2.1
  have he := ap_ook p hk
  have ek : (nI (16 * m + i)).toNatClampNeg = 16 * m + i := nI_clamp (by omega)
  have p1 := ap_Pl_1 (hP i hi)
  have p2 := ap_Pl_2 (hP i hi)
  have B : ∃ z : Int32, (∀ v, v < 32 → (bt z v = true ↔ bt (KY (16 * m + i)) v = true ∧ ¬ (ap_ho p m i ∧ v = ap_B p (16 * m + i)))) ∧ ∀ post : Int32 → Prop, wY_kept_47 post (nI (16 * m + i)) z (nI (ap_O p (16 * m + i))) ((1 : Int32) <<< (sA (16 * m + i) &&& 31)) kn md lv up dn dp bg gY oc sh rn po en (ap_oo p) sA sB (ap_c p) (ap_sz p) (ap_L p) NY PY KY va fY al me pt h lo ou es td ph → wpY_kept post (kn, md, lv, up, dn, dp, bg, gY, oc, sh, rn, po, en, ap_oo p, sA, sB, ap_c p, ap_sz p, ap_L p, NY, PY, KY, va, fY, al, me, pt, h, lo, ou, es, td, ph) (nI (16 * m + i)) := by
    by_cases c : ap_ho p m i
    · have eB : sB (16 * m + i) = nI (ap_B p (16 * m + i)) := (hAB (16 * m + i)).2 (by rcases c with c | c | c <;> have := c.1 <;> omega)
      refine ⟨KY (16 * m + i) &&& (((1 : Int32) <<< (nI (ap_B p (16 * m + i)) &&& 31)) ^^^ (-1)), fun v hv => ?_, fun post hp => ⟨hI, nm_e ⟨hI, nm_r he ⟨hI, nm_e ⟨hI, ?_⟩⟩⟩⟩⟩
      · rw [b_and, ad_not _ hv, Bool.and_eq_true, ad_bn (sb v hv)]
        exact ⟨fun q => ⟨q.1, fun z => q.2 z.2⟩, fun q => ⟨q.1, fun z => q.2 ⟨c, z⟩⟩⟩
      · rw [ek, eB]
        exact br_t (p2.mpr c) ⟨hI, nm_e hp⟩
    · refine ⟨KY (16 * m + i), fun v hv => ⟨fun q => ⟨q, fun z => c z.1⟩, fun q => q.1⟩, fun post hp => ⟨hI, nm_e ⟨hI, nm_r he ⟨hI, nm_e ⟨hI, ?_⟩⟩⟩⟩⟩
      rw [ek]
      exact br_f (fun z => c (p2.mp z)) hp
  obtain ⟨z, hzb, wz⟩ := B
  rcases ap_14 H (16 * m + i) with e | e | e | e | e | e | e | e | e | e | e | e | e | e
  · rw [e] at wz
    rw [(hAB (16 * m + i)).1 (by omega) (by omega)] at wz
    have l : ¬ ap_ln p m i := fun q => by have := q.1; omega
    refine ⟨z ||| ((1 : Int32) <<< (nI (ap_A p (16 * m + i)) &&& 31)), fun v hv => ?_, fun post hp => wz post (br_f (by decide) ⟨hI, br_f (by rw [ek]; exact fun z => l (p1.mp z)) (br_t (by decide) (hp))⟩)⟩
    rw [b_or, Bool.or_eq_true, sa v hv, hzb v hv]
    unfold ap_gn ap_kl
    simp [e, l, or_comm]
  · rw [e] at wz
    rw [(hAB (16 * m + i)).1 (by omega) (by omega)] at wz
    have l : ¬ ap_ln p m i := fun q => by have := q.1; omega
    refine ⟨z ||| ((1 : Int32) <<< (nI (ap_A p (16 * m + i)) &&& 31)), fun v hv => ?_, fun post hp => wz post (br_f (by decide) ⟨hI, br_f (by rw [ek]; exact fun z => l (p1.mp z)) (br_f (by decide) (br_t (by decide) (hp)))⟩)⟩
    rw [b_or, Bool.or_eq_true, sa v hv, hzb v hv]
    unfold ap_gn ap_kl
    simp [e, l, or_comm]
  · rw [e] at wz
    rw [(hAB (16 * m + i)).1 (by omega) (by omega)] at wz
    have l : ¬ ap_ln p m i := fun q => by have := q.1; omega
    refine ⟨z &&& (((1 : Int32) <<< (nI (ap_A p (16 * m + i)) &&& 31)) ^^^ (-1)), fun v hv => ?_, fun post hp => wz post (br_t (by decide) hp)⟩
    rw [b_and, ad_not _ hv, Bool.and_eq_true, ad_bn (sa v hv), hzb v hv]
    unfold ap_gn ap_kl
    simp [e, l, and_assoc]
  · rw [e] at wz
    rw [(hAB (16 * m + i)).1 (by omega) (by omega)] at wz
    by_cases l : ap_ln p m i
    · refine ⟨z &&& (((1 : Int32) <<< (nI (ap_A p (16 * m + i)) &&& 31)) ^^^ (-1)), fun v hv => ?_, fun post hp => wz post (br_f (by decide) ⟨hI, br_t (by rw [ek]; exact p1.mpr l) hp⟩)⟩
      rw [b_and, ad_not _ hv, Bool.and_eq_true, ad_bn (sa v hv), hzb v hv]
      unfold ap_gn ap_kl
      simp only [e, l, not_true, and_false, false_or, or_true, true_and, not_or, and_assoc]
    · refine ⟨z ||| ((1 : Int32) <<< (nI (ap_A p (16 * m + i)) &&& 31)), fun v hv => ?_, fun post hp => wz post (br_f (by decide) ⟨hI, br_f (by rw [ek]; exact fun z => l (p1.mp z)) (br_f (by decide) (br_f (by decide) (br_t (by decide) (hp))))⟩)⟩
      rw [b_or, Bool.or_eq_true, sa v hv, hzb v hv]
      unfold ap_gn ap_kl
      simp [e, l, or_comm]
  · rw [e] at wz
    rw [(hAB (16 * m + i)).1 (by omega) (by omega)] at wz
    have l : ¬ ap_ln p m i := fun q => by have := q.1; omega
    refine ⟨z, fun v hv => ?_, fun post hp => wz post (br_f (by decide) ⟨hI, br_f (by rw [ek]; exact fun z => l (p1.mp z)) (br_f (by decide) (br_f (by decide) (br_f (by decide) (br_f (by decide) (br_f (by decide) (hp))))))⟩)⟩
    rw [hzb v hv]
    unfold ap_gn ap_kl
    simp [e, l]
  · rw [e] at wz
    rw [(hAB (16 * m + i)).1 (by omega) (by omega)] at wz
    have l : ¬ ap_ln p m i := fun q => by have := q.1; omega
    refine ⟨z, fun v hv => ?_, fun post hp => wz post (br_f (by decide) ⟨hI, br_f (by rw [ek]; exact fun z => l (p1.mp z)) (br_f (by decide) (br_f (by decide) (br_f (by decide) (br_f (by decide) (br_f (by decide) (hp))))))⟩)⟩
    rw [hzb v hv]
    unfold ap_gn ap_kl
    simp [e, l]
  · rw [e] at wz
    rw [(hAB (16 * m + i)).1 (by omega) (by omega)] at wz
    have l : ¬ ap_ln p m i := fun q => by have := q.1; omega
    refine ⟨z, fun v hv => ?_, fun post hp => wz post (br_f (by decide) ⟨hI, br_f (by rw [ek]; exact fun z => l (p1.mp z)) (br_f (by decide) (br_f (by decide) (br_f (by decide) (br_f (by decide) (br_f (by decide) (hp))))))⟩)⟩
    rw [hzb v hv]
    unfold ap_gn ap_kl
    simp [e, l]
  · rw [e] at wz
    rw [(hAB (16 * m + i)).1 (by omega) (by omega)] at wz
    have l : ¬ ap_ln p m i := fun q => by have := q.1; omega
    refine ⟨z, fun v hv => ?_, fun post hp => wz post (br_f (by decide) ⟨hI, br_f (by rw [ek]; exact fun z => l (p1.mp z)) (br_f (by decide) (br_f (by decide) (br_f (by decide) (br_f (by decide) (br_f (by decide) (hp))))))⟩)⟩
    rw [hzb v hv]
    unfold ap_gn ap_kl
    simp [e, l]
  · rw [e] at wz
    rw [(hAB (16 * m + i)).1 (by omega) (by omega)] at wz
    have l : ¬ ap_ln p m i := fun q => by have := q.1; omega
    refine ⟨z ||| ((1 : Int32) <<< (nI (ap_A p (16 * m + i)) &&& 31)), fun v hv => ?_, fun post hp => wz post (br_f (by decide) ⟨hI, br_f (by rw [ek]; exact fun z => l (p1.mp z)) (br_f (by decide) (br_f (by decide) (br_f (by decide) (br_t (by decide) (hp)))))⟩)⟩
    rw [b_or, Bool.or_eq_true, sa v hv, hzb v hv]
    unfold ap_gn ap_kl
    simp [e, l, or_comm]
  · rw [e] at wz
    rw [(hAB (16 * m + i)).1 (by omega) (by omega)] at wz
    have l : ¬ ap_ln p m i := fun q => by have := q.1; omega
    refine ⟨z, fun v hv => ?_, fun post hp => wz post (br_f (by decide) ⟨hI, br_f (by rw [ek]; exact fun z => l (p1.mp z)) (br_f (by decide) (br_f (by decide) (br_f (by decide) (br_f (by decide) (br_f (by decide) (hp))))))⟩)⟩
    rw [hzb v hv]
    unfold ap_gn ap_kl
    simp [e, l]
  · rw [e] at wz
    have l : ¬ ap_ln p m i := fun q => by have := q.1; omega
    refine ⟨z, fun v hv => ?_, fun post hp => wz post (br_f (by decide) ⟨hI, br_f (by rw [ek]; exact fun z => l (p1.mp z)) (br_f (by decide) (br_f (by decide) (br_f (by decide) (br_f (by decide) (br_f (by decide) (hp))))))⟩)⟩
    rw [hzb v hv]
    unfold ap_gn ap_kl
    simp [e, l]
  · rw [e] at wz
    rw [(hAB (16 * m + i)).1 (by omega) (by omega)] at wz
    have l : ¬ ap_ln p m i := fun q => by have := q.1; omega
    refine ⟨z ||| ((1 : Int32) <<< (nI (ap_A p (16 * m + i)) &&& 31)), fun v hv => ?_, fun post hp => wz post (br_f (by decide) ⟨hI, br_f (by rw [ek]; exact fun z => l (p1.mp z)) (br_f (by decide) (br_f (by decide) (br_f (by decide) (br_f (by decide) (br_t (by decide) (hp))))))⟩)⟩
    rw [b_or, Bool.or_eq_true, sa v hv, hzb v hv]
    unfold ap_gn ap_kl
    simp [e, l, or_comm]
  · rw [e] at wz
    rw [(hAB (16 * m + i)).1 (by omega) (by omega)] at wz
    have l : ¬ ap_ln p m i := fun q => by have := q.1; omega
    refine ⟨z, fun v hv => ?_, fun post hp => wz post (br_f (by decide) ⟨hI, br_f (by rw [ek]; exact fun z => l (p1.mp z)) (br_f (by decide) (br_f (by decide) (br_f (by decide) (br_f (by decide) (br_f (by decide) (hp))))))⟩)⟩
    rw [hzb v hv]
    unfold ap_gn ap_kl
    simp [e, l]
  · rw [e] at wz
    have l : ¬ ap_ln p m i := fun q => by have := q.1; omega
    refine ⟨z, fun v hv => ?_, fun post hp => wz post (br_f (by decide) ⟨hI, br_f (by rw [ek]; exact fun z => l (p1.mp z)) (br_f (by decide) (br_f (by decide) (br_f (by decide) (br_f (by decide) (br_f (by decide) (hp))))))⟩)⟩
    rw [hzb v hv]
    unfold ap_gn ap_kl
    simp [e, l]
end
