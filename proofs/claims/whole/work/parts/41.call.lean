section
variable {p : ap_T} {kn po en up dn bg lv md gX gY dp sa sh oc rn : Int32} {sA sB N P K R NY PY KY me pt h lx lo va rf al fX fY pe ou es td ph : Nat → Int32}
variable {f m i M L E Q B d : Nat}
theorem bz_op11 (H : ap_OK p) (hAB : ap_AB p sA sB) (hA : ag_A p N P NY PY) (I : ag_I p sh (f + 1) M L E Q B 0 h lx lo al rf fX fY me pt va) (hB : B < 300) (em : me f = nI m) (ei : pt f = nI i) (hm : m < 4) (hiz : i < ap_Z p m)
    (hnd : sh = 1 → ∀ j, j < 6 → h (6 * f + j) ≠ 0 → ap_nd p m i j) (eo : ap_O p (16 * m + i) = 11) :
    ∃ (d' M' L' E' Q' g' : Nat) (r' oc' up' dn' : Int32) (h' lx' lo' al' rf' fX' fY' pe' td' ph' es' me' pt' va' ou' : Nat → Int32),
      ((r' = 1 ∧ oc' = -1 ∧ 1 ≤ d' ∧ g' = 0) ∨ (r' = 1 ∧ oc' = 0 ∧ d' = 0) ∨ (r' = 0 ∧ oc' = 1 ∧ d' = f + 1 ∧ g' = 0)) ∧ ag_I p sh d' M' L' E' Q' (B + 1) g' h' lx' lo' al' rf' fX' fY' me' pt' va' ∧
      (∀ post : Int32 → SX → Prop, post r' (nI Q', nI E', up', dn', nI (B + 1), nI L', nI M', nI g', nI d', sa, sh, ap_sz p, ap_L p, ap_oo p, ap_aA p, ap_aB p, ap_c p, N, P, K, R, me', pt', h', lx', va', rf', al', fX', pe', ou', es') → wpX_perform post (nI Q, nI E, up, dn, nI (B + 1), nI L, nI M, nI 0, nI (f + 1), sa, sh, ap_sz p, ap_L p, ap_oo p, ap_aA p, ap_aB p, ap_c p, N, P, K, R, me, pt, h, lx, va, rf, al, fX, pe, ou, es)) ∧
      (∀ post : SY → Prop, post (kn, nI M', nI L', up', dn', nI d', nI (B + 1), nI g', oc', sh, rn, nI Q', nI E', ap_oo p, sA, sB, ap_c p, ap_sz p, ap_L p, NY, PY, KY, va', fY', al', me', pt', h', lo', ou', es', td', ph') → wpY_carryOut post (kn, nI M, nI L, up, dn, nI (f + 1), nI (B + 1), nI 0, (-1), sh, rn, nI Q, nI E, ap_oo p, sA, sB, ap_c p, ap_sz p, ap_L p, NY, PY, KY, va, fY, al, me, pt, h, lo, ou, es, td, ph) (nI (6 * f)) (nI (16 * m + i))) := by
  obtain ⟨I1, I2, I3, I4, I5, I6, I7, I8⟩ := id I
  obtain ⟨hLc, hL24, hEL, hM, hd⟩ := I1.2.2.2.2.2.2.1
  have hL24' : L + 0 ≤ 24 := hL24
  have hz := H.2.1 m
  have hf : f < 6 := by omega
  have hi : i < 16 := by omega
  have hk : 16 * m + i < 64 := by omega
  have hI : vp_in (nI (16 * m + i)) 64 := vp_in_nI hk (by omega)
  have ek : (nI (16 * m + i)).toNatClampNeg = 16 * m + i := nI_clamp (by omega)
  have h14 := H.1 (16 * m + i)
  have hAA := h14.2.1
  have hBB := h14.2.2.1
  have vf : vp_in (nI f) 6 := vp_in_nI hf (by omega)
  have ef : (nI f).toNatClampNeg = f := nI_clamp (by omega)
  have x1e : nI (f + 1) - 1 = nI f := nI_pred f
  have x2e : me (nI f).toNatClampNeg * 16 + pt (nI f).toNatClampNeg = nI (16 * m + i) := by rw [ef, em, ei, ap_xk]
  have f6 : nI f * 6 = nI (6 * f) := by
    have : nI f * 6 = nI (f * 6) := pk_mul f 6
    rw [this, Nat.mul_comm]
  have x3e : nI f * 6 + ap_aA p (nI (16 * m + i)).toNatClampNeg = nI (6 * f + ap_A p (16 * m + i)) := by rw [ap_aAk p hk, f6, nI_add]
  have x4e : nI f * 6 + ap_aB p (nI (16 * m + i)).toNatClampNeg = nI (6 * f + ap_B p (16 * m + i)) := by rw [ap_aBk p hk, f6, nI_add]
  have x5e : ap_oo p (nI (16 * m + i)).toNatClampNeg = (11 : Int32) := by rw [ap_ook p hk, eo]; rfl
  obtain ⟨na, hna, ena⟩ := I1.2.2.2.1 (6 * f + ap_A p (16 * m + i)) (by omega)
  obtain ⟨nb, hnb, enb⟩ := I1.2.2.2.1 (6 * f + ap_B p (16 * m + i)) (by omega)
  have va36 : vp_in (nI (6 * f + ap_A p (16 * m + i))) 36 := vp_in_nI (by omega) (by omega)
  have vb36 : vp_in (nI (6 * f + ap_B p (16 * m + i))) 36 := vp_in_nI (by omega) (by omega)
  have eka : (nI (6 * f + ap_A p (16 * m + i))).toNatClampNeg = 6 * f + ap_A p (16 * m + i) := nI_clamp (by omega)
  have ekb : (nI (6 * f + ap_B p (16 * m + i))).toNatClampNeg = 6 * f + ap_B p (16 * m + i) := nI_clamp (by omega)
  have eP : P (16 * m + i) = PY (16 * m + i) := ap_Pl_u ((hA m hm).2.1 i hiz) ((hA m hm).2.2.2 i hiz)
  have eg : ∀ x : Nat, (if nI x = 0 then (0 : Int32) else 0) = 0 := fun x => by split <;> rfl
  have on : ap_on p (16 * m + i) := ⟨by omega, by omega, by omega⟩
  have scn : i + 1 < ap_Z p m → ap_sc p m i (i + 1) := fun z => ⟨z, Or.inl ⟨on, rfl⟩⟩
  have y5e : nI (6 * f) + sB (16 * m + i) = nI (6 * f + ap_B p (16 * m + i)) := by rw [(hAB (16 * m + i)).2 (by omega), nI_add]
  have nal : ¬ ap_al p (16 * m + i) := fun z => by unfold ap_al at z; omega
  have alA := ag_alive (n := na) I1 I8 em ei hm hi hnd hiz nal hAA ena hna
  have alB := ag_alive (n := nb) I1 I8 em ei hm hi hnd hiz nal hBB enb hnb
  obtain ⟨ec, lc⟩ := h14.2.2.2.2.2 eo
  have ecx : ap_c p (nI (16 * m + i)).toNatClampNeg = nI (ap_C p (16 * m + i)) := by rw [ap_ck p hk]; exact ec
  have vC : vp_in (nI (ap_C p (16 * m + i))) 4 := vp_in_nI lc (by omega)
  have zC := H.2.1 (ap_C p (16 * m + i))
  have esz : ap_sz p (nI (ap_C p (16 * m + i))).toNatClampNeg = nI (ap_Z p (ap_C p (16 * m + i))) := ap_szm p lc
  by_cases d6 : f + 1 = 6
  · refine ⟨f + 1, M, L, E, Q, 0, 0, 1, up, dn, h, lx, lo, al, rf, fX, fY, pe, td, ph, es, me, pt, va, ou, Or.inr (Or.inr ⟨rfl, rfl, rfl, rfl⟩), ⟨I1, I2, I3, by omega, by omega, by omega, I7, I8⟩, fun post hp => ?_, fun post hp => ?_⟩
    · exact nm_r x1e ⟨vf, vf, nm_r x2e ⟨hI, nm_r x3e ⟨hI, nm_r x4e ⟨hI, nm_r x5e (br_f (by decide) (br_f (by decide) (br_f (by decide) (br_f (by decide) (br_f (by decide) (br_f (by decide) (br_f (by decide) (br_f (by decide) (br_f (by decide) (br_f (by decide) (br_f (by decide) (br_f (by decide) (br_f (by decide) (br_t (by decide) (⟨hI, nm_r ecx (br_t (nI_le (a := 6) (by omega) (by omega)) ⟨rfl, hp⟩)⟩)))))))))))))))⟩⟩⟩⟩
    · exact by_fail hAB hf hk hAA hM (by omega) (by omega) ena (by omega) (by omega) (by omega) (by omega) post (Or.inr (Or.inr (Or.inr ⟨eo, Or.inl (by rw [d6]; rfl)⟩))) hp
  by_cases z0 : ap_Z p (ap_C p (16 * m + i)) = 0
  · refine ⟨f + 1, M, L, E, Q, 0, 0, 1, up, dn, h, lx, lo, al, rf, fX, fY, pe, td, ph, es, me, pt, va, ou, Or.inr (Or.inr ⟨rfl, rfl, rfl, rfl⟩), ⟨I1, I2, I3, by omega, by omega, by omega, I7, I8⟩, fun post hp => ?_, fun post hp => ?_⟩
    · exact nm_r x1e ⟨vf, vf, nm_r x2e ⟨hI, nm_r x3e ⟨hI, nm_r x4e ⟨hI, nm_r x5e (br_f (by decide) (br_f (by decide) (br_f (by decide) (br_f (by decide) (br_f (by decide) (br_f (by decide) (br_f (by decide) (br_f (by decide) (br_f (by decide) (br_f (by decide) (br_f (by decide) (br_f (by decide) (br_f (by decide) (br_t (by decide) (⟨hI, nm_r ecx (br_f (nI_ge (b := 6) (by omega) (by decide)) ⟨vC, br_t (by rw [esz, z0]; rfl) ⟨rfl, hp⟩⟩)⟩)))))))))))))))⟩⟩⟩⟩
    · exact by_fail hAB hf hk hAA hM (by omega) (by omega) ena (by omega) (by omega) (by omega) (by omega) post (Or.inr (Or.inr (Or.inr ⟨eo, Or.inr ⟨fun z => d6 ((nI_eq (b := 6) (by omega) (by decide)).mp z), by rw [ec]; exact vC, by rw [ec, esz, z0]; rfl⟩⟩))) hp
  have nz : ¬ ap_sz p (nI (ap_C p (16 * m + i))).toNatClampNeg = 0 := by rw [esz]; exact nI_ne0 (by omega) (by omega)
  have eCk : (nI (ap_C p (16 * m + i))).toNatClampNeg = ap_C p (16 * m + i) := nI_clamp (by omega)
  have Xw : ∀ (post : Int32 → SX → Prop) (z : Int32), ((z = 1 ∧ sh ≠ 0 ∧ ap_L p (ap_C p (16 * m + i)) ≠ 0) ∨ (z = 0 ∧ ¬ (sh ≠ 0 ∧ ap_L p (ap_C p (16 * m + i)) ≠ 0))) → wX_startCall_48 post (nI (16 * m + i)) (nI (6 * f + ap_B p (16 * m + i))) (nI (ap_C p (16 * m + i))) z (nI Q) (nI E) up dn (nI (B + 1)) (nI L) (nI M) (nI 0) (nI (f + 1)) sa sh (ap_sz p) (ap_L p) (ap_oo p) (ap_aA p) (ap_aB p) (ap_c p) N P K R me pt h lx va rf al fX pe ou es → wpX_startCall post (nI Q, nI E, up, dn, nI (B + 1), nI L, nI M, nI 0, nI (f + 1), sa, sh, ap_sz p, ap_L p, ap_oo p, ap_aA p, ap_aB p, ap_c p, N, P, K, R, me, pt, h, lx, va, rf, al, fX, pe, ou, es) (nI (16 * m + i)) (nI (6 * f + ap_B p (16 * m + i))) := by
    intro post z hz2 KK
    refine ⟨hI, nm_r ecx (br_f (nI_ge (b := 6) (by omega) (by decide)) ⟨vC, br_f nz ?_⟩)⟩
    rcases hz2 with ⟨a, b, c⟩ | ⟨a, b⟩
    · subst a
      exact br_f b ⟨vC, br_f (by rw [eCk]; exact c) KK⟩
    · subst a
      by_cases s0 : sh = 0
      · exact br_t s0 KK
      · refine br_f s0 ⟨vC, br_t ?_ KK⟩
        rw [eCk]
        apply Classical.byContradiction
        intro q
        exact b ⟨s0, q⟩
  have Yw : ∀ (post : SY → Prop) (z : Int32), ((z = 1 ∧ sh ≠ 0 ∧ ap_L p (ap_C p (16 * m + i)) ≠ 0) ∨ (z = 0 ∧ ¬ (sh ≠ 0 ∧ ap_L p (ap_C p (16 * m + i)) ≠ 0))) → wY_call_21 (fun u => post u) (nI (16 * m + i)) (nI (6 * f + ap_B p (16 * m + i))) (nI (ap_C p (16 * m + i))) z kn (nI M) (nI L) up dn (nI (f + 1)) (nI (B + 1)) (nI 0) (-1) sh rn (nI Q) (nI E) (ap_oo p) sA sB (ap_c p) (ap_sz p) (ap_L p) NY PY KY va fY al me pt h lo ou es td ph → wpY_carryOut post (kn, nI M, nI L, up, dn, nI (f + 1), nI (B + 1), nI 0, (-1), sh, rn, nI Q, nI E, ap_oo p, sA, sB, ap_c p, ap_sz p, ap_L p, NY, PY, KY, va, fY, al, me, pt, h, lo, ou, es, td, ph) (nI (6 * f)) (nI (16 * m + i)) := by
    intro post z hz2 KK
    refine by_pre hAB hf hk hAA (by omega) (by omega) (by omega) post ?_
    rw [ena, eo, y5e, ec]
    refine by_58 (by omega) post _ _ _ _ _ (fun z => by omega) (fun z => by omega) (fun z => by omega) (fun _ => ⟨fun z => d6 ((nI_eq (b := 6) (by omega) (by decide)).mp z), vC, nz⟩) (by_134 hM (by omega) (by omega) (by omega) post _ _ _ _ _ (fun y _ => ?_))
    refine br_f (by decide) (br_t rfl (br_t (by decide) ?_))
    unfold wpY_call
    rcases hz2 with ⟨a, b, c⟩ | ⟨a, b⟩
    · subst a
      exact br_f b ⟨vC, br_f (by rw [eCk]; exact c) KK⟩
    · subst a
      by_cases s0 : sh = 0
      · exact br_t s0 KK
      · refine br_f s0 ⟨vC, br_t ?_ KK⟩
        rw [eCk]
        apply Classical.byContradiction
        intro q
        exact b ⟨s0, q⟩
  by_cases lent : sh ≠ 0 ∧ ap_L p (ap_C p (16 * m + i)) ≠ 0
  · have In := ac_ent (x := nb) (if nI nb = 0 then 0 else (1 : Int32)) (by rw [af_bx (by omega), if_neg (by decide)]; exact I1) (by omega) hnb (upd (af_ze h (6 * (f + 1)) 6) (6 * (f + 1)) (nI nb)) (upd (af_ze lo (6 * (f + 1)) 6) (6 * (f + 1)) (if nI nb = 0 then 0 else 1))
      (fun v hv => by rw [pk_un (by omega), pk_un (by omega), af_ze_out (by omega), af_ze_out (by omega)]; exact ⟨rfl, rfl⟩) ⟨pk_us, pk_us⟩ (fun j j1 j2 => by rw [pk_un (by omega)]; exact af_ze_in (by omega) (by omega))
    refine ⟨f + 1 + 1, M, L, E, Q, 0, 1, -1, up, dn, _, upd (af_ze lx (6 * (f + 1)) 6) (6 * (f + 1)) 1, _, al, rf, fX, fY, pe, td, ph, es, upd me (f + 1) (nI (ap_C p (16 * m + i))), upd pt (f + 1) 0, va, ou, Or.inl ⟨rfl, rfl, by omega, rfl⟩,
      ⟨In, af_ll_u (af_ll_ze I2 _ _) _ (Or.inr rfl) (fun c => by rw [if_pos c]) (fun c => by rw [if_neg c]), I3, by omega, by omega, by omega, by omega, ag_F_call I8 em ei hm hi (ag_ne I2) hnd hiz eo hBB lc (fun _ _ => rfl) (Or.inl rfl) _ (fun _ => ⟨lent.1, rfl, enb⟩)⟩, fun post hp => ?_, fun post hp => ?_⟩
    · refine nm_r x1e ⟨vf, vf, nm_r x2e ⟨hI, nm_r x3e ⟨hI, nm_r x4e ⟨hI, nm_r x5e (br_f (by decide) (br_f (by decide) (br_f (by decide) (br_f (by decide) (br_f (by decide) (br_f (by decide) (br_f (by decide) (br_f (by decide) (br_f (by decide) (br_f (by decide) (br_f (by decide) (br_f (by decide) (br_f (by decide) (br_t (by decide) (Xw _ 1 (Or.inl ⟨rfl, lent⟩) (br_f (by decide) ⟨vb36, ?_⟩))))))))))))))))⟩⟩⟩⟩
      rw [ekb, enb]
      unfold wX_startCall_84
      exact bx_enter (by omega) 1 (Or.inr rfl) _ ⟨rfl, hp⟩
    · refine Yw post 1 (Or.inl ⟨rfl, lent⟩) (br_f (by decide) ⟨vb36, ?_⟩)
      rw [ekb, enb]
      unfold wY_call_43
      exact by_enter (by omega) (by omega) 1 (Or.inr rfl) _ hp
  · have mbe : ∃ mb : Int32, ((P (16 * m + i) = 2 ∧ mb = 1) ∨ (¬ P (16 * m + i) = 2 ∧ mb = 0)) := by
      by_cases c : P (16 * m + i) = 2
      · exact ⟨1, Or.inl ⟨c, rfl⟩⟩
      · exact ⟨0, Or.inr ⟨c, rfl⟩⟩
    obtain ⟨mb, hmb⟩ := mbe
    obtain ⟨h1, rf1, up1, T1, T2, T3, T4, T5⟩ := bz_take (p := p) (po := nI Q) (up := up) (bg := nI (B + 1)) (gX := nI 0) (sa := sa) (sh := sh) (N := N) (P := P) (K := K) (R := R) (me := me) (h := h) (lx := lx) (va := va) (ou := ou) (gY := nI 0) (lo := lo) (dn := dn) (pe := pe) (es := es) (pt := pt) (v := 6 * f + ap_B p (16 * m + i)) (n := nb) mb I1 (by omega) enb hnb alB I2
    have In := ac_ent (x := nb) (0 : Int32) (by rw [if_pos rfl]; exact T1) (by omega) hnb (upd (af_ze h1 (6 * (f + 1)) 6) (6 * (f + 1)) (nI nb)) (upd (af_ze lo (6 * (f + 1)) 6) (6 * (f + 1)) 0)
      (fun v hv => by rw [pk_un (by omega), pk_un (by omega), af_ze_out (by omega), af_ze_out (by omega)]; exact ⟨rfl, rfl⟩) ⟨pk_us, pk_us⟩ (fun j j1 j2 => by rw [pk_un (by omega)]; exact af_ze_in (by omega) (by omega))
    refine ⟨f + 1 + 1, M, L, E, Q, 0, 1, -1, up1, dn, _, upd (af_ze lx (6 * (f + 1)) 6) (6 * (f + 1)) 0, _, al, rf1, fX, fY, pe, td, ph, es, upd me (f + 1) (nI (ap_C p (16 * m + i))), upd pt (f + 1) 0, va, ou, Or.inl ⟨rfl, rfl, by omega, rfl⟩,
      ⟨In, af_ll_u (af_ll_ze T2 _ _) _ (Or.inl rfl) (fun c => rfl) (fun c => rfl), I3, by omega, by omega, by omega, by omega, ag_F_call I8 em ei hm hi (ag_ne I2) hnd hiz eo hBB lc T3 (by rcases T4 with ⟨_, _, q, _⟩ | ⟨_, q, _⟩; exact Or.inr q; exact Or.inl (by rw [q])) 0 (fun z => absurd rfl z)⟩, fun post hp => ?_, fun post hp => ?_⟩
    · refine nm_r x1e ⟨vf, vf, nm_r x2e ⟨hI, nm_r x3e ⟨hI, nm_r x4e ⟨hI, nm_r x5e (br_f (by decide) (br_f (by decide) (br_f (by decide) (br_f (by decide) (br_f (by decide) (br_f (by decide) (br_f (by decide) (br_f (by decide) (br_f (by decide) (br_f (by decide) (br_f (by decide) (br_f (by decide) (br_f (by decide) (br_t (by decide) (Xw _ 0 (Or.inr ⟨rfl, lent⟩) (br_t rfl ⟨hI, ?_⟩))))))))))))))))⟩⟩⟩⟩
      rw [ek]
      rcases hmb with ⟨c, e⟩ | ⟨c, e⟩
      · subst e; exact br_t c (T5 _ (bx_enter (by omega) 0 (Or.inl rfl) _ ⟨rfl, hp⟩))
      · subst e; exact br_f c (T5 _ (bx_enter (by omega) 0 (Or.inl rfl) _ ⟨rfl, hp⟩))
    · refine Yw post 0 (Or.inr ⟨rfl, lent⟩) (br_t rfl ?_)
      refine by_ref (by omega) hk (by omega) enb (h' := h1) (up' := up1) ?_ _ (by_enter (by omega) (by omega) 0 (Or.inl rfl) _ (by rw [eg]; exact hp))
      rw [← eP]
      rcases T4 with ⟨q1, q2, q3⟩ | ⟨q1, q2⟩
      · exact Or.inl ⟨q1, by rcases hmb with q | q; exact q.1; exact absurd q.2 q2, q3⟩
      · exact Or.inr ⟨fun z => q1 ⟨z.1, by rcases hmb with q | q; rw [q.2]; decide; exact absurd z.2.1 q.1, z.2.2⟩, q2⟩
theorem bz_perf (H : ap_OK p) (hAB : ap_AB p sA sB) (hA : ag_A p N P NY PY) (I : ag_I p sh (f + 1) M L E Q B 0 h lx lo al rf fX fY me pt va) (hB : B < 300) (em : me f = nI m) (ei : pt f = nI i) (hm : m < 4) (hiz : i < ap_Z p m)
    (hnd : sh = 1 → ∀ j, j < 6 → h (6 * f + j) ≠ 0 → ap_nd p m i j) :
    ∃ (d' M' L' E' Q' g' : Nat) (r' oc' up' dn' : Int32) (h' lx' lo' al' rf' fX' fY' pe' td' ph' es' me' pt' va' ou' : Nat → Int32),
      ((r' = 1 ∧ oc' = -1 ∧ 1 ≤ d' ∧ g' = 0) ∨ (r' = 1 ∧ oc' = 0 ∧ d' = 0) ∨ (r' = 0 ∧ oc' = 1 ∧ d' = f + 1 ∧ g' = 0)) ∧ ag_I p sh d' M' L' E' Q' (B + 1) g' h' lx' lo' al' rf' fX' fY' me' pt' va' ∧
      (∀ post : Int32 → SX → Prop, post r' (nI Q', nI E', up', dn', nI (B + 1), nI L', nI M', nI g', nI d', sa, sh, ap_sz p, ap_L p, ap_oo p, ap_aA p, ap_aB p, ap_c p, N, P, K, R, me', pt', h', lx', va', rf', al', fX', pe', ou', es') → wpX_perform post (nI Q, nI E, up, dn, nI (B + 1), nI L, nI M, nI 0, nI (f + 1), sa, sh, ap_sz p, ap_L p, ap_oo p, ap_aA p, ap_aB p, ap_c p, N, P, K, R, me, pt, h, lx, va, rf, al, fX, pe, ou, es)) ∧
      (∀ post : SY → Prop, post (kn, nI M', nI L', up', dn', nI d', nI (B + 1), nI g', oc', sh, rn, nI Q', nI E', ap_oo p, sA, sB, ap_c p, ap_sz p, ap_L p, NY, PY, KY, va', fY', al', me', pt', h', lo', ou', es', td', ph') → wpY_carryOut post (kn, nI M, nI L, up, dn, nI (f + 1), nI (B + 1), nI 0, (-1), sh, rn, nI Q, nI E, ap_oo p, sA, sB, ap_c p, ap_sz p, ap_L p, NY, PY, KY, va, fY, al, me, pt, h, lo, ou, es, td, ph) (nI (6 * f)) (nI (16 * m + i))) := by
  rcases ap_14 H (16 * m + i) with e | e | e | e | e | e | e | e | e | e | e | e | e | e
  · exact bz_op0 H hAB hA I hB em ei hm hiz hnd e
  · exact bz_op1 H hAB hA I hB em ei hm hiz hnd e
  · exact bz_op2 H hAB hA I hB em ei hm hiz hnd e
  · exact bz_op3 H hAB hA I hB em ei hm hiz hnd e
  · exact bz_op4 H hAB hA I hB em ei hm hiz hnd e
  · exact bz_op5 H hAB hA I hB em ei hm hiz hnd e
  · exact bz_op6 H hAB hA I hB em ei hm hiz hnd e
  · exact bz_op7 H hAB hA I hB em ei hm hiz hnd e
  · exact bz_op8 H hAB hA I hB em ei hm hiz hnd e
  · exact bz_op9 H hAB hA I hB em ei hm hiz hnd e
  · exact bz_op10 H hAB hA I hB em ei hm hiz hnd e
  · exact bz_op11 H hAB hA I hB em ei hm hiz hnd e
  · exact bz_op12 H hAB hA I hB em ei hm hiz hnd e
  · exact bz_op13 H hAB hA I hB em ei hm hiz hnd e
end
