section
variable {e : Nat} {g : Int32} {h lo : Nat → Int32} {d M : Nat} {al rf fX fY : Nat → Int32} {L E : Nat}
/-- a field of q, empty yet, gets what is counted for it -/
theorem ac_cpy {q j y : Nat} (I : ac_MI e [] g h lo d M al rf fX fY L E) (q1 : 1 ≤ q) (q2 : q ≤ M) (hq : al q = 1) (hj : j < 2) (hy : y ≤ M) (ay : 1 ≤ y → al y = 1) (ey : fY (3 * q + j) = 0) :
    ac_MI e [] g h lo d M al (if y = 0 then rf else upd rf y (rf y + 1)) (upd fX (3 * q + j) (nI y)) (upd fY (3 * q + j) (nI y)) L E := by
  by_cases c : y = 0
  · subst c
    have e1 : fX (3 * q + j) = 0 := (ac_fld I q1 q2 hq (by omega)).trans ey
    rw [if_pos rfl, ad_updS fX _ (nI 0) e1, ad_updS fY _ (nI 0) ey]
    exact I
  · rw [if_neg c]
    exact ac_put0 I q1 q2 hq hj (by omega) hy (ay (by omega)) ey
end
section
variable {p : ap_T} {kn po en up dn bg lv md gX gY dp sa sh oc rn : Int32} {sA sB N P K R NY PY KY me pt h lx lo va rf al fX fY pe ou es td ph : Nat → Int32}
variable {f m i M L E Q B d : Nat}
theorem bz_op3 (H : ap_OK p) (hAB : ap_AB p sA sB) (hA : ag_A p N P NY PY) (I : ag_I p sh (f + 1) M L E Q B 0 h lx lo al rf fX fY me pt va) (hB : B < 300) (em : me f = nI m) (ei : pt f = nI i) (hm : m < 4) (hiz : i < ap_Z p m)
    (hnd : sh = 1 → ∀ j, j < 6 → h (6 * f + j) ≠ 0 → ap_nd p m i j) (eo : ap_O p (16 * m + i) = 3) :
    ∃ (d' M' L' E' Q' g' : Nat) (r' oc' up' dn' : Int32) (h' lx' lo' al' rf' fX' fY' pe' td' ph' es' me' pt' va' ou' : Nat → Int32),
      ((r' = 1 ∧ oc' = -1 ∧ 1 ≤ d' ∧ g' = 0) ∨ (r' = 1 ∧ oc' = 0 ∧ d' = 0) ∨ (r' = 0 ∧ oc' = 1 ∧ d' = f + 1 ∧ g' = 0)) ∧ ag_I p sh d' M' L' E' Q' (B + 1) g' h' lx' lo' al' rf' fX' fY' me' pt' va' ∧
      (∀ post : Int32 → SX → Prop, post r' (nI Q', nI E', up', dn', nI (B + 1), nI L', nI M', nI g', nI d', sa, sh, ap_sz p, ap_L p, ap_oo p, ap_aA p, ap_aB p, ap_c p, N, P, K, R, me', pt', h', lx', va', rf', al', fX', pe', ou', es') → wpX_perform post (nI Q, nI E, up, dn, nI (B + 1), nI L, nI M, nI 0, nI (f + 1), sa, sh, ap_sz p, ap_L p, ap_oo p, ap_aA p, ap_aB p, ap_c p, N, P, K, R, me, pt, h, lx, va, rf, al, fX, pe, ou, es)) ∧
      (∀ post : SY → Prop, post (kn, nI M', nI L', up', dn', nI d', nI (B + 1), nI g', oc', sh, rn, nI Q', nI E', ap_oo p, sA, sB, ap_c p, ap_sz p, ap_L p, NY, PY, KY, va', fY', al', me', pt', h', lo', ou', es', td', ph') → wpY_carryOut post (kn, nI M, nI L, up, dn, nI (f + 1), nI (B + 1), nI 0, (-1), sh, rn, nI Q, nI E, ap_oo p, sA, sB, ap_c p, ap_sz p, ap_L p, NY, PY, KY, va, fY, al, me, pt, h, lo, ou, es, td, ph) (nI (6 * f)) (nI (16 * m + i))) := by
  obtain ⟨I1, I2, I3, I4, I5, I6, I7, I8⟩ := id I
  obtain ⟨hLc, hL24, hEL, hM, hd⟩ := I1.2.2.2.2.2.2.1
  have hL24' : L + 0 ≤ 24 := hL24
  have hz := H.2.1 m
  have hf : f < 6 := by omega
  have hi : i < 16 := by omega
  have hk : 16 * m + i < 64 := by omega
  have hI : vp_in (nI (16 * m + i)) 64 := vp_in_nI hk (by omega)
  have ek : (nI (16 * m + i)).toNatClampNeg = 16 * m + i := nI_clamp (by omega)
  have h14 := H.1 (16 * m + i)
  have hAA := h14.2.1
  have hBB := h14.2.2.1
  have vf : vp_in (nI f) 6 := vp_in_nI hf (by omega)
  have ef : (nI f).toNatClampNeg = f := nI_clamp (by omega)
  have x1e : nI (f + 1) - 1 = nI f := nI_pred f
  have x2e : me (nI f).toNatClampNeg * 16 + pt (nI f).toNatClampNeg = nI (16 * m + i) := by rw [ef, em, ei, ap_xk]
  have f6 : nI f * 6 = nI (6 * f) := by
    have : nI f * 6 = nI (f * 6) := pk_mul f 6
    rw [this, Nat.mul_comm]
  have x3e : nI f * 6 + ap_aA p (nI (16 * m + i)).toNatClampNeg = nI (6 * f + ap_A p (16 * m + i)) := by rw [ap_aAk p hk, f6, nI_add]
  have x4e : nI f * 6 + ap_aB p (nI (16 * m + i)).toNatClampNeg = nI (6 * f + ap_B p (16 * m + i)) := by rw [ap_aBk p hk, f6, nI_add]
  have x5e : ap_oo p (nI (16 * m + i)).toNatClampNeg = (3 : Int32) := by rw [ap_ook p hk, eo]; rfl
  obtain ⟨na, hna, ena⟩ := I1.2.2.2.1 (6 * f + ap_A p (16 * m + i)) (by omega)
  obtain ⟨nb, hnb, enb⟩ := I1.2.2.2.1 (6 * f + ap_B p (16 * m + i)) (by omega)
  have va36 : vp_in (nI (6 * f + ap_A p (16 * m + i))) 36 := vp_in_nI (by omega) (by omega)
  have vb36 : vp_in (nI (6 * f + ap_B p (16 * m + i))) 36 := vp_in_nI (by omega) (by omega)
  have eka : (nI (6 * f + ap_A p (16 * m + i))).toNatClampNeg = 6 * f + ap_A p (16 * m + i) := nI_clamp (by omega)
  have ekb : (nI (6 * f + ap_B p (16 * m + i))).toNatClampNeg = 6 * f + ap_B p (16 * m + i) := nI_clamp (by omega)
  have eP : P (16 * m + i) = PY (16 * m + i) := ap_Pl_u ((hA m hm).2.1 i hiz) ((hA m hm).2.2.2 i hiz)
  have eg : ∀ x : Nat, (if nI x = 0 then (0 : Int32) else 0) = 0 := fun x => by split <;> rfl
  have on : ap_on p (16 * m + i) := ⟨by omega, by omega, by omega⟩
  have scn : i + 1 < ap_Z p m → ap_sc p m i (i + 1) := fun z => ⟨z, Or.inl ⟨on, rfl⟩⟩
  have y5e : nI (6 * f) + sB (16 * m + i) = nI (6 * f + ap_B p (16 * m + i)) := by rw [(hAB (16 * m + i)).2 (by omega), nI_add]
  have nal : ¬ ap_al p (16 * m + i) := fun z => by unfold ap_al at z; omega
  have alA := ag_alive (n := na) I1 I8 em ei hm hi hnd hiz nal hAA ena hna
  have alB := ag_alive (n := nb) I1 I8 em ei hm hi hnd hiz nal hBB enb hnb
  obtain ⟨ec, lc⟩ := h14.2.2.2.1 (Or.inl eo)
  by_cases n0 : nb = 0
  · subst n0
    refine ⟨f + 1, M, L, E, Q, 0, 0, 1, up, dn, h, lx, lo, al, rf, fX, fY, pe, td, ph, es, me, pt, va, ou, Or.inr (Or.inr ⟨rfl, rfl, rfl, rfl⟩), ⟨I1, I2, I3, by omega, by omega, by omega, I7, I8⟩, fun post hp => ?_, fun post hp => ?_⟩
    · exact nm_r x1e ⟨vf, vf, nm_r x2e ⟨hI, nm_r x3e ⟨hI, nm_r x4e ⟨hI, nm_r x5e (br_f (by decide) (br_f (by decide) (br_f (by decide) (br_f (by decide) (br_f (by decide) (br_t (by decide) (⟨vb36, br_t (by rw [ekb]; exact enb) (br_t rfl ⟨rfl, hp⟩)⟩)))))))⟩⟩⟩⟩
    · exact by_fail hAB hf hk hAA hM (by omega) (by omega) ena (by omega) (by omega) (by omega) (by omega) post (Or.inr (Or.inr (Or.inl ⟨eo, by rw [y5e]; exact vb36, by rw [y5e, ekb]; exact enb⟩))) hp
  · have b1 : 1 ≤ nb := by omega
    have nn0 : ¬ nI nb = 0 := nI_ne0 b1 (by omega)
    obtain ⟨x, hx, ex⟩ := I1.2.1 nb b1 hnb (ap_C p (16 * m + i)) lc
    have exX : fX (3 * nb + ap_C p (16 * m + i)) = nI x := (ac_fld I1 b1 hnb (alB b1) lc).trans ex
    have alX : 1 ≤ x → al x = 1 := fun z => ac_al_F3 I1 z hx b1 hnb (alB b1) lc ex
    have ixX : nI nb * 3 + nI (ap_C p (16 * m + i)) = nI (3 * nb + ap_C p (16 * m + i)) := by
      have : nI nb * 3 = nI (nb * 3) := pk_mul nb 3
      rw [this, nI_add, Nat.mul_comm]
    have ixY : 3 * nI nb + nI (ap_C p (16 * m + i)) = nI (3 * nb + ap_C p (16 * m + i)) := by
      have : 3 * nI nb = nI (3 * nb) := pk_mul 3 nb
      rw [this, nI_add]
    have vix : vp_in (nI (3 * nb + ap_C p (16 * m + i))) 903 := vp_in_nI (by omega) (by omega)
    have eix : (nI (3 * nb + ap_C p (16 * m + i))).toNatClampNeg = 3 * nb + ap_C p (16 * m + i) := nI_clamp (by omega)
    -- the walks of both sides to the place where the variable gets it
    have Xw : ∀ (post : Int32 → SX → Prop) (z : Int32), ((z = 1 ∧ sh ≠ 0 ∧ P (16 * m + i) = 1) ∨ (z = 0 ∧ ¬ (sh ≠ 0 ∧ P (16 * m + i) = 1))) → wX_getField_55 post (nI (6 * f + ap_A p (16 * m + i))) (nI x) z (nI Q) (nI E) up dn (nI (B + 1)) (nI L) (nI M) (nI 0) (nI (f + 1)) sa sh (ap_sz p) (ap_L p) (ap_oo p) (ap_aA p) (ap_aB p) (ap_c p) N P K R me pt h lx va rf al fX pe ou es → wpX_getField post (nI Q, nI E, up, dn, nI (B + 1), nI L, nI M, nI 0, nI (f + 1), sa, sh, ap_sz p, ap_L p, ap_oo p, ap_aA p, ap_aB p, ap_c p, N, P, K, R, me, pt, h, lx, va, rf, al, fX, pe, ou, es) (nI (16 * m + i)) (nI (6 * f + ap_A p (16 * m + i))) (nI (6 * f + ap_B p (16 * m + i))) := by
      intro post z hz2 K
      refine ⟨vb36, ?_⟩
      rw [ekb, enb, ap_ck p hk, ec, ixX]
      refine br_f nn0 ⟨vb36, hI, vix, nm_r (e' := nI x) (by rw [eix]; exact exX) ?_⟩
      rcases hz2 with ⟨a, b, c⟩ | ⟨a, b⟩
      · subst a
        exact br_f b ⟨hI, br_t (by rw [ek]; exact c) K⟩
      · subst a
        by_cases s0 : sh = 0
        · exact br_t s0 K
        · exact br_f s0 ⟨hI, br_f (by rw [ek]; exact fun q => b ⟨s0, q⟩) K⟩
    have Yw : ∀ (post : SY → Prop) (z : Int32), ((z = 1 ∧ sh ≠ 0 ∧ P (16 * m + i) = 1) ∨ (z = 0 ∧ ¬ (sh ≠ 0 ∧ P (16 * m + i) = 1))) → ((z = 0 → wpY_more (fun r u => wpY_get post u (nI (6 * f + ap_A p (16 * m + i))) (nI x) z) (kn, nI M, nI L, up, dn, nI (f + 1), nI (B + 1), nI 0, (-1), sh, rn, nI Q, nI E, ap_oo p, sA, sB, ap_c p, ap_sz p, ap_L p, NY, PY, KY, va, fY, al, me, upd pt f (nI (i + 1)), h, lo, ou, es, td, ph) (nI x)) ∧ (¬ z = 0 → wpY_get post (kn, nI M, nI L, up, dn, nI (f + 1), nI (B + 1), nI 0, (-1), sh, rn, nI Q, nI E, ap_oo p, sA, sB, ap_c p, ap_sz p, ap_L p, NY, PY, KY, va, fY, al, me, upd pt f (nI (i + 1)), h, lo, ou, es, td, ph) (nI (6 * f + ap_A p (16 * m + i))) (nI x) z)) → wpY_carryOut post (kn, nI M, nI L, up, dn, nI (f + 1), nI (B + 1), nI 0, (-1), sh, rn, nI Q, nI E, ap_oo p, sA, sB, ap_c p, ap_sz p, ap_L p, NY, PY, KY, va, fY, al, me, pt, h, lo, ou, es, td, ph) (nI (6 * f)) (nI (16 * m + i)) := by
      intro post z hz2 K
      refine by_go hAB hf hk hAA hM (by omega) ena ei (by omega) post (fun z => by omega) (fun z => by omega) (fun z => by rw [y5e, ekb, enb]; exact ⟨vb36, nn0⟩) (fun y _ => ?_)
      rw [eo, y5e, ec]
      refine ⟨vf, nm_r (e' := upd pt f (nI (i + 1))) (by rw [ef]) (br_f (by decide) (br_f (by decide) (br_f (by decide) (br_f (by decide) (br_f (by decide) (br_f (by decide) (br_f (by decide) (br_f (by decide) (br_f (by decide) (br_f (by decide) (br_t (by decide) ?_)))))))))))⟩
      have body : wY_change_103 post (nI (6 * f + ap_A p (16 * m + i))) (nI (6 * f + ap_B p (16 * m + i))) (nI (ap_C p (16 * m + i))) z kn (nI M) (nI L) up dn (nI (f + 1)) (nI (B + 1)) (nI 0) (-1) sh rn (nI Q) (nI E) (ap_oo p) sA sB (ap_c p) (ap_sz p) (ap_L p) NY PY KY va fY al me (upd pt f (nI (i + 1))) h lo ou es td ph := by
        refine ⟨vb36, ?_⟩
        rw [ekb, enb, ixY]
        refine ⟨vix, nm_r (e' := nI x) (by rw [eix]; exact ex) ?_⟩
        by_cases z0 : z = 0
        · refine br_t z0 ?_
          exact K.1 z0
        · exact br_f z0 (K.2 z0)
      rcases hz2 with ⟨a, b, c⟩ | ⟨a, b⟩
      · subst a
        exact br_f b ⟨hI, br_t (by rw [ek, ← eP]; exact c) body⟩
      · subst a
        by_cases s0 : sh = 0
        · exact br_t s0 body
        · exact br_f s0 ⟨hI, br_f (by rw [ek, ← eP]; exact fun q => b ⟨s0, q⟩) body⟩
    by_cases lent : sh ≠ 0 ∧ P (16 * m + i) = 1
    · obtain ⟨al', rf', fX', fY', pe', td', ph', es', L', E', dn', K1, K2, K3, K4⟩ := bz_fill (p := p) (po := nI Q) (up := up) (bg := nI (B + 1)) (gX := nI 0) (sa := sa) (sh := sh) (N := N) (P := P) (K := K) (R := R) (me := me) (h := h) (lx := lx) (va := va) (ou := ou) (kn := kn) (gY := nI 0) (oc := (-1)) (rn := rn) (lo := lo) (sA := sA) (sB := sB) (NY := NY) (PY := PY) (KY := KY) (dn := dn) (pe := pe) (td := td) (ph := ph) (es := es) (v := 6 * f + ap_A p (16 * m + i)) (x := x) (b := 1) (by rw [if_neg (by decide)]; exact I1) (by omega) hx I2 (Or.inr rfl)
      refine ⟨f + 1, M, L', E', Q, 0, 1, -1, up, dn', _, _, _, al', rf', fX', fY', pe', td', ph', es', me, upd pt f (nI (i + 1)), va, ou, Or.inl ⟨rfl, rfl, by omega, rfl⟩,
        ⟨K1, K2, I3, by omega, by omega, by omega, by omega, ag_F_top I8 em ei hm hi (ag_ne I2) hnd hiz (by omega) scn _ _ (fun w hw => by rw [pk_un (by omega), pk_un (by omega)]; exact ⟨rfl, rfl⟩) (fun j hj => ?_)⟩, fun post hp => ?_, fun post hp => ?_⟩
      · by_cases c : j = ap_A p (16 * m + i)
        · subst c
          exact Or.inr (Or.inr ⟨lent.1, fun z => ap_LR_0 ((ap_Pl_1 ((hA m hm).2.1 i hiz)).mp lent.2) (scn z)⟩)
        · rw [pk_un (by omega), pk_un (by omega)]; exact Or.inl ⟨rfl, rfl⟩
      · exact nm_r x1e ⟨vf, vf, nm_r x2e ⟨hI, nm_r x3e ⟨hI, nm_r x4e ⟨hI, nm_r x5e (br_f (by decide) (br_f (by decide) (br_f (by decide) (br_f (by decide) (br_f (by decide) (br_t (by decide) (Xw _ 1 (Or.inl ⟨rfl, lent⟩) (br_f (by decide) (K3 pt _ (br_f (by decide) ⟨vf, vf, nm_r (e' := upd pt f (nI (i + 1))) (by rw [ef, ei, nI_1]) ⟨rfl, hp⟩⟩))))))))))⟩⟩⟩⟩
      · exact Yw post 1 (Or.inl ⟨rfl, lent⟩) ⟨fun z => absurd z (by decide), fun _ => K4 _ post hp⟩
    · have Iu : ac_MI x [] (nI 0) h lo (f + 1) M al (if x = 0 then rf else upd rf x (rf x + 1)) fX fY L E := by
        by_cases c3 : x = 0
        · subst c3; rw [if_pos rfl]; exact I1
        · rw [if_neg c3]; exact ac_up I1 (by omega) hx (alX (by omega))
      obtain ⟨al', rf', fX', fY', pe', td', ph', es', L', E', dn', K1, K2, K3, K4⟩ := bz_fill (p := p) (po := nI Q) (up := if x = 0 then up else up + 1) (bg := nI (B + 1)) (gX := nI 0) (sa := sa) (sh := sh) (N := N) (P := P) (K := K) (R := R) (me := me) (h := h) (lx := lx) (va := va) (ou := ou) (kn := kn) (gY := nI 0) (oc := (-1)) (rn := rn) (lo := lo) (sA := sA) (sB := sB) (NY := NY) (PY := PY) (KY := KY) (dn := dn) (pe := pe) (td := td) (ph := ph) (es := es) (v := 6 * f + ap_A p (16 * m + i)) (x := x) (b := 0) (by rw [if_pos rfl]; exact Iu) (by omega) hx I2 (Or.inl rfl)
      rw [eg] at K1 K2 K4
      refine ⟨f + 1, M, L', E', Q, 0, 1, -1, if x = 0 then up else up + 1, dn', _, _, _, al', rf', fX', fY', pe', td', ph', es', me, upd pt f (nI (i + 1)), va, ou, Or.inl ⟨rfl, rfl, by omega, rfl⟩,
        ⟨K1, K2, I3, by omega, by omega, by omega, by omega, ag_F_set (b := ap_A p (16 * m + i)) I8 em ei hm hi (ag_ne I2) hnd hiz (by omega) scn _ (fun _ _ => rfl) (Or.inl rfl)⟩, fun post hp => ?_, fun post hp => ?_⟩
      · refine nm_r x1e ⟨vf, vf, nm_r x2e ⟨hI, nm_r x3e ⟨hI, nm_r x4e ⟨hI, nm_r x5e (br_f (by decide) (br_f (by decide) (br_f (by decide) (br_f (by decide) (br_f (by decide) (br_t (by decide) (Xw _ 0 (Or.inr ⟨rfl, lent⟩) (br_t rfl (bx_up (by omega) _ (fun c => ?_) (fun c => ?_))))))))))⟩⟩⟩⟩
        · rw [if_pos c, if_pos c] at K3
          rw [if_pos c] at hp
          exact K3 pt _ (br_f (by decide) ⟨vf, vf, nm_r (e' := upd pt f (nI (i + 1))) (by rw [ef, ei, nI_1]) ⟨rfl, hp⟩⟩)
        · rw [if_neg (by omega), if_neg (by omega)] at K3
          rw [if_neg (by omega)] at hp
          exact K3 pt _ (br_f (by decide) ⟨vf, vf, nm_r (e' := upd pt f (nI (i + 1))) (by rw [ef, ei, nI_1]) ⟨rfl, hp⟩⟩)
      · refine Yw post 0 (Or.inr ⟨rfl, lent⟩) ⟨fun _ => by_more (by omega) _ (fun c => ?_) (fun c => ?_), fun z => absurd rfl z⟩
        · rw [if_pos c] at K4 hp
          exact K4 _ post hp
        · rw [if_neg (by omega)] at K4 hp
          exact K4 _ post hp
theorem bz_op4 (H : ap_OK p) (hAB : ap_AB p sA sB) (hA : ag_A p N P NY PY) (I : ag_I p sh (f + 1) M L E Q B 0 h lx lo al rf fX fY me pt va) (hB : B < 300) (em : me f = nI m) (ei : pt f = nI i) (hm : m < 4) (hiz : i < ap_Z p m)
    (hnd : sh = 1 → ∀ j, j < 6 → h (6 * f + j) ≠ 0 → ap_nd p m i j) (eo : ap_O p (16 * m + i) = 4) :
    ∃ (d' M' L' E' Q' g' : Nat) (r' oc' up' dn' : Int32) (h' lx' lo' al' rf' fX' fY' pe' td' ph' es' me' pt' va' ou' : Nat → Int32),
      ((r' = 1 ∧ oc' = -1 ∧ 1 ≤ d' ∧ g' = 0) ∨ (r' = 1 ∧ oc' = 0 ∧ d' = 0) ∨ (r' = 0 ∧ oc' = 1 ∧ d' = f + 1 ∧ g' = 0)) ∧ ag_I p sh d' M' L' E' Q' (B + 1) g' h' lx' lo' al' rf' fX' fY' me' pt' va' ∧
      (∀ post : Int32 → SX → Prop, post r' (nI Q', nI E', up', dn', nI (B + 1), nI L', nI M', nI g', nI d', sa, sh, ap_sz p, ap_L p, ap_oo p, ap_aA p, ap_aB p, ap_c p, N, P, K, R, me', pt', h', lx', va', rf', al', fX', pe', ou', es') → wpX_perform post (nI Q, nI E, up, dn, nI (B + 1), nI L, nI M, nI 0, nI (f + 1), sa, sh, ap_sz p, ap_L p, ap_oo p, ap_aA p, ap_aB p, ap_c p, N, P, K, R, me, pt, h, lx, va, rf, al, fX, pe, ou, es)) ∧
      (∀ post : SY → Prop, post (kn, nI M', nI L', up', dn', nI d', nI (B + 1), nI g', oc', sh, rn, nI Q', nI E', ap_oo p, sA, sB, ap_c p, ap_sz p, ap_L p, NY, PY, KY, va', fY', al', me', pt', h', lo', ou', es', td', ph') → wpY_carryOut post (kn, nI M, nI L, up, dn, nI (f + 1), nI (B + 1), nI 0, (-1), sh, rn, nI Q, nI E, ap_oo p, sA, sB, ap_c p, ap_sz p, ap_L p, NY, PY, KY, va, fY, al, me, pt, h, lo, ou, es, td, ph) (nI (6 * f)) (nI (16 * m + i))) := by
  obtain ⟨I1, I2, I3, I4, I5, I6, I7, I8⟩ := id I
  obtain ⟨hLc, hL24, hEL, hM, hd⟩ := I1.2.2.2.2.2.2.1
  have hL24' : L + 0 ≤ 24 := hL24
  have hz := H.2.1 m
  have hf : f < 6 := by omega
  have hi : i < 16 := by omega
  have hk : 16 * m + i < 64 := by omega
  have hI : vp_in (nI (16 * m + i)) 64 := vp_in_nI hk (by omega)
  have ek : (nI (16 * m + i)).toNatClampNeg = 16 * m + i := nI_clamp (by omega)
  have h14 := H.1 (16 * m + i)
  have hAA := h14.2.1
  have hBB := h14.2.2.1
  have vf : vp_in (nI f) 6 := vp_in_nI hf (by omega)
  have ef : (nI f).toNatClampNeg = f := nI_clamp (by omega)
  have x1e : nI (f + 1) - 1 = nI f := nI_pred f
  have x2e : me (nI f).toNatClampNeg * 16 + pt (nI f).toNatClampNeg = nI (16 * m + i) := by rw [ef, em, ei, ap_xk]
  have f6 : nI f * 6 = nI (6 * f) := by
    have : nI f * 6 = nI (f * 6) := pk_mul f 6
    rw [this, Nat.mul_comm]
  have x3e : nI f * 6 + ap_aA p (nI (16 * m + i)).toNatClampNeg = nI (6 * f + ap_A p (16 * m + i)) := by rw [ap_aAk p hk, f6, nI_add]
  have x4e : nI f * 6 + ap_aB p (nI (16 * m + i)).toNatClampNeg = nI (6 * f + ap_B p (16 * m + i)) := by rw [ap_aBk p hk, f6, nI_add]
  have x5e : ap_oo p (nI (16 * m + i)).toNatClampNeg = (4 : Int32) := by rw [ap_ook p hk, eo]; rfl
  obtain ⟨na, hna, ena⟩ := I1.2.2.2.1 (6 * f + ap_A p (16 * m + i)) (by omega)
  obtain ⟨nb, hnb, enb⟩ := I1.2.2.2.1 (6 * f + ap_B p (16 * m + i)) (by omega)
  have va36 : vp_in (nI (6 * f + ap_A p (16 * m + i))) 36 := vp_in_nI (by omega) (by omega)
  have vb36 : vp_in (nI (6 * f + ap_B p (16 * m + i))) 36 := vp_in_nI (by omega) (by omega)
  have eka : (nI (6 * f + ap_A p (16 * m + i))).toNatClampNeg = 6 * f + ap_A p (16 * m + i) := nI_clamp (by omega)
  have ekb : (nI (6 * f + ap_B p (16 * m + i))).toNatClampNeg = 6 * f + ap_B p (16 * m + i) := nI_clamp (by omega)
  have eP : P (16 * m + i) = PY (16 * m + i) := ap_Pl_u ((hA m hm).2.1 i hiz) ((hA m hm).2.2.2 i hiz)
  have eg : ∀ x : Nat, (if nI x = 0 then (0 : Int32) else 0) = 0 := fun x => by split <;> rfl
  have on : ap_on p (16 * m + i) := ⟨by omega, by omega, by omega⟩
  have scn : i + 1 < ap_Z p m → ap_sc p m i (i + 1) := fun z => ⟨z, Or.inl ⟨on, rfl⟩⟩
  have y5e : nI (6 * f) + sB (16 * m + i) = nI (6 * f + ap_B p (16 * m + i)) := by rw [(hAB (16 * m + i)).2 (by omega), nI_add]
  have nal : ¬ ap_al p (16 * m + i) := fun z => by unfold ap_al at z; omega
  have alA := ag_alive (n := na) I1 I8 em ei hm hi hnd hiz nal hAA ena hna
  have alB := ag_alive (n := nb) I1 I8 em ei hm hi hnd hiz nal hBB enb hnb
  obtain ⟨ec, lc⟩ := h14.2.2.2.1 (Or.inr eo)
  by_cases n0 : na = 0
  · subst n0
    refine ⟨f + 1, M, L, E, Q, 0, 0, 1, up, dn, h, lx, lo, al, rf, fX, fY, pe, td, ph, es, me, pt, va, ou, Or.inr (Or.inr ⟨rfl, rfl, rfl, rfl⟩), ⟨I1, I2, I3, by omega, by omega, by omega, I7, I8⟩, fun post hp => ?_, fun post hp => ?_⟩
    · exact nm_r x1e ⟨vf, vf, nm_r x2e ⟨hI, nm_r x3e ⟨hI, nm_r x4e ⟨hI, nm_r x5e (br_f (by decide) (br_f (by decide) (br_f (by decide) (br_f (by decide) (br_f (by decide) (br_f (by decide) (br_t (by decide) (⟨va36, br_t (by rw [eka]; exact ena) (br_t rfl ⟨rfl, hp⟩)⟩))))))))⟩⟩⟩⟩
    · exact by_fail hAB hf hk hAA hM (by omega) (by omega) ena (by omega) (by omega) (by omega) (by omega) post (Or.inr (Or.inl ⟨Or.inl eo, rfl⟩)) hp
  · have a1 : 1 ≤ na := by omega
    have nn0 : ¬ nI na = 0 := nI_ne0 a1 (by omega)
    obtain ⟨y, hy, ey⟩ := I1.2.1 na a1 hna (ap_C p (16 * m + i)) lc
    have eyX : fX (3 * na + ap_C p (16 * m + i)) = nI y := (ac_fld I1 a1 hna (alA a1) lc).trans ey
    have ixX : nI na * 3 + nI (ap_C p (16 * m + i)) = nI (3 * na + ap_C p (16 * m + i)) := by
      have : nI na * 3 = nI (na * 3) := pk_mul na 3
      rw [this, nI_add, Nat.mul_comm]
    have ixY : 3 * nI na + nI (ap_C p (16 * m + i)) = nI (3 * na + ap_C p (16 * m + i)) := by
      have : 3 * nI na = nI (3 * na) := pk_mul 3 na
      rw [this, nI_add]
    have vix : vp_in (nI (3 * na + ap_C p (16 * m + i))) 903 := vp_in_nI (by omega) (by omega)
    have eix : (nI (3 * na + ap_C p (16 * m + i))).toNatClampNeg = 3 * na + ap_C p (16 * m + i) := nI_clamp (by omega)
    have Yw : ∀ (post : SY → Prop), ((nI (ap_C p (16 * m + i)) = 2 → wY_change_199 post (nI (ap_C p (16 * m + i))) (nI y) (nI nb) (nI (3 * na + ap_C p (16 * m + i))) kn (nI M) (nI L) up dn (nI (f + 1)) (nI (B + 1)) (nI 0) (-1) sh rn (nI Q) (nI E) (ap_oo p) sA sB (ap_c p) (ap_sz p) (ap_L p) NY PY KY va fY al me (upd pt f (nI (i + 1))) h lo ou es td ph) ∧ (¬ nI (ap_C p (16 * m + i)) = 2 → wpY_reference (fun r u => match u with | (f_known, f_made, f_living, f_counted, f_less, f_depth, f_begun, f_given, f_outcome, f_isShort, f_ran, f_put, f_ended, a_ops, a_as, a_bs, a_cs, a_size, a_lent, a_need, a_plans, a_keep, a_value, a_fields, a_alive, a_method, a_pc, a_variable, a_loan, a_outs, a_ends, a_todo, a_phase) => wY_change_199 post (nI (ap_C p (16 * m + i))) (nI y) r (nI (3 * na + ap_C p (16 * m + i))) f_known f_made f_living f_counted f_less f_depth f_begun f_given f_outcome f_isShort f_ran f_put f_ended a_ops a_as a_bs a_cs a_size a_lent a_need a_plans a_keep a_value a_fields a_alive a_method a_pc a_variable a_loan a_outs a_ends a_todo a_phase) (kn, nI M, nI L, up, dn, nI (f + 1), nI (B + 1), nI 0, (-1), sh, rn, nI Q, nI E, ap_oo p, sA, sB, ap_c p, ap_sz p, ap_L p, NY, PY, KY, va, fY, al, me, upd pt f (nI (i + 1)), h, lo, ou, es, td, ph) (nI (16 * m + i)) (nI (6 * f + ap_B p (16 * m + i))))) → wpY_carryOut post (kn, nI M, nI L, up, dn, nI (f + 1), nI (B + 1), nI 0, (-1), sh, rn, nI Q, nI E, ap_oo p, sA, sB, ap_c p, ap_sz p, ap_L p, NY, PY, KY, va, fY, al, me, pt, h, lo, ou, es, td, ph) (nI (6 * f)) (nI (16 * m + i)) := by
      intro post K
      refine by_go hAB hf hk hAA hM (by omega) ena ei (by omega) post (fun z => by omega) (fun z => nn0) (fun z => by omega) (fun y _ => ?_)
      rw [eo, y5e, ec]
      refine ⟨vf, nm_r (e' := upd pt f (nI (i + 1))) (by rw [ef]) (br_f (by decide) (br_f (by decide) (br_f (by decide) (br_f (by decide) (br_f (by decide) (br_f (by decide) (br_t (by decide) ⟨va36, nm_r (e' := nI (3 * na + ap_C p (16 * m + i))) (by rw [eka, ena, ixY]) ⟨vix, nm_r (by rw [eix]; exact ey) (br_c (fun c => ⟨vb36, ?_⟩) (fun c => K.2 c))⟩⟩)))))))⟩
      rw [ekb, enb]
      exact K.1 c
    by_cases c2 : ap_C p (16 * m + i) = 2
    · rw [c2] at ixX ixY vix eix
      have Ip := ac_put2 (x := nb) I1 a1 hna (alA a1) hnb alB
      refine ⟨f + 1, M, L, E, Q, 0, 1, -1, up, dn, h, lx, lo, al, rf, _, _, pe, td, ph, es, me, upd pt f (nI (i + 1)), va, ou, Or.inl ⟨rfl, rfl, by omega, rfl⟩,
        ⟨Ip, I2, I3, by omega, by omega, by omega, by omega, ag_F_pc I8 em ei hm hi (ag_ne I2) hnd hiz (by omega) scn⟩, fun post hp => ?_, fun post hp => Yw post ⟨fun _ => ?_, fun z => absurd (by rw [c2]; rfl) z⟩⟩
      · refine nm_r x1e ⟨vf, vf, nm_r x2e ⟨hI, nm_r x3e ⟨hI, nm_r x4e ⟨hI, nm_r x5e (br_f (by decide) (br_f (by decide) (br_f (by decide) (br_f (by decide) (br_f (by decide) (br_f (by decide) (br_t (by decide) (⟨va36, ?_⟩))))))))⟩⟩⟩⟩
        rw [eka, ena, ap_ck p hk, ec, c2]
        refine br_f nn0 ⟨va36, hI, nm_r ixX ⟨hI, br_t rfl ⟨vb36, vix, nm_r (e' := upd fX (3 * na + 2) (nI nb)) (by rw [eix, ekb, enb]) (br_f (by decide) ⟨vf, vf, nm_r (e' := upd pt f (nI (i + 1))) (by rw [ef, ei, nI_1]) ⟨rfl, hp⟩⟩)⟩⟩⟩
      · rw [c2]
        exact ⟨vix, nm_r (e' := upd fY (3 * na + 2) (nI nb)) (by rw [eix]) (br_t (by decide) hp)⟩
    · have c01 : ap_C p (16 * m + i) < 2 := by omega
      have nc2 : ¬ nI (ap_C p (16 * m + i)) = 2 := fun z => c2 ((nI_eq (b := 2) (by omega) (by decide)).mp z)
      have mbe : ∃ mb : Int32, ((P (16 * m + i) = 2 ∧ mb = 1) ∨ (¬ P (16 * m + i) = 2 ∧ mb = 0)) := by
        by_cases c : P (16 * m + i) = 2
        · exact ⟨1, Or.inl ⟨c, rfl⟩⟩
        · exact ⟨0, Or.inr ⟨c, rfl⟩⟩
      obtain ⟨mb, hmb⟩ := mbe
      obtain ⟨h1, rf1, up1, T1, T2, T3, T4, T5⟩ := bz_take (p := p) (po := nI Q) (up := up) (bg := nI (B + 1)) (gX := nI 0) (sa := sa) (sh := sh) (N := N) (P := P) (K := K) (R := R) (me := me) (h := h) (lx := lx) (va := va) (ou := ou) (gY := nI 0) (lo := lo) (dn := dn) (pe := pe) (es := es) (pt := pt) (v := 6 * f + ap_B p (16 * m + i)) (n := nb) mb I1 (by omega) enb hnb alB I2
      have Ip := ac_put T1 a1 hna (alA a1) c01 hnb ey hy
      obtain ⟨al', rf', fX', fY', pe', td', ph', es', L', E', dn', K1, K3, K4⟩ := bz_drop (p := p) (po := nI Q) (up := up1) (bg := nI (B + 1)) (gX := nI 0) (sa := sa) (sh := sh) (N := N) (P := P) (K := K) (R := R) (me := me) (h := h1) (lx := lx) (va := va) (ou := ou) (kn := kn) (gY := nI 0) (oc := (-1)) (rn := rn) (lo := lo) (sA := sA) (sB := sB) (NY := NY) (PY := PY) (KY := KY) (dn := dn) (pe := pe) (td := td) (ph := ph) (es := es) Ip
      refine ⟨f + 1, M, L', E', Q, 0, 1, -1, up1, dn', _, _, _, al', rf', fX', fY', pe', td', ph', es', me, upd pt f (nI (i + 1)), va, ou, Or.inl ⟨rfl, rfl, by omega, rfl⟩,
        ⟨K1, T2, I3, by omega, by omega, by omega, by omega, ag_F_top I8 em ei hm hi (ag_ne I2) hnd hiz (by omega) scn _ _ (fun w hw => ⟨T3 w (by omega), rfl⟩) (fun j hj => ?_)⟩, fun post hp => ?_, fun post hp => Yw post ⟨fun z => absurd z nc2, fun _ => ?_⟩⟩
      · by_cases c : j = ap_B p (16 * m + i)
        · subst c
          rcases T4 with ⟨_, _, q, _⟩ | ⟨_, q, _⟩
          · exact Or.inr (Or.inl q)
          · exact Or.inl ⟨by rw [q], rfl⟩
        · exact Or.inl ⟨T3 _ (by omega), rfl⟩
      · refine nm_r x1e ⟨vf, vf, nm_r x2e ⟨hI, nm_r x3e ⟨hI, nm_r x4e ⟨hI, nm_r x5e (br_f (by decide) (br_f (by decide) (br_f (by decide) (br_f (by decide) (br_f (by decide) (br_f (by decide) (br_t (by decide) (⟨va36, ?_⟩))))))))⟩⟩⟩⟩
        rw [eka, ena, ap_ck p hk, ec]
        refine br_f nn0 ⟨va36, hI, nm_r ixX ⟨hI, br_f nc2 ⟨vix, nm_r (e' := nI y) (by rw [eix]; exact eyX) ⟨hI, ?_⟩⟩⟩⟩
        rw [ek]
        rcases hmb with ⟨c, e⟩ | ⟨c, e⟩
        · subst e; exact br_t c (T5 _ ⟨vix, nm_r (e' := upd fX (3 * na + ap_C p (16 * m + i)) (nI nb)) (by rw [eix]) (K3 pt _ (br_f (by decide) ⟨vf, vf, nm_r (e' := upd pt f (nI (i + 1))) (by rw [ef, ei, nI_1]) ⟨rfl, hp⟩⟩))⟩)
        · subst e; exact br_f c (T5 _ ⟨vix, nm_r (e' := upd fX (3 * na + ap_C p (16 * m + i)) (nI nb)) (by rw [eix]) (K3 pt _ (br_f (by decide) ⟨vf, vf, nm_r (e' := upd pt f (nI (i + 1))) (by rw [ef, ei, nI_1]) ⟨rfl, hp⟩⟩))⟩)
      · refine by_ref (by omega) hk (by omega) enb (h' := h1) (up' := up1) ?_ _ ⟨vix, nm_r (e' := upd fY (3 * na + ap_C p (16 * m + i)) (nI nb)) (by rw [eix]) (br_f (by intro z; have := (nI_leI (a := 2) (by decide) (by omega)).mp z; omega) (K4 _ _ hp))⟩
        rw [← eP]
        rcases T4 with ⟨q1, q2, q3⟩ | ⟨q1, q2⟩
        · exact Or.inl ⟨q1, by rcases hmb with q | q; exact q.1; exact absurd q.2 q2, q3⟩
        · exact Or.inr ⟨fun z => q1 ⟨z.1, by rcases hmb with q | q; rw [q.2]; decide; exact absurd z.2.1 q.1, z.2.2⟩, q2⟩
end
