section
variable {p : ap_T} {kn po en up dn bg lv md gX gY dp sa sh oc rn : Int32} {sA sB N P K R NY PY KY me pt h lx lo va rf al fX fY pe ou es td ph : Nat → Int32}
variable {f m i M L E Q B d : Nat}
/-! the fields of what OWN makes: s: the object that is shared, x: the new one -/
theorem bx_own1 {a s x j y : Nat} (post : Int32 → SX → Prop) {n : Nat} (hj : j < 2) (hs : s ≤ 300) (hx : x ≤ 300) (hy : y ≤ 300) (ey : fX (3 * s + j) = nI y)
    (KK : wX_ownObject_46 post (nI a) (nI s) (nI x) n (nI (j + 1)) po en (if y = 0 then up else up + 1) dn bg lv md gX dp sa sh (ap_sz p) (ap_L p) (ap_oo p) (ap_aA p) (ap_aB p) (ap_c p) N P K R me pt h lx va (if y = 0 then rf else upd rf y (rf y + 1)) al (upd fX (3 * x + j) (nI y)) pe ou es) :
    wX_ownObject_46 post (nI a) (nI s) (nI x) (n + 1) (nI j) po en up dn bg lv md gX dp sa sh (ap_sz p) (ap_L p) (ap_oo p) (ap_aA p) (ap_aB p) (ap_c p) N P K R me pt h lx va rf al fX pe ou es := by
  have i1 : nI s * 3 + nI j = nI (3 * s + j) := by
    have : nI s * 3 = nI (s * 3) := pk_mul s 3
    rw [this, nI_add, Nat.mul_comm]
  have i2 : nI x * 3 + nI j = nI (3 * x + j) := by
    have : nI x * 3 = nI (x * 3) := pk_mul x 3
    rw [this, nI_add, Nat.mul_comm]
  have n2 : ¬ nI j = 2 := fun z => by have := (nI_eq (b := 2) (by omega) (by decide)).mp z; omega
  refine br_f (nI_ge (b := 3) (by omega) (by decide)) ⟨by rw [i1]; exact vp_in_nI (by omega) (by omega), nm_r (e' := nI y) (by rw [i1, nI_clamp (by omega)]; exact ey) ⟨by rw [i2]; exact vp_in_nI (by omega) (by omega), nm_r (e' := upd fX (3 * x + j) (nI y)) (by rw [i2, nI_clamp (by omega)]) (br_f n2 (bx_up hy _ (fun c => nm_r (nI_1 j) ?_) (fun c => nm_r (nI_1 j) ?_)))⟩⟩
  · rw [if_pos c, if_pos c] at KK; exact KK
  · rw [if_neg (by omega), if_neg (by omega)] at KK; exact KK
theorem bx_own2 {a s x y : Nat} (post : Int32 → SX → Prop) {n : Nat} (hs : s ≤ 300) (hx : x ≤ 300) (ey : fX (3 * s + 2) = nI y)
    (KK : wpX_fill (fun u => post 1 u) (po, en, up, dn, bg, lv, md, gX, dp, sa, sh, ap_sz p, ap_L p, ap_oo p, ap_aA p, ap_aB p, ap_c p, N, P, K, R, me, pt, h, lx, va, rf, al, upd fX (3 * x + 2) (nI y), pe, ou, es) (nI a) (nI x) 0) :
    wX_ownObject_46 post (nI a) (nI s) (nI x) (n + 1 + 1) (nI 2) po en up dn bg lv md gX dp sa sh (ap_sz p) (ap_L p) (ap_oo p) (ap_aA p) (ap_aB p) (ap_c p) N P K R me pt h lx va rf al fX pe ou es := by
  have i1 : nI s * 3 + nI 2 = nI (3 * s + 2) := by
    have : nI s * 3 = nI (s * 3) := pk_mul s 3
    rw [this, nI_add, Nat.mul_comm]
  have i2 : nI x * 3 + nI 2 = nI (3 * x + 2) := by
    have : nI x * 3 = nI (x * 3) := pk_mul x 3
    rw [this, nI_add, Nat.mul_comm]
  refine br_f (by decide) ⟨by rw [i1]; exact vp_in_nI (by omega) (by omega), nm_r (e' := nI y) (by rw [i1, nI_clamp (by omega)]; exact ey) ⟨by rw [i2]; exact vp_in_nI (by omega) (by omega), nm_r (e' := upd fX (3 * x + 2) (nI y)) (by rw [i2, nI_clamp (by omega)]) (br_t rfl (nm_r (nI_1 2) (br_t (by decide) KK)))⟩⟩
theorem by_own1 {a s x j y : Nat} (post : SY → Prop) {n : Nat} (hj : j < 2) (hs : s ≤ 300) (hx : x ≤ 300) (hy : y ≤ 300) (ey : fY (3 * s + j) = nI y)
    (K : wY_own_14 post (nI a) (nI s) (nI x) n (nI (j + 1)) kn md lv (if y = 0 then up else up + 1) dn dp bg gY oc sh rn po en (ap_oo p) sA sB (ap_c p) (ap_sz p) (ap_L p) NY PY KY va (upd fY (3 * x + j) (nI y)) al me pt h lo ou es td ph) :
    wY_own_14 post (nI a) (nI s) (nI x) (n + 1) (nI j) kn md lv up dn dp bg gY oc sh rn po en (ap_oo p) sA sB (ap_c p) (ap_sz p) (ap_L p) NY PY KY va fY al me pt h lo ou es td ph := by
  have i1 : 3 * nI s + nI j = nI (3 * s + j) := by
    have : 3 * nI s = nI (3 * s) := pk_mul 3 s
    rw [this, nI_add]
  have i2 : 3 * nI x + nI j = nI (3 * x + j) := by
    have : 3 * nI x = nI (3 * x) := pk_mul 3 x
    rw [this, nI_add]
  have n2 : ¬ nI j = 2 := fun z => by have := (nI_eq (b := 2) (by omega) (by decide)).mp z; omega
  refine br_f (nI_ge (b := 3) (by omega) (by decide)) (br_f n2 ⟨by rw [i1]; exact vp_in_nI (by omega) (by omega), ?_⟩)
  rw [i1, nI_clamp (by omega), ey]
  refine by_more hy _ (fun c => ⟨by rw [i2]; exact vp_in_nI (by omega) (by omega), nm_r (e' := upd fY (3 * x + j) (nI y)) (by rw [i2, nI_clamp (by omega)]) (nm_r (nI_1 j) ?_)⟩) (fun c => ⟨by rw [i2]; exact vp_in_nI (by omega) (by omega), nm_r (e' := upd fY (3 * x + j) (nI y)) (by rw [i2, nI_clamp (by omega)]) (nm_r (nI_1 j) ?_)⟩)
  · rw [if_pos c] at K; exact K
  · rw [if_neg (by omega)] at K; exact K
theorem by_own2 {a s x y : Nat} (post : SY → Prop) {n : Nat} (hs : s ≤ 300) (hx : x ≤ 300) (ey : fY (3 * s + 2) = nI y)
    (K : wpY_get (fun u => post u) (kn, md, lv, up, dn, dp, bg, gY, oc, sh, rn, po, en, ap_oo p, sA, sB, ap_c p, ap_sz p, ap_L p, NY, PY, KY, va, upd fY (3 * x + 2) (nI y), al, me, pt, h, lo, ou, es, td, ph) (nI a) (nI x) 0) :
    wY_own_14 post (nI a) (nI s) (nI x) (n + 1 + 1) (nI 2) kn md lv up dn dp bg gY oc sh rn po en (ap_oo p) sA sB (ap_c p) (ap_sz p) (ap_L p) NY PY KY va fY al me pt h lo ou es td ph := by
  have i1 : 3 * nI s + 2 = nI (3 * s + 2) := by
    have : 3 * nI s = nI (3 * s) := pk_mul 3 s
    rw [this]; exact nI_add _ 2
  have i2 : 3 * nI x + nI 2 = nI (3 * x + 2) := by
    have : 3 * nI x = nI (3 * x) := pk_mul 3 x
    rw [this, nI_add]
  refine br_f (by decide) (br_t rfl ⟨by rw [i1]; exact vp_in_nI (by omega) (by omega), by rw [i2]; exact vp_in_nI (by omega) (by omega), nm_r (e' := upd fY (3 * x + 2) (nI y)) (by rw [i2, nI_clamp (by omega), i1, nI_clamp (by omega), ey]) (nm_r (nI_1 2) (br_t (by decide) K))⟩)
theorem bz_op8 (H : ap_OK p) (hAB : ap_AB p sA sB) (hA : ag_A p N P NY PY) (I : ag_I p sh (f + 1) M L E Q B 0 h lx lo al rf fX fY me pt va) (hB : B < 300) (em : me f = nI m) (ei : pt f = nI i) (hm : m < 4) (hiz : i < ap_Z p m)
    (hnd : sh = 1 → ∀ j, j < 6 → h (6 * f + j) ≠ 0 → ap_nd p m i j) (eo : ap_O p (16 * m + i) = 8) :
    ∃ (d' M' L' E' Q' g' : Nat) (r' oc' up' dn' : Int32) (h' lx' lo' al' rf' fX' fY' pe' td' ph' es' me' pt' va' ou' : Nat → Int32),
      ((r' = 1 ∧ oc' = -1 ∧ 1 ≤ d' ∧ g' = 0) ∨ (r' = 1 ∧ oc' = 0 ∧ d' = 0) ∨ (r' = 0 ∧ oc' = 1 ∧ d' = f + 1 ∧ g' = 0)) ∧ ag_I p sh d' M' L' E' Q' (B + 1) g' h' lx' lo' al' rf' fX' fY' me' pt' va' ∧
      (∀ post : Int32 → SX → Prop, post r' (nI Q', nI E', up', dn', nI (B + 1), nI L', nI M', nI g', nI d', sa, sh, ap_sz p, ap_L p, ap_oo p, ap_aA p, ap_aB p, ap_c p, N, P, K, R, me', pt', h', lx', va', rf', al', fX', pe', ou', es') → wpX_perform post (nI Q, nI E, up, dn, nI (B + 1), nI L, nI M, nI 0, nI (f + 1), sa, sh, ap_sz p, ap_L p, ap_oo p, ap_aA p, ap_aB p, ap_c p, N, P, K, R, me, pt, h, lx, va, rf, al, fX, pe, ou, es)) ∧
      (∀ post : SY → Prop, post (kn, nI M', nI L', up', dn', nI d', nI (B + 1), nI g', oc', sh, rn, nI Q', nI E', ap_oo p, sA, sB, ap_c p, ap_sz p, ap_L p, NY, PY, KY, va', fY', al', me', pt', h', lo', ou', es', td', ph') → wpY_carryOut post (kn, nI M, nI L, up, dn, nI (f + 1), nI (B + 1), nI 0, (-1), sh, rn, nI Q, nI E, ap_oo p, sA, sB, ap_c p, ap_sz p, ap_L p, NY, PY, KY, va, fY, al, me, pt, h, lo, ou, es, td, ph) (nI (6 * f)) (nI (16 * m + i))) := by
  obtain ⟨I1, I2, I3, I4, I5, I6, I7, I8⟩ := id I
  obtain ⟨hLc, hL24, hEL, hM, hd⟩ := I1.2.2.2.2.2.2.1
  have hL24' : L + 0 ≤ 24 := hL24
  have hz := H.2.1 m
  have hf : f < 6 := by omega
  have hi : i < 16 := by omega
  have hk : 16 * m + i < 64 := by omega
  have hI : vp_in (nI (16 * m + i)) 64 := vp_in_nI hk (by omega)
  have ek : (nI (16 * m + i)).toNatClampNeg = 16 * m + i := nI_clamp (by omega)
  have h14 := H.1 (16 * m + i)
  have hAA := h14.2.1
  have hBB := h14.2.2.1
  have vf : vp_in (nI f) 6 := vp_in_nI hf (by omega)
  have ef : (nI f).toNatClampNeg = f := nI_clamp (by omega)
  have x1e : nI (f + 1) - 1 = nI f := nI_pred f
  have x2e : me (nI f).toNatClampNeg * 16 + pt (nI f).toNatClampNeg = nI (16 * m + i) := by rw [ef, em, ei, ap_xk]
  have f6 : nI f * 6 = nI (6 * f) := by
    have : nI f * 6 = nI (f * 6) := pk_mul f 6
    rw [this, Nat.mul_comm]
  have x3e : nI f * 6 + ap_aA p (nI (16 * m + i)).toNatClampNeg = nI (6 * f + ap_A p (16 * m + i)) := by rw [ap_aAk p hk, f6, nI_add]
  have x4e : nI f * 6 + ap_aB p (nI (16 * m + i)).toNatClampNeg = nI (6 * f + ap_B p (16 * m + i)) := by rw [ap_aBk p hk, f6, nI_add]
  have x5e : ap_oo p (nI (16 * m + i)).toNatClampNeg = (8 : Int32) := by rw [ap_ook p hk, eo]; rfl
  obtain ⟨na, hna, ena⟩ := I1.2.2.2.1 (6 * f + ap_A p (16 * m + i)) (by omega)
  obtain ⟨nb, hnb, enb⟩ := I1.2.2.2.1 (6 * f + ap_B p (16 * m + i)) (by omega)
  have va36 : vp_in (nI (6 * f + ap_A p (16 * m + i))) 36 := vp_in_nI (by omega) (by omega)
  have vb36 : vp_in (nI (6 * f + ap_B p (16 * m + i))) 36 := vp_in_nI (by omega) (by omega)
  have eka : (nI (6 * f + ap_A p (16 * m + i))).toNatClampNeg = 6 * f + ap_A p (16 * m + i) := nI_clamp (by omega)
  have ekb : (nI (6 * f + ap_B p (16 * m + i))).toNatClampNeg = 6 * f + ap_B p (16 * m + i) := nI_clamp (by omega)
  have eP : P (16 * m + i) = PY (16 * m + i) := ap_Pl_u ((hA m hm).2.1 i hiz) ((hA m hm).2.2.2 i hiz)
  have eg : ∀ x : Nat, (if nI x = 0 then (0 : Int32) else 0) = 0 := fun x => by split <;> rfl
  have on : ap_on p (16 * m + i) := ⟨by omega, by omega, by omega⟩
  have scn : i + 1 < ap_Z p m → ap_sc p m i (i + 1) := fun z => ⟨z, Or.inl ⟨on, rfl⟩⟩
  have nal : ¬ ap_al p (16 * m + i) := fun z => by unfold ap_al at z; omega
  have alA := ag_alive (n := na) I1 I8 em ei hm hi hnd hiz nal hAA ena hna
  have alB := ag_alive (n := nb) I1 I8 em ei hm hi hnd hiz nal hBB enb hnb
  have Yc : ∀ (post : SY → Prop), (na = 0 ∨ ¬ (1 ≤ na ∧ ¬ (1 ≤ na ∧ lo (6 * f + ap_A p (16 * m + i)) = 0 ∧ ac_N (nI 0) h lo (f + 1) fY M na = 1)) → post (kn, nI M, nI L, up, dn, nI (f + 1), nI (B + 1), nI 0, (-1), sh, rn, nI Q, nI E, ap_oo p, sA, sB, ap_c p, ap_sz p, ap_L p, NY, PY, KY, va, fY, al, me, upd pt f (nI (i + 1)), h, lo, ou, es, td, ph)) →
      (1 ≤ na → ¬ (1 ≤ na ∧ lo (6 * f + ap_A p (16 * m + i)) = 0 ∧ ac_N (nI 0) h lo (f + 1) fY M na = 1) → (L = 24 → post (kn, nI M, nI L, up, dn, nI (f + 1), nI (B + 1), nI 0, 1, sh, rn, nI Q, nI E, ap_oo p, sA, sB, ap_c p, ap_sz p, ap_L p, NY, PY, KY, va, fY, al, me, pt, h, lo, ou, es, td, ph)) ∧ (L < 24 → wpY_own (fun u => post u) (kn, nI M, nI L, up, dn, nI (f + 1), nI (B + 1), nI 0, (-1), sh, rn, nI Q, nI E, ap_oo p, sA, sB, ap_c p, ap_sz p, ap_L p, NY, PY, KY, va, fY, al, me, upd pt f (nI (i + 1)), h, lo, ou, es, td, ph) (nI (6 * f + ap_A p (16 * m + i))) (nI na))) →
      wpY_carryOut post (kn, nI M, nI L, up, dn, nI (f + 1), nI (B + 1), nI 0, (-1), sh, rn, nI Q, nI E, ap_oo p, sA, sB, ap_c p, ap_sz p, ap_L p, NY, PY, KY, va, fY, al, me, pt, h, lo, ou, es, td, ph) (nI (6 * f)) (nI (16 * m + i)) := by
    intro post h1 h2
    refine by_pre hAB hf hk hAA (by omega) (by omega) (by omega) post ?_
    rw [ena, eo]
    refine by_58 (by omega) post _ _ _ _ _ (fun z => by omega) (fun z => by omega) (fun z => by omega) (fun z => by omega) (by_134 hM (by omega) (by omega) (by omega) post _ _ _ _ _ (fun z hz' => ?_))
    have tail : ∀ K : wY_carryOut_294 post (nI (16 * m + i)) (nI 8) (nI (6 * f + ap_A p (16 * m + i))) (nI (6 * f) + sB (16 * m + i)) (ap_c p (16 * m + i)) (nI na) z (nI (i + 1)) (nI f) kn (nI M) (nI L) up dn (nI (f + 1)) (nI (B + 1)) (nI 0) (-1) sh rn (nI Q) (nI E) (ap_oo p) sA sB (ap_c p) (ap_sz p) (ap_L p) NY PY KY va fY al me pt h lo ou es td ph, wY_carryOut_193 post (nI (16 * m + i)) (nI 8) (nI (6 * f + ap_A p (16 * m + i))) (nI (6 * f) + sB (16 * m + i)) (ap_c p (16 * m + i)) (nI na) 0 z kn (nI M) (nI L) up dn (nI (f + 1)) (nI (B + 1)) (nI 0) (-1) sh rn (nI Q) (nI E) (ap_oo p) sA sB (ap_c p) (ap_sz p) (ap_L p) NY PY KY va fY al me pt h lo ou es td ph := by
      intro K
      refine br_t rfl (br_f (by decide) (br_f (by decide) (br_f (by decide) (br_f (by decide) (br_f (by decide) (?_))))))
      unfold wY_carryOut_281
      rw [nI_pred, nI_clamp (n := f) (by omega), ei, nI_1]
      exact ⟨vf, K⟩
    by_cases n0 : na = 0
    · subst n0
      refine br_t (by decide) (br_t (by decide) (tail ⟨vf, nm_r (e' := upd pt f (nI (i + 1))) (by rw [ef]) (br_f (by decide) (br_f (by decide) (br_f (by decide) (br_t (by decide) (br_t (by decide) (br_t (by decide) (h1 (Or.inl rfl))))))))⟩))
    · have pos : ¬ nI na ≤ 0 := nI_nle (by omega) (by omega)
      rcases hz' with ⟨e, c⟩ | ⟨e, c⟩
      · subst e
        exact br_t (by decide) (br_f pos (br_f (by decide) (tail ⟨vf, nm_r (e' := upd pt f (nI (i + 1))) (by rw [ef]) (br_f (by decide) (br_f (by decide) (br_f (by decide) (br_t (by decide) (br_f pos (br_f (by decide) (br_t (by decide) (h1 (Or.inr (fun q => q.2 c))))))))))⟩)))
      · subst e
        obtain ⟨k1, k2⟩ := h2 (by omega) c
        refine br_t (by decide) (br_f pos (br_t rfl (pk_eq L 24 (fun q => k1 q) (fun q => tail ⟨vf, nm_r (e' := upd pt f (nI (i + 1))) (by rw [ef]) (br_f (by decide) (br_f (by decide) (br_f (by decide) (br_t (by decide) (br_f pos (br_t rfl (k2 (by omega))))))))⟩))))
  by_cases n0 : na = 0
  · refine ⟨f + 1, M, L, E, Q, 0, 1, -1, up, dn, h, lx, lo, al, rf, fX, fY, pe, td, ph, es, me, upd pt f (nI (i + 1)), va, ou, Or.inl ⟨rfl, rfl, by omega, rfl⟩,
      ⟨I1, I2, I3, by omega, by omega, by omega, by omega, ag_F_pc I8 em ei hm hi (ag_ne I2) hnd hiz (by omega) scn⟩, fun post hp => ?_, fun post hp => Yc post (fun _ => hp) (fun z => by omega)⟩
    exact nm_r x1e ⟨vf, vf, nm_r x2e ⟨hI, nm_r x3e ⟨hI, nm_r x4e ⟨hI, nm_r x5e (br_f (by decide) (br_f (by decide) (br_f (by decide) (br_f (by decide) (br_f (by decide) (br_f (by decide) (br_f (by decide) (br_f (by decide) (br_f (by decide) (br_f (by decide) (br_t (by decide) (⟨va36, nm_r (e' := nI na) (by rw [eka]; exact ena) (br_t (by rw [n0]; rfl) (br_f (by decide) ⟨vf, vf, nm_r (e' := upd pt f (nI (i + 1))) (by rw [ef, ei, nI_1]) ⟨rfl, hp⟩⟩))⟩))))))))))))⟩⟩⟩⟩
  · have a1 : 1 ≤ na := by omega
    have nn0 : ¬ nI na = 0 := nI_ne0 a1 (by omega)
    by_cases on1 : 1 ≤ na ∧ lo (6 * f + ap_A p (16 * m + i)) = 0 ∧ ac_N (nI 0) h lo (f + 1) fY M na = 1
    · refine ⟨f + 1, M, L, E, Q, 0, 1, -1, up, dn, h, lx, lo, al, rf, fX, fY, pe, td, ph, es, me, upd pt f (nI (i + 1)), va, ou, Or.inl ⟨rfl, rfl, by omega, rfl⟩,
        ⟨I1, I2, I3, by omega, by omega, by omega, by omega, ag_F_pc I8 em ei hm hi (ag_ne I2) hnd hiz (by omega) scn⟩, fun post hp => ?_, fun post hp => Yc post (fun _ => hp) (fun _ z => absurd on1 z)⟩
      refine nm_r x1e ⟨vf, vf, nm_r x2e ⟨hI, nm_r x3e ⟨hI, nm_r x4e ⟨hI, nm_r x5e (br_f (by decide) (br_f (by decide) (br_f (by decide) (br_f (by decide) (br_f (by decide) (br_f (by decide) (br_f (by decide) (br_f (by decide) (br_f (by decide) (br_f (by decide) (br_t (by decide) (⟨va36, nm_r (by rw [eka]; exact ena) (br_f nn0 ?_)⟩))))))))))))⟩⟩⟩⟩
      exact bx_only (na := na) (by omega) (by omega) hna ena I1 I2 _ (fun c => br_f (by decide) (br_f (by decide) ⟨vf, vf, nm_r (e' := upd pt f (nI (i + 1))) (by rw [ef, ei, nI_1]) ⟨rfl, hp⟩⟩)) (fun c => absurd on1 c)
    · by_cases hL : L < 24
      · obtain ⟨y0, hy0, ey0⟩ := I1.2.1 na a1 hna 0 (by omega)
        obtain ⟨y1, hy1, ey1⟩ := I1.2.1 na a1 hna 1 (by omega)
        obtain ⟨y2, hy2, ey2⟩ := I1.2.1 na a1 hna 2 (by omega)
        have ay0 : 1 ≤ y0 → al y0 = 1 := fun z => ac_al_F3 I1 z hy0 a1 hna (alA a1) (by omega) ey0
        have ay1 : 1 ≤ y1 → al y1 = 1 := fun z => ac_al_F3 I1 z hy1 a1 hna (alA a1) (by omega) ey1
        have ay2 : 1 ≤ y2 → al y2 = 1 := fun z => ac_al_F3 I1 z hy2 a1 hna (alA a1) (by omega) ey2
        have ex0 := (ac_fld I1 a1 hna (alA a1) (j := 0) (by omega)).trans ey0
        have ex1 := (ac_fld I1 a1 hna (alA a1) (j := 1) (by omega)).trans ey1
        have ex2 := (ac_fld I1 a1 hna (alA a1) (j := 2) (by omega)).trans ey2
        have In := ac_new I1 hL (by omega) (af_ze fX (3 * (M + 1)) 3) (af_ze fY (3 * (M + 1)) 3) (fun x hx => af_ze_out (Or.inl hx)) (fun x hx => af_ze_out (Or.inl hx)) (fun j hj => af_ze_in (by omega) (by omega)) (fun j hj => af_ze_in (by omega) (by omega))
        have u1 : ∀ y, y ≤ M → (1 ≤ y → al y = 1) → 1 ≤ y → upd al (M + 1) 1 y = 1 := fun y hy ha z => by rw [pk_un (by omega)]; exact ha z
        have J0 := ac_cpy (q := M + 1) (j := 0) (y := y0) In (by omega) (Nat.le_refl _) pk_us (by omega) (by omega) (u1 y0 hy0 ay0) (af_ze_in (by omega) (by omega))
        have J1 := ac_cpy (q := M + 1) (j := 1) (y := y1) J0 (by omega) (Nat.le_refl _) pk_us (by omega) (by omega) (u1 y1 hy1 ay1) (by rw [pk_un (by omega)]; exact af_ze_in (by omega) (by omega))
        have J2 := ac_put2 (q := M + 1) (x := y2) J1 (by omega) (Nat.le_refl _) pk_us (by omega) (u1 y2 hy2 ay2)
        obtain ⟨al', rf', fX', fY', pe', td', ph', es', L', E', dn', K1, K2, K3, K4⟩ := bz_fill (p := p) (po := nI Q) (up := if y1 = 0 then (if y0 = 0 then up else up + 1) else (if y0 = 0 then up else up + 1) + 1) (bg := nI (B + 1)) (gX := nI 0) (sa := sa) (sh := sh) (N := N) (P := P) (K := K) (R := R) (me := me) (h := h) (lx := lx) (va := upd va (M + 1) (va na)) (ou := ou) (kn := kn) (gY := nI 0) (oc := (-1)) (rn := rn) (lo := lo) (sA := sA) (sB := sB) (NY := NY) (PY := PY) (KY := KY) (dn := dn) (pe := pe) (td := td) (ph := ph) (es := es) (v := 6 * f + ap_A p (16 * m + i)) (x := M + 1) (b := 0) (by rw [if_pos rfl]; exact J2) (by omega) (Nat.le_refl _) I2 (Or.inl rfl)
        rw [eg] at K1 K2 K4
        refine ⟨f + 1, M + 1, L', E', Q, 0, 1, -1, (if y1 = 0 then (if y0 = 0 then up else up + 1) else (if y0 = 0 then up else up + 1) + 1), dn', _, _, _, al', rf', fX', fY', pe', td', ph', es', me, upd pt f (nI (i + 1)), upd va (M + 1) (va na), ou, Or.inl ⟨rfl, rfl, by omega, rfl⟩,
          ⟨K1, K2, by rw [pk_un (by omega)]; exact I3, by omega, by omega, by omega, by omega, ag_F_set (b := ap_A p (16 * m + i)) I8 em ei hm hi (ag_ne I2) hnd hiz (by omega) scn _ (fun _ _ => rfl) (Or.inl rfl)⟩, fun post hp => ?_, fun post hp => Yc post (fun z => by rcases z with z | z; omega; exact absurd ⟨a1, on1⟩ z) (fun _ _ => ⟨fun z => by omega, fun _ => ?_⟩)⟩
        · refine nm_r x1e ⟨vf, vf, nm_r x2e ⟨hI, nm_r x3e ⟨hI, nm_r x4e ⟨hI, nm_r x5e (br_f (by decide) (br_f (by decide) (br_f (by decide) (br_f (by decide) (br_f (by decide) (br_f (by decide) (br_f (by decide) (br_f (by decide) (br_f (by decide) (br_f (by decide) (br_t (by decide) (⟨va36, nm_r (by rw [eka]; exact ena) (br_f nn0 ?_)⟩))))))))))))⟩⟩⟩⟩
          refine bx_only (na := na) (by omega) (by omega) hna ena I1 I2 _ (fun c => absurd c on1) (fun c => br_t rfl (br_t (nI_lt (b := 24) hL (by decide)) ⟨vp_in_nI (by omega) (by omega), ?_⟩))
          rw [nI_clamp (n := na) (by omega)]
          refine bx_make (by omega) _ _ ⟨4, ?_⟩
          refine bx_own1 (j := 0) (y := y0) _ (by omega) (by omega) (by omega) (by omega) (by rw [af_ze_out (Or.inl (by omega))]; exact ex0) ?_
          refine bx_own1 (j := 1) (y := y1) _ (by omega) (by omega) (by omega) (by omega) (by rw [pk_un (by omega), af_ze_out (Or.inl (by omega))]; exact ex1) ?_
          refine bx_own2 (y := y2) _ (by omega) (by omega) (by rw [pk_un (by omega), pk_un (by omega), af_ze_out (Or.inl (by omega))]; exact ex2) ?_
          exact K3 pt _ (br_f (by decide) ⟨vf, vf, nm_r (e' := upd pt f (nI (i + 1))) (by rw [ef, ei, nI_1]) ⟨rfl, hp⟩⟩)
        · unfold wpY_own
          refine ⟨vp_in_nI (by omega) (by omega), ?_⟩
          rw [nI_clamp (n := na) (by omega)]
          refine by_make (by omega) _ _ ⟨4, ?_⟩
          refine by_own1 (j := 0) (y := y0) _ (by omega) (by omega) (by omega) (by omega) (by rw [af_ze_out (Or.inl (by omega))]; exact ey0) ?_
          refine by_own1 (j := 1) (y := y1) _ (by omega) (by omega) (by omega) (by omega) (by rw [pk_un (by omega), af_ze_out (Or.inl (by omega))]; exact ey1) ?_
          refine by_own2 (y := y2) _ (by omega) (by omega) (by rw [pk_un (by omega), pk_un (by omega), af_ze_out (Or.inl (by omega))]; exact ey2) ?_
          exact K4 _ _ hp
      · refine ⟨f + 1, M, L, E, Q, 0, 0, 1, up, dn, h, lx, lo, al, rf, fX, fY, pe, td, ph, es, me, pt, va, ou, Or.inr (Or.inr ⟨rfl, rfl, rfl, rfl⟩), ⟨I1, I2, I3, by omega, by omega, by omega, I7, I8⟩, fun post hp => ?_, fun post hp => Yc post (fun z => by rcases z with z | z; omega; exact absurd ⟨a1, on1⟩ z) (fun _ _ => ⟨fun _ => hp, fun z => by omega⟩)⟩
        refine nm_r x1e ⟨vf, vf, nm_r x2e ⟨hI, nm_r x3e ⟨hI, nm_r x4e ⟨hI, nm_r x5e (br_f (by decide) (br_f (by decide) (br_f (by decide) (br_f (by decide) (br_f (by decide) (br_f (by decide) (br_f (by decide) (br_f (by decide) (br_f (by decide) (br_f (by decide) (br_t (by decide) (⟨va36, nm_r (by rw [eka]; exact ena) (br_f nn0 ?_)⟩))))))))))))⟩⟩⟩⟩
        exact bx_only (na := na) (by omega) (by omega) hna ena I1 I2 _ (fun c => absurd c on1) (fun c => br_t rfl (br_f (nI_nlt (b := 24) (by omega) (by omega)) (br_t rfl ⟨rfl, hp⟩)))
end
