theorem af_ll_ze {h lx lo : Nat → Int32} (H : af_ll h lx lo) (b k : Nat) : af_ll (af_ze h b k) (af_ze lx b k) (af_ze lo b k) := by
  intro w
  by_cases c : b ≤ w ∧ w < b + k
  · rw [af_ze_in c.1 c.2, af_ze_in c.1 c.2, af_ze_in c.1 c.2]
    exact ⟨Or.inl rfl, fun _ => rfl, fun z => absurd rfl z⟩
  · rw [af_ze_out (by omega), af_ze_out (by omega), af_ze_out (by omega)]
    exact H w
section
variable {p : ap_T} {sh : Int32} {h lo me pt : Nat → Int32} {f m i : Nat}
theorem ag_F_leave (H : ap_OK p) (F : ag_F p sh (f + 1) h lo me pt) (f1 : 1 ≤ f) (h' lo' : Nat → Int32)
    (lw : ∀ w, w < 6 * f → (h' w = h w ∧ lo' w = lo w) ∨ (∃ m i, 1 ≤ f ∧ me (f - 1) = nI m ∧ pt (f - 1) = nI i ∧ w = 6 * (f - 1) + ap_A p (16 * m + i) ∧ lo' w = 0)) :
    ag_F p sh f h' lo' me (upd pt (f - 1) (pt (f - 1) + 1)) := by
  obtain ⟨F1, F2, F3⟩ := F
  have lw2 : ∀ w, w < 6 * (f - 1) → h' w = h w ∧ lo' w = lo w := by
    intro w hw
    rcases lw w (by omega) with q | ⟨m2, i2, _, _, _, q, _⟩
    · exact q
    · omega
  refine ⟨F1, fun s0 v hv => ?_, fun g hg => ?_⟩
  · rcases lw v hv with ⟨_, q⟩ | ⟨_, _, _, _, _, _, q⟩
    · rw [q]; exact F2 s0 v (by omega)
    · exact q
  · obtain ⟨m2, i2, q1, q2, q3, q4, q6, q5⟩ := F3 g (by omega)
    obtain ⟨z1, z2⟩ := q6 (by omega)
    have hz := H.2.1 m2
    have low : ∀ j, j < 6 → lo' (6 * g + j) ≠ 0 → ∃ w, w < 6 * g ∧ h' w = h' (6 * g + j) ∧ lo' w = 0 := by
      intro j hj hlo
      rcases lw (6 * g + j) (by omega) with ⟨t1, t2⟩ | ⟨_, _, _, _, _, _, t⟩
      · rw [t2] at hlo
        rcases q5 j hj hlo with ⟨w, w1, w2, w3⟩ | ⟨w, _⟩
        · obtain ⟨u1, u2⟩ := lw2 w (by omega)
          exact ⟨w, w1, by rw [u1, t1]; exact w2, by rw [u2]; exact w3⟩
        · omega
      · exact absurd t hlo
    by_cases c : g = f - 1
    · subst c
      exact ⟨m2, i2 + 1, q1, by omega, q3, by rw [pk_us, q4, nI_1], fun z => by omega, fun j hj hlo => Or.inl (low j hj hlo)⟩
    · exact ⟨m2, i2, q1, q2, q3, by rw [pk_un c]; exact q4, fun _ => ⟨z1, z2⟩, fun j hj hlo => Or.inl (low j hj hlo)⟩
theorem ag_F_call (F : ag_F p sh (f + 1) h lo me pt) (em : me f = nI m) (ei : pt f = nI i) (hm : m < 4) (hi : i < 16) (hll : ∀ v, lo v ≠ 0 → h v ≠ 0)
    (hnd : sh = 1 → ∀ j, j < 6 → h (6 * f + j) ≠ 0 → ap_nd p m i j) (hiz : i < ap_Z p m) (eo : ap_O p (16 * m + i) = 11) {B C nb : Nat} (hB : B < 6) (hC : C < 4) {h1 : Nat → Int32}
    (h1e : ∀ w, w ≠ 6 * f + B → h1 w = h w) (h1b : h1 (6 * f + B) = h (6 * f + B) ∨ lo (6 * f + B) = 0) (b : Int32) (hb : b ≠ 0 → sh ≠ 0 ∧ h1 = h ∧ h (6 * f + B) = nI nb) :
    ag_F p sh (f + 1 + 1) (upd (af_ze h1 (6 * (f + 1)) 6) (6 * (f + 1)) (nI nb)) (upd (af_ze lo (6 * (f + 1)) 6) (6 * (f + 1)) b) (upd me (f + 1) (nI C)) (upd pt (f + 1) 0) := by
  obtain ⟨F1, F2, F3⟩ := F
  have hlow : ∀ w, w < 6 * (f + 1) → upd (af_ze h1 (6 * (f + 1)) 6) (6 * (f + 1)) (nI nb) w = h1 w ∧ upd (af_ze lo (6 * (f + 1)) 6) (6 * (f + 1)) b w = lo w := by
    intro w hw
    rw [pk_un (by omega), pk_un (by omega), af_ze_out (by omega), af_ze_out (by omega)]
    exact ⟨rfl, rfl⟩
  have top : ∀ j, j < 6 → lo (6 * f + j) ≠ 0 → ∃ w, w < 6 * f ∧ h w = h (6 * f + j) ∧ lo w = 0 := by
    intro j hj hlo
    obtain ⟨m2, i2, q1, q2, q3, q4, _, q5⟩ := F3 f (by omega)
    have e1 : m2 = m := (nI_eq (by omega) (by omega)).mp (q3.symm.trans em)
    have e2 : i2 = i := (nI_eq (by omega) (by omega)).mp (q4.symm.trans ei)
    subst e1 e2
    rcases q5 j hj hlo with w | ⟨_, w⟩
    · exact w
    · have s1 : sh = 1 := by
        rcases F1 with z | z
        · exact absurd (F2 z (6 * f + j) (by omega)) hlo
        · exact z
      have := ap_LR_2 (w hiz) (hnd s1 j hj (hll _ hlo))
      unfold ap_al at this
      omega
  refine ⟨F1, fun s0 v hv => ?_, fun g hg => ?_⟩
  · by_cases c : v < 6 * (f + 1)
    · rw [(hlow v c).2]; exact F2 s0 v c
    · by_cases c2 : v = 6 * (f + 1)
      · subst c2
        rw [pk_us]
        apply Classical.byContradiction
        intro z
        exact (hb z).1 s0
      · rw [pk_un c2]; exact af_ze_in (by omega) (by omega)
  · by_cases c : g = f + 1
    · subst c
      refine ⟨C, 0, hC, by omega, pk_us, pk_us, fun z => by omega, fun j hj hlo => ?_⟩
      by_cases j0 : j = 0
      · subst j0
        rw [show 6 * (f + 1) + 0 = 6 * (f + 1) from rfl, pk_us] at hlo
        rw [show 6 * (f + 1) + 0 = 6 * (f + 1) from rfl, pk_us]
        obtain ⟨b1, b2, b3⟩ := hb hlo
        subst b2
        by_cases cl : lo (6 * f + B) = 0
        · exact Or.inl ⟨6 * f + B, by omega, by rw [(hlow _ (by omega)).1]; exact b3, by rw [(hlow _ (by omega)).2]; exact cl⟩
        · obtain ⟨w, w1, w2, w3⟩ := top B hB cl
          exact Or.inl ⟨w, by omega, by rw [(hlow w (by omega)).1, w2]; exact b3, by rw [(hlow w (by omega)).2]; exact w3⟩
      · rw [pk_un (by omega), af_ze_in (by omega) (by omega)] at hlo
        exact absurd rfl hlo
    · by_cases c2 : g = f
      · subst c2
        refine ⟨m, i, hm, by omega, by rw [pk_un (by omega)]; exact em, by rw [pk_un (by omega)]; exact ei, fun _ => ⟨hiz, eo⟩, fun j hj hlo => Or.inl ?_⟩
        rw [(hlow _ (by omega)).2] at hlo
        obtain ⟨w, w1, w2, w3⟩ := top j hj hlo
        have hj' : h1 (6 * g + j) = h (6 * g + j) := by
          by_cases jb : j = B
          · subst jb
            rcases h1b with q | q
            · exact q
            · exact absurd q hlo
          · exact h1e _ (by omega)
        exact ⟨w, w1, by rw [(hlow w (by omega)).1, (hlow _ (by omega)).1, hj', h1e w (by omega)]; exact w2, by rw [(hlow w (by omega)).2]; exact w3⟩
      · obtain ⟨m2, i2, q1, q2, q3, q4, q6, q5⟩ := F3 g (by omega)
        refine ⟨m2, i2, q1, q2, by rw [pk_un (by omega)]; exact q3, by rw [pk_un (by omega)]; exact q4, fun _ => q6 (by omega), fun j hj hlo => ?_⟩
        rw [(hlow _ (by omega)).2] at hlo
        rcases q5 j hj hlo with ⟨w, w1, w2, w3⟩ | ⟨w, _⟩
        · exact Or.inl ⟨w, w1, by rw [(hlow w (by omega)).1, (hlow (6 * g + j) (by omega)).1, h1e w (by omega), h1e (6 * g + j) (by omega)]; exact w2, by rw [(hlow w (by omega)).2]; exact w3⟩
        · omega
end
section
variable {p : ap_T} {kn po en up dn bg lv md gX gY dp sa sh oc rn : Int32} {sA sB N P K R NY PY KY me pt h lx lo va rf al fX fY pe ou es td ph : Nat → Int32}
variable {f m i M L E Q B d : Nat}
theorem by_give {v n : Nat} (hv : v < 36) (hn : n ≤ 300) (en' : h v = nI n) {h' : Nat → Int32} {up' : Int32}
    (hc : (sh ≠ 0 ∧ lo v = 0 ∧ h' = upd h v 0 ∧ up' = up) ∨ (¬ (sh ≠ 0 ∧ lo v = 0) ∧ h' = h ∧ up' = if n = 0 then up else up + 1)) (post : SY → Prop)
    (hp : post (kn, md, lv, up', dn, dp, bg, nI n, oc, sh, rn, po, en, ap_oo p, sA, sB, ap_c p, ap_sz p, ap_L p, NY, PY, KY, va, fY, al, me, pt, h', lo, ou, es, td, ph)) : wpY_give post (kn, md, lv, up, dn, dp, bg, gY, oc, sh, rn, po, en, ap_oo p, sA, sB, ap_c p, ap_sz p, ap_L p, NY, PY, KY, va, fY, al, me, pt, h, lo, ou, es, td, ph) (nI v) := by
  have vi : vp_in (nI v) 36 := vp_in_nI hv (by omega)
  have ek : (nI v).toNatClampNeg = v := nI_clamp (by omega)
  refine ⟨vi, nm_r (e' := nI n) (by rw [ek]; exact en') ?_⟩
  rcases hc with ⟨c1, c3, e1, e2⟩ | ⟨c, e1, e2⟩
  · refine br_f c1 ⟨vi, br_t (by rw [ek]; exact c3) ⟨vi, nm_r (e' := upd h v 0) (by rw [ek]) ?_⟩⟩
    rw [e1, e2] at hp; exact hp
  · have p0 : n = 0 → post (kn, md, lv, up, dn, dp, bg, nI n, oc, sh, rn, po, en, ap_oo p, sA, sB, ap_c p, ap_sz p, ap_L p, NY, PY, KY, va, fY, al, me, pt, h, lo, ou, es, td, ph) := fun z => by rw [e1, e2, if_pos z] at hp; exact hp
    have p1 : 1 ≤ n → post (kn, md, lv, up + 1, dn, dp, bg, nI n, oc, sh, rn, po, en, ap_oo p, sA, sB, ap_c p, ap_sz p, ap_L p, NY, PY, KY, va, fY, al, me, pt, h, lo, ou, es, td, ph) := fun z => by rw [e1, e2, if_neg (by omega)] at hp; exact hp
    by_cases c1 : sh = 0
    · exact br_t c1 (by_more hn _ p0 p1)
    · refine br_f c1 ⟨vi, ?_⟩
      rw [ek]
      exact br_c (fun c3 => absurd ⟨c1, c3⟩ c) (fun c3 => by_more hn _ p0 p1)
theorem bz_op12 (H : ap_OK p) (hAB : ap_AB p sA sB) (hA : ag_A p N P NY PY) (I : ag_I p sh (f + 1) M L E Q B 0 h lx lo al rf fX fY me pt va) (hB : B < 300) (em : me f = nI m) (ei : pt f = nI i) (hm : m < 4) (hiz : i < ap_Z p m)
    (hnd : sh = 1 → ∀ j, j < 6 → h (6 * f + j) ≠ 0 → ap_nd p m i j) (eo : ap_O p (16 * m + i) = 12) :
    ∃ (d' M' L' E' Q' g' : Nat) (r' oc' up' dn' : Int32) (h' lx' lo' al' rf' fX' fY' pe' td' ph' es' me' pt' va' ou' : Nat → Int32),
      ((r' = 1 ∧ oc' = -1 ∧ 1 ≤ d' ∧ g' = 0) ∨ (r' = 1 ∧ oc' = 0 ∧ d' = 0) ∨ (r' = 0 ∧ oc' = 1 ∧ d' = f + 1 ∧ g' = 0)) ∧ ag_I p sh d' M' L' E' Q' (B + 1) g' h' lx' lo' al' rf' fX' fY' me' pt' va' ∧
      (∀ post : Int32 → SX → Prop, post r' (nI Q', nI E', up', dn', nI (B + 1), nI L', nI M', nI g', nI d', sa, sh, ap_sz p, ap_L p, ap_oo p, ap_aA p, ap_aB p, ap_c p, N, P, K, R, me', pt', h', lx', va', rf', al', fX', pe', ou', es') → wpX_perform post (nI Q, nI E, up, dn, nI (B + 1), nI L, nI M, nI 0, nI (f + 1), sa, sh, ap_sz p, ap_L p, ap_oo p, ap_aA p, ap_aB p, ap_c p, N, P, K, R, me, pt, h, lx, va, rf, al, fX, pe, ou, es)) ∧
      (∀ post : SY → Prop, post (kn, nI M', nI L', up', dn', nI d', nI (B + 1), nI g', oc', sh, rn, nI Q', nI E', ap_oo p, sA, sB, ap_c p, ap_sz p, ap_L p, NY, PY, KY, va', fY', al', me', pt', h', lo', ou', es', td', ph') → wpY_carryOut post (kn, nI M, nI L, up, dn, nI (f + 1), nI (B + 1), nI 0, (-1), sh, rn, nI Q, nI E, ap_oo p, sA, sB, ap_c p, ap_sz p, ap_L p, NY, PY, KY, va, fY, al, me, pt, h, lo, ou, es, td, ph) (nI (6 * f)) (nI (16 * m + i))) := by
  obtain ⟨I1, I2, I3, I4, I5, I6, I7, I8⟩ := id I
  obtain ⟨hLc, hL24, hEL, hM, hd⟩ := I1.2.2.2.2.2.2.1
  have hL24' : L + 0 ≤ 24 := hL24
  have hz := H.2.1 m
  have hf : f < 6 := by omega
  have hi : i < 16 := by omega
  have hk : 16 * m + i < 64 := by omega
  have hI : vp_in (nI (16 * m + i)) 64 := vp_in_nI hk (by omega)
  have ek : (nI (16 * m + i)).toNatClampNeg = 16 * m + i := nI_clamp (by omega)
  have h14 := H.1 (16 * m + i)
  have hAA := h14.2.1
  have hBB := h14.2.2.1
  have vf : vp_in (nI f) 6 := vp_in_nI hf (by omega)
  have ef : (nI f).toNatClampNeg = f := nI_clamp (by omega)
  have x1e : nI (f + 1) - 1 = nI f := nI_pred f
  have x2e : me (nI f).toNatClampNeg * 16 + pt (nI f).toNatClampNeg = nI (16 * m + i) := by rw [ef, em, ei, ap_xk]
  have f6 : nI f * 6 = nI (6 * f) := by
    have : nI f * 6 = nI (f * 6) := pk_mul f 6
    rw [this, Nat.mul_comm]
  have x3e : nI f * 6 + ap_aA p (nI (16 * m + i)).toNatClampNeg = nI (6 * f + ap_A p (16 * m + i)) := by rw [ap_aAk p hk, f6, nI_add]
  have x4e : nI f * 6 + ap_aB p (nI (16 * m + i)).toNatClampNeg = nI (6 * f + ap_B p (16 * m + i)) := by rw [ap_aBk p hk, f6, nI_add]
  have x5e : ap_oo p (nI (16 * m + i)).toNatClampNeg = (12 : Int32) := by rw [ap_ook p hk, eo]; rfl
  obtain ⟨na, hna, ena⟩ := I1.2.2.2.1 (6 * f + ap_A p (16 * m + i)) (by omega)
  obtain ⟨nb, hnb, enb⟩ := I1.2.2.2.1 (6 * f + ap_B p (16 * m + i)) (by omega)
  have va36 : vp_in (nI (6 * f + ap_A p (16 * m + i))) 36 := vp_in_nI (by omega) (by omega)
  have vb36 : vp_in (nI (6 * f + ap_B p (16 * m + i))) 36 := vp_in_nI (by omega) (by omega)
  have eka : (nI (6 * f + ap_A p (16 * m + i))).toNatClampNeg = 6 * f + ap_A p (16 * m + i) := nI_clamp (by omega)
  have ekb : (nI (6 * f + ap_B p (16 * m + i))).toNatClampNeg = 6 * f + ap_B p (16 * m + i) := nI_clamp (by omega)
  have eP : P (16 * m + i) = PY (16 * m + i) := ap_Pl_u ((hA m hm).2.1 i hiz) ((hA m hm).2.2.2 i hiz)
  have eg : ∀ x : Nat, (if nI x = 0 then (0 : Int32) else 0) = 0 := fun x => by split <;> rfl
  have nal : ¬ ap_al p (16 * m + i) := fun z => by unfold ap_al at z; omega
  have alA := ag_alive (n := na) I1 I8 em ei hm hi hnd hiz nal hAA ena hna
  have alB := ag_alive (n := nb) I1 I8 em ei hm hi hnd hiz nal hBB enb hnb
  have hfr : 1 ≤ f → ∃ m i, m < 4 ∧ i < 16 ∧ me (f - 1) = nI m ∧ pt (f - 1) = nI i ∧ ap_O p (16 * m + i) = 11 := by
    intro f1
    obtain ⟨m2, i2, q1, q2, q3, q4, q5, _⟩ := I8.2.2 (f - 1) (by omega)
    have z2 := H.2.1 m2
    obtain ⟨q6, q7⟩ := q5 (by omega)
    exact ⟨m2, i2, q1, by omega, q3, q4, q7⟩
  obtain ⟨h1, rf1, up1, T1, T2, T3, T4, T5⟩ := bz_take (p := p) (po := nI Q) (up := up) (bg := nI (B + 1)) (gX := nI 0) (sa := sa) (sh := sh) (N := N) (P := P) (K := K) (R := R) (me := me) (h := h) (lx := lx) (va := va) (ou := ou) (gY := nI 0) (lo := lo) (dn := dn) (pe := pe) (es := es) (pt := pt) (v := 6 * f + ap_A p (16 * m + i)) (n := na) 1 I1 (by omega) ena hna alA I2
  obtain ⟨h', lx', lo', al', rf', fX', fY', pe', td', ph', es', L', E', dn', V1, V2, V3⟩ := bz_leave (p := p) (po := nI Q) (up := up1) (bg := nI (B + 1)) (gX := nI 0) (sa := sa) (sh := sh) (N := N) (P := P) (K := K) (R := R) (me := me) (h := h1) (lx := lx) (va := va) (ou := ou) (kn := kn) (oc := (-1)) (rn := rn) (lo := lo) (sA := sA) (sB := sB) (NY := NY) (PY := PY) (KY := KY) (dn := dn) (pe := pe) (td := td) (ph := ph) (es := es) (pt := pt) (f := f) H hAB hf hna (ac_giv T1 hna) T2 hfr
  have V2' : ∀ w, w < 6 * f → (h' w = h w ∧ lo' w = lo w) ∨ (∃ m i, 1 ≤ f ∧ me (f - 1) = nI m ∧ pt (f - 1) = nI i ∧ w = 6 * (f - 1) + ap_A p (16 * m + i) ∧ lo' w = 0) := by
    intro w hw
    have := V2 w hw
    rw [T3 w (by omega)] at this
    exact this
  have Yw : ∀ post : SY → Prop, wpY_leave (fun u => post u) (kn, nI M, nI L, up1, dn, nI (f + 1), nI (B + 1), nI na, (-1), sh, rn, nI Q, nI E, ap_oo p, sA, sB, ap_c p, ap_sz p, ap_L p, NY, PY, KY, va, fY, al, me, pt, h1, lo, ou, es, td, ph) → wpY_carryOut post (kn, nI M, nI L, up, dn, nI (f + 1), nI (B + 1), nI 0, (-1), sh, rn, nI Q, nI E, ap_oo p, sA, sB, ap_c p, ap_sz p, ap_L p, NY, PY, KY, va, fY, al, me, pt, h, lo, ou, es, td, ph) (nI (6 * f)) (nI (16 * m + i)) := by
    intro post K
    refine by_pre hAB hf hk hAA (by omega) (by omega) (by omega) post ?_
    rw [ena, eo]
    refine by_58 (by omega) post _ _ _ _ _ (fun z => by omega) (fun z => by omega) (fun z => by omega) (fun z => by omega) (by_134 hM (by omega) (by omega) (by omega) post _ _ _ _ _ (fun z _ => ?_))
    refine br_f (by decide) (br_t rfl (br_f (by decide) (br_t (by decide) (br_t (by decide) ?_))))
    refine by_give (v := 6 * f + ap_A p (16 * m + i)) (n := na) (h' := h1) (up' := up1) (by omega) (by omega) ena ?_ _ K
    rcases T4 with ⟨q1, q2, q3⟩ | ⟨q1, q2⟩
    · exact Or.inl ⟨q1, q3⟩
    · exact Or.inr ⟨fun z => q1 ⟨z.1, by decide, z.2⟩, q2⟩
  rcases V3 with ⟨f0, V4, V5, V6⟩ | ⟨f1, V4, V5, V6⟩
  · refine ⟨0, M, L', E', Q, na, 1, 0, up1, dn', h', lx', lo', al', rf', fX', fY', pe', td', ph', es', me, pt, va, ou, Or.inr (Or.inl ⟨rfl, rfl, rfl⟩), ⟨V4, V1, I3, by omega, by omega, by omega, by omega, ⟨I8.1, fun _ v hv => by omega, fun g hg => by omega⟩⟩, fun post hp => ?_, fun post hp => ?_⟩
    · exact nm_r x1e ⟨vf, vf, nm_r x2e ⟨hI, nm_r x3e ⟨hI, nm_r x4e ⟨hI, nm_r x5e (br_f (by decide) (br_f (by decide) (br_f (by decide) (br_f (by decide) (br_f (by decide) (br_f (by decide) (br_f (by decide) (br_f (by decide) (br_f (by decide) (br_f (by decide) (br_f (by decide) (br_f (by decide) (br_f (by decide) (br_f (by decide) (br_t (by decide) (T5 _ (V5 _ hp)))))))))))))))))⟩⟩⟩⟩
    · exact Yw post (V6 _ hp)
  · refine ⟨f, M, L', E', Q, 0, 1, -1, up1, dn', h', lx', lo', al', rf', fX', fY', pe', td', ph', es', me, upd pt (f - 1) (pt (f - 1) + 1), va, ou, Or.inl ⟨rfl, rfl, f1, rfl⟩, ⟨V4, V1, I3, by omega, by omega, by omega, by omega, ag_F_leave H I8 f1 h' lo' V2'⟩, fun post hp => ?_, fun post hp => ?_⟩
    · exact nm_r x1e ⟨vf, vf, nm_r x2e ⟨hI, nm_r x3e ⟨hI, nm_r x4e ⟨hI, nm_r x5e (br_f (by decide) (br_f (by decide) (br_f (by decide) (br_f (by decide) (br_f (by decide) (br_f (by decide) (br_f (by decide) (br_f (by decide) (br_f (by decide) (br_f (by decide) (br_f (by decide) (br_f (by decide) (br_f (by decide) (br_f (by decide) (br_t (by decide) (T5 _ (V5 _ hp)))))))))))))))))⟩⟩⟩⟩
    · exact Yw post (V6 _ hp)
theorem bz_op13 (H : ap_OK p) (hAB : ap_AB p sA sB) (hA : ag_A p N P NY PY) (I : ag_I p sh (f + 1) M L E Q B 0 h lx lo al rf fX fY me pt va) (hB : B < 300) (em : me f = nI m) (ei : pt f = nI i) (hm : m < 4) (hiz : i < ap_Z p m)
    (hnd : sh = 1 → ∀ j, j < 6 → h (6 * f + j) ≠ 0 → ap_nd p m i j) (eo : ap_O p (16 * m + i) = 13) :
    ∃ (d' M' L' E' Q' g' : Nat) (r' oc' up' dn' : Int32) (h' lx' lo' al' rf' fX' fY' pe' td' ph' es' me' pt' va' ou' : Nat → Int32),
      ((r' = 1 ∧ oc' = -1 ∧ 1 ≤ d' ∧ g' = 0) ∨ (r' = 1 ∧ oc' = 0 ∧ d' = 0) ∨ (r' = 0 ∧ oc' = 1 ∧ d' = f + 1 ∧ g' = 0)) ∧ ag_I p sh d' M' L' E' Q' (B + 1) g' h' lx' lo' al' rf' fX' fY' me' pt' va' ∧
      (∀ post : Int32 → SX → Prop, post r' (nI Q', nI E', up', dn', nI (B + 1), nI L', nI M', nI g', nI d', sa, sh, ap_sz p, ap_L p, ap_oo p, ap_aA p, ap_aB p, ap_c p, N, P, K, R, me', pt', h', lx', va', rf', al', fX', pe', ou', es') → wpX_perform post (nI Q, nI E, up, dn, nI (B + 1), nI L, nI M, nI 0, nI (f + 1), sa, sh, ap_sz p, ap_L p, ap_oo p, ap_aA p, ap_aB p, ap_c p, N, P, K, R, me, pt, h, lx, va, rf, al, fX, pe, ou, es)) ∧
      (∀ post : SY → Prop, post (kn, nI M', nI L', up', dn', nI d', nI (B + 1), nI g', oc', sh, rn, nI Q', nI E', ap_oo p, sA, sB, ap_c p, ap_sz p, ap_L p, NY, PY, KY, va', fY', al', me', pt', h', lo', ou', es', td', ph') → wpY_carryOut post (kn, nI M, nI L, up, dn, nI (f + 1), nI (B + 1), nI 0, (-1), sh, rn, nI Q, nI E, ap_oo p, sA, sB, ap_c p, ap_sz p, ap_L p, NY, PY, KY, va, fY, al, me, pt, h, lo, ou, es, td, ph) (nI (6 * f)) (nI (16 * m + i))) := by
  obtain ⟨I1, I2, I3, I4, I5, I6, I7, I8⟩ := id I
  obtain ⟨hLc, hL24, hEL, hM, hd⟩ := I1.2.2.2.2.2.2.1
  have hL24' : L + 0 ≤ 24 := hL24
  have hz := H.2.1 m
  have hf : f < 6 := by omega
  have hi : i < 16 := by omega
  have hk : 16 * m + i < 64 := by omega
  have hI : vp_in (nI (16 * m + i)) 64 := vp_in_nI hk (by omega)
  have ek : (nI (16 * m + i)).toNatClampNeg = 16 * m + i := nI_clamp (by omega)
  have h14 := H.1 (16 * m + i)
  have hAA := h14.2.1
  have hBB := h14.2.2.1
  have vf : vp_in (nI f) 6 := vp_in_nI hf (by omega)
  have ef : (nI f).toNatClampNeg = f := nI_clamp (by omega)
  have x1e : nI (f + 1) - 1 = nI f := nI_pred f
  have x2e : me (nI f).toNatClampNeg * 16 + pt (nI f).toNatClampNeg = nI (16 * m + i) := by rw [ef, em, ei, ap_xk]
  have f6 : nI f * 6 = nI (6 * f) := by
    have : nI f * 6 = nI (f * 6) := pk_mul f 6
    rw [this, Nat.mul_comm]
  have x3e : nI f * 6 + ap_aA p (nI (16 * m + i)).toNatClampNeg = nI (6 * f + ap_A p (16 * m + i)) := by rw [ap_aAk p hk, f6, nI_add]
  have x4e : nI f * 6 + ap_aB p (nI (16 * m + i)).toNatClampNeg = nI (6 * f + ap_B p (16 * m + i)) := by rw [ap_aBk p hk, f6, nI_add]
  have x5e : ap_oo p (nI (16 * m + i)).toNatClampNeg = (13 : Int32) := by rw [ap_ook p hk, eo]; rfl
  obtain ⟨na, hna, ena⟩ := I1.2.2.2.1 (6 * f + ap_A p (16 * m + i)) (by omega)
  obtain ⟨nb, hnb, enb⟩ := I1.2.2.2.1 (6 * f + ap_B p (16 * m + i)) (by omega)
  have va36 : vp_in (nI (6 * f + ap_A p (16 * m + i))) 36 := vp_in_nI (by omega) (by omega)
  have vb36 : vp_in (nI (6 * f + ap_B p (16 * m + i))) 36 := vp_in_nI (by omega) (by omega)
  have eka : (nI (6 * f + ap_A p (16 * m + i))).toNatClampNeg = 6 * f + ap_A p (16 * m + i) := nI_clamp (by omega)
  have ekb : (nI (6 * f + ap_B p (16 * m + i))).toNatClampNeg = 6 * f + ap_B p (16 * m + i) := nI_clamp (by omega)
  have eP : P (16 * m + i) = PY (16 * m + i) := ap_Pl_u ((hA m hm).2.1 i hiz) ((hA m hm).2.2.2 i hiz)
  have eg : ∀ x : Nat, (if nI x = 0 then (0 : Int32) else 0) = 0 := fun x => by split <;> rfl
  have hfr : 1 ≤ f → ∃ m i, m < 4 ∧ i < 16 ∧ me (f - 1) = nI m ∧ pt (f - 1) = nI i ∧ ap_O p (16 * m + i) = 11 := by
    intro f1
    obtain ⟨m2, i2, q1, q2, q3, q4, q5, _⟩ := I8.2.2 (f - 1) (by omega)
    have z2 := H.2.1 m2
    obtain ⟨q6, q7⟩ := q5 (by omega)
    exact ⟨m2, i2, q1, by omega, q3, q4, q7⟩
  obtain ⟨h', lx', lo', al', rf', fX', fY', pe', td', ph', es', L', E', dn', V1, V2', V3⟩ := bz_leave (p := p) (po := nI Q) (up := up) (bg := nI (B + 1)) (gX := nI 0) (sa := sa) (sh := sh) (N := N) (P := P) (K := K) (R := R) (me := me) (h := h) (lx := lx) (va := va) (ou := ou) (kn := kn) (oc := (-1)) (rn := rn) (lo := lo) (sA := sA) (sB := sB) (NY := NY) (PY := PY) (KY := KY) (dn := dn) (pe := pe) (td := td) (ph := ph) (es := es) (pt := pt) (f := f) (g := 0) H hAB hf (Nat.zero_le _) I1 I2 hfr
  have Yw : ∀ post : SY → Prop, wpY_leave (fun u => post u) (kn, nI M, nI L, up, dn, nI (f + 1), nI (B + 1), nI 0, (-1), sh, rn, nI Q, nI E, ap_oo p, sA, sB, ap_c p, ap_sz p, ap_L p, NY, PY, KY, va, fY, al, me, pt, h, lo, ou, es, td, ph) → wpY_carryOut post (kn, nI M, nI L, up, dn, nI (f + 1), nI (B + 1), nI 0, (-1), sh, rn, nI Q, nI E, ap_oo p, sA, sB, ap_c p, ap_sz p, ap_L p, NY, PY, KY, va, fY, al, me, pt, h, lo, ou, es, td, ph) (nI (6 * f)) (nI (16 * m + i)) := by
    intro post K
    refine ⟨hI, nm_r (ap_ook p hk) ⟨hI, nm_e ⟨hI, nm_e ⟨hI, nm_r (ap_ck p hk) ?_⟩⟩⟩⟩
    rw [eo]
    refine br_f (by decide) (br_t (by decide) ?_)
    exact by_58 (o := 13) (by omega) post _ _ _ _ _ (fun z => by omega) (fun z => by omega) (fun z => by omega) (fun z => by omega) (br_t (by decide) (br_f (by decide) (br_t rfl (br_f (by decide) (br_f (by decide) (br_t (by decide) (br_f (by decide) K)))))))
  rcases V3 with ⟨f0, V4, V5, V6⟩ | ⟨f1, V4, V5, V6⟩
  · refine ⟨0, M, L', E', Q, 0, 1, 0, up, dn', h', lx', lo', al', rf', fX', fY', pe', td', ph', es', me, pt, va, ou, Or.inr (Or.inl ⟨rfl, rfl, rfl⟩), ⟨V4, V1, I3, by omega, by omega, by omega, by omega, ⟨I8.1, fun _ v hv => by omega, fun g hg => by omega⟩⟩, fun post hp => ?_, fun post hp => ?_⟩
    · exact nm_r x1e ⟨vf, vf, nm_r x2e ⟨hI, nm_r x3e ⟨hI, nm_r x4e ⟨hI, nm_r x5e (br_f (by decide) (br_t (by decide) (V5 _ hp)))⟩⟩⟩⟩
    · exact Yw post (V6 _ hp)
  · refine ⟨f, M, L', E', Q, 0, 1, -1, up, dn', h', lx', lo', al', rf', fX', fY', pe', td', ph', es', me, upd pt (f - 1) (pt (f - 1) + 1), va, ou, Or.inl ⟨rfl, rfl, f1, rfl⟩, ⟨V4, V1, I3, by omega, by omega, by omega, by omega, ag_F_leave H I8 f1 h' lo' V2'⟩, fun post hp => ?_, fun post hp => ?_⟩
    · exact nm_r x1e ⟨vf, vf, nm_r x2e ⟨hI, nm_r x3e ⟨hI, nm_r x4e ⟨hI, nm_r x5e (br_f (by decide) (br_t (by decide) (V5 _ hp)))⟩⟩⟩⟩
    · exact Yw post (V6 _ hp)
end
