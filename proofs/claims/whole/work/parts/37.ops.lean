section
variable {p : ap_T} {sh : Int32} {h lo me pt : Nat → Int32} {f m i : Nat}
/-- a variable of the top frame gets something that is not on loan -/
theorem ag_F_set (F : ag_F p sh (f + 1) h lo me pt) (em : me f = nI m) (ei : pt f = nI i) (hm : m < 4) (hi : i < 16) (hll : ∀ v, lo v ≠ 0 → h v ≠ 0)
    (hnd : sh = 1 → ∀ j, j < 6 → h (6 * f + j) ≠ 0 → ap_nd p m i j) (hiz : i < ap_Z p m) {s : Nat} (hs : s ≤ 16) (hsc : s < ap_Z p m → ap_sc p m i s) {a b : Nat} (x : Int32) {h1 : Nat → Int32}
    (h1e : ∀ w, w ≠ 6 * f + b → h1 w = h w) (h1b : h1 (6 * f + b) = h (6 * f + b) ∨ lo (6 * f + b) = 0) : ag_F p sh (f + 1) (upd h1 (6 * f + a) x) (upd lo (6 * f + a) 0) me (upd pt f (nI s)) := by
  refine ag_F_top F em ei hm hi hll hnd hiz hs hsc _ _ (fun w hw => ?_) (fun j hj => ?_)
  · rw [pk_un (by omega), pk_un (by omega), h1e w (by omega)]; exact ⟨rfl, rfl⟩
  · by_cases c : j = a
    · subst c; exact Or.inr (Or.inl pk_us)
    · rw [pk_un (by omega), pk_un (by omega)]
      by_cases c2 : j = b
      · subst c2
        rcases h1b with q | q
        · exact Or.inl ⟨q, rfl⟩
        · exact Or.inr (Or.inl q)
      · exact Or.inl ⟨h1e _ (by omega), rfl⟩
theorem ag_F_pc (F : ag_F p sh (f + 1) h lo me pt) (em : me f = nI m) (ei : pt f = nI i) (hm : m < 4) (hi : i < 16) (hll : ∀ v, lo v ≠ 0 → h v ≠ 0)
    (hnd : sh = 1 → ∀ j, j < 6 → h (6 * f + j) ≠ 0 → ap_nd p m i j) (hiz : i < ap_Z p m) {s : Nat} (hs : s ≤ 16) (hsc : s < ap_Z p m → ap_sc p m i s) : ag_F p sh (f + 1) h lo me (upd pt f (nI s)) :=
  ag_F_top F em ei hm hi hll hnd hiz hs hsc h lo (fun _ _ => ⟨rfl, rfl⟩) (fun _ _ => Or.inl ⟨rfl, rfl⟩)
end
section
variable {p : ap_T} {kn po en up dn bg lv md gX gY dp sa sh oc rn : Int32} {sA sB N P K R NY PY KY me pt h lx lo va rf al fX fY pe ou es td ph : Nat → Int32}
variable {f m i M L E Q B d : Nat}
/-- whether the object has one reference, that of a: the component -/
theorem bx_only {a na : Nat} (ha : a < 6 * d) (hd : d ≤ 6) (hna : na ≤ M) (ena : h a = nI na) (I1 : ac_MI 0 [] gY h lo d M al rf fX fY L E) (I2 : af_ll h lx lo) (post : Int32 → Prop)
    (h1 : (1 ≤ na ∧ lo a = 0 ∧ ac_N gY h lo d fY M na = 1) → post 1) (h0 : ¬ (1 ≤ na ∧ lo a = 0 ∧ ac_N gY h lo d fY M na = 1) → post 0) : wpX_isOnly post (po, en, up, dn, bg, lv, md, gX, dp, sa, sh, ap_sz p, ap_L p, ap_oo p, ap_aA p, ap_aB p, ap_c p, N, P, K, R, me, pt, h, lx, va, rf, al, fX, pe, ou, es) (nI a) := by
  obtain ⟨hLc, hL24, hEL, hM, _⟩ := I1.2.2.2.2.2.2.1
  have va36 : vp_in (nI a) 36 := vp_in_nI (by omega) (by omega)
  have eka : (nI a).toNatClampNeg = a := nI_clamp (by omega)
  refine ⟨va36, ?_⟩
  rw [eka, ena]
  by_cases n0 : na = 0
  · subst n0
    exact br_t rfl (h0 (fun z => by omega))
  · have nn0 : ¬ nI na = 0 := nI_ne0 (by omega) (by omega)
    refine br_f nn0 ⟨va36, vp_in_nI (by omega) (by omega), ?_⟩
    rw [nI_clamp (by omega)]
    have ell : lo a = lx a := (I2 a).2.2 (by rw [ena]; exact nn0)
    have cle := ac_N_le gY h lo d fY M na
    by_cases cl : lo a = 0
    · obtain ⟨r1, r2⟩ := ac_rf I1 (n := na) (by omega) hna (ac_al_V I1 (by omega) hna ha ena cl)
      rw [r1]
      exact pk_eq _ 1 (fun c => ⟨va36, br_t (by rw [← ell]; exact cl) (h1 ⟨by omega, cl, c⟩)⟩) (fun c => h0 (fun z => c z.2.2))
    · exact br_c (fun _ => ⟨va36, br_f (by rw [← ell]; exact cl) (h0 (fun z => cl z.2.1))⟩) (fun _ => h0 (fun z => cl z.2.1))
theorem bz_op0 (H : ap_OK p) (hAB : ap_AB p sA sB) (hA : ag_A p N P NY PY) (I : ag_I p sh (f + 1) M L E Q B 0 h lx lo al rf fX fY me pt va) (hB : B < 300) (em : me f = nI m) (ei : pt f = nI i) (hm : m < 4) (hiz : i < ap_Z p m)
    (hnd : sh = 1 → ∀ j, j < 6 → h (6 * f + j) ≠ 0 → ap_nd p m i j) (eo : ap_O p (16 * m + i) = 0) :
    ∃ (d' M' L' E' Q' g' : Nat) (r' oc' up' dn' : Int32) (h' lx' lo' al' rf' fX' fY' pe' td' ph' es' me' pt' va' ou' : Nat → Int32),
      ((r' = 1 ∧ oc' = -1 ∧ 1 ≤ d' ∧ g' = 0) ∨ (r' = 1 ∧ oc' = 0 ∧ d' = 0) ∨ (r' = 0 ∧ oc' = 1 ∧ d' = f + 1 ∧ g' = 0)) ∧ ag_I p sh d' M' L' E' Q' (B + 1) g' h' lx' lo' al' rf' fX' fY' me' pt' va' ∧
      (∀ post : Int32 → SX → Prop, post r' (nI Q', nI E', up', dn', nI (B + 1), nI L', nI M', nI g', nI d', sa, sh, ap_sz p, ap_L p, ap_oo p, ap_aA p, ap_aB p, ap_c p, N, P, K, R, me', pt', h', lx', va', rf', al', fX', pe', ou', es') → wpX_perform post (nI Q, nI E, up, dn, nI (B + 1), nI L, nI M, nI 0, nI (f + 1), sa, sh, ap_sz p, ap_L p, ap_oo p, ap_aA p, ap_aB p, ap_c p, N, P, K, R, me, pt, h, lx, va, rf, al, fX, pe, ou, es)) ∧
      (∀ post : SY → Prop, post (kn, nI M', nI L', up', dn', nI d', nI (B + 1), nI g', oc', sh, rn, nI Q', nI E', ap_oo p, sA, sB, ap_c p, ap_sz p, ap_L p, NY, PY, KY, va', fY', al', me', pt', h', lo', ou', es', td', ph') → wpY_carryOut post (kn, nI M, nI L, up, dn, nI (f + 1), nI (B + 1), nI 0, (-1), sh, rn, nI Q, nI E, ap_oo p, sA, sB, ap_c p, ap_sz p, ap_L p, NY, PY, KY, va, fY, al, me, pt, h, lo, ou, es, td, ph) (nI (6 * f)) (nI (16 * m + i))) := by
  obtain ⟨I1, I2, I3, I4, I5, I6, I7, I8⟩ := id I
  obtain ⟨hLc, hL24, hEL, hM, hd⟩ := I1.2.2.2.2.2.2.1
  have hL24' : L + 0 ≤ 24 := hL24
  have hz := H.2.1 m
  have hf : f < 6 := by omega
  have hi : i < 16 := by omega
  have hk : 16 * m + i < 64 := by omega
  have hI : vp_in (nI (16 * m + i)) 64 := vp_in_nI hk (by omega)
  have ek : (nI (16 * m + i)).toNatClampNeg = 16 * m + i := nI_clamp (by omega)
  have h14 := H.1 (16 * m + i)
  have hAA := h14.2.1
  have hBB := h14.2.2.1
  have vf : vp_in (nI f) 6 := vp_in_nI hf (by omega)
  have ef : (nI f).toNatClampNeg = f := nI_clamp (by omega)
  have x1e : nI (f + 1) - 1 = nI f := nI_pred f
  have x2e : me (nI f).toNatClampNeg * 16 + pt (nI f).toNatClampNeg = nI (16 * m + i) := by rw [ef, em, ei, ap_xk]
  have f6 : nI f * 6 = nI (6 * f) := by
    have : nI f * 6 = nI (f * 6) := pk_mul f 6
    rw [this, Nat.mul_comm]
  have x3e : nI f * 6 + ap_aA p (nI (16 * m + i)).toNatClampNeg = nI (6 * f + ap_A p (16 * m + i)) := by rw [ap_aAk p hk, f6, nI_add]
  have x4e : nI f * 6 + ap_aB p (nI (16 * m + i)).toNatClampNeg = nI (6 * f + ap_B p (16 * m + i)) := by rw [ap_aBk p hk, f6, nI_add]
  have x5e : ap_oo p (nI (16 * m + i)).toNatClampNeg = (0 : Int32) := by rw [ap_ook p hk, eo]; rfl
  obtain ⟨na, hna, ena⟩ := I1.2.2.2.1 (6 * f + ap_A p (16 * m + i)) (by omega)
  obtain ⟨nb, hnb, enb⟩ := I1.2.2.2.1 (6 * f + ap_B p (16 * m + i)) (by omega)
  have va36 : vp_in (nI (6 * f + ap_A p (16 * m + i))) 36 := vp_in_nI (by omega) (by omega)
  have vb36 : vp_in (nI (6 * f + ap_B p (16 * m + i))) 36 := vp_in_nI (by omega) (by omega)
  have eka : (nI (6 * f + ap_A p (16 * m + i))).toNatClampNeg = 6 * f + ap_A p (16 * m + i) := nI_clamp (by omega)
  have ekb : (nI (6 * f + ap_B p (16 * m + i))).toNatClampNeg = 6 * f + ap_B p (16 * m + i) := nI_clamp (by omega)
  have eP : P (16 * m + i) = PY (16 * m + i) := ap_Pl_u ((hA m hm).2.1 i hiz) ((hA m hm).2.2.2 i hiz)
  have eg : ∀ x : Nat, (if nI x = 0 then (0 : Int32) else 0) = 0 := fun x => by split <;> rfl
  have on : ap_on p (16 * m + i) := ⟨by omega, by omega, by omega⟩
  have scn : i + 1 < ap_Z p m → ap_sc p m i (i + 1) := fun z => ⟨z, Or.inl ⟨on, rfl⟩⟩
  by_cases hL : L < 24
  · have In := ac_new I1 hL (by omega) (af_ze fX (3 * (M + 1)) 3) (af_ze fY (3 * (M + 1)) 3) (fun x hx => af_ze_out (Or.inl hx)) (fun x hx => af_ze_out (Or.inl hx)) (fun j hj => af_ze_in (by omega) (by omega)) (fun j hj => af_ze_in (by omega) (by omega))
    obtain ⟨al', rf', fX', fY', pe', td', ph', es', L', E', dn', K1, K2, K3, K4⟩ := bz_fill (p := p) (po := nI Q) (up := up) (bg := nI (B + 1)) (gX := nI 0) (sa := sa) (sh := sh) (N := N) (P := P) (K := K) (R := R) (me := me) (h := h) (lx := lx) (va := upd va (M + 1) (ap_c p (16 * m + i))) (ou := ou) (kn := kn) (gY := nI 0) (oc := (-1)) (rn := rn) (lo := lo) (sA := sA) (sB := sB) (NY := NY) (PY := PY) (KY := KY) (dn := dn) (pe := pe) (td := td) (ph := ph) (es := es) (v := 6 * f + ap_A p (16 * m + i)) (x := M + 1) (b := 0) (by rw [if_pos rfl]; exact In) (by omega) (Nat.le_refl _) I2 (Or.inl rfl)
    rw [eg] at K1 K2 K4
    refine ⟨f + 1, M + 1, L', E', Q, 0, 1, -1, up, dn', _, _, _, al', rf', fX', fY', pe', td', ph', es', me, upd pt f (nI (i + 1)), upd va (M + 1) (ap_c p (16 * m + i)), ou, Or.inl ⟨rfl, rfl, by omega, rfl⟩,
      ⟨K1, K2, by rw [pk_un (by omega)]; exact I3, by omega, by omega, by omega, by omega, ag_F_set (b := ap_A p (16 * m + i)) I8 em ei hm hi (ag_ne I2) hnd hiz (by omega) scn _ (fun _ _ => rfl) (Or.inl rfl)⟩, fun post hp => ?_, fun post hp => ?_⟩
    · refine nm_r x1e ⟨vf, vf, nm_r x2e ⟨hI, nm_r x3e ⟨hI, nm_r x4e ⟨hI, nm_r x5e (br_f (by decide) (br_f (by decide) (br_t (by decide) (br_t (nI_lt (b := 24) hL (by decide)) ⟨hI, ?_⟩))))⟩⟩⟩⟩
      rw [ap_ck p hk]
      exact bx_make (by omega) _ _ (K3 pt _ (br_f (by decide) ⟨vf, vf, nm_r (e' := upd pt f (nI (i + 1))) (by rw [ef, ei, nI_1]) ⟨rfl, hp⟩⟩))
    · refine by_go hAB hf hk hAA hM (by omega) ena ei (by omega) post (fun _ => by intro z; have := (nI_eq (b := 24) (by omega) (by decide)).mp z; omega) (fun z => by omega) (fun z => by omega) (fun z _ => ?_)
      rw [eo]
      exact ⟨vf, nm_r (e' := upd pt f (nI (i + 1))) (by rw [ef]) (br_f (by decide) (br_f (by decide) (br_f (by decide) (br_f (by decide) (br_f (by decide) (br_f (by decide) (br_f (by decide) (br_t (by decide) (by_make (by omega) _ _ (K4 (upd pt f (nI (i + 1))) _ hp))))))))))⟩
  · have e24 : L = 24 := by omega
    refine ⟨f + 1, M, L, E, Q, 0, 0, 1, up, dn, h, lx, lo, al, rf, fX, fY, pe, td, ph, es, me, pt, va, ou, Or.inr (Or.inr ⟨rfl, rfl, rfl, rfl⟩), ⟨I1, I2, I3, by omega, by omega, by omega, I7, I8⟩, fun post hp => ?_, fun post hp => ?_⟩
    · exact nm_r x1e ⟨vf, vf, nm_r x2e ⟨hI, nm_r x3e ⟨hI, nm_r x4e ⟨hI, nm_r x5e (br_f (by decide) (br_f (by decide) (br_t (by decide) (br_f (nI_nlt (b := 24) (by omega) (by omega)) (br_t rfl ⟨rfl, hp⟩)))))⟩⟩⟩⟩
    · exact by_fail hAB hf hk hAA hM (by omega) (by omega) ena (by omega) (by omega) (by omega) (by omega) post (Or.inl ⟨eo, by rw [e24]; rfl⟩) hp
theorem bz_op2 (H : ap_OK p) (hAB : ap_AB p sA sB) (hA : ag_A p N P NY PY) (I : ag_I p sh (f + 1) M L E Q B 0 h lx lo al rf fX fY me pt va) (hB : B < 300) (em : me f = nI m) (ei : pt f = nI i) (hm : m < 4) (hiz : i < ap_Z p m)
    (hnd : sh = 1 → ∀ j, j < 6 → h (6 * f + j) ≠ 0 → ap_nd p m i j) (eo : ap_O p (16 * m + i) = 2) :
    ∃ (d' M' L' E' Q' g' : Nat) (r' oc' up' dn' : Int32) (h' lx' lo' al' rf' fX' fY' pe' td' ph' es' me' pt' va' ou' : Nat → Int32),
      ((r' = 1 ∧ oc' = -1 ∧ 1 ≤ d' ∧ g' = 0) ∨ (r' = 1 ∧ oc' = 0 ∧ d' = 0) ∨ (r' = 0 ∧ oc' = 1 ∧ d' = f + 1 ∧ g' = 0)) ∧ ag_I p sh d' M' L' E' Q' (B + 1) g' h' lx' lo' al' rf' fX' fY' me' pt' va' ∧
      (∀ post : Int32 → SX → Prop, post r' (nI Q', nI E', up', dn', nI (B + 1), nI L', nI M', nI g', nI d', sa, sh, ap_sz p, ap_L p, ap_oo p, ap_aA p, ap_aB p, ap_c p, N, P, K, R, me', pt', h', lx', va', rf', al', fX', pe', ou', es') → wpX_perform post (nI Q, nI E, up, dn, nI (B + 1), nI L, nI M, nI 0, nI (f + 1), sa, sh, ap_sz p, ap_L p, ap_oo p, ap_aA p, ap_aB p, ap_c p, N, P, K, R, me, pt, h, lx, va, rf, al, fX, pe, ou, es)) ∧
      (∀ post : SY → Prop, post (kn, nI M', nI L', up', dn', nI d', nI (B + 1), nI g', oc', sh, rn, nI Q', nI E', ap_oo p, sA, sB, ap_c p, ap_sz p, ap_L p, NY, PY, KY, va', fY', al', me', pt', h', lo', ou', es', td', ph') → wpY_carryOut post (kn, nI M, nI L, up, dn, nI (f + 1), nI (B + 1), nI 0, (-1), sh, rn, nI Q, nI E, ap_oo p, sA, sB, ap_c p, ap_sz p, ap_L p, NY, PY, KY, va, fY, al, me, pt, h, lo, ou, es, td, ph) (nI (6 * f)) (nI (16 * m + i))) := by
  obtain ⟨I1, I2, I3, I4, I5, I6, I7, I8⟩ := id I
  obtain ⟨hLc, hL24, hEL, hM, hd⟩ := I1.2.2.2.2.2.2.1
  have hL24' : L + 0 ≤ 24 := hL24
  have hz := H.2.1 m
  have hf : f < 6 := by omega
  have hi : i < 16 := by omega
  have hk : 16 * m + i < 64 := by omega
  have hI : vp_in (nI (16 * m + i)) 64 := vp_in_nI hk (by omega)
  have ek : (nI (16 * m + i)).toNatClampNeg = 16 * m + i := nI_clamp (by omega)
  have h14 := H.1 (16 * m + i)
  have hAA := h14.2.1
  have hBB := h14.2.2.1
  have vf : vp_in (nI f) 6 := vp_in_nI hf (by omega)
  have ef : (nI f).toNatClampNeg = f := nI_clamp (by omega)
  have x1e : nI (f + 1) - 1 = nI f := nI_pred f
  have x2e : me (nI f).toNatClampNeg * 16 + pt (nI f).toNatClampNeg = nI (16 * m + i) := by rw [ef, em, ei, ap_xk]
  have f6 : nI f * 6 = nI (6 * f) := by
    have : nI f * 6 = nI (f * 6) := pk_mul f 6
    rw [this, Nat.mul_comm]
  have x3e : nI f * 6 + ap_aA p (nI (16 * m + i)).toNatClampNeg = nI (6 * f + ap_A p (16 * m + i)) := by rw [ap_aAk p hk, f6, nI_add]
  have x4e : nI f * 6 + ap_aB p (nI (16 * m + i)).toNatClampNeg = nI (6 * f + ap_B p (16 * m + i)) := by rw [ap_aBk p hk, f6, nI_add]
  have x5e : ap_oo p (nI (16 * m + i)).toNatClampNeg = (2 : Int32) := by rw [ap_ook p hk, eo]; rfl
  obtain ⟨na, hna, ena⟩ := I1.2.2.2.1 (6 * f + ap_A p (16 * m + i)) (by omega)
  obtain ⟨nb, hnb, enb⟩ := I1.2.2.2.1 (6 * f + ap_B p (16 * m + i)) (by omega)
  have va36 : vp_in (nI (6 * f + ap_A p (16 * m + i))) 36 := vp_in_nI (by omega) (by omega)
  have vb36 : vp_in (nI (6 * f + ap_B p (16 * m + i))) 36 := vp_in_nI (by omega) (by omega)
  have eka : (nI (6 * f + ap_A p (16 * m + i))).toNatClampNeg = 6 * f + ap_A p (16 * m + i) := nI_clamp (by omega)
  have ekb : (nI (6 * f + ap_B p (16 * m + i))).toNatClampNeg = 6 * f + ap_B p (16 * m + i) := nI_clamp (by omega)
  have eP : P (16 * m + i) = PY (16 * m + i) := ap_Pl_u ((hA m hm).2.1 i hiz) ((hA m hm).2.2.2 i hiz)
  have eg : ∀ x : Nat, (if nI x = 0 then (0 : Int32) else 0) = 0 := fun x => by split <;> rfl
  have on : ap_on p (16 * m + i) := ⟨by omega, by omega, by omega⟩
  have scn : i + 1 < ap_Z p m → ap_sc p m i (i + 1) := fun z => ⟨z, Or.inl ⟨on, rfl⟩⟩
  obtain ⟨al', rf', fX', fY', pe', td', ph', es', L', E', dn', K1, K2, K3, K4⟩ := bz_fill (p := p) (po := nI Q) (up := up) (bg := nI (B + 1)) (gX := nI 0) (sa := sa) (sh := sh) (N := N) (P := P) (K := K) (R := R) (me := me) (h := h) (lx := lx) (va := va) (ou := ou) (kn := kn) (gY := nI 0) (oc := (-1)) (rn := rn) (lo := lo) (sA := sA) (sB := sB) (NY := NY) (PY := PY) (KY := KY) (dn := dn) (pe := pe) (td := td) (ph := ph) (es := es) (v := 6 * f + ap_A p (16 * m + i)) (x := 0) (b := 0) (by rw [if_pos rfl]; exact I1) (by omega) (Nat.zero_le _) I2 (Or.inl rfl)
  rw [eg] at K1 K2 K4
  refine ⟨f + 1, M, L', E', Q, 0, 1, -1, up, dn', _, _, _, al', rf', fX', fY', pe', td', ph', es', me, upd pt f (nI (i + 1)), va, ou, Or.inl ⟨rfl, rfl, by omega, rfl⟩,
    ⟨K1, K2, I3, by omega, by omega, by omega, by omega, ag_F_set (b := ap_A p (16 * m + i)) I8 em ei hm hi (ag_ne I2) hnd hiz (by omega) scn _ (fun _ _ => rfl) (Or.inl rfl)⟩, fun post hp => ?_, fun post hp => ?_⟩
  · exact nm_r x1e ⟨vf, vf, nm_r x2e ⟨hI, nm_r x3e ⟨hI, nm_r x4e ⟨hI, nm_r x5e (br_f (by decide) (br_f (by decide) (br_f (by decide) (br_f (by decide) (br_t (by decide) (K3 pt _ (br_f (by decide) ⟨vf, vf, nm_r (e' := upd pt f (nI (i + 1))) (by rw [ef, ei, nI_1]) ⟨rfl, hp⟩⟩)))))))⟩⟩⟩⟩
  · refine by_go hAB hf hk hAA hM (by omega) ena ei (by omega) post (fun z => by omega) (fun z => by omega) (fun z => by omega) (fun z _ => ?_)
    rw [eo]
    exact ⟨vf, nm_r (e' := upd pt f (nI (i + 1))) (by rw [ef]) (br_f (by decide) (br_f (by decide) (br_f (by decide) (br_f (by decide) (br_f (by decide) (br_f (by decide) (br_f (by decide) (br_f (by decide) (br_f (by decide) (br_t (by decide) (K4 (upd pt f (nI (i + 1))) _ hp)))))))))))⟩
theorem bz_op1 (H : ap_OK p) (hAB : ap_AB p sA sB) (hA : ag_A p N P NY PY) (I : ag_I p sh (f + 1) M L E Q B 0 h lx lo al rf fX fY me pt va) (hB : B < 300) (em : me f = nI m) (ei : pt f = nI i) (hm : m < 4) (hiz : i < ap_Z p m)
    (hnd : sh = 1 → ∀ j, j < 6 → h (6 * f + j) ≠ 0 → ap_nd p m i j) (eo : ap_O p (16 * m + i) = 1) :
    ∃ (d' M' L' E' Q' g' : Nat) (r' oc' up' dn' : Int32) (h' lx' lo' al' rf' fX' fY' pe' td' ph' es' me' pt' va' ou' : Nat → Int32),
      ((r' = 1 ∧ oc' = -1 ∧ 1 ≤ d' ∧ g' = 0) ∨ (r' = 1 ∧ oc' = 0 ∧ d' = 0) ∨ (r' = 0 ∧ oc' = 1 ∧ d' = f + 1 ∧ g' = 0)) ∧ ag_I p sh d' M' L' E' Q' (B + 1) g' h' lx' lo' al' rf' fX' fY' me' pt' va' ∧
      (∀ post : Int32 → SX → Prop, post r' (nI Q', nI E', up', dn', nI (B + 1), nI L', nI M', nI g', nI d', sa, sh, ap_sz p, ap_L p, ap_oo p, ap_aA p, ap_aB p, ap_c p, N, P, K, R, me', pt', h', lx', va', rf', al', fX', pe', ou', es') → wpX_perform post (nI Q, nI E, up, dn, nI (B + 1), nI L, nI M, nI 0, nI (f + 1), sa, sh, ap_sz p, ap_L p, ap_oo p, ap_aA p, ap_aB p, ap_c p, N, P, K, R, me, pt, h, lx, va, rf, al, fX, pe, ou, es)) ∧
      (∀ post : SY → Prop, post (kn, nI M', nI L', up', dn', nI d', nI (B + 1), nI g', oc', sh, rn, nI Q', nI E', ap_oo p, sA, sB, ap_c p, ap_sz p, ap_L p, NY, PY, KY, va', fY', al', me', pt', h', lo', ou', es', td', ph') → wpY_carryOut post (kn, nI M, nI L, up, dn, nI (f + 1), nI (B + 1), nI 0, (-1), sh, rn, nI Q, nI E, ap_oo p, sA, sB, ap_c p, ap_sz p, ap_L p, NY, PY, KY, va, fY, al, me, pt, h, lo, ou, es, td, ph) (nI (6 * f)) (nI (16 * m + i))) := by
  obtain ⟨I1, I2, I3, I4, I5, I6, I7, I8⟩ := id I
  obtain ⟨hLc, hL24, hEL, hM, hd⟩ := I1.2.2.2.2.2.2.1
  have hL24' : L + 0 ≤ 24 := hL24
  have hz := H.2.1 m
  have hf : f < 6 := by omega
  have hi : i < 16 := by omega
  have hk : 16 * m + i < 64 := by omega
  have hI : vp_in (nI (16 * m + i)) 64 := vp_in_nI hk (by omega)
  have ek : (nI (16 * m + i)).toNatClampNeg = 16 * m + i := nI_clamp (by omega)
  have h14 := H.1 (16 * m + i)
  have hAA := h14.2.1
  have hBB := h14.2.2.1
  have vf : vp_in (nI f) 6 := vp_in_nI hf (by omega)
  have ef : (nI f).toNatClampNeg = f := nI_clamp (by omega)
  have x1e : nI (f + 1) - 1 = nI f := nI_pred f
  have x2e : me (nI f).toNatClampNeg * 16 + pt (nI f).toNatClampNeg = nI (16 * m + i) := by rw [ef, em, ei, ap_xk]
  have f6 : nI f * 6 = nI (6 * f) := by
    have : nI f * 6 = nI (f * 6) := pk_mul f 6
    rw [this, Nat.mul_comm]
  have x3e : nI f * 6 + ap_aA p (nI (16 * m + i)).toNatClampNeg = nI (6 * f + ap_A p (16 * m + i)) := by rw [ap_aAk p hk, f6, nI_add]
  have x4e : nI f * 6 + ap_aB p (nI (16 * m + i)).toNatClampNeg = nI (6 * f + ap_B p (16 * m + i)) := by rw [ap_aBk p hk, f6, nI_add]
  have x5e : ap_oo p (nI (16 * m + i)).toNatClampNeg = (1 : Int32) := by rw [ap_ook p hk, eo]; rfl
  obtain ⟨na, hna, ena⟩ := I1.2.2.2.1 (6 * f + ap_A p (16 * m + i)) (by omega)
  obtain ⟨nb, hnb, enb⟩ := I1.2.2.2.1 (6 * f + ap_B p (16 * m + i)) (by omega)
  have va36 : vp_in (nI (6 * f + ap_A p (16 * m + i))) 36 := vp_in_nI (by omega) (by omega)
  have vb36 : vp_in (nI (6 * f + ap_B p (16 * m + i))) 36 := vp_in_nI (by omega) (by omega)
  have eka : (nI (6 * f + ap_A p (16 * m + i))).toNatClampNeg = 6 * f + ap_A p (16 * m + i) := nI_clamp (by omega)
  have ekb : (nI (6 * f + ap_B p (16 * m + i))).toNatClampNeg = 6 * f + ap_B p (16 * m + i) := nI_clamp (by omega)
  have eP : P (16 * m + i) = PY (16 * m + i) := ap_Pl_u ((hA m hm).2.1 i hiz) ((hA m hm).2.2.2 i hiz)
  have eg : ∀ x : Nat, (if nI x = 0 then (0 : Int32) else 0) = 0 := fun x => by split <;> rfl
  have on : ap_on p (16 * m + i) := ⟨by omega, by omega, by omega⟩
  have scn : i + 1 < ap_Z p m → ap_sc p m i (i + 1) := fun z => ⟨z, Or.inl ⟨on, rfl⟩⟩
  have y5e : nI (6 * f) + sB (16 * m + i) = nI (6 * f + ap_B p (16 * m + i)) := by rw [(hAB (16 * m + i)).2 (by omega), nI_add]
  have nal : ¬ ap_al p (16 * m + i) := fun z => by unfold ap_al at z; omega
  have alA := ag_alive (n := na) I1 I8 em ei hm hi hnd hiz nal hAA ena hna
  have alB := ag_alive (n := nb) I1 I8 em ei hm hi hnd hiz nal hBB enb hnb
  have mbe : ∃ mb : Int32, ((P (16 * m + i) = 2 ∧ mb = 1) ∨ (¬ P (16 * m + i) = 2 ∧ mb = 0)) := by
    by_cases c : P (16 * m + i) = 2
    · exact ⟨1, Or.inl ⟨c, rfl⟩⟩
    · exact ⟨0, Or.inr ⟨c, rfl⟩⟩
  obtain ⟨mb, hmb⟩ := mbe
  obtain ⟨h1, rf1, up1, T1, T2, T3, T4, T5⟩ := bz_take (p := p) (po := nI Q) (up := up) (bg := nI (B + 1)) (gX := nI 0) (sa := sa) (sh := sh) (N := N) (P := P) (K := K) (R := R) (me := me) (h := h) (lx := lx) (va := va) (ou := ou) (gY := nI 0) (lo := lo) (dn := dn) (pe := pe) (es := es) (pt := pt) (v := 6 * f + ap_B p (16 * m + i)) (n := nb) mb I1 (by omega) enb hnb alB I2
  obtain ⟨al', rf', fX', fY', pe', td', ph', es', L', E', dn', K1, K2, K3, K4⟩ := bz_fill (p := p) (po := nI Q) (up := up1) (bg := nI (B + 1)) (gX := nI 0) (sa := sa) (sh := sh) (N := N) (P := P) (K := K) (R := R) (me := me) (h := h1) (lx := lx) (va := va) (ou := ou) (kn := kn) (gY := nI 0) (oc := (-1)) (rn := rn) (lo := lo) (sA := sA) (sB := sB) (NY := NY) (PY := PY) (KY := KY) (dn := dn) (pe := pe) (td := td) (ph := ph) (es := es) (v := 6 * f + ap_A p (16 * m + i)) (x := nb) (b := 0) (by rw [if_pos rfl]; exact T1) (by omega) hnb T2 (Or.inl rfl)
  rw [eg] at K1 K2 K4
  refine ⟨f + 1, M, L', E', Q, 0, 1, -1, up1, dn', _, _, _, al', rf', fX', fY', pe', td', ph', es', me, upd pt f (nI (i + 1)), va, ou, Or.inl ⟨rfl, rfl, by omega, rfl⟩,
    ⟨K1, K2, I3, by omega, by omega, by omega, by omega, ag_F_set (b := ap_B p (16 * m + i)) I8 em ei hm hi (ag_ne I2) hnd hiz (by omega) scn _ T3 (by rcases T4 with ⟨_, _, q, _⟩ | ⟨_, q, _⟩; exact Or.inr q; exact Or.inl (by rw [q]))⟩, fun post hp => ?_, fun post hp => ?_⟩
  · refine nm_r x1e ⟨vf, vf, nm_r x2e ⟨hI, nm_r x3e ⟨hI, nm_r x4e ⟨hI, nm_r x5e (br_f (by decide) (br_f (by decide) (br_f (by decide) (br_t (by decide) (⟨hI, ?_⟩)))))⟩⟩⟩⟩
    rw [ek]
    rcases hmb with ⟨c, e⟩ | ⟨c, e⟩
    · subst e; exact br_t c (T5 _ (K3 pt _ (br_f (by decide) ⟨vf, vf, nm_r (e' := upd pt f (nI (i + 1))) (by rw [ef, ei, nI_1]) ⟨rfl, hp⟩⟩)))
    · subst e; exact br_f c (T5 _ (K3 pt _ (br_f (by decide) ⟨vf, vf, nm_r (e' := upd pt f (nI (i + 1))) (by rw [ef, ei, nI_1]) ⟨rfl, hp⟩⟩)))
  · refine by_go hAB hf hk hAA hM (by omega) ena ei (by omega) post (fun z => by omega) (fun z => by omega) (fun z => by omega) (fun z _ => ?_)
    rw [eo, y5e]
    refine ⟨vf, nm_r (e' := upd pt f (nI (i + 1))) (by rw [ef]) (br_f (by decide) (br_f (by decide) (br_f (by decide) (br_f (by decide) (br_f (by decide) (br_f (by decide) (br_f (by decide) (br_f (by decide) (br_t (by decide) ?_)))))))))⟩
    refine by_ref (by omega) hk (by omega) enb (h' := h1) (up' := up1) ?_ _ (K4 (upd pt f (nI (i + 1))) _ hp)
    rw [← eP]
    rcases T4 with ⟨q1, q2, q3⟩ | ⟨q1, q2⟩
    · exact Or.inl ⟨q1, by rcases hmb with q | q; exact q.1; exact absurd q.2 q2, q3⟩
    · exact Or.inr ⟨fun z => q1 ⟨z.1, by rcases hmb with q | q; rw [q.2]; decide; exact absurd z.2.1 q.1, z.2.2⟩, q2⟩
theorem bz_op5 (H : ap_OK p) (hAB : ap_AB p sA sB) (hA : ag_A p N P NY PY) (I : ag_I p sh (f + 1) M L E Q B 0 h lx lo al rf fX fY me pt va) (hB : B < 300) (em : me f = nI m) (ei : pt f = nI i) (hm : m < 4) (hiz : i < ap_Z p m)
    (hnd : sh = 1 → ∀ j, j < 6 → h (6 * f + j) ≠ 0 → ap_nd p m i j) (eo : ap_O p (16 * m + i) = 5) :
    ∃ (d' M' L' E' Q' g' : Nat) (r' oc' up' dn' : Int32) (h' lx' lo' al' rf' fX' fY' pe' td' ph' es' me' pt' va' ou' : Nat → Int32),
      ((r' = 1 ∧ oc' = -1 ∧ 1 ≤ d' ∧ g' = 0) ∨ (r' = 1 ∧ oc' = 0 ∧ d' = 0) ∨ (r' = 0 ∧ oc' = 1 ∧ d' = f + 1 ∧ g' = 0)) ∧ ag_I p sh d' M' L' E' Q' (B + 1) g' h' lx' lo' al' rf' fX' fY' me' pt' va' ∧
      (∀ post : Int32 → SX → Prop, post r' (nI Q', nI E', up', dn', nI (B + 1), nI L', nI M', nI g', nI d', sa, sh, ap_sz p, ap_L p, ap_oo p, ap_aA p, ap_aB p, ap_c p, N, P, K, R, me', pt', h', lx', va', rf', al', fX', pe', ou', es') → wpX_perform post (nI Q, nI E, up, dn, nI (B + 1), nI L, nI M, nI 0, nI (f + 1), sa, sh, ap_sz p, ap_L p, ap_oo p, ap_aA p, ap_aB p, ap_c p, N, P, K, R, me, pt, h, lx, va, rf, al, fX, pe, ou, es)) ∧
      (∀ post : SY → Prop, post (kn, nI M', nI L', up', dn', nI d', nI (B + 1), nI g', oc', sh, rn, nI Q', nI E', ap_oo p, sA, sB, ap_c p, ap_sz p, ap_L p, NY, PY, KY, va', fY', al', me', pt', h', lo', ou', es', td', ph') → wpY_carryOut post (kn, nI M, nI L, up, dn, nI (f + 1), nI (B + 1), nI 0, (-1), sh, rn, nI Q, nI E, ap_oo p, sA, sB, ap_c p, ap_sz p, ap_L p, NY, PY, KY, va, fY, al, me, pt, h, lo, ou, es, td, ph) (nI (6 * f)) (nI (16 * m + i))) := by
  obtain ⟨I1, I2, I3, I4, I5, I6, I7, I8⟩ := id I
  obtain ⟨hLc, hL24, hEL, hM, hd⟩ := I1.2.2.2.2.2.2.1
  have hL24' : L + 0 ≤ 24 := hL24
  have hz := H.2.1 m
  have hf : f < 6 := by omega
  have hi : i < 16 := by omega
  have hk : 16 * m + i < 64 := by omega
  have hI : vp_in (nI (16 * m + i)) 64 := vp_in_nI hk (by omega)
  have ek : (nI (16 * m + i)).toNatClampNeg = 16 * m + i := nI_clamp (by omega)
  have h14 := H.1 (16 * m + i)
  have hAA := h14.2.1
  have hBB := h14.2.2.1
  have vf : vp_in (nI f) 6 := vp_in_nI hf (by omega)
  have ef : (nI f).toNatClampNeg = f := nI_clamp (by omega)
  have x1e : nI (f + 1) - 1 = nI f := nI_pred f
  have x2e : me (nI f).toNatClampNeg * 16 + pt (nI f).toNatClampNeg = nI (16 * m + i) := by rw [ef, em, ei, ap_xk]
  have f6 : nI f * 6 = nI (6 * f) := by
    have : nI f * 6 = nI (f * 6) := pk_mul f 6
    rw [this, Nat.mul_comm]
  have x3e : nI f * 6 + ap_aA p (nI (16 * m + i)).toNatClampNeg = nI (6 * f + ap_A p (16 * m + i)) := by rw [ap_aAk p hk, f6, nI_add]
  have x4e : nI f * 6 + ap_aB p (nI (16 * m + i)).toNatClampNeg = nI (6 * f + ap_B p (16 * m + i)) := by rw [ap_aBk p hk, f6, nI_add]
  have x5e : ap_oo p (nI (16 * m + i)).toNatClampNeg = (5 : Int32) := by rw [ap_ook p hk, eo]; rfl
  obtain ⟨na, hna, ena⟩ := I1.2.2.2.1 (6 * f + ap_A p (16 * m + i)) (by omega)
  obtain ⟨nb, hnb, enb⟩ := I1.2.2.2.1 (6 * f + ap_B p (16 * m + i)) (by omega)
  have va36 : vp_in (nI (6 * f + ap_A p (16 * m + i))) 36 := vp_in_nI (by omega) (by omega)
  have vb36 : vp_in (nI (6 * f + ap_B p (16 * m + i))) 36 := vp_in_nI (by omega) (by omega)
  have eka : (nI (6 * f + ap_A p (16 * m + i))).toNatClampNeg = 6 * f + ap_A p (16 * m + i) := nI_clamp (by omega)
  have ekb : (nI (6 * f + ap_B p (16 * m + i))).toNatClampNeg = 6 * f + ap_B p (16 * m + i) := nI_clamp (by omega)
  have eP : P (16 * m + i) = PY (16 * m + i) := ap_Pl_u ((hA m hm).2.1 i hiz) ((hA m hm).2.2.2 i hiz)
  have eg : ∀ x : Nat, (if nI x = 0 then (0 : Int32) else 0) = 0 := fun x => by split <;> rfl
  have on : ap_on p (16 * m + i) := ⟨by omega, by omega, by omega⟩
  have scn : i + 1 < ap_Z p m → ap_sc p m i (i + 1) := fun z => ⟨z, Or.inl ⟨on, rfl⟩⟩
  refine ⟨f + 1, M, L, E, Q + 1, 0, 1, -1, up, dn, h, lx, lo, al, rf, fX, fY, pe, td, ph, es, me, upd pt f (nI (i + 1)), va, upd ou Q (va na), Or.inl ⟨rfl, rfl, by omega, rfl⟩,
    ⟨I1, I2, I3, by omega, by omega, by omega, by omega, ag_F_pc I8 em ei hm hi (ag_ne I2) hnd hiz (by omega) scn⟩, fun post hp => ?_, fun post hp => ?_⟩
  · refine nm_r x1e ⟨vf, vf, nm_r x2e ⟨hI, nm_r x3e ⟨hI, nm_r x4e ⟨hI, nm_r x5e (br_f (by decide) (br_f (by decide) (br_f (by decide) (br_f (by decide) (br_f (by decide) (br_f (by decide) (br_f (by decide) (br_t (by decide) (⟨va36, ?_⟩)))))))))⟩⟩⟩⟩
    rw [eka, ena, nI_clamp (n := na) (by omega)]
    exact ⟨vp_in_nI (by omega) (by omega), ⟨vp_in_nI (by omega) (by omega), nm_r (e' := upd ou Q (va na)) (by rw [nI_clamp (by omega)]) (nm_r (nI_1 Q) (br_f (by decide) ⟨vf, vf, nm_r (e' := upd pt f (nI (i + 1))) (by rw [ef, ei, nI_1]) ⟨rfl, hp⟩⟩))⟩⟩
  · refine by_go hAB hf hk hAA hM (by omega) ena ei (by omega) post (fun z => by omega) (fun z => by omega) (fun z => by omega) (fun z _ => ?_)
    rw [eo]
    refine ⟨vf, nm_r (e' := upd pt f (nI (i + 1))) (by rw [ef]) (br_t (by decide) (nm_r (nI_1 Q) ?_))⟩
    have vQ : vp_in (nI Q) 300 := vp_in_nI (by omega) (by omega)
    by_cases n0 : na = 0
    · subst n0
      exact br_t rfl ⟨vQ, nm_r (e' := upd ou Q (va 0)) (by rw [nI_clamp (by omega), I3]) hp⟩
    · exact br_f (nI_ne0 (by omega) (by omega)) ⟨vp_in_nI (by omega) (by omega), vQ, nm_r (e' := upd ou Q (va na)) (by rw [nI_clamp (by omega), nI_clamp (by omega)]) hp⟩
theorem bz_op6 (H : ap_OK p) (hAB : ap_AB p sA sB) (hA : ag_A p N P NY PY) (I : ag_I p sh (f + 1) M L E Q B 0 h lx lo al rf fX fY me pt va) (hB : B < 300) (em : me f = nI m) (ei : pt f = nI i) (hm : m < 4) (hiz : i < ap_Z p m)
    (hnd : sh = 1 → ∀ j, j < 6 → h (6 * f + j) ≠ 0 → ap_nd p m i j) (eo : ap_O p (16 * m + i) = 6) :
    ∃ (d' M' L' E' Q' g' : Nat) (r' oc' up' dn' : Int32) (h' lx' lo' al' rf' fX' fY' pe' td' ph' es' me' pt' va' ou' : Nat → Int32),
      ((r' = 1 ∧ oc' = -1 ∧ 1 ≤ d' ∧ g' = 0) ∨ (r' = 1 ∧ oc' = 0 ∧ d' = 0) ∨ (r' = 0 ∧ oc' = 1 ∧ d' = f + 1 ∧ g' = 0)) ∧ ag_I p sh d' M' L' E' Q' (B + 1) g' h' lx' lo' al' rf' fX' fY' me' pt' va' ∧
      (∀ post : Int32 → SX → Prop, post r' (nI Q', nI E', up', dn', nI (B + 1), nI L', nI M', nI g', nI d', sa, sh, ap_sz p, ap_L p, ap_oo p, ap_aA p, ap_aB p, ap_c p, N, P, K, R, me', pt', h', lx', va', rf', al', fX', pe', ou', es') → wpX_perform post (nI Q, nI E, up, dn, nI (B + 1), nI L, nI M, nI 0, nI (f + 1), sa, sh, ap_sz p, ap_L p, ap_oo p, ap_aA p, ap_aB p, ap_c p, N, P, K, R, me, pt, h, lx, va, rf, al, fX, pe, ou, es)) ∧
      (∀ post : SY → Prop, post (kn, nI M', nI L', up', dn', nI d', nI (B + 1), nI g', oc', sh, rn, nI Q', nI E', ap_oo p, sA, sB, ap_c p, ap_sz p, ap_L p, NY, PY, KY, va', fY', al', me', pt', h', lo', ou', es', td', ph') → wpY_carryOut post (kn, nI M, nI L, up, dn, nI (f + 1), nI (B + 1), nI 0, (-1), sh, rn, nI Q, nI E, ap_oo p, sA, sB, ap_c p, ap_sz p, ap_L p, NY, PY, KY, va, fY, al, me, pt, h, lo, ou, es, td, ph) (nI (6 * f)) (nI (16 * m + i))) := by
  obtain ⟨I1, I2, I3, I4, I5, I6, I7, I8⟩ := id I
  obtain ⟨hLc, hL24, hEL, hM, hd⟩ := I1.2.2.2.2.2.2.1
  have hL24' : L + 0 ≤ 24 := hL24
  have hz := H.2.1 m
  have hf : f < 6 := by omega
  have hi : i < 16 := by omega
  have hk : 16 * m + i < 64 := by omega
  have hI : vp_in (nI (16 * m + i)) 64 := vp_in_nI hk (by omega)
  have ek : (nI (16 * m + i)).toNatClampNeg = 16 * m + i := nI_clamp (by omega)
  have h14 := H.1 (16 * m + i)
  have hAA := h14.2.1
  have hBB := h14.2.2.1
  have vf : vp_in (nI f) 6 := vp_in_nI hf (by omega)
  have ef : (nI f).toNatClampNeg = f := nI_clamp (by omega)
  have x1e : nI (f + 1) - 1 = nI f := nI_pred f
  have x2e : me (nI f).toNatClampNeg * 16 + pt (nI f).toNatClampNeg = nI (16 * m + i) := by rw [ef, em, ei, ap_xk]
  have f6 : nI f * 6 = nI (6 * f) := by
    have : nI f * 6 = nI (f * 6) := pk_mul f 6
    rw [this, Nat.mul_comm]
  have x3e : nI f * 6 + ap_aA p (nI (16 * m + i)).toNatClampNeg = nI (6 * f + ap_A p (16 * m + i)) := by rw [ap_aAk p hk, f6, nI_add]
  have x4e : nI f * 6 + ap_aB p (nI (16 * m + i)).toNatClampNeg = nI (6 * f + ap_B p (16 * m + i)) := by rw [ap_aBk p hk, f6, nI_add]
  have x5e : ap_oo p (nI (16 * m + i)).toNatClampNeg = (6 : Int32) := by rw [ap_ook p hk, eo]; rfl
  obtain ⟨na, hna, ena⟩ := I1.2.2.2.1 (6 * f + ap_A p (16 * m + i)) (by omega)
  obtain ⟨nb, hnb, enb⟩ := I1.2.2.2.1 (6 * f + ap_B p (16 * m + i)) (by omega)
  have va36 : vp_in (nI (6 * f + ap_A p (16 * m + i))) 36 := vp_in_nI (by omega) (by omega)
  have vb36 : vp_in (nI (6 * f + ap_B p (16 * m + i))) 36 := vp_in_nI (by omega) (by omega)
  have eka : (nI (6 * f + ap_A p (16 * m + i))).toNatClampNeg = 6 * f + ap_A p (16 * m + i) := nI_clamp (by omega)
  have ekb : (nI (6 * f + ap_B p (16 * m + i))).toNatClampNeg = 6 * f + ap_B p (16 * m + i) := nI_clamp (by omega)
  have eP : P (16 * m + i) = PY (16 * m + i) := ap_Pl_u ((hA m hm).2.1 i hiz) ((hA m hm).2.2.2 i hiz)
  have eg : ∀ x : Nat, (if nI x = 0 then (0 : Int32) else 0) = 0 := fun x => by split <;> rfl
  have on : ap_on p (16 * m + i) := ⟨by omega, by omega, by omega⟩
  have scn : i + 1 < ap_Z p m → ap_sc p m i (i + 1) := fun z => ⟨z, Or.inl ⟨on, rfl⟩⟩
  by_cases n0 : na = 0
  · subst n0
    refine ⟨f + 1, M, L, E, Q, 0, 0, 1, up, dn, h, lx, lo, al, rf, fX, fY, pe, td, ph, es, me, pt, va, ou, Or.inr (Or.inr ⟨rfl, rfl, rfl, rfl⟩), ⟨I1, I2, I3, by omega, by omega, by omega, I7, I8⟩, fun post hp => ?_, fun post hp => ?_⟩
    · exact nm_r x1e ⟨vf, vf, nm_r x2e ⟨hI, nm_r x3e ⟨hI, nm_r x4e ⟨hI, nm_r x5e (br_f (by decide) (br_f (by decide) (br_f (by decide) (br_f (by decide) (br_f (by decide) (br_f (by decide) (br_f (by decide) (br_f (by decide) (br_t (by decide) (⟨va36, br_t (by rw [eka]; exact ena) (br_t rfl ⟨rfl, hp⟩)⟩))))))))))⟩⟩⟩⟩
    · exact by_fail hAB hf hk hAA hM (by omega) (by omega) ena (by omega) (by omega) (by omega) (by omega) post (Or.inr (Or.inl ⟨Or.inr eo, rfl⟩)) hp
  · have nn0 : ¬ nI na = 0 := nI_ne0 (by omega) (by omega)
    refine ⟨f + 1, M, L, E, Q, 0, 1, -1, up, dn, h, lx, lo, al, rf, fX, fY, pe, td, ph, es, me, upd pt f (nI (i + 1)), upd va na (va na + ap_c p (16 * m + i)), ou, Or.inl ⟨rfl, rfl, by omega, rfl⟩,
      ⟨I1, I2, by rw [pk_un (by omega)]; exact I3, by omega, by omega, by omega, by omega, ag_F_pc I8 em ei hm hi (ag_ne I2) hnd hiz (by omega) scn⟩, fun post hp => ?_, fun post hp => ?_⟩
    · have vn : vp_in (nI na) 301 := vp_in_nI (by omega) (by omega)
      refine nm_r x1e ⟨vf, vf, nm_r x2e ⟨hI, nm_r x3e ⟨hI, nm_r x4e ⟨hI, nm_r x5e (br_f (by decide) (br_f (by decide) (br_f (by decide) (br_f (by decide) (br_f (by decide) (br_f (by decide) (br_f (by decide) (br_f (by decide) (br_t (by decide) (⟨va36, ?_⟩))))))))))⟩⟩⟩⟩
      rw [eka, ena, ap_ck p hk, nI_clamp (n := na) (by omega)]
      exact br_f nn0 ⟨va36, vn, hI, vn, nm_e (br_f (by decide) ⟨vf, vf, nm_r (e' := upd pt f (nI (i + 1))) (by rw [ef, ei, nI_1]) ⟨rfl, hp⟩⟩)⟩
    · refine by_go hAB hf hk hAA hM (by omega) ena ei (by omega) post (fun z => by omega) (fun z => nn0) (fun z => by omega) (fun z _ => ?_)
      rw [eo]
      have vn : vp_in (nI na) 301 := vp_in_nI (by omega) (by omega)
      exact ⟨vf, nm_r (e' := upd pt f (nI (i + 1))) (by rw [ef]) (br_f (by decide) (br_f (by decide) (br_t (by decide) ⟨vn, vn, nm_r (e' := upd va na (va na + ap_c p (16 * m + i))) (by rw [nI_clamp (by omega)]) hp⟩)))⟩
theorem bz_op7 (H : ap_OK p) (hAB : ap_AB p sA sB) (hA : ag_A p N P NY PY) (I : ag_I p sh (f + 1) M L E Q B 0 h lx lo al rf fX fY me pt va) (hB : B < 300) (em : me f = nI m) (ei : pt f = nI i) (hm : m < 4) (hiz : i < ap_Z p m)
    (hnd : sh = 1 → ∀ j, j < 6 → h (6 * f + j) ≠ 0 → ap_nd p m i j) (eo : ap_O p (16 * m + i) = 7) :
    ∃ (d' M' L' E' Q' g' : Nat) (r' oc' up' dn' : Int32) (h' lx' lo' al' rf' fX' fY' pe' td' ph' es' me' pt' va' ou' : Nat → Int32),
      ((r' = 1 ∧ oc' = -1 ∧ 1 ≤ d' ∧ g' = 0) ∨ (r' = 1 ∧ oc' = 0 ∧ d' = 0) ∨ (r' = 0 ∧ oc' = 1 ∧ d' = f + 1 ∧ g' = 0)) ∧ ag_I p sh d' M' L' E' Q' (B + 1) g' h' lx' lo' al' rf' fX' fY' me' pt' va' ∧
      (∀ post : Int32 → SX → Prop, post r' (nI Q', nI E', up', dn', nI (B + 1), nI L', nI M', nI g', nI d', sa, sh, ap_sz p, ap_L p, ap_oo p, ap_aA p, ap_aB p, ap_c p, N, P, K, R, me', pt', h', lx', va', rf', al', fX', pe', ou', es') → wpX_perform post (nI Q, nI E, up, dn, nI (B + 1), nI L, nI M, nI 0, nI (f + 1), sa, sh, ap_sz p, ap_L p, ap_oo p, ap_aA p, ap_aB p, ap_c p, N, P, K, R, me, pt, h, lx, va, rf, al, fX, pe, ou, es)) ∧
      (∀ post : SY → Prop, post (kn, nI M', nI L', up', dn', nI d', nI (B + 1), nI g', oc', sh, rn, nI Q', nI E', ap_oo p, sA, sB, ap_c p, ap_sz p, ap_L p, NY, PY, KY, va', fY', al', me', pt', h', lo', ou', es', td', ph') → wpY_carryOut post (kn, nI M, nI L, up, dn, nI (f + 1), nI (B + 1), nI 0, (-1), sh, rn, nI Q, nI E, ap_oo p, sA, sB, ap_c p, ap_sz p, ap_L p, NY, PY, KY, va, fY, al, me, pt, h, lo, ou, es, td, ph) (nI (6 * f)) (nI (16 * m + i))) := by
  obtain ⟨I1, I2, I3, I4, I5, I6, I7, I8⟩ := id I
  obtain ⟨hLc, hL24, hEL, hM, hd⟩ := I1.2.2.2.2.2.2.1
  have hL24' : L + 0 ≤ 24 := hL24
  have hz := H.2.1 m
  have hf : f < 6 := by omega
  have hi : i < 16 := by omega
  have hk : 16 * m + i < 64 := by omega
  have hI : vp_in (nI (16 * m + i)) 64 := vp_in_nI hk (by omega)
  have ek : (nI (16 * m + i)).toNatClampNeg = 16 * m + i := nI_clamp (by omega)
  have h14 := H.1 (16 * m + i)
  have hAA := h14.2.1
  have hBB := h14.2.2.1
  have vf : vp_in (nI f) 6 := vp_in_nI hf (by omega)
  have ef : (nI f).toNatClampNeg = f := nI_clamp (by omega)
  have x1e : nI (f + 1) - 1 = nI f := nI_pred f
  have x2e : me (nI f).toNatClampNeg * 16 + pt (nI f).toNatClampNeg = nI (16 * m + i) := by rw [ef, em, ei, ap_xk]
  have f6 : nI f * 6 = nI (6 * f) := by
    have : nI f * 6 = nI (f * 6) := pk_mul f 6
    rw [this, Nat.mul_comm]
  have x3e : nI f * 6 + ap_aA p (nI (16 * m + i)).toNatClampNeg = nI (6 * f + ap_A p (16 * m + i)) := by rw [ap_aAk p hk, f6, nI_add]
  have x4e : nI f * 6 + ap_aB p (nI (16 * m + i)).toNatClampNeg = nI (6 * f + ap_B p (16 * m + i)) := by rw [ap_aBk p hk, f6, nI_add]
  have x5e : ap_oo p (nI (16 * m + i)).toNatClampNeg = (7 : Int32) := by rw [ap_ook p hk, eo]; rfl
  obtain ⟨na, hna, ena⟩ := I1.2.2.2.1 (6 * f + ap_A p (16 * m + i)) (by omega)
  obtain ⟨nb, hnb, enb⟩ := I1.2.2.2.1 (6 * f + ap_B p (16 * m + i)) (by omega)
  have va36 : vp_in (nI (6 * f + ap_A p (16 * m + i))) 36 := vp_in_nI (by omega) (by omega)
  have vb36 : vp_in (nI (6 * f + ap_B p (16 * m + i))) 36 := vp_in_nI (by omega) (by omega)
  have eka : (nI (6 * f + ap_A p (16 * m + i))).toNatClampNeg = 6 * f + ap_A p (16 * m + i) := nI_clamp (by omega)
  have ekb : (nI (6 * f + ap_B p (16 * m + i))).toNatClampNeg = 6 * f + ap_B p (16 * m + i) := nI_clamp (by omega)
  have eP : P (16 * m + i) = PY (16 * m + i) := ap_Pl_u ((hA m hm).2.1 i hiz) ((hA m hm).2.2.2 i hiz)
  have eg : ∀ x : Nat, (if nI x = 0 then (0 : Int32) else 0) = 0 := fun x => by split <;> rfl
  have on : ap_on p (16 * m + i) := ⟨by omega, by omega, by omega⟩
  have scn : i + 1 < ap_Z p m → ap_sc p m i (i + 1) := fun z => ⟨z, Or.inl ⟨on, rfl⟩⟩
  have ho : ∃ z : Int32, ((z = 1 ∧ 1 ≤ na ∧ lo (6 * f + ap_A p (16 * m + i)) = 0 ∧ ac_N (nI 0) h lo (f + 1) fY M na = 1) ∨ (z = 0 ∧ ¬ (1 ≤ na ∧ lo (6 * f + ap_A p (16 * m + i)) = 0 ∧ ac_N (nI 0) h lo (f + 1) fY M na = 1))) := by
    by_cases c : 1 ≤ na ∧ lo (6 * f + ap_A p (16 * m + i)) = 0 ∧ ac_N (nI 0) h lo (f + 1) fY M na = 1
    · exact ⟨1, Or.inl ⟨rfl, c⟩⟩
    · exact ⟨0, Or.inr ⟨rfl, c⟩⟩
  obtain ⟨z, hz'⟩ := ho
  refine ⟨f + 1, M, L, E, Q + 1, 0, 1, -1, up, dn, h, lx, lo, al, rf, fX, fY, pe, td, ph, es, me, upd pt f (nI (i + 1)), va, upd ou Q z, Or.inl ⟨rfl, rfl, by omega, rfl⟩,
    ⟨I1, I2, I3, by omega, by omega, by omega, by omega, ag_F_pc I8 em ei hm hi (ag_ne I2) hnd hiz (by omega) scn⟩, fun post hp => ?_, fun post hp => ?_⟩
  · have vQ : vp_in (nI Q) 300 := vp_in_nI (by omega) (by omega)
    refine nm_r x1e ⟨vf, vf, nm_r x2e ⟨hI, nm_r x3e ⟨hI, nm_r x4e ⟨hI, nm_r x5e (br_f (by decide) (br_f (by decide) (br_f (by decide) (br_f (by decide) (br_f (by decide) (br_f (by decide) (br_f (by decide) (br_f (by decide) (br_f (by decide) (br_t (by decide) (?_)))))))))))⟩⟩⟩⟩
    unfold wpX_putOnly
    refine bx_only (na := na) (by omega) (by omega) hna ena I1 I2 _ (fun c => ?_) (fun c => ?_)
    · have ez : z = 1 := by rcases hz' with q | q; exact q.1; exact absurd c q.2
      subst ez
      exact br_f (by decide) ⟨vQ, nm_r (e' := upd ou Q 1) (by rw [nI_clamp (by omega)]) (nm_r (nI_1 Q) (br_f (by decide) ⟨vf, vf, nm_r (e' := upd pt f (nI (i + 1))) (by rw [ef, ei, nI_1]) ⟨rfl, hp⟩⟩))⟩
    · have ez : z = 0 := by rcases hz' with q | q; exact absurd q.2 c; exact q.1
      subst ez
      exact br_t rfl ⟨vQ, nm_r (e' := upd ou Q 0) (by rw [nI_clamp (by omega)]) (nm_r (nI_1 Q) (br_f (by decide) ⟨vf, vf, nm_r (e' := upd pt f (nI (i + 1))) (by rw [ef, ei, nI_1]) ⟨rfl, hp⟩⟩))⟩
  · refine by_go hAB hf hk hAA hM (by omega) ena ei (by omega) post (fun z => by omega) (fun z => by omega) (fun z => by omega) (fun y hy => ?_)
    rw [eo]
    have vQ : vp_in (nI Q) 300 := vp_in_nI (by omega) (by omega)
    have eyz : y = z := by
      rcases hy with ⟨a, b⟩ | ⟨a, b⟩ <;> rcases hz' with ⟨c, d⟩ | ⟨c, d⟩
      · rw [a, c]
      · exact absurd b d
      · exact absurd d b
      · rw [a, c]
    subst eyz
    refine ⟨vf, nm_r (e' := upd pt f (nI (i + 1))) (by rw [ef]) (br_f (by decide) (br_t (by decide) (nm_r (nI_1 Q) ?_)))⟩
    rcases hy with ⟨a, _⟩ | ⟨a, _⟩
    · exact br_f (by rw [a]; decide) ⟨vQ, nm_r (e' := upd ou Q y) (by rw [nI_clamp (by omega), a]) hp⟩
    · exact br_t a ⟨vQ, nm_r (e' := upd ou Q y) (by rw [nI_clamp (by omega), a]) hp⟩
theorem bz_op9 (H : ap_OK p) (hAB : ap_AB p sA sB) (hA : ag_A p N P NY PY) (I : ag_I p sh (f + 1) M L E Q B 0 h lx lo al rf fX fY me pt va) (hB : B < 300) (em : me f = nI m) (ei : pt f = nI i) (hm : m < 4) (hiz : i < ap_Z p m)
    (hnd : sh = 1 → ∀ j, j < 6 → h (6 * f + j) ≠ 0 → ap_nd p m i j) (eo : ap_O p (16 * m + i) = 9) :
    ∃ (d' M' L' E' Q' g' : Nat) (r' oc' up' dn' : Int32) (h' lx' lo' al' rf' fX' fY' pe' td' ph' es' me' pt' va' ou' : Nat → Int32),
      ((r' = 1 ∧ oc' = -1 ∧ 1 ≤ d' ∧ g' = 0) ∨ (r' = 1 ∧ oc' = 0 ∧ d' = 0) ∨ (r' = 0 ∧ oc' = 1 ∧ d' = f + 1 ∧ g' = 0)) ∧ ag_I p sh d' M' L' E' Q' (B + 1) g' h' lx' lo' al' rf' fX' fY' me' pt' va' ∧
      (∀ post : Int32 → SX → Prop, post r' (nI Q', nI E', up', dn', nI (B + 1), nI L', nI M', nI g', nI d', sa, sh, ap_sz p, ap_L p, ap_oo p, ap_aA p, ap_aB p, ap_c p, N, P, K, R, me', pt', h', lx', va', rf', al', fX', pe', ou', es') → wpX_perform post (nI Q, nI E, up, dn, nI (B + 1), nI L, nI M, nI 0, nI (f + 1), sa, sh, ap_sz p, ap_L p, ap_oo p, ap_aA p, ap_aB p, ap_c p, N, P, K, R, me, pt, h, lx, va, rf, al, fX, pe, ou, es)) ∧
      (∀ post : SY → Prop, post (kn, nI M', nI L', up', dn', nI d', nI (B + 1), nI g', oc', sh, rn, nI Q', nI E', ap_oo p, sA, sB, ap_c p, ap_sz p, ap_L p, NY, PY, KY, va', fY', al', me', pt', h', lo', ou', es', td', ph') → wpY_carryOut post (kn, nI M, nI L, up, dn, nI (f + 1), nI (B + 1), nI 0, (-1), sh, rn, nI Q, nI E, ap_oo p, sA, sB, ap_c p, ap_sz p, ap_L p, NY, PY, KY, va, fY, al, me, pt, h, lo, ou, es, td, ph) (nI (6 * f)) (nI (16 * m + i))) := by
  obtain ⟨I1, I2, I3, I4, I5, I6, I7, I8⟩ := id I
  obtain ⟨hLc, hL24, hEL, hM, hd⟩ := I1.2.2.2.2.2.2.1
  have hL24' : L + 0 ≤ 24 := hL24
  have hz := H.2.1 m
  have hf : f < 6 := by omega
  have hi : i < 16 := by omega
  have hk : 16 * m + i < 64 := by omega
  have hI : vp_in (nI (16 * m + i)) 64 := vp_in_nI hk (by omega)
  have ek : (nI (16 * m + i)).toNatClampNeg = 16 * m + i := nI_clamp (by omega)
  have h14 := H.1 (16 * m + i)
  have hAA := h14.2.1
  have hBB := h14.2.2.1
  have vf : vp_in (nI f) 6 := vp_in_nI hf (by omega)
  have ef : (nI f).toNatClampNeg = f := nI_clamp (by omega)
  have x1e : nI (f + 1) - 1 = nI f := nI_pred f
  have x2e : me (nI f).toNatClampNeg * 16 + pt (nI f).toNatClampNeg = nI (16 * m + i) := by rw [ef, em, ei, ap_xk]
  have f6 : nI f * 6 = nI (6 * f) := by
    have : nI f * 6 = nI (f * 6) := pk_mul f 6
    rw [this, Nat.mul_comm]
  have x3e : nI f * 6 + ap_aA p (nI (16 * m + i)).toNatClampNeg = nI (6 * f + ap_A p (16 * m + i)) := by rw [ap_aAk p hk, f6, nI_add]
  have x4e : nI f * 6 + ap_aB p (nI (16 * m + i)).toNatClampNeg = nI (6 * f + ap_B p (16 * m + i)) := by rw [ap_aBk p hk, f6, nI_add]
  have x5e : ap_oo p (nI (16 * m + i)).toNatClampNeg = (9 : Int32) := by rw [ap_ook p hk, eo]; rfl
  obtain ⟨na, hna, ena⟩ := I1.2.2.2.1 (6 * f + ap_A p (16 * m + i)) (by omega)
  obtain ⟨nb, hnb, enb⟩ := I1.2.2.2.1 (6 * f + ap_B p (16 * m + i)) (by omega)
  have va36 : vp_in (nI (6 * f + ap_A p (16 * m + i))) 36 := vp_in_nI (by omega) (by omega)
  have vb36 : vp_in (nI (6 * f + ap_B p (16 * m + i))) 36 := vp_in_nI (by omega) (by omega)
  have eka : (nI (6 * f + ap_A p (16 * m + i))).toNatClampNeg = 6 * f + ap_A p (16 * m + i) := nI_clamp (by omega)
  have ekb : (nI (6 * f + ap_B p (16 * m + i))).toNatClampNeg = 6 * f + ap_B p (16 * m + i) := nI_clamp (by omega)
  have eP : P (16 * m + i) = PY (16 * m + i) := ap_Pl_u ((hA m hm).2.1 i hiz) ((hA m hm).2.2.2 i hiz)
  have eg : ∀ x : Nat, (if nI x = 0 then (0 : Int32) else 0) = 0 := fun x => by split <;> rfl
  have on : ap_on p (16 * m + i) := ⟨by omega, by omega, by omega⟩
  have scn : i + 1 < ap_Z p m → ap_sc p m i (i + 1) := fun z => ⟨z, Or.inl ⟨on, rfl⟩⟩
  obtain ⟨ec, lc⟩ := h14.2.2.2.2.1 (Or.inl eo)
  have scj : ap_C p (16 * m + i) < ap_Z p m → ap_sc p m i (ap_C p (16 * m + i)) := fun z => ⟨z, Or.inr ⟨Or.inl eo, rfl⟩⟩
  have Yc : ∀ (post : SY → Prop) (s : Nat), (na = 0 ∧ s = ap_C p (16 * m + i) ∨ 1 ≤ na ∧ s = i + 1) → post (kn, nI M, nI L, up, dn, nI (f + 1), nI (B + 1), nI 0, (-1), sh, rn, nI Q, nI E, ap_oo p, sA, sB, ap_c p, ap_sz p, ap_L p, NY, PY, KY, va, fY, al, me, upd pt f (nI s), h, lo, ou, es, td, ph) → wpY_carryOut post (kn, nI M, nI L, up, dn, nI (f + 1), nI (B + 1), nI 0, (-1), sh, rn, nI Q, nI E, ap_oo p, sA, sB, ap_c p, ap_sz p, ap_L p, NY, PY, KY, va, fY, al, me, pt, h, lo, ou, es, td, ph) (nI (6 * f)) (nI (16 * m + i)) := by
    intro post s hs hp
    refine by_pre hAB hf hk hAA (by omega) (by omega) (by omega) post ?_
    rw [ena, eo]
    refine by_58 (by omega) post _ _ _ _ _ (fun z => by omega) (fun z => by omega) (fun z => by omega) (fun z => by omega) (by_134 hM (by omega) (by omega) (by omega) post _ _ _ _ _ (fun z _ => ?_))
    have tail : wY_carryOut_294 post (nI (16 * m + i)) (nI 9) (nI (6 * f + ap_A p (16 * m + i))) (nI (6 * f) + sB (16 * m + i)) (ap_c p (16 * m + i)) (nI na) z (nI s) (nI f) kn (nI M) (nI L) up dn (nI (f + 1)) (nI (B + 1)) (nI 0) (-1) sh rn (nI Q) (nI E) (ap_oo p) sA sB (ap_c p) (ap_sz p) (ap_L p) NY PY KY va fY al me pt h lo ou es td ph :=
      ⟨vf, nm_r (e' := upd pt f (nI s)) (by rw [ef]) (br_f (by decide) (br_f (by decide) (br_f (by decide) (br_f (by decide) (br_t (by decide) hp)))))⟩
    refine br_f (by decide) (br_t rfl (br_f (by decide) (br_f (by decide) (br_f (by decide) (br_f (by decide) (br_t (by decide) ?_))))))
    rcases hs with ⟨e, es'⟩ | ⟨e, es'⟩
    · subst e
      refine br_t rfl ?_
      rw [es', ← ec] at tail
      unfold wY_carryOut_276
      rw [nI_pred]
      exact tail
    · refine br_f (nI_ne0 (by omega) (by omega)) ?_
      unfold wY_carryOut_281
      rw [nI_pred, nI_clamp (n := f) (by omega), ei, nI_1]
      rw [es'] at tail
      exact ⟨vf, tail⟩
  by_cases n0 : na = 0
  · refine ⟨f + 1, M, L, E, Q, 0, 1, -1, up, dn, h, lx, lo, al, rf, fX, fY, pe, td, ph, es, me, upd pt f (nI (ap_C p (16 * m + i))), va, ou, Or.inl ⟨rfl, rfl, by omega, rfl⟩,
      ⟨I1, I2, I3, by omega, by omega, by omega, by omega, ag_F_pc I8 em ei hm hi (ag_ne I2) hnd hiz (by omega) scj⟩, fun post hp => ?_, fun post hp => Yc post _ (Or.inl ⟨n0, rfl⟩) hp⟩
    exact nm_r x1e ⟨vf, vf, nm_r x2e ⟨hI, nm_r x3e ⟨hI, nm_r x4e ⟨hI, nm_r x5e (br_f (by decide) (br_f (by decide) (br_f (by decide) (br_f (by decide) (br_f (by decide) (br_f (by decide) (br_f (by decide) (br_f (by decide) (br_f (by decide) (br_f (by decide) (br_f (by decide) (br_t (by decide) (⟨va36, br_t (by rw [eka, ena, n0]; rfl) ⟨hI, vf, nm_r (e' := upd pt f (nI (ap_C p (16 * m + i)))) (by rw [ef, ap_ck p hk, ec]) hp⟩⟩)))))))))))))⟩⟩⟩⟩
  · refine ⟨f + 1, M, L, E, Q, 0, 1, -1, up, dn, h, lx, lo, al, rf, fX, fY, pe, td, ph, es, me, upd pt f (nI (i + 1)), va, ou, Or.inl ⟨rfl, rfl, by omega, rfl⟩,
      ⟨I1, I2, I3, by omega, by omega, by omega, by omega, ag_F_pc I8 em ei hm hi (ag_ne I2) hnd hiz (by omega) scn⟩, fun post hp => ?_, fun post hp => Yc post _ (Or.inr ⟨by omega, rfl⟩) hp⟩
    exact nm_r x1e ⟨vf, vf, nm_r x2e ⟨hI, nm_r x3e ⟨hI, nm_r x4e ⟨hI, nm_r x5e (br_f (by decide) (br_f (by decide) (br_f (by decide) (br_f (by decide) (br_f (by decide) (br_f (by decide) (br_f (by decide) (br_f (by decide) (br_f (by decide) (br_f (by decide) (br_f (by decide) (br_t (by decide) (⟨va36, br_f (by rw [eka, ena]; exact nI_ne0 (by omega) (by omega)) ⟨vf, vf, nm_r (e' := upd pt f (nI (i + 1))) (by rw [ef, ei, nI_1]) hp⟩⟩)))))))))))))⟩⟩⟩⟩
theorem bz_op10 (H : ap_OK p) (hAB : ap_AB p sA sB) (hA : ag_A p N P NY PY) (I : ag_I p sh (f + 1) M L E Q B 0 h lx lo al rf fX fY me pt va) (hB : B < 300) (em : me f = nI m) (ei : pt f = nI i) (hm : m < 4) (hiz : i < ap_Z p m)
    (hnd : sh = 1 → ∀ j, j < 6 → h (6 * f + j) ≠ 0 → ap_nd p m i j) (eo : ap_O p (16 * m + i) = 10) :
    ∃ (d' M' L' E' Q' g' : Nat) (r' oc' up' dn' : Int32) (h' lx' lo' al' rf' fX' fY' pe' td' ph' es' me' pt' va' ou' : Nat → Int32),
      ((r' = 1 ∧ oc' = -1 ∧ 1 ≤ d' ∧ g' = 0) ∨ (r' = 1 ∧ oc' = 0 ∧ d' = 0) ∨ (r' = 0 ∧ oc' = 1 ∧ d' = f + 1 ∧ g' = 0)) ∧ ag_I p sh d' M' L' E' Q' (B + 1) g' h' lx' lo' al' rf' fX' fY' me' pt' va' ∧
      (∀ post : Int32 → SX → Prop, post r' (nI Q', nI E', up', dn', nI (B + 1), nI L', nI M', nI g', nI d', sa, sh, ap_sz p, ap_L p, ap_oo p, ap_aA p, ap_aB p, ap_c p, N, P, K, R, me', pt', h', lx', va', rf', al', fX', pe', ou', es') → wpX_perform post (nI Q, nI E, up, dn, nI (B + 1), nI L, nI M, nI 0, nI (f + 1), sa, sh, ap_sz p, ap_L p, ap_oo p, ap_aA p, ap_aB p, ap_c p, N, P, K, R, me, pt, h, lx, va, rf, al, fX, pe, ou, es)) ∧
      (∀ post : SY → Prop, post (kn, nI M', nI L', up', dn', nI d', nI (B + 1), nI g', oc', sh, rn, nI Q', nI E', ap_oo p, sA, sB, ap_c p, ap_sz p, ap_L p, NY, PY, KY, va', fY', al', me', pt', h', lo', ou', es', td', ph') → wpY_carryOut post (kn, nI M, nI L, up, dn, nI (f + 1), nI (B + 1), nI 0, (-1), sh, rn, nI Q, nI E, ap_oo p, sA, sB, ap_c p, ap_sz p, ap_L p, NY, PY, KY, va, fY, al, me, pt, h, lo, ou, es, td, ph) (nI (6 * f)) (nI (16 * m + i))) := by
  obtain ⟨I1, I2, I3, I4, I5, I6, I7, I8⟩ := id I
  obtain ⟨hLc, hL24, hEL, hM, hd⟩ := I1.2.2.2.2.2.2.1
  have hL24' : L + 0 ≤ 24 := hL24
  have hz := H.2.1 m
  have hf : f < 6 := by omega
  have hi : i < 16 := by omega
  have hk : 16 * m + i < 64 := by omega
  have hI : vp_in (nI (16 * m + i)) 64 := vp_in_nI hk (by omega)
  have ek : (nI (16 * m + i)).toNatClampNeg = 16 * m + i := nI_clamp (by omega)
  have h14 := H.1 (16 * m + i)
  have hAA := h14.2.1
  have hBB := h14.2.2.1
  have vf : vp_in (nI f) 6 := vp_in_nI hf (by omega)
  have ef : (nI f).toNatClampNeg = f := nI_clamp (by omega)
  have x1e : nI (f + 1) - 1 = nI f := nI_pred f
  have x2e : me (nI f).toNatClampNeg * 16 + pt (nI f).toNatClampNeg = nI (16 * m + i) := by rw [ef, em, ei, ap_xk]
  have f6 : nI f * 6 = nI (6 * f) := by
    have : nI f * 6 = nI (f * 6) := pk_mul f 6
    rw [this, Nat.mul_comm]
  have x3e : nI f * 6 + ap_aA p (nI (16 * m + i)).toNatClampNeg = nI (6 * f + ap_A p (16 * m + i)) := by rw [ap_aAk p hk, f6, nI_add]
  have x4e : nI f * 6 + ap_aB p (nI (16 * m + i)).toNatClampNeg = nI (6 * f + ap_B p (16 * m + i)) := by rw [ap_aBk p hk, f6, nI_add]
  have x5e : ap_oo p (nI (16 * m + i)).toNatClampNeg = (10 : Int32) := by rw [ap_ook p hk, eo]; rfl
  obtain ⟨na, hna, ena⟩ := I1.2.2.2.1 (6 * f + ap_A p (16 * m + i)) (by omega)
  obtain ⟨nb, hnb, enb⟩ := I1.2.2.2.1 (6 * f + ap_B p (16 * m + i)) (by omega)
  have va36 : vp_in (nI (6 * f + ap_A p (16 * m + i))) 36 := vp_in_nI (by omega) (by omega)
  have vb36 : vp_in (nI (6 * f + ap_B p (16 * m + i))) 36 := vp_in_nI (by omega) (by omega)
  have eka : (nI (6 * f + ap_A p (16 * m + i))).toNatClampNeg = 6 * f + ap_A p (16 * m + i) := nI_clamp (by omega)
  have ekb : (nI (6 * f + ap_B p (16 * m + i))).toNatClampNeg = 6 * f + ap_B p (16 * m + i) := nI_clamp (by omega)
  have eP : P (16 * m + i) = PY (16 * m + i) := ap_Pl_u ((hA m hm).2.1 i hiz) ((hA m hm).2.2.2 i hiz)
  have eg : ∀ x : Nat, (if nI x = 0 then (0 : Int32) else 0) = 0 := fun x => by split <;> rfl
  obtain ⟨ec, lc⟩ := h14.2.2.2.2.1 (Or.inr eo)
  have scj : ap_C p (16 * m + i) < ap_Z p m → ap_sc p m i (ap_C p (16 * m + i)) := fun z => ⟨z, Or.inr ⟨Or.inr eo, rfl⟩⟩
  refine ⟨f + 1, M, L, E, Q, 0, 1, -1, up, dn, h, lx, lo, al, rf, fX, fY, pe, td, ph, es, me, upd pt f (nI (ap_C p (16 * m + i))), va, ou, Or.inl ⟨rfl, rfl, by omega, rfl⟩,
    ⟨I1, I2, I3, by omega, by omega, by omega, by omega, ag_F_pc I8 em ei hm hi (ag_ne I2) hnd hiz (by omega) scj⟩, fun post hp => ?_, fun post hp => ?_⟩
  · exact nm_r x1e ⟨vf, vf, nm_r x2e ⟨hI, nm_r x3e ⟨hI, nm_r x4e ⟨hI, nm_r x5e (br_f (by decide) (br_f (by decide) (br_f (by decide) (br_f (by decide) (br_f (by decide) (br_f (by decide) (br_f (by decide) (br_f (by decide) (br_f (by decide) (br_f (by decide) (br_f (by decide) (br_f (by decide) (br_t (by decide) (⟨hI, vf, nm_r (e' := upd pt f (nI (ap_C p (16 * m + i)))) (by rw [ef, ap_ck p hk, ec]) hp⟩))))))))))))))⟩⟩⟩⟩
  · refine ⟨hI, nm_r x5e ⟨hI, nm_e ⟨hI, nm_e ⟨hI, nm_r (ap_ck p hk) (br_t (by decide) (br_f (by decide) (br_f (by decide) (br_f (by decide) (br_f (by decide) (br_f (by decide) (br_t (by decide) (br_f (by decide) (br_t rfl (br_f (by decide) (br_f (by decide) (br_f (by decide) (br_t (by decide) ?_)))))))))))))⟩⟩⟩⟩
    unfold wY_carryOut_276
    rw [nI_pred]
    exact ⟨vf, nm_r (e' := upd pt f (nI (ap_C p (16 * m + i)))) (by rw [ef, ec]) (br_f (by decide) (br_f (by decide) (br_f (by decide) (br_f (by decide) (br_t (by decide) hp)))))⟩
end
