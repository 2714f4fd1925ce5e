section
variable {p : ap_T} {kn po en up dn bg lv md gX gY dp sa sh oc rn : Int32} {sA sB N P K R NY PY KY me pt h lx lo va rf al fX fY pe ou es td ph : Nat → Int32}
variable {d M L E s len c y : Nat}
theorem bx_it0 (post : SX → Prop) {n : Nat} (hs : s < 49) (hl : len < 49) (e : pe len = 0) (hp : wX_letGo_11 post n (nI len) (nI (s + 1)) po (nI E) up dn bg (nI L) (nI M) gX (nI d) sa sh (ap_sz p) (ap_L p) (ap_oo p) (ap_aA p) (ap_aB p) (ap_c p) N P K R me pt h lx va rf al fX pe ou es) : wX_letGo_11 post (n + 1) (nI (len + 1)) (nI s) po (nI E) up dn bg (nI L) (nI M) gX (nI d) sa sh (ap_sz p) (ap_L p) (ap_oo p) (ap_aA p) (ap_aB p) (ap_c p) N P K R me pt h lx va rf al fX pe ou es := by
  refine br_f (nI_ge (b := 49) hs (by decide)) (br_f (nI_nle (by omega) (by omega)) (nm_r (pk_m1 len) ⟨vp_in_nI hl (by omega), nm_r (e' := 0) (by rw [nI_clamp (by omega)]; exact e) (br_t rfl (br_t rfl (nm_r (nI_1 s) hp)))⟩))
theorem bx_it1 (post : SX → Prop) {n : Nat} (hs : s < 49) (hl : len < 49) (e : pe len = nI y) (y1 : 1 ≤ y) (y2 : y ≤ 300) (hr : rf y = nI (c + 1)) (hc : 1 ≤ c) (hc2 : c ≤ 1000)
    (hp : wX_letGo_11 post n (nI len) (nI (s + 1)) po (nI E) up (dn + 1) bg (nI L) (nI M) gX (nI d) sa sh (ap_sz p) (ap_L p) (ap_oo p) (ap_aA p) (ap_aB p) (ap_c p) N P K R me pt h lx va (upd rf y (nI c)) al fX pe ou es) : wX_letGo_11 post (n + 1) (nI (len + 1)) (nI s) po (nI E) up dn bg (nI L) (nI M) gX (nI d) sa sh (ap_sz p) (ap_L p) (ap_oo p) (ap_aA p) (ap_aB p) (ap_c p) N P K R me pt h lx va rf al fX pe ou es := by
  have n0 : ¬ nI y = 0 := nI_ne0 y1 (by omega)
  have vy : vp_in (nI y) 301 := vp_in_nI (by omega) (by omega)
  refine br_f (nI_ge (b := 49) hs (by decide)) (br_f (nI_nle (by omega) (by omega)) (nm_r (pk_m1 len) ⟨vp_in_nI hl (by omega), nm_r (e' := nI y) (by rw [nI_clamp (by omega)]; exact e) (br_f n0 ⟨vy, vy, nm_r (e' := upd rf y (nI c)) ?_ (nm_e ?_)⟩)⟩))
  · rw [nI_clamp (by omega), hr, nI_pred]
  · refine br_f n0 ⟨vy, br_f ?_ (nm_r (nI_1 s) hp)⟩
    rw [nI_clamp (by omega), pk_us]
    exact nI_ne0 hc (by omega)
theorem bx_it2 (post : SX → Prop) {n : Nat} (hs : s < 49) (hl : len + 1 < 49) (e : pe len = nI y) (y1 : 1 ≤ y) (y2 : y ≤ M) (hM : M ≤ 300) (hE : E ≤ 300) (hL : 1 ≤ L) (hr : rf y = nI (0 + 1))
    (hp : wX_letGo_11 post n (nI (len + 2)) (nI (s + 1)) po (nI (E + 1)) up (dn + 1) bg (nI (L - 1)) (nI M) gX (nI d) sa sh (ap_sz p) (ap_L p) (ap_oo p) (ap_aA p) (ap_aB p) (ap_c p) N P K R me pt h lx va (upd rf y 0) (upd al y 0) (ac_cl fX M y) (upd (upd pe len (fX (3 * y + 1))) (len + 1) (fX (3 * y))) ou (upd es E (nI y))) :
    wX_letGo_11 post (n + 1) (nI (len + 1)) (nI s) po (nI E) up dn bg (nI L) (nI M) gX (nI d) sa sh (ap_sz p) (ap_L p) (ap_oo p) (ap_aA p) (ap_aB p) (ap_c p) N P K R me pt h lx va rf al fX pe ou es := by
  have n0 : ¬ nI y = 0 := nI_ne0 y1 (by omega)
  have vy : vp_in (nI y) 301 := vp_in_nI (by omega) (by omega)
  refine br_f (nI_ge (b := 49) hs (by decide)) (br_f (nI_nle (by omega) (by omega)) (nm_r (pk_m1 len) ⟨vp_in_nI (by omega) (by omega), nm_r (e' := nI y) (by rw [nI_clamp (by omega)]; exact e) (br_f n0 ⟨vy, vy, nm_r (e' := upd rf y 0) ?_ (nm_e ?_)⟩)⟩))
  · rw [nI_clamp (by omega), hr, nI_pred]; rfl
  · refine br_f n0 ⟨vy, br_t (by rw [nI_clamp (by omega), pk_us]) ?_⟩
    refine bx_mark y1 y2 hM hE hL _ ?_
    have j0 : nI y * 3 = nI (3 * y) := by
      have : nI y * 3 = nI (y * 3) := pk_mul y 3
      rw [this, Nat.mul_comm]
    have j1 : nI y * 3 + 1 = nI (3 * y + 1) := by rw [j0, nI_1]
    have a0 : ac_cl fX M y (nI y * 3).toNatClampNeg = fX (3 * y) := by
      rw [j0, nI_clamp (by omega)]
      exact ac_cl_01 (q := y) (j := 0) (by omega)
    have a1 : ac_cl fX M y (nI y * 3 + 1).toNatClampNeg = fX (3 * y + 1) := by
      rw [j1, nI_clamp (by omega)]
      exact ac_cl_01 (q := y) (j := 1) (by omega)
    have x2 : nI len + 2 = nI (len + 2) := nI_add len 2
    refine ⟨by rw [j1]; exact vp_in_nI (by omega) (by omega), vp_in_nI (by omega) (by omega), nm_r (e' := upd pe len (fX (3 * y + 1))) (by rw [nI_clamp (by omega), a1]) ⟨by rw [j0]; exact vp_in_nI (by omega) (by omega), by rw [nI_1]; exact vp_in_nI (by omega) (by omega),
      nm_r (e' := upd (upd pe len (fX (3 * y + 1))) (len + 1) (fX (3 * y))) (by rw [nI_1, nI_clamp (by omega), a0]) (nm_r x2 (nm_r (nI_1 s) hp))⟩⟩
variable {t q pp : Nat}
theorem by_sub1 (t : Nat) : nI (t + 1) - 1 = nI t := nI_pred t
theorem by_it2 (post : SY → Prop) {n : Nat} (ht : t < 32) (e2 : ph t = nI 2) (hp : wY_drop_32 post n (nI t) kn (nI M) (nI L) up dn (nI d) bg gY oc sh rn po (nI E) (ap_oo p) sA sB (ap_c p) (ap_sz p) (ap_L p) NY PY KY va fY al me pt h lo ou es td (upd ph t (nI 3))) : wY_drop_32 post (n + 1) (nI (t + 1)) kn (nI M) (nI L) up dn (nI d) bg gY oc sh rn po (nI E) (ap_oo p) sA sB (ap_c p) (ap_sz p) (ap_L p) NY PY KY va fY al me pt h lo ou es td ph := by
  refine br_f (nI_nle (by omega) (by omega)) ?_
  rw [by_sub1, nI_clamp (by omega)]
  have vt : vp_in (nI t) 32 := vp_in_nI ht (by omega)
  refine ⟨vt, nm_e ⟨vt, vt, nm_r (e' := upd ph t (nI 3)) (by rw [e2, nI_1]) (nm_r e2 (br_t rfl (nm_r (pk_m1 t) hp)))⟩⟩
theorem by_it0 (post : SY → Prop) {n : Nat} (ht : t < 32) (e1 : td t = nI q) (e2 : ph t = nI pp) (hpp : pp < 2) (hq : q ≤ 300) (e3 : fY (3 * q + pp) = 0)
    (hp : wY_drop_32 post n (nI (t + 1)) kn (nI M) (nI L) up dn (nI d) bg gY oc sh rn po (nI E) (ap_oo p) sA sB (ap_c p) (ap_sz p) (ap_L p) NY PY KY va (upd fY (3 * q + pp) 0) al me pt h lo ou es td (upd ph t (nI (pp + 1)))) : wY_drop_32 post (n + 1) (nI (t + 1)) kn (nI M) (nI L) up dn (nI d) bg gY oc sh rn po (nI E) (ap_oo p) sA sB (ap_c p) (ap_sz p) (ap_L p) NY PY KY va fY al me pt h lo ou es td ph := by
  refine br_f (nI_nle (by omega) (by omega)) ?_
  rw [by_sub1, nI_clamp (by omega)]
  have vt : vp_in (nI t) 32 := vp_in_nI ht (by omega)
  have ix : 3 * nI q + nI pp = nI (3 * q + pp) := by
    have : 3 * nI q = nI (3 * q) := pk_mul 3 q
    rw [this, nI_add]
  have vx : vp_in (3 * nI q + nI pp) 903 := by rw [ix]; exact vp_in_nI (by omega) (by omega)
  have n2 : ¬ nI pp = 2 := fun z => by have := (nI_eq (b := 2) (by omega) (by decide)).mp z; omega
  refine ⟨vt, nm_r e1 ⟨vt, vt, nm_r (e' := upd ph t (nI (pp + 1))) (by rw [e2, nI_1]) (nm_r e2 (br_f n2 ⟨vx, nm_r (e' := 0) (by rw [ix, nI_clamp (by omega)]; exact e3) ⟨vx, nm_r (e' := upd fY (3 * q + pp) 0) (by rw [ix, nI_clamp (by omega)]) (br_t rfl hp)⟩⟩))⟩⟩
theorem by_it1 (post : SY → Prop) {n : Nat} (ht : t < 32) (e1 : td t = nI q) (e2 : ph t = nI pp) (hpp : pp < 2) (hq : q ≤ 300) (hM : M ≤ 300) (hd : d ≤ 6) (y1 : 1 ≤ y) (y2 : y ≤ 300) (e3 : fY (3 * q + pp) = nI y)
    (hc : 1 ≤ ac_N gY h lo d (upd fY (3 * q + pp) 0) M y)
    (hp : wY_drop_32 post n (nI (t + 1)) kn (nI M) (nI L) up (dn + 1) (nI d) bg gY oc sh rn po (nI E) (ap_oo p) sA sB (ap_c p) (ap_sz p) (ap_L p) NY PY KY va (upd fY (3 * q + pp) 0) al me pt h lo ou es td (upd ph t (nI (pp + 1)))) : wY_drop_32 post (n + 1) (nI (t + 1)) kn (nI M) (nI L) up dn (nI d) bg gY oc sh rn po (nI E) (ap_oo p) sA sB (ap_c p) (ap_sz p) (ap_L p) NY PY KY va fY al me pt h lo ou es td ph := by
  refine br_f (nI_nle (by omega) (by omega)) ?_
  rw [by_sub1, nI_clamp (by omega)]
  have vt : vp_in (nI t) 32 := vp_in_nI ht (by omega)
  have ix : 3 * nI q + nI pp = nI (3 * q + pp) := by
    have : 3 * nI q = nI (3 * q) := pk_mul 3 q
    rw [this, nI_add]
  have vx : vp_in (3 * nI q + nI pp) 903 := by rw [ix]; exact vp_in_nI (by omega) (by omega)
  have n2 : ¬ nI pp = 2 := fun z => by have := (nI_eq (b := 2) (by omega) (by decide)).mp z; omega
  refine ⟨vt, nm_r e1 ⟨vt, vt, nm_r (e' := upd ph t (nI (pp + 1))) (by rw [e2, nI_1]) (nm_r e2 (br_f n2 ⟨vx, nm_r (e' := nI y) (by rw [ix, nI_clamp (by omega)]; exact e3) ⟨vx, nm_r (e' := upd fY (3 * q + pp) 0) (by rw [ix, nI_clamp (by omega)]) (br_f (nI_ne0 y1 (by omega)) (nm_e ?_))⟩⟩))⟩⟩
  have := ac_N_le gY h lo d (upd fY (3 * q + pp) 0) M y
  exact by_count hM hd _ (br_f (nI_ne0 hc (by omega)) hp)
theorem by_it3 (post : SY → Prop) {n : Nat} (ht : t + 1 < 32) (e1 : td t = nI q) (e2 : ph t = nI pp) (hpp : pp < 2) (hq : q ≤ 300) (hM : M ≤ 300) (hd : d ≤ 6) (y1 : 1 ≤ y) (y2 : y ≤ M) (hE : E ≤ 300) (hL : 1 ≤ L) (e3 : fY (3 * q + pp) = nI y)
    (hc : ac_N gY h lo d (upd fY (3 * q + pp) 0) M y = 0)
    (hp : wY_drop_32 post n (nI (t + 2)) kn (nI M) (nI (L - 1)) up (dn + 1) (nI d) bg gY oc sh rn po (nI (E + 1)) (ap_oo p) sA sB (ap_c p) (ap_sz p) (ap_L p) NY PY KY va (ac_cl (upd fY (3 * q + pp) 0) M y) (upd al y 0) me pt h lo ou (upd es E (nI y)) (upd td (t + 1) (nI y)) (upd (upd ph t (nI (pp + 1))) (t + 1) 0)) : wY_drop_32 post (n + 1) (nI (t + 1)) kn (nI M) (nI L) up dn (nI d) bg gY oc sh rn po (nI E) (ap_oo p) sA sB (ap_c p) (ap_sz p) (ap_L p) NY PY KY va fY al me pt h lo ou es td ph := by
  refine br_f (nI_nle (by omega) (by omega)) ?_
  rw [by_sub1, nI_clamp (by omega)]
  have vt : vp_in (nI t) 32 := vp_in_nI (by omega) (by omega)
  have ix : 3 * nI q + nI pp = nI (3 * q + pp) := by
    have : 3 * nI q = nI (3 * q) := pk_mul 3 q
    rw [this, nI_add]
  have vx : vp_in (3 * nI q + nI pp) 903 := by rw [ix]; exact vp_in_nI (by omega) (by omega)
  have n2 : ¬ nI pp = 2 := fun z => by have := (nI_eq (b := 2) (by omega) (by decide)).mp z; omega
  refine ⟨vt, nm_r e1 ⟨vt, vt, nm_r (e' := upd ph t (nI (pp + 1))) (by rw [e2, nI_1]) (nm_r e2 (br_f n2 ⟨vx, nm_r (e' := nI y) (by rw [ix, nI_clamp (by omega)]; exact e3) ⟨vx, nm_r (e' := upd fY (3 * q + pp) 0) (by rw [ix, nI_clamp (by omega)]) (br_f (nI_ne0 y1 (by omega)) (nm_e ?_))⟩⟩))⟩⟩
  refine by_count hM hd _ (br_t (by rw [hc]; rfl) ?_)
  exact by_end y1 y2 hM hE hL ht _ hp
end
theorem ac_rm_nxt {fY : Nat → Int32} {q p : Nat} {l : List (Nat × Nat)} (hp : p < 2) (hq : ∀ x, x ∈ l → x.1 ≠ q) : ac_rm fY ((q, p) :: l) = fY (3 * q + p) :: ac_rm (upd fY (3 * q + p) 0) ((q, p + 1) :: l) := by
  have e : ac_rm (upd fY (3 * q + p) 0) l = ac_rm fY l := ac_rm_congr l (fun x hx j hj => pk_un (by have := hq x hx; omega))
  rcases p with _ | _ | p
  · show fY (3 * q) :: fY (3 * q + 1) :: ac_rm fY l = fY (3 * q + 0) :: upd fY (3 * q + 0) 0 (3 * q + 1) :: ac_rm (upd fY (3 * q + 0) 0) l
    rw [e, pk_un (by omega)]; rfl
  · show fY (3 * q + 1) :: ac_rm fY l = fY (3 * q + 1) :: ac_rm (upd fY (3 * q + 1) 0) l
    rw [e]
  · omega
section
variable {p : ap_T} {kn po en up dn bg lv md gX gY dp sa sh oc rn : Int32} {sA sB N P K R NY PY KY me pt h lx lo va rf al fX fY pe ou es td ph : Nat → Int32}
variable {d M : Nat}
theorem bz_loop : ∀ (k : Nat) (l : List (Nat × Nat)) (al rf fX fY pe td ph es : Nat → Int32) (L E s : Nat) (dn : Int32),
    4 * L + ac_mu l ≤ k → ac_MI 0 l gY h lo d M al rf fX fY L E → ac_td td ph l → ac_pe pe (ac_rm fY l) → s + 2 * L + (ac_rm fY l).length ≤ 49 →
    ∃ (al' rf' fX' fY' pe' td' ph' es' : Nat → Int32) (L' E' : Nat) (dn' : Int32), ac_MI 0 [] gY h lo d M al' rf' fX' fY' L' E' ∧
      (∀ (pt : Nat → Int32) (post : SX → Prop), post (po, nI E', up, dn', bg, nI L', nI M, gX, nI d, sa, sh, ap_sz p, ap_L p, ap_oo p, ap_aA p, ap_aB p, ap_c p, N, P, K, R, me, pt, h, lx, va, rf', al', fX', pe', ou, es') → ∃ n, wX_letGo_11 post n (nI (ac_rm fY l).length) (nI s) po (nI E) up dn bg (nI L) (nI M) gX (nI d) sa sh (ap_sz p) (ap_L p) (ap_oo p) (ap_aA p) (ap_aB p) (ap_c p) N P K R me pt h lx va rf al fX pe ou es) ∧
      (∀ (pt : Nat → Int32) (post : SY → Prop), post (kn, nI M, nI L', up, dn', nI d, bg, gY, oc, sh, rn, po, nI E', ap_oo p, sA, sB, ap_c p, ap_sz p, ap_L p, NY, PY, KY, va, fY', al', me, pt, h, lo, ou, es', td', ph') → ∃ n, wY_drop_32 post n (nI l.length) kn (nI M) (nI L) up dn (nI d) bg gY oc sh rn po (nI E) (ap_oo p) sA sB (ap_c p) (ap_sz p) (ap_L p) NY PY KY va fY al me pt h lo ou es td ph) := by
  intro k
  induction k with
  | zero =>
    intro l al rf fX fY pe td ph es L E s dn hk I ht hp hs
    rcases l with _ | ⟨⟨q, p⟩, l⟩
    · refine ⟨al, rf, fX, fY, pe, td, ph, es, L, E, dn, I, fun pt post hpost => ⟨1, br_c (fun _ => hpost) (fun _ => br_t (show nI 0 ≤ 0 by decide) hpost)⟩, fun pt post hpost => ⟨1, br_t (by decide) hpost⟩⟩
    · have hk' : 4 * L + ((3 - p) + ac_mu l) ≤ 0 := hk
      have : p ≤ 2 := I.2.2.2.2.2.2.2.1.2.2.2.1
      omega
  | succ k ih =>
    intro l al rf fX fY pe td ph es L E s dn hk I ht hp hs
    rcases l with _ | ⟨⟨q, p⟩, l⟩
    · refine ⟨al, rf, fX, fY, pe, td, ph, es, L, E, dn, I, fun pt post hpost => ⟨1, br_c (fun _ => hpost) (fun _ => br_t (show nI 0 ≤ 0 by decide) hpost)⟩, fun pt post hpost => ⟨1, br_t (by decide) hpost⟩⟩
    · have hk' : 4 * L + ((3 - p) + ac_mu l) ≤ k + 1 := hk
      obtain ⟨⟨t1, t2⟩, t3⟩ := ht
      dsimp only at t1 t2
      obtain ⟨⟨q1, q2, q3, q4, q5⟩, q6⟩ := I.2.2.2.2.2.2.2
      dsimp only at q1 q2 q3 q4 q5
      obtain ⟨_, hL24, hEL, hM, hd⟩ := I.2.2.2.2.2.2.1
      have hL24' : L + (l.length + 1) ≤ 24 := hL24
      by_cases p2 : p = 2
      · subst p2
        obtain ⟨al', rf', fX', fY', pe', td', ph', es', L', E', dn', J1, J2, J3⟩ := ih l al rf fX fY pe td (upd ph l.length (nI 3)) es L E s dn (by omega) (ac_pop I) (ac_td_up l t3 (Nat.le_refl _)) hp hs
        refine ⟨al', rf', fX', fY', pe', td', ph', es', L', E', dn', J1, J2, fun pt post hpost => ?_⟩
        obtain ⟨n, hn⟩ := J3 pt post hpost
        exact ⟨n + 1, by_it2 post (by omega) t2 hn⟩
      · have pp : p < 2 := by omega
        obtain ⟨y, hy, ey⟩ := I.2.1 q q1 q2 p (by omega)
        have er := ac_rm_nxt (fY := fY) pp q5
        have I' := ac_nxt I pp ey hy
        rw [er, ey] at hp hs ⊢
        obtain ⟨hp1, hp2⟩ := hp
        generalize hrest : ac_rm (upd fY (3 * q + p) 0) ((q, p + 1) :: l) = rest at hp1 hp2 hs
        have hs' : s + 2 * L + (rest.length + 1) ≤ 49 := hs
        have td' : ac_td td (upd ph l.length (nI (p + 1))) ((q, p + 1) :: l) := ⟨⟨t1, pk_us⟩, ac_td_up l t3 (Nat.le_refl _)⟩
        have mu' : ac_mu ((q, p + 1) :: l) = (3 - (p + 1)) + ac_mu l := rfl
        by_cases y0 : y = 0
        · subst y0
          obtain ⟨al', rf', fX', fY', pe', td', ph', es', L', E', dn', J1, J2, J3⟩ := ih ((q, p + 1) :: l) al rf fX (upd fY (3 * q + p) 0) pe td (upd ph l.length (nI (p + 1))) es L E (s + 1) dn (by rw [mu']; omega) I' td' (by rw [hrest]; exact hp2) (by rw [hrest]; omega)
          refine ⟨al', rf', fX', fY', pe', td', ph', es', L', E', dn', J1, fun pt post hpost => ?_, fun pt post hpost => ?_⟩
          · obtain ⟨n, hn⟩ := J2 pt post hpost
            rw [hrest] at hn
            exact ⟨n + 1, bx_it0 post (by omega) (by omega) hp1 hn⟩
          · obtain ⟨n, hn⟩ := J3 pt post hpost
            exact ⟨n + 1, by_it0 post (by omega) t1 t2 pp (by omega) ey hn⟩
        · have y1 : 1 ≤ y := by omega
          obtain ⟨ya, yr, yf⟩ := ac_e_al I' y1
          have cle := ac_N_le gY h lo d (upd fY (3 * q + p) 0) M y
          by_cases c0 : ac_N gY h lo d (upd fY (3 * q + p) 0) M y = 0
          · rw [c0] at yr
            obtain ⟨L1, I''⟩ := ac_end I' y1 c0 0
            have erm : ac_rm (ac_cl (upd fY (3 * q + p) 0) M y) ((q, p + 1) :: l) = rest := by
              rw [← hrest]; exact ac_rm_congr _ (fun x _ j hj => ac_cl_01 hj)
            have elen : ac_rm (ac_cl (upd fY (3 * q + p) 0) M y) ((y, 0) :: (q, p + 1) :: l) = fX (3 * y) :: fX (3 * y + 1) :: rest := by
              show ac_cl (upd fY (3 * q + p) 0) M y (3 * y) :: ac_cl (upd fY (3 * q + p) 0) M y (3 * y + 1) :: ac_rm (ac_cl (upd fY (3 * q + p) 0) M y) ((q, p + 1) :: l) = _
              rw [erm, yf 1 (by omega)]
              have a0 := ac_cl_01 (f := upd fY (3 * q + p) 0) (M := M) (n := y) (q := y) (j := 0) (by omega)
              have a1 := ac_cl_01 (f := upd fY (3 * q + p) 0) (M := M) (n := y) (q := y) (j := 1) (by omega)
              have b0 := yf 0 (by omega)
              rw [Nat.add_zero] at a0 b0
              rw [a0, a1, b0]
            obtain ⟨al', rf', fX', fY', pe', td', ph', es', L', E', dn', J1, J2, J3⟩ := ih ((y, 0) :: (q, p + 1) :: l) (upd al y 0) (upd rf y 0) (ac_cl fX M y) (ac_cl (upd fY (3 * q + p) 0) M y) (upd (upd pe rest.length (fX (3 * y + 1))) (rest.length + 1) (fX (3 * y))) (upd td (l.length + 1) (nI y)) (upd (upd ph l.length (nI (p + 1))) (l.length + 1) 0) (upd es E (nI y)) (L - 1) (E + 1) (s + 1) (dn + 1)
              (by show 4 * (L - 1) + ((3 - 0) + ac_mu ((q, p + 1) :: l)) ≤ k; rw [mu']; omega) I'' ⟨⟨pk_us, pk_us⟩, ac_td_u _ td' (Nat.le_refl _) (Nat.le_refl _)⟩
              (by rw [elen]; exact ⟨pk_us, by show upd _ _ _ rest.length = _; rw [pk_un (by omega), pk_us], ac_pe_u _ (ac_pe_u _ hp2 (Nat.le_refl _)) (by omega)⟩)
              (by rw [elen]; show s + 1 + 2 * (L - 1) + (rest.length + 1 + 1) ≤ 49; omega)
            refine ⟨al', rf', fX', fY', pe', td', ph', es', L', E', dn', J1, fun pt post hpost => ?_, fun pt post hpost => ?_⟩
            · obtain ⟨n, hn⟩ := J2 pt post hpost
              rw [elen] at hn
              exact ⟨n + 1, bx_it2 post (by omega) (by omega) hp1 y1 hy hM (by omega) L1 yr hn⟩
            · obtain ⟨n, hn⟩ := J3 pt post hpost
              exact ⟨n + 1, by_it3 post (by omega) t1 t2 pp (by omega) hM hd y1 hy (by omega) L1 ey c0 hn⟩
          · have I'' := ac_dec I' y1 (by omega)
            obtain ⟨al', rf', fX', fY', pe', td', ph', es', L', E', dn', J1, J2, J3⟩ := ih ((q, p + 1) :: l) al (upd rf y (nI (ac_N gY h lo d (upd fY (3 * q + p) 0) M y))) fX (upd fY (3 * q + p) 0) pe td (upd ph l.length (nI (p + 1))) es L E (s + 1) (dn + 1) (by rw [mu']; omega) I'' td' (by rw [hrest]; exact hp2) (by rw [hrest]; omega)
            refine ⟨al', rf', fX', fY', pe', td', ph', es', L', E', dn', J1, fun pt post hpost => ?_, fun pt post hpost => ?_⟩
            · obtain ⟨n, hn⟩ := J2 pt post hpost
              rw [hrest] at hn
              exact ⟨n + 1, bx_it1 post (by omega) (by omega) hp1 y1 (by omega) yr (by omega) (by omega) hn⟩
            · obtain ⟨n, hn⟩ := J3 pt post hpost
              exact ⟨n + 1, by_it1 post (by omega) t1 t2 pp (by omega) hM hd y1 (by omega) ey (by omega) hn⟩
/-- a reference is let go, on both sides -/
theorem bz_drop {e L E : Nat} (I : ac_MI e [] gY h lo d M al rf fX fY L E) :
    ∃ (al' rf' fX' fY' pe' td' ph' es' : Nat → Int32) (L' E' : Nat) (dn' : Int32), ac_MI 0 [] gY h lo d M al' rf' fX' fY' L' E' ∧ (∀ (pt : Nat → Int32) (post : SX → Prop), post (po, nI E', up, dn', bg, nI L', nI M, gX, nI d, sa, sh, ap_sz p, ap_L p, ap_oo p, ap_aA p, ap_aB p, ap_c p, N, P, K, R, me, pt, h, lx, va, rf', al', fX', pe', ou, es') → wpX_letGo post (po, nI E, up, dn, bg, nI L, nI M, gX, nI d, sa, sh, ap_sz p, ap_L p, ap_oo p, ap_aA p, ap_aB p, ap_c p, N, P, K, R, me, pt, h, lx, va, rf, al, fX, pe, ou, es) (nI e)) ∧ (∀ (pt : Nat → Int32) (post : SY → Prop), post (kn, nI M, nI L', up, dn', nI d, bg, gY, oc, sh, rn, po, nI E', ap_oo p, sA, sB, ap_c p, ap_sz p, ap_L p, NY, PY, KY, va, fY', al', me, pt, h, lo, ou, es', td', ph') → wpY_drop post (kn, nI M, nI L, up, dn, nI d, bg, gY, oc, sh, rn, po, nI E, ap_oo p, sA, sB, ap_c p, ap_sz p, ap_L p, NY, PY, KY, va, fY, al, me, pt, h, lo, ou, es, td, ph) (nI e)) := by
  obtain ⟨_, hL24, hEL, hM, hd⟩ := I.2.2.2.2.2.2.1
  have hL24' : L + 0 ≤ 24 := hL24
  have heM : e ≤ M := I.2.2.2.2.2.1
  by_cases e0 : e = 0
  · subst e0
    refine ⟨al, rf, fX, fY, upd pe 0 0, td, ph, es, L, E, dn, I, fun pt post hpost => nm_e ⟨2, ?_⟩, fun pt post hpost => br_t rfl hpost⟩
    exact bx_it0 (s := 0) (len := 0) post (by omega) (by omega) pk_us (br_f (by decide) (br_t (by decide) hpost))
  · have e1 : 1 ≤ e := by omega
    obtain ⟨ya, yr, yf⟩ := ac_e_al I e1
    have cle := ac_N_le gY h lo d fY M e
    by_cases c0 : ac_N gY h lo d fY M e = 0
    · rw [c0] at yr
      obtain ⟨L1, I''⟩ := ac_end I e1 c0 0
      have elen : ac_rm (ac_cl fY M e) [(e, 0)] = fX (3 * e) :: fX (3 * e + 1) :: [] := by
        show ac_cl fY M e (3 * e) :: ac_cl fY M e (3 * e + 1) :: [] = _
        have a0 := ac_cl_01 (f := fY) (M := M) (n := e) (q := e) (j := 0) (by omega)
        have a1 := ac_cl_01 (f := fY) (M := M) (n := e) (q := e) (j := 1) (by omega)
        have b0 := yf 0 (by omega)
        rw [Nat.add_zero] at a0 b0
        rw [a0, a1, b0, yf 1 (by omega)]
      obtain ⟨al', rf', fX', fY', pe', td', ph', es', L', E', dn', J1, J2, J3⟩ := bz_loop (p := p) (po := po) (up := up) (bg := bg) (gX := gX) (sa := sa) (sh := sh) (N := N) (P := P) (K := K) (R := R) (me := me) (h := h) (lx := lx) (va := va) (ou := ou) (kn := kn) (gY := gY) (oc := oc) (rn := rn) (lo := lo) (sA := sA) (sB := sB) (NY := NY) (PY := PY) (KY := KY) (d := d) (M := M) (4 * (L - 1) + ac_mu [(e, 0)]) [(e, 0)] (upd al e 0) (upd rf e 0) (ac_cl fX M e) (ac_cl fY M e) (upd (upd (upd pe 0 (nI e)) 0 (fX (3 * e + 1))) (0 + 1) (fX (3 * e))) (upd td 0 (nI e)) (upd ph 0 0) (upd es E (nI e)) (L - 1) (E + 1) (0 + 1) (dn + 1)
        (Nat.le_refl _) I'' ⟨⟨pk_us, pk_us⟩, True.intro⟩
        (by rw [elen]; exact ⟨pk_us, by show upd _ _ _ 0 = _; rw [pk_un (by omega), pk_us], True.intro⟩)
        (by rw [elen]; show 0 + 1 + 2 * (L - 1) + (0 + 1 + 1) ≤ 49; omega)
      refine ⟨al', rf', fX', fY', pe', td', ph', es', L', E', dn', J1, fun pt post hpost => nm_e ?_, fun pt post hpost => br_f (nI_ne0 e1 (by omega)) (nm_e ?_)⟩
      · obtain ⟨n, hn⟩ := J2 pt post hpost
        rw [elen] at hn
        exact ⟨n + 1, bx_it2 (s := 0) (len := 0) post (by omega) (by omega) pk_us e1 heM hM (by omega) L1 yr hn⟩
      · refine by_count hM hd _ (br_t (by rw [c0]; rfl) ?_)
        exact by_end (t := 0) e1 heM hM (by omega) L1 (by omega) _ (J3 pt post hpost)
    · have I'' := ac_dec I e1 (by omega)
      refine ⟨al, upd rf e (nI (ac_N gY h lo d fY M e)), fX, fY, upd pe 0 (nI e), td, ph, es, L, E, dn + 1, I'', fun pt post hpost => nm_e ⟨2, ?_⟩, fun pt post hpost => br_f (nI_ne0 e1 (by omega)) (nm_e ?_)⟩
      · exact bx_it1 (s := 0) (len := 0) post (by omega) (by omega) pk_us e1 (by omega) yr (by omega) (by omega) (br_f (by decide) (br_t (by decide) hpost))
      · exact by_count hM hd _ (br_f (nI_ne0 (by omega) (by omega)) ⟨1, br_t (by decide) hpost⟩)
end
