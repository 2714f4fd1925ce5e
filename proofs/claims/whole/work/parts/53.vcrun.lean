section
variable {p : ap_T} {kn po en up dn bg lv md gX gY dp sa sh oc rn : Int32} {sA sB N P K R NY PY KY me pt h lx lo va rf al fX fY pe ou es td ph : Nat → Int32}
theorem bx_an (H : ap_OK p) (post : Int32 → SX → Prop) (x1 x2 : Int32)
    (hp : ∀ N P K R, (∀ m, m < 4 → ap_NS p m N ∧ ap_PS p m P ∧ ap_KX p m K R) → wX_run_13 post x1 x2 1 (nI 4) po en up dn bg lv md gX dp sa sh (ap_sz p) (ap_L p) (ap_oo p) (ap_aA p) (ap_aB p) (ap_c p) N P K R me pt h lx va rf al fX pe ou es) :
    ∀ e m, m + e = 4 → ∀ N P K R, (∀ j, j < m → ap_NS p j N ∧ ap_PS p j P ∧ ap_KX p j K R) → wX_run_13 post x1 x2 (e + 1) (nI m) po en up dn bg lv md gX dp sa sh (ap_sz p) (ap_L p) (ap_oo p) (ap_aA p) (ap_aB p) (ap_c p) N P K R me pt h lx va rf al fX pe ou es := by
  intro e
  induction e with
  | zero =>
    intro m hm N P K R hs
    have : m = 4 := by omega
    subst this
    exact hp N P K R hs
  | succ e ih =>
    intro m hm N P K R hs
    refine br_f (nI_ge (b := 4) (by omega) (by decide)) (ax_analyse H (by omega) _ (fun N' P' K' R' h1 h2 h3 o1 o2 o3 o4 => nm_r (nI_1 m) (ih (m + 1) (by omega) N' P' K' R' (fun j hj => ?_))))
    by_cases c : j = m
    · subst c; exact ⟨h1, h2, h3⟩
    · obtain ⟨a1, a2, a3⟩ := hs j (by omega)
      have hz := H.2.1 j
      have q : ∀ i, i < ap_Z p j → (16 * j + i) / 16 ≠ m := fun i hi => by omega
      refine ⟨fun i hi v hv => ?_, fun i hi => ?_, fun i hi => ?_⟩
      · rw [o1 _ (q i hi)]; exact a1 i hi v hv
      · rw [o2 _ (q i hi)]; exact a2 i hi
      · rw [o3 _ (q i hi), o4 _ (q i hi)]; exact a3 i hi
/-- what X found, in Y's arrays -/
theorem ar_wit (H : ap_OK p) (hs : ∀ m, m < 4 → ap_NS p m N ∧ ap_PS p m P ∧ ap_KX p m K R) (NY PY KY : Nat → Int32) :
    ∃ N1 P1 K1 : Nat → Int32, (∀ m, m < 4 → ay_Sp p m N1 P1 K1) ∧ al_fr p NY N1 ∧ al_fr p PY P1 ∧ al_fr p KY K1 := by
  have hv : ∀ m i, m < 4 → i < ap_Z p m → (16 * m + i) / 16 < 4 ∧ (16 * m + i) % 16 < ap_Z p ((16 * m + i) / 16) := by
    intro m i hm hi
    have hz := H.2.1 m
    have e1 : (16 * m + i) / 16 = m := by omega
    have e2 : (16 * m + i) % 16 = i := by omega
    rw [e1, e2]; exact ⟨hm, hi⟩
  refine ⟨fun k => if k / 16 < 4 ∧ k % 16 < ap_Z p (k / 16) then N k else NY k, fun k => if k / 16 < 4 ∧ k % 16 < ap_Z p (k / 16) then P k else PY k, fun k => if k / 16 < 4 ∧ k % 16 < ap_Z p (k / 16) then (if R k = 0 then -1 else K k) else KY k, fun m hm => ⟨fun i hi v hv2 => ?_, fun i hi => ?_, fun i hi => ?_⟩, fun k hk => if_neg hk, fun k hk => if_neg hk, fun k hk => if_neg hk⟩
  · dsimp only
    rw [if_pos (hv m i hm hi)]; exact (hs m hm).1 i hi v hv2
  · dsimp only
    rw [if_pos (hv m i hm hi)]; exact (hs m hm).2.1 i hi
  · dsimp only
    rw [if_pos (hv m i hm hi)]
    obtain ⟨r1, r2, r3⟩ := (hs m hm).2.2 i hi
    rcases r1 with r | r
    · rw [if_pos r]
      exact Or.inl ⟨fun z => by have := r2.mpr z; rw [r] at this; exact absurd this (by decide), rfl⟩
    · rw [if_neg (by rw [r]; decide)]
      exact Or.inr ⟨r2.mp r, r3⟩
end
theorem ar_fit (v : Int32) : fits .boolean (.int (lw_bz v)) = true := by
  rcases lw_bz_01 v with e | e <;> rw [e] <;> rfl
theorem i_vc_run {k : Nat} {u : SX} {v : SY} (I : i_Rel k u v) (hk : k + 6 ≤ 3072) (v1 : Int32) (v2 : Int32) : wpX_run (fun r u' => wpY_run (fun r' v' => r' = r ∧ i_Rel (k + 6) u' v') v (lw_bz v1) v2) u (lw_bz v1) v2 := by
  have II := I
  obtain ⟨p, d, M, L, E, Q, B, g, kn, up, dn, sa, sh, oc, rn, sA, sB, N, P, K, R, NY, PY, KY, me, pt, h, lx, lo, va, rf, al, fX, fY, pe, ou, es, td, ph, rfl, rfl, H, hAB, hkn, hR⟩ := I
  obtain ⟨R1, R2, R3, R4, R5, R6, R7, R8, R9⟩ := hR
  rcases pk_ix v2 (n := 4) (by decide) with c | c | ⟨m, hm, rfl⟩
  · refine br_t c ?_
    dsimp only
    unfold wpY_run
    exact ay_no _ v2 (n := 4) (by decide) (fun j hj e => by rw [e] at c; exact absurd c (nI_pos (by omega))) (fun _ => br_f (by decide) ⟨rfl, II⟩)
  · refine br_f (Int32.not_lt.mpr (Int32.le_trans (by decide) c)) (br_f (Int32.not_lt.mpr c) ?_)
    dsimp only
    unfold wpY_run
    exact ay_no _ v2 (n := 4) (by decide) (fun j hj e => by rw [e] at c; exact absurd c (nI_ge (b := 4) hj (by decide))) (fun _ => br_f (by decide) ⟨rfl, II⟩)
  · have hz := H.2.1 m
    have vm : vp_in (nI m) 4 := vp_in_nI hm (by omega)
    have esz := ap_szm p hm
    refine br_f (nI_pos (by omega)) (br_t (nI_lt (b := 4) hm (by decide)) ⟨5, ?_⟩)
    refine bx_an H _ _ _ (fun N' P' K' R' hs => ?_) 4 0 (by omega) N P K R (fun j hj => by omega)
    obtain ⟨N1, P1, K1, w1, w2, w3, w4⟩ := ar_wit H hs NY PY KY
    -- the run begins
    have M0 : ac_MI 0 [] (nI 0) h lo 0 0 al rf fX fY 0 0 :=
      ⟨fun n h1 h2 => by omega, fun n h1 h2 => by omega, fun n h1 h2 => by omega, fun v hv => by omega, ⟨0, Nat.le_refl _, rfl⟩, Nat.le_refl _, ⟨rfl, by show 0 + 0 ≤ 24; omega, rfl, by omega, by omega⟩, True.intro⟩
    have M1 := ac_ent (x := 0) (0 : Int32) (by rw [if_pos rfl]; exact M0) (by omega) (Nat.le_refl _) (upd (af_ze h (6 * 0) 6) (6 * 0) (nI 0)) (upd (af_ze lo (6 * 0) 6) (6 * 0) 0)
      (fun v hv => by omega) ⟨pk_us, pk_us⟩ (fun j j1 j2 => by rw [pk_un (by omega)]; exact af_ze_in (by omega) (by omega))
    have L1 : af_ll (upd (af_ze h (6 * 0) 6) (6 * 0) (nI 0)) (upd (af_ze lx (6 * 0) 6) (6 * 0) 0) (upd (af_ze lo (6 * 0) 6) (6 * 0) 0) := af_ll_u (af_ll_ze R2 _ _) _ (Or.inl rfl) (fun _ => rfl) (fun _ => rfl)
    have lo0 : ∀ j, j < 6 → upd (af_ze lo (6 * 0) 6) (6 * 0) 0 j = 0 := by
      intro j hj
      by_cases c : j = 6 * 0
      · rw [c]; exact pk_us
      · rw [pk_un c]; exact af_ze_in (by omega) (by omega)
    have F1 : ag_F p (lw_bz v1) (0 + 1) (upd (af_ze h (6 * 0) 6) (6 * 0) (nI 0)) (upd (af_ze lo (6 * 0) 6) (6 * 0) 0) (upd me 0 (nI m)) (upd pt 0 0) := by
      refine ⟨lw_bz_01 v1, fun _ v hv => lo0 v (by omega), fun f hf => ?_⟩
      have f0 : f = 0 := by omega
      subst f0
      refine ⟨m, 0, hm, by omega, pk_us, pk_us, fun z => by omega, fun j hj hlo => ?_⟩
      rw [show 6 * 0 + j = j by omega, lo0 j hj] at hlo
      exact absurd rfl hlo
    have hA : ag_A p N' P' N1 P1 := fun m hm => ⟨(hs m hm).1, (hs m hm).2.1, (w1 m hm).1, (w1 m hm).2.1⟩
    refine br_t (by decide) ⟨lw_bz_n v1, ar_fit v1, bx_enter (d := 0) (m := m) (x := 0) (by omega) 0 (Or.inl rfl) _ ⟨vm, ?_⟩⟩
    -- the reference, up to its loop
    have Yb : ∀ (post : Int32 → SY → Prop), ((nI (ap_Z p m) = 0 → ∃ n, wY_run_94 post n 1 (nI 0) (nI 0) 0 0 (nI 1) (nI 0) (nI 0) 1 (lw_bz v1) 1 (nI 0) (nI 0) (ap_oo p) sA sB (ap_c p) (ap_sz p) (ap_L p) N1 P1 K1 va fY al (upd me 0 (nI m)) (upd pt 0 0) (upd (af_ze h (6 * 0) 6) (6 * 0) (nI 0)) (upd (af_ze lo (6 * 0) 6) (6 * 0) 0) ou es td ph) ∧
        (¬ nI (ap_Z p m) = 0 → ∃ n, wY_run_94 post n 1 (nI 0) (nI 0) 0 0 (nI 1) (nI 0) (nI 0) (-1) (lw_bz v1) 1 (nI 0) (nI 0) (ap_oo p) sA sB (ap_c p) (ap_sz p) (ap_L p) N1 P1 K1 va fY al (upd me 0 (nI m)) (upd pt 0 0) (upd (af_ze h (6 * 0) 6) (6 * 0) (nI 0)) (upd (af_ze lo (6 * 0) 6) (6 * 0) 0) ou es td ph)) → wpY_run post (kn, nI M, nI L, up, dn, nI d, nI B, nI g, oc, sh, rn, nI Q, nI E, ap_oo p, sA, sB, ap_c p, ap_sz p, ap_L p, NY, PY, KY, va, fY, al, me, pt, h, lo, ou, es, td, ph) (lw_bz v1) (nI m) := by
      intro post KK
      unfold wpY_run
      refine ay_no _ (nI m) (n := 4) (by decide) (fun _ _ _ => br_t rfl ?_) (fun z => ?_)
      · refine ay_ev H hAB hkn w1 w2 w3 w4 _ ⟨lw_bz_n v1, ar_fit v1, by_enter (d := 0) (m := m) (x := 0) (by omega) (by omega) 0 (Or.inl rfl) _ ⟨vm, ?_⟩⟩
        rw [esz]
        exact KK
      · rcases z with z | z
        · exact absurd z (nI_pos (by omega))
        · exact absurd z (nI_ge (b := 4) hm (by decide))
    rw [esz]
    by_cases z0 : ap_Z p m = 0
    · refine br_t (by rw [z0]; rfl) ⟨1, br_f (by decide) (br_f (by decide) (bx_144 (d := 1) (by omega) (by omega) (by decide) _ (Yb _ ⟨fun _ => ⟨1, br_f (by decide) ⟨rfl, ?_⟩⟩, fun z => absurd (by rw [z0]; rfl) z⟩)))⟩
      exact ⟨p, 1, 0, 0, 0, 0, 0, 0, 1, 0, 0, _, lw_bz v1, 1, 1, sA, sB, N', P', K', R', N1, P1, K1, upd me 0 (nI m), upd pt 0 0, _, upd (af_ze lx (6 * 0) 6) (6 * 0) 0, _, va, rf, al, fX, fY, pe, ou, es, td, ph, rfl, rfl, H, hAB, Or.inr ⟨rfl, w1⟩, ⟨M1, L1, R3, Nat.le_refl _, Nat.le_refl _, by omega, Nat.le_refl _, fun _ => rfl, Or.inr ⟨by decide, by decide, by omega, rfl⟩⟩⟩
    · have nz : ¬ nI (ap_Z p m) = 0 := nI_ne0 (by omega) (by omega)
      obtain ⟨d', M', L', E', Q', B', g', r', sa', up', dn', h', lx', lo', al', rf', fX', fY', pe', td', ph', es', me', pt', va', ou', S1, S2, S3, S4⟩ := bz_runl (sa := sa) (K := K') (R := R') (kn := 1) (rn := 1) (KY := K1) H hAB hA 300 0 (0 + 1) 0 0 0 0 0 0 _ _ _ al rf fX fY pe td ph es _ _ va ou (by omega) (by omega) ⟨M1, L1, R3, Nat.le_refl _, Nat.le_refl _, by omega, Nat.le_refl _, F1⟩
      refine br_f nz (S3 _ (Yb _ ⟨fun z => absurd z nz, fun _ => S4 _ ⟨rfl, ?_⟩⟩))
      obtain ⟨T1, T2, T3, T4, T5, T6, T7, T8⟩ := S2
      refine ⟨p, d', M', L', E', Q', B', g', 1, up', dn', sa', lw_bz v1, r', 1, sA, sB, N', P', K', R', N1, P1, K1, me', pt', h', lx', lo', va', rf', al', fX', fY', pe', ou', es', td', ph', rfl, rfl, H, hAB, Or.inr ⟨rfl, w1⟩, ⟨T1, T2, T3, T4, T5, T6, T7, fun z => ?_, ?_⟩⟩
      · rcases S1 with ⟨a, _, _⟩ | ⟨_, _, a, _⟩
        · exact absurd a z
        · exact a
      · rcases S1 with ⟨a, b, c⟩ | ⟨a, b, c, e⟩
        · exact Or.inl ⟨Or.inr a, c⟩
        · exact Or.inr ⟨by decide, by rcases a with a | a <;> rw [a] <;> decide, b, e⟩
