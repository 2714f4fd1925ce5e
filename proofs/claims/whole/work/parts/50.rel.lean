def ar_R (d M L E Q B g : Nat) (sa oc rn : Int32) (h lx lo al rf fX fY me pt va : Nat → Int32) : Prop :=
  ac_MI 0 [] (nI g) h lo d M al rf fX fY L E ∧ af_ll h lx lo ∧ va 0 = 0 ∧ Q ≤ B ∧ M ≤ B ∧ B ≤ 300 ∧ g ≤ M ∧ (oc ≠ 0 → g = 0) ∧
  (((rn = 0 ∨ oc = 0) ∧ sa = -1) ∨ (rn ≠ 0 ∧ oc ≠ 0 ∧ 1 ≤ d ∧ sa = 16 * me (d - 1) + pt (d - 1)))
/-- the two desks: one program, one run; what is found is known or not -/
def i_Rel (_ : Nat) (u : SX) (v : SY) : Prop :=
  ∃ (p : ap_T) (d M L E Q B g : Nat) (kn up dn sa sh oc rn : Int32) (sA sB N P K R NY PY KY me pt h lx lo va rf al fX fY pe ou es td ph : Nat → Int32),
    u = (nI Q, nI E, up, dn, nI B, nI L, nI M, nI g, nI d, sa, sh, ap_sz p, ap_L p, ap_oo p, ap_aA p, ap_aB p, ap_c p, N, P, K, R, me, pt, h, lx, va, rf, al, fX, pe, ou, es) ∧ v = (kn, nI M, nI L, up, dn, nI d, nI B, nI g, oc, sh, rn, nI Q, nI E, ap_oo p, sA, sB, ap_c p, ap_sz p, ap_L p, NY, PY, KY, va, fY, al, me, pt, h, lo, ou, es, td, ph) ∧ ap_OK p ∧ ap_AB p sA sB ∧ (kn = 0 ∨ (kn = 1 ∧ ∀ m, m < 4 → ay_Sp p m NY PY KY)) ∧ ar_R d M L E Q B g sa oc rn h lx lo al rf fX fY me pt va
theorem i_up {k : Nat} {u : SX} {v : SY} (h : i_Rel k u v) : i_Rel (k + 6) u v := h
theorem i_vc0 : wpX_init (fun u => wpY_init (fun v => i_Rel 0 u v)) := by
  refine ⟨(fun _ => 0, fun _ => 0, fun _ => 0, fun _ => 0, fun _ => 0, fun _ => 0), 0, 0, 0, 0, 0, 0, 0, 0, 0, 0, -1, 0, -1, 0, fun _ => 0, fun _ => 0, fun _ => 0, fun _ => 0, fun _ => 0, fun _ => 0, fun _ => 0, fun _ => 0, fun _ => 0, fun _ => 0, fun _ => 0, fun _ => 0, fun _ => 0, fun _ => 0, fun _ => 0, fun _ => 0, fun _ => 0, fun _ => 0, fun _ => 0, fun _ => 0, fun _ => 0, fun _ => 0, fun _ => 0, fun _ => 0, rfl, rfl, ?_, ?_, Or.inl rfl, ?_⟩
  · refine ⟨fun k => ⟨by show 0 ≤ 13; omega, by show 0 < 6; omega, by show 0 < 6; omega, fun z => ?_, fun z => ?_, fun z => ?_⟩, fun m => by show 0 ≤ 16; omega, fun m => Or.inl rfl⟩
    · have z' : (0 : Nat) = 3 ∨ (0 : Nat) = 4 := z
      omega
    · have z' : (0 : Nat) = 9 ∨ (0 : Nat) = 10 := z
      omega
    · have z' : (0 : Nat) = 11 := z
      omega
  · exact fun k => ⟨fun _ _ => rfl, fun _ => rfl⟩
  · refine ⟨⟨fun n h1 h2 => by omega, fun n h1 h2 => by omega, fun n h1 h2 => by omega, fun v hv => by omega, ⟨0, Nat.le_refl _, rfl⟩, Nat.le_refl _, ⟨rfl, by show 0 + 0 ≤ 24; omega, rfl, by omega, by omega⟩, True.intro⟩, fun v => ⟨Or.inl rfl, fun _ => rfl, fun z => absurd rfl z⟩, rfl, Nat.le_refl _, Nat.le_refl _, by omega, Nat.le_refl _, fun _ => rfl, Or.inl ⟨Or.inl rfl, rfl⟩⟩
section
variable {p : ap_T} {kn md lv up dn dp bg gY oc sh rn po en : Int32} {sA sB NY PY KY va fY al me pt h lo ou es td ph : Nat → Int32}
theorem ym_bad4 (post : Int32 → SY → Prop) {v1 b : Int32} (c : v1 < 0 ∨ nI 4 ≤ v1) (hp : post (-1) (kn, md, lv, up, dn, dp, bg, gY, oc, sh, rn, po, en, ap_oo p, sA, sB, ap_c p, ap_sz p, ap_L p, NY, PY, KY, va, fY, al, me, pt, h, lo, ou, es, td, ph)) : wpY_method post (kn, md, lv, up, dn, dp, bg, gY, oc, sh, rn, po, en, ap_oo p, sA, sB, ap_c p, ap_sz p, ap_L p, NY, PY, KY, va, fY, al, me, pt, h, lo, ou, es, td, ph) v1 b := by
  unfold wpY_method
  refine ay_no _ v1 (n := 4) (by decide) (fun j hj e => ?_) (fun _ => br_f (by decide) hp)
  rw [e] at c
  rcases c with c | c
  · exact absurd c (nI_pos (by omega))
  · exact absurd c (nI_ge (b := 4) hj (by decide))
theorem ym_ok4 (post : Int32 → SY → Prop) {m : Nat} (hm : m < 4) {b : Int32} (hb : b = 0 ∨ b = 1) (hp : post (ap_sz p (nI m).toNatClampNeg) (0, md, lv, up, dn, dp, bg, gY, oc, sh, rn, po, en, ap_oo p, sA, sB, ap_c p, upd (ap_sz p) m 0, upd (ap_L p) m b, NY, PY, KY, va, fY, al, me, pt, h, lo, ou, es, td, ph)) : wpY_method post (kn, md, lv, up, dn, dp, bg, gY, oc, sh, rn, po, en, ap_oo p, sA, sB, ap_c p, ap_sz p, ap_L p, NY, PY, KY, va, fY, al, me, pt, h, lo, ou, es, td, ph) (nI m) b := by
  have vm : vp_in (nI m) 4 := vp_in_nI hm (by omega)
  have em : (nI m).toNatClampNeg = m := nI_clamp (by omega)
  unfold wpY_method
  refine ay_no _ (nI m) (n := 4) (by decide) (fun _ _ _ => br_t rfl ⟨vm, nm_e ⟨vm, nm_r (e' := upd (ap_sz p) m 0) (by rw [em]) ⟨vm, nm_r (e' := upd (ap_L p) m b) (by rw [em, ad_nb hb]) hp⟩⟩⟩) (fun z => ?_)
  rcases z with z | z
  · exact absurd z (nI_pos (by omega))
  · exact absurd z (nI_ge (b := 4) hm (by decide))
theorem ym_out (post : Int32 → Prop) {v1 : Int32} {Q : Nat} (hQ : Q ≤ 300) (h0 : v1 < 0 ∨ nI Q ≤ v1 → post 0) (h1 : ∀ j, j < Q → v1 = nI j → post (ou j)) : wpY_out post (kn, md, lv, up, dn, dp, bg, gY, oc, sh, rn, nI Q, en, ap_oo p, sA, sB, ap_c p, ap_sz p, ap_L p, NY, PY, KY, va, fY, al, me, pt, h, lo, ou, es, td, ph) v1 := by
  unfold wpY_out
  refine ay_no _ v1 (n := Q) (by omega) (fun j hj e => br_t rfl ⟨?_, ?_⟩) (fun z => br_f (by decide) (h0 z))
  · rw [e]; exact vp_in_nI (by omega) (by omega)
  · rw [e, nI_clamp (by omega)]; exact h1 j hj e
theorem ym_ended (post : Int32 → Prop) {v1 : Int32} {Q : Nat} (hQ : Q ≤ 300) (h0 : v1 < 0 ∨ nI Q ≤ v1 → post 0) (h1 : ∀ j, j < Q → v1 = nI j → post (es j)) : wpY_ended post (kn, md, lv, up, dn, dp, bg, gY, oc, sh, rn, po, nI Q, ap_oo p, sA, sB, ap_c p, ap_sz p, ap_L p, NY, PY, KY, va, fY, al, me, pt, h, lo, ou, es, td, ph) v1 := by
  unfold wpY_ended
  refine ay_no _ v1 (n := Q) (by omega) (fun j hj e => br_t rfl ⟨?_, ?_⟩) (fun z => br_f (by decide) (h0 z))
  · rw [e]; exact vp_in_nI (by omega) (by omega)
  · rw [e, nI_clamp (by omega)]; exact h1 j hj e
end
theorem ar_lwz (v : Int32) : lw_bz v = 0 ∨ lw_bz v = 1 := lw_bz_01 v
theorem i_vc_method {k : Nat} {u : SX} {v : SY} (I : i_Rel k u v) (hk : k + 6 ≤ 3072) (v1 : Int32) (v2 : Int32) : wpX_method (fun r u' => wpY_method (fun r' v' => r' = r ∧ i_Rel (k + 6) u' v') v v1 (lw_bz v2)) u v1 (lw_bz v2) := by
  have II := I
  obtain ⟨p, d, M, L, E, Q, B, g, kn, up, dn, sa, sh, oc, rn, sA, sB, N, P, K, R, NY, PY, KY, me, pt, h, lx, lo, va, rf, al, fX, fY, pe, ou, es, td, ph, rfl, rfl, H, hAB, hkn, hR⟩ := I
  rcases pk_ix v1 (n := 4) (by decide) with c | c | ⟨m, hm, rfl⟩
  · exact br_t c (ym_bad4 _ (Or.inl c) ⟨rfl, II⟩)
  · exact br_f (Int32.not_lt.mpr (Int32.le_trans (by decide) c)) (br_f (Int32.not_lt.mpr c) (ym_bad4 _ (Or.inr c) ⟨rfl, II⟩))
  · have vm : vp_in (nI m) 4 := vp_in_nI hm (by omega)
    have em : (nI m).toNatClampNeg = m := nI_clamp (by omega)
    have e1 : upd (ap_sz p) m 0 = ap_sz (p.1, p.2.1, p.2.2.1, p.2.2.2.1, (fun j => if j = m then 0 else ap_Z p j), upd (ap_L p) m (lw_bz v2)) := ad_updN (ap_Z p) m 0
    refine br_f (nI_pos (by omega)) (br_t (nI_lt (b := 4) hm (by decide)) ⟨vm, nm_e ⟨vm, nm_r (e' := upd (ap_sz p) m 0) (by rw [em]) ⟨vm, nm_r (e' := upd (ap_L p) m (lw_bz v2)) (by rw [em, ad_nb (ar_lwz v2)]) ?_⟩⟩⟩)
    refine ym_ok4 _ hm (ar_lwz v2) ⟨rfl, ?_⟩
    rw [e1]
    refine ⟨_, d, M, L, E, Q, B, g, 0, up, dn, sa, sh, oc, rn, sA, sB, N, P, K, R, NY, PY, KY, me, pt, h, lx, lo, va, rf, al, fX, fY, pe, ou, es, td, ph, rfl, rfl, ⟨H.1, fun j => ?_, fun j => ?_⟩, hAB, Or.inl rfl, hR⟩
    · show (if j = m then 0 else ap_Z p j) ≤ 16
      split
      · omega
      · exact H.2.1 j
    · show upd (ap_L p) m (lw_bz v2) j = 0 ∨ upd (ap_L p) m (lw_bz v2) j = 1
      by_cases c : j = m
      · subst c; rw [pk_us]; exact ar_lwz v2
      · rw [pk_un c]; exact H.2.2 j
theorem i_vc_out {k : Nat} {u : SX} {v : SY} (I : i_Rel k u v) (hk : k + 6 ≤ 3072) (v1 : Int32) : wpX_out (fun r => wpY_out (fun r' => r' = r ∧ i_Rel (k + 6) u v) v v1) u v1 := by
  have II := I
  obtain ⟨p, d, M, L, E, Q, B, g, kn, up, dn, sa, sh, oc, rn, sA, sB, N, P, K, R, NY, PY, KY, me, pt, h, lx, lo, va, rf, al, fX, fY, pe, ou, es, td, ph, rfl, rfl, H, hAB, hkn, hR⟩ := I
  obtain ⟨R1, R2, R3, R4, R5, R6, R7, R8, R9⟩ := hR
  rcases pk_ix v1 (n := Q) (by omega) with c | c | ⟨m, hm, rfl⟩
  · exact br_t c (ym_out _ (by omega) (fun _ => ⟨rfl, II⟩) (fun j hj e => by rw [e] at c; exact absurd c (nI_pos (by omega))))
  · exact br_f (Int32.not_lt.mpr (Int32.le_trans (nI_pos' (n := Q) (by omega)) c)) (br_f (Int32.not_lt.mpr c) (ym_out _ (by omega) (fun _ => ⟨rfl, II⟩) (fun j hj e => by rw [e] at c; exact absurd c (nI_ge hj (by omega)))))
  · have vm : vp_in (nI m) 300 := vp_in_nI (by omega) (by omega)
    refine br_f (nI_pos (by omega)) (br_t (nI_lt hm (by omega)) ⟨vm, ?_⟩)
    rw [nI_clamp (by omega)]
    refine ym_out _ (by omega) (fun z => ?_) (fun j hj e => ⟨by rw [(nI_eq (by omega) (by omega)).mp e], II⟩)
    rcases z with z | z
    · exact absurd z (nI_pos (by omega))
    · exact absurd z (nI_ge hm (by omega))
theorem i_vc_ended {k : Nat} {u : SX} {v : SY} (I : i_Rel k u v) (hk : k + 6 ≤ 3072) (v1 : Int32) : wpX_ended (fun r => wpY_ended (fun r' => r' = r ∧ i_Rel (k + 6) u v) v v1) u v1 := by
  have II := I
  obtain ⟨p, d, M, L, E, Q, B, g, kn, up, dn, sa, sh, oc, rn, sA, sB, N, P, K, R, NY, PY, KY, me, pt, h, lx, lo, va, rf, al, fX, fY, pe, ou, es, td, ph, rfl, rfl, H, hAB, hkn, hR⟩ := I
  obtain ⟨R1, R2, R3, R4, R5, R6, R7, R8, R9⟩ := hR
  obtain ⟨hLc, hL24, hEL, hM, hd⟩ := R1.2.2.2.2.2.2.1
  rcases pk_ix v1 (n := E) (by omega) with c | c | ⟨m, hm, rfl⟩
  · exact br_t c (ym_ended _ (by omega) (fun _ => ⟨rfl, II⟩) (fun j hj e => by rw [e] at c; exact absurd c (nI_pos (by omega))))
  · exact br_f (Int32.not_lt.mpr (Int32.le_trans (nI_pos' (n := E) (by omega)) c)) (br_f (Int32.not_lt.mpr c) (ym_ended _ (by omega) (fun _ => ⟨rfl, II⟩) (fun j hj e => by rw [e] at c; exact absurd c (nI_ge hj (by omega)))))
  · have vm : vp_in (nI m) 301 := vp_in_nI (by omega) (by omega)
    refine br_f (nI_pos (by omega)) (br_t (nI_lt hm (by omega)) ⟨vm, ?_⟩)
    rw [nI_clamp (by omega)]
    refine ym_ended _ (by omega) (fun z => ?_) (fun j hj e => ⟨by rw [(nI_eq (by omega) (by omega)).mp e], II⟩)
    rcases z with z | z
    · exact absurd z (nI_pos (by omega))
    · exact absurd z (nI_ge hm (by omega))
