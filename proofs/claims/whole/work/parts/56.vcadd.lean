theorem i_vc_add {k : Nat} {u : SX} {v : SY} (I : i_Rel k u v) (hk : k + 6 ≤ 3072) (v1 : Int32) (v2 : Int32) (v3 : Int32) (v4 : Int32) (v5 : Int32) : wpX_add (fun r u' => wpY_add (fun r' v' => r' = r ∧ i_Rel (k + 6) u' v') v v1 v2 v3 v4 v5) u v1 v2 v3 v4 v5 := by
  have II := I
  obtain ⟨p, d, M, L, E, Q, B, g, kn, up, dn, sa, sh, oc, rn, sA, sB, N, P, K, R, NY, PY, KY, me, pt, h, lx, lo, va, rf, al, fX, fY, pe, ou, es, td, ph, rfl, rfl, H, hAB, hkn, hR⟩ := I
  rcases ar_rng v1 4 (by decide) with c | ⟨m, hm, rfl⟩
  · unfold wpX_add
    exact xb_bad 4 c (by unfold wpY_add; exact by_no1 4 c (br_f (by decide) ⟨rfl, II⟩))
  · rcases ar_rng v2 14 (by decide) with c | ⟨o, ho, rfl⟩
    · unfold wpX_add
      exact br_f (nI_pos (by omega)) (br_f (nI_ge (b := 4) hm (by decide)) (xc_bad 13 (by decide) c (by unfold wpY_add; exact by_no0 4 hm (by decide) (br_t rfl (by_no1 14 c (br_f (by decide) ⟨rfl, II⟩))))))
    · have h14 : o = 0 ∨ o = 1 ∨ o = 2 ∨ o = 3 ∨ o = 4 ∨ o = 5 ∨ o = 6 ∨ o = 7 ∨ o = 8 ∨ o = 9 ∨ o = 10 ∨ o = 11 ∨ o = 12 ∨ o = 13 := by omega
      rcases h14 with e | e | e | e | e | e | e | e | e | e | e | e | e | e <;> subst e
      · exact ar_add0 H hAB hkn hR hm
      · exact ar_add1 H hAB hkn hR hm
      · exact ar_add2 H hAB hkn hR hm
      · exact ar_add3 H hAB hkn hR hm
      · exact ar_add4 H hAB hkn hR hm
      · exact ar_add5 H hAB hkn hR hm
      · exact ar_add6 H hAB hkn hR hm
      · exact ar_add7 H hAB hkn hR hm
      · exact ar_add8 H hAB hkn hR hm
      · exact ar_add9 H hAB hkn hR hm
      · exact ar_add10 H hAB hkn hR hm
      · exact ar_add11 H hAB hkn hR hm
      · exact ar_add12 H hAB hkn hR hm
      · exact ar_add13 H hAB hkn hR hm
