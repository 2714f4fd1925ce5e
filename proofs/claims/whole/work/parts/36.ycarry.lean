section
variable {p : ap_T} {kn md lv up dn dp bg gY oc sh rn po en : Int32} {sA sB NY PY KY va fY al me pt h lo ou es td ph : Nat → Int32}
variable {f m i M d na : Nat}
theorem by_pre (hAB : ap_AB p sA sB) (hf : f < 6) (hk : 16 * m + i < 64) (hA : ap_A p (16 * m + i) < 6) (n10 : ap_O p (16 * m + i) ≠ 10) (n13 : ap_O p (16 * m + i) ≠ 13) (ho : ap_O p (16 * m + i) ≤ 13) (post : SY → Prop)
    (K : wY_carryOut_58 post (nI (16 * m + i)) (nI (ap_O p (16 * m + i))) (nI (6 * f + ap_A p (16 * m + i))) (nI (6 * f) + sB (16 * m + i)) (ap_c p (16 * m + i)) (h (6 * f + ap_A p (16 * m + i))) kn md lv up dn dp bg gY oc sh rn po en (ap_oo p) sA sB (ap_c p) (ap_sz p) (ap_L p) NY PY KY va fY al me pt h lo ou es td ph) :
    wpY_carryOut post (kn, md, lv, up, dn, dp, bg, gY, oc, sh, rn, po, en, ap_oo p, sA, sB, ap_c p, ap_sz p, ap_L p, NY, PY, KY, va, fY, al, me, pt, h, lo, ou, es, td, ph) (nI (6 * f)) (nI (16 * m + i)) := by
  have hI : vp_in (nI (16 * m + i)) 64 := vp_in_nI hk (by omega)
  have ek : (nI (16 * m + i)).toNatClampNeg = 16 * m + i := nI_clamp (by omega)
  have y4 : nI (6 * f) + sA (nI (16 * m + i)).toNatClampNeg = nI (6 * f + ap_A p (16 * m + i)) := by rw [ek, (hAB (16 * m + i)).1 n10 n13, nI_add]
  refine ⟨hI, nm_r (ap_ook p hk) ⟨hI, nm_r y4 ⟨hI, nm_r (e' := nI (6 * f) + sB (16 * m + i)) (by rw [ek]) ⟨hI, nm_r (ap_ck p hk) ?_⟩⟩⟩⟩
  refine pk_eq (ap_O p (16 * m + i)) 10 (fun e => absurd e n10) (fun _ => pk_eq (ap_O p (16 * m + i)) 13 (fun e => absurd e n13) (fun _ => ⟨vp_in_nI (by omega) (by omega), ?_⟩))
  rw [nI_clamp (by omega)]
  exact K
theorem by_58 {o : Nat} (ho : o ≤ 13) (post : SY → Prop) (k a b c n : Int32) (h0 : o = 0 → ¬ lv = 24) (h46 : o = 4 ∨ o = 6 → ¬ n = 0) (h3 : o = 3 → vp_in b 36 ∧ ¬ h b.toNatClampNeg = 0)
    (h11 : o = 11 → ¬ dp = 6 ∧ vp_in c 4 ∧ ¬ ap_sz p c.toNatClampNeg = 0) (K : wY_carryOut_134 post k (nI o) a b c n 0 kn md lv up dn dp bg gY oc sh rn po en (ap_oo p) sA sB (ap_c p) (ap_sz p) (ap_L p) NY PY KY va fY al me pt h lo ou es td ph) : wY_carryOut_58 post k (nI o) a b c n kn md lv up dn dp bg gY oc sh rn po en (ap_oo p) sA sB (ap_c p) (ap_sz p) (ap_L p) NY PY KY va fY al me pt h lo ou es td ph := by
  have G104 : wY_carryOut_104 post k (nI o) a b c n kn md lv up dn dp bg gY oc sh rn po en (ap_oo p) sA sB (ap_c p) (ap_sz p) (ap_L p) NY PY KY va fY al me pt h lo ou es td ph := pk_eq o 11 (fun e => br_f (h11 e).1 ⟨(h11 e).2.1, br_f (h11 e).2.2 K⟩) (fun _ => K)
  have G89 : wY_carryOut_89 post k (nI o) a b c n kn md lv up dn dp bg gY oc sh rn po en (ap_oo p) sA sB (ap_c p) (ap_sz p) (ap_L p) NY PY KY va fY al me pt h lo ou es td ph := pk_eq o 3 (fun e => ⟨(h3 e).1, br_f (h3 e).2 G104⟩) (fun _ => G104)
  have G73 : wY_carryOut_73 post k (nI o) a b c n kn md lv up dn dp bg gY oc sh rn po en (ap_oo p) sA sB (ap_c p) (ap_sz p) (ap_L p) NY PY KY va fY al me pt h lo ou es td ph := pk_eq o 4 (fun e => br_f (h46 (Or.inl e)) G89) (fun _ => pk_eq o 6 (fun e => br_f (h46 (Or.inr e)) G89) (fun _ => G89))
  exact pk_eq o 0 (fun e => br_f (h0 e) G73) (fun _ => G73)
theorem by_58f {o : Nat} (ho : o ≤ 13) (post : SY → Prop) (k a b c n : Int32)
    (hf : (o = 0 ∧ lv = 24) ∨ ((o = 4 ∨ o = 6) ∧ n = 0) ∨ (o = 3 ∧ vp_in b 36 ∧ h b.toNatClampNeg = 0) ∨ (o = 11 ∧ (dp = 6 ∨ (¬ dp = 6 ∧ vp_in c 4 ∧ ap_sz p c.toNatClampNeg = 0))))
    (K : wY_carryOut_134 post k (nI o) a b c n 1 kn md lv up dn dp bg gY oc sh rn po en (ap_oo p) sA sB (ap_c p) (ap_sz p) (ap_L p) NY PY KY va fY al me pt h lo ou es td ph) : wY_carryOut_58 post k (nI o) a b c n kn md lv up dn dp bg gY oc sh rn po en (ap_oo p) sA sB (ap_c p) (ap_sz p) (ap_L p) NY PY KY va fY al me pt h lo ou es td ph := by
  have n : ∀ j, j < 64 → o ≠ j → ¬ nI o = nI j := fun j hj z => by rw [nI_eq (by omega) (by omega)]; exact z
  rcases hf with ⟨e, q⟩ | ⟨e, q⟩ | ⟨e, q1, q2⟩ | ⟨e, q⟩
  · exact br_t (by rw [e]; rfl) (br_t q K)
  · refine br_f (n 0 (by omega) (by omega)) ?_
    rcases e with e | e
    · exact br_t (by rw [e]; rfl) (br_t q K)
    · exact br_f (n 4 (by omega) (by omega)) (br_t (by rw [e]; rfl) (br_t q K))
  · exact br_f (n 0 (by omega) (by omega)) (br_f (n 4 (by omega) (by omega)) (br_f (n 6 (by omega) (by omega)) (br_t (by rw [e]; rfl) ⟨q1, br_t q2 K⟩)))
  · refine br_f (n 0 (by omega) (by omega)) (br_f (n 4 (by omega) (by omega)) (br_f (n 6 (by omega) (by omega)) (br_f (n 3 (by omega) (by omega)) (br_t (by rw [e]; rfl) ?_))))
    rcases q with q | ⟨q1, q2, q3⟩
    · exact br_t q K
    · exact br_f q1 ⟨q2, br_t q3 K⟩
/-- it fails -/
theorem by_fail (hAB : ap_AB p sA sB) (hf : f < 6) (hk : 16 * m + i < 64) (hA : ap_A p (16 * m + i) < 6) (hM : M ≤ 300) (hd : d ≤ 6) (hn : na ≤ 300) (ea : h (6 * f + ap_A p (16 * m + i)) = nI na) (n10 : ap_O p (16 * m + i) ≠ 10) (n13 : ap_O p (16 * m + i) ≠ 13) (n8 : ap_O p (16 * m + i) ≠ 8) (ho : ap_O p (16 * m + i) ≤ 13) (post : SY → Prop)
    (hf2 : (ap_O p (16 * m + i) = 0 ∧ lv = 24) ∨ ((ap_O p (16 * m + i) = 4 ∨ ap_O p (16 * m + i) = 6) ∧ nI na = 0) ∨ (ap_O p (16 * m + i) = 3 ∧ vp_in (nI (6 * f) + sB (16 * m + i)) 36 ∧ h (nI (6 * f) + sB (16 * m + i)).toNatClampNeg = 0) ∨ (ap_O p (16 * m + i) = 11 ∧ (nI d = 6 ∨ (¬ nI d = 6 ∧ vp_in (ap_c p (16 * m + i)) 4 ∧ ap_sz p (ap_c p (16 * m + i)).toNatClampNeg = 0))))
    (hp : post (kn, nI M, lv, up, dn, nI d, bg, gY, 1, sh, rn, po, en, ap_oo p, sA, sB, ap_c p, ap_sz p, ap_L p, NY, PY, KY, va, fY, al, me, pt, h, lo, ou, es, td, ph)) : wpY_carryOut post (kn, nI M, lv, up, dn, nI d, bg, gY, oc, sh, rn, po, en, ap_oo p, sA, sB, ap_c p, ap_sz p, ap_L p, NY, PY, KY, va, fY, al, me, pt, h, lo, ou, es, td, ph) (nI (6 * f)) (nI (16 * m + i)) := by
  refine by_pre hAB hf hk hA n10 n13 ho post ?_
  rw [ea]
  refine by_58f ho post _ _ _ _ _ hf2 (by_134 hM hd (by omega) hn post _ _ _ _ _ (fun z _ => ?_))
  exact pk_eq (ap_O p (16 * m + i)) 8 (fun e => absurd e n8) (fun _ => br_f (by decide) hp)
/-- it does not fail, and goes on behind: op 0 to 7 -/
theorem by_go (hAB : ap_AB p sA sB) (hf : f < 6) (hk : 16 * m + i < 64) (hA : ap_A p (16 * m + i) < 6) (hM : M ≤ 300) (hn : na ≤ 300) (ea : h (6 * f + ap_A p (16 * m + i)) = nI na) (ei : pt f = nI i) (ho : ap_O p (16 * m + i) ≤ 7) (post : SY → Prop)
    (h0 : ap_O p (16 * m + i) = 0 → ¬ lv = 24) (h46 : ap_O p (16 * m + i) = 4 ∨ ap_O p (16 * m + i) = 6 → ¬ nI na = 0) (h3 : ap_O p (16 * m + i) = 3 → vp_in (nI (6 * f) + sB (16 * m + i)) 36 ∧ ¬ h (nI (6 * f) + sB (16 * m + i)).toNatClampNeg = 0)
    (K : ∀ z : Int32, ((z = 1 ∧ 1 ≤ na ∧ lo (6 * f + ap_A p (16 * m + i)) = 0 ∧ ac_N gY h lo (f + 1) fY M na = 1) ∨ (z = 0 ∧ ¬ (1 ≤ na ∧ lo (6 * f + ap_A p (16 * m + i)) = 0 ∧ ac_N gY h lo (f + 1) fY M na = 1))) →
      wY_carryOut_294 post (nI (16 * m + i)) (nI (ap_O p (16 * m + i))) (nI (6 * f + ap_A p (16 * m + i))) (nI (6 * f) + sB (16 * m + i)) (ap_c p (16 * m + i)) (nI na) z (nI (i + 1)) (nI f) kn (nI M) lv up dn (nI (f + 1)) bg gY oc sh rn po en (ap_oo p) sA sB (ap_c p) (ap_sz p) (ap_L p) NY PY KY va fY al me pt h lo ou es td ph) :
    wpY_carryOut post (kn, nI M, lv, up, dn, nI (f + 1), bg, gY, oc, sh, rn, po, en, ap_oo p, sA, sB, ap_c p, ap_sz p, ap_L p, NY, PY, KY, va, fY, al, me, pt, h, lo, ou, es, td, ph) (nI (6 * f)) (nI (16 * m + i)) := by
  have n : ∀ j, j < 64 → ap_O p (16 * m + i) ≠ j → ¬ nI (ap_O p (16 * m + i)) = nI j := fun j hj z => by rw [nI_eq (by omega) (by omega)]; exact z
  refine by_pre hAB hf hk hA (by omega) (by omega) (by omega) post ?_
  rw [ea]
  refine by_58 (by omega) post _ _ _ _ _ h0 h46 h3 (fun e => by omega) (by_134 hM (by omega) (by omega) hn post _ _ _ _ _ (fun z hz => ?_))
  refine br_f (n 8 (by omega) (by omega)) (br_t rfl (br_f (n 11 (by omega) (by omega)) (br_f (n 12 (by omega) (by omega)) (br_f (n 13 (by omega) (by omega)) (br_f (n 10 (by omega) (by omega)) (br_f (n 9 (by omega) (by omega)) ?_))))))
  have vf : vp_in (nI f) 6 := vp_in_nI hf (by omega)
  have k := K z hz
  unfold wY_carryOut_281
  rw [nI_pred, nI_clamp (n := f) (by omega), ei, nI_1]
  exact ⟨vf, k⟩
end
