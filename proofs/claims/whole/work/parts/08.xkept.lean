section
variable {p : ap_T} {po en up dn bg lv md gX dp sa sh : Int32} {N P K R me pt h lx va rf al fX pe ou es : Nat → Int32}
variable {m i : Nat}
theorem ax_ho (H : ap_OK p) (hm : m < 4) (hi : i < ap_Z p m) (hN : ap_NS p m N) (post : Int32 → Prop)
    (h0 : ¬ ap_ho p m i → post 0) (h1 : ap_ho p m i → post 1) : wpX_handsOver post (po, en, up, dn, bg, lv, md, gX, dp, sa, sh, ap_sz p, ap_L p, ap_oo p, ap_aA p, ap_aB p, ap_c p, N, P, K, R, me, pt, h, lx, va, rf, al, fX, pe, ou, es) (nI m) (nI i) := by
  have hz := H.2.1 m
  have hk : 16 * m + i < 64 := by omega
  have hI : vp_in (nI (16 * m + i)) 64 := vp_in_nI hk (by omega)
  have h14 := H.1 (16 * m + i)
  have hA := h14.2.1
  have hB := h14.2.2.1
  have he := ap_ook p hk
  have n : ∀ j, j < 64 → ap_O p (16 * m + i) ≠ j → ¬ nI (ap_O p (16 * m + i)) = nI j := fun j hj z => by rw [nI_eq (by omega) (by omega)]; exact z
  -- behind the two questions
  have fin : ∀ x4 z0 : Int32, ((ap_A p (16 * m + i) = ap_B p (16 * m + i) ∧ x4 = 1) ∨ (ap_A p (16 * m + i) ≠ ap_B p (16 * m + i) ∧ x4 = 0)) → ((ap_la p m i ∧ z0 = 1) ∨ (¬ ap_la p m i ∧ z0 = 0)) →
      wX_handsOver_54 post (nI (16 * m + i)) x4 z0 po en up dn bg lv md gX dp sa sh (ap_sz p) (ap_L p) (ap_oo p) (ap_aA p) (ap_aB p) (ap_c p) N P K R me pt h lx va rf al fX pe ou es := by
    intro x4 z0 q4 q0
    refine ⟨hI, nm_r he ?_⟩
    by_cases c1 : ap_O p (16 * m + i) = 1
    · refine br_t (by rw [c1]; rfl) ?_
      rcases q0 with ⟨a, e⟩ | ⟨a, e⟩
      · rcases q4 with ⟨b, f⟩ | ⟨b, f⟩
        · exact br_f (by rw [e]; decide) (br_f (by rw [f]; decide) (h0 (fun z => by rcases z with z | z | z <;> have := z.1 <;> first | omega | exact z.2.2 b)))
        · exact br_f (by rw [e]; decide) (br_t f (h1 (Or.inl ⟨c1, a, b⟩)))
      · exact br_t e (h0 (fun z => by rcases z with z | z | z <;> have := z.1 <;> first | omega | exact a z.2.1))
    refine br_f (n 1 (by omega) c1) ?_
    by_cases c2 : ap_O p (16 * m + i) = 4
    · refine br_t (by rw [c2]; rfl) ?_
      obtain ⟨ec, lc⟩ := h14.2.2.2.1 (Or.inr c2)
      rcases q0 with ⟨a, e⟩ | ⟨a, e⟩
      · rcases q4 with ⟨b, f⟩ | ⟨b, f⟩
        · exact br_f (by rw [e]; decide) (br_f (by rw [f]; decide) (h0 (fun z => by rcases z with z | z | z <;> have := z.1 <;> first | omega | exact z.2.2.1 b)))
        · refine br_f (by rw [e]; decide) (br_t f ⟨hI, ?_⟩)
          rw [ap_ck p hk, ec]
          exact pk_eq _ 2 (fun c => h0 (fun z => by rcases z with z | z | z <;> have := z.1 <;> first | omega | exact z.2.2.2 c)) (fun c => h1 (Or.inr (Or.inl ⟨c2, a, b, c⟩)))
      · exact br_t e (h0 (fun z => by rcases z with z | z | z <;> have := z.1 <;> first | omega | exact a z.2.1))
    refine br_f (n 4 (by omega) c2) ?_
    by_cases c3 : ap_O p (16 * m + i) = 11
    · refine br_t (by rw [c3]; rfl) ?_
      obtain ⟨ec, lc⟩ := h14.2.2.2.2.2 c3
      have L : (ap_la p m i ∨ ap_A p (16 * m + i) = ap_B p (16 * m + i)) → wX_handsOver_148 post (nI (16 * m + i)) po en up dn bg lv md gX dp sa sh (ap_sz p) (ap_L p) (ap_oo p) (ap_aA p) (ap_aB p) (ap_c p) N P K R me pt h lx va rf al fX pe ou es := by
        intro q
        refine ⟨hI, ?_⟩
        rw [ap_ck p hk, ec, nI_clamp (by omega)]
        refine ⟨vp_in_nI lc (by omega), br_c (fun c => h1 (Or.inr (Or.inr ⟨c3, q, c⟩))) (fun c => h0 (fun z => by rcases z with z | z | z <;> have := z.1 <;> first | omega | exact c z.2.2))⟩
      rcases q0 with ⟨a, e⟩ | ⟨a, e⟩
      · exact br_f (by rw [e]; decide) (L (Or.inl a))
      · rcases q4 with ⟨b, f⟩ | ⟨b, f⟩
        · exact br_t e (br_f (by rw [f]; decide) (L (Or.inr b)))
        · exact br_t e (br_t f (h0 (fun z => by rcases z with z | z | z <;> have := z.1 <;> first | omega | (rcases z.2.1 with y | y; exact a y; exact b y))))
    · exact br_f (n 11 (by omega) c3) (h0 (fun z => by rcases z with z | z | z <;> have := z.1 <;> omega))
  obtain ⟨y1, g1, v1⟩ := ax_na (po := po) (en := en) (up := up) (dn := dn) (bg := bg) (lv := lv) (md := md) (gX := gX) (dp := dp) (sa := sa) (sh := sh) (N := N) (P := P) (K := K) (R := R) (me := me) (pt := pt) (h := h) (lx := lx) (va := va) (rf := rf) (al := al) (fX := fX) (pe := pe) (ou := ou) (es := es) H hm (j := i + 1) (by omega)
  have mid : ∀ x4 : Int32, ((ap_A p (16 * m + i) = ap_B p (16 * m + i) ∧ x4 = 1) ∨ (ap_A p (16 * m + i) ≠ ap_B p (16 * m + i) ∧ x4 = 0)) → wX_handsOver_27 post (nI m) (nI i) (nI (16 * m + i)) x4 po en up dn bg lv md gX dp sa sh (ap_sz p) (ap_L p) (ap_oo p) (ap_aA p) (ap_aB p) (ap_c p) N P K R me pt h lx va rf al fX pe ou es := by
    intro x4 q4
    unfold wX_handsOver_27
    rw [nI_1]
    refine v1 _ ⟨hI, ?_⟩
    rw [ap_aBk p hk]
    have hl : bt y1 (ap_B p (16 * m + i)) = false ↔ ap_la p m i := by
      unfold ap_la
      rcases g1 with ⟨b, f⟩ | ⟨b, f⟩
      · rw [f, ← hN (i + 1) b _ (by omega)]
        constructor
        · intro q z; rw [q] at z; exact absurd z.2 (by decide)
        · intro q; cases e : bt (N (16 * m + (i + 1))) (ap_B p (16 * m + i)) with
          | false => rfl
          | true => exact absurd ⟨b, e⟩ q
      · rw [f, b_0]
        exact ⟨fun _ z => by omega, fun _ => rfl⟩
    refine br_c (fun c => fin x4 1 q4 (Or.inl ⟨?_, rfl⟩)) (fun c => fin x4 0 q4 (Or.inr ⟨?_, rfl⟩))
    · rw [ad_and0 _ (by omega)] at c; exact hl.mp c
    · rw [ad_and0 _ (by omega)] at c; exact fun z => c (hl.mpr z)
  refine nm_r (ap_xk m i) ⟨hI, hI, ?_⟩
  rw [ap_aAk p hk, ap_aBk p hk]
  exact pk_eq _ _ (fun c => mid 1 (Or.inl ⟨c, rfl⟩)) (fun c => mid 0 (Or.inr ⟨c, rfl⟩))
theorem ax_kb (H : ap_OK p) (hm : m < 4) (hi : i < ap_Z p m) (hP : ap_PS p m P) : ∃ x : Int32, (∀ v, v < 32 → (bt x v = true ↔ (ap_gn p m i v ∨ bt (K (16 * m + i)) v = true ∧ ¬ ap_kl p m i v))) ∧
    ∀ post : Int32 → Prop, post x → wpX_keptBehind post (po, en, up, dn, bg, lv, md, gX, dp, sa, sh, ap_sz p, ap_L p, ap_oo p, ap_aA p, ap_aB p, ap_c p, N, P, K, R, me, pt, h, lx, va, rf, al, fX, pe, ou, es) (nI (16 * m + i)) := by
  have hz := H.2.1 m
  have hk : 16 * m + i < 64 := by omega
  have hI : vp_in (nI (16 * m + i)) 64 := vp_in_nI hk (by omega)
  have h14 := H.1 (16 * m + i)
  have sA := ad_b1 h14.2.1
  have sB := ad_b1 h14.2.2.1
  have he := ap_ook p hk
  have ek : (nI (16 * m + i)).toNatClampNeg = 16 * m + i := nI_clamp (by omega)
  have p1 := ap_Pl_1 (hP i hi)
  have p2 := ap_Pl_2 (hP i hi)
  have B : ∃ z : Int32, (∀ v, v < 32 → (bt z v = true ↔ bt (K (16 * m + i)) v = true ∧ ¬ (ap_ho p m i ∧ v = ap_B p (16 * m + i)))) ∧ ∀ post : Int32 → Prop, wX_keptBehind_45 post (nI (16 * m + i)) ((1 : Int32) <<< (nI (ap_A p (16 * m + i)) &&& 31)) z po en up dn bg lv md gX dp sa sh (ap_sz p) (ap_L p) (ap_oo p) (ap_aA p) (ap_aB p) (ap_c p) N P K R me pt h lx va rf al fX pe ou es → wpX_keptBehind post (po, en, up, dn, bg, lv, md, gX, dp, sa, sh, ap_sz p, ap_L p, ap_oo p, ap_aA p, ap_aB p, ap_c p, N, P, K, R, me, pt, h, lx, va, rf, al, fX, pe, ou, es) (nI (16 * m + i)) := by
    by_cases c : ap_ho p m i
    · refine ⟨K (16 * m + i) &&& (((1 : Int32) <<< (nI (ap_B p (16 * m + i)) &&& 31)) ^^^ (-1)), fun v hv => ?_, fun post hp => ⟨hI, nm_r (by rw [ap_aAk p hk]) ⟨hI, br_t (by rw [ek]; exact p2.mpr c) ⟨hI, hI, ?_⟩⟩⟩⟩
      · rw [b_and, ad_not _ hv, Bool.and_eq_true, ad_bn (sB v hv)]
        exact ⟨fun q => ⟨q.1, fun z => q.2 z.2⟩, fun q => ⟨q.1, fun z => q.2 ⟨c, z⟩⟩⟩
      · rw [ek, show ap_aB p (16 * m + i) = nI (ap_B p (16 * m + i)) from rfl]; exact hp
    · refine ⟨K (16 * m + i), fun v hv => ⟨fun q => ⟨q, fun z => c z.1⟩, fun q => q.1⟩, fun post hp => ⟨hI, nm_r (by rw [ap_aAk p hk]) ⟨hI, br_f (by rw [ek]; exact fun z => c (p2.mp z)) ⟨hI, ?_⟩⟩⟩⟩
      rw [ek]; exact hp
  obtain ⟨z, hzb, wz⟩ := B
  rcases ap_14 H (16 * m + i) with e | e | e | e | e | e | e | e | e | e | e | e | e | e
  · rw [e] at he
    have l : ¬ ap_ln p m i := fun q => by have := q.1; omega
    refine ⟨z ||| ((1 : Int32) <<< (nI (ap_A p (16 * m + i)) &&& 31)), fun v hv => ?_, fun post hp => wz post ⟨hI, nm_r (e' := (0 : Int32)) he (br_f (by decide) (br_f (by decide) (br_t (by decide) (hp))))⟩⟩
    rw [b_or, Bool.or_eq_true, sA v hv, hzb v hv]
    unfold ap_gn ap_kl
    simp [e, l, or_comm]
  · rw [e] at he
    have l : ¬ ap_ln p m i := fun q => by have := q.1; omega
    refine ⟨z ||| ((1 : Int32) <<< (nI (ap_A p (16 * m + i)) &&& 31)), fun v hv => ?_, fun post hp => wz post ⟨hI, nm_r (e' := (1 : Int32)) he (br_f (by decide) (br_f (by decide) (br_f (by decide) (br_t (by decide) (hp)))))⟩⟩
    rw [b_or, Bool.or_eq_true, sA v hv, hzb v hv]
    unfold ap_gn ap_kl
    simp [e, l, or_comm]
  · rw [e] at he
    have l : ¬ ap_ln p m i := fun q => by have := q.1; omega
    refine ⟨z &&& (((1 : Int32) <<< (nI (ap_A p (16 * m + i)) &&& 31)) ^^^ (-1)), fun v hv => ?_, fun post hp => wz post ⟨hI, nm_r (e' := (2 : Int32)) he (br_f (by decide) (br_f (by decide) (br_f (by decide) (br_f (by decide) (br_t (by decide) (hp))))))⟩⟩
    rw [b_and, ad_not _ hv, Bool.and_eq_true, ad_bn (sA v hv), hzb v hv]
    unfold ap_gn ap_kl
    simp [e, l, and_assoc]
  · rw [e] at he
    by_cases l : ap_ln p m i
    · refine ⟨z &&& (((1 : Int32) <<< (nI (ap_A p (16 * m + i)) &&& 31)) ^^^ (-1)), fun v hv => ?_, fun post hp => wz post ⟨hI, nm_r (e' := (3 : Int32)) he (br_f (by decide) (br_f (by decide) (br_f (by decide) (br_f (by decide) (br_f (by decide) (br_t (by decide) (⟨hI, br_t (by rw [ek]; exact p1.mpr l) hp⟩)))))))⟩⟩
      rw [b_and, ad_not _ hv, Bool.and_eq_true, ad_bn (sA v hv), hzb v hv]
      unfold ap_gn ap_kl
      simp only [e, l, not_true, and_false, false_or, or_true, true_and, not_or, and_assoc]
    · refine ⟨z ||| ((1 : Int32) <<< (nI (ap_A p (16 * m + i)) &&& 31)), fun v hv => ?_, fun post hp => wz post ⟨hI, nm_r (e' := (3 : Int32)) he (br_f (by decide) (br_f (by decide) (br_f (by decide) (br_f (by decide) (br_f (by decide) (br_t (by decide) (⟨hI, br_f (by rw [ek]; exact fun z => l (p1.mp z)) hp⟩)))))))⟩⟩
      rw [b_or, Bool.or_eq_true, sA v hv, hzb v hv]
      unfold ap_gn ap_kl
      simp [e, l, or_comm]
  · rw [e] at he
    have l : ¬ ap_ln p m i := fun q => by have := q.1; omega
    refine ⟨z, fun v hv => ?_, fun post hp => wz post ⟨hI, nm_r (e' := (4 : Int32)) he (br_f (by decide) (br_f (by decide) (br_f (by decide) (br_f (by decide) (br_f (by decide) (br_f (by decide) (br_t (by decide) (hp))))))))⟩⟩
    rw [hzb v hv]
    unfold ap_gn ap_kl
    simp [e, l]
  · rw [e] at he
    have l : ¬ ap_ln p m i := fun q => by have := q.1; omega
    refine ⟨z, fun v hv => ?_, fun post hp => wz post ⟨hI, nm_r (e' := (5 : Int32)) he (br_f (by decide) (br_f (by decide) (br_f (by decide) (br_f (by decide) (br_f (by decide) (br_f (by decide) (br_f (by decide) (br_t (by decide) (hp)))))))))⟩⟩
    rw [hzb v hv]
    unfold ap_gn ap_kl
    simp [e, l]
  · rw [e] at he
    have l : ¬ ap_ln p m i := fun q => by have := q.1; omega
    refine ⟨z, fun v hv => ?_, fun post hp => wz post ⟨hI, nm_r (e' := (6 : Int32)) he (br_f (by decide) (br_f (by decide) (br_f (by decide) (br_f (by decide) (br_f (by decide) (br_f (by decide) (br_f (by decide) (br_f (by decide) (br_t (by decide) (hp))))))))))⟩⟩
    rw [hzb v hv]
    unfold ap_gn ap_kl
    simp [e, l]
  · rw [e] at he
    have l : ¬ ap_ln p m i := fun q => by have := q.1; omega
    refine ⟨z, fun v hv => ?_, fun post hp => wz post ⟨hI, nm_r (e' := (7 : Int32)) he (br_f (by decide) (br_f (by decide) (br_f (by decide) (br_f (by decide) (br_f (by decide) (br_f (by decide) (br_f (by decide) (br_f (by decide) (br_f (by decide) (br_t (by decide) (hp)))))))))))⟩⟩
    rw [hzb v hv]
    unfold ap_gn ap_kl
    simp [e, l]
  · rw [e] at he
    have l : ¬ ap_ln p m i := fun q => by have := q.1; omega
    refine ⟨z ||| ((1 : Int32) <<< (nI (ap_A p (16 * m + i)) &&& 31)), fun v hv => ?_, fun post hp => wz post ⟨hI, nm_r (e' := (8 : Int32)) he (br_f (by decide) (br_f (by decide) (br_f (by decide) (br_f (by decide) (br_f (by decide) (br_f (by decide) (br_f (by decide) (br_f (by decide) (br_f (by decide) (br_f (by decide) (br_t (by decide) (hp))))))))))))⟩⟩
    rw [b_or, Bool.or_eq_true, sA v hv, hzb v hv]
    unfold ap_gn ap_kl
    simp [e, l, or_comm]
  · rw [e] at he
    have l : ¬ ap_ln p m i := fun q => by have := q.1; omega
    refine ⟨z, fun v hv => ?_, fun post hp => wz post ⟨hI, nm_r (e' := (9 : Int32)) he (br_f (by decide) (br_f (by decide) (br_f (by decide) (br_f (by decide) (br_f (by decide) (br_f (by decide) (br_f (by decide) (br_f (by decide) (br_f (by decide) (br_f (by decide) (br_f (by decide) (br_t (by decide) (hp)))))))))))))⟩⟩
    rw [hzb v hv]
    unfold ap_gn ap_kl
    simp [e, l]
  · rw [e] at he
    have l : ¬ ap_ln p m i := fun q => by have := q.1; omega
    refine ⟨z, fun v hv => ?_, fun post hp => wz post ⟨hI, nm_r (e' := (10 : Int32)) he (br_f (by decide) (br_f (by decide) (br_f (by decide) (br_f (by decide) (br_f (by decide) (br_f (by decide) (br_f (by decide) (br_f (by decide) (br_f (by decide) (br_f (by decide) (br_f (by decide) (br_f (by decide) (br_t (by decide) (hp))))))))))))))⟩⟩
    rw [hzb v hv]
    unfold ap_gn ap_kl
    simp [e, l]
  · rw [e] at he
    have l : ¬ ap_ln p m i := fun q => by have := q.1; omega
    refine ⟨z ||| ((1 : Int32) <<< (nI (ap_A p (16 * m + i)) &&& 31)), fun v hv => ?_, fun post hp => wz post ⟨hI, nm_r (e' := (11 : Int32)) he (br_f (by decide) (br_f (by decide) (br_f (by decide) (br_f (by decide) (br_f (by decide) (br_f (by decide) (br_f (by decide) (br_f (by decide) (br_f (by decide) (br_f (by decide) (br_f (by decide) (br_f (by decide) (br_f (by decide) (br_t (by decide) (hp)))))))))))))))⟩⟩
    rw [b_or, Bool.or_eq_true, sA v hv, hzb v hv]
    unfold ap_gn ap_kl
    simp [e, l, or_comm]
  · rw [e] at he
    have l : ¬ ap_ln p m i := fun q => by have := q.1; omega
    refine ⟨z, fun v hv => ?_, fun post hp => wz post ⟨hI, nm_r (e' := (12 : Int32)) he (br_f (by decide) (br_t (by decide) (hp)))⟩⟩
    rw [hzb v hv]
    unfold ap_gn ap_kl
    simp [e, l]
  · rw [e] at he
    have l : ¬ ap_ln p m i := fun q => by have := q.1; omega
    refine ⟨z, fun v hv => ?_, fun post hp => wz post ⟨hI, nm_r (e' := (13 : Int32)) he (br_f (by decide) (br_t (by decide) (hp)))⟩⟩
    rw [hzb v hv]
    unfold ap_gn ap_kl
    simp [e, l]
end
