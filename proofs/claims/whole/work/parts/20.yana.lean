theorem ay_no (post : Int32 → Prop) (x : Int32) {n : Nat} (hn : n < 2 ^ 31) (h0 : ∀ j, j < n → x = nI j → post 0) (h1 : (x < 0 ∨ nI n ≤ x) → post 1) : wpY_no post x (nI n) := by
  by_cases c : x < 0
  · exact br_t c (h1 (Or.inl c))
  · obtain ⟨j, hj, rfl⟩ := nI_of c
    exact br_f c (pk_lt j n (fun q => h0 j q rfl) (fun q => h1 (Or.inr (nI_le q hj))))
section
variable {p : ap_T} {kn md lv up dn dp bg gY oc sh rn po en : Int32} {sA sB NY PY KY va fY al me pt h lo ou es td ph : Nat → Int32}
variable {m i : Nat}
theorem ay_on (H : ap_OK p) (hm : m < 4) (hi : i < 16) : ∃ x : Int32, ((ap_on p (16 * m + i) ∧ x = 1) ∨ (¬ ap_on p (16 * m + i) ∧ x = 0)) ∧ ∀ post : Int32 → Prop, post x → wpY_goesOn post (kn, md, lv, up, dn, dp, bg, gY, oc, sh, rn, po, en, ap_oo p, sA, sB, ap_c p, ap_sz p, ap_L p, NY, PY, KY, va, fY, al, me, pt, h, lo, ou, es, td, ph) (nI (16 * m + i)) := by
  have hk : 16 * m + i < 64 := by omega
  have hI : vp_in (nI (16 * m + i)) 64 := vp_in_nI hk (by omega)
  have he := ap_ook p hk
  have h14 := H.1 (16 * m + i)
  by_cases c1 : ap_O p (16 * m + i) = 10
  · exact ⟨0, Or.inr ⟨fun z => z.1 c1, rfl⟩, fun post hp => ⟨hI, br_t (by rw [he, c1]; rfl) hp⟩⟩
  by_cases c2 : ap_O p (16 * m + i) = 12
  · exact ⟨0, Or.inr ⟨fun z => z.2.1 c2, rfl⟩, fun post hp => ⟨hI, br_f (by rw [he, c2]; decide) ⟨hI, br_t (by rw [he, c2]; rfl) hp⟩⟩⟩
  by_cases c3 : ap_O p (16 * m + i) = 13
  · exact ⟨0, Or.inr ⟨fun z => z.2.2 c3, rfl⟩, fun post hp => ⟨hI, br_f (by rw [he, c3]; decide) ⟨hI, br_f (by rw [he, c3]; decide) ⟨hI, br_t (by rw [he, c3]; rfl) hp⟩⟩⟩⟩
  · have n : ∀ j, j < 64 → ap_O p (16 * m + i) ≠ j → ¬ ap_oo p (nI (16 * m + i)).toNatClampNeg = nI j := fun j hj z => by rw [he, nI_eq (by omega) (by omega)]; exact z
    exact ⟨1, Or.inl ⟨⟨c1, c2, c3⟩, rfl⟩, fun post hp => ⟨hI, br_f (n 10 (by omega) c1) ⟨hI, br_f (n 12 (by omega) c2) ⟨hI, br_f (n 13 (by omega) c3) hp⟩⟩⟩⟩
theorem ay_jp (H : ap_OK p) (hm : m < 4) (hi : i < 16) : ∃ x : Int32, ((ap_jp p (16 * m + i) ∧ x = 1) ∨ (¬ ap_jp p (16 * m + i) ∧ x = 0)) ∧ ∀ post : Int32 → Prop, post x → wpY_jumps post (kn, md, lv, up, dn, dp, bg, gY, oc, sh, rn, po, en, ap_oo p, sA, sB, ap_c p, ap_sz p, ap_L p, NY, PY, KY, va, fY, al, me, pt, h, lo, ou, es, td, ph) (nI (16 * m + i)) := by
  have hk : 16 * m + i < 64 := by omega
  have hI : vp_in (nI (16 * m + i)) 64 := vp_in_nI hk (by omega)
  have he := ap_ook p hk
  have h14 := H.1 (16 * m + i)
  have n : ∀ j, j < 64 → ap_O p (16 * m + i) ≠ j → ¬ ap_oo p (nI (16 * m + i)).toNatClampNeg = nI j := fun j hj z => by rw [he, nI_eq (by omega) (by omega)]; exact z
  by_cases c1 : ap_O p (16 * m + i) = 9
  · exact ⟨1, Or.inl ⟨Or.inl c1, rfl⟩, fun post hp => ⟨hI, br_t (by rw [he, c1]; rfl) hp⟩⟩
  by_cases c2 : ap_O p (16 * m + i) = 10
  · exact ⟨1, Or.inl ⟨Or.inr c2, rfl⟩, fun post hp => ⟨hI, br_f (by rw [he, c2]; decide) ⟨hI, br_t (by rw [he, c2]; rfl) hp⟩⟩⟩
  · exact ⟨0, Or.inr ⟨fun z => by rcases z with z | z <;> omega, rfl⟩, fun post hp => ⟨hI, br_f (n 9 (by omega) c1) ⟨hI, br_f (n 10 (by omega) c2) hp⟩⟩⟩
/-- the places to which one leads -/
theorem ay_af (H : ap_OK p) (hm : m < 4) (hi : i < 16) : ∃ x : Int32, (∀ j, j < 32 → (bt x j = true ↔ ap_sc p m i j)) ∧ ∀ post : Int32 → Prop, post x → wpY_after post (kn, md, lv, up, dn, dp, bg, gY, oc, sh, rn, po, en, ap_oo p, sA, sB, ap_c p, ap_sz p, ap_L p, NY, PY, KY, va, fY, al, me, pt, h, lo, ou, es, td, ph) (nI m) (nI i) := by
  have hk : 16 * m + i < 64 := by omega
  have hz := H.2.1 m
  have hI : vp_in (nI (16 * m + i)) 64 := vp_in_nI hk (by omega)
  have hc := (H.1 (16 * m + i)).2.2.2.2.1
  obtain ⟨x1, h1, w1⟩ := ay_on (kn := kn) (md := md) (lv := lv) (up := up) (dn := dn) (dp := dp) (bg := bg) (gY := gY) (oc := oc) (sh := sh) (rn := rn) (po := po) (en := en) (sA := sA) (sB := sB) (NY := NY) (PY := PY) (KY := KY) (va := va) (fY := fY) (al := al) (me := me) (pt := pt) (h := h) (lo := lo) (ou := ou) (es := es) (td := td) (ph := ph) H hm hi
  obtain ⟨x2, h2, w2⟩ := ay_jp (kn := kn) (md := md) (lv := lv) (up := up) (dn := dn) (dp := dp) (bg := bg) (gY := gY) (oc := oc) (sh := sh) (rn := rn) (po := po) (en := en) (sA := sA) (sB := sB) (NY := NY) (PY := PY) (KY := KY) (va := va) (fY := fY) (al := al) (me := me) (pt := pt) (h := h) (lo := lo) (ou := ou) (es := es) (td := td) (ph := ph) H hm hi
  have z0 : ∀ v, ¬ bt 0 v = true := fun v => by rw [b_0]; decide
  have B : ∃ z : Int32, (∀ j, j < 32 → (bt z j = true ↔ ap_on p (16 * m + i) ∧ j = i + 1)) ∧ ∀ post : Int32 → Prop, wY_after_22 post (nI m) (nI (16 * m + i)) z kn md lv up dn dp bg gY oc sh rn po en (ap_oo p) sA sB (ap_c p) (ap_sz p) (ap_L p) NY PY KY va fY al me pt h lo ou es td ph → wpY_after post (kn, md, lv, up, dn, dp, bg, gY, oc, sh, rn, po, en, ap_oo p, sA, sB, ap_c p, ap_sz p, ap_L p, NY, PY, KY, va, fY, al, me, pt, h, lo, ou, es, td, ph) (nI m) (nI i) := by
    rcases h1 with ⟨a, e⟩ | ⟨a, e⟩
    · refine ⟨(2 : Int32) <<< (nI i &&& 31), fun j hj => ?_, fun post hp => nm_r (ap_yk m i) (w1 _ (br_f (by rw [e]; decide) hp))⟩
      rw [ad_two i (by omega) j hj, decide_eq_true_iff]; exact ⟨fun q => ⟨a, q⟩, fun q => q.2⟩
    · exact ⟨0, fun v hv => ⟨fun q => absurd q (z0 v), fun q => absurd q.1 a⟩, fun post hp => nm_r (ap_yk m i) (w1 _ (br_t e hp))⟩
  have C : ∃ z : Int32, (∀ j, j < 32 → (bt z j = true ↔ ap_jp p (16 * m + i) ∧ j = ap_C p (16 * m + i))) ∧ ∀ (post : Int32 → Prop) (y : Int32), wY_after_42 post (nI m) z y kn md lv up dn dp bg gY oc sh rn po en (ap_oo p) sA sB (ap_c p) (ap_sz p) (ap_L p) NY PY KY va fY al me pt h lo ou es td ph → wY_after_22 post (nI m) (nI (16 * m + i)) y kn md lv up dn dp bg gY oc sh rn po en (ap_oo p) sA sB (ap_c p) (ap_sz p) (ap_L p) NY PY KY va fY al me pt h lo ou es td ph := by
    rcases h2 with ⟨a, e⟩ | ⟨a, e⟩
    · obtain ⟨c1, c2⟩ := hc a
      refine ⟨(1 : Int32) <<< (nI (ap_C p (16 * m + i)) &&& 31), fun j hj => ?_, fun post y hp => w2 _ (br_f (by rw [e]; decide) ⟨hI, ?_⟩)⟩
      · rw [ad_one _ (by omega) j hj, decide_eq_true_iff]; exact ⟨fun q => ⟨a, q⟩, fun q => q.2⟩
      · rw [ap_ck p hk, c1]; exact hp
    · exact ⟨0, fun v hv => ⟨fun q => absurd q (z0 v), fun q => absurd q.1 a⟩, fun post y hp => w2 _ (br_t e hp)⟩
  obtain ⟨z, hz1, wz⟩ := B
  obtain ⟨y, hy1, wy⟩ := C
  refine ⟨(z ||| y) &&& ((1 : Int32) <<< (nI (ap_Z p m) &&& 31) - 1), fun j hj => ?_, fun post hp => wz post (wy post z (nm_e ⟨vp_in_nI hm (by omega), ?_⟩))⟩
  · rw [b_and, b_or, Bool.and_eq_true, Bool.or_eq_true, hz1 j hj, hy1 j hj, ad_mask _ (by omega) j hj, decide_eq_true_iff]
    unfold ap_sc
    exact ⟨fun q => ⟨q.2, q.1⟩, fun q => ⟨q.2, q.1⟩⟩
  · rw [ap_szm p hm]; exact hp
theorem ay_rd (H : ap_OK p) (hAB : ap_AB p sA sB) (hm : m < 4) (hi : i < 16) {v : Nat} (hv : v < 6) (post : Int32 → Prop) (h0 : ¬ ap_rd p m i v → post 0) (h1 : ap_rd p m i v → post 1) : wpY_reads post (kn, md, lv, up, dn, dp, bg, gY, oc, sh, rn, po, en, ap_oo p, sA, sB, ap_c p, ap_sz p, ap_L p, NY, PY, KY, va, fY, al, me, pt, h, lo, ou, es, td, ph) (nI (16 * m + i)) (nI v) := by
  have hk : 16 * m + i < 64 := by omega
  have hI : vp_in (nI (16 * m + i)) 64 := vp_in_nI hk (by omega)
  have he := ap_ook p hk
  have h14 := H.1 (16 * m + i)
  have ek : (nI (16 * m + i)).toNatClampNeg = 16 * m + i := nI_clamp (by omega)
  have eA := (hAB (16 * m + i)).1
  have eB := (hAB (16 * m + i)).2
  have hA := h14.2.1
  have hB := h14.2.2.1
  rcases ap_14 H (16 * m + i) with e | e | e | e | e | e | e | e | e | e | e | e | e | e
  · rw [e] at he
    exact ⟨hI, nm_r (e' := (0 : Int32)) he (br_t (by decide) (br_f (by decide) (br_f (by decide) (br_f (by decide) (br_f (by decide) (br_f (by decide) (br_t rfl (br_t rfl (h0 (by unfold ap_rd; omega))))))))))⟩
  · rw [e] at he
    exact ⟨hI, nm_r (e' := (1 : Int32)) he (br_t (by decide) (br_f (by decide) (br_t (by decide) (br_t rfl (br_f (by decide) ⟨hI, pk_eq (ap_B p (16 * m + i)) v (fun q => h1 (by unfold ap_rd; omega)) (fun q => h0 (by unfold ap_rd; omega)) (by rw [ek]; exact eB (by omega)) rfl⟩)))))⟩
  · rw [e] at he
    exact ⟨hI, nm_r (e' := (2 : Int32)) he (br_t (by decide) (br_f (by decide) (br_f (by decide) (br_f (by decide) (br_f (by decide) (br_f (by decide) (br_t rfl (br_t rfl (h0 (by unfold ap_rd; omega))))))))))⟩
  · rw [e] at he
    exact ⟨hI, nm_r (e' := (3 : Int32)) he (br_t (by decide) (br_f (by decide) (br_f (by decide) (br_t (by decide) (br_t rfl (br_f (by decide) ⟨hI, pk_eq (ap_B p (16 * m + i)) v (fun q => h1 (by unfold ap_rd; omega)) (fun q => h0 (by unfold ap_rd; omega)) (by rw [ek]; exact eB (by omega)) rfl⟩))))))⟩
  · rw [e] at he
    exact ⟨hI, nm_r (e' := (4 : Int32)) he (br_f (by decide) (br_t (by decide) (br_f (by decide) (br_f (by decide) (br_t (by decide) (br_f (by decide) ⟨hI, pk_eq (ap_A p (16 * m + i)) v (fun q => h1 (by unfold ap_rd; omega)) (fun q => br_f (by decide) ⟨hI, pk_eq (ap_B p (16 * m + i)) v (fun q => h1 (by unfold ap_rd; omega)) (fun q => h0 (by unfold ap_rd; omega)) (by rw [ek]; exact eB (by omega)) rfl⟩) (by rw [ek]; exact eA (by omega) (by omega)) rfl⟩))))))⟩
  · rw [e] at he
    exact ⟨hI, nm_r (e' := (5 : Int32)) he (br_f (by decide) (br_t (by decide) (br_f (by decide) (br_f (by decide) (br_f (by decide) (br_f (by decide) (br_f (by decide) ⟨hI, pk_eq (ap_A p (16 * m + i)) v (fun q => h1 (by unfold ap_rd; omega)) (fun q => br_t rfl (h0 (by unfold ap_rd; omega))) (by rw [ek]; exact eA (by omega) (by omega)) rfl⟩)))))))⟩
  · rw [e] at he
    exact ⟨hI, nm_r (e' := (6 : Int32)) he (br_f (by decide) (br_t (by decide) (br_f (by decide) (br_f (by decide) (br_f (by decide) (br_f (by decide) (br_f (by decide) ⟨hI, pk_eq (ap_A p (16 * m + i)) v (fun q => h1 (by unfold ap_rd; omega)) (fun q => br_t rfl (h0 (by unfold ap_rd; omega))) (by rw [ek]; exact eA (by omega) (by omega)) rfl⟩)))))))⟩
  · rw [e] at he
    exact ⟨hI, nm_r (e' := (7 : Int32)) he (br_f (by decide) (br_t (by decide) (br_f (by decide) (br_f (by decide) (br_f (by decide) (br_f (by decide) (br_f (by decide) ⟨hI, pk_eq (ap_A p (16 * m + i)) v (fun q => h1 (by unfold ap_rd; omega)) (fun q => br_t rfl (h0 (by unfold ap_rd; omega))) (by rw [ek]; exact eA (by omega) (by omega)) rfl⟩)))))))⟩
  · rw [e] at he
    exact ⟨hI, nm_r (e' := (8 : Int32)) he (br_f (by decide) (br_t (by decide) (br_f (by decide) (br_f (by decide) (br_f (by decide) (br_f (by decide) (br_f (by decide) ⟨hI, pk_eq (ap_A p (16 * m + i)) v (fun q => h1 (by unfold ap_rd; omega)) (fun q => br_t rfl (h0 (by unfold ap_rd; omega))) (by rw [ek]; exact eA (by omega) (by omega)) rfl⟩)))))))⟩
  · rw [e] at he
    exact ⟨hI, nm_r (e' := (9 : Int32)) he (br_f (by decide) (br_t (by decide) (br_f (by decide) (br_f (by decide) (br_f (by decide) (br_f (by decide) (br_f (by decide) ⟨hI, pk_eq (ap_A p (16 * m + i)) v (fun q => h1 (by unfold ap_rd; omega)) (fun q => br_t rfl (h0 (by unfold ap_rd; omega))) (by rw [ek]; exact eA (by omega) (by omega)) rfl⟩)))))))⟩
  · rw [e] at he
    exact ⟨hI, nm_r (e' := (10 : Int32)) he (br_f (by decide) (br_f (by decide) (br_f (by decide) (br_f (by decide) (br_f (by decide) (br_f (by decide) (br_f (by decide) (br_t rfl (br_t rfl (h0 (by unfold ap_rd; omega)))))))))))⟩
  · rw [e] at he
    exact ⟨hI, nm_r (e' := (11 : Int32)) he (br_f (by decide) (br_f (by decide) (br_f (by decide) (br_f (by decide) (br_f (by decide) (br_f (by decide) (br_t (by decide) (br_t rfl (br_f (by decide) ⟨hI, pk_eq (ap_B p (16 * m + i)) v (fun q => h1 (by unfold ap_rd; omega)) (fun q => h0 (by unfold ap_rd; omega)) (by rw [ek]; exact eB (by omega)) rfl⟩)))))))))⟩
  · rw [e] at he
    exact ⟨hI, nm_r (e' := (12 : Int32)) he (br_f (by decide) (br_f (by decide) (br_t (by decide) (br_f (by decide) (br_f (by decide) (br_f (by decide) (br_f (by decide) (br_f (by decide) ⟨hI, pk_eq (ap_A p (16 * m + i)) v (fun q => h1 (by unfold ap_rd; omega)) (fun q => br_t rfl (h0 (by unfold ap_rd; omega))) (by rw [ek]; exact eA (by omega) (by omega)) rfl⟩))))))))⟩
  · rw [e] at he
    exact ⟨hI, nm_r (e' := (13 : Int32)) he (br_f (by decide) (br_f (by decide) (br_f (by decide) (br_f (by decide) (br_f (by decide) (br_f (by decide) (br_f (by decide) (br_t rfl (br_t rfl (h0 (by unfold ap_rd; omega)))))))))))⟩
theorem ay_wr (H : ap_OK p) (hAB : ap_AB p sA sB) (hm : m < 4) (hi : i < 16) {v : Nat} (hv : v < 6) (post : Int32 → Prop) (h0 : ¬ ap_wr p m i v → post 0) (h1 : ap_wr p m i v → post 1) : wpY_writes post (kn, md, lv, up, dn, dp, bg, gY, oc, sh, rn, po, en, ap_oo p, sA, sB, ap_c p, ap_sz p, ap_L p, NY, PY, KY, va, fY, al, me, pt, h, lo, ou, es, td, ph) (nI (16 * m + i)) (nI v) := by
  have hk : 16 * m + i < 64 := by omega
  have hI : vp_in (nI (16 * m + i)) 64 := vp_in_nI hk (by omega)
  have he := ap_ook p hk
  have h14 := H.1 (16 * m + i)
  have ek : (nI (16 * m + i)).toNatClampNeg = 16 * m + i := nI_clamp (by omega)
  have eA := (hAB (16 * m + i)).1
  have hA := h14.2.1
  rcases ap_14 H (16 * m + i) with e | e | e | e | e | e | e | e | e | e | e | e | e | e
  · rw [e] at he
    exact ⟨hI, nm_r (e' := (0 : Int32)) he ⟨hI, pk_eq (ap_A p (16 * m + i)) v (fun q => br_t (by decide) (h1 (by unfold ap_wr; omega))) (fun q => h0 (by unfold ap_wr; omega)) (by rw [ek]; exact eA (by omega) (by omega)) rfl⟩⟩
  · rw [e] at he
    exact ⟨hI, nm_r (e' := (1 : Int32)) he ⟨hI, pk_eq (ap_A p (16 * m + i)) v (fun q => br_t (by decide) (h1 (by unfold ap_wr; omega))) (fun q => h0 (by unfold ap_wr; omega)) (by rw [ek]; exact eA (by omega) (by omega)) rfl⟩⟩
  · rw [e] at he
    exact ⟨hI, nm_r (e' := (2 : Int32)) he ⟨hI, pk_eq (ap_A p (16 * m + i)) v (fun q => br_t (by decide) (h1 (by unfold ap_wr; omega))) (fun q => h0 (by unfold ap_wr; omega)) (by rw [ek]; exact eA (by omega) (by omega)) rfl⟩⟩
  · rw [e] at he
    exact ⟨hI, nm_r (e' := (3 : Int32)) he ⟨hI, pk_eq (ap_A p (16 * m + i)) v (fun q => br_t (by decide) (h1 (by unfold ap_wr; omega))) (fun q => h0 (by unfold ap_wr; omega)) (by rw [ek]; exact eA (by omega) (by omega)) rfl⟩⟩
  · rw [e] at he
    exact ⟨hI, nm_r (e' := (4 : Int32)) he ⟨hI, pk_eq (ap_A p (16 * m + i)) v (fun q => br_f (by decide) (br_f (by decide) (br_f (by decide) (h0 (by unfold ap_wr; omega))))) (fun q => h0 (by unfold ap_wr; omega)) (by rw [ek]; exact eA (by omega) (by omega)) rfl⟩⟩
  · rw [e] at he
    exact ⟨hI, nm_r (e' := (5 : Int32)) he ⟨hI, pk_eq (ap_A p (16 * m + i)) v (fun q => br_f (by decide) (br_f (by decide) (br_f (by decide) (h0 (by unfold ap_wr; omega))))) (fun q => h0 (by unfold ap_wr; omega)) (by rw [ek]; exact eA (by omega) (by omega)) rfl⟩⟩
  · rw [e] at he
    exact ⟨hI, nm_r (e' := (6 : Int32)) he ⟨hI, pk_eq (ap_A p (16 * m + i)) v (fun q => br_f (by decide) (br_f (by decide) (br_f (by decide) (h0 (by unfold ap_wr; omega))))) (fun q => h0 (by unfold ap_wr; omega)) (by rw [ek]; exact eA (by omega) (by omega)) rfl⟩⟩
  · rw [e] at he
    exact ⟨hI, nm_r (e' := (7 : Int32)) he ⟨hI, pk_eq (ap_A p (16 * m + i)) v (fun q => br_f (by decide) (br_f (by decide) (br_f (by decide) (h0 (by unfold ap_wr; omega))))) (fun q => h0 (by unfold ap_wr; omega)) (by rw [ek]; exact eA (by omega) (by omega)) rfl⟩⟩
  · rw [e] at he
    exact ⟨hI, nm_r (e' := (8 : Int32)) he ⟨hI, pk_eq (ap_A p (16 * m + i)) v (fun q => br_f (by decide) (br_t (by decide) (h1 (by unfold ap_wr; omega)))) (fun q => h0 (by unfold ap_wr; omega)) (by rw [ek]; exact eA (by omega) (by omega)) rfl⟩⟩
  · rw [e] at he
    exact ⟨hI, nm_r (e' := (9 : Int32)) he ⟨hI, pk_eq (ap_A p (16 * m + i)) v (fun q => br_f (by decide) (br_f (by decide) (br_f (by decide) (h0 (by unfold ap_wr; omega))))) (fun q => h0 (by unfold ap_wr; omega)) (by rw [ek]; exact eA (by omega) (by omega)) rfl⟩⟩
  · rw [e] at he
    exact ⟨hI, nm_r (e' := (10 : Int32)) he ⟨hI, br_c (fun _ => br_f (by decide) (br_f (by decide) (br_f (by decide) (h0 (by unfold ap_wr; omega))))) (fun _ => h0 (by unfold ap_wr; omega))⟩⟩
  · rw [e] at he
    exact ⟨hI, nm_r (e' := (11 : Int32)) he ⟨hI, pk_eq (ap_A p (16 * m + i)) v (fun q => br_f (by decide) (br_f (by decide) (br_t (by decide) (h1 (by unfold ap_wr; omega))))) (fun q => h0 (by unfold ap_wr; omega)) (by rw [ek]; exact eA (by omega) (by omega)) rfl⟩⟩
  · rw [e] at he
    exact ⟨hI, nm_r (e' := (12 : Int32)) he ⟨hI, pk_eq (ap_A p (16 * m + i)) v (fun q => br_f (by decide) (br_f (by decide) (br_f (by decide) (h0 (by unfold ap_wr; omega))))) (fun q => h0 (by unfold ap_wr; omega)) (by rw [ek]; exact eA (by omega) (by omega)) rfl⟩⟩
  · rw [e] at he
    exact ⟨hI, nm_r (e' := (13 : Int32)) he ⟨hI, br_c (fun _ => br_f (by decide) (br_f (by decide) (br_f (by decide) (h0 (by unfold ap_wr; omega))))) (fun _ => h0 (by unfold ap_wr; omega))⟩⟩
/-- the first place of those to look at -/
theorem ay_lo {x : Int32} (h : ¬ x = 0) (hb : ∀ j, bt x j = true → j < 16) : ∃ j, j < 16 ∧ bt x j = true ∧ ∀ i, i < j → bt x i = false := by
  have ex : ∃ j, bt x j = true := by
    apply Classical.byContradiction
    intro nn
    apply h
    rw [ad_zero]
    intro j _
    cases e : bt x j with
    | false => rfl
    | true => exact absurd ⟨j, e⟩ nn
  obtain ⟨j, h1, h2⟩ := pk_least (fun j => bt x j = true) ex
  refine ⟨j, hb j h1, h1, fun i hi => ?_⟩
  cases e : bt x i with
  | false => rfl
  | true => exact absurd e (h2 i hi)
/-- the sets after one place is taken -/
theorem ay_se (seen : Int32) {j : Nat} (hj : j < 16) : ∀ s, bt (seen ||| ((1 : Int32) <<< (nI j &&& 31))) s = true ↔ bt seen s = true ∨ s = j := by
  intro s
  by_cases c : s < 32
  · rw [b_or, Bool.or_eq_true, ad_one j (by omega) s c, decide_eq_true_iff]
  · rw [b_big (by omega), b_big (by omega)]
    exact ⟨fun q => absurd q (by decide), fun q => by rcases q with q | q; exact absurd q (by decide); omega⟩
theorem ay_op0 (oq : Int32) {j : Nat} (hj : j < 16) : ∀ s, bt (oq &&& (((1 : Int32) <<< (nI j &&& 31)) ^^^ (-1))) s = true ↔ bt oq s = true ∧ s ≠ j := by
  intro s
  by_cases c : s < 32
  · rw [b_and, Bool.and_eq_true, ad_not _ c, ad_one j (by omega) s c]
    constructor
    · rintro ⟨a, b⟩
      exact ⟨a, fun z => by rw [decide_eq_true z] at b; exact absurd b (by decide)⟩
    · rintro ⟨a, b⟩
      exact ⟨a, by rw [decide_eq_false b]; rfl⟩
  · rw [b_big (by omega), b_big (by omega)]
    exact ⟨fun q => absurd q (by decide), fun q => absurd q.1 (by decide)⟩
theorem ay_op1 (oq x seen : Int32) : ∀ s, bt (oq ||| (x &&& (seen ^^^ (-1)))) s = true ↔ bt oq s = true ∨ (bt x s = true ∧ bt seen s = false) := by
  intro s
  by_cases c : s < 32
  · rw [b_or, b_and, ad_not _ c, Bool.or_eq_true, Bool.and_eq_true]
    cases bt seen s <;> simp
  · rw [b_big (by omega), b_big (by omega), b_big (by omega)]; simp
/-- NEEDED, by a list of places -/
theorem ay_nl (H : ap_OK p) (hAB : ap_AB p sA sB) (hm : m < 4) (hi : i < ap_Z p m) {v : Nat} (hv : v < 6) (post : Int32 → Prop) (h0 : ¬ ap_nd p m i v → post 0) (h1 : ap_nd p m i v → post 1) :
    ∀ d (seen oq : Int32), ap_Z p m - ad_ct (bt seen) (ap_Z p m) ≤ d → ao_I (ap_Z p m) (fun j => ap_nd p m j v → ap_nd p m i v) (fun j => ¬ ap_rd p m j v) (fun j => ¬ ap_wr p m j v) (ap_sc p m) (bt oq) (bt seen) →
      (bt oq i = true ∨ bt seen i = true) → wY_isNeeded_8 post (nI m) (nI v) kn md lv up dn dp bg gY oc sh rn po en (ap_oo p) sA sB (ap_c p) (ap_sz p) (ap_L p) NY PY KY va fY al me pt h lo ou es td ph (d + 1) seen oq := by
  have hz := H.2.1 m
  intro d
  induction d with
  | zero =>
    intro seen oq hd I hs
    by_cases c : oq = 0
    · exact br_t c (h0 (ao_nd I hs (fun s => by rw [c, b_0])))
    · obtain ⟨j, _, j1, _⟩ := ay_lo c (fun j hj => by have := (I.1 j (Or.inl hj)).2; omega)
      have q1 := (I.1 j (Or.inl j1)).2
      have q2 := I.2.2 j j1
      have := ad_ct_all (p := bt seen) (n := ap_Z p m) (by omega) j q1
      rw [q2] at this; exact absurd this (by decide)
  | succ d ih =>
    intro seen oq hd I hs
    by_cases c : oq = 0
    · exact br_t c (h0 (ao_nd I hs (fun s => by rw [c, b_0])))
    · obtain ⟨j, j16, j1, j2⟩ := ay_lo c (fun j hj => by have := (I.1 j (Or.inl hj)).2; omega)
      have jz := (I.1 j (Or.inl j1)).2
      refine br_f c ⟨j + 1, ?_⟩
      have hk : 16 * m + j < 64 := by omega
      -- taken at j
      have body : ∀ n, wY_isNeeded_16 post (wY_isNeeded_8 post (nI m) (nI v) kn md lv up dn dp bg gY oc sh rn po en (ap_oo p) sA sB (ap_c p) (ap_sz p) (ap_L p) NY PY KY va fY al me pt h lo ou es td ph (d + 1)) (nI m) (nI v) seen oq kn md lv up dn dp bg gY oc sh rn po en (ap_oo p) sA sB (ap_c p) (ap_sz p) (ap_L p) NY PY KY va fY al me pt h lo ou es td ph (n + 1) (nI j) := by
        intro n
        refine br_f (by rw [ad_shr1 _ (by omega), j1]; decide) (nm_e (nm_e ?_))
        rw [ap_yk]
        refine ay_rd H hAB hm (by omega) hv _ (fun q1 => br_t rfl ?_) (fun q1 => br_f (by decide) (h1 ((I.1 j (Or.inl j1)).1 (ad_nd_rd q1))))
        have st : ∀ a b, (ap_nd p m a v → ap_nd p m i v) → ¬ ap_rd p m a v → ¬ ap_wr p m a v → ap_sc p m a b → (ap_nd p m b v → ap_nd p m i v) ∧ b < ap_Z p m :=
          fun a b x1 x2 x3 x4 => ⟨fun x5 => x1 (ad_nd_st x3 x4 x5), x4.1⟩
        refine ay_wr H hAB hm (by omega) hv _ (fun q2 => br_t rfl ?_) (fun q2 => br_f (by decide) ?_)
        · obtain ⟨x, hx, wx⟩ := ay_af (kn := kn) (md := md) (lv := lv) (up := up) (dn := dn) (dp := dp) (bg := bg) (gY := gY) (oc := oc) (sh := sh) (rn := rn) (po := po) (en := en) (sA := sA) (sB := sB) (NY := NY) (PY := PY) (KY := KY) (va := va) (fY := fY) (al := al) (me := me) (pt := pt) (h := h) (lo := lo) (ou := ou) (es := es) (td := td) (ph := ph) H hm (i := j) (by omega)
          refine wx _ (nm_e ?_)
          obtain ⟨A1, A2, A3⟩ := ao_st st I j1 q1 (ay_se seen j16) (op' := bt (oq &&& (((1 : Int32) <<< (nI j &&& 31)) ^^^ (-1)) ||| (x &&& ((seen ||| ((1 : Int32) <<< (nI j &&& 31))) ^^^ (-1))))) (fun s => by
            rw [ay_op1, ay_op0 oq j16]
            constructor
            · rintro (y | ⟨y1, y2⟩)
              · exact Or.inl y
              · by_cases s32 : s < 32
                · exact Or.inr ⟨q2, (hx s s32).mp y1, y2⟩
                · rw [b_big (by omega)] at y1; exact absurd y1 (by decide)
            · rintro (y | ⟨y1, y2, y3⟩)
              · exact Or.inl y
              · exact Or.inr ⟨(hx s (by have := y2.1; omega)).mpr y2, y3⟩)
          exact ih _ _ (by omega) A1 (A3 i hs)
        · obtain ⟨A1, A2, A3⟩ := ao_st st I j1 q1 (ay_se seen j16) (op' := bt (oq &&& (((1 : Int32) <<< (nI j &&& 31)) ^^^ (-1)))) (fun s => by
            rw [ay_op0 oq j16]
            constructor
            · exact Or.inl
            · rintro (y | ⟨y1, _⟩)
              · exact y
              · exact absurd q2 y1)
          exact ih _ _ (by omega) A1 (A3 i hs)
      have walk : ∀ e a, a + e = j → wY_isNeeded_16 post (wY_isNeeded_8 post (nI m) (nI v) kn md lv up dn dp bg gY oc sh rn po en (ap_oo p) sA sB (ap_c p) (ap_sz p) (ap_L p) NY PY KY va fY al me pt h lo ou es td ph (d + 1)) (nI m) (nI v) seen oq kn md lv up dn dp bg gY oc sh rn po en (ap_oo p) sA sB (ap_c p) (ap_sz p) (ap_L p) NY PY KY va fY al me pt h lo ou es td ph (e + 1) (nI a) := by
        intro e
        induction e with
        | zero => intro a ha; have : a = j := by omega
                  subst this; exact body 0
        | succ e ihe =>
          intro a ha
          exact br_t (by rw [ad_shr1 _ (by omega)]; exact j2 a (by omega)) (nm_r (nI_1 a) (ihe (a + 1) (by omega)))
      exact walk j 0 (by omega)
theorem ay_nd (H : ap_OK p) (hAB : ap_AB p sA sB) (hm : m < 4) (hi : i < ap_Z p m) {v : Nat} (hv : v < 6) (post : Int32 → Prop) (h0 : ¬ ap_nd p m i v → post 0) (h1 : ap_nd p m i v → post 1) :
    wpY_isNeeded post (kn, md, lv, up, dn, dp, bg, gY, oc, sh, rn, po, en, ap_oo p, sA, sB, ap_c p, ap_sz p, ap_L p, NY, PY, KY, va, fY, al, me, pt, h, lo, ou, es, td, ph) (nI m) (nI i) (nI v) := by
  have hz := H.2.1 m
  have hb : ∀ j, bt ((1 : Int32) <<< (nI i &&& 31)) j = true ↔ j = i := by
    intro j
    by_cases c : j < 32
    · rw [ad_one i (by omega) j c, decide_eq_true_iff]
    · rw [b_big (by omega)]; exact ⟨fun q => absurd q (by decide), fun q => by omega⟩
  refine nm_e ⟨ap_Z p m + 1, ay_nl H hAB hm hi hv post h0 h1 (ap_Z p m) 0 _ (by omega) ⟨fun j hj => ?_, fun j hj => ?_, fun j hj => b_0 j⟩ (Or.inl ((hb i).mpr rfl))⟩
  · rcases hj with hj | hj
    · have := (hb j).mp hj
      subst this
      exact ⟨fun q => q, hi⟩
    · rw [b_0] at hj; exact absurd hj (by decide)
  · rw [b_0] at hj; exact absurd hj (by decide)
end
