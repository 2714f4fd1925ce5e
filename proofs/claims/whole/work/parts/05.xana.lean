section
variable {p : ap_T} {po en up dn bg lv md gX dp sa sh : Int32} {N P K R me pt h lx va rf al fX pe ou es : Nat → Int32}
variable {m i : Nat}
theorem ax_on (H : ap_OK p) (hm : m < 4) (hi : i < 16) : ∃ x : Int32, ((ap_on p (16 * m + i) ∧ x = 1) ∨ (¬ ap_on p (16 * m + i) ∧ x = 0)) ∧ ∀ post : Int32 → Prop, post x → wpX_leadsBehind post (po, en, up, dn, bg, lv, md, gX, dp, sa, sh, ap_sz p, ap_L p, ap_oo p, ap_aA p, ap_aB p, ap_c p, N, P, K, R, me, pt, h, lx, va, rf, al, fX, pe, ou, es) (nI (16 * m + i)) := by
  have hk : 16 * m + i < 64 := by omega
  have hI : vp_in (nI (16 * m + i)) 64 := vp_in_nI hk (by omega)
  have he := ap_ook p hk
  have h14 := H.1 (16 * m + i)
  by_cases c1 : ap_O p (16 * m + i) = 10
  · exact ⟨0, Or.inr ⟨fun z => z.1 c1, rfl⟩, fun post hp => ⟨hI, br_t (by rw [he, c1]; rfl) hp⟩⟩
  by_cases c2 : ap_O p (16 * m + i) = 12
  · exact ⟨0, Or.inr ⟨fun z => z.2.1 c2, rfl⟩, fun post hp => ⟨hI, br_f (by rw [he, c2]; decide) ⟨hI, br_t (by rw [he, c2]; rfl) hp⟩⟩⟩
  by_cases c3 : ap_O p (16 * m + i) = 13
  · exact ⟨0, Or.inr ⟨fun z => z.2.2 c3, rfl⟩, fun post hp => ⟨hI, br_f (by rw [he, c3]; decide) ⟨hI, br_f (by rw [he, c3]; decide) ⟨hI, br_t (by rw [he, c3]; rfl) hp⟩⟩⟩⟩
  · have n : ∀ j, j < 64 → ap_O p (16 * m + i) ≠ j → ¬ ap_oo p (nI (16 * m + i)).toNatClampNeg = nI j := fun j hj z => by rw [he, nI_eq (by omega) (by omega)]; exact z
    exact ⟨1, Or.inl ⟨⟨c1, c2, c3⟩, rfl⟩, fun post hp => ⟨hI, br_f (n 10 (by omega) c1) ⟨hI, br_f (n 12 (by omega) c2) ⟨hI, br_f (n 13 (by omega) c3) hp⟩⟩⟩⟩
theorem ax_jp (H : ap_OK p) (hm : m < 4) (hi : i < 16) : ∃ x : Int32, ((ap_jp p (16 * m + i) ∧ x = 1) ∨ (¬ ap_jp p (16 * m + i) ∧ x = 0)) ∧ ∀ post : Int32 → Prop, post x → wpX_jumps post (po, en, up, dn, bg, lv, md, gX, dp, sa, sh, ap_sz p, ap_L p, ap_oo p, ap_aA p, ap_aB p, ap_c p, N, P, K, R, me, pt, h, lx, va, rf, al, fX, pe, ou, es) (nI (16 * m + i)) := by
  have hk : 16 * m + i < 64 := by omega
  have hI : vp_in (nI (16 * m + i)) 64 := vp_in_nI hk (by omega)
  have he := ap_ook p hk
  have h14 := H.1 (16 * m + i)
  have n : ∀ j, j < 64 → ap_O p (16 * m + i) ≠ j → ¬ ap_oo p (nI (16 * m + i)).toNatClampNeg = nI j := fun j hj z => by rw [he, nI_eq (by omega) (by omega)]; exact z
  by_cases c1 : ap_O p (16 * m + i) = 9
  · exact ⟨1, Or.inl ⟨Or.inl c1, rfl⟩, fun post hp => ⟨hI, br_t (by rw [he, c1]; rfl) hp⟩⟩
  by_cases c2 : ap_O p (16 * m + i) = 10
  · exact ⟨1, Or.inl ⟨Or.inr c2, rfl⟩, fun post hp => ⟨hI, br_f (by rw [he, c2]; decide) ⟨hI, br_t (by rw [he, c2]; rfl) hp⟩⟩⟩
  · exact ⟨0, Or.inr ⟨fun z => by rcases z with z | z <;> omega, rfl⟩, fun post hp => ⟨hI, br_f (n 9 (by omega) c1) ⟨hI, br_f (n 10 (by omega) c2) hp⟩⟩⟩
theorem ax_al (H : ap_OK p) (hm : m < 4) (hi : i < 16) : ∃ x : Int32, ((ap_al p (16 * m + i) ∧ x = 1) ∨ (¬ ap_al p (16 * m + i) ∧ x = 0)) ∧ ∀ post : Int32 → Prop, post x → wpX_leavesLoansAlone post (po, en, up, dn, bg, lv, md, gX, dp, sa, sh, ap_sz p, ap_L p, ap_oo p, ap_aA p, ap_aB p, ap_c p, N, P, K, R, me, pt, h, lx, va, rf, al, fX, pe, ou, es) (nI (16 * m + i)) := by
  have hk : 16 * m + i < 64 := by omega
  have hI : vp_in (nI (16 * m + i)) 64 := vp_in_nI hk (by omega)
  have he := ap_ook p hk
  have h14 := H.1 (16 * m + i)
  have n : ∀ j, j < 64 → ap_O p (16 * m + i) ≠ j → ¬ ap_oo p (nI (16 * m + i)).toNatClampNeg = nI j := fun j hj z => by rw [he, nI_eq (by omega) (by omega)]; exact z
  have y : ∀ j, j < 64 → ap_O p (16 * m + i) = j → ap_oo p (nI (16 * m + i)).toNatClampNeg = nI j := fun j hj z => by rw [he, z]
  by_cases c1 : ap_O p (16 * m + i) = 5
  · exact ⟨1, Or.inl ⟨Or.inl c1, rfl⟩, fun post hp => ⟨hI, br_t (y 5 (by omega) c1) hp⟩⟩
  by_cases c2 : ap_O p (16 * m + i) = 6
  · exact ⟨1, Or.inl ⟨Or.inr (Or.inl c2), rfl⟩, fun post hp => ⟨hI, br_f (n 5 (by omega) c1) ⟨hI, br_t (y 6 (by omega) c2) hp⟩⟩⟩
  by_cases c3 : ap_O p (16 * m + i) = 7
  · exact ⟨1, Or.inl ⟨Or.inr (Or.inr (Or.inl c3)), rfl⟩, fun post hp => ⟨hI, br_f (n 5 (by omega) c1) ⟨hI, br_f (n 6 (by omega) c2) ⟨hI, br_t (y 7 (by omega) c3) hp⟩⟩⟩⟩
  by_cases c4 : ap_O p (16 * m + i) = 9
  · exact ⟨1, Or.inl ⟨Or.inr (Or.inr (Or.inr (Or.inl c4))), rfl⟩, fun post hp => ⟨hI, br_f (n 5 (by omega) c1) ⟨hI, br_f (n 6 (by omega) c2) ⟨hI, br_f (n 7 (by omega) c3) ⟨hI, br_t (y 9 (by omega) c4) hp⟩⟩⟩⟩⟩
  by_cases c5 : ap_O p (16 * m + i) = 10
  · exact ⟨1, Or.inl ⟨Or.inr (Or.inr (Or.inr (Or.inr c5))), rfl⟩, fun post hp => ⟨hI, br_f (n 5 (by omega) c1) ⟨hI, br_f (n 6 (by omega) c2) ⟨hI, br_f (n 7 (by omega) c3) ⟨hI, br_f (n 9 (by omega) c4) ⟨hI, br_t (y 10 (by omega) c5) hp⟩⟩⟩⟩⟩⟩
  · exact ⟨0, Or.inr ⟨fun z => by unfold ap_al at z; omega, rfl⟩, fun post hp => ⟨hI, br_f (n 5 (by omega) c1) ⟨hI, br_f (n 6 (by omega) c2) ⟨hI, br_f (n 7 (by omega) c3) ⟨hI, br_f (n 9 (by omega) c4) ⟨hI, br_f (n 10 (by omega) c5) hp⟩⟩⟩⟩⟩⟩
theorem ax_rd (H : ap_OK p) (hm : m < 4) (hi : i < 16) : ∃ x : Int32, (∀ v, v < 32 → (bt x v = true ↔ ap_rd p m i v)) ∧ ∀ post : Int32 → Prop, post x → wpX_readBy post (po, en, up, dn, bg, lv, md, gX, dp, sa, sh, ap_sz p, ap_L p, ap_oo p, ap_aA p, ap_aB p, ap_c p, N, P, K, R, me, pt, h, lx, va, rf, al, fX, pe, ou, es) (nI (16 * m + i)) := by
  have hk : 16 * m + i < 64 := by omega
  have hI : vp_in (nI (16 * m + i)) 64 := vp_in_nI hk (by omega)
  have he := ap_ook p hk
  have h14 := H.1 (16 * m + i)
  have sA := ad_b1 h14.2.1
  have sB := ad_b1 h14.2.2.1
  rcases ap_14 H (16 * m + i) with e | e | e | e | e | e | e | e | e | e | e | e | e | e
  · rw [e] at he
    exact ⟨0, fun v hv => by rw [b_0]; simp only [Bool.false_eq_true, false_iff]; unfold ap_rd; omega, fun post hp => ⟨hI, nm_r (e' := (0 : Int32)) he (br_t (by decide) (hp))⟩⟩
  · rw [e] at he
    exact ⟨(1 : Int32) <<< (ap_aB p (nI (16 * m + i)).toNatClampNeg &&& 31), fun v hv => by rw [ap_aBk p hk, sB v hv]; unfold ap_rd; omega, fun post hp => ⟨hI, nm_r (e' := (1 : Int32)) he (br_f (by decide) (br_f (by decide) (br_t (by decide) (⟨hI, hp⟩))))⟩⟩
  · rw [e] at he
    exact ⟨0, fun v hv => by rw [b_0]; simp only [Bool.false_eq_true, false_iff]; unfold ap_rd; omega, fun post hp => ⟨hI, nm_r (e' := (2 : Int32)) he (br_f (by decide) (br_f (by decide) (br_f (by decide) (br_t (by decide) (hp)))))⟩⟩
  · rw [e] at he
    exact ⟨(1 : Int32) <<< (ap_aB p (nI (16 * m + i)).toNatClampNeg &&& 31), fun v hv => by rw [ap_aBk p hk, sB v hv]; unfold ap_rd; omega, fun post hp => ⟨hI, nm_r (e' := (3 : Int32)) he (br_f (by decide) (br_f (by decide) (br_f (by decide) (br_f (by decide) (br_t (by decide) (⟨hI, hp⟩))))))⟩⟩
  · rw [e] at he
    exact ⟨((1 : Int32) <<< (ap_aA p (nI (16 * m + i)).toNatClampNeg &&& 31)) ||| ((1 : Int32) <<< (ap_aB p (nI (16 * m + i)).toNatClampNeg &&& 31)), fun v hv => by rw [b_or, Bool.or_eq_true, ap_aAk p hk, ap_aBk p hk, sA v hv, sB v hv]; unfold ap_rd; omega, fun post hp => ⟨hI, nm_r (e' := (4 : Int32)) he (br_f (by decide) (br_f (by decide) (br_f (by decide) (br_f (by decide) (br_f (by decide) (br_t (by decide) (⟨hI, hI, hp⟩)))))))⟩⟩
  · rw [e] at he
    exact ⟨(1 : Int32) <<< (ap_aA p (nI (16 * m + i)).toNatClampNeg &&& 31), fun v hv => by rw [ap_aAk p hk, sA v hv]; unfold ap_rd; omega, fun post hp => ⟨hI, nm_r (e' := (5 : Int32)) he (br_f (by decide) (br_f (by decide) (br_f (by decide) (br_f (by decide) (br_f (by decide) (br_f (by decide) (br_t (by decide) (⟨hI, hp⟩))))))))⟩⟩
  · rw [e] at he
    exact ⟨(1 : Int32) <<< (ap_aA p (nI (16 * m + i)).toNatClampNeg &&& 31), fun v hv => by rw [ap_aAk p hk, sA v hv]; unfold ap_rd; omega, fun post hp => ⟨hI, nm_r (e' := (6 : Int32)) he (br_f (by decide) (br_f (by decide) (br_f (by decide) (br_f (by decide) (br_f (by decide) (br_f (by decide) (br_f (by decide) (br_t (by decide) (⟨hI, hp⟩)))))))))⟩⟩
  · rw [e] at he
    exact ⟨(1 : Int32) <<< (ap_aA p (nI (16 * m + i)).toNatClampNeg &&& 31), fun v hv => by rw [ap_aAk p hk, sA v hv]; unfold ap_rd; omega, fun post hp => ⟨hI, nm_r (e' := (7 : Int32)) he (br_f (by decide) (br_f (by decide) (br_f (by decide) (br_f (by decide) (br_f (by decide) (br_f (by decide) (br_f (by decide) (br_f (by decide) (br_t (by decide) (⟨hI, hp⟩))))))))))⟩⟩
  · rw [e] at he
    exact ⟨(1 : Int32) <<< (ap_aA p (nI (16 * m + i)).toNatClampNeg &&& 31), fun v hv => by rw [ap_aAk p hk, sA v hv]; unfold ap_rd; omega, fun post hp => ⟨hI, nm_r (e' := (8 : Int32)) he (br_f (by decide) (br_f (by decide) (br_f (by decide) (br_f (by decide) (br_f (by decide) (br_f (by decide) (br_f (by decide) (br_f (by decide) (br_f (by decide) (br_t (by decide) (⟨hI, hp⟩)))))))))))⟩⟩
  · rw [e] at he
    exact ⟨(1 : Int32) <<< (ap_aA p (nI (16 * m + i)).toNatClampNeg &&& 31), fun v hv => by rw [ap_aAk p hk, sA v hv]; unfold ap_rd; omega, fun post hp => ⟨hI, nm_r (e' := (9 : Int32)) he (br_f (by decide) (br_f (by decide) (br_f (by decide) (br_f (by decide) (br_f (by decide) (br_f (by decide) (br_f (by decide) (br_f (by decide) (br_f (by decide) (br_f (by decide) (br_t (by decide) (⟨hI, hp⟩))))))))))))⟩⟩
  · rw [e] at he
    exact ⟨0, fun v hv => by rw [b_0]; simp only [Bool.false_eq_true, false_iff]; unfold ap_rd; omega, fun post hp => ⟨hI, nm_r (e' := (10 : Int32)) he (br_f (by decide) (br_f (by decide) (br_f (by decide) (br_f (by decide) (br_f (by decide) (br_f (by decide) (br_f (by decide) (br_f (by decide) (br_f (by decide) (br_f (by decide) (br_f (by decide) (br_t (by decide) (hp)))))))))))))⟩⟩
  · rw [e] at he
    exact ⟨(1 : Int32) <<< (ap_aB p (nI (16 * m + i)).toNatClampNeg &&& 31), fun v hv => by rw [ap_aBk p hk, sB v hv]; unfold ap_rd; omega, fun post hp => ⟨hI, nm_r (e' := (11 : Int32)) he (br_f (by decide) (br_f (by decide) (br_f (by decide) (br_f (by decide) (br_f (by decide) (br_f (by decide) (br_f (by decide) (br_f (by decide) (br_f (by decide) (br_f (by decide) (br_f (by decide) (br_f (by decide) (br_t (by decide) (⟨hI, hp⟩))))))))))))))⟩⟩
  · rw [e] at he
    exact ⟨(1 : Int32) <<< (ap_aA p (nI (16 * m + i)).toNatClampNeg &&& 31), fun v hv => by rw [ap_aAk p hk, sA v hv]; unfold ap_rd; omega, fun post hp => ⟨hI, nm_r (e' := (12 : Int32)) he (br_f (by decide) (br_f (by decide) (br_f (by decide) (br_f (by decide) (br_f (by decide) (br_f (by decide) (br_f (by decide) (br_f (by decide) (br_f (by decide) (br_f (by decide) (br_f (by decide) (br_f (by decide) (br_f (by decide) (br_t (by decide) (⟨hI, hp⟩)))))))))))))))⟩⟩
  · rw [e] at he
    exact ⟨0, fun v hv => by rw [b_0]; simp only [Bool.false_eq_true, false_iff]; unfold ap_rd; omega, fun post hp => ⟨hI, nm_r (e' := (13 : Int32)) he (br_f (by decide) (br_t (by decide) (hp)))⟩⟩
theorem ax_wr (H : ap_OK p) (hm : m < 4) (hi : i < 16) : ∃ x : Int32, (∀ v, v < 32 → (bt x v = true ↔ ap_wr p m i v)) ∧ ∀ post : Int32 → Prop, post x → wpX_writtenBy post (po, en, up, dn, bg, lv, md, gX, dp, sa, sh, ap_sz p, ap_L p, ap_oo p, ap_aA p, ap_aB p, ap_c p, N, P, K, R, me, pt, h, lx, va, rf, al, fX, pe, ou, es) (nI (16 * m + i)) := by
  have hk : 16 * m + i < 64 := by omega
  have hI : vp_in (nI (16 * m + i)) 64 := vp_in_nI hk (by omega)
  have he := ap_ook p hk
  have h14 := H.1 (16 * m + i)
  have sA := ad_b1 h14.2.1
  have sB := ad_b1 h14.2.2.1
  rcases ap_14 H (16 * m + i) with e | e | e | e | e | e | e | e | e | e | e | e | e | e
  · rw [e] at he
    exact ⟨(1 : Int32) <<< (ap_aA p (nI (16 * m + i)).toNatClampNeg &&& 31), fun v hv => by rw [ap_aAk p hk, sA v hv]; unfold ap_wr; omega, fun post hp => ⟨hI, nm_r (e' := (0 : Int32)) he (br_f (by decide) (br_f (by decide) (br_t (by decide) (⟨hI, hp⟩))))⟩⟩
  · rw [e] at he
    exact ⟨(1 : Int32) <<< (ap_aA p (nI (16 * m + i)).toNatClampNeg &&& 31), fun v hv => by rw [ap_aAk p hk, sA v hv]; unfold ap_wr; omega, fun post hp => ⟨hI, nm_r (e' := (1 : Int32)) he (br_f (by decide) (br_f (by decide) (br_f (by decide) (br_t (by decide) (⟨hI, hp⟩)))))⟩⟩
  · rw [e] at he
    exact ⟨(1 : Int32) <<< (ap_aA p (nI (16 * m + i)).toNatClampNeg &&& 31), fun v hv => by rw [ap_aAk p hk, sA v hv]; unfold ap_wr; omega, fun post hp => ⟨hI, nm_r (e' := (2 : Int32)) he (br_f (by decide) (br_f (by decide) (br_f (by decide) (br_f (by decide) (br_t (by decide) (⟨hI, hp⟩))))))⟩⟩
  · rw [e] at he
    exact ⟨(1 : Int32) <<< (ap_aA p (nI (16 * m + i)).toNatClampNeg &&& 31), fun v hv => by rw [ap_aAk p hk, sA v hv]; unfold ap_wr; omega, fun post hp => ⟨hI, nm_r (e' := (3 : Int32)) he (br_f (by decide) (br_f (by decide) (br_f (by decide) (br_f (by decide) (br_f (by decide) (br_t (by decide) (⟨hI, hp⟩)))))))⟩⟩
  · rw [e] at he
    exact ⟨0, fun v hv => by rw [b_0]; simp only [Bool.false_eq_true, false_iff]; unfold ap_wr; omega, fun post hp => ⟨hI, nm_r (e' := (4 : Int32)) he (br_f (by decide) (br_f (by decide) (br_f (by decide) (br_f (by decide) (br_f (by decide) (br_f (by decide) (br_t (by decide) (hp))))))))⟩⟩
  · rw [e] at he
    exact ⟨0, fun v hv => by rw [b_0]; simp only [Bool.false_eq_true, false_iff]; unfold ap_wr; omega, fun post hp => ⟨hI, nm_r (e' := (5 : Int32)) he (br_f (by decide) (br_f (by decide) (br_f (by decide) (br_f (by decide) (br_f (by decide) (br_f (by decide) (br_f (by decide) (br_t (by decide) (hp)))))))))⟩⟩
  · rw [e] at he
    exact ⟨0, fun v hv => by rw [b_0]; simp only [Bool.false_eq_true, false_iff]; unfold ap_wr; omega, fun post hp => ⟨hI, nm_r (e' := (6 : Int32)) he (br_f (by decide) (br_f (by decide) (br_f (by decide) (br_f (by decide) (br_f (by decide) (br_f (by decide) (br_f (by decide) (br_f (by decide) (br_t (by decide) (hp))))))))))⟩⟩
  · rw [e] at he
    exact ⟨0, fun v hv => by rw [b_0]; simp only [Bool.false_eq_true, false_iff]; unfold ap_wr; omega, fun post hp => ⟨hI, nm_r (e' := (7 : Int32)) he (br_f (by decide) (br_f (by decide) (br_f (by decide) (br_f (by decide) (br_f (by decide) (br_f (by decide) (br_f (by decide) (br_f (by decide) (br_f (by decide) (br_t (by decide) (hp)))))))))))⟩⟩
  · rw [e] at he
    exact ⟨(1 : Int32) <<< (ap_aA p (nI (16 * m + i)).toNatClampNeg &&& 31), fun v hv => by rw [ap_aAk p hk, sA v hv]; unfold ap_wr; omega, fun post hp => ⟨hI, nm_r (e' := (8 : Int32)) he (br_f (by decide) (br_f (by decide) (br_f (by decide) (br_f (by decide) (br_f (by decide) (br_f (by decide) (br_f (by decide) (br_f (by decide) (br_f (by decide) (br_f (by decide) (br_t (by decide) (⟨hI, hp⟩))))))))))))⟩⟩
  · rw [e] at he
    exact ⟨0, fun v hv => by rw [b_0]; simp only [Bool.false_eq_true, false_iff]; unfold ap_wr; omega, fun post hp => ⟨hI, nm_r (e' := (9 : Int32)) he (br_f (by decide) (br_f (by decide) (br_f (by decide) (br_f (by decide) (br_f (by decide) (br_f (by decide) (br_f (by decide) (br_f (by decide) (br_f (by decide) (br_f (by decide) (br_f (by decide) (br_t (by decide) (hp)))))))))))))⟩⟩
  · rw [e] at he
    exact ⟨0, fun v hv => by rw [b_0]; simp only [Bool.false_eq_true, false_iff]; unfold ap_wr; omega, fun post hp => ⟨hI, nm_r (e' := (10 : Int32)) he (br_f (by decide) (br_f (by decide) (br_f (by decide) (br_f (by decide) (br_f (by decide) (br_f (by decide) (br_f (by decide) (br_f (by decide) (br_f (by decide) (br_f (by decide) (br_f (by decide) (br_f (by decide) (br_t (by decide) (hp))))))))))))))⟩⟩
  · rw [e] at he
    exact ⟨(1 : Int32) <<< (ap_aA p (nI (16 * m + i)).toNatClampNeg &&& 31), fun v hv => by rw [ap_aAk p hk, sA v hv]; unfold ap_wr; omega, fun post hp => ⟨hI, nm_r (e' := (11 : Int32)) he (br_f (by decide) (br_f (by decide) (br_f (by decide) (br_f (by decide) (br_f (by decide) (br_f (by decide) (br_f (by decide) (br_f (by decide) (br_f (by decide) (br_f (by decide) (br_f (by decide) (br_f (by decide) (br_f (by decide) (br_t (by decide) (⟨hI, hp⟩)))))))))))))))⟩⟩
  · rw [e] at he
    exact ⟨0, fun v hv => by rw [b_0]; simp only [Bool.false_eq_true, false_iff]; unfold ap_wr; omega, fun post hp => ⟨hI, nm_r (e' := (12 : Int32)) he (br_f (by decide) (br_t (by decide) (hp)))⟩⟩
  · rw [e] at he
    exact ⟨0, fun v hv => by rw [b_0]; simp only [Bool.false_eq_true, false_iff]; unfold ap_wr; omega, fun post hp => ⟨hI, nm_r (e' := (13 : Int32)) he (br_f (by decide) (br_t (by decide) (hp)))⟩⟩
theorem ax_na (H : ap_OK p) (hm : m < 4) {j : Nat} (hj : j ≤ 16) : ∃ x : Int32, ((j < ap_Z p m ∧ x = N (16 * m + j)) ∨ (ap_Z p m ≤ j ∧ x = 0)) ∧ ∀ post : Int32 → Prop, post x → wpX_neededAt post (po, en, up, dn, bg, lv, md, gX, dp, sa, sh, ap_sz p, ap_L p, ap_oo p, ap_aA p, ap_aB p, ap_c p, N, P, K, R, me, pt, h, lx, va, rf, al, fX, pe, ou, es) (nI m) (nI j) := by
  have hz := H.2.1 m
  have hM : vp_in (nI m) 4 := vp_in_nI hm (by omega)
  by_cases c : j < ap_Z p m
  · refine ⟨N (16 * m + j), Or.inl ⟨c, rfl⟩, fun post hp => ⟨hM, br_f (by rw [ap_szm p hm, nI_leI (by omega) (by omega)]; omega) ?_⟩⟩
    rw [ap_xk, nI_clamp (by omega)]
    exact ⟨vp_in_nI (by omega) (by omega), hp⟩
  · exact ⟨0, Or.inr ⟨by omega, rfl⟩, fun post hp => ⟨hM, br_t (by rw [ap_szm p hm, nI_leI (by omega) (by omega)]; omega) hp⟩⟩
/-- NEEDED behind, as the array says -/
theorem ax_nb (H : ap_OK p) (hm : m < 4) (hi : i < 16) : ∃ x : Int32, (∀ v, v < 32 → (bt x v = true ↔ ∃ j, ap_sc p m i j ∧ bt (N (16 * m + j)) v = true)) ∧ ∀ post : Int32 → Prop, post x → wpX_neededBehind post (po, en, up, dn, bg, lv, md, gX, dp, sa, sh, ap_sz p, ap_L p, ap_oo p, ap_aA p, ap_aB p, ap_c p, N, P, K, R, me, pt, h, lx, va, rf, al, fX, pe, ou, es) (nI m) (nI i) := by
  have hk : 16 * m + i < 64 := by omega
  have hI : vp_in (nI (16 * m + i)) 64 := vp_in_nI hk (by omega)
  have hc := (H.1 (16 * m + i)).2.2.2.2.1
  obtain ⟨x1, h1, w1⟩ := ax_on (po := po) (en := en) (up := up) (dn := dn) (bg := bg) (lv := lv) (md := md) (gX := gX) (dp := dp) (sa := sa) (sh := sh) (N := N) (P := P) (K := K) (R := R) (me := me) (pt := pt) (h := h) (lx := lx) (va := va) (rf := rf) (al := al) (fX := fX) (pe := pe) (ou := ou) (es := es) H hm hi
  obtain ⟨x2, h2, w2⟩ := ax_jp (po := po) (en := en) (up := up) (dn := dn) (bg := bg) (lv := lv) (md := md) (gX := gX) (dp := dp) (sa := sa) (sh := sh) (N := N) (P := P) (K := K) (R := R) (me := me) (pt := pt) (h := h) (lx := lx) (va := va) (rf := rf) (al := al) (fX := fX) (pe := pe) (ou := ou) (es := es) H hm hi
  obtain ⟨y1, g1, v1⟩ := ax_na (po := po) (en := en) (up := up) (dn := dn) (bg := bg) (lv := lv) (md := md) (gX := gX) (dp := dp) (sa := sa) (sh := sh) (N := N) (P := P) (K := K) (R := R) (me := me) (pt := pt) (h := h) (lx := lx) (va := va) (rf := rf) (al := al) (fX := fX) (pe := pe) (ou := ou) (es := es) H hm (j := i + 1) (by omega)
  have z0 : ∀ v, ¬ bt 0 v = true := fun v => by rw [b_0]; decide
  -- the part behind
  have B : ∃ z : Int32, (∀ v, v < 32 → (bt z v = true ↔ ap_on p (16 * m + i) ∧ i + 1 < ap_Z p m ∧ bt (N (16 * m + (i + 1))) v = true)) ∧ ∀ post : Int32 → Prop, wX_neededBehind_27 post (nI m) (nI (16 * m + i)) z po en up dn bg lv md gX dp sa sh (ap_sz p) (ap_L p) (ap_oo p) (ap_aA p) (ap_aB p) (ap_c p) N P K R me pt h lx va rf al fX pe ou es → wpX_neededBehind post (po, en, up, dn, bg, lv, md, gX, dp, sa, sh, ap_sz p, ap_L p, ap_oo p, ap_aA p, ap_aB p, ap_c p, N, P, K, R, me, pt, h, lx, va, rf, al, fX, pe, ou, es) (nI m) (nI i) := by
    rcases h1 with ⟨a, e⟩ | ⟨a, e⟩
    · refine ⟨y1, fun v hv => ?_, fun post hp => nm_r (ap_xk m i) (w1 _ (br_f (by rw [e]; decide) ?_))⟩
      · rcases g1 with ⟨b, f⟩ | ⟨b, f⟩
        · rw [f]; exact ⟨fun q => ⟨a, b, q⟩, fun q => q.2.2⟩
        · rw [f]; exact ⟨fun q => absurd q (z0 v), fun q => absurd q.2.1 (by omega)⟩
      · rw [nI_1]; exact v1 _ hp
    · exact ⟨0, fun v hv => ⟨fun q => absurd q (z0 v), fun q => absurd q.1 a⟩, fun post hp => nm_r (ap_xk m i) (w1 _ (br_t e hp))⟩
  obtain ⟨z, hz, wz⟩ := B
  rcases h2 with ⟨a, e⟩ | ⟨a, e⟩
  · obtain ⟨c1, c2⟩ := hc a
    obtain ⟨y2, g2, v2⟩ := ax_na (po := po) (en := en) (up := up) (dn := dn) (bg := bg) (lv := lv) (md := md) (gX := gX) (dp := dp) (sa := sa) (sh := sh) (N := N) (P := P) (K := K) (R := R) (me := me) (pt := pt) (h := h) (lx := lx) (va := va) (rf := rf) (al := al) (fX := fX) (pe := pe) (ou := ou) (es := es) H hm (j := ap_C p (16 * m + i)) (by omega)
    refine ⟨z ||| y2, fun v hv => ?_, fun post hp => wz post (w2 _ (br_f (by rw [e]; decide) ⟨hI, ?_⟩))⟩
    · rw [b_or, Bool.or_eq_true, hz v hv]
      constructor
      · rintro (⟨q1, q2, q3⟩ | q)
        · exact ⟨i + 1, ⟨q2, Or.inl ⟨q1, rfl⟩⟩, q3⟩
        · rcases g2 with ⟨b, f⟩ | ⟨b, f⟩
          · rw [f] at q; exact ⟨_, ⟨b, Or.inr ⟨a, rfl⟩⟩, q⟩
          · rw [f] at q; exact absurd q (z0 v)
      · rintro ⟨j, ⟨q1, ⟨q2, q3⟩ | ⟨q2, q3⟩⟩, q4⟩
        · subst q3; exact Or.inl ⟨q2, q1, q4⟩
        · subst q3
          rcases g2 with ⟨b, f⟩ | ⟨b, f⟩
          · rw [f]; exact Or.inr q4
          · omega
    · rw [ap_ck p hk, c1]; exact v2 _ hp
  · refine ⟨z, fun v hv => ?_, fun post hp => wz post (w2 _ (br_t e hp))⟩
    rw [hz v hv]
    constructor
    · rintro ⟨q1, q2, q3⟩
      exact ⟨i + 1, ⟨q2, Or.inl ⟨q1, rfl⟩⟩, q3⟩
    · rintro ⟨j, ⟨q1, ⟨q2, q3⟩ | ⟨q2, q3⟩⟩, q4⟩
      · subst q3; exact ⟨q2, q1, q4⟩
      · exact absurd q2 a
end
