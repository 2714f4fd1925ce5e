def ap_out (m : Nat) (N N' : Nat → Int32) : Prop := ∀ k, k / 16 ≠ m → N' k = N k
theorem ap_out_u {m i : Nat} {N N' : Nat → Int32} (h : ap_out m N N') (hi : i < 16) (x : Int32) : ap_out m N (upd N' (16 * m + i) x) := fun k hk => by
  rw [pk_un (by intro z; apply hk; omega)]
  exact h k hk
theorem ap_out_r {m : Nat} {N : Nat → Int32} : ap_out m N N := fun _ _ => rfl
section
variable {p : ap_T} {po en up dn bg lv md gX dp sa sh : Int32} {N P K R me pt h lx va rf al fX pe ou es : Nat → Int32}
variable {m : Nat}
/-- what one round asks of place c and those behind it; N0: as the round found the sets -/
def an_R (p : ap_T) (m : Nat) (N0 N : Nat → Int32) (fl : Int32) (c : Nat) : Prop :=
  an_I p m N ∧ ap_out m N0 N ∧ ((fl = 0 ∧ N = N0 ∧ ∀ i, c ≤ i → i < ap_Z p m → ∀ v, v < 32 → an_fo p m N0 i v → bt (N0 (16 * m + i)) v = true) ∨ (fl = 1 ∧ an_ca p m N0 < an_ca p m N))
theorem an_inner (H : ap_OK p) (hm : m < 4) (post : SX → Prop) (J : Int32 → Int32 → (Nat → Int32) → (Nat → Int32) → (Nat → Int32) → (Nat → Int32) → (Nat → Int32) → (Nat → Int32) → (Nat → Int32) → (Nat → Int32) → (Nat → Int32) → (Nat → Int32) → (Nat → Int32) → (Nat → Int32) → (Nat → Int32) → (Nat → Int32) → (Nat → Int32) → (Nat → Int32) → (Nat → Int32) → (Nat → Int32) → (Nat → Int32) → (Nat → Int32) → (Nat → Int32) → Prop) (x3 : Int32) (N0 : Nat → Int32)
    (hJ : ∀ N' fl', an_R p m N0 N' fl' 0 → J fl' (x3 + 1) (ap_sz p) (ap_L p) (ap_oo p) (ap_aA p) (ap_aB p) (ap_c p) N' P K R me pt h lx va rf al fX pe ou es) :
    ∀ c, c ≤ ap_Z p m → ∀ N fl, an_R p m N0 N fl c → wX_findNeeded_56 post J (nI m) x3 po en up dn bg lv md gX dp sa sh (c + 1) fl (nI c + (-1)) (ap_sz p) (ap_L p) (ap_oo p) (ap_aA p) (ap_aB p) (ap_c p) N P K R me pt h lx va rf al fX pe ou es := by
  intro c
  induction c with
  | zero =>
    intro _ N fl hR
    exact br_t (by decide) (nm_e (hJ N fl hR))
  | succ i ih =>
    intro hc N fl hR
    have hz := H.2.1 m
    have hi : i < 16 := by omega
    have hk : 16 * m + i < 64 := by omega
    have hI : vp_in (nI (16 * m + i)) 64 := vp_in_nI hk (by omega)
    obtain ⟨x, hx, wx⟩ := ax_rd (po := po) (en := en) (up := up) (dn := dn) (bg := bg) (lv := lv) (md := md) (gX := gX) (dp := dp) (sa := sa) (sh := sh) (N := N) (P := P) (K := K) (R := R) (me := me) (pt := pt) (h := h) (lx := lx) (va := va) (rf := rf) (al := al) (fX := fX) (pe := pe) (ou := ou) (es := es) H hm hi
    obtain ⟨y, hy, wy⟩ := ax_nb (po := po) (en := en) (up := up) (dn := dn) (bg := bg) (lv := lv) (md := md) (gX := gX) (dp := dp) (sa := sa) (sh := sh) (N := N) (P := P) (K := K) (R := R) (me := me) (pt := pt) (h := h) (lx := lx) (va := va) (rf := rf) (al := al) (fX := fX) (pe := pe) (ou := ou) (es := es) H hm hi
    obtain ⟨w, hw, ww⟩ := ax_wr (po := po) (en := en) (up := up) (dn := dn) (bg := bg) (lv := lv) (md := md) (gX := gX) (dp := dp) (sa := sa) (sh := sh) (N := N) (P := P) (K := K) (R := R) (me := me) (pt := pt) (h := h) (lx := lx) (va := va) (rf := rf) (al := al) (fX := fX) (pe := pe) (ou := ou) (es := es) H hm hi
    have hf : ∀ v, v < 32 → (bt (x ||| (y &&& (w ^^^ (-1)))) v = true ↔ an_fo p m N i v) := by
      intro v hv
      rw [b_or, b_and, ad_not w hv, Bool.or_eq_true, Bool.and_eq_true, hx v hv, hy v hv]
      have e : (!bt w v) = true ↔ ¬ ap_wr p m i v := by rw [← hw v hv]; cases bt w v <;> decide
      rw [e]
      unfold an_fo
      constructor
      · rintro (a | ⟨a, b⟩)
        · exact Or.inl a
        · exact Or.inr ⟨b, a⟩
      · rintro (a | ⟨a, b⟩)
        · exact Or.inl a
        · exact Or.inr ⟨b, a⟩
    obtain ⟨R1, R2, R3⟩ := hR
    obtain ⟨S1, S2, S3⟩ := an_step H R1 (by omega) hf
    -- behind the flag
    have fin : ∀ fl', an_R p m N0 (upd N (16 * m + i) (x ||| (y &&& (w ^^^ (-1))))) fl' i →
        wX_findNeeded_116 post J (wX_findNeeded_56 post J (nI m) x3 po en up dn bg lv md gX dp sa sh (i + 1)) (nI m) x3 (nI i) (nI (16 * m + i)) (x ||| (y &&& (w ^^^ (-1)))) fl' po en up dn bg lv md gX dp sa sh (ap_sz p) (ap_L p) (ap_oo p) (ap_aA p) (ap_aB p) (ap_c p) N P K R me pt h lx va rf al fX pe ou es := by
      intro fl' h'
      refine ⟨hI, nm_e (nm_e ?_)⟩
      rw [nI_clamp (by omega)]
      exact ih (by omega) _ fl' h'
    rw [pk_m1]
    refine br_f (nI_pos (by omega)) (nm_r (ap_xk m i) (wx _ (wy _ (ww _ (nm_e ?_)))))
    have ek : (nI (16 * m + i)).toNatClampNeg = 16 * m + i := nI_clamp (by omega)
    rcases R3 with ⟨f0, eN, fo⟩ | ⟨f1, lt⟩
    · refine br_t f0 ⟨hI, br_c (fun e => fin 0 ?_) (fun e => fin 1 ?_)⟩
      · rw [ek] at e
        have e' : upd N (16 * m + i) (x ||| (y &&& (w ^^^ (-1)))) = N := ad_updS _ _ _ e.symm
        rw [e']
        refine ⟨R1, R2, Or.inl ⟨rfl, eN, fun j hj hjz v hv hfo => ?_⟩⟩
        by_cases c1 : j = i
        · subst c1
          rw [← eN, ← e]
          exact (hf v hv).mpr (by rw [eN]; exact hfo)
        · exact fo j (by omega) hjz v hv hfo
      · rw [ek] at e
        exact ⟨S1, ap_out_u R2 hi _, Or.inr ⟨rfl, by have := S3 e; rw [eN] at this ⊢; exact this⟩⟩
    · refine br_f (by rw [f1]; decide) (fin 1 ⟨S1, ap_out_u R2 hi _, Or.inr ⟨rfl, by omega⟩⟩)
theorem an_outer (H : ap_OK p) (hm : m < 4) (post : SX → Prop) (N0 : Nat → Int32)
    (hp : ∀ N', ap_NS p m N' → ap_out m N0 N' → post (po, en, up, dn, bg, lv, md, gX, dp, sa, sh, ap_sz p, ap_L p, ap_oo p, ap_aA p, ap_aB p, ap_c p, N', P, K, R, me, pt, h, lx, va, rf, al, fX, pe, ou, es)) :
    ∀ d r, r + d = 97 → ∀ N fl, an_I p m N → ap_out m N0 N → ((fl = 0 ∧ ap_NS p m N) ∨ (fl = 1 ∧ r ≤ an_ca p m N)) → wX_findNeeded_34 post (nI m) po en up dn bg lv md gX dp sa sh (d + 1) fl (nI r) (ap_sz p) (ap_L p) (ap_oo p) (ap_aA p) (ap_aB p) (ap_c p) N P K R me pt h lx va rf al fX pe ou es := by
  intro d
  induction d with
  | zero =>
    intro r hr N fl h1 h2 h3
    refine br_t (nI_lt (a := 96) (by omega) (by omega)) (hp N ?_ h2)
    rcases h3 with ⟨_, h3⟩ | ⟨_, h3⟩
    · exact h3
    · have := an_ca_le (m := m) H N
      omega
  | succ d ih =>
    intro r hr N fl h1 h2 h3
    refine br_f (nI_nlt (b := r) (a := 96) (by omega) (by decide)) ?_
    rcases h3 with ⟨f, h3⟩ | ⟨f, h3⟩
    · exact br_t f (hp N h3 h2)
    · refine br_f (by rw [f]; decide) ⟨vp_in_nI hm (by omega), nm_r (e' := nI (ap_Z p m) + (-1)) (by rw [ap_szm p hm]; exact Int32.sub_eq_add_neg _ _) ⟨ap_Z p m + 1, ?_⟩⟩
      refine an_inner H hm post _ (nI r) N (fun N' fl' hR => ?_) (ap_Z p m) (Nat.le_refl _) N 0 ⟨h1, ap_out_r, Or.inl ⟨rfl, rfl, fun i a b => by omega⟩⟩
      rw [nI_1]
      obtain ⟨R1, R2, R3⟩ := hR
      refine ih (r + 1) (by omega) N' fl' R1 (fun k hk => (R2 k hk).trans (h2 k hk)) ?_
      rcases R3 with ⟨f0, eN, fo⟩ | ⟨f1, lt⟩
      · refine Or.inl ⟨f0, ?_⟩
        rw [eN]
        exact an_done h1 (fun i hi => fo i (Nat.zero_le _) hi) H
      · exact Or.inr ⟨f1, by omega⟩
theorem an_clear (H : ap_OK p) (hm : m < 4) (post : SX → Prop) (N0 : Nat → Int32)
    (hp : ∀ N', ap_NS p m N' → ap_out m N0 N' → post (po, en, up, dn, bg, lv, md, gX, dp, sa, sh, ap_sz p, ap_L p, ap_oo p, ap_aA p, ap_aB p, ap_c p, N', P, K, R, me, pt, h, lx, va, rf, al, fX, pe, ou, es)) :
    ∀ d i, i + d = ap_Z p m → ∀ N, ap_out m N0 N → (∀ j, j < i → N (16 * m + j) = 0) → wX_findNeeded_2 post (nI m) po en up dn bg lv md gX dp sa sh (d + 1) (nI i) (ap_sz p) (ap_L p) (ap_oo p) (ap_aA p) (ap_aB p) (ap_c p) N P K R me pt h lx va rf al fX pe ou es := by
  intro d
  have hz := H.2.1 m
  induction d with
  | zero =>
    intro i hi N h1 h2
    refine ⟨vp_in_nI hm (by omega), br_t (by rw [ap_szm p hm]; exact nI_le (by omega) (by omega)) ⟨98, ?_⟩⟩
    refine an_outer H hm post N0 hp 97 0 (by omega) N 1 (fun j hj v hv hb => ?_) h1 (Or.inr ⟨rfl, Nat.zero_le _⟩)
    rw [h2 j (by omega), b_0] at hb
    exact absurd hb (by decide)
  | succ d ih =>
    intro i hi N h1 h2
    refine ⟨vp_in_nI hm (by omega), br_f (by rw [ap_szm p hm]; exact nI_ge (by omega) (by omega)) ?_⟩
    rw [ap_xk, nI_clamp (by omega)]
    refine ⟨vp_in_nI (by omega) (by omega), nm_e (nm_r (nI_1 i) (ih (i + 1) (by omega) _ (ap_out_u h1 (by omega) 0) (fun j hj => ?_)))⟩
    by_cases c : j = i
    · subst c; exact pk_us
    · rw [pk_un (by omega)]; exact h2 j (by omega)
theorem ax_need (H : ap_OK p) (hm : m < 4) (post : SX → Prop)
    (hp : ∀ N', ap_NS p m N' → ap_out m N N' → post (po, en, up, dn, bg, lv, md, gX, dp, sa, sh, ap_sz p, ap_L p, ap_oo p, ap_aA p, ap_aB p, ap_c p, N', P, K, R, me, pt, h, lx, va, rf, al, fX, pe, ou, es)) : wpX_findNeeded post (po, en, up, dn, bg, lv, md, gX, dp, sa, sh, ap_sz p, ap_L p, ap_oo p, ap_aA p, ap_aB p, ap_c p, N, P, K, R, me, pt, h, lx, va, rf, al, fX, pe, ou, es) (nI m) :=
  ⟨ap_Z p m + 1, an_clear H hm post N hp (ap_Z p m) 0 (by omega) N ap_out_r (fun j hj => by omega)⟩
end
