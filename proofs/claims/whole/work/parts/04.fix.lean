section
variable {p : ap_T} {m : Nat}
/-! NEEDED by rounds -/
def an_fo (p : ap_T) (m : Nat) (N : Nat → Int32) (i v : Nat) : Prop := ap_rd p m i v ∨ (¬ ap_wr p m i v ∧ ∃ j, ap_sc p m i j ∧ bt (N (16 * m + j)) v = true)
def an_I (p : ap_T) (m : Nat) (N : Nat → Int32) : Prop := ∀ i, i < ap_Z p m → ∀ v, v < 32 → bt (N (16 * m + i)) v = true → ap_nd p m i v ∧ an_fo p m N i v
def an_ca (p : ap_T) (m : Nat) (N : Nat → Int32) : Nat := ad_ct (fun x => bt (N (16 * m + x / 6)) (x % 6)) (6 * ap_Z p m)
theorem an_ca_le (H : ap_OK p) (N : Nat → Int32) : an_ca p m N ≤ 96 := by
  have h1 := ad_ct_le (fun x => bt (N (16 * m + x / 6)) (x % 6)) (6 * ap_Z p m)
  have h2 := H.2.1 m
  unfold an_ca
  omega
theorem an_fo_mono {N N' : Nat → Int32} {i v : Nat} (h : ∀ j, j < ap_Z p m → bt (N (16 * m + j)) v = true → bt (N' (16 * m + j)) v = true) (f : an_fo p m N i v) : an_fo p m N' i v := by
  rcases f with f | ⟨f, j, f1, f2⟩
  · exact Or.inl f
  · exact Or.inr ⟨f, j, f1, h j f1.1 f2⟩
theorem an_fo_nd {N : Nat → Int32} {i v : Nat} (hv : v < 32) (I : an_I p m N) (f : an_fo p m N i v) : ap_nd p m i v := by
  rcases f with f | ⟨f, j, f1, f2⟩
  · exact ad_nd_rd f
  · exact ad_nd_st f f1 (I j f1.1 v hv f2).1
theorem an_step (H : ap_OK p) {N : Nat → Int32} {i : Nat} {x : Int32} (I : an_I p m N) (hi : i < ap_Z p m) (hx : ∀ v, v < 32 → (bt x v = true ↔ an_fo p m N i v)) :
    an_I p m (upd N (16 * m + i) x) ∧ an_ca p m N ≤ an_ca p m (upd N (16 * m + i) x) ∧ (x ≠ N (16 * m + i) → an_ca p m N < an_ca p m (upd N (16 * m + i) x)) := by
  have sub : ∀ v, v < 32 → ∀ j, j < ap_Z p m → bt (N (16 * m + j)) v = true → bt (upd N (16 * m + i) x (16 * m + j)) v = true := by
    intro v hv j hj hb
    by_cases e : j = i
    · subst e
      rw [pk_us]
      exact (hx v hv).mpr (I j hj v hv hb).2
    · rw [pk_un (by omega)]; exact hb
  refine ⟨fun j hj v hv hb => ?_, ad_ct_mono _ (fun y hy hb => sub _ (by omega) _ (by omega) hb), fun ne => ?_⟩
  · have fo : an_fo p m N j v := by
      by_cases e : j = i
      · subst e
        rw [pk_us] at hb
        exact (hx v hv).mp hb
      · rw [pk_un (by omega)] at hb
        exact (I j hj v hv hb).2
    exact ⟨an_fo_nd hv I fo, an_fo_mono (sub v hv) fo⟩
  · have ex : ∃ v, v < 32 ∧ bt x v = true ∧ bt (N (16 * m + i)) v = false := by
      apply Classical.byContradiction
      intro nn
      apply ne
      refine b_ext (fun v hv => ?_)
      cases e : bt (N (16 * m + i)) v with
      | true => exact (hx v hv).mpr (I i hi v hv e).2
      | false =>
        cases e' : bt x v with
        | false => rfl
        | true => exact absurd ⟨v, hv, e', e⟩ nn
    obtain ⟨v, hv, h1, h2⟩ := ex
    have v6 : v < 6 := ap_nd_6 H (an_fo_nd hv I ((hx v hv).mp h1))
    have e1 : (6 * i + v) / 6 = i := by omega
    have e2 : (6 * i + v) % 6 = v := by omega
    refine ad_ct_lt (x := 6 * i + v) _ (fun y hy hb => sub _ (by omega) _ (by omega) hb) (by omega) ?_ ?_
    · show bt (N (16 * m + (6 * i + v) / 6)) ((6 * i + v) % 6) = false
      rw [e1, e2]; exact h2
    · show bt (upd N (16 * m + i) x (16 * m + (6 * i + v) / 6)) ((6 * i + v) % 6) = true
      rw [e1, e2, pk_us]; exact h1
theorem an_done {N : Nat → Int32} (I : an_I p m N) (hf : ∀ i, i < ap_Z p m → ∀ v, v < 32 → an_fo p m N i v → bt (N (16 * m + i)) v = true) (H : ap_OK p) : ap_NS p m N := by
  intro i hi v hv
  refine ⟨fun h => (I i hi v hv h).1, fun h => ?_⟩
  have := h (fun i => i < ap_Z p m → bt (N (16 * m + i)) v = true) (fun i hr hi => hf i hi v hv (Or.inl hr))
    (fun i j hw hs hj hi => hf i hi v hv (Or.inr ⟨hw, j, hs, hj hs.1⟩))
  exact this hi
/-! KEEPING by rounds: S i v, v = 6: reached -/
def ak_so (p : ap_T) (m : Nat) (S : Nat → Nat → Bool) : Prop := ∀ i, i < ap_Z p m → ∀ v, v ≤ 6 → S i v = true → ap_kp p m i v
def ak_cl (p : ap_T) (m : Nat) (S : Nat → Nat → Bool) (i : Nat) : Prop :=
  S i 6 = true → ∀ j, ap_sc p m i j → S j 6 = true ∧ ∀ v, v < 6 → ap_nd p m j v → (ap_gn p m i v ∨ S i v = true ∧ ¬ ap_kl p m i v) → S j v = true
def ak_ca (p : ap_T) (m : Nat) (S : Nat → Nat → Bool) : Nat := ad_ct (fun x => S (x / 7) (x % 7)) (7 * ap_Z p m)
theorem ak_ca_le (H : ap_OK p) (S : Nat → Nat → Bool) : ak_ca p m S ≤ 112 := by
  have h1 := ad_ct_le (fun x => S (x / 7) (x % 7)) (7 * ap_Z p m)
  have h2 := H.2.1 m
  unfold ak_ca
  omega
theorem ak_mono {S S' : Nat → Nat → Bool} (h : ∀ i, i < ap_Z p m → ∀ v, v ≤ 6 → S i v = true → S' i v = true) : ak_ca p m S ≤ ak_ca p m S' :=
  ad_ct_mono _ (fun y hy hb => h _ (by omega) _ (by omega) hb)
theorem ak_lt {S S' : Nat → Nat → Bool} (h : ∀ i, i < ap_Z p m → ∀ v, v ≤ 6 → S i v = true → S' i v = true) {j v : Nat} (hj : j < ap_Z p m) (hv : v ≤ 6) (h1 : S j v = false) (h2 : S' j v = true) : ak_ca p m S < ak_ca p m S' := by
  have e1 : (7 * j + v) / 7 = j := by omega
  have e2 : (7 * j + v) % 7 = v := by omega
  refine ad_ct_lt (x := 7 * j + v) _ (fun y hy hb => h _ (by omega) _ (by omega) hb) (by omega) ?_ ?_
  · show S ((7 * j + v) / 7) ((7 * j + v) % 7) = false
    rw [e1, e2]; exact h1
  · show S' ((7 * j + v) / 7) ((7 * j + v) % 7) = true
    rw [e1, e2]; exact h2
theorem ak_done {S : Nat → Nat → Bool} (I : ak_so p m S) (h0 : 0 < ap_Z p m → S 0 6 = true) (h1 : 0 < ap_Z p m → ap_L p m = 0 → ap_nd p m 0 0 → S 0 0 = true)
    (hc : ∀ i, i < ap_Z p m → ak_cl p m S i) : ∀ i, i < ap_Z p m → ∀ v, v ≤ 6 → (S i v = true ↔ ap_kp p m i v) := by
  intro i hi v hv
  refine ⟨I i hi v hv, fun h => ?_⟩
  have := h (fun i v => i < ap_Z p m ∧ S i v = true) (fun hz => ⟨hz, h0 hz⟩) (fun hz ho hn => ⟨hz, h1 hz ho hn⟩)
    (fun i j hp hs => ⟨hs.1, (hc i hp.1 hp.2 j hs).1⟩)
    (fun i j v hv hp hs hg hn => ⟨hs.1, (hc i hp.1 hp.2 j hs).2 v hv hn (Or.inl hg)⟩)
    (fun i j v hv hp hp' hk hs hn => ⟨hs.1, (hc i hp.1 hp.2 j hs).2 v hv hn (Or.inr ⟨hp'.2, hk⟩)⟩)
  exact this.2
/-! a LOAN by rounds: W is the set of places reached -/
def aw_rg (p : ap_T) (m i j : Nat) : Prop := ∃ s, ap_sc p m i s ∧ ad_rg (fun x => ap_nd p m x (ap_A p (16 * m + i))) (ap_sc p m) s j
def aw_gd (p : ap_T) (m i j : Nat) : Prop := ap_al p (16 * m + j) ∧ ∀ v, v ≠ ap_A p (16 * m + i) → ap_nd p m i v → ap_nd p m j v
def aw_cl (p : ap_T) (m i : Nat) (W : Nat → Bool) : Prop :=
  ∀ j, j < ap_Z p m → W j = true → ap_nd p m j (ap_A p (16 * m + i)) → aw_gd p m i j ∧ ∀ s, ap_sc p m j s → W s = true
theorem aw_st {i j s : Nat} (h : aw_rg p m i j) (h1 : ap_nd p m j (ap_A p (16 * m + i))) (h2 : ap_sc p m j s) : aw_rg p m i s := by
  obtain ⟨t, a, b⟩ := h
  exact ⟨t, a, ad_rg_st b h1 h2⟩
/-- all the ways are followed: it is a loan -/
theorem aw_yes {i : Nat} {W : Nat → Bool} (h1 : ap_O p (16 * m + i) = 3) (h2 : ap_C p (16 * m + i) ≠ 2) (h3 : ap_A p (16 * m + i) ≠ ap_B p (16 * m + i))
    (h0 : ∀ s, ap_sc p m i s → W s = true) (hc : aw_cl p m i W) : ap_ln p m i := by
  refine ⟨h1, h2, h3, fun s j hs hr hn => ?_⟩
  have := hr (fun x => x < ap_Z p m ∧ W x = true) ⟨hs.1, h0 s hs⟩ (fun x y hx hnx hxy => ⟨hxy.1, (hc x hx.1 hx.2 hnx).2 y hxy⟩)
  exact (hc j this.1 this.2 hn).1
theorem aw_no {i j : Nat} (hr : aw_rg p m i j) (hn : ap_nd p m j (ap_A p (16 * m + i))) (hb : ¬ aw_gd p m i j) : ¬ ap_ln p m i := by
  intro h
  obtain ⟨s, hs, hr⟩ := hr
  exact hb (h.2.2.2 s j hs hr hn)
/-! a list of places to be looked at: to be looked at, seen. gd: a place that stops nothing; go: ways lead on from it -/
def ao_I (z : Nat) (st gd go : Nat → Prop) (sc : Nat → Nat → Prop) (op se : Nat → Bool) : Prop :=
  (∀ j, op j = true ∨ se j = true → st j ∧ j < z) ∧ (∀ j, se j = true → gd j ∧ (go j → ∀ s, sc j s → op s = true ∨ se s = true)) ∧ (∀ j, op j = true → se j = false)
end
theorem aw_rnd {p : ap_T} {m i r : Nat} {W W' : Nat → Bool} (q : aw_cl p m i W ∨ r + 1 ≤ ad_ct W (ap_Z p m)) (h1 : ∀ j, j < ap_Z p m → W j = true → W' j = true)
    (h2 : ∀ j, j < ap_Z p m → W j = true → ap_nd p m j (ap_A p (16 * m + i)) → aw_gd p m i j ∧ ∀ s, ap_sc p m j s → W' s = true)
    (h3 : aw_cl p m i W → ∀ j, j < ap_Z p m → W' j = true → W j = true) : aw_cl p m i W' ∨ r + 1 + 1 ≤ ad_ct W' (ap_Z p m) := by
  by_cases e : ∀ j, j < ap_Z p m → W' j = true → W j = true
  · exact Or.inl (fun j hj hw hn => h2 j hj (e j hj hw) hn)
  · rcases q with q | q
    · exact absurd (h3 q) e
    · right
      have ex : ∃ j, j < ap_Z p m ∧ W' j = true ∧ W j = false := by
        apply Classical.byContradiction
        intro nn
        apply e
        intro j hj hw
        cases e' : W j with
        | true => rfl
        | false => exact absurd ⟨j, hj, hw, e'⟩ nn
      obtain ⟨j, hj, a, b⟩ := ex
      have := ad_ct_lt (x := j) (ap_Z p m) h1 hj b a
      omega
theorem aw_q0 {p : ap_T} {m i : Nat} {W : Nat → Bool} : aw_cl p m i W ∨ 0 + 1 ≤ ad_ct W (ap_Z p m) := by
  by_cases e : 1 ≤ ad_ct W (ap_Z p m)
  · exact Or.inr e
  · left
    intro j hj hw
    exact absurd (ad_ct_pos hj hw) e
theorem aw_q16 {p : ap_T} {m i : Nat} {W : Nat → Bool} (H : ap_OK p) (h : aw_cl p m i W ∨ 16 + 1 ≤ ad_ct W (ap_Z p m)) : aw_cl p m i W := by
  rcases h with h | h
  · exact h
  · have h1 := ad_ct_le W (ap_Z p m)
    have h2 := H.2.1 m
    omega
theorem ao_st {z : Nat} {st gd go : Nat → Prop} {sc : Nat → Nat → Prop} {op se op' se' : Nat → Bool}
    (hst : ∀ j s, st j → gd j → go j → sc j s → st s ∧ s < z) (I : ao_I z st gd go sc op se) {j : Nat} (hj : op j = true) (hg : gd j)
    (e1 : ∀ s, se' s = true ↔ se s = true ∨ s = j) (e2 : ∀ s, op' s = true ↔ (op s = true ∧ s ≠ j) ∨ (go j ∧ sc j s ∧ se' s = false)) :
    ao_I z st gd go sc op' se' ∧ ad_ct se z < ad_ct se' z ∧ ∀ s, op s = true ∨ se s = true → op' s = true ∨ se' s = true := by
  obtain ⟨I1, I2, I3⟩ := I
  have k : ∀ s, op s = true ∨ se s = true → op' s = true ∨ se' s = true := by
    intro s hs
    by_cases e : s = j
    · exact Or.inr ((e1 s).mpr (Or.inr e))
    · rcases hs with hs | hs
      · exact Or.inl ((e2 s).mpr (Or.inl ⟨hs, e⟩))
      · exact Or.inr ((e1 s).mpr (Or.inl hs))
  have hjst := I1 j (Or.inl hj)
  refine ⟨⟨fun s hs => ?_, fun s hs => ?_, fun s hs => ?_⟩, ?_, k⟩
  · rcases hs with hs | hs
    · rcases (e2 s).mp hs with ⟨a, _⟩ | ⟨a, b, _⟩
      · exact I1 s (Or.inl a)
      · exact hst j s hjst.1 hg a b
    · rcases (e1 s).mp hs with a | a
      · exact I1 s (Or.inr a)
      · rw [a]; exact hjst
  · rcases (e1 s).mp hs with a | a
    · exact ⟨(I2 s a).1, fun g t ht => k t ((I2 s a).2 g t ht)⟩
    · subst a
      refine ⟨hg, fun g t ht => ?_⟩
      cases e : se' t with
      | true => exact Or.inr rfl
      | false => exact Or.inl ((e2 t).mpr (Or.inr ⟨g, ht, e⟩))
  · rcases (e2 s).mp hs with ⟨a, b⟩ | ⟨_, _, c⟩
    · cases e : se' s with
      | false => rfl
      | true =>
        rcases (e1 s).mp e with c | c
        · rw [I3 s a] at c; exact absurd c (by decide)
        · exact absurd c b
    · exact c
  · refine ad_ct_lt (x := j) z (fun i _ hi => (e1 i).mpr (Or.inl hi)) hjst.2 (I3 j hj) ((e1 j).mpr (Or.inr rfl))
/-- NEEDED by a list of places -/
theorem ao_nd {p : ap_T} {m i v : Nat} {se op : Nat → Bool}
    (I : ao_I (ap_Z p m) (fun j => ap_nd p m j v → ap_nd p m i v) (fun j => ¬ ap_rd p m j v) (fun j => ¬ ap_wr p m j v) (ap_sc p m) op se)
    (h0 : op i = true ∨ se i = true) (he : ∀ s, op s = false) : ¬ ap_nd p m i v := by
  obtain ⟨I1, I2, I3⟩ := I
  intro h
  have hi : se i = true := by
    rcases h0 with h0 | h0
    · rw [he i] at h0; exact absurd h0 (by decide)
    · exact h0
  have := h (fun j => se j = false) (fun j hr => ?_) (fun j s hw hs hp => ?_)
  · rw [hi] at this; exact absurd this (by decide)
  · cases e : se j with
    | false => rfl
    | true => exact absurd hr (I2 j e).1
  · cases e : se j with
    | false => rfl
    | true =>
      rcases (I2 j e).2 hw s hs with a | a
      · rw [he s] at a; exact absurd a (by decide)
      · rw [hp] at a; exact absurd a (by decide)
/-- a LOAN by a list of places -/
theorem ao_ln {p : ap_T} {m i : Nat} {se op : Nat → Bool}
    (I : ao_I (ap_Z p m) (aw_rg p m i) (fun j => ap_nd p m j (ap_A p (16 * m + i)) → aw_gd p m i j) (fun j => ap_nd p m j (ap_A p (16 * m + i))) (ap_sc p m) op se)
    (h0 : ∀ s, ap_sc p m i s → op s = true ∨ se s = true) (he : ∀ s, op s = false)
    (h1 : ap_O p (16 * m + i) = 3) (h2 : ap_C p (16 * m + i) ≠ 2) (h3 : ap_A p (16 * m + i) ≠ ap_B p (16 * m + i)) : ap_ln p m i := by
  obtain ⟨I1, I2, I3⟩ := I
  have k : ∀ s, op s = true ∨ se s = true → se s = true := by
    intro s hs
    rcases hs with hs | hs
    · rw [he s] at hs; exact absurd hs (by decide)
    · exact hs
  exact aw_yes (W := se) h1 h2 h3 (fun s hs => k s (h0 s hs)) (fun j _ hw hn => ⟨(I2 j hw).1 hn, fun s hs => k s ((I2 j hw).2 hn s hs)⟩)
