/-! what holds while a run goes on -/
def ag_A (p : ap_T) (N P NY PY : Nat → Int32) : Prop := ∀ m, m < 4 → ap_NS p m N ∧ ap_PS p m P ∧ ap_NS p m NY ∧ ap_PS p m PY
def ag_F (p : ap_T) (sh : Int32) (d : Nat) (h lo me pt : Nat → Int32) : Prop :=
  (sh = 0 ∨ sh = 1) ∧ (sh = 0 → ∀ v, v < 6 * d → lo v = 0) ∧ ∀ f, f < d → ∃ m i, m < 4 ∧ i ≤ 16 ∧ me f = nI m ∧ pt f = nI i ∧ (f + 1 < d → i < ap_Z p m ∧ ap_O p (16 * m + i) = 11) ∧
    ∀ j, j < 6 → lo (6 * f + j) ≠ 0 → (∃ w, w < 6 * f ∧ h w = h (6 * f + j) ∧ lo w = 0) ∨ (f + 1 = d ∧ (i < ap_Z p m → ap_LR p m j i))
def ag_I (p : ap_T) (sh : Int32) (d M L E Q B g : Nat) (h lx lo al rf fX fY me pt va : Nat → Int32) : Prop :=
  ac_MI 0 [] (nI g) h lo d M al rf fX fY L E ∧ af_ll h lx lo ∧ va 0 = 0 ∧ Q ≤ B ∧ M ≤ B ∧ B ≤ 300 ∧ g ≤ M ∧ ag_F p sh d h lo me pt
section
variable {p : ap_T} {sh : Int32} {h lo me pt : Nat → Int32} {f m i : Nat}
/-- the top frame goes on at s -/
theorem ag_F_top (F : ag_F p sh (f + 1) h lo me pt) (em : me f = nI m) (ei : pt f = nI i) (hm : m < 4) (hi : i < 16) (hll : ∀ v, lo v ≠ 0 → h v ≠ 0)
    (hnd : sh = 1 → ∀ j, j < 6 → h (6 * f + j) ≠ 0 → ap_nd p m i j) (hiz : i < ap_Z p m) {s : Nat} (hs : s ≤ 16) (hsc : s < ap_Z p m → ap_sc p m i s) (h' lo' : Nat → Int32)
    (lw : ∀ w, w < 6 * f → h' w = h w ∧ lo' w = lo w)
    (tp : ∀ j, j < 6 → (h' (6 * f + j) = h (6 * f + j) ∧ lo' (6 * f + j) = lo (6 * f + j)) ∨ lo' (6 * f + j) = 0 ∨ (sh ≠ 0 ∧ (s < ap_Z p m → ap_LR p m j s))) :
    ag_F p sh (f + 1) h' lo' me (upd pt f (nI s)) := by
  obtain ⟨F1, F2, F3⟩ := F
  refine ⟨F1, fun s0 v hv => ?_, fun g hg => ?_⟩
  · by_cases c : v < 6 * f
    · rw [(lw v c).2]; exact F2 s0 v hv
    · have e : 6 * f + (v - 6 * f) = v := by omega
      rcases tp (v - 6 * f) (by omega) with ⟨_, t⟩ | t | ⟨t, _⟩
      · rw [e] at t; rw [t]; exact F2 s0 v hv
      · rw [e] at t; exact t
      · exact absurd s0 t
  · by_cases c : g = f
    · subst c
      refine ⟨m, s, hm, hs, em, pk_us, fun z => by omega, fun j hj hlo => ?_⟩
      obtain ⟨m2, i2, q1, q2, q3, q4, _, q5⟩ := F3 g hg
      have e1 : m2 = m := (nI_eq (by omega) (by omega)).mp (q3.symm.trans em)
      have e2 : i2 = i := (nI_eq (by omega) (by omega)).mp (q4.symm.trans ei)
      subst e1 e2
      rcases tp j hj with ⟨t1, t2⟩ | t | ⟨_, t⟩
      · rw [t2] at hlo
        rcases q5 j hj hlo with ⟨w, w1, w2, w3⟩ | ⟨_, w⟩
        · exact Or.inl ⟨w, w1, by rw [(lw w w1).1, t1]; exact w2, by rw [(lw w w1).2]; exact w3⟩
        · refine Or.inr ⟨rfl, fun sz => ?_⟩
          have s1 : sh = 1 := by
            rcases F1 with z | z
            · exact absurd (F2 z (6 * g + j) (by omega)) hlo
            · exact z
          exact ap_LR_1 (w hiz) (hnd s1 j hj (hll _ hlo)) (hsc sz)
      · exact absurd t hlo
      · exact Or.inr ⟨rfl, t⟩
    · obtain ⟨m2, i2, q1, q2, q3, q4, q6, q5⟩ := F3 g hg
      refine ⟨m2, i2, q1, q2, q3, by rw [pk_un c]; exact q4, q6, fun j hj hlo => ?_⟩
      rw [(lw (6 * g + j) (by omega)).2] at hlo
      rcases q5 j hj hlo with ⟨w, w1, w2, w3⟩ | ⟨w, _⟩
      · exact Or.inl ⟨w, w1, by rw [(lw w (by omega)).1, (lw (6 * g + j) (by omega)).1]; exact w2, by rw [(lw w (by omega)).2]; exact w3⟩
      · omega
/-- what is read there is alive -/
theorem ag_alive {g : Int32} {M L E n j : Nat} {al rf fX fY : Nat → Int32} (I : ac_MI 0 [] g h lo (f + 1) M al rf fX fY L E) (F : ag_F p sh (f + 1) h lo me pt) (em : me f = nI m) (ei : pt f = nI i) (hm : m < 4) (hi : i < 16)
    (hnd : sh = 1 → ∀ j, j < 6 → h (6 * f + j) ≠ 0 → ap_nd p m i j) (hiz : i < ap_Z p m) (hal : ¬ ap_al p (16 * m + i)) (hj : j < 6) (eh : h (6 * f + j) = nI n) (hn : n ≤ M) : 1 ≤ n → al n = 1 := by
  intro n1
  obtain ⟨_, _, _, hM, hd⟩ := I.2.2.2.2.2.2.1
  by_cases c : lo (6 * f + j) = 0
  · exact ac_al_V I n1 hn (by omega) eh c
  · obtain ⟨F1, F2, F3⟩ := F
    obtain ⟨m2, i2, q1, q2, q3, q4, _, q5⟩ := F3 f (by omega)
    have e1 : m2 = m := (nI_eq (by omega) (by omega)).mp (q3.symm.trans em)
    have e2 : i2 = i := (nI_eq (by omega) (by omega)).mp (q4.symm.trans ei)
    subst e1 e2
    have s1 : sh = 1 := by
      rcases F1 with z | z
      · exact absurd (F2 z (6 * f + j) (by omega)) c
      · exact z
    rcases q5 j hj c with ⟨w, w1, w2, w3⟩ | ⟨_, w⟩
    · exact ac_al_V I n1 hn (v := w) (by omega) (w2.trans eh) w3
    · exact absurd (ap_LR_2 (w hiz) (hnd s1 j hj (by rw [eh]; exact nI_ne0 n1 (by omega)))) hal
theorem ag_ne {h lx lo : Nat → Int32} (hl : af_ll h lx lo) : ∀ v, lo v ≠ 0 → h v ≠ 0 := fun v hv z => hv ((hl v).2.1 z)
end
section
variable {p : ap_T} {kn md lv up dn dp bg gY oc sh rn po en : Int32} {sA sB NY PY KY va fY al me pt h lo ou es td ph : Nat → Int32}
variable {d M a nn : Nat}
/-- whether the object has one reference, that of a -/
theorem by_134 (hM : M ≤ 300) (hd : d ≤ 6) (ha : a < 36) (hn : nn ≤ 300) (post : SY → Prop) (k op b c fl : Int32)
    (K : ∀ z : Int32, ((z = 1 ∧ 1 ≤ nn ∧ lo a = 0 ∧ ac_N gY h lo d fY M nn = 1) ∨ (z = 0 ∧ ¬ (1 ≤ nn ∧ lo a = 0 ∧ ac_N gY h lo d fY M nn = 1))) → wY_carryOut_166 post k op (nI a) b c (nI nn) fl z kn (nI M) lv up dn (nI d) bg gY oc sh rn po en (ap_oo p) sA sB (ap_c p) (ap_sz p) (ap_L p) NY PY KY va fY al me pt h lo ou es td ph) :
    wY_carryOut_134 post k op (nI a) b c (nI nn) fl kn (nI M) lv up dn (nI d) bg gY oc sh rn po en (ap_oo p) sA sB (ap_c p) (ap_sz p) (ap_L p) NY PY KY va fY al me pt h lo ou es td ph := by
  have ek : (nI a).toNatClampNeg = a := nI_clamp (by omega)
  by_cases n0 : nn = 0
  · subst n0
    exact br_t (by decide) (K 0 (Or.inr ⟨rfl, fun z => by omega⟩))
  · refine br_f (nI_nle (by omega) (by omega)) ⟨vp_in_nI ha (by omega), ?_⟩
    rw [ek]
    refine br_c (fun c1 => ?_) (fun c1 => K 0 (Or.inr ⟨rfl, fun z => c1 z.2.1⟩))
    have := ac_N_le gY h lo d fY M nn
    refine by_count hM hd _ (pk_eq _ 1 (fun c2 => K 1 (Or.inl ⟨rfl, by omega, c1, c2⟩)) (fun c2 => K 0 (Or.inr ⟨rfl, fun z => c2 z.2.2⟩)))
end
