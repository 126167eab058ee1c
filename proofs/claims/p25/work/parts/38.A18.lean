
theorem rpos_ro {R : Rw} (hP : RwP R) {i : Nat} (hi : i < rn R) : rpos R (ro R i) = i := by
  unfold rpos
  refine qfd_un (Nat.zero_le _) (by omega) (fun q _ hq => ?_) (fun _ => ?_)
  · refine decide_eq_false fun z => ?_
    have := hP.1 q i (by omega) hi (by omega)
    omega
  · exact decide_eq_true rfl
theorem ls_new {h : AH} (hw : Wf h) : Wf (uR (uI (uN h 1 3) (aZ h) 0 (iI 0)) (aZ h) 1 (aE h)) ∧ LsR (uR (uI (uN h 1 3) (aZ h) 0 (iI 0)) (aZ h) 1 (aE h)) (aZ h) [] ∧ Prs (fun x => aZ h ≤ x) h (uR (uI (uN h 1 3) (aZ h) 0 (iI 0)) (aZ h) 1 (aE h)) ∧ lc (uR (uI (uN h 1 3) (aZ h) 0 (iI 0)) (aZ h) 1 (aE h)) (aZ h) = 0 := by
  have hez := hw.1.2.1
  have hz0 : aZ h ≠ 0 := by omega
  generalize hg : uR (uI (uN h 1 3) (aZ h) 0 (iI 0)) (aZ h) 1 (aE h) = g
  have gK : ∀ q, aK g q = if q = aZ h then 1 else aK h q := fun q => by rw [← hg]; rfl
  have gN : ∀ q, aN g q = if q = aZ h then 3 else aN h q := fun q => by rw [← hg]; rfl
  have gR : aR g (aZ h) 1 = aE h := by rw [← hg]; exact w_R1 _ _ _ _
  have gRo : ∀ q j, q ≠ aZ h → aR g q j = aR h q j := fun q j hq => by
    rw [← hg, w_R2 hq]
    show aR (uN h 1 3) q j = _
    rw [w_RN2 hq]
  have gI2 : aI g (aZ h) 2 = 0 := by
    rw [← hg]
    show aI (uI (uN h 1 3) (aZ h) 0 (iI 0)) (aZ h) 2 = 0
    rw [w_I3 (by decide), w_IN1]
  have gE : aE g = aE h := by rw [← hg]; rfl
  have gZ : aZ g = aZ h + 1 := by rw [← hg]; rfl
  have gM : aM g = aM h := by rw [← hg]; rfl
  refine ⟨⟨?_, ?_, ?_, ?_, by rw [gM]; exact hw.2.2.2.2⟩, ?_, ?_, ?_⟩
  · rw [gE, gZ, gK, gN, if_neg (by omega), if_neg (by omega)]
    exact ⟨hw.1.1, by omega, hw.1.2.2⟩
  · intro q hq
    rw [gK, if_neg (by omega)]
    exact hw.2.1 q (by omega)
  · intro l1 l2 e1 e2 e3
    rw [gE]
    by_cases c1 : l1 = aZ h
    · exact Or.inr (by rw [c1]; exact gR)
    · by_cases c2 : l2 = aZ h
      · rw [c2, gR] at e3
        exact Or.inr e3
      · rw [gK, if_neg c1] at e1
        rw [gK, if_neg c2] at e2
        rw [gRo _ _ c1, gRo _ _ c2] at e3
        rw [gRo _ _ c1]
        exact hw.2.2.1 l1 l2 e1 e2 e3
  · intro l1 e1
    rw [gZ]
    by_cases c1 : l1 = aZ h
    · rw [c1, gR]; omega
    · rw [gK, if_neg c1] at e1
      rw [gRo _ _ c1]
      have := hw.2.2.2.1 l1 e1
      omega
  · have kE : aK g (aE h) = 26 := by rw [gK, if_neg (by omega)]; exact hw.1.2.2.1
    have nE : aN g (aE h) = 0 := by rw [gN, if_neg (by omega)]; exact hw.1.2.2.2
    unfold LsR
    rw [gR, gK, if_pos rfl, gZ, gI2, kE, nE, gE]
    exact ⟨eq_false hz0, rfl, by omega, j_0, rfl, eq_false hw.1.1, by omega, Nat.le_refl _, Nat.zero_le _, Or.inl ⟨rfl, rfl⟩, fun i hi => absurd hi (Nat.not_lt_zero _), fun x hx => nomatch hx⟩
  · rw [← hg]
    exact pr_tr pr_uN (pr_tr (pr_uI (Nat.le_refl _)) (pr_uR (Nat.le_refl _)))
  · unfold lc
    rw [gR, gN, if_neg (by omega)]
    exact hw.1.2.2.2
def chA (R : Rw) (g : Nat → Bool) (Lt : Nat → Nat) (q : Nat) : Int := nA R g (rpos R (Lt q))
def chB (R : Rw) (g : Nat → Bool) (Lt : Nat → Nat) (q : Nat) : Int := nB R g (rpos R (Lt q) + 1)
/-- what is new, or of the neighbours -/
def nS (nb z q : Nat) : Prop := (nb < q ∧ q ≤ nb + 3) ∨ z ≤ q
theorem f_X6_changes_6 {a b nb m z0 : Nat} {R : Rw} {Lt : Nat → Nat} {Sg Wn : Nat → Int} (hab : b + 3 < nb ∨ nb + 3 < b) (hab2 : nb + 3 < a ∨ a + 3 < nb) (hP : RwP R) (hLt : ∀ q, q < m → ∃ i, i < rn R ∧ Lt q = ro R i) : ∀ (k q n : Nat) (h : AH), aZ h = z0 → RowR h a R → PlR h b m Lt Sg Wn → NbK h nb → NbG h nb (gw Lt Wn q) → Wf h → q + k = m → k < n → aZ h + 301 ≤ aC h → aU h + 7947 ≤ gS →
    Okp (p_X6_changes_6 n b a nb (iI q) h) (fun r h' => ∃ ys, r = z0 ∧ Wf h' ∧ LsR h' r ys ∧ Al (ChR h') ys (chl Lt Sg Wn (chA R (gw Lt Wn m) Lt) (chB R (gw Lt Wn m) Lt) m) ∧ ndp ys ∧ Prs (nS nb z0) h h' ∧ (aR h' r 1 = aE h' ∨ z0 ≤ aR h' r 1) ∧ aZ h' ≤ aZ h + 301 ∧ aU h' ≤ aU h + 7947) := by
  intro k
  induction k with
  | zero =>
    intro q n h ez hr hp hk hg hw hq hn hz1 hu
    obtain ⟨n, rfl⟩ : ∃ m, n = m + 1 := ⟨n - 1, by omega⟩
    have k0 := hp.1.2.1
    have hc := hp.2.1
    have hm := hp.2.2.1
    have kn := hk.2.1
    have hbz := hp.1.2.2.2.2.2.2.2.2.2.2.2
    have hnz := hk.2.2.2.2.2.2.2.2.2.2.2
    unfold p_X6_changes_6
    simp (disch := omega) only [ck_t, nm_q, bR_s, j_add, j_sub, j_mul, j_nI, j_0, j_le, j_lt, j_eq, j_nat, j_ixe, bI_0, and_self, and_true, true_and, ne_eq, not_false_eq_true, not_true_eq_false, ite_true, ite_false, if_true, if_false, ck_p z_0, ck_p z_1, k0, hc, kn]
    rw [if_pos (by omega)]
    rw [show q = m by omega] at hg
    refine ok_bR (f_X5_find hab2 hP hr hk hg) ?_
    rintro _ h1 ⟨f1, f2⟩
    have hw1 := wf_pi hw f2
    have hz2 : aZ h1 = aZ h := f2.2.2.2.2.1
    have hu2 : aU h1 = aU h := f2.2.2.2.2.2.1
    have hc2 : aC h1 = aC h := f2.2.2.2.2.2.2.2.1
    have hp1 : PlR h1 b m Lt Sg Wn := plR_pr hp (pi_pr f2) (fun x z1 z2 => by omega)
    have hk1 := nbK_pi hk f2
    rw [ck_p ⟨by omega, by omega⟩]
    have hz0' : aZ h1 ≠ 0 := by have := hw1.1.2.1; omega
    rw [ck_p (by rw [w_KN1]; decide)]
    obtain ⟨n1, n2, n3, n4⟩ := ls_new hw1
    rw [bR_e (f_listInit hz0' (w_KN1 h1 1 3))]
    have eE : aE (uN h1 1 3) = aE h1 := rfl
    rw [eE]
    have hp2 : PlR (uR (uI (uN h1 1 3) (aZ h1) 0 (iI 0)) (aZ h1) 1 (aE h1)) b m Lt Sg Wn := plR_pr hp1 n3 (fun x z1 z2 => by omega)
    have hk2 := nbK_pr hk1 n3 (by omega)
    have hv : ∀ q, q < m → aI (uR (uI (uN h1 1 3) (aZ h1) 0 (iI 0)) (aZ h1) 1 (aE h1)) (nb + 2) (Lt q) = iI (chA R (gw Lt Wn m) Lt q) ∧ aI (uR (uI (uN h1 1 3) (aZ h1) 0 (iI 0)) (aZ h1) 1 (aE h1)) (nb + 3) (Lt q) = iI (chB R (gw Lt Wn m) Lt q) := by
      intro j hj
      rw [pr_I n3 (q := nb + 2) (by omega) (by omega), pr_I n3 (q := nb + 3) (by omega) (by omega)]
      obtain ⟨i, hi, e⟩ := hLt j hj
      unfold chA chB
      rw [e, rpos_ro hP hi]
      exact f1 i hi
    have eZ : aZ (uR (uI (uN h1 1 3) (aZ h1) 0 (iI 0)) (aZ h1) 1 (aE h1)) = aZ h1 + 1 := rfl
    have eU : aU (uR (uI (uN h1 1 3) (aZ h1) 0 (iI 0)) (aZ h1) 1 (aE h1)) = aU h1 + 3 := rfl
    have eC : aC (uR (uI (uN h1 1 3) (aZ h1) 0 (iI 0)) (aZ h1) 1 (aE h1)) = aC h1 := rfl
    have hEl : aR (uR (uI (uN h1 1 3) (aZ h1) 0 (iI 0)) (aZ h1) 1 (aE h1)) (aZ h1) 1 = aE h1 := w_R1 _ _ _ _
    have e56 := f_X6_changes_56 (b := b) (nb := nb) (m := m) (l := aZ h1) (z0 := z0) (Lt := Lt) (Sg := Sg) (Wn := Wn) (A := chA R (gw Lt Wn m) Lt) (B := chB R (gw Lt Wn m) Lt) hab m 0 FU (uR (uI (uN h1 1 3) (aZ h1) 0 (iI 0)) (aZ h1) 1 (aE h1)) [] hp2 hk2 hv n1 n2 ⟨rfl, fun i d hi => nomatch hi⟩ (fun i j hi => absurd hi (Nat.not_lt_zero _)) (by omega) (Or.inl hEl) (by omega) (by omega) (by omega) (by unfold FU; omega) (by omega) (by omega)
    refine ok_to e56 ?_
    rintro r h' ⟨e, ys, y1, y2, y3, y4, y5, y6, y7, y8, y9⟩
    have hl2 : lc h' r ≤ 1761 := by rw [e]; exact y2.2.2.2.2.2.2.2.2.1
    rw [n4] at y8
    rw [e] at hl2
    refine ⟨ys, by omega, y1, by rw [e]; exact y2, y3, y4, ?_, by rw [e]; exact y6, by omega, by omega⟩
    refine pr_tr (pr_mono (pi_pr f2) fun x _ z => Or.inl (by omega)) (pr_tr (pr_mono n3 fun x _ z => Or.inr (by omega)) (pr_mono y5 fun x _ z => Or.inr z))
  | succ k ih =>
    intro q n h ez hr hp hk hg hw hq hn hz1 hu
    obtain ⟨n, rfl⟩ : ∃ m, n = m + 1 := ⟨n - 1, by omega⟩
    have hp' := hp
    obtain ⟨⟨a0, k0, k1, k2, k3, k4, k5, k6, k7, k8, k9, k10⟩, hc, hm, hqq⟩ := hp
    have g := hqq q (by omega)
    have kn := hk.2.1
    unfold p_X6_changes_6 p_X6_changes_34
    simp (disch := omega) only [ck_t, nm_q, bR_s, j_add, j_sub, j_mul, j_nI, j_0, j_le, j_lt, j_eq, j_nat, j_ixe, bI_0, and_self, and_true, true_and, ne_eq, not_false_eq_true, not_true_eq_false, ite_true, ite_false, if_true, if_false, ck_p z_0, ck_p z_1, k0, hc, k3, k8, k9, k1, k4, k5, kn, Int.toNat_natCast, g.2.2.2.2.2.1, g.1]
    rw [if_neg (by omega), ck_p (by omega)]
    by_cases c : Wn q = 1
    · rw [if_pos c, ck_p (by omega)]
      refine ok_bR (f_X5_mark hk hg g.2.1) ?_
      rintro _ h1 ⟨q1, q2⟩
      have e : (fun x => if x = Lt q then true else gw Lt Wn q x) = gw Lt Wn (q + 1) := by
        funext x
        show _ = if Wn q = 1 then _ else _
        rw [if_pos c]
      rw [e] at q1
      have hz2 : aZ h1 = aZ h := q2.2.2.2.2.1
      have hu2 : aU h1 = aU h := q2.2.2.2.2.2.1
      have hc2 : aC h1 = aC h := q2.2.2.2.2.2.2.2.1
      refine ok_to (ih (q + 1) n h1 (by omega) (rowR_pr hr (pi_pr q2) (fun x z1 z2 => by omega)) (plR_pr hp' (pi_pr q2) (fun x z1 z2 => by omega)) (nbK_pi hk q2) q1 (wf_pi hw q2) (by omega) (by omega) (by omega) (by omega)) ?_
      rintro r h' ⟨ys, y0, y1, y2, y3, y4, y5, y6, y7, y8⟩
      exact ⟨ys, y0, y1, y2, y3, y4, pr_tr (pr_mono (pi_pr q2) fun x _ z => Or.inl (by omega)) y5, y6, by omega, by omega⟩
    · rw [if_neg c]
      have e : gw Lt Wn q = gw Lt Wn (q + 1) := by
        funext x
        show _ = if Wn q = 1 then _ else _
        rw [if_neg c]
      rw [e] at hg
      exact ih (q + 1) n h ez hr hp' hk hg hw (by omega) (by omega) hz1 hu
theorem f_X6_changes {h : AH} {a b nb m : Nat} {R : Rw} {Lt : Nat → Nat} {Sg Wn : Nat → Int} (hab : b + 3 < nb ∨ nb + 3 < b) (hab2 : nb + 3 < a ∨ a + 3 < nb) (hP : RwP R) (hLt : ∀ q, q < m → ∃ i, i < rn R ∧ Lt q = ro R i) (hr : RowR h a R) (hp : PlR h b m Lt Sg Wn) (hk : NbK h nb) (hw : Wf h) (hz1 : aZ h + 301 ≤ aC h) (hu : aU h + 7947 ≤ gS) :
    Okp (p_X6_changes b a nb h) (fun r h' => ∃ ys, r = aZ h ∧ Wf h' ∧ LsR h' r ys ∧ Al (ChR h') ys (chl Lt Sg Wn (chA R (gw Lt Wn m) Lt) (chB R (gw Lt Wn m) Lt) m) ∧ ndp ys ∧ Prs (nS nb (aZ h)) h h' ∧ (aR h' r 1 = aE h' ∨ aZ h ≤ aR h' r 1) ∧ aZ h' ≤ aZ h + 301 ∧ aU h' ≤ aU h + 7947) := by
  have a0 := hp.1.1
  have a1 := hr.1.1
  have a2 := hk.1
  have kn := hk.2.1
  unfold p_X6_changes p_X6_changes_0
  simp (disch := omega) only [ck_t, nm_q, bR_s, j_add, j_sub, j_mul, j_nI, j_0, j_le, j_lt, j_eq, j_nat, j_ixe, bI_0, and_self, and_true, true_and, ne_eq, not_false_eq_true, not_true_eq_false, ite_true, ite_false, if_true, if_false, ck_p z_0, ck_p z_1, a0, a1, a2, kn]
  refine ok_bR (f_X5_forget hk) ?_
  rintro _ h1 ⟨q1, q2⟩
  have hz2 : aZ h1 = aZ h := q2.2.2.2.2.1
  have hu2 : aU h1 = aU h := q2.2.2.2.2.2.1
  have hc2 : aC h1 = aC h := q2.2.2.2.2.2.2.2.1
  have hm := hp.2.2.1
  have e := f_X6_changes_6 (z0 := aZ h) hab hab2 hP hLt m 0 FU h1 hz2 (rowR_pr hr (pi_pr q2) (fun x z1 z2 => by omega)) (plR_pr hp (pi_pr q2) (fun x z1 z2 => by omega)) (nbK_pi hk q2) q1 (wf_pi hw q2) (by omega) (by unfold FU; omega) (by omega) (by omega)
  refine ok_to e ?_
  rintro r h' ⟨ys, y0, y1, y2, y3, y4, y5, y6, y7, y8⟩
  exact ⟨ys, y0, y1, y2, y3, y4, pr_tr (pr_mono (pi_pr q2) fun x _ z => Or.inl (by omega)) y5, y6, by omega, by omega⟩

