
/-! ===== a text begins ===== -/
def RoS (v0 s : Nat) (h g : AH) : Prop := Nst v0 h g 4 454 ∧ RowR g (aZ h) r0 ∧ aR g v0 s = aZ h ∧ (∀ j, j ≠ s → aR g v0 j = aR h v0 j) ∧ aI g v0 = aI h v0
theorem ro_step {h : AH} {v0 s : Nat} (hv : v0 < aZ h) (hw : Wf h) (h1 : aK h v0 = 11) (hc : aZ h + 4 ≤ aC h) (hu : aU h + 454 ≤ gS) : Okp (p_X7_init (aZ h) (uN h 9 4)) (fun _ h6 => RoS v0 s h (uR h6 v0 s (aZ h)) ∧ aK h6 v0 = 11) := by
  have nv : v0 ≠ aZ h := by omega
  have z1 : aZ (uN h 9 4) = aZ h + 1 := rfl
  have u1 : aU (uN h 9 4) = aU h + 4 := rfl
  have c1 : aC (uN h 9 4) = aC h := rfl
  have hw1 : Wf (uN h 9 4) := wf_uN hw (by decide)
  refine ok_to (f_X7_init (by omega) z1 (w_KN1 h 9 4) hw1 ((w_IN1 h 9 4 3).trans j_0) (by omega) (by omega)) ?_
  rintro _ h6 ⟨x1, x2, x3, x4, x5⟩
  have p0 : Prs (fun q => aZ h ≤ q) h (uN h 9 4) := pr_uN
  have p1 : Prs (fun q => aZ h ≤ q) h h6 := pr_tr p0 (pr_mono x2 fun q _ z => by omega)
  have k6 : aK h6 v0 = 11 := by rw [pr_K p1 hv]; exact h1
  have p2 : Prs (fun q => q = v0) h6 (uR h6 v0 s (aZ h)) := pr_uR rfl
  refine ⟨⟨⟨pr_tr (pr_mono p1 fun q _ z => Or.inr z) (pr_mono p2 fun q _ z => Or.inl z), ?_, ?_, wf_uR x5 (by omega)⟩, rowR_pr x1 p2 (fun q z1 z2 => by omega), w_R1 _ _ _ _, fun j hj => ?_, ?_⟩, k6⟩
  · show aZ h6 = aZ h + 4
    omega
  · show aU h6 = aU h + 454
    omega
  · rw [w_R3 hj, pr_R p1 hv (by omega)]
  · show aI h6 v0 = _
    rw [pr_I p1 hv (by omega)]
theorem ui_step {h : AH} {v0 s : Nat} {x : Int32} (hw : Wf h) : Nst v0 h (uI h v0 s x) 0 0 ∧ aR (uI h v0 s x) v0 = aR h v0 := ⟨⟨pr_uI (Or.inl rfl), rfl, rfl, wf_pi hw (pi_uI (S := fun q => q = v0) rfl)⟩, rfl⟩
theorem f_X9_init_70 {t : Nat} : ∀ (k j n : Nat) (h : AH), aK h t = 11 → aR h t 9 = t + 11 → aK h (t + 11) = 20 → aN h (t + 11) = 5 → (∀ i, i < j → aI h (t + 11) i = iI (-1)) → j + k = 5 → k < n → Okp (p_X9_init_70 n t (iI j) h) (fun _ h' => (∀ i, i < 5 → aI h' (t + 11) i = iI (-1)) ∧ Pi (fun q => q = t + 11) h h') := by
  intro k
  induction k with
  | zero =>
    intro j n h h1 h2 h3 h4 h5 hj hn
    obtain ⟨n, rfl⟩ : ∃ m, n = m + 1 := ⟨n - 1, by omega⟩
    unfold p_X9_init_70
    simp (disch := omega) only [ck_t, nm_q, bR_s, j_add, j_sub, j_mul, j_nI, j_0, j_le, j_lt, j_eq, j_nat, j_ixe, bI_0, and_self, and_true, true_and, ne_eq, not_false_eq_true, not_true_eq_false, ite_true, ite_false, if_true, if_false, ck_p z_0, ck_p z_1, K_uI, N_uI, R_uI, L_uI, Z_uI, U_uI, E_uI, C_uI, M_uI, Int.toNat_natCast, if_pos]
    exact ok_some ⟨fun i hi => h5 i (by omega), pi_rf⟩
  | succ k ih =>
    intro j n h h1 h2 h3 h4 h5 hj hn
    obtain ⟨n, rfl⟩ : ∃ m, n = m + 1 := ⟨n - 1, by omega⟩
    unfold p_X9_init_70
    simp (disch := omega) only [ck_t, nm_q, bR_s, j_add, j_sub, j_mul, j_nI, j_0, j_le, j_lt, j_eq, j_nat, j_ixe, bI_0, and_self, and_true, true_and, ne_eq, not_false_eq_true, not_true_eq_false, ite_true, ite_false, if_true, if_false, ck_p z_0, ck_p z_1, K_uI, N_uI, R_uI, L_uI, Z_uI, U_uI, E_uI, C_uI, M_uI, Int.toNat_natCast, if_neg, ck_p, h1, h2, h3, h4]
    refine ok_to (ih (j + 1) n (uI h (t + 11) j (iI (-1))) h1 h2 h3 h4 (fun i hi => ?_) (by omega) (by omega)) fun _ h' z => ⟨z.1, pi_tr (pi_uI rfl) z.2⟩
    by_cases d : i = j
    · rw [d, w_I1]
    · rw [w_I3 d]; exact h5 i (by omega)
def X9c (t i : Nat) (h g1 g2 g4 g5 g6 g7 h' : AH) : Prop := RoS t 1 h g1 ∧ AlS t 21 150 2 g1 g2 ∧ (Nst t g2 g4 0 0 ∧ aR g4 t = aR g2 t ∧ aI g4 t 4 = iI (-1) ∧ aI g4 t 5 = iI (-1) ∧ ∀ j, j ≠ 4 → j ≠ 5 → aI g4 t j = aI g2 t j) ∧ RoS t 7 g4 g5 ∧ LiS t 8 g5 g6 ∧ AlS t 20 5 9 g6 g7 ∧ (∀ j, j < 5 → aI h' (t + 11) j = iI (-1)) ∧ Pi (fun q => q = t + 11) (uI g7 t 0 (iI i)) h'
theorem x9_tail {g : AH} {t i : Nat} (k7 : aK g t = 11) (q9 : aR g t 9 = t + 11) (kk : aK g (t + 11) = 20) (nn : aN g (t + 11) = 5) : Okp (p_X9_init_70 FU t (iI 0) (uI g t 0 (iI i))) (fun _ h' => (∀ j, j < 5 → aI h' (t + 11) j = iI (-1)) ∧ Pi (fun q => q = t + 11) (uI g t 0 (iI i)) h') := by
  have k8 : aK (uI g t 0 (iI i)) t = 11 := by rw [K_uI]; exact k7
  have q8 : aR (uI g t 0 (iI i)) t 9 = t + 11 := by rw [R_uI]; exact q9
  have kk8 : aK (uI g t 0 (iI i)) (t + 11) = 20 := by rw [K_uI]; exact kk
  have nn8 : aN (uI g t 0 (iI i)) (t + 11) = 5 := by rw [N_uI]; exact nn
  generalize uI g t 0 (iI i) = g8 at *
  have e := f_X9_init_70 5 0 FU g8 k8 q8 kk8 nn8 (fun i hi => absurd hi (Nat.not_lt_zero _)) (by omega) (by unfold FU; omega)
  rw [show ((0 : Nat) : Int) = 0 from rfl] at e
  exact e
theorem x9_walk {h : AH} {t i : Nat} (h0 : t ≠ 0) (hz : aZ h = t + 1) (hk : aK h t = 11) (hw : Wf h) (hc : aZ h + 11 ≤ aC h) (hu : aU h + 1066 ≤ gS) : Okp (p_X9_init t (iI i) h) (fun _ h' => ∃ g1 g2 g4 g5 g6 g7, X9c t i h g1 g2 g4 g5 g6 g7 h') := by
  have z0 := eq_false h0
  unfold p_X9_init p_X9_init_0
  simp only [z0, ne_eq, not_false_eq_true, ck_t]
  rw [ck_p ⟨by omega, by omega⟩, nm_q, ck_p (show ¬ aK (uN h 9 4) (aZ h) = 0 by rw [w_KN1]; decide)]
  refine ok_bR (ro_step (s := 1) (by omega) hw hk (by omega) (by omega)) ?_
  rintro _ h6 ⟨r1, rk⟩
  rw [ck_p rk, nm_q]
  generalize uR h6 t 1 (aZ h) = g1 at r1 ⊢
  have e1 : aZ g1 = t + 5 := by have := r1.1.2.1; omega
  have u1 : aU g1 = aU h + 454 := r1.1.2.2.1
  have c1 : aC g1 = aC h := r1.1.1.2.2.1
  have k1 : aK g1 t = 11 := (nst_lt r1.1 (q := t) (by omega)).1.trans hk
  clear rk
  have a2 := al_step (h := g1) (v0 := t) (K := 21) (N := 150) (s := 2) (by omega) r1.1.2.2.2 (by decide) (by omega)
  simp only [tn_150, tn_5]
  rw [ck_p ⟨⟨tp_150, by decide⟩, by omega, by omega⟩, nm_q, ck_p (show aK (uN g1 21 150) t = 11 by rw [w_KN2 (by omega)]; exact k1), nm_q]
  generalize uR (uN g1 21 150) t 2 (aZ g1) = g2 at a2 ⊢
  have e2 : aZ g2 = t + 6 := by have := a2.1.2.1; omega
  have u2 : aU g2 = aU h + 604 := by have := a2.1.2.2.1; omega
  have c2 : aC g2 = aC h := a2.1.1.2.2.1.trans c1
  have k2 : aK g2 t = 11 := (nst_lt a2.1 (q := t) (by omega)).1.trans k1
  clear e1 u1 c1 k1
  rw [ck_p k2, nm_q]
  have a3 := ui_step (h := g2) (v0 := t) (s := 4) (x := iI (-1)) a2.1.2.2.2
  rw [ck_p (show aK (uI g2 t 4 (iI (-1))) t = 11 from k2), nm_q]
  have a4 := ui_step (h := uI g2 t 4 (iI (-1))) (v0 := t) (s := 5) (x := iI (-1)) a3.1.2.2.2
  have n4 : Nst t g2 (uI (uI g2 t 4 (iI (-1))) t 5 (iI (-1))) 0 0 ∧ aR (uI (uI g2 t 4 (iI (-1))) t 5 (iI (-1))) t = aR g2 t ∧ aI (uI (uI g2 t 4 (iI (-1))) t 5 (iI (-1))) t 4 = iI (-1) ∧ aI (uI (uI g2 t 4 (iI (-1))) t 5 (iI (-1))) t 5 = iI (-1) ∧ ∀ j, j ≠ 4 → j ≠ 5 → aI (uI (uI g2 t 4 (iI (-1))) t 5 (iI (-1))) t j = aI g2 t j := ⟨nst_tr a3.1 a4.1, rfl, by rw [w_I3 (by decide), w_I1], w_I1 _ _ _ _, fun j j4 j5 => by rw [w_I3 j5, w_I3 j4]⟩
  have k4 : aK (uI (uI g2 t 4 (iI (-1))) t 5 (iI (-1))) t = 11 := k2
  clear a3 a4
  generalize uI (uI g2 t 4 (iI (-1))) t 5 (iI (-1)) = g4 at n4 k4 ⊢
  have e4 : aZ g4 = t + 6 := n4.1.2.1.trans e2
  have u4 : aU g4 = aU h + 604 := n4.1.2.2.1.trans u2
  have c4 : aC g4 = aC h := n4.1.1.2.2.1.trans c2
  clear e2 u2 c2 k2
  rw [ck_p ⟨by omega, by omega⟩, nm_q, ck_p (show ¬ aK (uN g4 9 4) (aZ g4) = 0 by rw [w_KN1]; decide)]
  refine ok_bR (ro_step (s := 7) (by omega) n4.1.2.2.2 k4 (by omega) (by omega)) ?_
  rintro _ h7 ⟨r5, rk5⟩
  rw [ck_p rk5, nm_q]
  generalize uR h7 t 7 (aZ g4) = g5 at r5 ⊢
  have e5 : aZ g5 = t + 10 := by have := r5.1.2.1; omega
  have u5 : aU g5 = aU h + 1058 := by have := r5.1.2.2.1; omega
  have c5 : aC g5 = aC h := r5.1.1.2.2.1.trans c4
  have k5 : aK g5 t = 11 := (nst_lt r5.1 (q := t) (by omega)).1.trans k4
  clear e4 u4 c4 k4 rk5
  have a6 := li_step (h := g5) (v0 := t) (s := 8) (by omega) r5.1.2.2.2 (by omega) (by omega)
  rw [ck_p ⟨by omega, by omega⟩, nm_q, ck_p (show ¬ aK (uN g5 1 3) (aZ g5) = 0 by rw [w_KN1]; decide), bR_e (f_listInit (h := uN g5 1 3) (l := aZ g5) (by omega) (w_KN1 g5 1 3))]
  have eE : aE (uN g5 1 3) = aE g5 := rfl
  rw [eE, ck_p (show aK (uR (uI (uN g5 1 3) (aZ g5) 0 (iI 0)) (aZ g5) 1 (aE g5)) t = 11 from (w_KN2 (h := g5) (K := 1) (n := 3) (by omega)).trans k5), nm_q]
  clear eE
  generalize uR (uR (uI (uN g5 1 3) (aZ g5) 0 (iI 0)) (aZ g5) 1 (aE g5)) t 8 (aZ g5) = g6 at a6 ⊢
  have e6 : aZ g6 = t + 11 := by have := a6.1.2.1; omega
  have u6 : aU g6 = aU h + 1061 := by have := a6.1.2.2.1; omega
  have c6 : aC g6 = aC h := a6.1.1.2.2.1.trans c5
  have k6 : aK g6 t = 11 := (nst_lt a6.1 (q := t) (by omega)).1.trans k5
  clear e5 u5 c5 k5
  have a7 := al_step (h := g6) (v0 := t) (K := 20) (N := 5) (s := 9) (by omega) a6.1.2.2.2 (by decide) (by omega)
  rw [ck_p ⟨⟨tp_5, by decide⟩, by omega, by omega⟩, nm_q, ck_p (show aK (uN g6 20 5) t = 11 by rw [w_KN2 (by omega)]; exact k6), nm_q]
  generalize uR (uN g6 20 5) t 9 (aZ g6) = g7 at a7 ⊢
  have k7 : aK g7 t = 11 := (nst_lt a7.1 (q := t) (by omega)).1.trans k6
  rw [ck_p k7, nm_q, nm_q]
  have q9 : aR g7 t 9 = t + 11 := a7.2.2.2.2.1.trans e6
  have kk : aK g7 (t + 11) = 20 := by have := a7.2.1; rw [e6] at this; exact this
  have nn : aN g7 (t + 11) = 5 := by have := a7.2.2.1; rw [e6] at this; exact this
  refine ok_to (x9_tail k7 q9 kk nn) ?_
  rintro _ h' ⟨y1, y2⟩
  exact ⟨g1, g2, g4, g5, g6, g7, r1, a2, n4, r5, a6, a7, y1, y2⟩
theorem x9_fin {h g1 g2 g4 g5 g6 g7 h' : AH} {t i : Nat} (h0 : t ≠ 0) (hz : aZ h = t + 1) (hk : aK h t = 11) (hi : ∀ j, aI h t j = 0) (X : X9c t i h g1 g2 g4 g5 g6 g7 h') : TxR h' t i T0 ∧ aR h' (t + 10) 1 = aE h' ∧ Nst t h h' 11 1066 := by
  obtain ⟨r1, a2, n4, r5, a6, a7, y1, y2⟩ := X
  have z1 : aZ g1 = t + 5 := by have := r1.1.2.1; omega
  have z2 : aZ g2 = t + 6 := by have := a2.1.2.1; omega
  have z4 : aZ g4 = t + 6 := n4.1.2.1.trans z2
  have z5 : aZ g5 = t + 10 := by have := r5.1.2.1; omega
  have z6 : aZ g6 = t + 11 := by have := a6.1.2.1; omega
  have z7 : aZ g7 = t + 12 := by have := a7.1.2.1; omega
  have zh : aZ h' = t + 12 := y2.2.2.2.2.1.trans z7
  have n8 : Nst t g7 (uI g7 t 0 (iI i)) 0 0 := (ui_step (s := 0) (x := iI i) a7.1.2.2.2).1
  have pp : Prs (fun q => q = t ∨ t + 11 ≤ q) (uI g7 t 0 (iI i)) h' := pr_mono (pi_pr y2) fun q _ z => by omega
  have p7 : Prs (fun q => q = t ∨ t + 11 ≤ q) g7 h' := pr_tr (pr_mono n8.1 fun q _ z => by omega) pp
  have p6 : Prs (fun q => q = t ∨ t + 11 ≤ q) g6 h' := pr_tr (pr_mono a7.1.1 fun q _ z => by omega) p7
  have p5 : Prs (fun q => q = t ∨ t + 10 ≤ q) g5 h' := pr_tr (pr_mono a6.1.1 fun q _ z => by omega) (pr_mono p6 fun q _ z => by omega)
  have p4 : Prs (fun q => q = t ∨ t + 6 ≤ q) g4 h' := pr_tr (pr_mono r5.1.1 fun q _ z => by omega) (pr_mono p5 fun q _ z => by omega)
  have p2 : Prs (fun q => q = t ∨ t + 6 ≤ q) g2 h' := pr_tr (pr_mono n4.1.1 fun q _ z => by omega) p4
  have p1 : Prs (fun q => q = t ∨ t + 5 ≤ q) g1 h' := pr_tr (pr_mono a2.1.1 fun q _ z => by omega) (pr_mono p2 fun q _ z => by omega)
  have p0 : Prs (fun q => q = t ∨ aZ h ≤ q) h h' := pr_tr r1.1.1 (pr_mono p1 fun q _ z => by omega)
  have eR : aR h' t = aR g7 t := by rw [y2.2.2.1]; rfl
  have q9 : aR h' t 9 = t + 11 := by rw [eR, a7.2.2.2.2.1, z6]
  have q8 : aR h' t 8 = t + 10 := by rw [eR, a7.2.2.2.2.2.1 8 (by decide), a6.2.2.2.1, z5]
  have q7 : aR h' t 7 = t + 6 := by rw [eR, a7.2.2.2.2.2.1 7 (by decide), a6.2.2.2.2.1 7 (by decide), r5.2.2.1, z4]
  have q2 : aR h' t 2 = t + 5 := by rw [eR, a7.2.2.2.2.2.1 2 (by decide), a6.2.2.2.2.1 2 (by decide), r5.2.2.2.1 2 (by decide), n4.2.1, a2.2.2.2.2.1, z1]
  have q1 : aR h' t 1 = t + 1 := by rw [eR, a7.2.2.2.2.2.1 1 (by decide), a6.2.2.2.2.1 1 (by decide), r5.2.2.2.1 1 (by decide), n4.2.1, a2.2.2.2.2.2.1 1 (by decide), r1.2.2.1, hz]
  have eI : ∀ j, j ≠ 0 → aI h' t j = aI g4 t j := fun j hj => by rw [pi_I y2 (show ¬ t = t + 11 by omega), w_I3 hj, a7.2.2.2.2.2.2, a6.2.2.2.2.2, r5.2.2.2.2]
  have eZ : ∀ j, j ≠ 0 → j ≠ 4 → j ≠ 5 → aI h' t j = 0 := fun j j0 j4 j5 => by rw [eI j j0, n4.2.2.2.2 j j4 j5, a2.2.2.2.2.2.2, r1.2.2.2.2]; exact hi j
  have e0 : aI h' t 0 = iI i := by rw [pi_I y2 (show ¬ t = t + 11 by omega), w_I1]
  have kt : aK h' t = 11 := (pr_K p0 (q := t) (by omega)).trans hk
  have k5 : aK h' (t + 5) = 21 := by have := a2.2.1; rw [z1] at this; rw [pr_K p2 (by omega)]; exact this
  have n5 : aN h' (t + 5) = 150 := by have := a2.2.2.1; rw [z1] at this; rw [pr_N p2 (by omega)]; exact this
  have k11 : aK h' (t + 11) = 20 := by have := a7.2.1; rw [z6] at this; rw [pr_K p7 (by omega)]; exact this
  have n11 : aN h' (t + 11) = 5 := by have := a7.2.2.1; rw [z6] at this; rw [pr_N p7 (by omega)]; exact this
  have rowA : RowR h' (t + 1) r0 := by have := r1.2.1; rw [hz] at this; exact rowR_pr this p1 (fun q w1 w2 => by omega)
  have rowB : RowR h' (t + 6) r0 := by have := r5.2.1; rw [z4] at this; exact rowR_pr this p5 (fun q w1 w2 => by omega)
  have li : LsR g6 (t + 10) [] := by have := a6.2.1; rw [z5] at this; exact this
  have la : aR g6 (t + 10) 1 = aE g5 := by have := a6.2.2.1; rw [z5] at this; exact this
  have lne : aR g6 (t + 10) 1 ≠ t := fun w => by
    have w1 := li.2.2.2.2.1
    have w2 := (nst_lt r1.1 (q := t) (by omega)).1
    have w3 := pr_K p0 (q := t) (by omega)
    have w4 := pr_K p6 (q := t) (by omega)
    rw [w] at w1
    omega
  have llt := li.2.2.2.2.2.2.1
  have lsD : LsR h' (t + 10) [] := ls_pr li p6 (by omega) (fun w => by omega)
  have rD : aR h' (t + 10) 1 = aE h' := by rw [pr_R p6 (by omega) (by omega), la, p5.2.1]
  have hu : aU h' = aU h + 1066 := by
    have y := y2.2.2.2.2.2.1
    have y7 : aU (uI g7 t 0 (iI i)) = aU g7 := rfl
    have w1 := r1.1.2.2.1
    have w2 := a2.1.2.2.1
    have w3 := n4.1.2.2.1
    have w4 := r5.1.2.2.1
    have w5 := a6.1.2.2.1
    have w6 := a7.1.2.2.1
    omega
  have t0 : (t = 0) = False := eq_false h0
  refine ⟨⟨⟨t0, kt, q1, q2, q7, q8, q9, k5, n5, k11, n11, by omega, rowB.1⟩, rowA, ⟨e0, eZ 3 (by decide) (by decide) (by decide), ?_, ?_, ?_, Nat.zero_le _, fun j hj => absurd hj (Nat.not_lt_zero _), y1, by decide, by decide⟩, ⟨[], lsD, rfl, fun i d hd => (by cases hd)⟩, ⟨⟨fun i j hi => absurd hi (Nat.not_lt_zero _), fun l hl => absurd hl (Nat.not_lt_zero _)⟩, rfl, fun j hj => ⟨(show (-1 : Int) ≤ -1 by decide), (show (-1 : Int) < ((0 : Nat) : Int) by decide)⟩⟩⟩, rD, p0, by omega, hu, wf_pi n8.2.2.2 y2⟩
  · rw [eI 4 (by decide)]; exact n4.2.2.1
  · rw [eI 5 (by decide)]; exact n4.2.2.2.1
  · rw [eZ 6 (by decide) (by decide) (by decide)]; exact j_0
theorem f_X9_init {h : AH} {t i : Nat} (h0 : t ≠ 0) (hz : aZ h = t + 1) (hk : aK h t = 11) (hi : ∀ j, aI h t j = 0) (hw : Wf h) (hc : aZ h + 11 ≤ aC h) (hu : aU h + 1066 ≤ gS) : Okp (p_X9_init t (iI i) h) (fun _ h' => TxR h' t i T0 ∧ aR h' (t + 10) 1 = aE h' ∧ Nst t h h' 11 1066) := by
  refine ok_to (x9_walk h0 hz hk hw hc hu) ?_
  rintro _ h' ⟨g1, g2, g4, g5, g6, g7, X⟩
  exact x9_fin h0 hz hk hi X

