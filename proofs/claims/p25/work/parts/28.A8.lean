
theorem nA_s (R : Rw) (g : Nat → Bool) (i : Nat) : nA R g (i + 1) = if gf R g i then (ro R i : Int) else nA R g i := by
  unfold nA
  rw [show qpv (gf R g) (i + 1) = if gf R g i then i + 1 else qpv (gf R g) i from rfl]
  by_cases c : gf R g i = true
  · rw [if_pos c, if_pos c, if_neg (by omega), Nat.add_sub_cancel]
  · rw [if_neg c, if_neg c]
theorem nB_s (R : Rw) (g : Nat → Bool) {i : Nat} (hi : i < rn R) : nB R g i = if gf R g i then (ro R i : Int) else nB R g (i + 1) := by
  unfold nB
  rw [show rn R - i = (rn R - (i + 1)) + 1 by omega, show qfd (gf R g) (rn R - (i + 1) + 1) i = if gf R g i then i else qfd (gf R g) (rn R - (i + 1)) (i + 1) from rfl]
  by_cases c : gf R g i = true
  · rw [if_pos c, if_pos c]; unfold rl; rw [if_pos hi]
  · rw [if_neg c, if_neg c]
theorem nA_rg {h : AH} {a : Nat} {R : Rw} (hr : RowR h a R) (g : Nat → Bool) {i : Nat} (hi : i ≤ rn R) : -1 ≤ nA R g i ∧ nA R g i < 150 := by
  unfold nA
  have h1 := qpv_le (gf R g) i
  split
  · omega
  · have := (hr.2.2.2 (qpv (gf R g) i - 1) (by omega)).2.1; have := hr.2.2.1; omega
theorem rl_rg {h : AH} {a : Nat} {R : Rw} (hr : RowR h a R) (i : Nat) : -1 ≤ rl R i ∧ rl R i < rn R := by
  unfold rl
  split
  · have := (hr.2.2.2 i (by assumption)).2.1; omega
  · omega
theorem f_X5_find_43 {a b : Nat} {R : Rw} {g : Nat → Bool} (hab : b + 3 < a ∨ a + 3 < b) (hinj : ∀ i j, i < rn R → j < rn R → ro R i = ro R j → i = j) : ∀ (k n : Nat) (h : AH) (z : Int), z = (k : Int) - 1 → RowR h a R → NbK h b → NbG h b g → k ≤ rn R → k < n → (∀ j, k ≤ j → j < rn R → aI h (b + 3) (ro R j) = iI (nB R g (j + 1))) →
    Okp (p_X5_find_43 n b a (iI (nB R g k)) (iI z) h) (fun _ h' => (∀ j, j < rn R → aI h' (b + 3) (ro R j) = iI (nB R g (j + 1))) ∧ Pi (fun q => q = b + 3) h h') := by
  intro k
  induction k with
  | zero =>
    intro n h z ez hr hk hg hkn hn hj
    obtain ⟨n, rfl⟩ : ∃ m, n = m + 1 := ⟨n - 1, by omega⟩
    unfold p_X5_find_43
    simp (disch := omega) only [ck_t, nm_q, bR_s, j_add, j_sub, j_mul, j_nI, j_0, j_le, j_lt, j_eq, j_nat, j_ixe, bI_0, and_self, and_true, true_and, ne_eq, not_false_eq_true, not_true_eq_false, ite_true, ite_false, if_true, if_false, ck_p z_0, ck_p z_1]
    rw [if_pos (by omega)]
    exact ok_some ⟨fun j h1 => hj j (Nat.zero_le _) h1, pi_rf⟩
  | succ k ih =>
    intro n h z ez hr hk hg hkn hn hj
    obtain ⟨n, rfl⟩ : ∃ m, n = m + 1 := ⟨n - 1, by omega⟩
    have e0 : z = (k : Int) := by omega
    subst e0
    have hn150 := hr.2.2.1
    have e1 := f_X7_letterAt hr (z := k) (by omega) (by omega)
    rw [rlet_in (by omega)] at e1
    have hz := (hr.2.2.2 k (by omega)).2.1
    have e2 := f_X5_pass (z := nB R g (k + 1)) (s := b + 3) hr hk hg hz (Or.inr rfl) hab
    rw [show (if rt R (ro R k) && !g (ro R k) then (ro R k : Int) else nB R g (k + 1)) = nB R g k from (nB_s R g (i := k) (by omega)).symm] at e2
    have p1 : Pi (fun q => q = b + 3) h (uI h (b + 3) (ro R k) (iI (nB R g (k + 1)))) := pi_uI rfl
    have hk' := hk
    obtain ⟨a0, k0, k1, k2, k3, k4, k5, k6, k7, k8, k9, k10⟩ := hk
    have ka : aK h a = 9 := hr.1.2.1
    unfold p_X5_find_43
    simp (disch := omega) only [ck_t, nm_q, bR_s, j_add, j_sub, j_mul, j_nI, j_0, j_le, j_lt, j_eq, j_nat, j_ixe, bI_0, and_self, and_true, true_and, ne_eq, not_false_eq_true, not_true_eq_false, ite_true, ite_false, if_true, if_false, ck_p z_0, ck_p z_1, ka, k0, e1, k3, e2]
    rw [if_neg (by omega)]
    refine ok_to (ih n _ _ (by omega) (rowR_pr hr (pi_pr p1) (fun q h1 h2 => by omega)) (nbK_pi hk' p1) (fun i hi => ?_) (by omega) (by omega) ?_) (fun _ h1 q => ⟨q.1, pi_tr p1 q.2⟩)
    · rw [w_I2 (by omega)]; exact hg i hi
    · intro j h1 h2
      by_cases c : j = k
      · subst c; exact w_I1 _ _ _ _
      · rw [w_I3 fun z => c (hinj j k h2 (by omega) z)]
        exact hj j (by omega) h2
theorem f_X5_find_4 {a b : Nat} {R : Rw} {g : Nat → Bool} (hab : b + 3 < a ∨ a + 3 < b) (hinj : ∀ i j, i < rn R → j < rn R → ro R i = ro R j → i = j) : ∀ (k i n : Nat) (h : AH), RowR h a R → NbK h b → NbG h b g → i + k = rn R → k < n → (∀ j, j < i → aI h (b + 2) (ro R j) = iI (nA R g j)) →
    Okp (p_X5_find_4 n b a (iI (nA R g i)) (iI i) h) (fun _ h' => (∀ j, j < rn R → aI h' (b + 2) (ro R j) = iI (nA R g j) ∧ aI h' (b + 3) (ro R j) = iI (nB R g (j + 1))) ∧ Pi (fun q => q = b + 2 ∨ q = b + 3) h h') := by
  intro k
  induction k with
  | zero =>
    intro i n h hr hk hg hkn hn hj
    obtain ⟨n, rfl⟩ : ∃ m, n = m + 1 := ⟨n - 1, by omega⟩
    have hn150 := hr.2.2.1
    have e1 := f_X7_count hr
    have ka : aK h a = 9 := hr.1.2.1
    have e3 := f_X5_find_43 hab hinj (rn R) FU h _ rfl hr hk hg (Nat.le_refl _) (by unfold FU; omega) (fun j h1 h2 => by omega)
    rw [show nB R g (rn R) = -1 by unfold nB; rw [Nat.sub_self]; show rl R (rn R) = -1; unfold rl; rw [if_neg (by omega)]] at e3
    unfold p_X5_find_4
    simp (disch := omega) only [ck_t, nm_q, bR_s, j_add, j_sub, j_mul, j_nI, j_0, j_le, j_lt, j_eq, j_nat, j_ixe, bI_0, and_self, and_true, true_and, ne_eq, not_false_eq_true, not_true_eq_false, ite_true, ite_false, if_true, if_false, ck_p z_0, ck_p z_1, ka, e1]
    rw [if_pos (by omega)]
    refine ok_to e3 ?_
    rintro _ h' ⟨q1, q2⟩
    refine ⟨fun j h1 => ⟨?_, q1 j h1⟩, pi_mono q2 fun q z => Or.inr z⟩
    rw [pi_I q2 (by omega)]
    exact hj j (by omega)
  | succ k ih =>
    intro i n h hr hk hg hkn hn hj
    obtain ⟨n, rfl⟩ : ∃ m, n = m + 1 := ⟨n - 1, by omega⟩
    have hn150 := hr.2.2.1
    have e0 := f_X7_count hr
    have e1 := f_X7_letterAt hr (z := i) (by omega) (by omega)
    rw [rlet_in (by omega)] at e1
    have hz := (hr.2.2.2 i (by omega)).2.1
    have e2 := f_X5_pass (z := nA R g i) (s := b + 2) hr hk hg hz (Or.inl rfl) hab
    rw [show (if rt R (ro R i) && !g (ro R i) then (ro R i : Int) else nA R g i) = nA R g (i + 1) from (nA_s R g i).symm] at e2
    have p1 : Pi (fun q => q = b + 2 ∨ q = b + 3) h (uI h (b + 2) (ro R i) (iI (nA R g i))) := pi_uI (Or.inl rfl)
    have hk' := hk
    obtain ⟨a0, k0, k1, k2, k3, k4, k5, k6, k7, k8, k9, k10⟩ := hk
    have ka : aK h a = 9 := hr.1.2.1
    unfold p_X5_find_4
    simp (disch := omega) only [ck_t, nm_q, bR_s, j_add, j_sub, j_mul, j_nI, j_0, j_le, j_lt, j_eq, j_nat, j_ixe, bI_0, and_self, and_true, true_and, ne_eq, not_false_eq_true, not_true_eq_false, ite_true, ite_false, if_true, if_false, ck_p z_0, ck_p z_1, ka, k0, e0, e1, k2, e2]
    rw [if_neg (by omega)]
    refine ok_to (ih (i + 1) n _ (rowR_pr hr (pi_pr p1) (fun q h1 h2 => by omega)) (nbK_pi hk' p1) (fun i hi => ?_) (by omega) (by omega) ?_) (fun _ h1 q => ⟨q.1, pi_tr p1 q.2⟩)
    · rw [w_I2 (by omega)]; exact hg i hi
    · intro j h1
      by_cases c : j = i
      · subst c; exact w_I1 _ _ _ _
      · rw [w_I3 fun z => c (hinj j i (by omega) (by omega) z)]
        exact hj j (by omega)
theorem f_X5_find {h : AH} {a b : Nat} {R : Rw} {g : Nat → Bool} (hab : b + 3 < a ∨ a + 3 < b) (hP : RwP R) (hr : RowR h a R) (hk : NbK h b) (hg : NbG h b g) :
    Okp (p_X5_find b a h) (fun _ h' => (∀ j, j < rn R → aI h' (b + 2) (ro R j) = iI (nA R g j) ∧ aI h' (b + 3) (ro R j) = iI (nB R g (j + 1))) ∧ Pi (fun q => q = b + 2 ∨ q = b + 3) h h') := by
  have e := f_X5_find_4 hab hP.1 (rn R) 0 FU h hr hk hg (by omega) (by have := hr.2.2.1; unfold FU; omega) (fun j hj => absurd hj (Nat.not_lt_zero _))
  have a0 := hk.1
  have a1 := hr.1.1
  unfold p_X5_find p_X5_find_0
  simp (disch := omega) only [ck_t, nm_q, bR_s, j_add, j_sub, j_mul, j_nI, j_0, j_le, j_lt, j_eq, j_nat, j_ixe, bI_0, and_self, and_true, true_and, ne_eq, not_false_eq_true, not_true_eq_false, ite_true, ite_false, if_true, if_false, ck_p z_0, ck_p z_1, a0, a1]
  exact e
theorem f_X5_aheadOf {h : AH} {b l : Nat} {z : Int} (hk : NbK h b) (hl : l < 150) (e : aI h (b + 2) l = iI z) : p_X5_aheadOf b (iI l) h = some (iI z, h) := by
  have e1 := f_X5_isLetter (h := h) hl
  obtain ⟨a0, k0, k1, k2, k3, k4, k5, k6, k7, k8, k9, k10⟩ := hk
  unfold p_X5_aheadOf p_X5_aheadOf_0 p_X5_aheadOf_17
  simp (disch := omega) only [ck_t, nm_q, bR_s, j_add, j_sub, j_mul, j_nI, j_0, j_le, j_lt, j_eq, j_nat, j_ixe, bI_0, and_self, and_true, true_and, ne_eq, not_false_eq_true, not_true_eq_false, ite_true, ite_false, if_true, if_false, ck_p z_0, ck_p z_1, a0, e1, k0, k2, k6, k7, Int.toNat_natCast]
  rw [if_neg (by decide), ck_p (by omega), e]
theorem f_X5_behindOf {h : AH} {b l : Nat} {z : Int} (hk : NbK h b) (hl : l < 150) (e : aI h (b + 3) l = iI z) : p_X5_behindOf b (iI l) h = some (iI z, h) := by
  have e1 := f_X5_isLetter (h := h) hl
  obtain ⟨a0, k0, k1, k2, k3, k4, k5, k6, k7, k8, k9, k10⟩ := hk
  unfold p_X5_behindOf p_X5_behindOf_0 p_X5_behindOf_17
  simp (disch := omega) only [ck_t, nm_q, bR_s, j_add, j_sub, j_mul, j_nI, j_0, j_le, j_lt, j_eq, j_nat, j_ixe, bI_0, and_self, and_true, true_and, ne_eq, not_false_eq_true, not_true_eq_false, ite_true, ite_false, if_true, if_false, ck_p z_0, ck_p z_1, a0, e1, k0, k3, k8, k9, Int.toNat_natCast]
  rw [if_neg (by decide), ck_p (by omega), e]

