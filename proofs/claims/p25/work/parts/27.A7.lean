
/-! ===== neighbours ===== -/
def NbK (h : AH) (b : Nat) : Prop := (b = 0) = False ∧ aK h b = 7 ∧ aR h b 0 = b + 1 ∧ aR h b 1 = b + 2 ∧ aR h b 2 = b + 3 ∧ aK h (b + 1) = 22 ∧ aN h (b + 1) = 150 ∧ aK h (b + 2) = 20 ∧ aN h (b + 2) = 150 ∧ aK h (b + 3) = 20 ∧ aN h (b + 3) = 150 ∧ b + 3 < aZ h
def NbG (h : AH) (b : Nat) (g : Nat → Bool) : Prop := ∀ i, i < 150 → aI h (b + 1) i = bI (g i)
/-- spots whose letters are there and not to go -/
def gf (R : Rw) (g : Nat → Bool) (i : Nat) : Bool := rf R i && !g (ro R i)
def nA (R : Rw) (g : Nat → Bool) (i : Nat) : Int := if qpv (gf R g) i = 0 then -1 else (ro R (qpv (gf R g) i - 1) : Int)
def nB (R : Rw) (g : Nat → Bool) (i : Nat) : Int := rl R (qfd (gf R g) (rn R - i) i)
/-- every letter has one spot -/
def RwP (R : Rw) : Prop := (∀ i j, i < rn R → j < rn R → ro R i = ro R j → i = j) ∧ ∀ l, l < rn R → ∃ i, i < rn R ∧ ro R i = l
theorem nbK_pi {S : Nat → Prop} {h h' : AH} {b : Nat} (hk : NbK h b) (x : Pi S h h') : NbK h' b := by
  obtain ⟨x1, x2, x3, x4, x5, x6, x7, x8, x9, x10⟩ := x
  unfold NbK at hk ⊢
  rw [x1, x2, x3, x5]
  exact hk
theorem nbK_pr {S : Nat → Prop} {h h' : AH} {a : Nat} (hk : NbK h a) (x : Prs S h h') (hs : ¬ S a) : NbK h' a := by
  obtain ⟨a0, k0, k1, k2, k3, k4, k5, k6, k7, k8, k9, k10⟩ := hk
  have := x.1
  have e := pr_R x (q := a) (by omega) hs
  refine ⟨a0, ?_, ?_, ?_, ?_, ?_, ?_, ?_, ?_, ?_, ?_, by omega⟩
  · rw [pr_K x (by omega), k0]
  · rw [e, k1]
  · rw [e, k2]
  · rw [e, k3]
  · rw [pr_K x (by omega), k4]
  · rw [pr_N x (by omega), k5]
  · rw [pr_K x (by omega), k6]
  · rw [pr_N x (by omega), k7]
  · rw [pr_K x (by omega), k8]
  · rw [pr_N x (by omega), k9]
theorem f_X5_forget_2 {b : Nat} : ∀ (k i n : Nat) (h : AH), NbK h b → i + k = 150 → k < n → (∀ j, j < i → aI h (b + 1) j = bI false) → Okp (p_X5_forgetGoing_2 n b (iI i) h) (fun _ h' => NbG h' b (fun _ => false) ∧ Pi (fun q => q = b + 1) h h') := by
  intro k
  induction k with
  | zero =>
    intro i n h hk hik hn hj
    obtain ⟨n, rfl⟩ : ∃ m, n = m + 1 := ⟨n - 1, by omega⟩
    obtain ⟨a0, k0, k1, k2, k3, k4, k5, k6, k7, k8, k9, k10⟩ := hk
    unfold p_X5_forgetGoing_2
    simp (disch := omega) only [ck_t, nm_q, bR_s, j_add, j_sub, j_mul, j_nI, j_0, j_le, j_lt, j_eq, j_nat, j_ixe, bI_0, and_self, and_true, true_and, ne_eq, not_false_eq_true, not_true_eq_false, ite_true, ite_false, if_true, if_false, ck_p z_0, ck_p z_1]
    rw [if_pos (by omega)]
    exact ok_some ⟨fun j hj2 => hj j (by omega), pi_rf⟩
  | succ k ih =>
    intro i n h hk hik hn hj
    obtain ⟨n, rfl⟩ : ∃ m, n = m + 1 := ⟨n - 1, by omega⟩
    have hk' := hk
    obtain ⟨a0, k0, k1, k2, k3, k4, k5, k6, k7, k8, k9, k10⟩ := hk
    unfold p_X5_forgetGoing_2
    simp (disch := omega) only [ck_t, nm_q, bR_s, j_add, j_sub, j_mul, j_nI, j_0, j_le, j_lt, j_eq, j_nat, j_ixe, bI_0, and_self, and_true, true_and, ne_eq, not_false_eq_true, not_true_eq_false, ite_true, ite_false, if_true, if_false, ck_p z_0, ck_p z_1, k0, k1, k4, k5, Int.toNat_natCast, j_z0]
    rw [if_neg (by omega), ck_p (by omega)]
    have p1 : Pi (fun q => q = b + 1) h (uI h (b + 1) i (bI false)) := pi_uI rfl
    refine ok_to (ih (i + 1) n (uI h (b + 1) i (bI false)) (nbK_pi hk' p1) (by omega) (by omega) ?_) (fun _ h1 hr => ⟨hr.1, pi_tr p1 hr.2⟩)
    intro j hj2
    by_cases c : j = i
    · subst c; exact w_I1 _ _ _ _
    · rw [w_I3 c]; exact hj j (by omega)
theorem f_X5_forget {h : AH} {b : Nat} (hk : NbK h b) : Okp (p_X5_forgetGoing b h) (fun _ h' => NbG h' b (fun _ => false) ∧ Pi (fun q => q = b + 1) h h') := by
  have e := f_X5_forget_2 150 0 FU h hk rfl (by unfold FU; omega) (fun j hj => absurd hj (Nat.not_lt_zero _))
  obtain ⟨a0, k0, k1, k2, k3, k4, k5, k6, k7, k8, k9, k10⟩ := hk
  unfold p_X5_forgetGoing p_X5_forgetGoing_0
  simp (disch := omega) only [ck_t, nm_q, bR_s, j_add, j_sub, j_mul, j_nI, j_0, j_le, j_lt, j_eq, j_nat, j_ixe, bI_0, and_self, and_true, true_and, ne_eq, not_false_eq_true, not_true_eq_false, ite_true, ite_false, if_true, if_false, ck_p z_0, ck_p z_1, a0]
  exact e
theorem f_X5_isLetter {h : AH} {l : Nat} (hl : l < 150) : p_X5_isLetter (iI l) h = some (bI true, h) := by
  unfold p_X5_isLetter p_X5_isLetter_0 p_X5_isLetter_16
  simp (disch := omega) only [ck_t, nm_q, bR_s, j_add, j_sub, j_mul, j_nI, j_0, j_le, j_lt, j_eq, j_nat, j_ixe, bI_0, and_self, and_true, true_and, ne_eq, not_false_eq_true, not_true_eq_false, ite_true, ite_false, if_true, if_false, ck_p z_0, ck_p z_1]
  rw [if_neg (by omega), if_neg (by omega)]
  rfl
theorem f_X5_mark {h : AH} {b l : Nat} {g : Nat → Bool} (hk : NbK h b) (hg : NbG h b g) (hl : l < 150) : Okp (p_X5_markGoing b (iI l) h) (fun _ h' => NbG h' b (fun x => if x = l then true else g x) ∧ Pi (fun q => q = b + 1) h h') := by
  have e1 := f_X5_isLetter (h := h) hl
  obtain ⟨a0, k0, k1, k2, k3, k4, k5, k6, k7, k8, k9, k10⟩ := hk
  unfold p_X5_markGoing p_X5_markGoing_0 p_X5_markGoing_14
  simp (disch := omega) only [ck_t, nm_q, bR_s, j_add, j_sub, j_mul, j_nI, j_0, j_le, j_lt, j_eq, j_nat, j_ixe, bI_0, and_self, and_true, true_and, ne_eq, not_false_eq_true, not_true_eq_false, ite_true, ite_false, if_true, if_false, ck_p z_0, ck_p z_1, a0, e1, k0, k1, k4, k5, j_z1, Int.toNat_natCast]
  rw [if_neg (by decide), ck_p (by omega)]
  refine ok_some ⟨fun i hi => ?_, pi_uI rfl⟩
  show _ = bI (if i = l then true else g i)
  by_cases c : i = l
  · rw [if_pos c, c, w_I1]
  · rw [if_neg c, w_I3 c]; exact hg i hi
theorem f_X5_pass {h : AH} {a b s l : Nat} {R : Rw} {g : Nat → Bool} {z : Int} (hr : RowR h a R) (hk : NbK h b) (hg : NbG h b g) (hl : l < rn R) (hs : s = b + 2 ∨ s = b + 3) (hab : b + 3 < a ∨ a + 3 < b) :
    p_X5_pass b a (iI l) (iI z) s h = some (iI (if rt R l && !g l then (l : Int) else z), uI h s l (iI z)) := by
  have hn150 := hr.2.2.1
  have e1 := f_X5_isLetter (h := h) (l := l) (by omega)
  obtain ⟨a0, k0, k1, k2, k3, k4, k5, k6, k7, k8, k9, k10⟩ := hk
  have p1 : Pi (fun q => q = s) h (uI h s l (iI z)) := pi_uI rfl
  have hr2 : RowR (uI h s l (iI z)) a R := rowR_pr hr (pi_pr p1) (fun q h1 h2 => by omega)
  have e2 := f_X7_shows hr2 (z := l) (by omega) (by omega)
  have e3 : rshow R l = rt R l := by
    unfold rshow rhas
    rw [decide_eq_true (by omega)]; rfl
  rw [e3] at e2
  have ka : aK h a = 9 := hr.1.2.1
  have ae := hr.1.1
  have se : (s = 0) = False := eq_false (by omega)
  have ks : aK h s = 20 := by rcases hs with rfl | rfl <;> assumption
  have ns : aN h s = 150 := by rcases hs with rfl | rfl <;> assumption
  unfold p_X5_pass p_X5_pass_0 p_X5_pass_14 p_X5_pass_42 p_X5_pass_43
  simp (disch := omega) only [ck_t, nm_q, bR_s, j_add, j_sub, j_mul, j_nI, j_0, j_le, j_lt, j_eq, j_nat, j_ixe, bI_0, and_self, and_true, true_and, ne_eq, not_false_eq_true, not_true_eq_false, ite_true, ite_false, if_true, if_false, ck_p z_0, ck_p z_1, a0, ae, se, e1, ks, ns, ka, k0, k1, k4, k5, e2, K_uI, N_uI, R_uI, Int.toNat_natCast, w_I2]
  rw [if_neg (by decide), if_pos (by omega), ck_p (by omega), hg l (by omega)]
  simp (disch := omega) only [ck_t, nm_q, bR_s, j_add, j_sub, j_mul, j_nI, j_0, j_le, j_lt, j_eq, j_nat, j_ixe, bI_0, and_self, and_true, true_and, ne_eq, not_false_eq_true, not_true_eq_false, ite_true, ite_false, if_true, if_false, ck_p z_0, ck_p z_1, e2]
  cases rt R l
  · rfl
  · rw [if_neg (by decide), ck_p (by omega)]
    cases g l
    · rfl
    · rfl

