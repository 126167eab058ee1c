
/-! ===== a row is changed ===== -/
def rput (R : Rw) (s : Nat) (c : Int) : Rw := (rn R + 1, fun i => if i < s then ro R i else if i = s then rn R else ro R (i - 1), fun l => if l = rn R then c else rs R l, fun l => if l = rn R then true else rt R l)
def rsetT (R : Rw) (l : Nat) (b : Bool) : Rw := (rn R, ro R, rs R, fun x => if x = l then b else rt R x)
def rsetS (R : Rw) (l : Nat) (c : Int) : Rw := (rn R, ro R, fun x => if x = l then c else rs R x, rt R)
def r0 : Rw := (0, fun _ => 0, fun _ => 0, fun _ => false)
def rS (a q : Nat) : Prop := a ≤ q ∧ q ≤ a + 3
theorem rowK_pi {S : Nat → Prop} {h h' : AH} {a : Nat} (hk : RowK h a) (x : Pi S h h') : RowK h' a := by
  obtain ⟨x1, x2, x3, x4, x5, x6, x7, x8, x9, x10⟩ := x
  unfold RowK at hk ⊢
  rw [x1, x2, x3, x5]
  exact hk
theorem rowK_pr {S : Nat → Prop} {h h' : AH} {a : Nat} (hk : RowK h a) (x : Prs S h h') (hs : ¬ S a) : RowK h' a := by
  obtain ⟨a0, k0, k1, k2, k3, k4, k5, k6, k7, k8, k9, k10⟩ := hk
  have := x.1
  have e := pr_R x (q := a) (by omega) hs
  refine ⟨a0, ?_, ?_, ?_, ?_, ?_, ?_, ?_, ?_, ?_, ?_, by omega⟩
  · rw [pr_K x (by omega), k0]
  · rw [e, k1]
  · rw [e, k2]
  · rw [e, k3]
  · rw [pr_K x (by omega), k4]
  · rw [pr_N x (by omega), k5]
  · rw [pr_K x (by omega), k6]
  · rw [pr_N x (by omega), k7]
  · rw [pr_K x (by omega), k8]
  · rw [pr_N x (by omega), k9]
theorem rowR_pr {S : Nat → Prop} {h h' : AH} {a : Nat} {R : Rw} (hr : RowR h a R) (x : Prs S h h') (hs : ∀ q, a ≤ q → q ≤ a + 3 → ¬ S q) : RowR h' a R := by
  obtain ⟨hk, hn, hn2, hi⟩ := hr
  have hz := hk.2.2.2.2.2.2.2.2.2.2.2
  refine ⟨rowK_pr hk x (hs a (by omega) (by omega)), ?_, hn2, fun i hj => ?_⟩
  · rw [pr_I x (by omega) (hs a (by omega) (by omega)), hn]
  · rw [pr_I x (q := a + 1) (by omega) (hs _ (by omega) (by omega)), pr_I x (q := a + 2) (by omega) (hs _ (by omega) (by omega)), pr_I x (q := a + 3) (by omega) (hs _ (by omega) (by omega))]
    exact hi i hj
theorem f_X7_put {h : AH} {a : Nat} {R : Rw} (hr : RowR h a R) {s : Nat} {c : Int} (hs : s ≤ rn R) (hf : rn R < 150) (hc1 : 0 ≤ c) (hc2 : c ≤ 65535) : Okp (p_X7_put a (iI s) (iI c) h) (fun _ h' => RowR h' a (rput R s c) ∧ Pi (rS a) h h') := by
  have e1 := f_X7_isFull hr
  rw [decide_eq_false (by omega)] at e1
  have hr' := hr
  obtain ⟨⟨a0, k0, k1, k2, k3, k4, k5, k6, k7, k8, k9, k10⟩, hn, hn2, hi⟩ := hr
  unfold p_X7_put p_X7_put_0 p_X7_put_19
  simp (disch := omega) only [ck_t, nm_q, bR_s, j_add, j_sub, j_mul, j_nI, j_0, j_le, j_lt, j_eq, j_nat, j_ixe, bI_0, and_self, and_true, true_and, ne_eq, not_false_eq_true, not_true_eq_false, ite_true, ite_false, if_true, if_false, ck_p z_0, ck_p z_1, a0, k0, k1, k2, k3, k4, k5, k6, k7, k8, k9, hn, e1]
  rw [if_neg (by omega), if_pos (by omega), ck_p ⟨by omega, ⟨k4, k4⟩, by rw [k5]; omega, by rw [k5]; omega, by rw [k5]; omega⟩]
  generalize hg : uCI h (a + 1) (s : Int).toNat (a + 1) ((s : Int) + 1).toNat ((rn R : Int) - s).toNat = h1
  have g1 : aK h1 = aK h := by rw [← hg]; rfl
  have g2 : aN h1 = aN h := by rw [← hg]; rfl
  have g3 : aR h1 = aR h := by rw [← hg]; rfl
  have g4 : Pi (rS a) h h1 := by
    rw [← hg]
    refine ⟨rfl, rfl, rfl, rfl, rfl, rfl, rfl, rfl, rfl, fun q hq => ?_⟩
    funext j
    refine if_neg fun z => hq ?_
    rw [z.1]
    exact ⟨by omega, by omega⟩
  have g5 : ∀ j, aI h1 (a + 1) j = if s + 1 ≤ j ∧ j < rn R + 1 then aI h (a + 1) (j - 1) else aI h (a + 1) j := by
    intro j
    rw [← hg]
    show (if _ then _ else _) = _
    by_cases hj : s + 1 ≤ j ∧ j < rn R + 1
    · rw [if_pos hj, if_pos ⟨rfl, by omega, by omega⟩, show (s : Int).toNat + (j - ((s : Int) + 1).toNat) = j - 1 by omega]
    · rw [if_neg hj, if_neg fun z => hj ⟨by omega, by omega⟩]
  have g6 : ∀ q, q ≠ a + 1 → aI h1 q = aI h q := by
    intro q hq
    rw [← hg]
    funext j
    exact if_neg fun z => hq z.1
  simp (disch := omega) only [ck_t, nm_q, bR_s, j_add, j_sub, j_mul, j_nI, j_0, j_le, j_lt, j_eq, j_nat, j_ixe, bI_0, and_self, and_true, true_and, ne_eq, not_false_eq_true, not_true_eq_false, ite_true, ite_false, if_true, if_false, ck_p z_0, ck_p z_1, K_uI, N_uI, R_uI, w_I1, w_I2, g1, g2, g3, a0, k0, k1, k2, k3, k4, k5, k6, k7, k8, k9, hn, g6, j_nC, j_z1, Int.toNat_natCast, Nat.reduceLT]
  rw [ck_p (by omega), ck_p (by omega), ck_p (by omega)]
  refine ok_some ⟨⟨?_, ?_, ?_, fun i hj => ?_⟩, ?_⟩
  · unfold RowK
    simp only [K_uI, N_uI, R_uI, Z_uI, g1, g2, g3, g4.2.2.2.2.1, k0, k1, k2, k3, k4, k5, k6, k7, k8, k9, a0, true_and, k10]
  · rw [w_I1]; rfl
  · show rn R + 1 ≤ 150
    omega
  · have hj' : i < rn R + 1 := hj
    have ho : (if i < s then ro R i else if i = s then rn R else ro R (i - 1)) < rn R + 1 := by
      split
      · have := (hi i (by omega)).2.1; omega
      · split
        · omega
        · have := (hi (i - 1) (by omega)).2.1; omega
    refine ⟨?_, ho, ?_, ?_, ?_, ?_⟩
    · simp (disch := omega) only [w_I2]
      show _ = iI ((if i < s then ro R i else if i = s then rn R else ro R (i - 1) : Nat) : Int)
      by_cases c1 : i = s
      · rw [if_neg (by omega), if_pos c1, c1, w_I1]
      · rw [w_I3 c1, g5]
        by_cases c2 : i < s
        · rw [if_neg (by omega), if_pos c2]; exact (hi i (by omega)).1
        · rw [if_pos (by omega), if_neg c2, if_neg c1]; exact (hi (i - 1) (by omega)).1
    · simp (disch := omega) only [w_I2]
      show _ = iI (if i = rn R then c else rs R i)
      by_cases c1 : i = rn R
      · rw [if_pos c1, c1, w_I1]
      · rw [if_neg c1, w_I3 c1]
        simp (disch := omega) only [w_I2, g6]
        exact (hi i (by omega)).2.2.1
    · show 0 ≤ (if i = rn R then c else rs R i)
      by_cases c1 : i = rn R
      · rw [if_pos c1]; exact hc1
      · rw [if_neg c1]; exact (hi i (by omega)).2.2.2.1
    · show (if i = rn R then c else rs R i) ≤ 65535
      by_cases c1 : i = rn R
      · rw [if_pos c1]; exact hc2
      · rw [if_neg c1]; exact (hi i (by omega)).2.2.2.2.1
    · simp (disch := omega) only [w_I2]
      show _ = bI (if i = rn R then true else rt R i)
      by_cases c1 : i = rn R
      · rw [if_pos c1, c1, w_I1]
      · rw [if_neg c1, w_I3 c1]
        simp (disch := omega) only [w_I2, g6]
        exact (hi i (by omega)).2.2.2.2.2
  · refine pi_tr g4 (pi_tr (pi_uI ⟨by omega, by omega⟩) (pi_tr (pi_uI ⟨by omega, by omega⟩) (pi_tr (pi_uI ⟨by omega, by omega⟩) (pi_uI ⟨by omega, by omega⟩))))
theorem f_X7_setThere {h : AH} {a : Nat} {R : Rw} (hr : RowR h a R) {l : Nat} (hl : l < rn R) (b : Bool) : Okp (p_X7_setThere a (iI l) (bI b) h) (fun _ h' => RowR h' a (rsetT R l b) ∧ Pi (rS a) h h') := by
  have e1 := f_X7_has hr (z := l) (by omega) (by have := hr.2.2.1; omega)
  have hr' := hr
  obtain ⟨⟨a0, k0, k1, k2, k3, k4, k5, k6, k7, k8, k9, k10⟩, hn, hn2, hi⟩ := hr
  rw [show rhas R l = true from decide_eq_true (by omega)] at e1
  unfold p_X7_setThere p_X7_setThere_0 p_X7_setThere_15
  simp (disch := omega) only [ck_t, nm_q, bR_s, j_add, j_sub, j_mul, j_nI, j_0, j_le, j_lt, j_eq, j_nat, j_ixe, bI_0, and_self, and_true, true_and, ne_eq, not_false_eq_true, not_true_eq_false, ite_true, ite_false, if_true, if_false, ck_p z_0, ck_p z_1, a0, k0, k1, k2, k3, k4, k5, k6, k7, k8, k9, hn, e1, j_zb, Int.toNat_natCast]
  rw [if_neg (by decide), ck_p (by omega)]
  refine ok_some ⟨⟨?_, ?_, hn2, fun i hj => ?_⟩, pi_uI ⟨by omega, by omega⟩⟩
  · exact rowK_pi hr'.1 (pi_uI (S := rS a) ⟨by omega, by omega⟩)
  · rw [w_I2 (by omega), hn]; rfl
  · have hj' : i < rn R := hj
    refine ⟨by rw [w_I2 (by omega)]; exact (hi i hj').1, (hi i hj').2.1, by rw [w_I2 (by omega)]; exact (hi i hj').2.2.1, (hi i hj').2.2.2.1, (hi i hj').2.2.2.2.1, ?_⟩
    show _ = bI (if i = l then b else rt R i)
    by_cases c : i = l
    · rw [if_pos c, c, w_I1]
    · rw [if_neg c, w_I3 c]; exact (hi i hj').2.2.2.2.2
theorem f_X7_setSign {h : AH} {a : Nat} {R : Rw} (hr : RowR h a R) {l : Nat} (hl : l < rn R) {c : Int} (hc1 : 0 ≤ c) (hc2 : c ≤ 65535) : Okp (p_X7_setSign a (iI l) (iI c) h) (fun _ h' => RowR h' a (rsetS R l c) ∧ Pi (rS a) h h') := by
  have e1 := f_X7_has hr (z := l) (by omega) (by have := hr.2.2.1; omega)
  have hr' := hr
  obtain ⟨⟨a0, k0, k1, k2, k3, k4, k5, k6, k7, k8, k9, k10⟩, hn, hn2, hi⟩ := hr
  rw [show rhas R l = true from decide_eq_true (by omega)] at e1
  unfold p_X7_setSign p_X7_setSign_0 p_X7_setSign_15
  simp (disch := omega) only [ck_t, nm_q, bR_s, j_add, j_sub, j_mul, j_nI, j_0, j_le, j_lt, j_eq, j_nat, j_ixe, bI_0, and_self, and_true, true_and, ne_eq, not_false_eq_true, not_true_eq_false, ite_true, ite_false, if_true, if_false, ck_p z_0, ck_p z_1, a0, k0, k1, k2, k3, k4, k5, k6, k7, k8, k9, hn, e1, j_nC, Int.toNat_natCast]
  rw [if_neg (by decide), ck_p (by omega)]
  refine ok_some ⟨⟨?_, ?_, hn2, fun i hj => ?_⟩, pi_uI ⟨by omega, by omega⟩⟩
  · exact rowK_pi hr'.1 (pi_uI (S := rS a) ⟨by omega, by omega⟩)
  · rw [w_I2 (by omega), hn]; rfl
  · have hj' : i < rn R := hj
    refine ⟨by rw [w_I2 (by omega)]; exact (hi i hj').1, (hi i hj').2.1, ?_, ?_, ?_, by rw [w_I2 (by omega)]; exact (hi i hj').2.2.2.2.2⟩
    · show _ = iI (if i = l then c else rs R i)
      by_cases d : i = l
      · rw [if_pos d, d, w_I1]
      · rw [if_neg d, w_I3 d]; exact (hi i hj').2.2.1
    · show 0 ≤ (if i = l then c else rs R i)
      by_cases d : i = l
      · rw [if_pos d]; exact hc1
      · rw [if_neg d]; exact (hi i hj').2.2.2.1
    · show (if i = l then c else rs R i) ≤ 65535
      by_cases d : i = l
      · rw [if_pos d]; exact hc2
      · rw [if_neg d]; exact (hi i hj').2.2.2.2.1
theorem f_X7_empty {h : AH} {a : Nat} (hk : RowK h a) : Okp (p_X7_empty a h) (fun _ h' => RowR h' a r0 ∧ Pi (rS a) h h') := by
  have hk' := hk
  obtain ⟨a0, k0, k1, k2, k3, k4, k5, k6, k7, k8, k9, k10⟩ := hk
  unfold p_X7_empty p_X7_empty_0
  simp (disch := omega) only [ck_t, nm_q, bR_s, j_add, j_sub, j_mul, j_nI, j_0, j_le, j_lt, j_eq, j_nat, j_ixe, bI_0, and_self, and_true, true_and, ne_eq, not_false_eq_true, not_true_eq_false, ite_true, ite_false, if_true, if_false, ck_p z_0, ck_p z_1, a0, k0]
  refine ok_some ⟨⟨rowK_pi hk' (pi_uI (S := rS a) ⟨by omega, by omega⟩), by rw [w_I1]; rfl, Nat.zero_le _, fun i hj => absurd hj (Nat.not_lt_zero _)⟩, pi_uI ⟨by omega, by omega⟩⟩

