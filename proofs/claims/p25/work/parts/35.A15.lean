
/-! ===== plans ===== -/
def PlK (h : AH) (b : Nat) : Prop := (b = 0) = False ∧ aK h b = 8 ∧ aR h b 0 = b + 1 ∧ aR h b 1 = b + 2 ∧ aR h b 2 = b + 3 ∧ aK h (b + 1) = 20 ∧ aN h (b + 1) = 150 ∧ aK h (b + 2) = 21 ∧ aN h (b + 2) = 150 ∧ aK h (b + 3) = 21 ∧ aN h (b + 3) = 150 ∧ b + 3 < aZ h
def PlR (h : AH) (b m : Nat) (Lt : Nat → Nat) (Sg Wn : Nat → Int) : Prop := PlK h b ∧ aI h b 3 = iI m ∧ m ≤ 150 ∧ ∀ q, q < m → aI h (b + 1) q = iI (Lt q) ∧ Lt q < 150 ∧ aI h (b + 2) q = iI (Sg q) ∧ 0 ≤ Sg q ∧ Sg q ≤ 65535 ∧ aI h (b + 3) q = iI (Wn q) ∧ 0 ≤ Wn q ∧ Wn q ≤ 65535
theorem plK_pi {S : Nat → Prop} {h h' : AH} {b : Nat} (hk : PlK h b) (x : Pi S h h') : PlK h' b := by
  obtain ⟨x1, x2, x3, x4, x5, x6, x7, x8, x9, x10⟩ := x
  unfold PlK at hk ⊢
  rw [x1, x2, x3, x5]
  exact hk
theorem plK_pr {S : Nat → Prop} {h h' : AH} {a : Nat} (hk : PlK h a) (x : Prs S h h') (hs : ¬ S a) : PlK h' a := by
  obtain ⟨a0, k0, k1, k2, k3, k4, k5, k6, k7, k8, k9, k10⟩ := hk
  have := x.1
  have e := pr_R x (q := a) (by omega) hs
  refine ⟨a0, ?_, ?_, ?_, ?_, ?_, ?_, ?_, ?_, ?_, ?_, by omega⟩
  · rw [pr_K x (by omega), k0]
  · rw [e, k1]
  · rw [e, k2]
  · rw [e, k3]
  · rw [pr_K x (by omega), k4]
  · rw [pr_N x (by omega), k5]
  · rw [pr_K x (by omega), k6]
  · rw [pr_N x (by omega), k7]
  · rw [pr_K x (by omega), k8]
  · rw [pr_N x (by omega), k9]
theorem plR_pr {S : Nat → Prop} {h h' : AH} {b m : Nat} {Lt : Nat → Nat} {Sg Wn : Nat → Int} (hp : PlR h b m Lt Sg Wn) (x : Prs S h h') (hs : ∀ q, b ≤ q → q ≤ b + 3 → ¬ S q) : PlR h' b m Lt Sg Wn := by
  obtain ⟨hk, h1, h2, h3⟩ := hp
  have hz := hk.2.2.2.2.2.2.2.2.2.2.2
  refine ⟨plK_pr hk x (hs b (by omega) (by omega)), by rw [pr_I x (by omega) (hs b (by omega) (by omega))]; exact h1, h2, fun q hq => ?_⟩
  rw [pr_I x (q := b + 1) (by omega) (hs _ (by omega) (by omega)), pr_I x (q := b + 2) (by omega) (hs _ (by omega) (by omega)), pr_I x (q := b + 3) (by omega) (hs _ (by omega) (by omega))]
  exact h3 q hq
theorem f_X6_look_7 {a b : Nat} {R : Rw} (hab : b + 3 < a ∨ a + 3 < b) : ∀ (k m n : Nat) (h : AH), RowR h a R → PlR h b (qcn (rf R) m) (rsh R) (fun q => rs R (rsh R q)) (fun _ => 0) → m + k = rn R → k < n →
    Okp (p_X6_look_7 n b a (iI m) h) (fun _ h' => PlR h' b (qcn (rf R) (rn R)) (rsh R) (fun q => rs R (rsh R q)) (fun _ => 0) ∧ Pi (rS b) h h') := by
  intro k
  induction k with
  | zero =>
    intro m n h hr hp hk hn
    obtain ⟨n, rfl⟩ : ∃ m, n = m + 1 := ⟨n - 1, by omega⟩
    have e1 := f_X7_count hr
    have ka := hr.1.2.1
    have hn150 := hr.2.2.1
    unfold p_X6_look_7
    simp (disch := omega) only [ck_t, nm_q, bR_s, j_add, j_sub, j_mul, j_nI, j_0, j_le, j_lt, j_eq, j_nat, j_ixe, bI_0, and_self, and_true, true_and, ne_eq, not_false_eq_true, not_true_eq_false, ite_true, ite_false, if_true, if_false, ck_p z_0, ck_p z_1, ka, e1]
    rw [if_pos (by omega)]
    rw [show m = rn R by omega] at hp
    exact ok_some ⟨hp, pi_rf⟩
  | succ k ih =>
    intro m n h hr hp hk hn
    obtain ⟨n, rfl⟩ : ∃ m, n = m + 1 := ⟨n - 1, by omega⟩
    have e1 := f_X7_count hr
    have ka := hr.1.2.1
    have hn150 := hr.2.2.1
    have e2 := f_X7_letterAt hr (z := m) (by omega) (by omega)
    rw [rlet_in (by omega)] at e2
    have hz := hr.2.2.2 m (by omega)
    have e3 := f_X7_shows hr (z := ro R m) (by omega) (by omega)
    rw [rshow_in hr (by omega)] at e3
    have hs1 := hr.2.2.2 (ro R m) (by omega)
    obtain ⟨hpk, hc, hc2, hq⟩ := hp
    have hpk' := hpk
    obtain ⟨a0, k0, k1, k2, k3, k4, k5, k6, k7, k8, k9, k10⟩ := hpk
    unfold p_X6_look_7 p_X6_look_83
    simp (disch := omega) only [ck_t, nm_q, bR_s, j_add, j_sub, j_mul, j_nI, j_0, j_le, j_lt, j_eq, j_nat, j_ixe, bI_0, and_self, and_true, true_and, ne_eq, not_false_eq_true, not_true_eq_false, ite_true, ite_false, if_true, if_false, ck_p z_0, ck_p z_1, ka, e1, e2, e3]
    rw [if_neg (by omega)]
    cases c : rf R m
    · rw [if_pos rfl]
      refine ih (m + 1) n h hr ?_ (by omega) (by omega)
      rw [qcn_s, c]
      exact ⟨hpk', hc, hc2, hq⟩
    · rw [if_neg (by decide)]
      have hlt : qcn (rf R) m < qcn (rf R) (rn R) := qcn_lt _ (by omega) c
      have hle := qcn_le (rf R) (rn R)
      have hle2 := qcn_le (rf R) m
      have eS : rsh R (qcn (rf R) m) = ro R m := by
        unfold rsh
        rw [rsel_cn (by omega) c]
      have p1 : Pi (rS b) h (uI h (b + 1) (qcn (rf R) m) (iI (ro R m))) := pi_uI ⟨by omega, by omega⟩
      have e4 := f_X7_signOf (rowR_pr hr (pi_pr p1) (fun q z1 z2 z => by obtain ⟨w1, w2⟩ := z; omega)) (i := ro R m) (by omega)
      simp (disch := omega) only [ck_t, nm_q, bR_s, j_add, j_sub, j_mul, j_nI, j_0, j_le, j_lt, j_eq, j_nat, j_ixe, bI_0, and_self, and_true, true_and, ne_eq, not_false_eq_true, not_true_eq_false, ite_true, ite_false, if_true, if_false, ck_p z_0, ck_p z_1, k0, hc, k1, k4, k5, Int.toNat_natCast]
      rw [if_neg (by omega), ck_p (by omega)]
      simp (disch := omega) only [ck_t, nm_q, bR_s, j_add, j_sub, j_mul, j_nI, j_0, j_le, j_lt, j_eq, j_nat, j_ixe, bI_0, and_self, and_true, true_and, ne_eq, not_false_eq_true, not_true_eq_false, ite_true, ite_false, if_true, if_false, ck_p z_0, ck_p z_1, K_uI, N_uI, R_uI, k0, ka, k2, k3, k6, k7, k8, k9, e4, w_I2, hc, Int.toNat_natCast, j_nC]
      rw [ck_p (by omega), ck_p (by omega)]
      refine ok_to (ih (m + 1) n _ ?_ ?_ (by omega) (by omega)) (fun _ h1 q => ⟨q.1, pi_tr p1 (pi_tr (pi_uI ⟨by omega, by omega⟩) (pi_tr (pi_uI ⟨by omega, by omega⟩) (pi_tr (pi_uI ⟨by omega, by omega⟩) q.2)))⟩)
      · refine rowR_pr hr (pi_pr (S := rS b) (pi_tr p1 (pi_tr (pi_uI ⟨by omega, by omega⟩) (pi_tr (pi_uI ⟨by omega, by omega⟩) (pi_uI ⟨by omega, by omega⟩))))) (fun q z1 z2 z => by obtain ⟨w1, w2⟩ := z; omega)
      · refine ⟨hpk', by rw [w_I1, qcn_s, c]; rfl, by rw [qcn_s, c]; show qcn (rf R) m + 1 ≤ 150; omega, fun q hlq => ?_⟩
        have hlq' : q < qcn (rf R) m + 1 := by rw [qcn_s, c] at hlq; exact hlq
        by_cases d : q = qcn (rf R) m
        · subst d
          refine ⟨?_, ?_, ?_, ?_, ?_, ?_, Int.le_refl 0, by show (0 : Int) ≤ 65535; decide⟩
          · rw [eS]; simp (disch := omega) only [w_I2, w_I1]
          · rw [eS]; omega
          · show _ = iI (rs R (rsh R (qcn (rf R) m)))
            rw [eS]; simp (disch := omega) only [w_I2, w_I1]
          · show 0 ≤ rs R (rsh R (qcn (rf R) m))
            rw [eS]; exact hs1.2.2.2.1
          · show rs R (rsh R (qcn (rf R) m)) ≤ 65535
            rw [eS]; exact hs1.2.2.2.2.1
          · simp (disch := omega) only [w_I2, w_I1]
        · simp (disch := omega) only [w_I2, w_I3 d]
          exact hq q (by omega)
theorem f_X6_look {h : AH} {a b : Nat} {R : Rw} (hab : b + 3 < a ∨ a + 3 < b) (hr : RowR h a R) (hk : PlK h b) : Okp (p_X6_look b a h) (fun _ h' => PlR h' b (qcn (rf R) (rn R)) (rsh R) (fun q => rs R (rsh R q)) (fun _ => 0) ∧ Pi (rS b) h h') := by
  have a0 := hk.1
  have k0 := hk.2.1
  have a1 := hr.1.1
  have p1 : Pi (rS b) h (uI h b 3 (iI 0)) := pi_uI ⟨by omega, by omega⟩
  have e := f_X6_look_7 hab (rn R) 0 FU (uI h b 3 (iI 0)) (rowR_pr hr (pi_pr p1) (fun q z1 z2 z => by obtain ⟨w1, w2⟩ := z; omega)) ⟨plK_pi hk p1, w_I1 _ _ _ _, Nat.zero_le _, fun q hq => absurd hq (Nat.not_lt_zero _)⟩ (by omega) (by have := hr.2.2.1; unfold FU; omega)
  unfold p_X6_look p_X6_look_0
  simp (disch := omega) only [ck_t, nm_q, bR_s, j_add, j_sub, j_mul, j_nI, j_0, j_le, j_lt, j_eq, j_nat, j_ixe, bI_0, and_self, and_true, true_and, ne_eq, not_false_eq_true, not_true_eq_false, ite_true, ite_false, if_true, if_false, ck_p z_0, ck_p z_1, a0, a1, k0]
  exact ok_to e fun _ h1 q => ⟨q.1, pi_tr p1 q.2⟩
/-! what each kind wants -/
def wSp (Sg : Nat → Int) (q : Nat) : Int := if 1 ≤ q ∧ Sg q = 32 ∧ Sg (q - 1) = 32 then 1 else 0
def osf (Sg : Nat → Int) (m i : Nat) : Bool := decide (qfd (fun j => decide (Sg j ≠ 32)) (m - i) i = m ∨ Sg (qfd (fun j => decide (Sg j ≠ 32)) (m - i) i) = 47)
def wEn (Sg : Nat → Int) (m q : Nat) : Int := if Sg q = 32 ∧ osf Sg m q = true then 1 else 0
def wCa (Sg : Nat → Int) (q : Nat) : Int := if (q = 0 ∨ Sg (q - 1) = 47) ∧ 97 ≤ Sg q ∧ Sg q ≤ 122 then Sg q - 32 else 0
/-- the same but one place of the plan's wishes -/
theorem plR_set {h : AH} {b m i : Nat} {Lt : Nat → Nat} {Sg Wn : Nat → Int} {w : Int} (hp : PlR h b m Lt Sg Wn) (w1 : 0 ≤ w) (w2 : w ≤ 65535) : PlR (uI h (b + 3) i (iI w)) b m Lt Sg (fun q => if q = i then w else Wn q) := by
  obtain ⟨hk, h1, h2, h3⟩ := hp
  refine ⟨plK_pi hk (pi_uI (S := fun q => q = b + 3) rfl), by rw [w_I2 (by omega)]; exact h1, h2, fun q hq => ?_⟩
  have := h3 q hq
  rw [w_I2 (show b + 1 ≠ b + 3 by omega), w_I2 (show b + 2 ≠ b + 3 by omega)]
  by_cases c : q = i
  · subst c
    rw [w_I1]
    simp only [if_true, true_and]
    exact ⟨this.1, this.2.1, this.2.2.1, this.2.2.2.1, this.2.2.2.2.1, w1, w2⟩
  · rw [w_I3 c]
    simp only [if_neg c]
    exact this
theorem plR_eq {h : AH} {b m : Nat} {Lt : Nat → Nat} {Sg Wn Wn' : Nat → Int} (hp : PlR h b m Lt Sg Wn) (e : ∀ q, q < m → Wn' q = Wn q) : PlR h b m Lt Sg Wn' := by
  obtain ⟨hk, h1, h2, h3⟩ := hp
  refine ⟨hk, h1, h2, fun q hq => ?_⟩
  rw [e q hq]
  exact h3 q hq
theorem f_X6_single_2 {b m : Nat} {Lt : Nat → Nat} {Sg : Nat → Int} : ∀ (k i n : Nat) (h : AH), PlR h b m Lt Sg (fun q => if q < i then wSp Sg q else 0) → i + k = m → 1 ≤ i → k < n →
    Okp (p_X6_wantSingleSpaces_2 n b (iI i) h) (fun _ h' => PlR h' b m Lt Sg (wSp Sg) ∧ Pi (rS b) h h') := by
  intro k
  induction k with
  | zero =>
    intro i n h hp hk hi hn
    obtain ⟨n, rfl⟩ : ∃ m, n = m + 1 := ⟨n - 1, by omega⟩
    have k0 := hp.1.2.1
    have hc := hp.2.1
    have hm := hp.2.2.1
    unfold p_X6_wantSingleSpaces_2
    simp (disch := omega) only [ck_t, nm_q, bR_s, j_add, j_sub, j_mul, j_nI, j_0, j_le, j_lt, j_eq, j_nat, j_ixe, bI_0, and_self, and_true, true_and, ne_eq, not_false_eq_true, not_true_eq_false, ite_true, ite_false, if_true, if_false, ck_p z_0, ck_p z_1, k0, hc]
    rw [if_pos (by omega)]
    exact ok_some ⟨plR_eq hp fun q hq => by rw [if_pos (by omega)], pi_rf⟩
  | succ k ih =>
    intro i n h hp hk hi hn
    obtain ⟨n, rfl⟩ : ∃ m, n = m + 1 := ⟨n - 1, by omega⟩
    have hp' := hp
    obtain ⟨⟨a0, k0, k1, k2, k3, k4, k5, k6, k7, k8, k9, k10⟩, hc, hm, hq⟩ := hp
    have g1 := hq i (by omega)
    have g2 := hq (i - 1) (by omega)
    unfold p_X6_wantSingleSpaces_2 p_X6_wantSingleSpaces_41
    simp (disch := omega) only [ck_t, nm_q, bR_s, j_add, j_sub, j_mul, j_nI, j_0, j_le, j_lt, j_eq, j_nat, j_ixe, bI_0, and_self, and_true, true_and, ne_eq, not_false_eq_true, not_true_eq_false, ite_true, ite_false, if_true, if_false, ck_p z_0, ck_p z_1, k0, hc, k2, k6, k7, k3, k8, k9, Int.toNat_natCast, g1.2.2.1, show ((i : Int) - 1).toNat = i - 1 by omega, g2.2.2.1, j_nC]
    rw [if_neg (by omega), ck_p (by omega), ck_p (by omega), ck_p (by omega)]
    have nx : ∀ g : AH, PlR g b m Lt Sg (fun q => if q = i then wSp Sg i else if q < i then wSp Sg q else 0) → Okp (p_X6_wantSingleSpaces_2 n b (iI ((i : Int) + 1)) g) (fun _ h' => PlR h' b m Lt Sg (wSp Sg) ∧ Pi (rS b) g h') := by
      intro g hg
      refine ih (i + 1) n g (plR_eq hg fun q hq => ?_) (by omega) (by omega) (by omega)
      by_cases c : q = i
      · rw [if_pos (by omega), if_pos c, c]
      · rw [if_neg c]
        by_cases d : q < i
        · rw [if_pos d, if_pos (by omega)]
        · rw [if_neg d, if_neg (by omega)]
    have no : wSp Sg i = 0 → Okp (p_X6_wantSingleSpaces_2 n b (iI ((i : Int) + 1)) h) (fun _ h' => PlR h' b m Lt Sg (wSp Sg) ∧ Pi (rS b) h h') := by
      intro e
      refine nx h (plR_eq hp' fun q hq => ?_)
      by_cases c : q = i
      · rw [if_pos c, e, if_neg (by omega)]
      · rw [if_neg c]
    by_cases c1 : Sg i = 32
    · rw [if_pos c1]
      by_cases c2 : Sg (i - 1) = 32
      · rw [if_pos c2]
        have e : wSp Sg i = 1 := if_pos ⟨hi, c1, c2⟩
        refine ok_to (nx _ ?_) (fun _ h1 q => ⟨q.1, pi_tr (pi_uI ⟨by omega, by omega⟩) q.2⟩)
        rw [e]
        exact plR_set hp' (by decide) (by decide)
      · rw [if_neg c2]
        exact no (if_neg fun z => c2 z.2.2)
    · rw [if_neg c1]
      exact no (if_neg fun z => c1 z.2.1)
theorem f_X6_single {h : AH} {b m : Nat} {Lt : Nat → Nat} {Sg : Nat → Int} (hp : PlR h b m Lt Sg (fun _ => 0)) : Okp (p_X6_wantSingleSpaces b h) (fun _ h' => PlR h' b m Lt Sg (wSp Sg) ∧ Pi (rS b) h h') := by
  have a0 := hp.1.1
  have hm := hp.2.2.1
  unfold p_X6_wantSingleSpaces p_X6_wantSingleSpaces_0
  simp (disch := omega) only [ck_t, nm_q, bR_s, j_add, j_sub, j_mul, j_nI, j_0, j_le, j_lt, j_eq, j_nat, j_ixe, bI_0, and_self, and_true, true_and, ne_eq, not_false_eq_true, not_true_eq_false, ite_true, ite_false, if_true, if_false, ck_p z_0, ck_p z_1, a0]
  by_cases c : 1 ≤ m
  · refine f_X6_single_2 (m - 1) 1 FU h (plR_eq hp fun q hq => ?_) (by omega) (by omega) (by unfold FU; omega)
    by_cases d : q < 1
    · rw [if_pos d]; unfold wSp; rw [if_neg (by omega)]
    · rw [if_neg d]
  · have hc := hp.2.1
    have k0 := hp.1.2.1
    obtain ⟨f, ef⟩ : ∃ f, FU = f + 1 := ⟨99999, rfl⟩
    rw [ef]
    unfold p_X6_wantSingleSpaces_2
    simp (disch := omega) only [ck_t, nm_q, bR_s, j_add, j_sub, j_mul, j_nI, j_0, j_le, j_lt, j_eq, j_nat, j_ixe, bI_0, and_self, and_true, true_and, ne_eq, not_false_eq_true, not_true_eq_false, ite_true, ite_false, if_true, if_false, ck_p z_0, ck_p z_1, k0, hc]
    rw [if_pos (by omega)]
    exact ok_some ⟨plR_eq hp fun q hq => by omega, pi_rf⟩

