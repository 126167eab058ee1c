
def xset (T : Tx) (j : Nat) (z : Int) : Tx := (xR T, fun m => if m = j then z else xC T m, xD T, xV T, xL T, xW T, xN T, xS T)
theorem f_X9_setCursor {h : AH} {t i j : Nat} {z : Int} {T : Tx} (hT : TxR h t i T) (hw : Wf h) (hj : j < 5) (z1 : -1 ≤ z) (z2 : z < rn (xR T)) : Okp (p_X9_setCursor t (iI j) (iI z) h) (fun _ h' => Tst h t i 0 0 (xset T j z) h') := by
  obtain ⟨b1, b2, b3, ⟨ds, l1, l2⟩, b5⟩ := hT
  have b1' := b1
  obtain ⟨a0, k0, k1, k2, k3, k4, k5, k6, k7, k8, k9, k10, k11⟩ := b1
  unfold p_X9_setCursor p_X9_setCursor_0 p_X9_setCursor_16
  simp (disch := omega) only [ck_t, nm_q, bR_s, j_add, j_sub, j_mul, j_nI, j_0, j_le, j_lt, j_eq, j_nat, j_ixe, bI_0, and_self, and_true, true_and, ne_eq, not_false_eq_true, not_true_eq_false, ite_true, ite_false, if_true, if_false, ck_p z_0, ck_p z_1, a0, k0, k5, k8, k9, Int.toNat_natCast]
  rw [if_neg (by omega), if_neg (by omega), ck_p (by omega)]
  have p1 : Pi (fun q => q = t + 11) h (uI h (t + 11) j (iI z)) := pi_uI rfl
  have lk := l1.2.2.2.2.1
  refine ok_some ⟨⟨txK_pi b1' p1, rowR_pr b2 (pi_pr p1) (fun q z1 z2 => by omega), ?_, txD_pr (T := T) ⟨ds, l1, l2⟩ (pi_pr p1) (by omega) (fun e => by rw [e] at lk; omega) (fun q e => by rw [e]; omega), b5.1, b5.2.1, fun m hm => ?_⟩, wf_pi hw p1, pr_mono (pi_pr p1) (fun q _ z => Or.inl ⟨by omega, by omega⟩), Nat.le_refl _, Nat.le_refl _, Nat.le_refl _, Or.inl rfl⟩
  · obtain ⟨i1, i2, i3, i4, i5, i6, i7, i8, i9⟩ := b3
    unfold TxI
    rw [w_I2 (show t ≠ t + 11 by omega), w_I2 (show t ≠ t + 11 by omega), w_I2 (show t ≠ t + 11 by omega), w_I2 (show t ≠ t + 11 by omega), w_I2 (show t ≠ t + 11 by omega)]
    refine ⟨i1, i2, i3, i4, i5, i6, fun m hm => ?_, fun m hm => ?_, i9⟩
    · rw [w_I2 (by omega)]; exact i7 m hm
    · show _ = iI (if m = j then z else xC T m)
      by_cases c : m = j
      · rw [if_pos c, c, w_I1]
      · rw [if_neg c, w_I3 c]; exact i8 m hm
  · show -1 ≤ (if m = j then z else xC T m) ∧ (if m = j then z else xC T m) < rn (xR T)
    have := b5.2.2 m hm
    split <;> omega
theorem rsel_cn {R : Rw} {i : Nat} (hi : i < rn R) (hf : rf R i = true) : rsel R (qcn (rf R) i : Int) (rn R) 0 = i := by
  unfold rsel
  refine qfd_un (Nat.zero_le _) (by omega) (fun q _ hq => ?_) (fun _ => ?_)
  · by_cases c : rf R q = true
    · have := qcn_lt (rf R) hq c
      rw [decide_eq_false (by omega), Bool.and_false]
    · rw [Bool.not_eq_true] at c; rw [c, Bool.false_and]
  · rw [hf, decide_eq_true rfl]; rfl
/-- the letter that a text shows at a place -/
def rsh (R : Rw) (p : Nat) : Nat := ro R (rsel R (p : Int) (rn R) 0)
def xsv (T : Tx) (m : Nat) : Tx := (xR T, xC T, xD T, xV T, xL T, xW T, qcn (rf (xR T)) m, fun p => rs (xR T) (rsh (xR T) p))
def xkeep (T : Tx) : Tx := (xR T, xC T, xD T, xV T, xL T, xV T, qcn (rf (xR T)) (rn (xR T)), fun p => rs (xR T) (rsh (xR T) p))
/-- a step that writes ints of the text's own and of its saved letters -/
theorem tx_int {h h' : AH} {t i : Nat} {T T' : Tx} (hT : TxR h t i T) (hw : Wf h) (p : Pi (fun q => q = t ∨ q = t + 5) h h') (e1 : xR T' = xR T) (e2 : xC T' = xC T) (e3 : xD T' = xD T) (hI : TxI h' t i T') : Tst h t i 0 0 T' h' := by
  obtain ⟨b1, b2, b3, ⟨ds, l1, l2⟩, b5⟩ := hT
  have b1' := b1
  obtain ⟨a0, k0, k1, k2, k3, k4, k5, k6, k7, k8, k9, k10, k11⟩ := b1
  have lk := l1.2.2.2.2.1
  have hcap : xcap h' t = xcap h t := by
    unfold xcap lc
    rw [p.2.2.1, p.2.1]
  have ez : aZ h' = aZ h := p.2.2.2.2.1
  have eu : aU h' = aU h := p.2.2.2.2.2.1
  refine ⟨⟨txK_pi b1' p, by rw [e1]; exact rowR_pr b2 (pi_pr p) (fun q z1 z2 => by omega), hI, ?_, ?_⟩, wf_pi hw p, pr_mono (pi_pr p) (fun q _ z => Or.inl ⟨by omega, by omega⟩), by omega, by omega, by omega, by rw [p.2.2.1]; exact Or.inl rfl⟩
  · have : TxD h' t T := txD_pr (T := T) ⟨ds, l1, l2⟩ (pi_pr p) (by omega) (fun e => by rcases e with e | e <;> (rw [e] at lk; omega)) (fun q e => by rcases e with e | e <;> (rw [e]; omega))
    unfold TxD at this ⊢
    rw [e3]; exact this
  · unfold TxP at b5 ⊢
    rw [e1, e2, e3]; exact b5
theorem tst_tr {h h1 h2 : AH} {t i a b a2 b2 : Nat} {T T1 T2 : Tx} (hT : TxR h t i T) (x : Tst h t i a b T1 h1) (y : Tst h1 t i a2 b2 T2 h2) : Tst h t i (a + a2) (b + b2) T2 h2 := by
  obtain ⟨x1, x2, x3, x4, x5, x6, x7⟩ := x
  obtain ⟨y1, y2, y3, y4, y5, y6, y7⟩ := y
  have hz := hT.1.2.2.2.2.2.2.2.2.2.2.2.1
  have hzz := x3.1
  refine ⟨y1, y2, pr_trN x3 y3 ?_, by omega, by omega, by omega, by omega⟩
  intro q hq z
  rcases z with z | z
  · exact Or.inl z
  · rcases z with z | z
    · exact Or.inr (Or.inl z)
    · rw [x3.2.1] at z
      exact Or.inr (Or.inr ⟨by omega, z.2⟩)
theorem f_keep_7 {t i : Nat} : ∀ (k m n : Nat) (h : AH) (T : Tx), TxR h t i (xsv T m) → Wf h → m + k = rn (xR T) → k < n → Okp (p_X9_keepAsSaved_7 n t (iI m) h) (fun _ h' => Tst h t i 0 0 (xkeep T) h') := by
  intro k
  induction k with
  | zero =>
    intro m n h T hT hw hk hn
    obtain ⟨n, rfl⟩ : ∃ m, n = m + 1 := ⟨n - 1, by omega⟩
    have hT' := hT
    obtain ⟨⟨a0, k0, k1, k2, k3, k4, k5, k6, k7, k8, k9, k10, k11⟩, b2, b3, b4, b5⟩ := hT
    have kr := b2.1.2.1
    have e1 := f_X7_count b2
    have er : rn (xR (xsv T m)) = rn (xR T) := rfl
    have hn150 := b2.2.2.1
    unfold p_X9_keepAsSaved_7
    simp (disch := omega) only [ck_t, nm_q, bR_s, j_add, j_sub, j_mul, j_nI, j_0, j_le, j_lt, j_eq, j_nat, j_ixe, bI_0, and_self, and_true, true_and, ne_eq, not_false_eq_true, not_true_eq_false, ite_true, ite_false, if_true, if_false, ck_p z_0, ck_p z_1, k0, k1, kr, e1]
    rw [if_pos (by omega)]
    have p1 : Pi (fun q => q = t ∨ q = t + 5) h (uI h t 5 (aI h t 3)) := pi_uI (Or.inl rfl)
    refine ok_some (tx_int hT' hw p1 rfl rfl rfl ?_)
    obtain ⟨i1, i2, i3, i4, i5, i6, i7, i8, i9⟩ := b3
    have em : m = rn (xR T) := by omega
    unfold TxI
    rw [w_I3 (by decide), w_I3 (by decide), w_I3 (by decide), w_I1, w_I3 (by decide)]
    refine ⟨i1, i2, i3, i2, by rw [i5, em]; rfl, by rw [em] at i6; exact i6, fun j hj => ?_, fun j hj => ?_, i9⟩
    · rw [w_I2 (by omega)]; exact i7 j (by rw [em]; exact hj)
    · rw [w_I2 (by omega)]; exact i8 j hj
  | succ k ih =>
    intro m n h T hT hw hk hn
    obtain ⟨n, rfl⟩ : ∃ m, n = m + 1 := ⟨n - 1, by omega⟩
    have hT' := hT
    obtain ⟨⟨a0, k0, k1, k2, k3, k4, k5, k6, k7, k8, k9, k10, k11⟩, b2, b3, b4, b5⟩ := hT
    have kr := b2.1.2.1
    have er : rn (xR (xsv T m)) = rn (xR T) := rfl
    have hn150 := b2.2.2.1
    have e1 := f_X7_count b2
    have e2 := f_X7_letterAt b2 (z := m) (by omega) (by omega)
    rw [rlet_in (by omega)] at e2
    have hz := b2.2.2.2 m (by omega)
    have e3 := f_X7_shows b2 (z := ro (xR (xsv T m)) m) (by omega) (by omega)
    rw [rshow_in b2 (by omega)] at e3
    have e4 := f_X7_signOf b2 (i := ro (xR (xsv T m)) m) (by omega)
    have e6 := b3.2.2.2.2.1
    have hcn := qcn_le (rf (xR T)) m
    have exN : xN (xsv T m) = qcn (rf (xR T)) m := rfl
    have hsg := b2.2.2.2 (ro (xR (xsv T m)) m)
    unfold p_X9_keepAsSaved_7 p_X9_keepAsSaved_75
    simp (disch := omega) only [ck_t, nm_q, bR_s, j_add, j_sub, j_mul, j_nI, j_0, j_le, j_lt, j_eq, j_nat, j_ixe, bI_0, and_self, and_true, true_and, ne_eq, not_false_eq_true, not_true_eq_false, ite_true, ite_false, if_true, if_false, ck_p z_0, ck_p z_1, k0, k1, kr, e1, e2, e3]
    rw [if_neg (by omega)]
    cases c : rf (xR T) m
    · have c' : rf (xR (xsv T m)) m = false := c
      rw [if_pos c']
      refine ih (m + 1) n h T ?_ hw (by omega) (by omega)
      have e : xsv T (m + 1) = xsv T m := by
        unfold xsv
        rw [qcn_s, c]; rfl
      rw [e]; exact hT'
    · have c' : rf (xR (xsv T m)) m = true := c
      rw [if_neg (by rw [c']; decide)]
      have hlt : qcn (rf (xR T)) m < qcn (rf (xR T)) (rn (xR T)) := qcn_lt _ (by omega) c
      have hle := qcn_le (rf (xR T)) (rn (xR T))
      rw [exN] at e6
      have hs1 := b2.2.2.2 (ro (xR (xsv T m)) m) (by omega)
      simp (disch := omega) only [ck_t, nm_q, bR_s, j_add, j_sub, j_mul, j_nI, j_0, j_le, j_lt, j_eq, j_nat, j_ixe, bI_0, and_self, and_true, true_and, ne_eq, not_false_eq_true, not_true_eq_false, ite_true, ite_false, if_true, if_false, ck_p z_0, ck_p z_1, e6, e4, k0, kr, k2, k6, k7, Int.toNat_natCast]
      rw [if_neg (by omega), ck_p (by omega), j_nC hs1.2.2.2.1 hs1.2.2.2.2.1]
      simp (disch := omega) only [ck_t, nm_q, bR_s, j_add, j_sub, j_mul, j_nI, j_0, j_le, j_lt, j_eq, j_nat, j_ixe, bI_0, and_self, and_true, true_and, ne_eq, not_false_eq_true, not_true_eq_false, ite_true, ite_false, if_true, if_false, ck_p z_0, ck_p z_1, K_uI, k0, w_I2, e6]
      have p1 : Pi (fun q => q = t ∨ q = t + 5) h (uI (uI h (t + 5) (qcn (rf (xR T)) m) (iI (rs (xR (xsv T m)) (ro (xR (xsv T m)) m)))) t 6 (iI ((qcn (rf (xR T)) m : Int) + 1))) := pi_tr (pi_uI (Or.inr rfl)) (pi_uI (Or.inl rfl))
      have st : Tst h t i 0 0 (xsv T (m + 1)) (uI (uI h (t + 5) (qcn (rf (xR T)) m) (iI (rs (xR (xsv T m)) (ro (xR (xsv T m)) m)))) t 6 (iI ((qcn (rf (xR T)) m : Int) + 1))) := by
        refine tx_int hT' hw p1 rfl rfl rfl ?_
        obtain ⟨i1, i2, i3, i4, i5, i6, i7, i8, i9⟩ := b3
        have eN : xN (xsv T (m + 1)) = qcn (rf (xR T)) m + 1 := by
          show qcn (rf (xR T)) (m + 1) = _
          rw [qcn_s, c]; rfl
        unfold TxI
        rw [w_I3 (show (0 : Nat) ≠ 6 by decide), w_I3 (show (3 : Nat) ≠ 6 by decide), w_I3 (show (4 : Nat) ≠ 6 by decide), w_I3 (show (5 : Nat) ≠ 6 by decide), w_I1, w_I2 (show t ≠ t + 5 by omega), w_I2 (show t ≠ t + 5 by omega), w_I2 (show t ≠ t + 5 by omega), w_I2 (show t ≠ t + 5 by omega), eN]
        refine ⟨i1, i2, i3, i4, by congr 1, by omega, fun j hj => ?_, fun j hj => ?_, i9⟩
        · rw [w_I2 (show t + 5 ≠ t by omega)]
          by_cases d : j = qcn (rf (xR T)) m
          · subst d
            have hp : rsh (xR T) (qcn (rf (xR T)) m) = ro (xR T) m := by
              unfold rsh
              rw [rsel_cn (by omega) c]
            rw [w_I1]
            show iI (rs (xR T) (ro (xR T) m)) = iI (rs (xR T) (rsh (xR T) (qcn (rf (xR T)) m))) ∧ 0 ≤ rs (xR T) (rsh (xR T) (qcn (rf (xR T)) m)) ∧ rs (xR T) (rsh (xR T) (qcn (rf (xR T)) m)) ≤ 65535
            rw [hp]
            exact ⟨rfl, hs1.2.2.2.1, hs1.2.2.2.2.1⟩
          · rw [w_I3 d]
            exact i7 j (by rw [exN]; omega)
        · rw [w_I2 (show t + 11 ≠ t by omega), w_I2 (show t + 11 ≠ t + 5 by omega)]
          exact i8 j hj
      refine ok_to (ih (m + 1) n _ T st.1 st.2.1 (by omega) (by omega)) ?_
      intro _ h2 q
      exact tst_tr hT' st q
theorem f_X9_keepAsSaved {h : AH} {t i : Nat} {T : Tx} (hT : TxR h t i T) (hw : Wf h) : Okp (p_X9_keepAsSaved t h) (fun _ h' => Tst h t i 0 0 (xkeep T) h') := by
  have a0 := hT.1.1
  have k0 := hT.1.2.1
  have hn150 := hT.2.1.2.2.1
  unfold p_X9_keepAsSaved p_X9_keepAsSaved_0
  simp (disch := omega) only [ck_t, nm_q, bR_s, j_add, j_sub, j_mul, j_nI, j_0, j_le, j_lt, j_eq, j_nat, j_ixe, bI_0, and_self, and_true, true_and, ne_eq, not_false_eq_true, not_true_eq_false, ite_true, ite_false, if_true, if_false, ck_p z_0, ck_p z_1, a0, k0]
  have p1 : Pi (fun q => q = t ∨ q = t + 5) h (uI h t 6 (iI 0)) := pi_uI (Or.inl rfl)
  have st : Tst h t i 0 0 (xsv T 0) (uI h t 6 (iI 0)) := by
    refine tx_int hT hw p1 rfl rfl rfl ?_
    obtain ⟨i1, i2, i3, i4, i5, i6, i7, i8, i9⟩ := hT.2.2.1
    unfold TxI
    rw [w_I3 (show (0 : Nat) ≠ 6 by decide), w_I3 (show (3 : Nat) ≠ 6 by decide), w_I3 (show (4 : Nat) ≠ 6 by decide), w_I3 (show (5 : Nat) ≠ 6 by decide), w_I1]
    refine ⟨i1, i2, i3, i4, rfl, Nat.zero_le _, fun j hj => absurd hj (Nat.not_lt_zero _), fun j hj => ?_, i9⟩
    rw [w_I2 (show t + 11 ≠ t by omega)]
    exact i8 j hj
  have e := f_keep_7 (rn (xR T)) 0 FU (uI h t 6 (iI 0)) T st.1 st.2.1 (by omega) (by unfold FU; omega)
  exact ok_to e fun _ h2 q => tst_tr hT st q

