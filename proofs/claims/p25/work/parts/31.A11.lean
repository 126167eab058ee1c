
theorem wf_uN {h : AH} {K n : Nat} (hw : Wf h) (hK : K ≠ 1) : Wf (uN h K n) := by
  have hez := hw.1.2.1
  refine ⟨⟨hw.1.1, by show aE h < aZ h + 1; omega, ?_, ?_⟩, ?_, ?_, ?_, hw.2.2.2.2⟩
  · show aK (uN h K n) (aE h) = 26
    rw [w_KN2 (by omega)]; exact hw.1.2.2.1
  · show aN (uN h K n) (aE h) = 0
    rw [w_NN2 (by omega)]; exact hw.1.2.2.2
  · intro q hq
    have hq' : aZ h + 1 ≤ q := hq
    rw [w_KN2 (by omega)]
    exact hw.2.1 q (by omega)
  · intro l1 l2 e1 e2 e3
    have f1 : l1 ≠ aZ h := fun z => by rw [z, w_KN1] at e1; exact hK e1
    have f2 : l2 ≠ aZ h := fun z => by rw [z, w_KN1] at e2; exact hK e2
    rw [w_KN2 f1] at e1
    rw [w_KN2 f2] at e2
    rw [w_RN2 f1, w_RN2 f2] at e3
    rw [w_RN2 f1]
    exact hw.2.2.1 l1 l2 e1 e2 e3
  · intro l1 e1
    have f1 : l1 ≠ aZ h := fun z => by rw [z, w_KN1] at e1; exact hK e1
    rw [w_KN2 f1] at e1
    rw [w_RN2 f1]
    have := hw.2.2.2.1 l1 e1
    show _ < aZ h + 1
    omega
theorem kz_no {h : AH} (hw : Wf h) {q k : Nat} (hk : k ≠ 0) (hq : aZ h ≤ q) : aK h q ≠ k := by
  rw [hw.2.1 q hq]; exact fun z => hk z.symm
theorem txR_new {h h' : AH} {t i : Nat} {T : Tx} (hT : TxR h t i T) (hw : Wf h) (p : Prs (fun q => aZ h ≤ q) h h') : TxR h' t i T := by
  have hz := hT.1.2.2.2.2.2.2.2.2.2.2.2.1
  obtain ⟨ds, l1, l2⟩ := hT.2.2.2.1
  refine txR_pr hT p (fun q z1 z2 => by omega) ?_ (fun q z => kz_no hw (by decide) z)
  have := l1.2.2.2.2.2.2.1
  omega
theorem f_newDeed {h : AH} {t i k w : Nat} {c : Int} {T : Tx} (hT : TxR h t i T) (hw : Wf h) (c1 : 0 ≤ c) (c2 : c ≤ 65535) : Okp (p_X2_init (aZ h) (iI k) (iI w) (iI c) (uN h 4 3)) (fun _ g => DdR g (aZ h) (k, w, c) ∧ TxR g t i T ∧ Wf g ∧ Prs (fun q => aZ h ≤ q) h g ∧ aZ g = aZ h + 1 ∧ aU g = aU h + 3 ∧ aC g = aC h ∧ xcap g t = xcap h t) := by
  have hz := hT.1.2.2.2.2.2.2.2.2.2.2.2.1
  refine ok_to (f_X2_init (by omega) (w_KN1 h 4 3) (by show aZ h < aZ h + 1; omega) c1 c2) ?_
  rintro _ g ⟨g1, g2⟩
  have p1 : Prs (fun q => aZ h ≤ q) h g := pr_tr pr_uN (pr_mono (pi_pr g2) fun q _ z => by omega)
  have hT2 := txR_new hT hw p1
  refine ⟨g1, hT2, wf_pi (wf_uN hw (by decide)) g2, p1, g2.2.2.2.2.1, g2.2.2.2.2.2.1, g2.2.2.2.2.2.2.2.1, ?_⟩
  obtain ⟨ds, l1, l2⟩ := hT.2.2.2.1
  exact lc_pr l1 p1 (by omega)
theorem dok_1 {R : Rw} {k l : Nat} (hk : k = 1 ∨ k = 2) (hl : l < rn R) : dok R (k, l, 0) := ⟨by show k ≤ 3; omega, fun (z : k = 0) => by omega, fun _ => hl, Int.le_refl 0, by show (0 : Int) ≤ 65535; decide⟩
theorem tS_sub {h g : AH} {t i : Nat} {T : Tx} (hT : TxR h t i T) (p : Prs (fun q => aZ h ≤ q) h g) : ∀ q, q < aZ h → tS g t q → tS h t q := by
  intro q hq z
  have hz := hT.1.2.2.2.2.2.2.2.2.2.2.2.1
  rcases z with z | z
  · exact Or.inl z
  · refine Or.inr ?_
    rcases z with z | z
    · exact Or.inl z
    · rw [pr_R p (q := t + 10) (by omega) (by omega), p.2.1] at z
      exact Or.inr z
/-! a letter goes -/
def xcur (T : Tx) (l z : Int) : Nat → Int := fun j => if xC T j = l then z else xC T j
def xnext (R : Rw) (l : Int) : Int := rl R (qfd (rf R) (rn R - rpos R l) (rpos R l))
def xgo (T : Tx) (l : Nat) : Tx := (rsetT (xR T) l false, xcur T l (xnext (rsetT (xR T) l false) l), xD T ++ [(1, l, 0)], xV T, xL T, xW T, xN T, xS T)
theorem f_X9_letGo_32 {t i l : Nat} {T : Tx} {z : Int} (hl : l < rn (xR T)) (z1 : -1 ≤ z) (z2 : z < rn (xR T)) : ∀ (k j n : Nat) (h : AH), TxK h t → RowR h (t + 1) (xR T) → TxD h t T → Wf h → TxP T → (aI h t 0 = iI i ∧ aI h t 3 = xV T ∧ aI h t 4 = iI (xL T) ∧ aI h t 5 = xW T ∧ aI h t 6 = iI (xN T) ∧ xN T ≤ 150 ∧ (∀ j, j < xN T → aI h (t + 5) j = iI (xS T j) ∧ 0 ≤ xS T j ∧ xS T j ≤ 65535) ∧ -1 ≤ xL T ∧ xL T < 5) → (∀ m, m < 5 → aI h (t + 11) m = iI (if m < j then xcur T l z m else xC T m)) → j + k = 5 → k < n →
    Okp (p_X9_letGo_32 n t (iI l) (iI z) (iI j) h) (fun _ h' => TxR h' t i (xR T, xcur T l z, xD T, xV T, xL T, xW T, xN T, xS T) ∧ Pi (fun q => q = t + 11) h h') := by
  intro k
  induction k with
  | zero =>
    intro j n h hK hR hD hw hP hI hC hk hn
    obtain ⟨n, rfl⟩ : ∃ m, n = m + 1 := ⟨n - 1, by omega⟩
    unfold p_X9_letGo_32
    simp (disch := omega) only [ck_t, nm_q, bR_s, j_add, j_sub, j_mul, j_nI, j_0, j_le, j_lt, j_eq, j_nat, j_ixe, bI_0, and_self, and_true, true_and, ne_eq, not_false_eq_true, not_true_eq_false, ite_true, ite_false, if_true, if_false, ck_p z_0, ck_p z_1]
    rw [if_pos (by omega)]
    obtain ⟨i1, i2, i3, i4, i5, i6, i7, i8, i9⟩ := hI
    refine ok_some ⟨⟨hK, hR, ⟨i1, i2, i3, i4, i5, i6, i7, fun m hm => ?_, i8, i9⟩, hD, hP.1, hP.2.1, fun m hm => ?_⟩, pi_rf⟩
    · rw [hC m hm, if_pos (by omega)]; rfl
    · show -1 ≤ xcur T l z m ∧ xcur T l z m < rn (xR T)
      have := hP.2.2 m hm
      unfold xcur
      split <;> omega
  | succ k ih =>
    intro j n h hK hR hD hw hP hI hC hk hn
    obtain ⟨n, rfl⟩ : ∃ m, n = m + 1 := ⟨n - 1, by omega⟩
    have hK' := hK
    obtain ⟨a0, k0, k1, k2, k3, k4, k5, k6, k7, k8, k9, k10, k11⟩ := hK
    have hc := hP.2.2 j (by omega)
    have hn150 := hR.2.2.1
    have ec := hC j (by omega)
    rw [if_neg (Nat.lt_irrefl _)] at ec
    unfold p_X9_letGo_32 p_X9_letGo_54
    simp (disch := omega) only [ck_t, nm_q, bR_s, j_add, j_sub, j_mul, j_nI, j_0, j_le, j_lt, j_eq, j_nat, j_ixe, bI_0, and_self, and_true, true_and, ne_eq, not_false_eq_true, not_true_eq_false, ite_true, ite_false, if_true, if_false, ck_p z_0, ck_p z_1, k0, k5, k8, k9, Int.toNat_natCast, ec]
    rw [if_neg (by omega), ck_p (by omega), ck_p (by omega)]
    by_cases c : xC T j = l
    · rw [if_pos c]
      have p1 : Pi (fun q => q = t + 11) h (uI h (t + 11) j (iI z)) := pi_uI rfl
      obtain ⟨ds, l1, l2⟩ := hD
      have la : aR h (t + 10) 1 ≠ t + 11 := fun e => by have := l1.2.2.2.2.1; rw [e] at this; omega
      have kx : ∀ q, q = t + 11 → aK h q ≠ 4 := fun q e => by rw [e]; omega
      refine ok_to (ih (j + 1) n (uI h (t + 11) j (iI z)) (txK_pi hK' p1) (rowR_pr hR (pi_pr p1) (fun q z1 z2 => by omega)) (txD_pr ⟨ds, l1, l2⟩ (pi_pr p1) (by omega) (fun e => la e) kx) (wf_pi hw p1) hP ?_ ?_ (by omega) (by omega)) (fun _ h1 q => ⟨q.1, pi_tr p1 q.2⟩)
      · rw [w_I2 (show t ≠ t + 11 by omega), w_I2 (show t ≠ t + 11 by omega), w_I2 (show t ≠ t + 11 by omega), w_I2 (show t ≠ t + 11 by omega), w_I2 (show t ≠ t + 11 by omega)]
        refine ⟨hI.1, hI.2.1, hI.2.2.1, hI.2.2.2.1, hI.2.2.2.2.1, hI.2.2.2.2.2.1, fun m hm => ?_, hI.2.2.2.2.2.2.2⟩
        rw [w_I2 (show t + 5 ≠ t + 11 by omega)]
        exact hI.2.2.2.2.2.2.1 m hm
      · intro m hm
        by_cases d : m = j
        · subst d
          rw [w_I1, if_pos (by omega)]
          unfold xcur
          rw [if_pos c]
        · rw [w_I3 d, hC m hm]
          by_cases e : m < j
          · rw [if_pos e, if_pos (by omega)]
          · rw [if_neg e, if_neg (by omega)]
    · rw [if_neg c]
      refine ih (j + 1) n h hK' hR hD hw hP hI ?_ (by omega) (by omega)
      intro m hm
      rw [hC m hm]
      by_cases d : m = j
      · subst d
        rw [if_neg (Nat.lt_irrefl _), if_pos (by omega)]
        unfold xcur
        rw [if_neg c]
      · by_cases e : m < j
        · rw [if_pos e, if_pos (by omega)]
        · rw [if_neg e, if_neg (by omega)]
theorem f_X9_letGo {h : AH} {t i l : Nat} {T : Tx} (hT : TxR h t i T) (hw : Wf h) (hl : l < rn (xR T)) (hn : (xD T).length ≤ 1173) (hz : aZ h + 2 ≤ aC h) (hu : aU h + 3 + 4 * (1761 - xcap h t) ≤ gS) :
    Okp (p_X9_letGo t (iI l) h) (fun _ h' => TxR h' t i (xgo T l) ∧ Wf h' ∧ Prs (tS h t) h h' ∧ aZ h' ≤ aZ h + 2 ∧ aU h' + 4 * xcap h t ≤ aU h + 3 + 4 * xcap h' t ∧ xcap h t ≤ xcap h' t ∧ (aR h' (t + 10) 1 = aR h (t + 10) 1 ∨ aZ h ≤ aR h' (t + 10) 1)) := by
  have hz0 := hT.1.2.2.2.2.2.2.2.2.2.2.2.1
  have hn150 := hT.2.1.2.2.1
  have a0 := hT.1.1
  unfold p_X9_letGo p_X9_letGo_0
  simp (disch := omega) only [ck_t, nm_q, bR_s, j_add, j_sub, j_mul, j_nI, j_0, j_le, j_lt, j_eq, j_nat, j_ixe, bI_0, and_self, and_true, true_and, ne_eq, not_false_eq_true, not_true_eq_false, ite_true, ite_false, if_true, if_false, ck_p z_0, ck_p z_1, a0]
  rw [ck_p ⟨by omega, by omega⟩, ck_p (by rw [w_KN1]; decide)]
  refine ok_bR (f_newDeed (k := 1) (w := l) hT hw (Int.le_refl 0) (by decide)) ?_
  rintro _ g ⟨g1, g2, g3, g4, g5, g6, g7, g8⟩
  rw [ck_p g2.1.2.1]
  refine ok_bR (f_X9_perform g2 g3 g1 (dok_1 (Or.inl rfl) hl) hn (by omega) (by rw [g8, g6]; omega)) ?_
  rintro _ h1 ⟨q1, q2, q3, q4, q5, q6, q7⟩
  have q1' := q1
  obtain ⟨b1, b2, b3, b4, b5⟩ := q1
  have b1' := b1
  obtain ⟨c0, k0, k1, k2, k3, k4, k5, k6, k7, k8, k9, k10, k11⟩ := b1
  have kr := b2.1.2.1
  have e1 := f_X7_spotOf b2 (z := l) (by omega) (by omega)
  have e2 := f_X7_nearestShownFrom b2 (rpos_le (xR (xdo T (1, l, 0))) l)
  have hr := rl_rg b2 (qfd (rf (xR (xdo T (1, l, 0)))) (rn (xR (xdo T (1, l, 0))) - rpos (xR (xdo T (1, l, 0))) l) (rpos (xR (xdo T (1, l, 0))) l))
  simp (disch := omega) only [ck_t, nm_q, bR_s, j_add, j_sub, j_mul, j_nI, j_0, j_le, j_lt, j_eq, j_nat, j_ixe, bI_0, and_self, and_true, true_and, ne_eq, not_false_eq_true, not_true_eq_false, ite_true, ite_false, if_true, if_false, ck_p z_0, ck_p z_1, k0, k1, kr, e1, e2]
  have hl2 : l < rn (xR (xdo T (1, l, 0))) := hl
  have e3 := f_X9_letGo_32 (t := t) (i := i) (T := xdo T (1, l, 0)) hl2 hr.1 hr.2 5 0 FU h1 b1' b2 b4 q2 b5 ⟨b3.1, b3.2.1, b3.2.2.1, b3.2.2.2.1, b3.2.2.2.2.1, b3.2.2.2.2.2.1, b3.2.2.2.2.2.2.1, b3.2.2.2.2.2.2.2.2⟩ (fun m hm => by rw [if_neg (Nat.not_lt_zero _)]; exact b3.2.2.2.2.2.2.2.1 m hm) rfl (by decide +kernel)
  refine ok_to e3 ?_
  rintro _ h2 ⟨u1, u2⟩
  have hcap : xcap h2 t = xcap h1 t := by
    unfold xcap lc
    rw [u2.2.2.1, u2.2.1]
  have z2 : aZ h2 = aZ h1 := u2.2.2.2.2.1
  have uu2 : aU h2 = aU h1 := u2.2.2.2.2.2.1
  have ra : aR g (t + 10) = aR h (t + 10) := pr_R g4 (by omega) (by omega)
  have rb : aR h2 = aR h1 := u2.2.2.1
  refine ⟨u1, wf_pi q2 u2, ?_, by omega, by omega, by omega, by rw [rb]; rw [ra] at q7; omega⟩
  refine pr_trN (pr_trN (pr_mono (S2 := tS h t) g4 fun q hq z => absurd z (by omega)) q3 (tS_sub hT g4)) (pi_pr u2) ?_
  intro q _ z
  exact Or.inl ⟨by omega, by omega⟩

