
/-! ===== the other things that a text does ===== -/
/-- what a text's writes come to: at most a cells, b slots beside what its list of deeds grows -/
def Tst (h : AH) (t i a b : Nat) (T : Tx) (h' : AH) : Prop := TxR h' t i T ∧ Wf h' ∧ Prs (tS h t) h h' ∧ aZ h' ≤ aZ h + a ∧ aU h' + 4 * xcap h t ≤ aU h + b + 4 * xcap h' t ∧ xcap h t ≤ xcap h' t ∧ (aR h' (t + 10) 1 = aR h (t + 10) 1 ∨ aZ h ≤ aR h' (t + 10) 1)
theorem dok_3 {R : Rw} {l : Nat} {c : Int} (hl : l < rn R) (c1 : 0 ≤ c) (c2 : c ≤ 65535) : dok R (3, l, c) := ⟨by show (3 : Nat) ≤ 3; omega, fun (z : (3 : Nat) = 0) => by omega, fun _ => hl, c1, c2⟩
theorem dok_0 {R : Rw} {s : Nat} {c : Int} (hs : s ≤ rn R) (hf : rn R < 150) (c1 : 0 ≤ c) (c2 : c ≤ 65535) : dok R (0, s, c) := ⟨by show (0 : Nat) ≤ 3; omega, fun _ => ⟨hs, hf⟩, fun (z : (0 : Nat) ≠ 0) => absurd rfl z, c1, c2⟩
theorem tst_perform {h g : AH} {t i x a b : Nat} {T : Tx} {d : Dd} (hT : TxR h t i T) (hg : TxR g t i T) (hw : Wf g) (p : Prs (fun q => aZ h ≤ q) h g) (hd : DdR g x d) (hk : dok (xR T) d) (hn : (xD T).length ≤ 1173) (hz : aZ g + 1 ≤ aC g) (hu : aU g + 4 * (1761 - xcap g t) ≤ gS) (e1 : aZ g ≤ aZ h + a) (e2 : aU g ≤ aU h + b) (e3 : xcap g t = xcap h t) :
    Okp (p_X9_perform t x g) (fun _ h' => Tst h t i (a + 1) b (xdo T d) h') := by
  refine ok_to (f_X9_perform hg hw hd hk hn hz hu) ?_
  rintro _ h1 ⟨q1, q2, q3, q4, q5, q6, q7⟩
  have hz0 := hT.1.2.2.2.2.2.2.2.2.2.2.2.1
  have ra : aR g (t + 10) = aR h (t + 10) := pr_R p (by omega) (by omega)
  have rz := p.1
  rw [ra] at q7
  refine ⟨q1, q2, pr_trN (pr_mono (S2 := tS h t) p fun q hq z => absurd z (by omega)) q3 (tS_sub hT p), by omega, by omega, by omega, by omega⟩
theorem f_X9_become {h : AH} {t i l : Nat} {c : Int} {T : Tx} (hT : TxR h t i T) (hw : Wf h) (hl : l < rn (xR T)) (c1 : 0 ≤ c) (c2 : c ≤ 65535) (hn : (xD T).length ≤ 1173) (hz : aZ h + 2 ≤ aC h) (hu : aU h + 3 + 4 * (1761 - xcap h t) ≤ gS) :
    Okp (p_X9_become t (iI l) (iI c) h) (fun _ h' => Tst h t i 2 3 (xdo T (3, l, c)) h') := by
  have hz0 := hT.1.2.2.2.2.2.2.2.2.2.2.2.1
  have a0 := hT.1.1
  unfold p_X9_become p_X9_become_0
  simp (disch := omega) only [ck_t, nm_q, bR_s, j_add, j_sub, j_mul, j_nI, j_0, j_le, j_lt, j_eq, j_nat, j_ixe, bI_0, and_self, and_true, true_and, ne_eq, not_false_eq_true, not_true_eq_false, ite_true, ite_false, if_true, if_false, ck_p z_0, ck_p z_1, a0]
  rw [ck_p ⟨by omega, by omega⟩, ck_p (by rw [w_KN1]; decide)]
  refine ok_bR (f_newDeed (k := 3) (w := l) hT hw c1 c2) ?_
  rintro _ g ⟨g1, g2, g3, g4, g5, g6, g7, g8⟩
  rw [ck_p g2.1.2.1]
  refine ok_bR (tst_perform (a := 1) (b := 3) hT g2 g3 g4 g1 (dok_3 hl c1 c2) hn (by omega) (by rw [g8, g6]; omega) (by omega) (by omega) g8) ?_
  intro _ h1 q
  exact ok_some q
/-- a new version -/
def xver (T : Tx) : Tx := (xR T, xC T, xD T, xV T + iI 1, xL T, xW T, xN T, xS T)
theorem tst_ver {h h1 : AH} {t i a b : Nat} {T : Tx} (hT0 : TxR h t i (xR T, xC T, xD T, xV T, xL T, xW T, xN T, xS T) ∨ True) (q : Tst h t i a b T h1) : Tst h t i a b (xver T) (uI h1 t 3 (aI h1 t 3 + iI 1)) := by
  obtain ⟨q1, q2, q3, q4, q5, q6, q7⟩ := q
  have p1 : Pi (fun q => q = t) h1 (uI h1 t 3 (aI h1 t 3 + iI 1)) := pi_uI rfl
  obtain ⟨b1, b2, b3, b4, b5⟩ := q1
  obtain ⟨ds, l1, l2⟩ := b4
  have kt : aK h1 t = 11 := b1.2.1
  refine ⟨⟨txK_pi b1 p1, rowR_pr b2 (pi_pr p1) (fun q z1 z2 => by omega), ?_, txD_pr (T := T) ⟨ds, l1, l2⟩ (pi_pr p1) (by omega) (fun e => by have := l1.2.2.2.2.1; rw [e] at this; omega) (fun q e => by rw [e]; omega), b5⟩, wf_pi q2 p1, pr_trN q3 (pi_pr p1) (fun q _ z => Or.inl ⟨by omega, by omega⟩), by rw [p1.2.2.2.2.1]; exact q4, ?_, ?_, q7⟩
  · obtain ⟨i1, i2, i3, i4, i5, i6, i7, i8, i9⟩ := b3
    unfold TxI
    rw [w_I3 (by decide), w_I1, w_I3 (by decide), w_I3 (by decide), w_I3 (by decide)]
    refine ⟨i1, by rw [i2]; rfl, i3, i4, i5, i6, fun j hj => ?_, fun j hj => ?_, i9⟩
    · rw [w_I2 (by omega)]; exact i7 j hj
    · rw [w_I2 (by omega)]; exact i8 j hj
  · have e : xcap (uI h1 t 3 (aI h1 t 3 + iI 1)) t = xcap h1 t := rfl
    have e2 : aU (uI h1 t 3 (aI h1 t 3 + iI 1)) = aU h1 := rfl
    omega
  · exact q6
theorem f_X9_turn {h : AH} {t i l : Nat} {T : Tx} {b : Bool} (hT : TxR h t i T) (hw : Wf h) (hl : l < rn (xR T)) (hn : (xD T).length ≤ 1173) (hz : aZ h + 2 ≤ aC h) (hu : aU h + 3 + 4 * (1761 - xcap h t) ≤ gS) :
    Okp (p_X9_turn t (iI l) (bI b) h) (fun _ h' => Tst h t i 2 3 (if rt (xR T) l = b then T else xver (if b = true then xdo T (2, l, 0) else xgo T l)) h') := by
  have hz0 := hT.1.2.2.2.2.2.2.2.2.2.2.2.1
  have hn150 := hT.2.1.2.2.1
  have a0 := hT.1.1
  have k0 := hT.1.2.1
  have k1 := hT.1.2.2.1
  have kr := hT.2.1.1.2.1
  have e1 := f_X7_shows hT.2.1 (z := l) (by omega) (by omega)
  have e2 : rshow (xR T) l = rt (xR T) l := by
    unfold rshow rhas
    rw [decide_eq_true (by omega)]; rfl
  rw [e2] at e1
  unfold p_X9_turn p_X9_turn_0 p_X9_turn_39
  simp (disch := omega) only [ck_t, nm_q, bR_s, j_add, j_sub, j_mul, j_nI, j_0, j_le, j_lt, j_eq, j_nat, j_ixe, bI_0, and_self, and_true, true_and, ne_eq, not_false_eq_true, not_true_eq_false, ite_true, ite_false, if_true, if_false, ck_p z_0, ck_p z_1, a0, k0, k1, kr, e1]
  by_cases c : rt (xR T) l = b
  · rw [if_pos (by rw [c]), if_pos c]
    exact ok_some ⟨hT, hw, pr_rf, by omega, by omega, Nat.le_refl _, Or.inl rfl⟩
  · rw [if_neg (fun z : bI _ = bI _ => c ?_), if_neg c]
    · cases b
      · rw [if_pos rfl, if_neg (by decide)]
        refine ok_bR (f_X9_letGo hT hw hl hn hz hu) ?_
        intro _ h1 q
        have q' : Tst h t i 2 3 (xgo T l) h1 := q
        rw [ck_p q'.1.1.2.1, ck_p q'.1.1.2.1]
        exact ok_some (tst_ver (Or.inr trivial) q')
      · rw [if_neg (by decide), if_pos rfl]
        rw [ck_p ⟨by omega, by omega⟩, ck_p (by rw [w_KN1]; decide)]
        refine ok_bR (f_newDeed (k := 2) (w := l) hT hw (Int.le_refl 0) (by decide)) ?_
        rintro _ g ⟨g1, g2, g3, g4, g5, g6, g7, g8⟩
        rw [ck_p g2.1.2.1]
        refine ok_bR (tst_perform (a := 1) (b := 3) hT g2 g3 g4 g1 (dok_1 (Or.inr rfl) hl) hn (by omega) (by rw [g8, g6]; omega) (by omega) (by omega) g8) ?_
        intro _ h1 q
        rw [ck_p q.1.1.2.1, ck_p q.1.1.2.1]
        exact ok_some (tst_ver (Or.inr trivial) q)
    · cases hb : rt (xR T) l <;> cases b <;> simp_all <;> exact absurd z (by decide +kernel)
theorem f_X9_putAhead {h : AH} {t i j : Nat} {c : Int} {T : Tx} (hT : TxR h t i T) (hw : Wf h) (hj : j < 5) (hf : rn (xR T) < 150) (c1 : 0 ≤ c) (c2 : c ≤ 65535) (hn : (xD T).length ≤ 1173) (hz : aZ h + 2 ≤ aC h) (hu : aU h + 3 + 4 * (1761 - xcap h t) ≤ gS) :
    Okp (p_X9_putAheadOfCursor t (iI j) (iI c) h) (fun r h' => r = iI (rn (xR T)) ∧ Tst h t i 2 3 (xver (xdo T (0, rpos (xR T) (xC T j), c))) h') := by
  have hz0 := hT.1.2.2.2.2.2.2.2.2.2.2.2.1
  have a0 := hT.1.1
  have k0 := hT.1.2.1
  have k1 := hT.1.2.2.1
  have kr := hT.2.1.1.2.1
  have e1 := f_X7_count hT.2.1
  have p0 : Prs (fun q => aZ h ≤ q) h (uN h 4 3) := pr_uN
  have hT0 := txR_new hT hw p0
  have e2 := f_X9_cursorSpot hT0 hj
  have kk : aK (uN h 4 3) t = 11 := hT0.1.2.1
  unfold p_X9_putAheadOfCursor p_X9_putAheadOfCursor_0
  simp (disch := omega) only [ck_t, nm_q, bR_s, j_add, j_sub, j_mul, j_nI, j_0, j_le, j_lt, j_eq, j_nat, j_ixe, bI_0, and_self, and_true, true_and, ne_eq, not_false_eq_true, not_true_eq_false, ite_true, ite_false, if_true, if_false, ck_p z_0, ck_p z_1, a0, k0, k1, kr, e1]
  rw [ck_p ⟨by omega, by omega⟩, ck_p kk, bR_e e2, ck_p (by rw [w_KN1]; decide)]
  refine ok_bR (f_newDeed (k := 0) (w := rpos (xR T) (xC T j)) hT hw c1 c2) ?_
  rintro _ g ⟨g1, g2, g3, g4, g5, g6, g7, g8⟩
  rw [ck_p g2.1.2.1]
  refine ok_bR (tst_perform (a := 1) (b := 3) hT g2 g3 g4 g1 (dok_0 (rpos_le _ _) hf c1 c2) hn (by omega) (by rw [g8, g6]; omega) (by omega) (by omega) g8) ?_
  intro _ h1 q
  rw [ck_p q.1.1.2.1, ck_p q.1.1.2.1]
  exact ok_some ⟨rfl, tst_ver (Or.inr trivial) q⟩
/-! what is done anew -/
theorem f_X9_rowAnew_9 {t i : Nat} {T : Tx} (h12 : (xD T).length ≤ 1174) : ∀ (k m n : Nat) (h : AH) (R : Rw), TxR h t i T → RowR h (t + 6) R → rpOk ((xD T).drop m) R (xR T) → m + k = (xD T).length → k < n →
    Okp (p_X9_rowAnew_9 n t (iI m) h) (fun r h' => r = t + 6 ∧ TxR h' t i T ∧ RowR h' (t + 6) (xR T) ∧ Pi (rS (t + 6)) h h') := by
  intro k
  induction k with
  | zero =>
    intro m n h R hT hR hrp hm hn
    obtain ⟨n, rfl⟩ : ∃ m, n = m + 1 := ⟨n - 1, by omega⟩
    have hT' := hT
    obtain ⟨⟨a0, k0, k1, k2, k3, k4, k5, k6, k7, k8, k9, k10, k11⟩, b2, b3, ⟨ds, l1, l2⟩, b5⟩ := hT
    have e1 := f_size l1
    have kl := l1.2.1
    have hl := l2.1
    unfold p_X9_rowAnew_9
    simp (disch := omega) only [ck_t, nm_q, bR_s, j_add, j_sub, j_mul, j_nI, j_0, j_le, j_lt, j_eq, j_nat, j_ixe, bI_0, and_self, and_true, true_and, ne_eq, not_false_eq_true, not_true_eq_false, ite_true, ite_false, if_true, if_false, ck_p z_0, ck_p z_1, k0, k4, kl, e1, k3]
    rw [if_pos (by omega)]
    rw [List.drop_eq_nil_of_le (by omega)] at hrp
    have hrp' : xR T = R := hrp
    refine ok_some ⟨rfl, hT', by rw [hrp']; exact hR, pi_rf⟩
  | succ k ih =>
    intro m n h R hT hR hrp hm hn
    obtain ⟨n, rfl⟩ : ∃ m, n = m + 1 := ⟨n - 1, by omega⟩
    have hT' := hT
    obtain ⟨⟨a0, k0, k1, k2, k3, k4, k5, k6, k7, k8, k9, k10, k11⟩, b2, b3, ⟨ds, l1, l2⟩, b5⟩ := hT
    have e1 := f_size l1
    have kl := l1.2.1
    have hl := l2.1
    have hmlt : m < (xD T).length := by omega
    have e2 := f_get l1 (i := m) (by omega)
    have hd := l2.2 m _ (List.getElem?_eq_getElem hmlt)
    rw [List.drop_eq_getElem_cons hmlt] at hrp
    have kd := hd.2.2.1
    have k6r := k11.2.1
    unfold p_X9_rowAnew_9
    simp (disch := omega) only [ck_t, nm_q, bR_s, j_add, j_sub, j_mul, j_nI, j_0, j_le, j_lt, j_eq, j_nat, j_ixe, bI_0, and_self, and_true, true_and, ne_eq, not_false_eq_true, not_true_eq_false, ite_true, ite_false, if_true, if_false, ck_p z_0, ck_p z_1, k0, k4, kl, e1, e2, k3, kd]
    rw [if_neg (by omega)]
    refine ok_bR (f_X2_doTo hR hd hrp.1) ?_
    rintro _ h1 ⟨r1, r2⟩
    have p1 := pi_pr r2
    have hT1 : TxR h1 t i T := by
      obtain ⟨z0, z1, z2, z3, z4, z5, z6, z7, z8, z9, z10, z11⟩ := k11
      have q5 : ∀ q, rS (t + 6) q → aK h q = 9 ∨ aK h q = 20 ∨ aK h q = 21 ∨ aK h q = 22 := by
        intro q z
        obtain ⟨y1, y2⟩ := z
        rcases (show q = t + 6 ∨ q = t + 6 + 1 ∨ q = t + 6 + 2 ∨ q = t + 6 + 3 by omega) with e | e | e | e <;> rw [e] <;> omega
      have hlz := l1.2.2.2.2.1
      refine ⟨txK_pi hT'.1 r2, rowR_pr b2 p1 (fun q y1 y2 z => by obtain ⟨w1, w2⟩ := z; omega), txI_pr hT'.1 b3 p1 (fun z => by obtain ⟨w1, w2⟩ := z; omega) (fun z => by obtain ⟨w1, w2⟩ := z; omega) (fun z => by obtain ⟨w1, w2⟩ := z; omega), txD_pr ⟨ds, l1, l2⟩ p1 (fun z => by obtain ⟨w1, w2⟩ := z; omega) (fun z => by have := q5 _ z; omega) (fun q z => by have := q5 _ z; omega), b5⟩
    refine ok_to (ih (m + 1) n h1 (ddo R (xD T)[m]) hT1 r1 hrp.2 (by omega) (by omega)) (fun r h2 q => ⟨q.1, q.2.1, q.2.2.1, pi_tr r2 q.2.2.2⟩)
theorem f_X9_rowAnew {h : AH} {t i : Nat} {T : Tx} (hT : TxR h t i T) (hn : (xD T).length ≤ 1174) : Okp (p_X9_rowAnew t h) (fun r h' => r = t + 6 ∧ TxR h' t i T ∧ RowR h' (t + 6) (xR T) ∧ Pi (rS (t + 6)) h h') := by
  have hT' := hT
  obtain ⟨⟨a0, k0, k1, k2, k3, k4, k5, k6, k7, k8, k9, k10, k11⟩, b2, b3, ⟨ds, l1, l2⟩, b5⟩ := hT
  have k6r := k11.2.1
  unfold p_X9_rowAnew p_X9_rowAnew_0
  simp (disch := omega) only [ck_t, nm_q, bR_s, j_add, j_sub, j_mul, j_nI, j_0, j_le, j_lt, j_eq, j_nat, j_ixe, bI_0, and_self, and_true, true_and, ne_eq, not_false_eq_true, not_true_eq_false, ite_true, ite_false, if_true, if_false, ck_p z_0, ck_p z_1, a0, k0, k3, k6r]
  refine ok_bR (f_X7_empty k11) ?_
  rintro _ h1 ⟨r1, r2⟩
  have p1 := pi_pr r2
  obtain ⟨z0, z1, z2, z3, z4, z5, z6, z7, z8, z9, z10, z11⟩ := k11
  have q5 : ∀ q, rS (t + 6) q → aK h q = 9 ∨ aK h q = 20 ∨ aK h q = 21 ∨ aK h q = 22 := by
    intro q z
    obtain ⟨y1, y2⟩ := z
    rcases (show q = t + 6 ∨ q = t + 6 + 1 ∨ q = t + 6 + 2 ∨ q = t + 6 + 3 by omega) with e | e | e | e <;> rw [e] <;> omega
  have hlz := l1.2.2.2.2.1
  have hT1 : TxR h1 t i T := ⟨txK_pi hT'.1 r2, rowR_pr b2 p1 (fun q y1 y2 z => by obtain ⟨w1, w2⟩ := z; omega), txI_pr hT'.1 b3 p1 (fun z => by obtain ⟨w1, w2⟩ := z; omega) (fun z => by obtain ⟨w1, w2⟩ := z; omega) (fun z => by obtain ⟨w1, w2⟩ := z; omega), txD_pr ⟨ds, l1, l2⟩ p1 (fun z => by obtain ⟨w1, w2⟩ := z; omega) (fun z => by have := q5 _ z; omega) (fun q z => by have := q5 _ z; omega), b5⟩
  have e := f_X9_rowAnew_9 hn (xD T).length 0 FU h1 r0 hT1 r1 (by rw [List.drop_zero]; exact b5.2.1) (by omega) (by unfold FU; omega)
  exact ok_to e (fun r h2 q => ⟨q.1, q.2.1, q.2.2.1, pi_tr r2 q.2.2.2⟩)

