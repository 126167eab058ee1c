
/-! ===== a text's methods that write nothing ===== -/
theorem f_X9_cursorSpot {h : AH} {t i j : Nat} {T : Tx} (hT : TxR h t i T) (hj : j < 5) : p_X9_cursorSpot t (iI j) h = some (iI (rpos (xR T) (xC T j)), h) := by
  obtain ⟨⟨a0, k0, k1, k2, k3, k4, k5, k6, k7, k8, k9, k10, k11⟩, b2, b3, b4, b5⟩ := hT
  have hc := b5.2.2 j hj
  have hn := b2.2.2.1
  have e1 := f_X7_spotOf b2 (z := xC T j) (by omega) (by omega)
  have ec := b3.2.2.2.2.2.2.2.1 j hj
  have kr := b2.1.2.1
  unfold p_X9_cursorSpot p_X9_cursorSpot_0 p_X9_cursorSpot_22 p_X9_cursorSpot_23
  simp (disch := omega) only [ck_t, nm_q, bR_s, j_add, j_sub, j_mul, j_nI, j_0, j_le, j_lt, j_eq, j_nat, j_ixe, bI_0, and_self, and_true, true_and, ne_eq, not_false_eq_true, not_true_eq_false, ite_true, ite_false, if_true, if_false, ck_p z_0, ck_p z_1, a0, k0, k1, k5, k8, k9, kr, Int.toNat_natCast, ec, e1]
  rw [if_neg (by omega), if_neg (by omega), ck_p (by omega)]
def cpl (T : Tx) (j : Nat) : Nat := qcn (rf (xR T)) (rpos (xR T) (xC T j))
theorem cpl_le {h : AH} {t i j : Nat} {T : Tx} (hT : TxR h t i T) : cpl T j ≤ 150 := by
  have h1 := rpos_le (xR T) (xC T j)
  have h2 := qcn_le (rf (xR T)) (rpos (xR T) (xC T j))
  have h3 := hT.2.1.2.2.1
  unfold cpl; omega
theorem f_X9_cursorPlace {h : AH} {t i j : Nat} {T : Tx} (hT : TxR h t i T) (hj : j < 5) : p_X9_cursorPlace t (iI j) h = some (iI (cpl T j), h) := by
  have e1 := f_X9_cursorSpot hT hj
  have e2 := f_X7_shownCountAhead hT.2.1 (rpos_le (xR T) (xC T j))
  obtain ⟨⟨a0, k0, k1, k2, k3, k4, k5, k6, k7, k8, k9, k10, k11⟩, b2, b3, b4, b5⟩ := hT
  have kr := b2.1.2.1
  unfold p_X9_cursorPlace p_X9_cursorPlace_0
  simp (disch := omega) only [ck_t, nm_q, bR_s, j_add, j_sub, j_mul, j_nI, j_0, j_le, j_lt, j_eq, j_nat, j_ixe, bI_0, and_self, and_true, true_and, ne_eq, not_false_eq_true, not_true_eq_false, ite_true, ite_false, if_true, if_false, ck_p z_0, ck_p z_1, a0, k0, k1, kr, e1, e2]
  rfl
theorem f_X9_letterAhead {h : AH} {t i j : Nat} {T : Tx} (hT : TxR h t i T) (hj : j < 5) : p_X9_letterAheadOfCursor t (iI j) h = some (iI (if qpv (rf (xR T)) (rpos (xR T) (xC T j)) = 0 then -1 else (ro (xR T) (qpv (rf (xR T)) (rpos (xR T) (xC T j)) - 1) : Int)), h) := by
  have e1 := f_X9_cursorSpot hT hj
  have e2 := f_X7_nearestShownAhead hT.2.1 (rpos_le (xR T) (xC T j))
  obtain ⟨⟨a0, k0, k1, k2, k3, k4, k5, k6, k7, k8, k9, k10, k11⟩, b2, b3, b4, b5⟩ := hT
  have kr := b2.1.2.1
  unfold p_X9_letterAheadOfCursor p_X9_letterAheadOfCursor_0
  simp (disch := omega) only [ck_t, nm_q, bR_s, j_add, j_sub, j_mul, j_nI, j_0, j_le, j_lt, j_eq, j_nat, j_ixe, bI_0, and_self, and_true, true_and, ne_eq, not_false_eq_true, not_true_eq_false, ite_true, ite_false, if_true, if_false, ck_p z_0, ck_p z_1, a0, k0, k1, kr, e1, e2]
def hasC (C : Nat → Int) (z : Int) : Bool := decide (qfd (fun j => decide (C j = z)) 5 0 < 5)
theorem f_X9_hasCursorAt_2 {h : AH} {t i : Nat} {T : Tx} (hT : TxR h t i T) {z : Int} (z1 : -1 ≤ z) (z2 : z < 100000) : ∀ (k j n : Nat), j + k = 5 → k < n → p_X9_hasCursorAt_2 n t (iI z) (iI j) h = some (bI (decide (qfd (fun j => decide (xC T j = z)) k j < 5)), h) := by
  obtain ⟨⟨a0, k0, k1, k2, k3, k4, k5, k6, k7, k8, k9, k10, k11⟩, b2, b3, b4, b5⟩ := hT
  intro k
  induction k with
  | zero =>
    intro j n hk hn
    obtain ⟨n, rfl⟩ : ∃ m, n = m + 1 := ⟨n - 1, by omega⟩
    unfold p_X9_hasCursorAt_2
    simp (disch := omega) only [ck_t, nm_q, bR_s, j_add, j_sub, j_mul, j_nI, j_0, j_le, j_lt, j_eq, j_nat, j_ixe, bI_0, and_self, and_true, true_and, ne_eq, not_false_eq_true, not_true_eq_false, ite_true, ite_false, if_true, if_false, ck_p z_0, ck_p z_1]
    rw [if_pos (by omega), show qfd (fun j => decide (xC T j = z)) 0 j = j from rfl, decide_eq_false (by omega)]
    rfl
  | succ k ih =>
    intro j n hk hn
    obtain ⟨n, rfl⟩ : ∃ m, n = m + 1 := ⟨n - 1, by omega⟩
    have ec := b3.2.2.2.2.2.2.2.1 j (by omega)
    have hc := b5.2.2 j (by omega)
    have hn := b2.2.2.1
    unfold p_X9_hasCursorAt_2
    simp (disch := omega) only [ck_t, nm_q, bR_s, j_add, j_sub, j_mul, j_nI, j_0, j_le, j_lt, j_eq, j_nat, j_ixe, bI_0, and_self, and_true, true_and, ne_eq, not_false_eq_true, not_true_eq_false, ite_true, ite_false, if_true, if_false, ck_p z_0, ck_p z_1, k0, k5, k8, k9, Int.toNat_natCast, ec]
    rw [if_neg (by omega), ck_p (by omega)]
    unfold qfd
    by_cases c : xC T j = z
    · rw [if_pos c, if_pos (decide_eq_true c), decide_eq_true (by omega)]
      rfl
    · rw [if_neg c, if_neg (by rw [decide_eq_false c]; decide)]
      exact ih (j + 1) n (by omega) (by omega)
theorem f_X9_hasCursorAt {h : AH} {t i : Nat} {T : Tx} (hT : TxR h t i T) {z : Int} (z1 : -1 ≤ z) (z2 : z < 100000) : p_X9_hasCursorAt t (iI z) h = some (bI (hasC (xC T) z), h) := by
  have e := f_X9_hasCursorAt_2 hT z1 z2 5 0 FU rfl (by decide +kernel)
  have a0 := hT.1.1
  unfold p_X9_hasCursorAt p_X9_hasCursorAt_0
  simp (disch := omega) only [ck_t, nm_q, bR_s, j_add, j_sub, j_mul, j_nI, j_0, j_le, j_lt, j_eq, j_nat, j_ixe, bI_0, and_self, and_true, true_and, ne_eq, not_false_eq_true, not_true_eq_false, ite_true, ite_false, if_true, if_false, ck_p z_0, ck_p z_1, a0]
  exact e
def isFree (T : Tx) (j : Nat) : Bool := decide (xL T = -1 ∨ xL T = j)
theorem f_X9_isFreeFor {h : AH} {t i j : Nat} {T : Tx} (hT : TxR h t i T) (hj : j < 5) : p_X9_isFreeFor t (iI j) h = some (bI (isFree T j), h) := by
  obtain ⟨⟨a0, k0, k1, k2, k3, k4, k5, k6, k7, k8, k9, k10, k11⟩, b2, b3, b4, b5⟩ := hT
  have e4 := b3.2.2.1
  have l1 := b3.2.2.2.2.2.2.2.2.1
  have l2 := b3.2.2.2.2.2.2.2.2.2
  unfold p_X9_isFreeFor p_X9_isFreeFor_0 p_X9_isFreeFor_16 p_X9_isFreeFor_21 isFree
  simp (disch := omega) only [ck_t, nm_q, bR_s, j_add, j_sub, j_mul, j_nI, j_0, j_le, j_lt, j_eq, j_nat, j_ixe, bI_0, and_self, and_true, true_and, ne_eq, not_false_eq_true, not_true_eq_false, ite_true, ite_false, if_true, if_false, ck_p z_0, ck_p z_1, a0, k0, e4]
  by_cases c1 : xL T = -1
  · rw [if_pos c1, decide_eq_true (Or.inl c1)]; rfl
  · rw [if_neg c1]
    by_cases c2 : xL T = j
    · rw [if_pos c2, decide_eq_true (Or.inr c2)]; rfl
    · rw [if_neg c2, decide_eq_false (by omega)]; rfl
/-! ===== and those that write ===== -/
theorem rwP_put {R : Rw} {s : Nat} {c : Int} (hP : RwP R) (hs : s ≤ rn R) (hro : ∀ i, i < rn R → ro R i < rn R) : RwP (rput R s c) := by
  have e : ∀ i, ro (rput R s c) i = if i < s then ro R i else if i = s then rn R else ro R (i - 1) := fun i => rfl
  have en : rn (rput R s c) = rn R + 1 := rfl
  refine ⟨fun i j hi hj h => ?_, fun l hl => ?_⟩
  · rw [en] at hi hj
    rw [e, e] at h
    by_cases c1 : i < s
    · rw [if_pos c1] at h
      by_cases d1 : j < s
      · rw [if_pos d1] at h; exact hP.1 i j (by omega) (by omega) h
      · rw [if_neg d1] at h
        by_cases d2 : j = s
        · rw [if_pos d2] at h; have := hro i (by omega); omega
        · rw [if_neg d2] at h; have := hP.1 i (j - 1) (by omega) (by omega) h; omega
    · rw [if_neg c1] at h
      by_cases c2 : i = s
      · rw [if_pos c2] at h
        by_cases d1 : j < s
        · rw [if_pos d1] at h; have := hro j (by omega); omega
        · rw [if_neg d1] at h
          by_cases d2 : j = s
          · omega
          · rw [if_neg d2] at h; have := hro (j - 1) (by omega); omega
      · rw [if_neg c2] at h
        by_cases d1 : j < s
        · rw [if_pos d1] at h; have := hP.1 (i - 1) j (by omega) (by omega) h; omega
        · rw [if_neg d1] at h
          by_cases d2 : j = s
          · rw [if_pos d2] at h; have := hro (i - 1) (by omega); omega
          · rw [if_neg d2] at h; have := hP.1 (i - 1) (j - 1) (by omega) (by omega) h; omega
  · rw [en] at hl
    by_cases c1 : l = rn R
    · exact ⟨s, by omega, by rw [e, if_neg (by omega), if_pos rfl, c1]⟩
    · obtain ⟨i, h1, h2⟩ := hP.2 l (by omega)
      by_cases c2 : i < s
      · exact ⟨i, by omega, by rw [e, if_pos c2, h2]⟩
      · exact ⟨i + 1, by omega, by rw [e, if_neg (by omega), if_neg (by omega), Nat.add_sub_cancel, h2]⟩
theorem rwP_do {R : Rw} {d : Dd} (hP : RwP R) (hd : dok R d) (hro : ∀ i, i < rn R → ro R i < rn R) : RwP (ddo R d) ∧ rn R ≤ rn (ddo R d) := by
  unfold ddo
  by_cases c0 : d.1 = 0
  · rw [if_pos c0]; exact ⟨rwP_put hP (hd.2.1 c0).1 hro, Nat.le_succ _⟩
  · rw [if_neg c0]
    by_cases c1 : d.1 = 1
    · rw [if_pos c1]; exact ⟨hP, Nat.le_refl _⟩
    · rw [if_neg c1]
      by_cases c2 : d.1 = 2
      · rw [if_pos c2]; exact ⟨hP, Nat.le_refl _⟩
      · rw [if_neg c2]; exact ⟨hP, Nat.le_refl _⟩
def xdo (T : Tx) (d : Dd) : Tx := (ddo (xR T) d, xC T, xD T ++ [d], xV T, xL T, xW T, xN T, xS T)
def xcap (h : AH) (t : Nat) : Nat := lc h (t + 10)
theorem f_X9_perform {h : AH} {t i x : Nat} {T : Tx} {d : Dd} (hT : TxR h t i T) (hw : Wf h) (hd : DdR h x d) (hk : dok (xR T) d) (hn : (xD T).length ≤ 1173) (hz : aZ h + 1 ≤ aC h) (hu : aU h + 4 * (1761 - xcap h t) ≤ gS) :
    Okp (p_X9_perform t x h) (fun _ h' => TxR h' t i (xdo T d) ∧ Wf h' ∧ Prs (tS h t) h h' ∧ aZ h' ≤ aZ h + 1 ∧ aU h' + 4 * xcap h t ≤ aU h + 4 * xcap h' t ∧ xcap h t ≤ xcap h' t ∧ (aR h' (t + 10) 1 = aR h (t + 10) 1 ∨ aZ h ≤ aR h' (t + 10) 1)) := by
  have hT' := hT
  obtain ⟨b1, b2, b3, b4, b5⟩ := hT
  have b1' := b1
  obtain ⟨a0, k0, k1, k2, k3, k4, k5, k6, k7, k8, k9, k10, k11⟩ := b1
  have x0 := eq_false hd.1
  have kd := hd.2.2.1
  obtain ⟨ds, l1, l2⟩ := b4
  unfold p_X9_perform p_X9_perform_0 p_X9_perform_34
  simp (disch := omega) only [ck_t, nm_q, bR_s, j_add, j_sub, j_mul, j_nI, j_0, j_le, j_lt, j_eq, j_nat, j_ixe, bI_0, and_self, and_true, true_and, ne_eq, not_false_eq_true, not_true_eq_false, ite_true, ite_false, if_true, if_false, ck_p z_0, ck_p z_1, a0, k0, k1, x0, kd]
  refine ok_bR (f_X2_doTo b2 hd hk) ?_
  rintro _ h1 ⟨r1, r2⟩
  have p1 := pi_pr r2
  have hK1 := txK_pi b1' r2
  have l1' : LsR h1 (t + 10) ds := ls_pr l1 p1 (fun z => by obtain ⟨z1, z2⟩ := z; omega) (fun z => by
    obtain ⟨z1, z2⟩ := z
    have kk := l1.2.2.2.2.1
    have q1 := b2.1.2.1; have q2 := b2.1.2.2.2.2.2.1; have q3 := b2.1.2.2.2.2.2.2.2.1; have q4 := b2.1.2.2.2.2.2.2.2.2.2.1
    rcases (show aR h (t + 10) 1 = t + 1 ∨ aR h (t + 10) 1 = t + 1 + 1 ∨ aR h (t + 10) 1 = t + 1 + 2 ∨ aR h (t + 10) 1 = t + 1 + 3 by omega) with e | e | e | e <;> rw [e] at kk <;> omega)
  have kx : ∀ q, rS (t + 1) q → aK h q ≠ 4 := by
    intro q z
    obtain ⟨z1, z2⟩ := z
    have q1 := b2.1.2.1; have q2 := b2.1.2.2.2.2.2.1; have q3 := b2.1.2.2.2.2.2.2.2.1; have q4 := b2.1.2.2.2.2.2.2.2.2.2.1
    rcases (show q = t + 1 ∨ q = t + 1 + 1 ∨ q = t + 1 + 2 ∨ q = t + 1 + 3 by omega) with e | e | e | e <;> rw [e] <;> omega
  have hd1 := dd_pr hd p1 kx
  have l2' : Al (DdR h1) ds (xD T) := al_mono l2 fun y d _ z => dd_pr z p1 kx
  have hw1 := wf_pi hw r2
  have e1 := f_size l1'
  have c0 : aK h1 t = 11 := hK1.2.1
  have c4 : aR h1 t 8 = t + 10 := hK1.2.2.2.2.2.1
  have cl : aK h1 (t + 10) = 1 := l1'.2.1
  have hlen : ds.length = (xD T).length := l2.1
  have hcap : xcap h1 t = xcap h t := by
    unfold xcap lc
    rw [r2.2.2.1, r2.2.1]
  simp (disch := omega) only [ck_t, nm_q, bR_s, j_add, j_sub, j_mul, j_nI, j_0, j_le, j_lt, j_eq, j_nat, j_ixe, bI_0, and_self, and_true, true_and, ne_eq, not_false_eq_true, not_true_eq_false, ite_true, ite_false, if_true, if_false, ck_p z_0, ck_p z_1, c0, c4, cl, e1]
  rw [if_neg (by omega)]
  have hzz : aZ h1 = aZ h := r2.2.2.2.2.1
  have huu : aU h1 = aU h := r2.2.2.2.2.2.1
  have hcc : aC h1 = aC h := r2.2.2.2.2.2.2.2.1
  refine ok_bR (f_add (x := x) l1' hw1 ⟨hd1.1, hd1.2.1, by rw [hd1.2.2.1]; decide, by rw [hd1.2.2.1]; decide⟩ (by omega) (by omega) (by show _ + 4 * (1761 - xcap h1 t) ≤ _; omega)) ?_
  rintro r h2 ⟨g1, g2, g3, g4, g5, g6, g7, g8⟩
  have ek : ∀ q, lS h1 (t + 10) q → aK h1 q ≠ 4 := by
    intro q z
    rcases z with z | z
    · rw [z, cl]; decide
    · rw [z.1, l1'.2.2.2.2.1]; decide
  have en : ∀ q, t ≤ q → q ≤ t + 11 → q ≠ t + 10 → ¬ lS h1 (t + 10) q := by
    intro q z1 z2 z3 z
    rcases z with z | z
    · exact z3 z
    · have kk := l1'.2.2.2.2.1
      have q0 : aK h1 (t + 1) = 9 := r1.1.2.1
      have q2 : aK h1 (t + 2) = 20 := r1.1.2.2.2.2.2.1
      have q3 : aK h1 (t + 3) = 21 := r1.1.2.2.2.2.2.2.2.1
      have q4 : aK h1 (t + 4) = 22 := r1.1.2.2.2.2.2.2.2.2.2.1
      have q5 : aK h1 (t + 5) = 21 := hK1.2.2.2.2.2.2.2.1
      have q6 : aK h1 (t + 11) = 20 := hK1.2.2.2.2.2.2.2.2.2.1
      obtain ⟨-, w0, -, -, -, w1, -, w2, -, w3, -, -⟩ := hK1.2.2.2.2.2.2.2.2.2.2.2.2
      rw [← z.1] at kk
      rcases (show q = t ∨ q = t + 1 ∨ q = t + 2 ∨ q = t + 3 ∨ q = t + 4 ∨ q = t + 5 ∨ q = t + 6 ∨ q = t + 6 + 1 ∨ q = t + 6 + 2 ∨ q = t + 6 + 3 ∨ q = t + 11 by omega) with e | e | e | e | e | e | e | e | e | e | e <;> rw [e] at kk <;> omega
  refine ok_some ⟨⟨txK_pr hK1 g4 (en _ (by omega) (by omega) (by omega)) (en _ (by omega) (by omega) (by omega)), rowR_pr r1 g4 (fun q z1 z2 => en q (by omega) (by omega) (by omega)), ?_, ⟨ds ++ [x], g2, al_app (al_mono l2' fun y e _ z => dd_pr z g4 ek) (dd_pr hd1 g4 ek)⟩, ?_⟩, g3, ?_, by omega, ?_, ?_, ?_⟩
  · refine txI_pr hK1 (T := xdo T d) ?_ g4 (en _ (by omega) (by omega) (by omega)) (en _ (by omega) (by omega) (by omega)) (en _ (by omega) (by omega) (by omega))
    show TxI h1 t i T
    exact txI_pr b1' b3 p1 (fun z => by obtain ⟨z1, z2⟩ := z; omega) (fun z => by obtain ⟨z1, z2⟩ := z; omega) (fun z => by obtain ⟨z1, z2⟩ := z; omega)
  · have hh := rwP_do b5.1 hk (fun i hi => (b2.2.2.2 i hi).2.1)
    refine ⟨hh.1, rpOk_app b5.2.1 hk, fun j hj => ?_⟩
    have hc := b5.2.2 j hj
    show -1 ≤ xC T j ∧ xC T j < rn (ddo (xR T) d)
    omega
  · refine pr_trN (pr_mono p1 fun q _ z => Or.inl ⟨by have := z.1; omega, by have := z.2; omega⟩) g4 ?_
    intro q hq z
    rcases z with z | z
    · exact Or.inl ⟨by omega, by omega⟩
    · refine Or.inr (Or.inr ?_)
      rw [r2.2.2.1, r2.2.2.2.2.2.2.1] at z
      exact z
  · unfold xcap at hcap ⊢; omega
  · unfold xcap at hcap ⊢; omega
  · rw [r2.2.2.1] at g7; omega

