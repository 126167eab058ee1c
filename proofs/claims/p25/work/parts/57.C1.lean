
/-! ===== what holds of the class's state by itself; reading it costs next to nothing ===== -/
def RwG (R : Rw) : Prop := rn R ≤ 150 ∧ (∀ i, i < rn R → ro R i < rn R ∧ 0 ≤ rs R i ∧ rs R i ≤ 65535) ∧ RwP R
def TxG (T : Tx) : Prop := RwG (xR T) ∧ (∀ j, j < 5 → -1 ≤ xC T j ∧ xC T j < rn (xR T)) ∧ xN T ≤ 150 ∧ (∀ j, j < xN T → 0 ≤ xS T j ∧ xS T j ≤ 65535) ∧ -1 ≤ xL T ∧ xL T < 5
theorem txG_of {h : AH} {t i : Nat} {T : Tx} (hT : TxR h t i T) : TxG T := by
  obtain ⟨b1, b2, b3, b4, b5⟩ := hT
  obtain ⟨i1, i2, i3, i4, i5, i6, i7, i8, i9⟩ := b3
  exact ⟨⟨b2.2.2.1, fun i hi => ⟨(b2.2.2.2 i hi).2.1, (b2.2.2.2 i hi).2.2.2.1, (b2.2.2.2 i hi).2.2.2.2.1⟩, b5.1⟩, b5.2.2, i6, fun j hj => (i7 j hj).2, i9⟩
def FmG (F : Fm) : Prop := fT F < 3 ∧ 0 ≤ fS F ∧ fS F ≤ 2 ∧ 0 ≤ fW F ∧ fW F ≤ 150 ∧ (fC F).length ≤ 150 ∧ ∀ k ∈ fC F, ChP k
def CsG (S : Cs) : Prop := (∀ t, t < 3 → TxG (cX S t)) ∧ (∀ a, a < 5 → (cH S a).2 ≤ (cH S a).1.length ∧ (cH S a).1.length ≤ 512) ∧ (∀ F ∈ cF S, FmG F ∧ FmP S F) ∧ cN S ≤ 60 ∧ (cF S).length ≤ 60 ∧ (cQ S).length ≤ 60
theorem csG_of {h : AH} {c : Nat} {S : Cs} (hC : CkR h c S) : CsG S := by
  obtain ⟨hK, hW, hP, hN, hX, hH, hF, hs1, hs2, hf1, hq1, hfp⟩ := hC
  refine ⟨fun t ht => txG_of (hX t ht), fun a ha => ⟨(hH a ha).2.2.2.2.2.1, (hH a ha).2.2.2.2.2.2.1⟩, fun F hF2 => ⟨?_, hfp F hF2⟩, hs2, hf1, hq1⟩
  obtain ⟨fs, qs, f1, f2, -⟩ := hF
  obtain ⟨i, hi, e⟩ := List.getElem_of_mem hF2
  have hf := f2.2 i F (by rw [List.getElem?_eq_getElem hi, e])
  have hp := hfp F hF2
  exact ⟨hp.1, hp.2.1, hp.2.2.1, hp.2.2.2.1, hp.2.2.2.2.1, hf.2.2.2.2.2.2.1, hf.2.2.2.2.2.2.2.1⟩
theorem bI_00 (b : Bool) : (bI b = (0 : Int32)) = (b = false) := by rw [j_0, bI_0]
theorem j_lt0 {a : Int} (h1 : -2147483648 ≤ a) (h2 : a < 2147483648) : (iI a < (0 : Int32)) = (a < 0) := by rw [j_0, j_lt h1 h2 (by decide) (by decide)]
theorem j_le0 {a : Int} (h1 : -2147483648 ≤ a) (h2 : a < 2147483648) : (iI a ≤ (0 : Int32)) = (a ≤ 0) := by rw [j_0, j_le h1 h2 (by decide) (by decide)]
/-- an answer, the state as it was, at most one cell more -/
def AnsR (c : Nat) (h : AH) (o : Out) : Except Nat Int32 → AH → Prop := fun r h' => r = (match o.1 with | .ok v => .ok (iI v) | .error e => .error e) ∧ CkR h' c o.2 ∧ Cst c h 1 6 h'
theorem ansR_ok {c : Nat} {h h' : AH} {v : Int} {S' : Cs} (hC : CkR h' c S') (hs : Cst c h 1 6 h') : AnsR c h (.ok v, S') (.ok (iI v)) h' := ⟨rfl, hC, hs⟩
theorem ansR_ex {c : Nat} {h : AH} {e : Nat} {S : Cs} (hC : CkR h c S) : AnsR c h (.error e, S) (.error e) (uN h 0 6) := ⟨rfl, (ck_ex hC).1, (ck_ex hC).2⟩
theorem ansR_ex1 {c : Nat} {h h1 : AH} {e : Nat} {S : Cs} (hC : CkR h1 c S) (hs : Cst c h 0 0 h1) : AnsR c h (.error e, S) (.error e) (uN h1 0 6) := ⟨rfl, (ck_ex hC).1, cst_mono (cst_tr hs (ck_ex hC).2) (by decide) (by decide)⟩
def AnsVR (c : Nat) (h : AH) (S : Cs) (o : Except Nat Int32) : Except Nat Int32 → AH → Prop := fun r h' => r = o ∧ CkR h' c S ∧ Cst c h 1 6 h'
theorem ansVR_ex {c : Nat} {h : AH} {e : Nat} {S : Cs} (hC : CkR h c S) : AnsVR c h S (.error e) (.error e) (uN h 0 6) := ⟨rfl, (ck_ex hC).1, (ck_ex hC).2⟩
theorem ansVR_ok {c : Nat} {h : AH} {v : Int32} {S : Cs} (hC : CkR h c S) : AnsVR c h S (.ok v) (.ok v) h := ⟨rfl, hC, cst_mono cst_rf (by decide) (by decide)⟩
theorem q_length {h : AH} {c : Nat} {S : Cs} (hC : CkR h c S) (hr : Rdy h S) {b : Int} (b1 : -2147483648 ≤ b) (b2 : b < 2147483648) : Okp (p_X10_length c (iI b) h) (AnsR c h (lnM S b)) := by
  obtain ⟨r1, r2, r3, r4⟩ := hr
  obtain ⟨k0, k1, -⟩ := ck_c0 hC
  unfold p_X10_length p_X10_length_0 lnM
  simp only [k0, k1, ne_eq, not_false_eq_true, ck_t]
  by_cases hb : tOk b
  · rw [bX_ok (f_textAt hC hb.1 hb.2)]
    obtain ⟨b', rfl⟩ : ∃ b' : Nat, b = b' := ⟨b.toNat, by have := hb.1; omega⟩
    have hb3 : b' < 3 := by have := hb.2; omega
    obtain ⟨t1, t2, t3, t4⟩ := t_kind hC hb3
    have hT := hC.2.2.2.2.1 b' hb3
    have hn150 := hT.2.1.2.2.1
    simp only [Int.toNat_natCast]
    rw [if_neg (fun z => z hb), ck_p t1]
    simp only [t2]
    rw [ck_p t3, bR_e (f_X7_shownCount hT.2.1)]
    exact ok_some (ansR_ok hC (cst_mono cst_rf (by decide) (by decide)))
  · rw [bX_er (f_textAt_no hC b1 b2 hb (by omega) (by omega)), if_pos hb]
    exact ok_some (ansR_ex hC)
theorem q_place {h : AH} {c : Nat} {S : Cs} (hC : CkR h c S) (hr : Rdy h S) {a b : Int} (a1 : -2147483648 ≤ a) (a2 : a < 2147483648) (b1 : -2147483648 ≤ b) (b2 : b < 2147483648) : Okp (p_X10_place c (iI a) (iI b) h) (AnsR c h (plM S a b)) := by
  obtain ⟨r1, r2, r3, r4⟩ := hr
  obtain ⟨k0, k1, -⟩ := ck_c0 hC
  unfold p_X10_place p_X10_place_0 plM
  simp only [k0, k1, ne_eq, not_false_eq_true, ck_t]
  by_cases ha : hOk a
  · rw [bX_ok (f_handAt hC ha.1 ha.2)]
    obtain ⟨a', rfl⟩ : ∃ a' : Nat, a = a' := ⟨a.toNat, by have := ha.1; omega⟩
    have ha5 : a' < 5 := by have := ha.2; omega
    rw [ck_p k1]
    by_cases hb : tOk b
    · rw [bX_ok (f_textAt hC hb.1 hb.2)]
      obtain ⟨b', rfl⟩ : ∃ b' : Nat, b = b' := ⟨b.toNat, by have := hb.1; omega⟩
      have hb3 : b' < 3 := by have := hb.2; omega
      obtain ⟨t1, t2, t3, t4⟩ := t_kind hC hb3
      have hT := hC.2.2.2.2.1 b' hb3
      have hn150 := hT.2.1.2.2.1
      simp only [Int.toNat_natCast]
      rw [if_neg (fun z => z ⟨ha, hb⟩), ck_p t1, bR_e (f_X9_cursorPlace hT ha5)]
      exact ok_some (ansR_ok hC (cst_mono cst_rf (by decide) (by decide)))
    · rw [bX_er (f_textAt_no hC b1 b2 hb (by omega) (by omega)), if_pos (fun z => hb z.2)]
      exact ok_some (ansR_ex hC)
  · rw [bX_er (f_handAt_no hC a1 a2 ha (by omega) (by omega)), if_pos (fun z => ha z.1)]
    exact ok_some (ansR_ex hC)
theorem q_version {h : AH} {c : Nat} {S : Cs} (hC : CkR h c S) (hr : Rdy h S) {b : Int} (b1 : -2147483648 ≤ b) (b2 : b < 2147483648) : Okp (p_X10_version c (iI b) h) (AnsVR c h S (o_version S b)) := by
  obtain ⟨r1, r2, r3, r4⟩ := hr
  obtain ⟨k0, k1, -⟩ := ck_c0 hC
  unfold p_X10_version p_X10_version_0 o_version
  simp only [k0, k1, ne_eq, not_false_eq_true, ck_t]
  by_cases hb : tOk b
  · rw [bX_ok (f_textAt hC hb.1 hb.2)]
    obtain ⟨b', rfl⟩ : ∃ b' : Nat, b = b' := ⟨b.toNat, by have := hb.1; omega⟩
    have hb3 : b' < 3 := by have := hb.2; omega
    obtain ⟨t1, t2, t3, t4⟩ := t_kind hC hb3
    have hT := hC.2.2.2.2.1 b' hb3
    have hn150 := hT.2.1.2.2.1
    simp only [Int.toNat_natCast]
    rw [if_neg (fun z => z hb), ck_p t1, hT.2.2.1.2.1]
    exact ok_some (ansVR_ok hC)
  · rw [bX_er (f_textAt_no hC b1 b2 hb (by omega) (by omega)), if_pos hb]
    exact ok_some (ansVR_ex hC)
theorem q_savedVersion {h : AH} {c : Nat} {S : Cs} (hC : CkR h c S) (hr : Rdy h S) {b : Int} (b1 : -2147483648 ≤ b) (b2 : b < 2147483648) : Okp (p_X10_savedVersion c (iI b) h) (AnsVR c h S (o_savedVersion S b)) := by
  obtain ⟨r1, r2, r3, r4⟩ := hr
  obtain ⟨k0, k1, -⟩ := ck_c0 hC
  unfold p_X10_savedVersion p_X10_savedVersion_0 o_savedVersion
  simp only [k0, k1, ne_eq, not_false_eq_true, ck_t]
  by_cases hb : tOk b
  · rw [bX_ok (f_textAt hC hb.1 hb.2)]
    obtain ⟨b', rfl⟩ : ∃ b' : Nat, b = b' := ⟨b.toNat, by have := hb.1; omega⟩
    have hb3 : b' < 3 := by have := hb.2; omega
    obtain ⟨t1, t2, t3, t4⟩ := t_kind hC hb3
    have hT := hC.2.2.2.2.1 b' hb3
    have hn150 := hT.2.1.2.2.1
    simp only [Int.toNat_natCast]
    rw [if_neg (fun z => z hb), ck_p t1, hT.2.2.1.2.2.2.1]
    exact ok_some (ansVR_ok hC)
  · rw [bX_er (f_textAt_no hC b1 b2 hb (by omega) (by omega)), if_pos hb]
    exact ok_some (ansVR_ex hC)
theorem q_savedLength {h : AH} {c : Nat} {S : Cs} (hC : CkR h c S) (hr : Rdy h S) {b : Int} (b1 : -2147483648 ≤ b) (b2 : b < 2147483648) : Okp (p_X10_savedLength c (iI b) h) (AnsVR c h S (o_savedLength S b)) := by
  obtain ⟨r1, r2, r3, r4⟩ := hr
  obtain ⟨k0, k1, -⟩ := ck_c0 hC
  unfold p_X10_savedLength p_X10_savedLength_0 o_savedLength
  simp only [k0, k1, ne_eq, not_false_eq_true, ck_t]
  by_cases hb : tOk b
  · rw [bX_ok (f_textAt hC hb.1 hb.2)]
    obtain ⟨b', rfl⟩ : ∃ b' : Nat, b = b' := ⟨b.toNat, by have := hb.1; omega⟩
    have hb3 : b' < 3 := by have := hb.2; omega
    obtain ⟨t1, t2, t3, t4⟩ := t_kind hC hb3
    have hT := hC.2.2.2.2.1 b' hb3
    have hn150 := hT.2.1.2.2.1
    simp only [Int.toNat_natCast]
    rw [if_neg (fun z => z hb), ck_p t1, hT.2.2.1.2.2.2.2.1]
    exact ok_some (ansVR_ok hC)
  · rw [bX_er (f_textAt_no hC b1 b2 hb (by omega) (by omega)), if_pos hb]
    exact ok_some (ansVR_ex hC)
theorem q_letter {h : AH} {c : Nat} {S : Cs} (hC : CkR h c S) (hr : Rdy h S) {b p : Int} (b1 : -2147483648 ≤ b) (b2 : b < 2147483648) (p1 : -2147483648 ≤ p) (p2 : p < 2147483648) : Okp (p_X10_letter c (iI b) (iI p) h) (AnsR c h (leM S b p)) := by
  obtain ⟨r1, r2, r3, r4⟩ := hr
  obtain ⟨k0, k1, -⟩ := ck_c0 hC
  unfold p_X10_letter p_X10_letter_0 leM
  simp only [k0, k1, ne_eq, not_false_eq_true, ck_t]
  by_cases hb : tOk b
  · rw [bX_ok (f_textAt hC hb.1 hb.2)]
    obtain ⟨b', rfl⟩ : ∃ b' : Nat, b = b' := ⟨b.toNat, by have := hb.1; omega⟩
    have hb3 : b' < 3 := by have := hb.2; omega
    obtain ⟨t1, t2, t3, t4⟩ := t_kind hC hb3
    have hT := hC.2.2.2.2.1 b' hb3
    have hn150 := hT.2.1.2.2.1
    simp only [Int.toNat_natCast]
    rw [if_neg (fun z => z hb), ck_p t1]
    simp only [t2]
    have e := f_shownSign hT.2.1 p1 p2 (by omega) (by omega)
    by_cases hs : rsel (xR (cX S b')) p (rn (xR (cX S b'))) 0 < rn (xR (cX S b'))
    · rw [if_pos hs] at e ⊢
      have hl := (hT.2.1.2.2.2 _ hs).2.1
      have hsg := hT.2.1.2.2.2 _ hl
      rw [bX_ok e, ck_p (j_okC hsg.2.2.2.1 hsg.2.2.2.2.1)]
      exact ok_some (ansR_ok hC (cst_mono cst_rf (by decide) (by decide)))
    · rw [if_neg hs] at e ⊢
      rw [bX_er e]
      exact ok_some (ansR_ex hC)
  · rw [bX_er (f_textAt_no hC b1 b2 hb (by omega) (by omega)), if_pos hb]
    exact ok_some (ansR_ex hC)
theorem q_letterAnew {h : AH} {c : Nat} {S : Cs} (hC : CkR h c S) (hr : Rdy h S) {b p : Int} (b1 : -2147483648 ≤ b) (b2 : b < 2147483648) (p1 : -2147483648 ≤ p) (p2 : p < 2147483648) : Okp (p_X10_letterAnew c (iI b) (iI p) h) (AnsR c h (leM S b p)) := by
  obtain ⟨r1, r2, r3, r4⟩ := hr
  obtain ⟨k0, k1, -⟩ := ck_c0 hC
  unfold p_X10_letterAnew p_X10_letterAnew_0 leM
  simp only [k0, k1, ne_eq, not_false_eq_true, ck_t]
  by_cases hb : tOk b
  · rw [bX_ok (f_textAt hC hb.1 hb.2), if_neg (show ¬ ¬ tOk b from fun z => z hb)]
    obtain ⟨b', rfl⟩ : ∃ b' : Nat, b = b' := ⟨b.toNat, by have := hb.1; omega⟩
    have hb3 : b' < 3 := by have := hb.2; omega
    obtain ⟨t1, t2, t3, t4⟩ := t_kind hC hb3
    have hT := hC.2.2.2.2.1 b' hb3
    simp only [Int.toNat_natCast]
    rw [ck_p t1]
    refine ok_bR (f_X9_rowAnew hT (by have := r3 b' hb3; omega)) ?_
    rintro r h1 ⟨e, q1, q2, q3⟩
    subst e
    have et : tcc c b' = c + 13 + 12 * b' := rfl
    have hC1 : CkR h1 c S := by
      have := ck_txG hC hb3 q1 (wf_pi hC.2.1 q3) (pr_mono (pi_pr q3) fun q _ z => Or.inl (Or.inl (by obtain ⟨z1, z2⟩ := z; omega))) (Nat.le_refl _)
      rw [cset_id] at this
      exact this
    have s1 : Cst c h 0 0 h1 := ⟨pr_mono (pi_pr q3) fun q _ z => Or.inl (by obtain ⟨z1, z2⟩ := z; omega), by rw [q3.2.2.2.2.1]; omega, by rw [q3.2.2.2.2.2.1]; omega⟩
    have hz1 : aZ h1 = aZ h := q3.2.2.2.2.1
    have hu1 : aU h1 = aU h := q3.2.2.2.2.2.1
    have hc1 : aC h1 = aC h := q3.2.2.2.2.2.2.2.1
    have e := f_shownSign q2 p1 p2 (by omega) (by omega)
    by_cases hs : rsel (xR (cX S b')) p (rn (xR (cX S b'))) 0 < rn (xR (cX S b'))
    · rw [if_pos hs] at e ⊢
      have hl := (hT.2.1.2.2.2 _ hs).2.1
      have hsg := hT.2.1.2.2.2 _ hl
      rw [bX_ok e, ck_p (j_okC hsg.2.2.2.1 hsg.2.2.2.2.1)]
      exact ok_some (ansR_ok hC1 (cst_mono s1 (by decide) (by decide)))
    · rw [if_neg hs] at e ⊢
      rw [bX_er e]
      exact ok_some (ansR_ex1 hC1 s1)
  · rw [bX_er (f_textAt_no hC b1 b2 hb (by omega) (by omega)), if_pos hb]
    exact ok_some (ansR_ex hC)
theorem q_savedLetter {h : AH} {c : Nat} {S : Cs} (hC : CkR h c S) (hr : Rdy h S) {b p : Int} (b1 : -2147483648 ≤ b) (b2 : b < 2147483648) (p1 : -2147483648 ≤ p) (p2 : p < 2147483648) : Okp (p_X10_savedLetter c (iI b) (iI p) h) (AnsR c h (slM S b p)) := by
  obtain ⟨r1, r2, r3, r4⟩ := hr
  obtain ⟨k0, k1, -⟩ := ck_c0 hC
  unfold p_X10_savedLetter p_X10_savedLetter_0 p_X10_savedLetter_18 slM
  simp only [k0, k1, ne_eq, not_false_eq_true, ck_t]
  by_cases hb : tOk b
  · rw [bX_ok (f_textAt hC hb.1 hb.2), if_neg (show ¬ ¬ tOk b from fun z => z hb)]
    obtain ⟨b', rfl⟩ : ∃ b' : Nat, b = b' := ⟨b.toNat, by have := hb.1; omega⟩
    have hb3 : b' < 3 := by have := hb.2; omega
    obtain ⟨t1, t2, t3, t4⟩ := t_kind hC hb3
    have hT := hC.2.2.2.2.1 b' hb3
    simp only [Int.toNat_natCast]
    have i6 := hT.2.2.1.2.2.2.2.1
    have i7 := hT.2.2.1.2.2.2.2.2.1
    simp only [j_0, j_lt p1 p2 (show (-2147483648 : Int) ≤ 0 by decide) (show (0 : Int) < 2147483648 by decide)]
    by_cases c1 : p < 0
    · rw [if_pos c1, if_neg (by omega), ck_p ⟨by omega, by omega⟩]
      exact ok_some (ansR_ex hC)
    · rw [if_neg c1, ck_p t1]
      simp only [i6, j_lt p1 p2 (show (-2147483648 : Int) ≤ (xN (cX S b') : Int) by omega) (show (xN (cX S b') : Int) < 2147483648 by omega)]
      by_cases c2 : p < xN (cX S b')
      · have i8 := hT.2.2.1.2.2.2.2.2.2.1 p.toNat (by omega)
        have k2 := hT.1.2.2.2.1
        have k7 := hT.1.2.2.2.2.2.2.2.1
        have k8 := hT.1.2.2.2.2.2.2.2.2.1
        rw [if_pos c2, if_pos ⟨by omega, c2⟩, ck_p t1]
        simp only [k2, k8, j_nat p1 p2, i8.1]
        rw [ck_p ⟨k7, j_ix (by omega) (by omega) (by decide)⟩, ck_p (j_okC i8.2.1 i8.2.2)]
        exact ok_some (ansR_ok hC (cst_mono cst_rf (by decide) (by decide)))
      · rw [if_neg c2, if_neg (by omega), ck_p ⟨by omega, by omega⟩]
        exact ok_some (ansR_ex hC)
  · rw [bX_er (f_textAt_no hC b1 b2 hb (by omega) (by omega)), if_pos hb]
    exact ok_some (ansR_ex hC)
theorem q_state {h : AH} {c : Nat} {S : Cs} (hC : CkR h c S) (hr : Rdy h S) {z : Int} (z1 : -2147483648 ≤ z) (z2 : z < 2147483648) : Okp (p_X10_state c (iI z) h) (AnsR c h (fsM S z)) := by
  obtain ⟨r1, r2, r3, r4⟩ := hr
  obtain ⟨k0, k1, -⟩ := ck_c0 hC
  obtain ⟨fs, qs, f1, f2, f3, f4, f5, f6, f7⟩ := hC.2.2.2.2.2.2.1
  unfold p_X10_state p_X10_state_0 fsM
  simp only [k0, k1, ne_eq, not_false_eq_true, ck_t]
  by_cases hz : fOk S z
  · rw [bX_ok (f_formatAt hC f1 f2 hz.1 hz.2), if_neg (show ¬ ¬ fOk S z from fun w => w hz)]
    have hlt : z.toNat < (cF S).length := by have := hz.1; have := hz.2; omega
    have hF := f2.2 z.toNat _ (List.getElem?_eq_getElem hlt)
    rw [List.getElem?_eq_getElem hlt, ck_p hF.2.2.1, hF.2.2.2.2.1]
    exact ok_some (ansR_ok hC (cst_mono cst_rf (by decide) (by decide)))
  · rw [bX_er (f_formatAt_no hC f1 f2 z1 z2 hz (by omega) (by omega)), if_pos hz]
    exact ok_some (ansR_ex hC)
theorem q_spared {h : AH} {c : Nat} {S : Cs} (hC : CkR h c S) (hr : Rdy h S) {z : Int} (z1 : -2147483648 ≤ z) (z2 : z < 2147483648) : Okp (p_X10_spared c (iI z) h) (AnsR c h (spM S z)) := by
  obtain ⟨r1, r2, r3, r4⟩ := hr
  obtain ⟨k0, k1, k2, k3, k4, k5, k6, k7⟩ := ck_c0 hC
  obtain ⟨fs, qs, f1, f2, f3, f4, f5, f6, f7⟩ := hC.2.2.2.2.2.2.1
  unfold p_X10_spared p_X10_spared_0 p_X10_spared_28 spM
  simp only [k0, k1, ne_eq, not_false_eq_true, ck_t]
  by_cases hz : fOk S z
  · rw [bX_ok (f_formatAt hC f1 f2 hz.1 hz.2), if_neg (show ¬ ¬ fOk S z from fun w => w hz)]
    have hlt : z.toNat < (cF S).length := by have := hz.1; have := hz.2; omega
    have hF := f2.2 z.toNat _ (List.getElem?_eq_getElem hlt)
    have hm : (cF S)[z.toNat] ∈ cF S := List.getElem_mem hlt
    have hP := hC.2.2.2.2.2.2.2.2.2.2.2 _ hm
    rw [List.getElem?_eq_getElem hlt]
    show Okp _ (AnsR c h (.ok (if fS (cF S)[z.toNat] = 0 then (spN S (cF S)[z.toNat] : Int) else fW (cF S)[z.toNat]), S))
    generalize (cF S)[z.toNat] = F at hF hm hP
    generalize fs.getD z.toNat 0 = f at hF
    have k5' := hF.2.2.1
    have v2 := hF.2.2.2.2.1
    have v3 := hF.2.2.2.2.2.1
    obtain ⟨p1, p2, p3, p4, p5, p6⟩ := hP
    rw [ck_p k5']
    simp only [j_0, v2, v3, j_eq (show (-2147483648 : Int) ≤ fS F by omega) (show fS F < 2147483648 by omega) (show (-2147483648 : Int) ≤ 0 by decide) (show (0 : Int) < 2147483648 by decide)]
    by_cases c0 : fS F = 0
    · rw [if_pos c0, if_pos c0, ck_p k1, ck_p k5']
      simp only [k7]
      obtain ⟨xs, l1, l2, l3⟩ := hF.2.2.2.2.2.2.2.2
      have hT := hC.2.2.2.2.1 _ p1
      have et : tcc c (fT F) = c + 13 + 12 * fT F := rfl
      refine ok_bR (f_X3_judge (nb := c + 9) (tc := tcc c) (by omega) rfl p6 l3 hT hF l1 l2 hC.2.2.2.1) ?_
      rintro r h1 ⟨e, jd, -⟩
      subst e
      have pj : Pi (fun q => (c + 5 ≤ q ∧ q ≤ c + 12) ∨ aK h q = 3) h h1 := pi_mono jd.1 fun q z => by omega
      have hC1 := ck_pi hC pj jd.2
      have s1 : Cst c h 0 0 h1 := ⟨pr_mono (pi_pr pj) fun q _ z => by unfold cS; omega, by rw [pj.2.2.2.2.1]; omega, by rw [pj.2.2.2.2.2.1]; omega⟩
      exact ok_some (ansR_ok hC1 (cst_mono s1 (by decide) (by decide)))
    · rw [if_neg c0, if_neg c0, ck_p k5']
      exact ok_some (ansR_ok hC (cst_mono cst_rf (by decide) (by decide)))
  · rw [bX_er (f_formatAt_no hC f1 f2 z1 z2 hz (by omega) (by omega)), if_pos hz]
    exact ok_some (ansR_ex hC)
