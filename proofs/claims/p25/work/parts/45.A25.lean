/-! ===== calls that ask one text ===== -/
def lnM (S : Cs) (b : Int) : Out := if ¬ tOk b then (.error 1, S) else (.ok (qcn (rf (xR (cX S b.toNat))) (rn (xR (cX S b.toNat)))), S)
theorem f_length {h : AH} {c : Nat} {S : Cs} (hC : CkR h c S) (hr : Rdy h S) {b : Int} (b1 : -2147483648 ≤ b) (b2 : b < 2147483648) : Okp (p_X10_length c (iI b) h) (Ans c h (lnM S b)) := by
  obtain ⟨r1, r2, r3, r4⟩ := hr
  obtain ⟨k0, k1, -⟩ := ck_c0 hC
  unfold p_X10_length p_X10_length_0 lnM
  simp only [k0, k1, ne_eq, not_false_eq_true, ck_t]
  by_cases hb : tOk b
  · rw [bX_ok (f_textAt hC hb.1 hb.2)]
    obtain ⟨b', rfl⟩ : ∃ b' : Nat, b = b' := ⟨b.toNat, by have := hb.1; omega⟩
    have hb3 : b' < 3 := by have := hb.2; omega
    obtain ⟨t1, t2, t3, t4⟩ := t_kind hC hb3
    have hT := hC.2.2.2.2.1 b' hb3
    have hn150 := hT.2.1.2.2.1
    simp only [Int.toNat_natCast]
    rw [if_neg (fun z => z hb), ck_p t1]
    simp only [t2]
    rw [ck_p t3, bR_e (f_X7_shownCount hT.2.1)]
    exact ok_some (ans_ok hC (cst_mono cst_rf (by decide) (by decide)))
  · rw [bX_er (f_textAt_no hC b1 b2 hb (by omega) (by omega)), if_pos hb]
    exact ok_some (ans_ex hC cst_rf (by decide) (by decide))
def plM (S : Cs) (a b : Int) : Out := if ¬ (hOk a ∧ tOk b) then (.error 1, S) else (.ok (cpl (cX S b.toNat) a.toNat), S)
theorem f_place {h : AH} {c : Nat} {S : Cs} (hC : CkR h c S) (hr : Rdy h S) {a b : Int} (a1 : -2147483648 ≤ a) (a2 : a < 2147483648) (b1 : -2147483648 ≤ b) (b2 : b < 2147483648) : Okp (p_X10_place c (iI a) (iI b) h) (Ans c h (plM S a b)) := by
  obtain ⟨r1, r2, r3, r4⟩ := hr
  obtain ⟨k0, k1, -⟩ := ck_c0 hC
  unfold p_X10_place p_X10_place_0 plM
  simp only [k0, k1, ne_eq, not_false_eq_true, ck_t]
  by_cases ha : hOk a
  · rw [bX_ok (f_handAt hC ha.1 ha.2)]
    obtain ⟨a', rfl⟩ : ∃ a' : Nat, a = a' := ⟨a.toNat, by have := ha.1; omega⟩
    have ha5 : a' < 5 := by have := ha.2; omega
    rw [ck_p k1]
    by_cases hb : tOk b
    · rw [bX_ok (f_textAt hC hb.1 hb.2)]
      obtain ⟨b', rfl⟩ : ∃ b' : Nat, b = b' := ⟨b.toNat, by have := hb.1; omega⟩
      have hb3 : b' < 3 := by have := hb.2; omega
      obtain ⟨t1, t2, t3, t4⟩ := t_kind hC hb3
      have hT := hC.2.2.2.2.1 b' hb3
      have hn150 := hT.2.1.2.2.1
      simp only [Int.toNat_natCast]
      rw [if_neg (fun z => z ⟨ha, hb⟩), ck_p t1, bR_e (f_X9_cursorPlace hT ha5)]
      exact ok_some (ans_ok hC (cst_mono cst_rf (by decide) (by decide)))
    · rw [bX_er (f_textAt_no hC b1 b2 hb (by omega) (by omega)), if_pos (fun z => hb z.2)]
      exact ok_some (ans_ex hC cst_rf (by decide) (by decide))
  · rw [bX_er (f_handAt_no hC a1 a2 ha (by omega) (by omega)), if_pos (fun z => ha z.1)]
    exact ok_some (ans_ex hC cst_rf (by decide) (by decide))
/-- an answer that is an int of the state's own -/
def AnsV (c : Nat) (h : AH) (S : Cs) (o : Except Nat Int32) : Except Nat Int32 → AH → Prop := fun r h' => r = o ∧ CkR h' c S ∧ Cst c h 1000 14100 h'
theorem ansV_ex {c : Nat} {h : AH} {e : Nat} {S : Cs} (hC : CkR h c S) : AnsV c h S (.error e) (.error e) (uN h 0 6) := ⟨rfl, (ck_ex hC).1, cst_mono (ck_ex hC).2 (by decide) (by decide)⟩
theorem ansV_ok {c : Nat} {h : AH} {v : Int32} {S : Cs} (hC : CkR h c S) : AnsV c h S (.ok v) (.ok v) h := ⟨rfl, hC, cst_mono cst_rf (by decide) (by decide)⟩
def o_version (S : Cs) (b : Int) : Except Nat Int32 := if ¬ tOk b then .error 1 else .ok (xV (cX S b.toNat))
theorem f_version {h : AH} {c : Nat} {S : Cs} (hC : CkR h c S) (hr : Rdy h S) {b : Int} (b1 : -2147483648 ≤ b) (b2 : b < 2147483648) : Okp (p_X10_version c (iI b) h) (AnsV c h S (o_version S b)) := by
  obtain ⟨r1, r2, r3, r4⟩ := hr
  obtain ⟨k0, k1, -⟩ := ck_c0 hC
  unfold p_X10_version p_X10_version_0 o_version
  simp only [k0, k1, ne_eq, not_false_eq_true, ck_t]
  by_cases hb : tOk b
  · rw [bX_ok (f_textAt hC hb.1 hb.2)]
    obtain ⟨b', rfl⟩ : ∃ b' : Nat, b = b' := ⟨b.toNat, by have := hb.1; omega⟩
    have hb3 : b' < 3 := by have := hb.2; omega
    obtain ⟨t1, t2, t3, t4⟩ := t_kind hC hb3
    have hT := hC.2.2.2.2.1 b' hb3
    have hn150 := hT.2.1.2.2.1
    simp only [Int.toNat_natCast]
    rw [if_neg (fun z => z hb), ck_p t1, hT.2.2.1.2.1]
    exact ok_some (ansV_ok hC)
  · rw [bX_er (f_textAt_no hC b1 b2 hb (by omega) (by omega)), if_pos hb]
    exact ok_some (ansV_ex hC)
def o_savedVersion (S : Cs) (b : Int) : Except Nat Int32 := if ¬ tOk b then .error 1 else .ok (xW (cX S b.toNat))
theorem f_savedVersion {h : AH} {c : Nat} {S : Cs} (hC : CkR h c S) (hr : Rdy h S) {b : Int} (b1 : -2147483648 ≤ b) (b2 : b < 2147483648) : Okp (p_X10_savedVersion c (iI b) h) (AnsV c h S (o_savedVersion S b)) := by
  obtain ⟨r1, r2, r3, r4⟩ := hr
  obtain ⟨k0, k1, -⟩ := ck_c0 hC
  unfold p_X10_savedVersion p_X10_savedVersion_0 o_savedVersion
  simp only [k0, k1, ne_eq, not_false_eq_true, ck_t]
  by_cases hb : tOk b
  · rw [bX_ok (f_textAt hC hb.1 hb.2)]
    obtain ⟨b', rfl⟩ : ∃ b' : Nat, b = b' := ⟨b.toNat, by have := hb.1; omega⟩
    have hb3 : b' < 3 := by have := hb.2; omega
    obtain ⟨t1, t2, t3, t4⟩ := t_kind hC hb3
    have hT := hC.2.2.2.2.1 b' hb3
    have hn150 := hT.2.1.2.2.1
    simp only [Int.toNat_natCast]
    rw [if_neg (fun z => z hb), ck_p t1, hT.2.2.1.2.2.2.1]
    exact ok_some (ansV_ok hC)
  · rw [bX_er (f_textAt_no hC b1 b2 hb (by omega) (by omega)), if_pos hb]
    exact ok_some (ansV_ex hC)
def o_savedLength (S : Cs) (b : Int) : Except Nat Int32 := if ¬ tOk b then .error 1 else .ok (iI (xN (cX S b.toNat)))
theorem f_savedLength {h : AH} {c : Nat} {S : Cs} (hC : CkR h c S) (hr : Rdy h S) {b : Int} (b1 : -2147483648 ≤ b) (b2 : b < 2147483648) : Okp (p_X10_savedLength c (iI b) h) (AnsV c h S (o_savedLength S b)) := by
  obtain ⟨r1, r2, r3, r4⟩ := hr
  obtain ⟨k0, k1, -⟩ := ck_c0 hC
  unfold p_X10_savedLength p_X10_savedLength_0 o_savedLength
  simp only [k0, k1, ne_eq, not_false_eq_true, ck_t]
  by_cases hb : tOk b
  · rw [bX_ok (f_textAt hC hb.1 hb.2)]
    obtain ⟨b', rfl⟩ : ∃ b' : Nat, b = b' := ⟨b.toNat, by have := hb.1; omega⟩
    have hb3 : b' < 3 := by have := hb.2; omega
    obtain ⟨t1, t2, t3, t4⟩ := t_kind hC hb3
    have hT := hC.2.2.2.2.1 b' hb3
    have hn150 := hT.2.1.2.2.1
    simp only [Int.toNat_natCast]
    rw [if_neg (fun z => z hb), ck_p t1, hT.2.2.1.2.2.2.2.1]
    exact ok_some (ansV_ok hC)
  · rw [bX_er (f_textAt_no hC b1 b2 hb (by omega) (by omega)), if_pos hb]
    exact ok_some (ansV_ex hC)
/-- the letter at a place: its spot, or the end -/
theorem f_shownSign {h : AH} {a : Nat} {R : Rw} (hr : RowR h a R) {p : Int} (p1 : -2147483648 ≤ p) (p2 : p < 2147483648) (hz : aZ h + 1 ≤ aC h) (hu : aU h + 6 ≤ gS) : p_X10_shownSign a (iI p) h = if rsel R p (rn R) 0 < rn R then some (.ok (iI (rs R (ro R (rsel R p (rn R) 0)))), h) else some (.error 1, uN h 0 6) := by
  have a0 := hr.1.1
  have ka := hr.1.2.1
  have e1 := f_X7_shownLetter hr p1 p2
  have rg := rl_rg hr (rsel R p (rn R) 0)
  have hn := hr.2.2.1
  unfold p_X10_shownSign p_X10_shownSign_0
  simp only [a0, ka, ne_eq, not_false_eq_true, ck_t]
  rw [bR_e e1]
  by_cases c : rsel R p (rn R) 0 < rn R
  · have hl := (hr.2.2.2 _ c).2.1
    have e : rl R (rsel R p (rn R) 0) = (ro R (rsel R p (rn R) 0) : Int) := by unfold rl; rw [if_pos c]
    have hs := hr.2.2.2 _ hl
    rw [if_pos c, e, if_neg (by rw [j_eq (by omega) (by omega) (by decide) (by decide)]; omega), ck_p ka, bR_e (f_X7_signOf hr hl), ck_p (j_okC hs.2.2.2.1 hs.2.2.2.2.1)]
  · have e : rl R (rsel R p (rn R) 0) = -1 := by unfold rl; rw [if_neg c]
    rw [if_neg c, e, if_pos rfl, ck_p ⟨hz, hu⟩]
def leM (S : Cs) (b p : Int) : Out :=
  if ¬ tOk b then (.error 1, S)
  else if rsel (xR (cX S b.toNat)) p (rn (xR (cX S b.toNat))) 0 < rn (xR (cX S b.toNat)) then (.ok (rs (xR (cX S b.toNat)) (ro (xR (cX S b.toNat)) (rsel (xR (cX S b.toNat)) p (rn (xR (cX S b.toNat))) 0))), S) else (.error 1, S)
theorem f_letter {h : AH} {c : Nat} {S : Cs} (hC : CkR h c S) (hr : Rdy h S) {b p : Int} (b1 : -2147483648 ≤ b) (b2 : b < 2147483648) (p1 : -2147483648 ≤ p) (p2 : p < 2147483648) : Okp (p_X10_letter c (iI b) (iI p) h) (Ans c h (leM S b p)) := by
  obtain ⟨r1, r2, r3, r4⟩ := hr
  obtain ⟨k0, k1, -⟩ := ck_c0 hC
  unfold p_X10_letter p_X10_letter_0 leM
  simp only [k0, k1, ne_eq, not_false_eq_true, ck_t]
  by_cases hb : tOk b
  · rw [bX_ok (f_textAt hC hb.1 hb.2)]
    obtain ⟨b', rfl⟩ : ∃ b' : Nat, b = b' := ⟨b.toNat, by have := hb.1; omega⟩
    have hb3 : b' < 3 := by have := hb.2; omega
    obtain ⟨t1, t2, t3, t4⟩ := t_kind hC hb3
    have hT := hC.2.2.2.2.1 b' hb3
    have hn150 := hT.2.1.2.2.1
    simp only [Int.toNat_natCast]
    rw [if_neg (fun z => z hb), ck_p t1]
    simp only [t2]
    have e := f_shownSign hT.2.1 p1 p2 (by omega) (by omega)
    by_cases hs : rsel (xR (cX S b')) p (rn (xR (cX S b'))) 0 < rn (xR (cX S b'))
    · rw [if_pos hs] at e ⊢
      have hl := (hT.2.1.2.2.2 _ hs).2.1
      have hsg := hT.2.1.2.2.2 _ hl
      rw [bX_ok e, ck_p (j_okC hsg.2.2.2.1 hsg.2.2.2.2.1)]
      exact ok_some (ans_ok hC (cst_mono cst_rf (by decide) (by decide)))
    · rw [if_neg hs] at e ⊢
      rw [bX_er e]
      exact ok_some (ans_ex hC cst_rf (by decide) (by decide))
  · rw [bX_er (f_textAt_no hC b1 b2 hb (by omega) (by omega)), if_pos hb]
    exact ok_some (ans_ex hC cst_rf (by decide) (by decide))
