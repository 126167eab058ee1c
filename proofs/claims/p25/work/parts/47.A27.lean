/-! ===== moveTo, letterAnew, lock, savedLetter, queued ===== -/
def mvT (T : Tx) (j : Nat) (p : Int) : Tx := xset T j (rl (xR T) (rsel (xR T) p (rn (xR T)) 0))
def mvM (S : Cs) (a b p : Int) : Out :=
  if ¬ (hOk a ∧ tOk b) then (.error 1, S)
  else if p < 0 ∨ (qcn (rf (xR (cX S b.toNat))) (rn (xR (cX S b.toNat))) : Int) < p then (.error 1, S)
  else (.ok (cpl (cX S b.toNat) a.toNat), (cset (cX S) b.toNat (mvT (cX S b.toNat) a.toNat p), cH S, cF S, cQ S, cN S))
theorem f_moveTo {h : AH} {c : Nat} {S : Cs} (hC : CkR h c S) (hr : Rdy h S) {a b p : Int} (a1 : -2147483648 ≤ a) (a2 : a < 2147483648) (b1 : -2147483648 ≤ b) (b2 : b < 2147483648) (p1 : -2147483648 ≤ p) (p2 : p < 2147483648) : Okp (p_X10_moveTo c (iI a) (iI b) (iI p) h) (Ans c h (mvM S a b p)) := by
  obtain ⟨r1, r2, r3, r4⟩ := hr
  obtain ⟨k0, k1, -⟩ := ck_c0 hC
  unfold p_X10_moveTo p_X10_moveTo_0 p_X10_moveTo_29 mvM
  simp only [k0, k1, ne_eq, not_false_eq_true, ck_t]
  by_cases ha : hOk a
  · rw [bX_ok (f_handAt hC ha.1 ha.2), ck_p k1]
    by_cases hb : tOk b
    · rw [bX_ok (f_textAt hC hb.1 hb.2), if_neg (show ¬ ¬ (hOk a ∧ tOk b) from fun z => z ⟨ha, hb⟩)]
      obtain ⟨b', rfl⟩ : ∃ b' : Nat, b = b' := ⟨b.toNat, by have := hb.1; omega⟩
      obtain ⟨a', rfl⟩ : ∃ a' : Nat, a = a' := ⟨a.toNat, by have := ha.1; omega⟩
      have hb3 : b' < 3 := by have := hb.2; omega
      have ha5 : a' < 5 := by have := ha.2; omega
      simp only [Int.toNat_natCast]
      obtain ⟨t1, t2, t3, t4⟩ := t_kind hC hb3
      have hT := hC.2.2.2.2.1 b' hb3
      have hn150 := hT.2.1.2.2.1
      have hcn := qcn_le (rf (xR (cX S b'))) (rn (xR (cX S b')))
      simp only [j_0, j_lt p1 p2 (show (-2147483648 : Int) ≤ 0 by decide) (show (0 : Int) < 2147483648 by decide)]
      by_cases c1 : p < 0
      · rw [if_pos c1, if_pos (Or.inl c1), ck_p ⟨by omega, by omega⟩]
        exact ok_some (ans_ex hC cst_rf (by decide) (by decide))
      · rw [if_neg c1, ck_p t1]
        simp only [t2]
        rw [ck_p t3, bR_e (f_X7_shownCount hT.2.1)]
        simp only [j_le p1 p2 (show (-2147483648 : Int) ≤ (qcn (rf (xR (cX S b'))) (rn (xR (cX S b'))) : Int) by omega) (show (qcn (rf (xR (cX S b'))) (rn (xR (cX S b'))) : Int) < 2147483648 by omega)]
        by_cases c2 : p ≤ (qcn (rf (xR (cX S b'))) (rn (xR (cX S b'))) : Int)
        · rw [if_pos c2, if_neg (by omega), ck_p t1, bR_e (f_X9_cursorPlace hT ha5), ck_p t1]
          simp only [t2]
          rw [ck_p t3, bR_e (f_X7_shownLetter hT.2.1 p1 p2), ck_p t1]
          have rg := rl_rg hT.2.1 (rsel (xR (cX S b')) p (rn (xR (cX S b'))) 0)
          refine ok_bR (f_X9_setCursor hT hC.2.1 ha5 rg.1 rg.2) ?_
          intro _ h1 st
          have hC1 := ck_tx hC hb3 st (Nat.le_refl _)
          exact ok_some (ans_ok hC1 (cst_mono (cst_tx hT hb3 st) (by omega) (by omega)))
        · rw [if_neg c2, if_pos (by omega), ck_p ⟨by omega, by omega⟩]
          exact ok_some (ans_ex hC cst_rf (by decide) (by decide))
    · rw [bX_er (f_textAt_no hC b1 b2 hb (by omega) (by omega)), if_pos (fun z => hb z.2)]
      exact ok_some (ans_ex hC cst_rf (by decide) (by decide))
  · rw [bX_er (f_handAt_no hC a1 a2 ha (by omega) (by omega)), if_pos (fun z => ha z.1)]
    exact ok_some (ans_ex hC cst_rf (by decide) (by decide))
theorem f_letterAnew {h : AH} {c : Nat} {S : Cs} (hC : CkR h c S) (hr : Rdy h S) {b p : Int} (b1 : -2147483648 ≤ b) (b2 : b < 2147483648) (p1 : -2147483648 ≤ p) (p2 : p < 2147483648) : Okp (p_X10_letterAnew c (iI b) (iI p) h) (Ans c h (leM S b p)) := by
  obtain ⟨r1, r2, r3, r4⟩ := hr
  obtain ⟨k0, k1, -⟩ := ck_c0 hC
  unfold p_X10_letterAnew p_X10_letterAnew_0 leM
  simp only [k0, k1, ne_eq, not_false_eq_true, ck_t]
  by_cases hb : tOk b
  · rw [bX_ok (f_textAt hC hb.1 hb.2), if_neg (show ¬ ¬ tOk b from fun z => z hb)]
    obtain ⟨b', rfl⟩ : ∃ b' : Nat, b = b' := ⟨b.toNat, by have := hb.1; omega⟩
    have hb3 : b' < 3 := by have := hb.2; omega
    obtain ⟨t1, t2, t3, t4⟩ := t_kind hC hb3
    have hT := hC.2.2.2.2.1 b' hb3
    simp only [Int.toNat_natCast]
    rw [ck_p t1]
    refine ok_bR (f_X9_rowAnew hT (by have := r3 b' hb3; omega)) ?_
    rintro r h1 ⟨e, q1, q2, q3⟩
    subst e
    have et : tcc c b' = c + 13 + 12 * b' := rfl
    have hC1 : CkR h1 c S := by
      have := ck_txG hC hb3 q1 (wf_pi hC.2.1 q3) (pr_mono (pi_pr q3) fun q _ z => Or.inl (Or.inl (by obtain ⟨z1, z2⟩ := z; omega))) (Nat.le_refl _)
      rw [cset_id] at this
      exact this
    have s1 : Cst c h 0 0 h1 := ⟨pr_mono (pi_pr q3) fun q _ z => Or.inl (by obtain ⟨z1, z2⟩ := z; omega), by rw [q3.2.2.2.2.1]; omega, by rw [q3.2.2.2.2.2.1]; omega⟩
    have hz1 : aZ h1 = aZ h := q3.2.2.2.2.1
    have hu1 : aU h1 = aU h := q3.2.2.2.2.2.1
    have hc1 : aC h1 = aC h := q3.2.2.2.2.2.2.2.1
    have e := f_shownSign q2 p1 p2 (by omega) (by omega)
    by_cases hs : rsel (xR (cX S b')) p (rn (xR (cX S b'))) 0 < rn (xR (cX S b'))
    · rw [if_pos hs] at e ⊢
      have hl := (hT.2.1.2.2.2 _ hs).2.1
      have hsg := hT.2.1.2.2.2 _ hl
      rw [bX_ok e, ck_p (j_okC hsg.2.2.2.1 hsg.2.2.2.2.1)]
      exact ok_some (ans_ok hC1 (cst_mono s1 (by decide) (by decide)))
    · rw [if_neg hs] at e ⊢
      rw [bX_er e]
      exact ok_some (ans_ex hC1 s1 (by decide) (by decide))
  · rw [bX_er (f_textAt_no hC b1 b2 hb (by omega) (by omega)), if_pos hb]
    exact ok_some (ans_ex hC cst_rf (by decide) (by decide))
def slM (S : Cs) (b p : Int) : Out :=
  if ¬ tOk b then (.error 1, S)
  else if 0 ≤ p ∧ p < xN (cX S b.toNat) then (.ok (xS (cX S b.toNat) p.toNat), S) else (.error 1, S)
theorem f_savedLetter {h : AH} {c : Nat} {S : Cs} (hC : CkR h c S) (hr : Rdy h S) {b p : Int} (b1 : -2147483648 ≤ b) (b2 : b < 2147483648) (p1 : -2147483648 ≤ p) (p2 : p < 2147483648) : Okp (p_X10_savedLetter c (iI b) (iI p) h) (Ans c h (slM S b p)) := by
  obtain ⟨r1, r2, r3, r4⟩ := hr
  obtain ⟨k0, k1, -⟩ := ck_c0 hC
  unfold p_X10_savedLetter p_X10_savedLetter_0 p_X10_savedLetter_18 slM
  simp only [k0, k1, ne_eq, not_false_eq_true, ck_t]
  by_cases hb : tOk b
  · rw [bX_ok (f_textAt hC hb.1 hb.2), if_neg (show ¬ ¬ tOk b from fun z => z hb)]
    obtain ⟨b', rfl⟩ : ∃ b' : Nat, b = b' := ⟨b.toNat, by have := hb.1; omega⟩
    have hb3 : b' < 3 := by have := hb.2; omega
    obtain ⟨t1, t2, t3, t4⟩ := t_kind hC hb3
    have hT := hC.2.2.2.2.1 b' hb3
    simp only [Int.toNat_natCast]
    have i6 := hT.2.2.1.2.2.2.2.1
    have i7 := hT.2.2.1.2.2.2.2.2.1
    simp only [j_0, j_lt p1 p2 (show (-2147483648 : Int) ≤ 0 by decide) (show (0 : Int) < 2147483648 by decide)]
    by_cases c1 : p < 0
    · rw [if_pos c1, if_neg (by omega), ck_p ⟨by omega, by omega⟩]
      exact ok_some (ans_ex hC cst_rf (by decide) (by decide))
    · rw [if_neg c1, ck_p t1]
      simp only [i6, j_lt p1 p2 (show (-2147483648 : Int) ≤ (xN (cX S b') : Int) by omega) (show (xN (cX S b') : Int) < 2147483648 by omega)]
      by_cases c2 : p < xN (cX S b')
      · have i8 := hT.2.2.1.2.2.2.2.2.2.1 p.toNat (by omega)
        have k2 := hT.1.2.2.2.1
        have k7 := hT.1.2.2.2.2.2.2.2.1
        have k8 := hT.1.2.2.2.2.2.2.2.2.1
        rw [if_pos c2, if_pos ⟨by omega, c2⟩, ck_p t1]
        simp only [k2, k8, j_nat p1 p2, i8.1]
        rw [ck_p ⟨k7, j_ix (by omega) (by omega) (by decide)⟩, ck_p (j_okC i8.2.1 i8.2.2)]
        exact ok_some (ans_ok hC (cst_mono cst_rf (by decide) (by decide)))
      · rw [if_neg c2, if_neg (by omega), ck_p ⟨by omega, by omega⟩]
        exact ok_some (ans_ex hC cst_rf (by decide) (by decide))
  · rw [bX_er (f_textAt_no hC b1 b2 hb (by omega) (by omega)), if_pos hb]
    exact ok_some (ans_ex hC cst_rf (by decide) (by decide))
theorem f_queued {h : AH} {c : Nat} {S : Cs} (hC : CkR h c S) : p_X10_queued c h = some (iI (cQ S).length, h) := by
  obtain ⟨k0, k1, k2, k3, k4, k5, -⟩ := ck_c0 hC
  obtain ⟨fs, qs, f1, f2, f3, f4, f5, f6, f7⟩ := hC.2.2.2.2.2.2.1
  unfold p_X10_queued p_X10_queued_0
  simp only [k0, k1, k5, ne_eq, not_false_eq_true, ck_t]
  rw [ck_p f5.2.1, bR_e (f_size f5), f6.1]
def loT (T : Tx) (j : Nat) : Tx := (xR T, xC T, xD T, xV T, (if xL T = j then -1 else (j : Int)), xW T, xN T, xS T)
def loM (S : Cs) (a b : Int) : Out :=
  if ¬ (hOk a ∧ tOk b) then (.error 1, S)
  else if isFree (cX S b.toNat) a.toNat = false then (.error 3, S)
  else (.ok (if xL (cX S b.toNat) = a.toNat then 0 else 1), (cset (cX S) b.toNat (loT (cX S b.toNat) a.toNat), cH S, cF S, cQ S, cN S))
theorem f_lock {h : AH} {c : Nat} {S : Cs} (hC : CkR h c S) (hr : Rdy h S) {a b : Int} (a1 : -2147483648 ≤ a) (a2 : a < 2147483648) (b1 : -2147483648 ≤ b) (b2 : b < 2147483648) : Okp (p_X10_lock c (iI a) (iI b) h) (Ans c h (loM S a b)) := by
  obtain ⟨r1, r2, r3, r4⟩ := hr
  obtain ⟨k0, k1, -⟩ := ck_c0 hC
  unfold p_X10_lock p_X10_lock_0 loM
  simp only [k0, k1, ne_eq, not_false_eq_true, ck_t]
  by_cases ha : hOk a
  · rw [bX_ok (f_handAt hC ha.1 ha.2), ck_p k1]
    by_cases hb : tOk b
    · rw [bX_ok (f_textAt hC hb.1 hb.2), if_neg (show ¬ ¬ (hOk a ∧ tOk b) from fun z => z ⟨ha, hb⟩)]
      obtain ⟨b', rfl⟩ : ∃ b' : Nat, b = b' := ⟨b.toNat, by have := hb.1; omega⟩
      obtain ⟨a', rfl⟩ : ∃ a' : Nat, a = a' := ⟨a.toNat, by have := ha.1; omega⟩
      have hb3 : b' < 3 := by have := hb.2; omega
      have ha5 : a' < 5 := by have := ha.2; omega
      simp only [Int.toNat_natCast]
      obtain ⟨t1, t2, t3, t4⟩ := t_kind hC hb3
      have hT := hC.2.2.2.2.1 b' hb3
      obtain ⟨i1, i2, i3, i4, i5, i6, i7, i8, i9, i10⟩ := id hT.2.2.1
      rw [ck_p t1, bR_e (f_X9_isFreeFor hT ha5)]
      simp only [j_0, bI_0]
      cases hf : isFree (cX S b') a'
      · rw [if_pos (show false = false from rfl), if_pos (show false = false from rfl), ck_p ⟨by omega, by omega⟩]
        exact ok_some (ans_ex hC cst_rf (by decide) (by decide))
      · rw [if_neg (show ¬ (true = false) by decide), if_neg (show ¬ (true = false) by decide), ck_p t1]
        simp only [i3, j_eq (show (-2147483648 : Int) ≤ xL (cX S b') by omega) (show xL (cX S b') < 2147483648 by omega) (show (-2147483648 : Int) ≤ (a' : Int) by omega) (show (a' : Int) < 2147483648 by omega)]
        have fin : ∀ v : Int, v = (if xL (cX S b') = (a' : Int) then -1 else (a' : Int)) → Okp (p_X10_lock_44 (iI a') (tcc c b') (tcc c b') (iI v) h) (Ans c h (.ok (if xL (cX S b') = (a' : Int) then 0 else 1), (cset (cX S) b' (loT (cX S b') a'), cH S, cF S, cQ S, cN S))) := by
          intro v ev
          have hv : -1 ≤ v ∧ v < 5 := by rw [ev]; split <;> omega
          unfold p_X10_lock_44 p_X10_lock_60
          rw [ck_p t1, nm_q, ck_p (show aK (uI h (tcc c b') 4 (iI v)) (tcc c b') = 11 from t1)]
          simp only [w_I1, j_eq (show (-2147483648 : Int) ≤ v by omega) (show v < 2147483648 by omega) (show (-2147483648 : Int) ≤ (a' : Int) by omega) (show (a' : Int) < 2147483648 by omega), ck_p z_1, ck_p z_0]
          have p0 : Pi (fun q => q = tcc c b' ∨ q = tcc c b' + 5) h (uI h (tcc c b') 4 (iI v)) := pi_uI (Or.inl rfl)
          have st : Tst h (tcc c b') b' 0 0 (loT (cX S b') a') (uI h (tcc c b') 4 (iI v)) := by
            refine tx_int hT hC.2.1 p0 rfl rfl rfl ?_
            unfold TxI
            rw [w_I3 (show (0 : Nat) ≠ 4 by decide), w_I3 (show (3 : Nat) ≠ 4 by decide), w_I1, w_I3 (show (5 : Nat) ≠ 4 by decide), w_I3 (show (6 : Nat) ≠ 4 by decide), ev]
            refine ⟨i1, i2, rfl, i4, i5, i6, fun j hj => ?_, fun j hj => ?_, ?_, ?_⟩
            · rw [w_I2 (by omega)]; exact i7 j hj
            · rw [w_I2 (by omega)]; exact i8 j hj
            · show -1 ≤ (if xL (cX S b') = (a' : Int) then (-1 : Int) else (a' : Int)); rw [← ev]; exact hv.1
            · show (if xL (cX S b') = (a' : Int) then (-1 : Int) else (a' : Int)) < 5; rw [← ev]; exact hv.2
          have hC1 := ck_tx hC hb3 st (Nat.le_refl _)
          have s1 := cst_mono (cst_tx hT hb3 st) (show 0 ≤ 1000 by decide) (show 0 + 7044 ≤ 14100 by decide)
          by_cases d : xL (cX S b') = (a' : Int)
          · rw [if_pos d] at ev ⊢
            rw [if_neg (by omega)]
            exact ok_some (ans_ok hC1 s1)
          · rw [if_neg d] at ev ⊢
            rw [if_pos ev]
            exact ok_some (ans_ok hC1 s1)
        by_cases d : xL (cX S b') = (a' : Int)
        · rw [if_pos d]
          exact fin (-1) (by rw [if_pos d])
        · rw [if_neg d]
          exact fin a' (by rw [if_neg d])
    · rw [bX_er (f_textAt_no hC b1 b2 hb (by omega) (by omega)), if_pos (fun z => hb z.2)]
      exact ok_some (ans_ex hC cst_rf (by decide) (by decide))
  · rw [bX_er (f_handAt_no hC a1 a2 ha (by omega) (by omega)), if_pos (fun z => ha z.1)]
    exact ok_some (ans_ex hC cst_rf (by decide) (by decide))
