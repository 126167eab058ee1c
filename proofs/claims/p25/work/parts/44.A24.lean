
theorem tS_new {h g : AH} {t i : Nat} {T : Tx} (hT : TxR h t i T) (p : Prs (fun q => aZ h ≤ q) h g) : ∀ q, q < aZ h → tS g t q → tS h t q ∨ aZ h ≤ q := fun q hq z => Or.inl (tS_sub hT p q hq z)
theorem f_type {h : AH} {c : Nat} {S : Cs} (hC : CkR h c S) (hr : Rdy h S) {a b ch : Int} (a1 : -2147483648 ≤ a) (a2 : a < 2147483648) (b1 : -2147483648 ≤ b) (b2 : b < 2147483648) (c1 : 0 ≤ ch) (c2 : ch ≤ 65535) : Okp (p_X10_type c (iI a) (iI b) (iI ch) h) (Ans c h (tyM S a b ch)) := by
  obtain ⟨r1, r2, r3, r4⟩ := hr
  obtain ⟨k0, k1, -⟩ := ck_c0 hC
  unfold p_X10_type p_X10_type_0 tyM
  simp only [k0, k1, ne_eq, not_false_eq_true, ck_t]
  by_cases ha : hOk a
  · rw [bX_ok (f_handAt hC ha.1 ha.2), ck_p k1]
    by_cases hb : tOk b
    · rw [bX_ok (f_textAt hC hb.1 hb.2), if_neg (fun z => z ⟨ha, hb⟩), bR_e (f_canBeTyped c1 c2)]
      obtain ⟨b', rfl⟩ : ∃ b' : Nat, b = b' := ⟨b.toNat, by have := hb.1; omega⟩
      obtain ⟨a', rfl⟩ : ∃ a' : Nat, a = a' := ⟨a.toNat, by have := ha.1; omega⟩
      have hb3 : b' < 3 := by have := hb.2; omega
      have ha5 : a' < 5 := by have := ha.2; omega
      simp only [Int.toNat_natCast]
      obtain ⟨t1, t2, t3, t4⟩ := t_kind hC hb3
      have hT := hC.2.2.2.2.1 b' hb3
      simp only [j_0, bI_0]
      cases hl : isLet ch
      · rw [if_pos rfl, if_pos rfl, ck_p ⟨by omega, by omega⟩]
        exact ok_some (ans_ex hC cst_rf (by decide) (by decide))
      · rw [if_neg (by decide), if_neg (by decide)]
        simp only [t1, t2, t3, ck_t]
        rw [bR_e (f_X7_isFull hT.2.1)]
        simp only [bI_0]
        by_cases hf : 150 ≤ rn (xR (cX S b'))
        · rw [decide_eq_true hf, if_neg (by decide), if_pos hf, ck_p ⟨by omega, by omega⟩]
          exact ok_some (ans_ex hC cst_rf (by decide) (by decide))
        · rw [decide_eq_false hf, if_pos rfl, if_neg hf, ck_p ⟨by omega, by omega⟩, nm_q]
          have p0 : Prs (fun q => aZ h ≤ q) h (uN h 2 3) := pr_uN
          have hC1 : CkR (uN h 2 3) c S := ck_gen hC (wf_uN hC.2.1 (by decide)) p0 (fun q z => Or.inr z)
          have s1 : Cst c h 1 3 (uN h 2 3) := cst_new p0 (Nat.le_refl _) (Nat.le_refl _)
          have kz : aK (uN h 2 3) (aZ h) = 2 := w_KN1 h 2 3
          have hzz : c + 62 < aZ h := hC.1.2.2.2.2.2.2.2.2.2.2.2.2.2.2
          have gz : aZ (uN h 2 3) = aZ h + 1 := rfl
          have gu : aU (uN h 2 3) = aU h + 3 := rfl
          have gc : aC (uN h 2 3) = aC h := rfl
          generalize uN h 2 3 = g at *
          have hT1 := hC1.2.2.2.2.1 b' hb3
          have xc1 := xcap_le hT1
          rw [ck_p (t_kind hC1 hb3).1]
          refine ok_bR (f_X9_putAhead hT1 hC1.2.1 ha5 (by omega) c1 c2 (r3 _ hb3) (by omega) (by omega)) ?_
          rintro r h2 ⟨e2, st⟩
          have s2 := cst_tx hT1 hb3 st
          have kz2 : aK h2 (aZ h) = 2 := by rw [pr_K st.2.2.1 (by omega)]; exact kz
          rw [ck_p (by rw [kz2]; decide)]
          have z2 := st.2.2.2.1
          have u2 := s2.2.2
          have c2' := st.2.2.1.2.2.1
          have z2' := st.2.2.1.1
          refine ok_to (act_tail (x := aZ h) (l := rn (xR (cX S b'))) (bo := true) hC hb3 ha5 st.1 st.2.1 (pr_trN (pr_mono p0 fun q _ z => Or.inr z) st.2.2.1 (tS_new hT p0)) (by show _ ≤ rn (rput _ _ _); exact Nat.le_succ _) kz2 (Nat.le_refl _) (by omega) (r4 _ ha5) e2 rfl (by omega) (by omega)) ?_
          rintro r3' h3 ⟨w1, w2, w3⟩
          subst w1
          refine ans_ok w2 (cst_mono (cst_tr (cst_tr s1 s2) w3) (by omega) (by omega))
    · rw [bX_er (f_textAt_no hC b1 b2 hb (by omega) (by omega)), if_pos (fun z => hb z.2)]
      exact ok_some (ans_ex hC cst_rf (by decide) (by decide))
  · rw [bX_er (f_handAt_no hC a1 a2 ha (by omega) (by omega)), if_pos (fun z => ha z.1)]
    exact ok_some (ans_ex hC cst_rf (by decide) (by decide))
/-- the spot, and 1 more, of the letter ahead of a cursor; 0: none -/
def era (T : Tx) (j : Nat) : Nat := qpv (rf (xR T)) (rpos (xR T) (xC T j))
def erT (T : Tx) (j : Nat) : Tx := xver (xgo T (ro (xR T) (era T j - 1)))
def erM (S : Cs) (a b : Int) : Out :=
  if ¬ (hOk a ∧ tOk b) then (.error 1, S)
  else if era (cX S b.toNat) a.toNat = 0 then (.error 3, S)
  else (.ok (cpl (erT (cX S b.toNat) a.toNat) a.toNat),
    (cset (cX S) b.toNat (erT (cX S b.toNat) a.toNat),
     cset (cH S) a.toNat ((cH S a.toNat).1.take (cH S a.toNat).2 ++ [(b.toNat, ro (xR (cX S b.toNat)) (era (cX S b.toNat) a.toNat - 1), false)], (cH S a.toNat).2 + 1), cF S, cQ S, cN S))
theorem f_erase {h : AH} {c : Nat} {S : Cs} (hC : CkR h c S) (hr : Rdy h S) {a b : Int} (a1 : -2147483648 ≤ a) (a2 : a < 2147483648) (b1 : -2147483648 ≤ b) (b2 : b < 2147483648) : Okp (p_X10_erase c (iI a) (iI b) h) (Ans c h (erM S a b)) := by
  obtain ⟨r1, r2, r3, r4⟩ := hr
  obtain ⟨k0, k1, -⟩ := ck_c0 hC
  unfold p_X10_erase p_X10_erase_0 erM
  simp only [k0, k1, ne_eq, not_false_eq_true, ck_t]
  by_cases ha : hOk a
  · rw [bX_ok (f_handAt hC ha.1 ha.2), ck_p k1]
    by_cases hb : tOk b
    · rw [bX_ok (f_textAt hC hb.1 hb.2), if_neg (fun z => z ⟨ha, hb⟩)]
      obtain ⟨b', rfl⟩ : ∃ b' : Nat, b = b' := ⟨b.toNat, by have := hb.1; omega⟩
      obtain ⟨a', rfl⟩ : ∃ a' : Nat, a = a' := ⟨a.toNat, by have := ha.1; omega⟩
      have hb3 : b' < 3 := by have := hb.2; omega
      have ha5 : a' < 5 := by have := ha.2; omega
      simp only [Int.toNat_natCast]
      obtain ⟨t1, t2, t3, t4⟩ := t_kind hC hb3
      have hT := hC.2.2.2.2.1 b' hb3
      have e1 := f_X9_letterAhead hT ha5
      have hzz : c + 62 < aZ h := hC.1.2.2.2.2.2.2.2.2.2.2.2.2.2.2
      have hpl := rpos_le (xR (cX S b')) (xC (cX S b') a')
      have hpv := qpv_le (rf (xR (cX S b'))) (rpos (xR (cX S b')) (xC (cX S b') a'))
      have hn150 := hT.2.1.2.2.1
      rw [ck_p t1, bR_e e1]
      by_cases h0 : era (cX S b') a' = 0
      · have h0' : qpv (rf (xR (cX S b'))) (rpos (xR (cX S b')) (xC (cX S b') a')) = 0 := h0
        rw [if_pos h0', if_pos rfl, if_pos h0, ck_p ⟨by omega, by omega⟩]
        exact ok_some (ans_ex hC cst_rf (by decide) (by decide))
      · have h0' : ¬ qpv (rf (xR (cX S b'))) (rpos (xR (cX S b')) (xC (cX S b') a')) = 0 := h0
        have hlt := (hT.2.1.2.2.2 (era (cX S b') a' - 1) (by unfold era; omega)).2.1
        have hsh := qpv_is _ _ h0'
        rw [if_neg h0', if_neg (by rw [j_eq (by omega) (by unfold era at hlt; omega) (by decide) (by decide)]; omega), if_neg h0, ck_p t1]
        have xc1 := xcap_le hT
        have et := f_X9_turn (b := false) hT hC.2.1 hlt (r3 _ hb3) (by omega) (by omega)
        have hrt : rt (xR (cX S b')) (ro (xR (cX S b')) (era (cX S b') a' - 1)) = true := hsh
        rw [if_neg (by rw [hrt]; decide), if_neg (by decide)] at et
        refine ok_bR et ?_
        intro _ h2 st
        have s2 := cst_tx hT hb3 st
        have z2 := st.2.2.2.1
        have u2 := s2.2.2
        have c2' := st.2.2.1.2.2.1
        have z2' := st.2.2.1.1
        rw [ck_p ⟨by omega, by omega⟩, nm_q]
        have p0 : Prs (fun q => aZ h2 ≤ q) h2 (uN h2 2 3) := pr_uN
        have s3 : Cst c h2 1 3 (uN h2 2 3) := cst_new p0 (Nat.le_refl _) (Nat.le_refl _)
        have kz : aK (uN h2 2 3) (aZ h2) = 2 := w_KN1 h2 2 3
        have gz : aZ (uN h2 2 3) = aZ h2 + 1 := rfl
        have gu : aU (uN h2 2 3) = aU h2 + 3 := rfl
        have gc : aC (uN h2 2 3) = aC h2 := rfl
        have hw3 := wf_uN (K := 2) (n := 3) st.2.1 (by decide)
        have hT3 := txR_new st.1 st.2.1 p0
        generalize uN h2 2 3 = g at *
        rw [ck_p (by rw [kz]; decide)]
        refine ok_to (act_tail (x := aZ h2) (l := ro (xR (cX S b')) (era (cX S b') a' - 1)) (bo := false) hC hb3 ha5 hT3 hw3 (pr_trN (pr_mono st.2.2.1 fun q _ z => Or.inl z) p0 (fun q _ z => Or.inr (by omega))) (Nat.le_refl _) kz z2' (by omega) (r4 _ ha5) rfl rfl (by omega) (by omega)) ?_
        rintro r3' h3 ⟨w1, w2, w3⟩
        subst w1
        exact ans_ok w2 (cst_mono (cst_tr (cst_tr s2 s3) w3) (by omega) (by omega))
    · rw [bX_er (f_textAt_no hC b1 b2 hb (by omega) (by omega)), if_pos (fun z => hb z.2)]
      exact ok_some (ans_ex hC cst_rf (by decide) (by decide))
  · rw [bX_er (f_handAt_no hC a1 a2 ha (by omega) (by omega)), if_pos (fun z => ha z.1)]
    exact ok_some (ans_ex hC cst_rf (by decide) (by decide))

