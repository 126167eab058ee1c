
/-! ===== frames of the model ===== -/
theorem mdR_tx {h h' : AH} {m t : Nat} {S : Cs} {T : Tx} (hR : MdR h m S) (hG : CsG S) (ht : t < 3) (x : Pw (fun q j => scW m q j ∨ txW m t q j) h h') (hT : MTx h' m t T) : MdR h' m (cset (cX S) t T, cH S, cF S, cQ S, cN S) := by
  obtain ⟨r1, r2, r3, r4, ss, s1, s2, s3, s4⟩ := hR
  obtain ⟨g1, g2, g3, g4, g5, g6⟩ := hG
  refine ⟨mdK_pw r1 x, fun t2 ht2 => ?_, fun a ha => mHd_pw (r3 a ha) (show (cH S a).1.length ≤ 600 by have := g2 a ha; omega) x fun q j w => by unfold scW txW at w; unfold hdW; omega, mFs_pw r4 (fun F hF => (g3 F hF).1.2.2.2.2.2.1) x (by unfold scW txW; omega) (fun f q j w hf => by unfold scW txW at w; unfold fmW; omega), ss, mSs_pw s1 x (by unfold scW txW; omega) (fun q j z1 z2 => by unfold scW txW; omega), s2, s3, s4⟩
  show MTx h' m t2 (if t2 = t then T else cX S t2)
  by_cases d : t2 = t
  · rw [if_pos d, d]; exact hT
  · rw [if_neg d]
    exact mTx_pw (r2 t2 ht2) (g1 t2 ht2).1.1 (g1 t2 ht2).2.2.1 x fun q j w => by unfold scW txW at w; unfold txW; omega
theorem mdR_hd {h h' : AH} {m a : Nat} {S : Cs} {A : Hd} (hR : MdR h m S) (hG : CsG S) (ha : a < 5) (x : Pw (fun q j => scW m q j ∨ hdW m a q j) h h') (hA : MHd h' m a A) : MdR h' m (cX S, cset (cH S) a A, cF S, cQ S, cN S) := by
  obtain ⟨r1, r2, r3, r4, ss, s1, s2, s3, s4⟩ := hR
  obtain ⟨g1, g2, g3, g4, g5, g6⟩ := hG
  refine ⟨mdK_pw r1 x, fun t ht => mTx_pw (r2 t ht) (g1 t ht).1.1 (g1 t ht).2.2.1 x fun q j w => by unfold scW hdW at w; unfold txW; omega, fun b hb => ?_, mFs_pw r4 (fun F hF => (g3 F hF).1.2.2.2.2.2.1) x (by unfold scW hdW; omega) (fun f q j w hf => by unfold scW hdW at w; unfold fmW; omega), ss, mSs_pw s1 x (by unfold scW hdW; omega) (fun q j z1 z2 => by unfold scW hdW; omega), s2, s3, s4⟩
  show MHd h' m b (if b = a then A else cH S b)
  by_cases d : b = a
  · rw [if_pos d, d]; exact hA
  · rw [if_neg d]
    exact mHd_pw (r3 b hb) (by have := g2 b hb; omega) x fun q j w => by unfold scW hdW at w; unfold hdW; omega
theorem txW_md {m t : Nat} (ht : t < 3) : ∀ q j, scW m q j ∨ txW m t q j → mdW m q j := fun q j w => by unfold scW txW at w; unfold mdW; omega
theorem hdW_md {m a : Nat} : ∀ q j, scW m q j ∨ hdW m a q j → mdW m q j := fun q j w => by unfold scW hdW at w; unfold mdW; omega
theorem g_goesN {h : AH} {m : Nat} (hK : MdK h m) : p_X11_goes m (iI 0) (iI 1) (iI 1) h = some (iI 0, uI h m 31 (iI 1)) := g_goes1 hK false
theorem g_goesY {h : AH} {m : Nat} (hK : MdK h m) : p_X11_goes m (iI 1) (iI 1) (iI 1) h = some (iI 1, uI h m 31 (iI 0)) := g_goes1 hK true
theorem rl_sel (R : Rw) (p : Int) : rl R (rsel R p (rn R) 0) = if 0 ≤ p ∧ p < qcn (rf R) (rn R) then (rsh R p.toNat : Int) else -1 := by
  by_cases c : 0 ≤ p ∧ p < qcn (rf R) (rn R)
  · rw [if_pos c]
    have h1 := rsel_iff.mpr c
    unfold rl rsh
    rw [if_pos h1, show ((p.toNat : Nat) : Int) = p by omega]
  · rw [if_neg c]
    unfold rl
    rw [if_neg (fun w => c (rsel_iff.mp w))]
/-! ===== letters ===== -/
theorem letter_no {h : AH} {m : Nat} {v1 v2 : Int32} (hK : MdK h m) : p_X11_letter_34 m v1 v2 m h = some (iI 0, uI h m 31 (iI 1)) := by
  unfold p_X11_letter_34 p_X11_letter_35 p_X11_letter_65
  rw [ck_p hK.1.2.1, bR_e (g_goesN hK), if_pos (by decide +kernel), ck_p (by decide +kernel)]
theorem g_letter {h : AH} {m : Nat} {S : Cs} {cd : Nat → Int} (hcd : cd 1 = 1) (hR : MdR h m S) (hG : CsG S) {b p : Int} (b1 : -2147483648 ≤ b) (b2 : b < 2147483648) (p1 : -2147483648 ≤ p) (p2 : p < 2147483648) : Okp (p_X11_letter m (iI b) (iI p) h) (fun r h' => MAn cd m h (leM S b p) r h' ∧ okC r) := by
  have k0 := hR.1.1.1
  have k1 := hR.1.1.2.1
  have R2 := mdR_sc hR hG (p31 (v := iI 1))
  have q2 := p31 (h := h) (m := m) (v := iI 1)
  have c0 : okC (iI 0) := j_okC (by decide) (by decide)
  unfold p_X11_letter p_X11_letter_0 p_X11_letter_14 leM
  simp only [k0, ne_eq, not_false_eq_true, ck_t]
  rw [bR_e (g_isText b1 b2), ifc (bI_00 _)]
  by_cases hb : tOk b
  · rw [if_neg (show ¬ ¬ tOk b from fun z => z hb), decide_eq_true hb, if_neg (by decide), ck_p k1]
    obtain ⟨b', rfl⟩ : ∃ b' : Nat, b = b' := ⟨b.toNat, by have := hb.1; omega⟩
    have hb3 : b' < 3 := by have := hb.2; omega
    have gR := (hG.1 b' hb3).1
    have hq := qcn_le (rf (xR (cX S b'))) (rn (xR (cX S b')))
    have hn := gR.1
    simp only [Int.toNat_natCast]
    refine ok_bR (g_shows hb3 gR hR.1 (hR.2.1 b' hb3).1) ?_
    rintro _ h3 ⟨s1, s2⟩
    have s3 := pw_mono s2 shW_sc
    have R3 := mdR_sc hR hG s3
    rw [ifc (bI_00 _), if_neg (by decide), ck_p R3.1.1.2.1, s1.1, bR_e (g_isBelow p1 p2 (by omega) (by omega)), ifc (bI_00 _)]
    by_cases c : 0 ≤ p ∧ p < qcn (rf (xR (cX S b'))) (rn (xR (cX S b')))
    · rw [decide_eq_true c, if_neg (by decide), if_pos (rsel_iff.mpr c)]
      obtain ⟨p', rfl⟩ : ∃ p' : Nat, p = p' := ⟨p.toNat, by omega⟩
      have R4 := mdR_sc R3 hG (p31 (v := iI 0))
      have t1 := w_I1 h3 m 31 (iI 0)
      have sh4 : MSh (uI h3 m 31 (iI 0)) m (xR (cX S b')) := by
        refine ⟨?_, fun q hq => ?_⟩
        · rw [w_I3 (by decide)]; exact s1.1
        · rw [w_I2 (by omega)]; exact s1.2 q hq
      have p4 := pw_mono (pw_tr s3 (p31 (h := h3) (m := m) (v := iI 0))) scW_md
      unfold p_X11_letter_35 p_X11_letter_65
      rw [ck_p R3.1.1.2.1, bR_e (g_goesY R3.1)]
      generalize uI h3 m 31 (iI 0) = g at *
      have K4 := R4.1
      have e1 := sh4.2 p' (by omega)
      have hl := rsh_lt gR (q := p') (by omega)
      have e2 := ((R4.2.1 b' hb3).1.2 _ hl).2.1
      have gs := gR.2.1 _ hl
      simp (disch := omega) only [ck_t, nm_q, bR_s, j_add, j_sub, j_mul, j_nI, j_0, j_le, j_lt, j_eq, j_nat, j_ixe, bI_0, and_self, and_true, true_and, ne_eq, not_false_eq_true, not_true_eq_false, ite_true, ite_false, if_true, if_false, ck_p z_0, ck_p z_1, K_uI, N_uI, R_uI, L_uI, Z_uI, U_uI, E_uI, C_uI, M_uI, Int.toNat_natCast, mdk K4, ck_p, n_150, e1, e2, if_neg]
      rw [j_nC gs.2.1 gs.2.2, ck_p (j_okC gs.2.1 gs.2.2)]
      exact ok_some ⟨man_ok t1 R4 p4, j_okC gs.2.1 gs.2.2⟩
    · rw [decide_eq_false c, if_pos rfl, if_neg (fun w => c (rsel_iff.mp w)), letter_no R3.1]
      exact ok_some ⟨man_er ((w_I1 h3 m 31 (iI 1)).trans (by rw [hcd])) (mdR_sc R3 hG p31) (pw_mono (pw_tr s3 p31) scW_md), c0⟩
  · rw [if_pos hb, decide_eq_false hb, if_pos rfl, ifc (bI_00 _), if_pos rfl, letter_no hR.1]
    exact ok_some ⟨man_er ((w_I1 h m 31 (iI 1)).trans (by rw [hcd])) R2 (pw_mono q2 scW_md), c0⟩
theorem g_letterAnew {h : AH} {m : Nat} {S : Cs} {cd : Nat → Int} (hcd : cd 1 = 1) (hR : MdR h m S) (hG : CsG S) {b p : Int} (b1 : -2147483648 ≤ b) (b2 : b < 2147483648) (p1 : -2147483648 ≤ p) (p2 : p < 2147483648) : Okp (p_X11_letterAnew m (iI b) (iI p) h) (fun r h' => MAn cd m h (leM S b p) r h' ∧ okC r) := by
  have k0 := hR.1.1.1
  have k1 := hR.1.1.2.1
  unfold p_X11_letterAnew p_X11_letterAnew_0
  simp only [k0, k1, ne_eq, not_false_eq_true, ck_t]
  refine ok_bR (g_letter hcd hR hG b1 b2 p1 p2) ?_
  rintro r h' ⟨z1, z2⟩
  rw [ck_p z2]
  exact ok_some ⟨z1, z2⟩
theorem saved_no {h : AH} {m : Nat} {v1 v2 : Int32} (hK : MdK h m) : p_X11_savedLetter_35 m v1 v2 m h = some (iI 0, uI h m 31 (iI 1)) := by
  unfold p_X11_savedLetter_35 p_X11_savedLetter_36 p_X11_savedLetter_61
  rw [ck_p hK.1.2.1, bR_e (g_goesN hK), if_pos (by decide +kernel), ck_p (by decide +kernel)]
theorem g_savedLetter {h : AH} {m : Nat} {S : Cs} {cd : Nat → Int} (hcd : cd 1 = 1) (hR : MdR h m S) (hG : CsG S) {b p : Int} (b1 : -2147483648 ≤ b) (b2 : b < 2147483648) (p1 : -2147483648 ≤ p) (p2 : p < 2147483648) : Okp (p_X11_savedLetter m (iI b) (iI p) h) (fun r h' => MAn cd m h (slM S b p) r h' ∧ okC r) := by
  have k0 := hR.1.1.1
  have k1 := hR.1.1.2.1
  have R2 := mdR_sc hR hG (p31 (v := iI 1))
  have q2 := p31 (h := h) (m := m) (v := iI 1)
  have c0 : okC (iI 0) := j_okC (by decide) (by decide)
  unfold p_X11_savedLetter p_X11_savedLetter_0 p_X11_savedLetter_24 slM
  simp only [k0, ne_eq, not_false_eq_true, ck_t]
  rw [bR_e (g_isText b1 b2), ifc (bI_00 _)]
  by_cases hb : tOk b
  · rw [if_neg (show ¬ ¬ tOk b from fun z => z hb), decide_eq_true hb, if_neg (by decide), ck_p k1, if_neg (by decide)]
    obtain ⟨b', rfl⟩ : ∃ b' : Nat, b = b' := ⟨b.toNat, by have := hb.1; omega⟩
    have hb3 : b' < 3 := by have := hb.2; omega
    have hx := (hG.1 b' hb3).2.2
    have ev := (hR.2.1 b' hb3).2.2.2.2.2
    have e25 := ev.1
    have hK := hR.1
    have e1 := g_isBelow (h := h) p1 p2 (w := xN (cX S b')) (by omega) (by omega)
    simp (disch := omega) only [ck_t, nm_q, bR_s, j_add, j_sub, j_mul, j_nI, j_0, j_le, j_lt, j_eq, j_nat, j_ixe, bI_0, and_self, and_true, true_and, ne_eq, not_false_eq_true, not_true_eq_false, ite_true, ite_false, if_true, if_false, ck_p z_0, ck_p z_1, K_uI, N_uI, R_uI, L_uI, Z_uI, U_uI, E_uI, C_uI, M_uI, Int.toNat_natCast, mdk hK, ck_p, e25, e1]
    by_cases c : 0 ≤ p ∧ p < xN (cX S b')
    · rw [if_neg (by rw [decide_eq_true c]; decide), if_pos c]
      obtain ⟨p', rfl⟩ : ∃ p' : Nat, p = p' := ⟨p.toNat, by omega⟩
      have R4 := mdR_sc hR hG (p31 (v := iI 0))
      have t1 := w_I1 h m 31 (iI 0)
      have p4 := pw_mono (p31 (h := h) (m := m) (v := iI 0)) scW_md
      unfold p_X11_savedLetter_36 p_X11_savedLetter_61
      rw [ck_p k1, bR_e (g_goesY hR.1)]
      generalize uI h m 31 (iI 0) = g at *
      have K4 := R4.1
      have e2 := (R4.2.1 b' hb3).2.2.2.2.2.2 p' (by omega)
      have gs := hx.2.1 p' (by omega)
      simp (disch := omega) only [ck_t, nm_q, bR_s, j_add, j_sub, j_mul, j_nI, j_0, j_le, j_lt, j_eq, j_nat, j_ixe, bI_0, and_self, and_true, true_and, ne_eq, not_false_eq_true, not_true_eq_false, ite_true, ite_false, if_true, if_false, ck_p z_0, ck_p z_1, K_uI, N_uI, R_uI, L_uI, Z_uI, U_uI, E_uI, C_uI, M_uI, Int.toNat_natCast, mdk K4, ck_p, n_150, e2, if_neg]
      rw [j_nC gs.1 gs.2, ck_p (j_okC gs.1 gs.2)]
      exact ok_some ⟨man_ok t1 R4 p4, j_okC gs.1 gs.2⟩
    · rw [if_pos (decide_eq_false c), if_neg c, saved_no hR.1]
      exact ok_some ⟨man_er ((w_I1 h m 31 (iI 1)).trans (by rw [hcd])) R2 (pw_mono q2 scW_md), c0⟩
  · rw [if_pos hb, decide_eq_false hb, if_pos rfl, saved_no hR.1]
    exact ok_some ⟨man_er ((w_I1 h m 31 (iI 1)).trans (by rw [hcd])) R2 (pw_mono q2 scW_md), c0⟩
/-! ===== moveTo ===== -/
theorem move_no {h : AH} {m : Nat} {v1 v2 v3 : Int32} (hK : MdK h m) : p_X11_moveTo_39 m v1 v2 v3 m h = some (iI 0, uI h m 31 (iI 1)) := by
  unfold p_X11_moveTo_39 p_X11_moveTo_40
  rw [ck_p hK.1.2.1, bR_e (g_goesN hK), if_pos (by decide +kernel)]
theorem mTx_cur {h : AH} {m t a : Nat} {T : Tx} {z : Int} (ht : t < 3) (ha : a < 5) (hT : MTx h m t T) (hG : TxG T) : MTx (uI h (m + 6) (5 * t + a) (iI z)) m t (xset T a z) := by
  obtain ⟨b1, b2, b3⟩ := hT
  refine ⟨⟨?_, fun i hi => ?_⟩, fun j hj => ?_, ?_⟩
  · rw [w_I2 (by omega)]; exact b1.1
  · rw [w_I2 (by omega), w_I2 (by omega), w_I2 (by omega)]; exact b1.2 i hi
  · show _ = iI (if j = a then z else xC T j)
    by_cases d : j = a
    · rw [if_pos d, d, w_I1]
    · rw [if_neg d, w_I3 (by omega)]; exact b2 j hj
  · unfold MSv
    rw [w_I2 (by omega), w_I2 (by omega), w_I2 (by omega), w_I2 (by omega)]
    refine ⟨b3.1, b3.2.1, b3.2.2.1, b3.2.2.2.1, fun j hj => ?_⟩
    rw [w_I2 (by omega)]; exact b3.2.2.2.2 j hj
theorem g_moveTo {h : AH} {m : Nat} {S : Cs} {cd : Nat → Int} (hcd : cd 1 = 1) (hR : MdR h m S) (hG : CsG S) {a b p : Int} (a1 : -2147483648 ≤ a) (a2 : a < 2147483648) (b1 : -2147483648 ≤ b) (b2 : b < 2147483648) (p1 : -2147483648 ≤ p) (p2 : p < 2147483648) : Okp (p_X11_moveTo m (iI a) (iI b) (iI p) h) (MAn cd m h (mvM S a b p)) := by
  have k0 := hR.1.1.1
  have k1 := hR.1.1.2.1
  have R2 := mdR_sc hR hG (p31 (v := iI 1))
  have q2 := p31 (h := h) (m := m) (v := iI 1)
  unfold p_X11_moveTo p_X11_moveTo_0 p_X11_moveTo_17 mvM
  simp only [k0, ne_eq, not_false_eq_true, ck_t]
  rw [bR_e (g_isHand a1 a2 b1 b2), ifc (bI_00 _)]
  by_cases hb : hOk a ∧ tOk b
  · rw [if_neg (show ¬ ¬ (hOk a ∧ tOk b) from fun z => z hb), decide_eq_true hb, if_neg (by decide), ck_p k1]
    obtain ⟨a', rfl⟩ : ∃ a' : Nat, a = a' := ⟨a.toNat, by have := hb.1.1; omega⟩
    obtain ⟨b', rfl⟩ : ∃ b' : Nat, b = b' := ⟨b.toNat, by have := hb.2.1; omega⟩
    have hb3 : b' < 3 := by have := hb.2.2; omega
    have ha5 : a' < 5 := by have := hb.1.2; omega
    have gT := hG.1 b' hb3
    have gR := gT.1
    have hq := qcn_le (rf (xR (cX S b'))) (rn (xR (cX S b')))
    have hn := gR.1
    simp only [Int.toNat_natCast]
    refine ok_bR (g_shows hb3 gR hR.1 (hR.2.1 b' hb3).1) ?_
    rintro _ h3 ⟨s1, s2⟩
    have s3 := pw_mono s2 shW_sc
    have R3 := mdR_sc hR hG s3
    rw [ifc (bI_00 _), if_neg (by decide), ifc (j_lt0 p1 p2)]
    by_cases c1 : p < 0
    · rw [if_pos c1, if_pos (Or.inl c1), move_no R3.1]
      exact ok_some (man_er ((w_I1 h3 m 31 (iI 1)).trans (by rw [hcd])) (mdR_sc R3 hG p31) (pw_mono (pw_tr s3 p31) scW_md))
    · rw [if_neg c1, ck_p R3.1.1.2.1, s1.1, ifc (j_lt (by omega) (by omega) p1 p2)]
      by_cases c2 : (qcn (rf (xR (cX S b'))) (rn (xR (cX S b'))) : Int) < p
      · rw [if_pos c2, if_pos (Or.inr c2), move_no R3.1]
        exact ok_some (man_er ((w_I1 h3 m 31 (iI 1)).trans (by rw [hcd])) (mdR_sc R3 hG p31) (pw_mono (pw_tr s3 p31) scW_md))
      · rw [if_neg c2, if_neg (fun w => w.elim c1 c2)]
        obtain ⟨p', rfl⟩ : ∃ p' : Nat, p = p' := ⟨p.toNat, by omega⟩
        have R4 := mdR_sc R3 hG (p31 (v := iI 0))
        have t1 := w_I1 h3 m 31 (iI 0)
        have p4 := pw_tr s3 (p31 (h := h3) (m := m) (v := iI 0))
        unfold p_X11_moveTo_40
        rw [ck_p R3.1.1.2.1, bR_e (g_goesY R3.1), if_neg (by decide +kernel)]
        generalize uI h3 m 31 (iI 0) = g at *
        rw [ck_p R4.1.1.2.1, bR_e (g_placeOf R4.1 hb3 ha5 (R4.2.1 b' hb3) gT), ck_p R4.1.1.2.1]
        refine ok_bR (g_shows hb3 gR R4.1 (R4.2.1 b' hb3).1) ?_
        rintro _ h5 ⟨s5, s6⟩
        have s7 := pw_mono s6 shW_sc
        have R5 := mdR_sc R4 hG s7
        have t5 : aI h5 m 31 = iI 0 := by rw [pw_I s6 (by unfold shW; omega)]; exact t1
        have K5 := R5.1
        have e29 := s5.1
        have fin : ∀ z : Int, z = rl (xR (cX S b')) (rsel (xR (cX S b')) (p' : Int) (rn (xR (cX S b'))) 0) → MAn cd m h (.ok (cpl (cX S b') a'), (cset (cX S) b' (mvT (cX S b') a' p'), cH S, cF S, cQ S, cN S)) (iI (cpl (cX S b') a')) (uI h5 (m + 6) (5 * b' + a') (iI z)) := by
          intro z ez
          have px : Pw (fun q j => scW m q j ∨ txW m b' q j) h5 (uI h5 (m + 6) (5 * b' + a') (iI z)) := pw_uI (Or.inr (by unfold txW; omega))
          have hT5 := mTx_cur (z := z) hb3 ha5 (R5.2.1 b' hb3) gT
          rw [ez] at hT5
          rw [ez] at px ⊢
          exact man_ok (by rw [w_I2 (by omega)]; exact t5) (mdR_tx R5 hG hb3 px hT5) (pw_mono (pw_tr (pw_mono (pw_tr p4 s7) fun q j w => Or.inl w) px) (txW_md hb3))
        have es := rl_sel (xR (cX S b')) (p' : Int)
        unfold p_X11_moveTo_90
        simp (disch := omega) only [ck_t, nm_q, bR_s, j_add, j_sub, j_mul, j_nI, j_0, j_le, j_lt, j_eq, j_nat, j_ixe, bI_0, and_self, and_true, true_and, ne_eq, not_false_eq_true, not_true_eq_false, ite_true, ite_false, if_true, if_false, ck_p z_0, ck_p z_1, K_uI, N_uI, R_uI, L_uI, Z_uI, U_uI, E_uI, C_uI, M_uI, Int.toNat_natCast, mdk K5, ck_p, e29, n_5]
        by_cases c3 : p' < qcn (rf (xR (cX S b'))) (rn (xR (cX S b')))
        · rw [if_pos (by omega)] at es
          have e27 := s5.2 p' c3
          rw [if_neg (by omega), e27]
          exact ok_some (fin _ es.symm)
        · rw [if_neg (by omega)] at es
          rw [if_pos (by omega)]
          exact ok_some (fin _ es.symm)
  · rw [if_pos hb, decide_eq_false hb, if_pos rfl, ifc (bI_00 _), if_pos rfl, move_no hR.1]
    exact ok_some (man_er ((w_I1 h m 31 (iI 1)).trans (by rw [hcd])) R2 (pw_mono q2 scW_md))
/-! ===== lock ===== -/
theorem mTx_lock {h : AH} {m t : Nat} {T : Tx} {z : Int} {a : Nat} (ht : t < 3) (hT : MTx h m t T) (ez : z = if xL T = (a : Int) then -1 else (a : Int)) : MTx (uI h (m + 23) t (iI z)) m t (loT T a) := by
  obtain ⟨b1, b2, b3⟩ := hT
  refine ⟨⟨?_, fun i hi => ?_⟩, fun j hj => ?_, ?_⟩
  · rw [w_I2 (by omega)]; exact b1.1
  · rw [w_I2 (by omega), w_I2 (by omega), w_I2 (by omega)]; exact b1.2 i hi
  · rw [w_I2 (by omega)]; exact b2 j hj
  · unfold MSv
    rw [w_I2 (by omega), w_I1, w_I2 (by omega), w_I2 (by omega)]
    refine ⟨b3.1, by rw [ez]; rfl, b3.2.2.1, b3.2.2.2.1, fun j hj => ?_⟩
    rw [w_I2 (by omega)]; exact b3.2.2.2.2 j hj
theorem lock_no {h : AH} {m : Nat} {v1 v2 : Int32} (hK : MdK h m) (b : Bool) : p_X11_lock_36 m v1 v2 m (bI b) h = some (iI 0, uI h m 31 (iI (gcd3 b false true))) := by
  unfold p_X11_lock_36 p_X11_lock_37
  rw [ck_p hK.1.2.1, bR_e (show p_X11_goes m (bI b) (iI 0) (iI 1) h = _ from g_goes2 hK b false), ifc (bI_00 _), Bool.and_false, if_pos rfl]
theorem g_lock {h : AH} {m : Nat} {S : Cs} (hR : MdR h m S) (hG : CsG S) {a b : Int} (a1 : -2147483648 ≤ a) (a2 : a < 2147483648) (b1 : -2147483648 ≤ b) (b2 : b < 2147483648) : Okp (p_X11_lock m (iI a) (iI b) h) (MAn cd2 m h (loM S a b)) := by
  have k0 := hR.1.1.1
  have k1 := hR.1.1.2.1
  have hK := hR.1
  unfold p_X11_lock p_X11_lock_0 loM
  simp only [k0, ne_eq, not_false_eq_true, ck_t]
  rw [bR_e (g_isHand a1 a2 b1 b2), ifc (bI_00 _)]
  by_cases hb : hOk a ∧ tOk b
  · rw [if_neg (show ¬ ¬ (hOk a ∧ tOk b) from fun z => z hb), decide_eq_true hb, if_neg (by decide)]
    obtain ⟨a', rfl⟩ : ∃ a' : Nat, a = a' := ⟨a.toNat, by have := hb.1.1; omega⟩
    obtain ⟨b', rfl⟩ : ∃ b' : Nat, b = b' := ⟨b.toNat, by have := hb.2.1; omega⟩
    have hb3 : b' < 3 := by have := hb.2.2; omega
    have ha5 : a' < 5 := by have := hb.1.2; omega
    have gT := hG.1 b' hb3
    have gl := gT.2.2.2.2
    have e23 := (hR.2.1 b' hb3).2.2.2.1
    simp only [Int.toNat_natCast]
    simp (disch := omega) only [ck_t, nm_q, bR_s, j_add, j_sub, j_mul, j_nI, j_0, j_le, j_lt, j_eq, j_nat, j_ixe, bI_0, and_self, and_true, true_and, ne_eq, not_false_eq_true, not_true_eq_false, ite_true, ite_false, if_true, if_false, ck_p z_0, ck_p z_1, K_uI, N_uI, R_uI, L_uI, Z_uI, U_uI, E_uI, C_uI, M_uI, Int.toNat_natCast, mdk hK, ck_p, e23]
    have yes : ∀ d : Bool, isFree (cX S b') a' = true → d = decide (xL (cX S b') = (a' : Int)) → Okp (p_X11_lock_32 m (iI a') (iI b') m (bI true) h) (MAn cd2 m h (.ok (if xL (cX S b') = (a' : Int) then 0 else 1), (cset (cX S) b' (loT (cX S b') a'), cH S, cF S, cQ S, cN S))) := by
      intro d hf _
      have hf' : xL (cX S b') = -1 ∨ xL (cX S b') = (a' : Int) := of_decide_eq_true hf
      have R4 := mdR_sc hR hG (p31 (v := iI 0))
      have t1 := w_I1 h m 31 (iI 0)
      have p4 := p31 (h := h) (m := m) (v := iI 0)
      unfold p_X11_lock_32 p_X11_lock_37
      rw [ck_p k1, bR_e (show p_X11_goes m (bI true) (iI 1) (iI 1) h = some (iI 1, uI h m 31 (iI 0)) from g_goesY hR.1), if_neg (by decide +kernel)]
      generalize uI h m 31 (iI 0) = g at *
      have K4 := R4.1
      have e24 := (R4.2.1 b' hb3).2.2.2.1
      unfold p_X11_lock_66 p_X11_lock_82
      have fin : ∀ z : Int, z = (if xL (cX S b') = (a' : Int) then -1 else (a' : Int)) → MdR (uI g (m + 23) b' (iI z)) m (cset (cX S) b' (loT (cX S b') a'), cH S, cF S, cQ S, cN S) ∧ Pw (mdW m) h (uI g (m + 23) b' (iI z)) ∧ aI (uI g (m + 23) b' (iI z)) m 31 = iI 0 := by
        intro z ez
        have px : Pw (fun q j => scW m q j ∨ txW m b' q j) g (uI g (m + 23) b' (iI z)) := pw_uI (Or.inr (by unfold txW; omega))
        exact ⟨mdR_tx R4 hG hb3 px (mTx_lock hb3 (R4.2.1 b' hb3) ez), pw_mono (pw_tr (pw_mono p4 fun q j w => Or.inl w) px) (txW_md hb3), by rw [w_I2 (by omega)]; exact t1⟩
      simp (disch := omega) only [ck_t, nm_q, bR_s, j_add, j_sub, j_mul, j_nI, j_0, j_le, j_lt, j_eq, j_nat, j_ixe, bI_0, and_self, and_true, true_and, ne_eq, not_false_eq_true, not_true_eq_false, ite_true, ite_false, if_true, if_false, ck_p z_0, ck_p z_1, K_uI, N_uI, R_uI, L_uI, Z_uI, U_uI, E_uI, C_uI, M_uI, Int.toNat_natCast, mdk K4, ck_p, e24, w_I1]
      by_cases c1 : xL (cX S b') = -1
      · rw [if_pos c1, if_neg (by omega), if_neg (by omega)]
        obtain ⟨f1, f2, f3⟩ := fin (a' : Int) (by rw [if_neg (by omega)])
        exact ok_some (man_ok f3 f1 f2)
      · rw [if_neg c1, if_pos (by omega)]
        obtain ⟨f1, f2, f3⟩ := fin (-1) (by rw [if_pos (by omega)])
        exact ok_some (man_ok f3 f1 f2)
    by_cases c1 : xL (cX S b') = -1
    · have hf : isFree (cX S b') a' = true := decide_eq_true (Or.inl c1)
      rw [if_pos c1, if_neg (by rw [hf]; decide)]
      exact yes _ hf rfl
    · rw [if_neg c1]
      by_cases c2 : xL (cX S b') = (a' : Int)
      · have hf : isFree (cX S b') a' = true := decide_eq_true (Or.inr c2)
        rw [if_pos c2, if_neg (by rw [hf]; decide)]
        exact yes _ hf rfl
      · have hf : isFree (cX S b') a' = false := decide_eq_false (by omega)
        rw [if_neg c2, if_pos hf, lock_no hR.1 true]
        exact ok_some (man_er (w_I1 h m 31 _) (mdR_sc hR hG p31) (pw_mono p31 scW_md))
  · rw [if_pos hb, decide_eq_false hb, if_pos rfl, lock_no hR.1 false]
    exact ok_some (man_er (w_I1 h m 31 _) (mdR_sc hR hG p31) (pw_mono p31 scW_md))

