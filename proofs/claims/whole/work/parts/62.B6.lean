
/-! ===== undo and redo ===== -/
theorem setT_idem (R : Rw) (l : Nat) (b : Bool) : rsetT (rsetT R l b) l b = rsetT R l b := by
  show (rn R, ro R, rs R, fun x => if x = l then b else if x = l then b else rt R x) = (rn R, ro R, rs R, fun x => if x = l then b else rt R x)
  have : (fun x => if x = l then b else if x = l then b else rt R x) = (fun x => if x = l then b else rt R x) := by
    funext x
    by_cases c : x = l
    · rw [if_pos c, if_pos c]
    · rw [if_neg c, if_neg c]
  rw [this]
theorem xgo_idem {h : AH} {m t l : Nat} {T : Tx} (hT : MTx h m t (xgo (xver (rsetT (xR T) l false, xC T, xD T, xV T, xL T, xW T, xN T, xS T)) l)) : MTx h m t (xver (xgo T l)) := by
  obtain ⟨b1, b2, b3⟩ := hT
  have e := setT_idem (xR T) l false
  have b1' : MRw h m t (rsetT (rsetT (xR T) l false) l false) := b1
  have b2' : MCu h m t (xcur T l (xnext (rsetT (rsetT (xR T) l false) l false) l)) := b2
  rw [e] at b1' b2'
  exact ⟨b1', b2', b3⟩
theorem mTx_there {h : AH} {m t l : Nat} {T : Tx} {b : Bool} (ht : t < 3) (hl : l < rn (xR T)) (hn : rn (xR T) ≤ 150) (hT : MTx h m t T) : MTx (uI h (m + 3) (150 * t + l) (bI b)) m t (rsetT (xR T) l b, xC T, xD T, xV T, xL T, xW T, xN T, xS T) := by
  obtain ⟨b1, b2, b3⟩ := hT
  refine ⟨mRw_there b1 hl, fun j hj => ?_, ?_⟩
  · rw [w_I2 (by omega)]; exact b2 j hj
  · unfold MSv
    rw [w_I2 (by omega), w_I2 (by omega), w_I2 (by omega), w_I2 (by omega)]
    refine ⟨b3.1, b3.2.1, b3.2.2.1, b3.2.2.2.1, fun j hj => ?_⟩
    rw [w_I2 (by omega)]; exact b3.2.2.2.2 j hj
theorem g_turns {h : AH} {m t l : Nat} {T : Tx} {b : Bool} {w : Int} (hK : MdK h m) (ht : t < 3) (hT : MTx h m t T) (hG : TxG T) (hl : l < rn (xR T)) (e1 : w / 1000 = (t : Int)) (e2 : w - w / 500 * 500 = (l : Int)) (w1 : 0 ≤ w) (w2 : w < 100000) : Okp (p_X11_turns m (iI w) (bI b) h) (fun r h' => r = iI t ∧ MTx h' m t (tuT T l b) ∧ Pw (txW m t) h h') := by
  have hn := hG.1.1
  have et := (hT.1.2 l hl).2.2
  have e5 := hT.2.2.1
  unfold p_X11_turns p_X11_turns_0 p_X11_turns_65 tuT
  simp (disch := omega) only [ck_t, nm_q, bR_s, j_add, j_sub, j_mul, j_nI, j_0, j_le, j_lt, j_eq, j_nat, j_ixe, bI_0, and_self, and_true, true_and, ne_eq, not_false_eq_true, not_true_eq_false, ite_true, ite_false, if_true, if_false, ck_p z_0, ck_p z_1, K_uI, N_uI, R_uI, L_uI, Z_uI, U_uI, E_uI, C_uI, M_uI, Int.toNat_natCast, mdk hK, ck_p, n_150, j_div, e1, e2, et, bI_e, e5, w_I2, j_zb]
  by_cases c : rt (xR T) l = b
  · rw [if_pos c, if_pos c]
    exact ok_some ⟨rfl, hT, pw_rf⟩
  · rw [if_neg c, if_neg c]
    have q : Pw (txW m t) h (uI (uI h (m + 5) t (xV T + iI 1)) (m + 3) (150 * t + l) (bI b)) := pw_tr (pw_uI (by unfold txW; omega)) (pw_uI (by unfold txW; omega))
    have hT2 := mTx_there (b := b) (T := xver T) ht hl hn (mTx_ver ht hT)
    generalize uI (uI h (m + 5) t (xV T + iI 1)) (m + 3) (150 * t + l) (bI b) = g at *
    have K2 := mdK_pw hK q
    cases b
    · rw [if_pos (show false = false from rfl), if_neg (show ¬ (false = true) by decide)]
      refine ok_bR (g_leaves K2 ht hT2 hG hl) ?_
      rintro _ h3 ⟨x1, x2⟩
      exact ok_some ⟨rfl, xgo_idem x1, pw_tr q x2⟩
    · rw [if_neg (show ¬ (true = false) by decide), if_pos (show true = true from rfl)]
      exact ok_some ⟨rfl, hT2, q⟩

theorem undo_no {h : AH} {m : Nat} {v1 : Int32} (hK : MdK h m) (b : Bool) : p_X11_undo_25 m v1 m (bI b) h = some (iI 0, uI h m 31 (iI (gcd3 b false true))) := by
  unfold p_X11_undo_25 p_X11_undo_26
  rw [ck_p hK.1.2.1, bR_e (show p_X11_goes m (bI b) (iI 0) (iI 1) h = _ from g_goes2 hK b false), ifc (bI_00 _), Bool.and_false, if_pos rfl]
theorem g_undo {h : AH} {m : Nat} {S : Cs} {a : Int} (hR : MdR h m S) (hG : CsG S) (hP : AcP S) (a1 : -2147483648 ≤ a) (a2 : a < 2147483648) : Okp (p_X11_undo m (iI a) h) (MAn cd2 m h (unM S a)) := by
  have k0 := hR.1.1.1
  have k1 := hR.1.1.2.1
  have hK := hR.1
  unfold p_X11_undo p_X11_undo_0 unM
  simp only [k0, ne_eq, not_false_eq_true, ck_t]
  rw [bR_e (g_isBelow a1 a2 (by decide) (by decide)), ifc (bI_00 _)]
  by_cases ha : hOk a
  · rw [if_neg (show ¬ ¬ hOk a from fun z => z ha), decide_eq_true ha, if_neg (by decide)]
    obtain ⟨a', rfl⟩ : ∃ a' : Nat, a = a' := ⟨a.toNat, by have := ha.1; omega⟩
    have ha5 : a' < 5 := by have := ha.2; omega
    have gA := hG.2.1 a' ha5
    have hA := hR.2.2.1 a' ha5
    have e8 := hA.1
    have e9 := hA.2.1
    simp only [Int.toNat_natCast]
    simp (disch := omega) only [ck_t, nm_q, bR_s, j_add, j_sub, j_mul, j_nI, j_0, j_le, j_lt, j_eq, j_nat, j_ixe, bI_0, and_self, and_true, true_and, ne_eq, not_false_eq_true, not_true_eq_false, ite_true, ite_false, if_true, if_false, ck_p z_0, ck_p z_1, K_uI, N_uI, R_uI, L_uI, Z_uI, U_uI, E_uI, C_uI, M_uI, Int.toNat_natCast, mdk hK, ck_p, e8, e9]
    by_cases c0 : (cH S a').2 = 0
    · rw [if_pos (by omega), if_pos c0, undo_no hK true]
      exact ok_some (man_er (w_I1 h m 31 _) (mdR_sc hR hG p31) (pw_mono p31 scW_md))
    · rw [if_neg (by omega), if_neg c0]
      have hlt : (cH S a').2 - 1 < (cH S a').1.length := by omega
      have hx := List.getElem?_eq_getElem hlt
      have hxP := hP a' ha5 _ (List.getElem_mem hlt)
      rw [hx]
      have hcode := hA.2.2 _ _ hx
      generalize (cH S a').1[(cH S a').2 - 1] = x at *
      show Okp _ (MAn cd2 m h (.ok (x.1 : Int), (cset (cX S) x.1 (tuT (cX S x.1) x.2.1 (!x.2.2)), cset (cH S) a' ((cH S a').1, (cH S a').2 - 1), cF S, cQ S, cN S)))
      have gT := hG.1 x.1 hxP.1
      have hn := gT.1.1
      have eco : aco x = 1000 * (x.1 : Int) + ((if x.2.2 = true then 0 else 500) + (x.2.1 : Int)) := rfl
      have hw : 0 ≤ aco x ∧ aco x < 100000 ∧ aco x / 1000 = (x.1 : Int) ∧ aco x - aco x / 500 * 500 = (x.2.1 : Int) ∧ aco x - aco x / 1000 * 1000 = (if x.2.2 = true then 0 else 500) + (x.2.1 : Int) := by
        rw [eco]; split <;> omega
      unfold p_X11_undo_26 p_X11_undo_91
      rw [ck_p k1, bR_e (show p_X11_goes m (bI true) (iI 1) (iI 1) h = some (iI 1, uI h m 31 (iI 0)) from g_goesY hK), if_neg (by decide +kernel)]
      have R2 := mdR_sc hR hG (p31 (v := iI 0))
      have p2 := p31 (h := h) (m := m) (v := iI 0)
      have t1 := w_I1 h m 31 (iI 0)
      generalize uI h m 31 (iI 0) = g at *
      have K2 := R2.1
      have hA2 := R2.2.2.1 a' ha5
      have e8' := hA2.1
      have e9' := hA2.2.1
      have e7' := hA2.2.2 _ _ hx
      simp (disch := omega) only [ck_t, nm_q, bR_s, j_add, j_sub, j_mul, j_nI, j_0, j_le, j_lt, j_eq, j_nat, j_ixe, bI_0, and_self, and_true, true_and, ne_eq, not_false_eq_true, not_true_eq_false, ite_true, ite_false, if_true, if_false, ck_p z_0, ck_p z_1, K_uI, N_uI, R_uI, L_uI, Z_uI, U_uI, E_uI, C_uI, M_uI, Int.toNat_natCast, mdk K2, ck_p, n_600, e8', e9', w_I1, w_I2, j_div]
      rw [show (600 * (a' : Int) + ((cH S a').2 - 1)).toNat = 600 * a' + ((cH S a').2 - 1) by omega, e7']
      simp (disch := omega) only [ck_t, nm_q, bR_s, j_add, j_sub, j_mul, j_nI, j_0, j_le, j_lt, j_eq, j_nat, j_ixe, bI_0, and_self, and_true, true_and, ne_eq, not_false_eq_true, not_true_eq_false, ite_true, ite_false, if_true, if_false, ck_p z_0, ck_p z_1, K_uI, N_uI, R_uI, L_uI, Z_uI, U_uI, E_uI, C_uI, M_uI, Int.toNat_natCast, j_div]
      have p3 : Pw (hdW m a') g (uI (uI g (m + 8) a' (iI (((cH S a').2 : Int) - 1))) (m + 9) a' (iI (((cH S a').1.length : Int) - ((cH S a').2 : Int) + 1))) := pw_tr (pw_uI (by unfold hdW; omega)) (pw_uI (by unfold hdW; omega))
      have hA3 : MHd (uI (uI g (m + 8) a' (iI (((cH S a').2 : Int) - 1))) (m + 9) a' (iI (((cH S a').1.length : Int) - ((cH S a').2 : Int) + 1))) m a' ((cH S a').1, (cH S a').2 - 1) := by
        refine ⟨?_, ?_, fun k y hk => ?_⟩
        · rw [w_I2 (by omega), w_I1]; congr 1; all_goals (show _ = (((cH S a').2 - 1 : Nat) : Int); omega)
        · rw [w_I1]; congr 1; all_goals (show _ = ((cH S a').1.length : Int) - (((cH S a').2 - 1 : Nat) : Int); omega)
        · rw [w_I2 (by omega), w_I2 (by omega)]; exact hA2.2.2 k y hk
      generalize uI (uI g (m + 8) a' (iI (((cH S a').2 : Int) - 1))) (m + 9) a' (iI (((cH S a').1.length : Int) - ((cH S a').2 : Int) + 1)) = g3 at *
      have K3 := mdK_pw K2 p3
      have hT3 : MTx g3 m x.1 (cX S x.1) := mTx_pw (R2.2.1 x.1 hxP.1) gT.1.1 gT.2.2.1 p3 fun q j w => by unfold hdW at w; unfold txW; omega
      have fin : ∀ b : Bool, Okp (bR (p_X11_turns m (iI (aco x)) (bI b) g3) fun r2 h3 => (some (r2, h3) : Option (Int32 × AH))) (MAn cd2 m h (.ok (x.1 : Int), (cset (cX S) x.1 (tuT (cX S x.1) x.2.1 b), cset (cH S) a' ((cH S a').1, (cH S a').2 - 1), cF S, cQ S, cN S))) := by
        intro b
        refine ok_bR (g_turns (b := b) K3 hxP.1 hT3 gT hxP.2 hw.2.2.1 hw.2.2.2.1 hw.1 hw.2.1) ?_
        rintro r h4 ⟨z1, z2, z3⟩
        subst z1
        have pall : Pw (fun q j => scW m q j ∨ txW m x.1 q j ∨ hdW m a' q j) g h4 := pw_tr (pw_mono p3 fun q j w => Or.inr (Or.inr w)) (pw_mono z3 fun q j w => Or.inr (Or.inl w))
        have hA4 := mHd_pw hA3 (show (cH S a').1.length ≤ 600 by omega) z3 fun q j w => by unfold txW at w; unfold hdW; omega
        refine ok_some (man_ok ?_ (mdR_th R2 hG hxP.1 ha5 pall z2 hA4) (pw_tr (pw_mono p2 scW_md) (pw_mono pall (thW_md hxP.1))))
        rw [pw_I z3 (by unfold txW; have := hxP.1; omega), pw_I p3 (by unfold hdW; omega)]
        exact t1
      cases hty : x.2.2
      · rw [hty, if_neg (show ¬ (false = true) by decide)] at hw
        rw [if_neg (by omega)]
        exact fin true
      · rw [hty, if_pos (show true = true from rfl)] at hw
        rw [if_pos (by omega)]
        exact fin false
  · rw [if_pos ha, decide_eq_false ha, if_pos rfl, undo_no hK false]
    exact ok_some (man_er (w_I1 h m 31 _) (mdR_sc hR hG p31) (pw_mono p31 scW_md))

theorem redo_no {h : AH} {m : Nat} {v1 : Int32} (hK : MdK h m) (b : Bool) : p_X11_redo_25 m v1 m (bI b) h = some (iI 0, uI h m 31 (iI (gcd3 b false true))) := by
  unfold p_X11_redo_25 p_X11_redo_26
  rw [ck_p hK.1.2.1, bR_e (show p_X11_goes m (bI b) (iI 0) (iI 1) h = _ from g_goes2 hK b false), ifc (bI_00 _), Bool.and_false, if_pos rfl]
theorem g_redo {h : AH} {m : Nat} {S : Cs} {a : Int} (hR : MdR h m S) (hG : CsG S) (hP : AcP S) (a1 : -2147483648 ≤ a) (a2 : a < 2147483648) : Okp (p_X11_redo m (iI a) h) (MAn cd2 m h (reM S a)) := by
  have k0 := hR.1.1.1
  have k1 := hR.1.1.2.1
  have hK := hR.1
  unfold p_X11_redo p_X11_redo_0 reM
  simp only [k0, ne_eq, not_false_eq_true, ck_t]
  rw [bR_e (g_isBelow a1 a2 (by decide) (by decide)), ifc (bI_00 _)]
  by_cases ha : hOk a
  · rw [if_neg (show ¬ ¬ hOk a from fun z => z ha), decide_eq_true ha, if_neg (by decide)]
    obtain ⟨a', rfl⟩ : ∃ a' : Nat, a = a' := ⟨a.toNat, by have := ha.1; omega⟩
    have ha5 : a' < 5 := by have := ha.2; omega
    have gA := hG.2.1 a' ha5
    have hA := hR.2.2.1 a' ha5
    have e8 := hA.1
    have e9 := hA.2.1
    simp only [Int.toNat_natCast]
    simp (disch := omega) only [ck_t, nm_q, bR_s, j_add, j_sub, j_mul, j_nI, j_0, j_le, j_lt, j_eq, j_nat, j_ixe, bI_0, and_self, and_true, true_and, ne_eq, not_false_eq_true, not_true_eq_false, ite_true, ite_false, if_true, if_false, ck_p z_0, ck_p z_1, K_uI, N_uI, R_uI, L_uI, Z_uI, U_uI, E_uI, C_uI, M_uI, Int.toNat_natCast, mdk hK, ck_p, e8, e9]
    by_cases c0 : (cH S a').2 = (cH S a').1.length
    · rw [if_pos (by omega), if_pos c0, redo_no hK true]
      exact ok_some (man_er (w_I1 h m 31 _) (mdR_sc hR hG p31) (pw_mono p31 scW_md))
    · rw [if_neg (by omega), if_neg c0]
      have hlt : (cH S a').2 < (cH S a').1.length := by omega
      have hx := List.getElem?_eq_getElem hlt
      have hxP := hP a' ha5 _ (List.getElem_mem hlt)
      rw [hx]
      have hcode := hA.2.2 _ _ hx
      generalize (cH S a').1[(cH S a').2] = x at *
      show Okp _ (MAn cd2 m h (.ok (x.1 : Int), (cset (cX S) x.1 (tuT (cX S x.1) x.2.1 (x.2.2)), cset (cH S) a' ((cH S a').1, (cH S a').2 + 1), cF S, cQ S, cN S)))
      have gT := hG.1 x.1 hxP.1
      have hn := gT.1.1
      have eco : aco x = 1000 * (x.1 : Int) + ((if x.2.2 = true then 0 else 500) + (x.2.1 : Int)) := rfl
      have hw : 0 ≤ aco x ∧ aco x < 100000 ∧ aco x / 1000 = (x.1 : Int) ∧ aco x - aco x / 500 * 500 = (x.2.1 : Int) ∧ aco x - aco x / 1000 * 1000 = (if x.2.2 = true then 0 else 500) + (x.2.1 : Int) := by
        rw [eco]; split <;> omega
      unfold p_X11_redo_26 p_X11_redo_91
      rw [ck_p k1, bR_e (show p_X11_goes m (bI true) (iI 1) (iI 1) h = some (iI 1, uI h m 31 (iI 0)) from g_goesY hK), if_neg (by decide +kernel)]
      have R2 := mdR_sc hR hG (p31 (v := iI 0))
      have p2 := p31 (h := h) (m := m) (v := iI 0)
      have t1 := w_I1 h m 31 (iI 0)
      generalize uI h m 31 (iI 0) = g at *
      have K2 := R2.1
      have hA2 := R2.2.2.1 a' ha5
      have e8' := hA2.1
      have e9' := hA2.2.1
      have e7' := hA2.2.2 _ _ hx
      simp (disch := omega) only [ck_t, nm_q, bR_s, j_add, j_sub, j_mul, j_nI, j_0, j_le, j_lt, j_eq, j_nat, j_ixe, bI_0, and_self, and_true, true_and, ne_eq, not_false_eq_true, not_true_eq_false, ite_true, ite_false, if_true, if_false, ck_p z_0, ck_p z_1, K_uI, N_uI, R_uI, L_uI, Z_uI, U_uI, E_uI, C_uI, M_uI, Int.toNat_natCast, mdk K2, ck_p, n_600, e8', e9', e7', w_I1, w_I2, j_div]
      have p3 : Pw (hdW m a') g (uI (uI g (m + 8) a' (iI (((cH S a').2 : Int) + 1))) (m + 9) a' (iI (((cH S a').1.length : Int) - ((cH S a').2 : Int) - 1))) := pw_tr (pw_uI (by unfold hdW; omega)) (pw_uI (by unfold hdW; omega))
      have hA3 : MHd (uI (uI g (m + 8) a' (iI (((cH S a').2 : Int) + 1))) (m + 9) a' (iI (((cH S a').1.length : Int) - ((cH S a').2 : Int) - 1))) m a' ((cH S a').1, (cH S a').2 + 1) := by
        refine ⟨?_, ?_, fun k y hk => ?_⟩
        · rw [w_I2 (by omega), w_I1]; congr 1; all_goals (show _ = (((cH S a').2 + 1 : Nat) : Int); omega)
        · rw [w_I1]; congr 1; all_goals (show _ = ((cH S a').1.length : Int) - (((cH S a').2 + 1 : Nat) : Int); omega)
        · rw [w_I2 (by omega), w_I2 (by omega)]; exact hA2.2.2 k y hk
      generalize uI (uI g (m + 8) a' (iI (((cH S a').2 : Int) + 1))) (m + 9) a' (iI (((cH S a').1.length : Int) - ((cH S a').2 : Int) - 1)) = g3 at *
      have K3 := mdK_pw K2 p3
      have hT3 : MTx g3 m x.1 (cX S x.1) := mTx_pw (R2.2.1 x.1 hxP.1) gT.1.1 gT.2.2.1 p3 fun q j w => by unfold hdW at w; unfold txW; omega
      have fin : ∀ b : Bool, Okp (bR (p_X11_turns m (iI (aco x)) (bI b) g3) fun r2 h3 => (some (r2, h3) : Option (Int32 × AH))) (MAn cd2 m h (.ok (x.1 : Int), (cset (cX S) x.1 (tuT (cX S x.1) x.2.1 b), cset (cH S) a' ((cH S a').1, (cH S a').2 + 1), cF S, cQ S, cN S))) := by
        intro b
        refine ok_bR (g_turns (b := b) K3 hxP.1 hT3 gT hxP.2 hw.2.2.1 hw.2.2.2.1 hw.1 hw.2.1) ?_
        rintro r h4 ⟨z1, z2, z3⟩
        subst z1
        have pall : Pw (fun q j => scW m q j ∨ txW m x.1 q j ∨ hdW m a' q j) g h4 := pw_tr (pw_mono p3 fun q j w => Or.inr (Or.inr w)) (pw_mono z3 fun q j w => Or.inr (Or.inl w))
        have hA4 := mHd_pw hA3 (show (cH S a').1.length ≤ 600 by omega) z3 fun q j w => by unfold txW at w; unfold hdW; omega
        refine ok_some (man_ok ?_ (mdR_th R2 hG hxP.1 ha5 pall z2 hA4) (pw_tr (pw_mono p2 scW_md) (pw_mono pall (thW_md hxP.1))))
        rw [pw_I z3 (by unfold txW; have := hxP.1; omega), pw_I p3 (by unfold hdW; omega)]
        exact t1
      cases hty : x.2.2
      · rw [hty, if_neg (show ¬ (false = true) by decide)] at hw
        rw [if_pos (by omega)]
        exact fin false
      · rw [hty, if_pos (show true = true from rfl)] at hw
        rw [if_neg (by omega)]
        exact fin true
  · rw [if_pos ha, decide_eq_false ha, if_pos rfl, redo_no hK false]
    exact ok_some (man_er (w_I1 h m 31 _) (mdR_sc hR hG p31) (pw_mono p31 scW_md))

