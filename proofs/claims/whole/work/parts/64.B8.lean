
/-! ===== calls of formats that there are ===== -/
theorem mdR_tf {h h' : AH} {m t f : Nat} {S : Cs} {T : Tx} {F' : Fm} (hR : MdR h m S) (hG : CsG S) (ht : t < 3) (hf : f < (cF S).length) (x : Pw (fun q j => scW m q j ∨ txW m t q j ∨ fmW m f q j) h h') (hT : MTx h' m t T) (hF : MFm h' m f F') : MdR h' m (cset (cX S) t T, cH S, (cF S).set f F', cQ S, cN S) := by
  obtain ⟨r1, r2, r3, r4, ss, s1, s2, s3, s4⟩ := hR
  obtain ⟨g1, g2, g3, g4, g5, g6⟩ := hG
  refine ⟨mdK_pw r1 x, fun t2 ht2 => ?_, fun a ha => mHd_pw (r3 a ha) (show (cH S a).1.length ≤ 600 by have := g2 a ha; omega) x fun q j w => by unfold scW txW fmW at w; unfold hdW; omega, ⟨?_, fun k G hk => ?_⟩, ss, mSs_pw s1 x (by unfold scW txW fmW; omega) (fun q j z1 z2 => by unfold scW txW fmW; omega), s2, s3, fun y hy => ?_⟩
  · show MTx h' m t2 (if t2 = t then T else cX S t2)
    by_cases d : t2 = t
    · rw [if_pos d, d]; exact hT
    · rw [if_neg d]
      exact mTx_pw (r2 t2 ht2) (g1 t2 ht2).1.1 (g1 t2 ht2).2.2.1 x fun q j w => by unfold scW txW fmW at w; unfold txW; omega
  · show aI h' m 18 = iI ((cF S).set f F').length
    rw [pw_I x (by unfold scW txW fmW; omega), List.length_set]; exact r4.1
  · have hk' : ((cF S).set f F')[k]? = some G := hk
    rw [List.getElem?_set] at hk'
    by_cases d : f = k
    · subst d
      rw [if_pos rfl, if_pos hf] at hk'
      cases hk'
      exact hF
    · rw [if_neg d] at hk'
      exact mFm_pw (r4.2 k G hk') (g3 G (List.mem_of_getElem? hk')).1.2.2.2.2.2.1 x fun q j w => by unfold scW txW fmW at w; unfold fmW; omega
  · show y.1.2.2.2 < ((cF S).set f F').length
    rw [List.length_set]; exact s4 y hy
theorem tfW_md {m t f : Nat} (ht : t < 3) : ∀ q j, (scW m q j ∨ txW m t q j ∨ fmW m f q j) → mdW m q j := fun q j w => by unfold scW txW fmW at w; unfold mdW; omega
theorem g_isFormat {h : AH} {m : Nat} {S : Cs} {z : Int} (hR : MdR h m S) (hG : CsG S) (z1 : -2147483648 ≤ z) (z2 : z < 2147483648) : p_X11_isFormat m (iI z) h = some (bI (decide (fOk S z)), h) := by
  have k0 := hR.1.1.1
  have k1 := hR.1.1.2.1
  have e := hR.2.2.2.1.1
  have h60 := hG.2.2.2.2.1
  unfold p_X11_isFormat p_X11_isFormat_0
  simp only [k0, k1, ne_eq, not_false_eq_true, ck_t]
  rw [e, bR_e (g_isBelow z1 z2 (by omega) (by omega)), ck_p (bI_z _)]
theorem mdR_FG {S : Cs} (hG : CsG S) {f : Nat} {F : Fm} (hF : (cF S)[f]? = some F) : f < 60 ∧ f < (cF S).length ∧ FmG F ∧ FmP S F := by
  have h1 := (List.getElem?_eq_some_iff.mp hF).1
  have h2 := hG.2.2.1 F (List.mem_of_getElem? hF)
  have := hG.2.2.2.2.1
  exact ⟨by omega, h1, h2.1, h2.2⟩
theorem g_state {h : AH} {m : Nat} {S : Cs} {cd : Nat → Int} (hcd : cd 1 = 1) (hR : MdR h m S) (hG : CsG S) {z : Int} (z1 : -2147483648 ≤ z) (z2 : z < 2147483648) : Okp (p_X11_state m (iI z) h) (MAn cd m h (fsM S z)) := by
  have k0 := hR.1.1.1
  have k1 := hR.1.1.2.1
  have R2 := mdR_sc hR hG (p31 (v := iI (gcd3 (decide (fOk S z)) true true)))
  have p2 := pw_mono (p31 (h := h) (m := m) (v := iI (gcd3 (decide (fOk S z)) true true))) scW_md
  have t1 := w_I1 h m 31 (iI (gcd3 (decide (fOk S z)) true true))
  unfold p_X11_state p_X11_state_0 p_X11_state_24 fsM
  simp only [k0, k1, ne_eq, not_false_eq_true, ck_t]
  rw [bR_e (g_isFormat hR hG z1 z2), ck_p k1, bR_e (g_goes1 hR.1 _), ifc (bI_00 _)]
  by_cases hb : fOk S z
  · rw [if_neg (show ¬ ¬ fOk S z from fun w => w hb)]
    rw [decide_eq_true hb] at R2 p2 t1 ⊢
    rw [if_neg (by decide)]
    obtain ⟨z', rfl⟩ : ∃ z' : Nat, z = z' := ⟨z.toNat, by have := hb.1; omega⟩
    have hlt : z' < (cF S).length := by have := hb.2; omega
    have hF := List.getElem?_eq_getElem hlt
    simp only [Int.toNat_natCast]
    rw [hF]
    generalize (cF S)[z'] = F at hF
    show Okp _ (MAn cd m h (.ok (fS F), S))
    have gF := mdR_FG hG hF
    have eF := (R2.2.2.2.1.2 z' F hF).2.1
    have K2 := R2.1
    generalize uI h m 31 _ = g at *
    simp (disch := omega) only [ck_t, nm_q, bR_s, j_add, j_sub, j_mul, j_nI, j_0, j_le, j_lt, j_eq, j_nat, j_ixe, bI_0, and_self, and_true, true_and, ne_eq, not_false_eq_true, not_true_eq_false, ite_true, ite_false, if_true, if_false, ck_p z_0, ck_p z_1, K_uI, N_uI, R_uI, L_uI, Z_uI, U_uI, E_uI, C_uI, M_uI, Int.toNat_natCast, mdk K2, ck_p, eF]
    exact ok_some (man_ok t1 R2 p2)
  · rw [if_pos hb]
    rw [decide_eq_false hb] at R2 p2 t1 ⊢
    rw [if_pos rfl]
    exact ok_some (man_er (t1.trans (by rw [hcd]; rfl)) R2 p2)
theorem g_spared {h : AH} {m : Nat} {S : Cs} {cd : Nat → Int} (hcd : cd 1 = 1) (hR : MdR h m S) (hG : CsG S) {z : Int} (z1 : -2147483648 ≤ z) (z2 : z < 2147483648) : Okp (p_X11_spared m (iI z) h) (MAn cd m h (spM S z)) := by
  have k0 := hR.1.1.1
  have k1 := hR.1.1.2.1
  have R2 := mdR_sc hR hG (p31 (v := iI (gcd3 (decide (fOk S z)) true true)))
  have p2 := p31 (h := h) (m := m) (v := iI (gcd3 (decide (fOk S z)) true true))
  have t1 := w_I1 h m 31 (iI (gcd3 (decide (fOk S z)) true true))
  unfold p_X11_spared p_X11_spared_0 p_X11_spared_58 spM
  simp only [k0, k1, ne_eq, not_false_eq_true, ck_t]
  rw [bR_e (g_isFormat hR hG z1 z2), ck_p k1, bR_e (g_goes1 hR.1 _), ifc (bI_00 _)]
  by_cases hb : fOk S z
  · rw [if_neg (show ¬ ¬ fOk S z from fun w => w hb)]
    rw [decide_eq_true hb] at R2 p2 t1 ⊢
    rw [if_neg (by decide)]
    obtain ⟨z', rfl⟩ : ∃ z' : Nat, z = z' := ⟨z.toNat, by have := hb.1; omega⟩
    have hlt : z' < (cF S).length := by have := hb.2; omega
    have hF := List.getElem?_eq_getElem hlt
    simp only [Int.toNat_natCast]
    rw [hF]
    generalize (cF S)[z'] = F at hF
    show Okp _ (MAn cd m h (.ok (if fS F = 0 then (spN S F : Int) else fW F), S))
    obtain ⟨q1, q2, q3, q4⟩ := mdR_FG hG hF
    have hs := q3.2.1
    have hs2 := q3.2.2.1
    have K2 := R2.1
    generalize uI h m 31 _ = g at *
    have mF := R2.2.2.2.1.2 z' F hF
    have eF := mF.2.1
    have eC := mF.2.2.1
    simp (disch := omega) only [ck_t, nm_q, bR_s, j_add, j_sub, j_mul, j_nI, j_0, j_le, j_lt, j_eq, j_nat, j_ixe, bI_0, and_self, and_true, true_and, ne_eq, not_false_eq_true, not_true_eq_false, ite_true, ite_false, if_true, if_false, ck_p z_0, ck_p z_1, K_uI, N_uI, R_uI, L_uI, Z_uI, U_uI, E_uI, C_uI, M_uI, Int.toNat_natCast, mdk K2, ck_p, eF]
    by_cases c0 : fS F = 0
    · rw [if_pos c0, if_pos c0]
      refine ok_bR (g_sparedNow K2 q1 mF q3 c0 (fun k hk => q4.2.2.2.2.2 k hk) (R2.2.1 _ q3.1) (hG.1 _ q3.1)) ?_
      rintro r h1 ⟨w1, w2, w3⟩
      have w4 : Pw (scW m) g h1 := pw_mono w3 fun q j w => by unfold scW; omega
      subst w1
      refine ok_some (man_ok ?_ (mdR_sc R2 hG w4) (pw_mono (pw_tr p2 w4) scW_md))
      rw [pw_I w3 (by omega)]; exact t1
    · rw [if_neg c0, if_neg c0]
      by_cases c1 : fS F = 1
      · rw [if_pos c1, mF.2.2.2.1 c1]
        exact ok_some (man_ok t1 R2 (pw_mono p2 scW_md))
      · rw [if_neg c1, eC, mF.2.2.2.2.1 (by omega)]
        exact ok_some (man_ok t1 R2 (pw_mono p2 scW_md))
  · rw [if_pos hb]
    rw [decide_eq_false hb] at R2 p2 t1 ⊢
    rw [if_pos rfl]
    exact ok_some (man_er (t1.trans (by rw [hcd]; rfl)) R2 (pw_mono p2 scW_md))
theorem drop_no {h : AH} {m : Nat} {v1 : Int32} (hK : MdK h m) (b : Bool) : p_X11_drop_25 m v1 m (bI b) h = some (iI 0, uI h m 31 (iI (gcd3 b false true))) := by
  unfold p_X11_drop_25 p_X11_drop_26
  rw [ck_p hK.1.2.1, bR_e (show p_X11_goes m (bI b) (iI 0) (iI 1) h = _ from g_goes2 hK b false), ifc (bI_00 _), Bool.and_false, if_pos rfl]
theorem come_no {h : AH} {m : Nat} {v1 : Int32} (hK : MdK h m) (b : Bool) : p_X11_come_25 m v1 m (bI b) h = some (iI 0, uI h m 31 (iI (gcd3 b false true))) := by
  unfold p_X11_come_25 p_X11_come_26
  rw [ck_p hK.1.2.1, bR_e (show p_X11_goes m (bI b) (iI 0) (iI 1) h = _ from g_goes2 hK b false), ifc (bI_00 _), Bool.and_false, if_pos rfl]
theorem cset_self {S : Cs} {t : Nat} : cset (cX S) t (cX S t) = cX S := by
  funext j
  unfold cset
  by_cases d : j = t
  · rw [if_pos d, d]
  · rw [if_neg d]
theorem g_drop {h : AH} {m : Nat} {S : Cs} (hR : MdR h m S) (hG : CsG S) {z : Int} (z1 : -2147483648 ≤ z) (z2 : z < 2147483648) : Okp (p_X11_drop m (iI z) h) (MAn cd2 m h (drM S z)) := by
  have k0 := hR.1.1.1
  have k1 := hR.1.1.2.1
  have hK := hR.1
  unfold p_X11_drop p_X11_drop_0 drM
  simp only [k0, k1, ne_eq, not_false_eq_true, ck_t]
  rw [bR_e (g_isFormat hR hG z1 z2), ifc (bI_00 _)]
  by_cases hb : fOk S z
  · rw [if_neg (show ¬ ¬ fOk S z from fun w => w hb), decide_eq_true hb, if_neg (by decide)]
    obtain ⟨z', rfl⟩ : ∃ z' : Nat, z = z' := ⟨z.toNat, by have := hb.1; omega⟩
    have hlt : z' < (cF S).length := by have := hb.2; omega
    have hF := List.getElem?_eq_getElem hlt
    simp only [Int.toNat_natCast]
    rw [hF]
    generalize (cF S)[z'] = F at hF
    show Okp _ (MAn cd2 m h (if fS F = 0 then (.ok ((fC F).length : Int), (cX S, cH S, (cF S).set z' (fT F, 2, fC F, ((fC F).length : Int)), cQ S, cN S)) else (.error 3, S)))
    obtain ⟨q1, q2, q3, q4⟩ := mdR_FG hG hF
    have hs := q3.2.1
    have hs2 := q3.2.2.1
    have eF := (hR.2.2.2.1.2 z' F hF).2.1
    simp (disch := omega) only [ck_t, nm_q, bR_s, j_add, j_sub, j_mul, j_nI, j_0, j_le, j_lt, j_eq, j_nat, j_ixe, bI_0, and_self, and_true, true_and, ne_eq, not_false_eq_true, not_true_eq_false, ite_true, ite_false, if_true, if_false, ck_p z_0, ck_p z_1, K_uI, N_uI, R_uI, L_uI, Z_uI, U_uI, E_uI, C_uI, M_uI, Int.toNat_natCast, mdk hK, ck_p, eF]
    by_cases c0 : fS F = 0
    · rw [if_pos c0, if_pos c0]
      unfold p_X11_drop_26
      rw [ck_p k1, bR_e (show p_X11_goes m (bI true) (iI 1) (iI 1) h = some (iI 1, uI h m 31 (iI 0)) from g_goesY hK), if_neg (by decide +kernel)]
      have R2 := mdR_sc hR hG (p31 (v := iI 0))
      have p2 := p31 (h := h) (m := m) (v := iI 0)
      have t1 := w_I1 h m 31 (iI 0)
      generalize uI h m 31 (iI 0) = g at *
      have K2 := R2.1
      have mF := R2.2.2.2.1.2 z' F hF
      have eC := mF.2.2.1
      simp (disch := omega) only [ck_t, nm_q, bR_s, j_add, j_sub, j_mul, j_nI, j_0, j_le, j_lt, j_eq, j_nat, j_ixe, bI_0, and_self, and_true, true_and, ne_eq, not_false_eq_true, not_true_eq_false, ite_true, ite_false, if_true, if_false, ck_p z_0, ck_p z_1, K_uI, N_uI, R_uI, L_uI, Z_uI, U_uI, E_uI, C_uI, M_uI, Int.toNat_natCast, mdk K2, ck_p, w_I2, eC]
      have px : Pw (fun q j => scW m q j ∨ txW m (fT F) q j ∨ fmW m z' q j) g (uI g (m + 11) z' (iI 2)) := pw_uI (by unfold fmW; omega)
      have hT' : MTx (uI g (m + 11) z' (iI 2)) m (fT F) (cX S (fT F)) := mTx_pw (W := fun q j => q = m + 11) (R2.2.1 _ q3.1) (hG.1 _ q3.1).1.1 (hG.1 _ q3.1).2.2.1 (pw_uI rfl) fun q j w => by unfold txW; omega
      have hF' : MFm (uI g (m + 11) z' (iI 2)) m z' (fT F, 2, fC F, ((fC F).length : Int)) := by
        refine ⟨by rw [w_I2 (by omega)]; exact mF.1, w_I1 _ _ _ _, by rw [w_I2 (by omega)]; exact eC, fun (e : (2 : Int) = 1) => absurd e (by decide), fun _ => rfl, fun k hk => ⟨?_, fun (e : (2 : Int) = 0) => absurd e (by decide)⟩⟩
        exact mCh_pw (W := fun q j => q = m + 11) (mF.2.2.2.2.2 k hk).1 (pw_uI rfl) fun q w1 w2 => by omega
      have fin := mdR_tf R2 hG q3.1 q2 px hT' hF'
      rw [cset_self] at fin
      refine ok_some (man_ok ?_ fin (pw_tr (pw_mono p2 scW_md) (pw_mono px (tfW_md q3.1))))
      rw [w_I2 (by omega)]; exact t1
    · rw [if_neg c0, if_neg c0, drop_no hK true]
      exact ok_some (man_er (w_I1 h m 31 _) (mdR_sc hR hG p31) (pw_mono p31 scW_md))
  · rw [if_pos hb, decide_eq_false hb, if_pos rfl, drop_no hK false]
    exact ok_some (man_er (w_I1 h m 31 _) (mdR_sc hR hG p31) (pw_mono p31 scW_md))

