
/-! ===== the model asks for a format ===== -/
def adW (m f q j : Nat) : Prop := scW m q j ∨ fmW m f q j ∨ (q = m ∧ j = 18)
theorem mdR_addF {h h' : AH} {m f : Nat} {S : Cs} {F : Fm} (hR : MdR h m S) (hG : CsG S) (ef : f = (cF S).length) (x : Pw (adW m f) h h') (e18 : aI h' m 18 = iI ((f : Int) + 1)) (hF : MFm h' m f F) : MdR h' m (cX S, cH S, cF S ++ [F], cQ S, cN S) := by
  subst ef
  obtain ⟨r1, r2, r3, r4, ss, s1, s2, s3, s4⟩ := hR
  obtain ⟨g1, g2, g3, g4, g5, g6⟩ := hG
  refine ⟨mdK_pw r1 x, fun t ht => mTx_pw (r2 t ht) (g1 t ht).1.1 (g1 t ht).2.2.1 x fun q j w => by unfold adW scW fmW at w; unfold txW; omega, fun a ha => mHd_pw (r3 a ha) (show (cH S a).1.length ≤ 600 by have := g2 a ha; omega) x fun q j w => by unfold adW scW fmW at w; unfold hdW; omega, ⟨?_, fun k G hk => ?_⟩, ss, mSs_pw s1 x (by unfold adW scW fmW; omega) (fun q j z1 z2 => by unfold adW scW fmW; omega), s2, s3, fun y hy => ?_⟩
  · show aI h' m 18 = iI ((cF S ++ [F]).length : Int)
    rw [e18, List.length_append, List.length_singleton]; rfl
  · have hk' : (cF S ++ [F])[k]? = some G := hk
    by_cases d : k < (cF S).length
    · rw [List.getElem?_append_left d] at hk'
      exact mFm_pw (r4.2 k G hk') (g3 G (List.mem_of_getElem? hk')).1.2.2.2.2.2.1 x fun q j w => by unfold adW scW fmW at w; unfold fmW; omega
    · rw [List.getElem?_append_right (by omega)] at hk'
      have : k - (cF S).length = 0 := by
        rcases Nat.eq_zero_or_pos (k - (cF S).length) with z | z
        · exact z
        · rw [List.getElem?_eq_none (by rw [List.length_singleton]; omega)] at hk'; cases hk'
      rw [this] at hk'
      cases hk'
      rw [show k = (cF S).length by omega]
      exact hF
  · show y.1.2.2.2 < ((cF S ++ [F]).length : Int)
    have := s4 y hy
    rw [List.length_append, List.length_singleton]; omega
theorem adW_md {m f : Nat} : ∀ q j, adW m f q j → mdW m q j := fun q j w => by unfold adW scW fmW at w; unfold mdW; omega
/-- neighbours, as they are -/
theorem g_ask_143 {m t f : Nat} {R : Rw} {cs : List Ch} (ht : t < 3) (hf : f < 60) (hG : RwG R) (hl : cs.length ≤ 150) (hlt : ∀ k ∈ cs, k.1.1 < rn R) (hA : ∀ k ∈ cs, k.2.1 = nA R (goL cs) (rpos R k.1.1)) (hB : ∀ k ∈ cs, k.2.2 = nB R (goL cs) (rpos R k.1.1 + 1)) : ∀ (k q n : Nat) (h : AH), MdK h m → aI h m 18 = iI f → MRw h m t R → MLv h m (goL cs) → MCl h m f cs → (∀ j, j < q → aI h (m + 17) (150 * f + j) = iI (crd cs j).2.1 ∧ aI h (m + 18) (150 * f + j) = iI (crd cs j).2.2) → q + k = cs.length → k < n →
    Okp (p_X11_ask_143 n m (iI t) (iI q) h) (fun r h' => r = iI f ∧ aI h' m 18 = iI ((f : Int) + 1) ∧ (∀ j, j < cs.length → aI h' (m + 17) (150 * f + j) = iI (crd cs j).2.1 ∧ aI h' (m + 18) (150 * f + j) = iI (crd cs j).2.2) ∧ Pw (fun q j => ((q = m + 17 ∨ q = m + 18) ∧ 150 * f ≤ j ∧ j < 150 * f + 150) ∨ (q = m ∧ j = 18)) h h') := by
  have hn := hG.1
  intro k
  induction k with
  | zero =>
    intro q n h hK e18 hr hL hC hd hq hn'
    obtain ⟨n, rfl⟩ : ∃ m, n = m + 1 := ⟨n - 1, by omega⟩
    have e12 := hC.1
    unfold p_X11_ask_143
    simp (disch := omega) only [ck_t, nm_q, bR_s, j_add, j_sub, j_mul, j_nI, j_0, j_le, j_lt, j_eq, j_nat, j_ixe, bI_0, and_self, and_true, true_and, ne_eq, not_false_eq_true, not_true_eq_false, ite_true, ite_false, if_true, if_false, ck_p z_0, ck_p z_1, K_uI, N_uI, R_uI, L_uI, Z_uI, U_uI, E_uI, C_uI, M_uI, Int.toNat_natCast, mdk hK, ck_p, e18, e12, if_pos, w_I1]
    rw [show (f : Int) + 1 - 1 = f by omega]
    refine ok_some ⟨rfl, w_I1 _ _ _ _, fun j hj => ?_, pw_uI (Or.inr ⟨rfl, rfl⟩)⟩
    rw [w_I2 (by omega), w_I2 (by omega)]
    exact hd j (by omega)
  | succ k ih =>
    intro q n h hK e18 hr hL hC hd hq hn'
    obtain ⟨n, rfl⟩ : ∃ m, n = m + 1 := ⟨n - 1, by omega⟩
    have hq2 : q < cs.length := by omega
    have e12 := hC.1
    have e14 := (hC.2 q hq2).1
    have hm := crd_mem hq2
    have hln := hlt _ hm
    have eA := g_nearestA hK ht hr hG hL hln
    rw [← hA _ hm] at eA
    have p1 : Pw (fun q j => ((q = m + 17 ∨ q = m + 18) ∧ 150 * f ≤ j ∧ j < 150 * f + 150) ∨ (q = m ∧ j = 18)) h (uI h (m + 17) (150 * f + q) (iI (crd cs q).2.1)) := pw_uI (by omega)
    have K1 := mdK_pw hK p1
    have r1 : MRw (uI h (m + 17) (150 * f + q) (iI (crd cs q).2.1)) m t R := mRw_pw hr hn p1 fun q j w => by unfold txW; omega
    have L1 : MLv (uI h (m + 17) (150 * f + q) (iI (crd cs q).2.1)) m (goL cs) := fun i hi => by rw [w_I2 (by omega)]; exact hL i hi
    have eB := g_nearestB K1 ht r1 hG L1 hln
    rw [← hB _ hm] at eB
    unfold p_X11_ask_143
    simp (disch := omega) only [ck_t, nm_q, bR_s, j_add, j_sub, j_mul, j_nI, j_0, j_le, j_lt, j_eq, j_nat, j_ixe, bI_0, and_self, and_true, true_and, ne_eq, not_false_eq_true, not_true_eq_false, ite_true, ite_false, if_true, if_false, ck_p z_0, ck_p z_1, K_uI, N_uI, R_uI, L_uI, Z_uI, U_uI, E_uI, C_uI, M_uI, Int.toNat_natCast, mdk hK, ck_p, e18, e12, n_150, e14, eA, if_neg, w_I2, eB]
    have p2 : Pw (fun q j => ((q = m + 17 ∨ q = m + 18) ∧ 150 * f ≤ j ∧ j < 150 * f + 150) ∨ (q = m ∧ j = 18)) h (uI (uI h (m + 17) (150 * f + q) (iI (crd cs q).2.1)) (m + 18) (150 * f + q) (iI (crd cs q).2.2)) := pw_tr p1 (pw_uI (by omega))
    refine ok_to (ih (q + 1) n _ (mdK_pw hK p2) (by rw [w_I2 (by omega), w_I2 (by omega)]; exact e18) (mRw_pw hr hn p2 fun q j w => by unfold txW; omega) (fun i hi => by rw [w_I2 (by omega), w_I2 (by omega)]; exact hL i hi) ?_ (fun j hj => ?_) (by omega) (by omega)) fun _ h2 z => ⟨z.1, z.2.1, z.2.2.1, pw_tr p2 z.2.2.2⟩
    · refine ⟨by rw [w_I2 (by omega), w_I2 (by omega)]; exact e12, fun j hj => ?_⟩
      rw [w_I2 (by omega), w_I2 (by omega), w_I2 (by omega), w_I2 (by omega)]
      exact hC.2 j hj
    · by_cases d : j = q
      · subst d
        exact ⟨by rw [w_I2 (by omega), w_I1], w_I1 _ _ _ _⟩
      · rw [w_I2 (by omega), w_I3 (by omega), w_I3 (by omega), w_I2 (by omega)]
        exact hd j (by omega)
theorem askC_3 (R : Rw) (kd nb : Int) : (askC R kd nb).map (fun c => c.1) = cl3 (rsh R) (fun q => rs R (rsh R q)) (wAll kd nb (fun q => rs R (rsh R q)) (qcn (rf R) (rn R))) (qcn (rf R) (rn R)) := cl3_map _ _ _ _ _ _
theorem askC_AB (R : Rw) (kd nb : Int) : ∀ k ∈ askC R kd nb, k.2.1 = nA R (goL (askC R kd nb)) (rpos R k.1.1) ∧ k.2.2 = nB R (goL (askC R kd nb)) (rpos R k.1.1 + 1) := by
  intro k hk
  have eg : gw (rsh R) (wAll kd nb (fun q => rs R (rsh R q)) (qcn (rf R) (rn R))) (qcn (rf R) (rn R)) = goL (askC R kd nb) := funext fun l => gw_goL _ _ _ _ _ _ _
  obtain ⟨q, h1, h2, h3⟩ := chl_mem hk
  rw [← eg]
  subst h3
  exact ⟨rfl, rfl⟩
theorem askC_lt {R : Rw} (hG : RwG R) (kd nb : Int) : ∀ k ∈ askC R kd nb, k.1.1 < rn R := by
  intro k hk
  obtain ⟨q, h1, h2, h3⟩ := chl_mem hk
  subst h3
  exact rsh_lt hG h1
theorem mDr_crd {h : AH} {m f : Nat} {cs : List Ch} (hD : MDr h m f (cs.map (fun c => c.1))) : aI h (m + 12) f = iI cs.length ∧ ∀ k, k < cs.length → aI h (m + 14) (150 * f + k) = iI (crd cs k).1.1 ∧ aI h (m + 15) (150 * f + k) = iI (crd cs k).1.2.1 ∧ aI h (m + 16) (150 * f + k) = iI (bcm (crd cs k).1.2.2) := by
  refine ⟨by rw [hD.1, List.length_map], fun k hk => ?_⟩
  refine hD.2 k _ ?_
  rw [List.getElem?_map, crd_at hk]; rfl
theorem g_ask_48 {h : AH} {m : Nat} {kd nb : Int} {v1 v4 : Int32} (k1 : -2147483648 ≤ kd) (k2 : kd < 2147483648) (n1 : -2147483648 ≤ nb) (n2 : nb < 2147483648) : (if iI kd = iI 3 then if iI nb < iI 5 then p_X11_ask_26 m v1 (iI kd) (iI nb) v4 h else if iI 40 < iI nb then p_X11_ask_26 m v1 (iI kd) (iI nb) v4 h else p_X11_ask_48 m v1 (iI kd) (iI nb) v4 (iI 1) h else if iI kd < 0 then p_X11_ask_47 m v1 (iI kd) (iI nb) v4 h else if iI 3 ≤ iI kd then p_X11_ask_47 m v1 (iI kd) (iI nb) v4 h else if iI nb = 0 then p_X11_ask_48 m v1 (iI kd) (iI nb) v4 (iI 1) h else p_X11_ask_47 m v1 (iI kd) (iI nb) v4 h) = p_X11_ask_48 m v1 (iI kd) (iI nb) v4 (bI (askOk kd nb)) h := by
  unfold p_X11_ask_26 p_X11_ask_47 askOk
  simp (disch := omega) only [ck_t, nm_q, bR_s, j_add, j_sub, j_mul, j_nI, j_0, j_le, j_lt, j_eq, j_nat, j_ixe, bI_0, and_self, and_true, true_and, ne_eq, not_false_eq_true, not_true_eq_false, ite_true, ite_false, if_true, if_false, ck_p z_0, ck_p z_1, K_uI, N_uI, R_uI, L_uI, Z_uI, U_uI, E_uI, C_uI, M_uI, Int.toNat_natCast]
  by_cases c : kd = 3
  · rw [if_pos c, if_pos c]
    by_cases d : nb < 5
    · rw [if_pos d, decide_eq_false (by omega)]; rfl
    · rw [if_neg d]
      by_cases e : 40 < nb
      · rw [if_pos e, decide_eq_false (by omega)]; rfl
      · rw [if_neg e, decide_eq_true (by omega)]; rfl
  · rw [if_neg c, if_neg c]
    by_cases d : kd < 0
    · rw [if_pos d, decide_eq_false (by omega)]; rfl
    · rw [if_neg d]
      by_cases e : 3 ≤ kd
      · rw [if_pos e, decide_eq_false (by omega)]; rfl
      · rw [if_neg e]
        by_cases g : nb = 0
        · rw [if_pos g, decide_eq_true (by omega)]; rfl
        · rw [if_neg g, decide_eq_false (by omega)]; rfl
theorem g_ask {h : AH} {m : Nat} {S : Cs} {b kd nb : Int} (hR : MdR h m S) (hG : CsG S) (hG2 : CsG (asM S b kd nb).2) (b1 : -2147483648 ≤ b) (b2 : b < 2147483648) (k1 : -2147483648 ≤ kd) (k2 : kd < 2147483648) (n1 : -2147483648 ≤ nb) (n2 : nb < 2147483648) : Okp (p_X11_ask m (iI b) (iI kd) (iI nb) h) (MAn cdI m h (asM S b kd nb)) := by
  have k0 := hR.1.1.1
  have km := hR.1.1.2.1
  have hK := hR.1
  have e18 := hR.2.2.2.1.1
  have h60 := hG.2.2.2.2.1
  have hd48 : ∀ x y : Bool, p_X11_ask_48 m (iI b) (iI kd) (iI nb) (bI x) (bI y) h = p_X11_ask_69 m (iI b) (iI kd) (iI nb) m (bI x) (bI y) (bI (decide ((cF S).length < 60))) h := by
    intro x y
    unfold p_X11_ask_48
    rw [ck_p km, e18, ifc (j_le (by decide) (by decide) (by omega) (by omega))]
    by_cases c : 60 ≤ (cF S).length
    · rw [if_pos (by omega), decide_eq_false (by omega)]; rfl
    · rw [if_neg (by omega), decide_eq_true (by omega)]; rfl
  unfold p_X11_ask p_X11_ask_0
  unfold asM at hG2 ⊢
  simp only [k0, ne_eq, not_false_eq_true, ck_t]
  rw [bR_e (g_isText b1 b2), g_ask_48 k1 k2 n1 n2, hd48]
  unfold p_X11_ask_69
  rw [ck_p km, bR_e (g_goes hK (decide (tOk b)) (askOk kd nb) (decide ((cF S).length < 60))), ifc (bI_00 _)]
  by_cases hb : tOk b
  · rw [if_neg (show ¬ ¬ tOk b from fun z => z hb)] at hG2 ⊢
    rw [decide_eq_true hb, Bool.true_and]
    obtain ⟨b', rfl⟩ : ∃ b' : Nat, b = b' := ⟨b.toNat, by have := hb.1; omega⟩
    have hb3 : b' < 3 := by have := hb.2; omega
    simp only [Int.toNat_natCast] at hG2 ⊢
    cases ho : askOk kd nb
    · rw [if_pos (show (false && decide ((cF S).length < 60)) = false from Bool.false_and _), if_pos (show false = false from rfl)]
      exact ok_some (man_er (w_I1 h m 31 _) (mdR_sc hR hG p31) (pw_mono p31 scW_md))
    · rw [ho, if_neg (show ¬ (true = false) by decide)] at hG2
      rw [Bool.true_and, if_neg (show ¬ (true = false) by decide)]
      by_cases hf : 60 ≤ (cF S).length
      · rw [if_pos hf, decide_eq_false (by omega), if_pos (show false = false from rfl)]
        exact ok_some (man_er (w_I1 h m 31 _) (mdR_sc hR hG p31) (pw_mono p31 scW_md))
      · rw [if_neg hf] at hG2
        rw [if_neg hf, decide_eq_true (show (cF S).length < 60 by omega), if_neg (show ¬ (true = false) by decide)]
        have R2 := mdR_sc hR hG (p31 (v := iI (gcd3 true true true)))
        have p2 := p31 (h := h) (m := m) (v := iI (gcd3 true true true))
        have t1 : aI (uI h m 31 (iI (gcd3 true true true))) m 31 = iI 0 := w_I1 h m 31 (iI (gcd3 true true true))
        generalize uI h m 31 (iI (gcd3 true true true)) = g at *
        have K2 := R2.1
        have gR := (hG.1 b' hb3).1
        have hr := (R2.2.1 b' hb3).1
        have f18 := R2.2.2.2.1.1
        obtain ⟨f, ef⟩ : ∃ f, f = (cF S).length := ⟨_, rfl⟩
        have hf60 : f < 60 := by omega
        rw [← ef] at f18 ⊢
        have gF := (hG2.2.2.1 (b', 0, askC (xR (cX S b')) kd nb, 0) (List.mem_append_right _ (List.mem_singleton.mpr rfl))).1
        have hl150 : (askC (xR (cX S b')) kd nb).length ≤ 150 := gF.2.2.2.2.2.1
        have hChP : ∀ k ∈ askC (xR (cX S b')) kd nb, ChP k := gF.2.2.2.2.2.2
        simp (disch := omega) only [ck_t, nm_q, bR_s, j_add, j_sub, j_mul, j_nI, j_0, j_le, j_lt, j_eq, j_nat, j_ixe, bI_0, and_self, and_true, true_and, ne_eq, not_false_eq_true, not_true_eq_false, ite_true, ite_false, if_true, if_false, ck_p z_0, ck_p z_1, K_uI, N_uI, R_uI, L_uI, Z_uI, U_uI, E_uI, C_uI, M_uI, Int.toNat_natCast, mdk K2, ck_p, f18, w_I2]
        have p3 : Pw (fmW m f) g (uI (uI (uI g (m + 10) f (iI b')) (m + 11) f (iI 0)) (m + 12) f (iI 0)) := pw_tr (pw_uI (by unfold fmW; omega)) (pw_tr (pw_uI (by unfold fmW; omega)) (pw_uI (by unfold fmW; omega)))
        have x10 : aI (uI (uI (uI g (m + 10) f (iI b')) (m + 11) f (iI 0)) (m + 12) f (iI 0)) (m + 10) f = iI b' := by rw [w_I2 (by omega), w_I2 (by omega), w_I1]
        have x11 : aI (uI (uI (uI g (m + 10) f (iI b')) (m + 11) f (iI 0)) (m + 12) f (iI 0)) (m + 11) f = iI 0 := by rw [w_I2 (by omega), w_I1]
        have x12 : aI (uI (uI (uI g (m + 10) f (iI b')) (m + 11) f (iI 0)) (m + 12) f (iI 0)) (m + 12) f = iI 0 := w_I1 _ _ _ _
        generalize uI (uI (uI g (m + 10) f (iI b')) (m + 11) f (iI 0)) (m + 12) f (iI 0) = g3 at *
        have K3 := mdK_pw K2 p3
        have hr3 := mRw_pw hr gR.1 p3 fun q j w => by unfold fmW at w; unfold txW; omega
        refine ok_bR (g_shows hb3 gR K3 hr3) ?_
        rintro _ g4 ⟨s1, s2⟩
        have K4 := mdK_pw K3 s2
        have hr4 := mRw_pw hr3 gR.1 s2 fun q j w => by unfold shW at w; unfold txW; omega
        have f18' : aI g4 m 18 = iI f := by rw [pw_I s2 (by unfold shW; omega), pw_I p3 (by unfold fmW; omega)]; exact f18
        have hC4 : DrC g4 m b' f (xR (cX S b')) := ⟨K4, f18', hr4, s1⟩
        have hD4 : MDr g4 m f [] := ⟨by rw [pw_I s2 (by unfold shW; omega)]; exact x12, fun k x hk => by cases hk⟩
        have hqn := qcn_le (rf (xR (cX S b'))) (rn (xR (cX S b')))
        have hn := gR.1
        have rest : ∀ g5, MDr g5 m f ((askC (xR (cX S b')) kd nb).map (fun c => c.1)) → Pw (wtW m f) g4 g5 → Okp (p_X11_ask_132 m (iI b') g5) (MAn cdI m h (.ok (f : Int), (cX S, cH S, cF S ++ [(b', 0, askC (xR (cX S b')) kd nb, 0)], cQ S, cN S))) := by
          intro g5 hD5 q5
          have hC5 := drC_pw hC4 gR q5
          have hc5 := mDr_crd hD5
          have hAB := askC_AB (xR (cX S b')) kd nb
          have hlt := askC_lt gR kd nb
          generalize askC (xR (cX S b')) kd nb = cs at *
          have K5 := hC5.1
          have f18'' := hC5.2.1
          unfold p_X11_ask_132
          simp (disch := omega) only [ck_t, nm_q, bR_s, j_add, j_sub, j_mul, j_nI, j_0, j_le, j_lt, j_eq, j_nat, j_ixe, bI_0, and_self, and_true, true_and, ne_eq, not_false_eq_true, not_true_eq_false, ite_true, ite_false, if_true, if_false, ck_p z_0, ck_p z_1, K_uI, N_uI, R_uI, L_uI, Z_uI, U_uI, E_uI, C_uI, M_uI, Int.toNat_natCast, mdk K5, ck_p, f18'']
          refine ok_bR (g_marks hf60 hl150 hChP K5 ⟨hc5.1, fun k hk => ⟨(hc5.2 k hk).1, (hc5.2 k hk).2.2⟩⟩) ?_
          rintro _ g6 ⟨l1, l2⟩
          have K6 := mdK_pw K5 l2
          refine ok_to (g_ask_143 hb3 hf60 gR hl150 hlt (fun k hk => (hAB k hk).1) (fun k hk => (hAB k hk).2) cs.length 0 FU g6 K6 (by rw [pw_I l2 (by omega)]; exact f18'') (mRw_pw hC5.2.2.1 gR.1 l2 fun q j w => by unfold txW; omega) l1 ⟨by rw [pw_I l2 (by omega)]; exact hc5.1, fun k hk => by rw [pw_I l2 (by omega), pw_I l2 (by omega)]; exact ⟨(hc5.2 k hk).1, (hc5.2 k hk).2.2⟩⟩ (fun j hj => absurd hj (Nat.not_lt_zero _)) (by omega) (by unfold FU; omega)) ?_
          rintro r g7 ⟨y1, y2, y3, y4⟩
          subst y1
          have pall : Pw (adW m f) g g7 := by
            refine pw_tr (pw_mono p3 fun q j w => Or.inr (Or.inl w)) (pw_tr (pw_mono s2 fun q j w => Or.inl (shW_sc q j w)) (pw_tr (pw_mono q5 fun q j w => Or.inr (Or.inl (by unfold wtW at w; unfold fmW; omega))) (pw_tr (pw_mono l2 fun q j w => Or.inl (by unfold scW; omega)) (pw_mono y4 fun q j w => ?_))))
            rcases w with w | w
            · exact Or.inr (Or.inl (by unfold fmW; omega))
            · exact Or.inr (Or.inr w)
          have r5 : ∀ q j, m + 10 ≤ q → q ≤ m + 16 → aI g7 q j = aI g5 q j := fun q j z1 z2 => by rw [pw_I y4 (by omega), pw_I l2 (by omega)]
          have hF : MFm g7 m f (b', 0, cs, 0) := by
            refine ⟨?_, ?_, by rw [r5 _ _ (by omega) (by omega)]; exact hc5.1, fun (e : (0 : Int) = 1) => absurd e (by decide), fun (e : (0 : Int) = 2) => absurd e (by decide), fun k hk => ⟨⟨?_, ?_, (y3 k hk).1, (y3 k hk).2⟩, fun _ => ?_⟩⟩
            · rw [r5 _ _ (by omega) (by omega), pw_I q5 (by unfold wtW; omega), pw_I s2 (by unfold shW; omega)]; exact x10
            · rw [r5 _ _ (by omega) (by omega), pw_I q5 (by unfold wtW; omega), pw_I s2 (by unfold shW; omega)]; exact x11
            · rw [r5 _ _ (by omega) (by omega)]; exact (hc5.2 k hk).1
            · rw [r5 _ _ (by omega) (by omega)]; exact (hc5.2 k hk).2.2
            · rw [r5 _ _ (by omega) (by omega)]; exact (hc5.2 k hk).2.1
          refine man_ok ?_ (mdR_addF R2 hG ef pall y2 hF) (pw_tr (pw_mono p2 scW_md) (pw_mono pall adW_md))
          rw [pw_I y4 (by omega), pw_I l2 (by omega), pw_I q5 (by unfold wtW; omega), pw_I s2 (by unfold shW; omega), pw_I p3 (by unfold fmW; omega)]
          exact t1
        by_cases c3 : kd = 3
        · rw [if_pos c3]
          obtain ⟨w, rfl⟩ : ∃ w : Nat, nb = w := ⟨nb.toNat, by unfold askOk at ho; rw [if_pos c3] at ho; have := of_decide_eq_true ho; omega⟩
          have hw40 : w ≤ 40 := by unfold askOk at ho; rw [if_pos c3] at ho; have := of_decide_eq_true ho; omega
          subst c3
          have e := g_wln_2 (w := w) hb3 hf60 gR hw40 (qcn (rf (xR (cX S b'))) (rn (xR (cX S b')))) 0 0 FU g4 (by omega) (Nat.zero_le _) ⟨rfl, Nat.le_refl _, Nat.zero_le _, fun j z1 z2 => absurd z2 (Nat.not_lt_zero _)⟩ hC4 hD4 (by unfold FU; omega)
          have ea := askC_3 (xR (cX S b')) 3 w
          have ew : wAll 3 (w : Int) (fun q => rs (xR (cX S b')) (rsh (xR (cX S b')) q)) (qcn (rf (xR (cX S b'))) (rn (xR (cX S b')))) = wWr (fun q => rs (xR (cX S b')) (rsh (xR (cX S b')) q)) (w : Int) (qcn (rf (xR (cX S b'))) (rn (xR (cX S b')))) := by
            unfold wAll
            rw [if_neg (by decide), if_neg (by decide), if_neg (by decide)]
          rw [ew] at ea
          rw [← ea] at e
          unfold p_X11_wantsLines p_X11_wantsLines_0
          simp (disch := omega) only [ck_t, nm_q, bR_s, j_add, j_sub, j_mul, j_nI, j_0, j_le, j_lt, j_eq, j_nat, j_ixe, bI_0, and_self, and_true, true_and, ne_eq, not_false_eq_true, not_true_eq_false, ite_true, ite_false, if_true, if_false, ck_p z_0, ck_p z_1, K_uI, N_uI, R_uI, L_uI, Z_uI, U_uI, E_uI, C_uI, M_uI, Int.toNat_natCast, mdk K4, ck_p]
          refine ok_bR e ?_
          rintro _ g5 ⟨z1, z2⟩
          exact rest g5 z1 z2
        · rw [if_neg c3]
          have hkd : kd = 0 ∨ kd = 1 ∨ kd = 2 := by unfold askOk at ho; rw [if_neg c3] at ho; have := of_decide_eq_true ho; omega
          have e := g_wl_2 (kd := kd) (nb := nb) hb3 hf60 gR hkd (qcn (rf (xR (cX S b'))) (rn (xR (cX S b')))) 0 FU g4 hC4 hD4 (by omega) (by unfold FU; omega)
          rw [← askC_3] at e
          unfold p_X11_wantsLetters p_X11_wantsLetters_0
          simp (disch := omega) only [ck_t, nm_q, bR_s, j_add, j_sub, j_mul, j_nI, j_0, j_le, j_lt, j_eq, j_nat, j_ixe, bI_0, and_self, and_true, true_and, ne_eq, not_false_eq_true, not_true_eq_false, ite_true, ite_false, if_true, if_false, ck_p z_0, ck_p z_1, K_uI, N_uI, R_uI, L_uI, Z_uI, U_uI, E_uI, C_uI, M_uI, Int.toNat_natCast, mdk K4, ck_p]
          refine ok_bR e ?_
          rintro _ g5 ⟨z1, z2⟩
          exact rest g5 z1 z2
  · rw [if_pos hb, decide_eq_false hb, Bool.false_and, Bool.false_and, if_pos (show false = false from rfl)]
    exact ok_some (man_er (w_I1 h m 31 _) (mdR_sc hR hG p31) (pw_mono p31 scW_md))

