
/-! ===== a letter goes ===== -/
theorem bI_e (a b : Bool) : (bI a = bI b) = (a = b) := by cases a <;> cases b <;> simp <;> decide +kernel
theorem j_div {a b : Int} (a1 : 0 ≤ a) (a2 : a < 2147483648) (b1 : 0 < b) (b2 : b < 2147483648) : iI a / iI b = iI (a / b) := by
  have h1 : 0 ≤ a / b := Int.ediv_nonneg a1 (by omega)
  have h2 : a / b ≤ a := Int.ediv_le_self b a1
  rw [← Int32.toInt_inj, Int32.toInt_div, j_toInt (by omega) a2, j_toInt (by omega) b2, j_toInt (by omega) (by omega), Int.tdiv_eq_ediv_of_nonneg a1]
  exact Int.bmod_eq_of_le (by omega) (by omega)
theorem rpos_is {R : Rw} (hP : RwP R) {l : Nat} (hl : l < rn R) : rpos R l < rn R ∧ ro R (rpos R l) = l := by
  obtain ⟨i, h1, h2⟩ := hP.2 l hl
  have e := rpos_ro hP h1
  rw [h2] at e
  rw [e]; exact ⟨h1, h2⟩
theorem qfd_s (f : Nat → Bool) (k i : Nat) : qfd f (k + 1) i = if f i then i else qfd f k (i + 1) := rfl
theorem mRw_there {h : AH} {m t l : Nat} {R : Rw} {b : Bool} (hr : MRw h m t R) (hl : l < rn R) : MRw (uI h (m + 3) (150 * t + l) (bI b)) m t (rsetT R l b) := by
  refine ⟨by rw [w_I2 (by omega)]; exact hr.1, fun i hi => ?_⟩
  rw [w_I2 (by omega), w_I2 (by omega)]
  refine ⟨(hr.2 i hi).1, (hr.2 i hi).2.1, ?_⟩
  show _ = bI (if i = l then b else rt R i)
  by_cases d : i = l
  · rw [if_pos d, d, w_I1]
  · rw [if_neg d, w_I3 (by omega)]; exact (hr.2 i hi).2.2
theorem rwG_setT {R : Rw} (hG : RwG R) (l : Nat) (b : Bool) : RwG (rsetT R l b) := hG
theorem mTx_R {h h' : AH} {m t : Nat} {T T' : Tx} (hT : MTx h m t T) (hn : xN T ≤ 150) (x : Pw (fun q j => (q = m + 1 ∨ q = m + 2 ∨ q = m + 3 ∨ q = m + 4) ∧ txW m t q j) h h') (hr : MRw h' m t (xR T')) (eC : xC T' = xC T) (eV : xV T' = xV T) (eL : xL T' = xL T) (eW : xW T' = xW T) (eN : xN T' = xN T) (eS : xS T' = xS T) : MTx h' m t T' := by
  obtain ⟨b1, b2, b3⟩ := hT
  refine ⟨hr, fun j hj => ?_, ?_⟩
  · rw [eC, pw_I x (by omega)]; exact b2 j hj
  · unfold MSv
    rw [eV, eL, eW, eN, eS, pw_I x (by omega), pw_I x (by omega), pw_I x (by omega), pw_I x (by omega)]
    refine ⟨b3.1, b3.2.1, b3.2.2.1, b3.2.2.2.1, fun j hj => ?_⟩
    rw [pw_I x (by omega)]; exact b3.2.2.2.2 j hj
theorem mRw_pw2 {W : Nat → Nat → Prop} {h h' : AH} {m t : Nat} {R : Rw} (hr : MRw h m t R) (x : Pw W h h') (hd : ∀ q j, W q j → q ≠ m + 1 ∧ q ≠ m + 2 ∧ q ≠ m + 3 ∧ q ≠ m + 4) : MRw h' m t R := by
  unfold MRw
  rw [pw_I x (fun w => (hd _ _ w).2.2.2 rfl)]
  refine ⟨hr.1, fun i hi => ?_⟩
  rw [pw_I x (fun w => (hd _ _ w).1 rfl), pw_I x (fun w => (hd _ _ w).2.1 rfl), pw_I x (fun w => (hd _ _ w).2.2.1 rfl)]
  exact hr.2 i hi
theorem mSv_pw2 {W : Nat → Nat → Prop} {h h' : AH} {m t : Nat} {T : Tx} (hr : MSv h m t T) (x : Pw W h h') (hd : ∀ q j, W q j → q ≠ m + 5 ∧ q ≠ m + 23 ∧ q ≠ m + 24 ∧ q ≠ m + 25 ∧ q ≠ m + 26) : MSv h' m t T := by
  unfold MSv
  rw [pw_I x (fun w => (hd _ _ w).1 rfl), pw_I x (fun w => (hd _ _ w).2.1 rfl), pw_I x (fun w => (hd _ _ w).2.2.1 rfl), pw_I x (fun w => (hd _ _ w).2.2.2.1 rfl)]
  refine ⟨hr.1, hr.2.1, hr.2.2.1, hr.2.2.2.1, fun j hj => ?_⟩
  rw [pw_I x (fun w => (hd _ _ w).2.2.2.2 rfl)]
  exact hr.2.2.2.2 j hj
theorem g_leaves_83 {m t l : Nat} {T : Tx} {z : Int} (ht : t < 3) (hl : l < rn (xR T)) (hG : TxG T) : ∀ (k j n : Nat) (h : AH), MdK h m → (∀ i, i < 5 → aI h (m + 6) (5 * t + i) = iI (if i < j then xcur T l z i else xC T i)) → j + k = 5 → k < n → Okp (p_X11_leaves_83 n m (iI t) (iI l) (iI z) (iI j) h) (fun _ h' => MCu h' m t (xcur T l z) ∧ Pw (fun q j => q = m + 6 ∧ 5 * t ≤ j ∧ j < 5 * t + 5) h h') := by
  intro k
  induction k with
  | zero =>
    intro j n h hK hC hj hn
    obtain ⟨n, rfl⟩ : ∃ m, n = m + 1 := ⟨n - 1, by omega⟩
    unfold p_X11_leaves_83
    simp (disch := omega) only [ck_t, nm_q, bR_s, j_add, j_sub, j_mul, j_nI, j_0, j_le, j_lt, j_eq, j_nat, j_ixe, bI_0, and_self, and_true, true_and, ne_eq, not_false_eq_true, not_true_eq_false, ite_true, ite_false, if_true, if_false, ck_p z_0, ck_p z_1, K_uI, N_uI, R_uI, L_uI, Z_uI, U_uI, E_uI, C_uI, M_uI, Int.toNat_natCast, if_pos]
    refine ok_some ⟨fun i hi => ?_, pw_rf⟩
    have := hC i hi
    rw [if_pos (by omega)] at this
    exact this
  | succ k ih =>
    intro j n h hK hC hj hn
    obtain ⟨n, rfl⟩ : ∃ m, n = m + 1 := ⟨n - 1, by omega⟩
    have e := hC j (by omega)
    rw [if_neg (Nat.lt_irrefl j)] at e
    have gc := hG.2.1 j (by omega)
    have gn := hG.1.1
    have step : ∀ v : Int, v = xcur T l z j → Okp (p_X11_leaves_83 n m (iI t) (iI l) (iI z) (iI ((j : Int) + 1)) (uI h (m + 6) (5 * t + j) (iI v))) (fun _ h' => MCu h' m t (xcur T l z) ∧ Pw (fun q j => q = m + 6 ∧ 5 * t ≤ j ∧ j < 5 * t + 5) h h') := by
      intro v ev
      have p : Pw (fun q j => q = m + 6 ∧ 5 * t ≤ j ∧ j < 5 * t + 5) h (uI h (m + 6) (5 * t + j) (iI v)) := pw_uI (by omega)
      refine ok_to (ih (j + 1) n _ (mdK_pw hK p) (fun i hi => ?_) (by omega) (by omega)) fun _ h2 z => ⟨z.1, pw_tr p z.2⟩
      by_cases d : i = j
      · rw [d, w_I1, if_pos (by omega), ev]
      · rw [w_I3 (by omega), hC i hi]
        by_cases d2 : i < j
        · rw [if_pos d2, if_pos (by omega)]
        · rw [if_neg d2, if_neg (by omega)]
    unfold p_X11_leaves_83 p_X11_leaves_129
    simp (disch := omega) only [ck_t, nm_q, bR_s, j_add, j_sub, j_mul, j_nI, j_0, j_le, j_lt, j_eq, j_nat, j_ixe, bI_0, and_self, and_true, true_and, ne_eq, not_false_eq_true, not_true_eq_false, ite_true, ite_false, if_true, if_false, ck_p z_0, ck_p z_1, K_uI, N_uI, R_uI, L_uI, Z_uI, U_uI, E_uI, C_uI, M_uI, Int.toNat_natCast, mdk hK, ck_p, n_5, e, if_neg]
    by_cases c : xC T j = (l : Int)
    · rw [if_pos c]
      exact step z (by unfold xcur; rw [if_pos c])
    · rw [if_neg c]
      exact step (xC T j) (by unfold xcur; rw [if_neg c])
theorem g_leaves_25 {h : AH} {m t l : Nat} {R : Rw} (hK : MdK h m) (ht : t < 3) (hr : MRw h m t R) (hG : RwG R) (hl : l < rn R) : ∀ (d k n : Nat), k = rpos R l + 1 + d → k ≤ rn R → d < n → p_X11_leaves_25 n m (iI t) (iI l) (iI (rl R (qfd (rf R) (rn R - k) k))) (iI ((k : Int) - 1)) h = p_X11_leaves_83 FU m (iI t) (iI l) (iI (rl R (qfd (rf R) (rn R - (rpos R l + 1)) (rpos R l + 1)))) (iI 0) h := by
  have hn := hG.1
  have e1 := g_at hK ht hr hG (z := l) (by omega) (by omega)
  intro d
  induction d with
  | zero =>
    intro k n hk hk2 hn'
    obtain ⟨n, rfl⟩ : ∃ m, n = m + 1 := ⟨n - 1, by omega⟩
    unfold p_X11_leaves_25
    simp (disch := omega) only [ck_t, nm_q, bR_s, j_add, j_sub, j_mul, j_nI, j_0, j_le, j_lt, j_eq, j_nat, j_ixe, bI_0, and_self, and_true, true_and, ne_eq, not_false_eq_true, not_true_eq_false, ite_true, ite_false, if_true, if_false, ck_p z_0, ck_p z_1, K_uI, N_uI, R_uI, L_uI, Z_uI, U_uI, E_uI, C_uI, M_uI, Int.toNat_natCast, mdk hK, e1, if_pos]
    rw [hk]
  | succ d ih =>
    intro k n hk hk2 hn'
    obtain ⟨n, rfl⟩ : ∃ m, n = m + 1 := ⟨n - 1, by omega⟩
    obtain ⟨k, rfl⟩ : ∃ k', k = k' + 1 := ⟨k - 1, by omega⟩
    have hz := (hr.2 k (by omega)).1
    have ho := (hG.2.1 k (by omega)).1
    have ht2 := (hr.2 (ro R k) ho).2.2
    have ek : (((k + 1 : Nat) : Int) - 1) = (k : Int) := by omega
    have e3 := ih k n (by omega) (by omega) (by omega)
    rw [show rn R - k = (rn R - (k + 1)) + 1 by omega, qfd_s] at e3
    have ef : rf R k = rt R (ro R k) := rfl
    unfold p_X11_leaves_25 p_X11_leaves_73
    rw [ek]
    simp (disch := omega) only [ck_t, nm_q, bR_s, j_add, j_sub, j_mul, j_nI, j_0, j_le, j_lt, j_eq, j_nat, j_ixe, bI_0, and_self, and_true, true_and, ne_eq, not_false_eq_true, not_true_eq_false, ite_true, ite_false, if_true, if_false, ck_p z_0, ck_p z_1, K_uI, N_uI, R_uI, L_uI, Z_uI, U_uI, E_uI, C_uI, M_uI, Int.toNat_natCast, mdk hK, e1, if_neg, ck_p, n_150, hz, ht2]
    rw [show ((k : Int) + -1) = (k : Int) - 1 by omega]
    cases c : rt R (ro R k)
    · rw [ef, c] at e3
      rw [if_pos rfl]
      exact e3
    · rw [ef, c, if_pos rfl] at e3
      rw [if_neg (by decide)]
      have e4 : rl R k = (ro R k : Int) := by unfold rl; rw [if_pos (by omega)]
      rw [e4] at e3
      exact e3
theorem g_leaves {h : AH} {m t l : Nat} {T : Tx} (hK : MdK h m) (ht : t < 3) (hT : MTx h m t T) (hG : TxG T) (hl : l < rn (xR T)) : Okp (p_X11_leaves m (iI t) (iI l) h) (fun _ h' => MTx h' m t (xgo T l) ∧ Pw (txW m t) h h') := by
  have hn := hG.1.1
  have e4 := hT.1.1
  have p : Pw (txW m t) h (uI h (m + 3) (150 * t + l) (bI false)) := pw_uI (by unfold txW; omega)
  have r1 := mRw_there (b := false) hT.1 hl
  have hK1 := mdK_pw hK p
  have hG1 : RwG (rsetT (xR T) l false) := hG.1
  have hl1 : l < rn (rsetT (xR T) l false) := hl
  have hp := rpos_is hG1.2.2 hl1
  have hT1 : MTx (uI h (m + 3) (150 * t + l) (bI false)) m t (rsetT (xR T) l false, xC T, xD T, xV T, xL T, xW T, xN T, xS T) := mTx_R hT hG.2.2.1 (pw_uI ⟨by omega, by unfold txW; omega⟩) r1 rfl rfl rfl rfl rfl rfl
  have e25 := g_leaves_25 hK1 ht r1 hG1 hl1 (rn (xR T) - (rpos (rsetT (xR T) l false) l + 1)) (rn (xR T)) FU (by have := hp.1; show rn (xR T) = _; have h2 : rn (rsetT (xR T) l false) = rn (xR T) := rfl; omega) (Nat.le_refl _) (by unfold FU; omega)
  have e83 := g_leaves_83 (z := rl (rsetT (xR T) l false) (qfd (rf (rsetT (xR T) l false)) (rn (rsetT (xR T) l false) - (rpos (rsetT (xR T) l false) l + 1)) (rpos (rsetT (xR T) l false) l + 1))) ht hl hG 5 0 FU (uI h (m + 3) (150 * t + l) (bI false)) hK1 (fun i hi => by rw [if_neg (Nat.not_lt_zero _)]; exact hT1.2.1 i hi) (by omega) (by unfold FU; omega)
  have exn : xnext (rsetT (xR T) l false) l = rl (rsetT (xR T) l false) (qfd (rf (rsetT (xR T) l false)) (rn (rsetT (xR T) l false) - (rpos (rsetT (xR T) l false) l + 1)) (rpos (rsetT (xR T) l false) l + 1)) := by
    unfold xnext
    have h1 := hp.1
    rw [show rn (rsetT (xR T) l false) - rpos (rsetT (xR T) l false) l = (rn (rsetT (xR T) l false) - (rpos (rsetT (xR T) l false) l + 1)) + 1 by omega, qfd_s]
    have : rf (rsetT (xR T) l false) (rpos (rsetT (xR T) l false) l) = false := by
      show (if ro (rsetT (xR T) l false) (rpos (rsetT (xR T) l false) l) = l then false else _) = false
      rw [if_pos hp.2]
    rw [this]; rfl
  rw [← exn] at e83 e25
  have ez : qfd (rf (rsetT (xR T) l false)) (rn (rsetT (xR T) l false) - rn (xR T)) (rn (xR T)) = rn (xR T) := by
    show qfd _ (rn (xR T) - rn (xR T)) _ = _
    rw [Nat.sub_self]; rfl
  have er : rl (rsetT (xR T) l false) (rn (xR T)) = -1 := by
    unfold rl
    rw [if_neg (show ¬ rn (xR T) < rn (rsetT (xR T) l false) from Nat.lt_irrefl _)]
  rw [ez, er] at e25
  unfold p_X11_leaves p_X11_leaves_0
  simp (disch := omega) only [ck_t, nm_q, bR_s, j_add, j_sub, j_mul, j_nI, j_0, j_le, j_lt, j_eq, j_nat, j_ixe, bI_0, and_self, and_true, true_and, ne_eq, not_false_eq_true, not_true_eq_false, ite_true, ite_false, if_true, if_false, ck_p z_0, ck_p z_1, K_uI, N_uI, R_uI, L_uI, Z_uI, U_uI, E_uI, C_uI, M_uI, Int.toNat_natCast, mdk hK, ck_p, n_150, j_z0, w_I2, e4]
  rw [e25]
  refine ok_to e83 fun _ h' z => ?_
  obtain ⟨z1, z2⟩ := z
  have p2 : Pw (txW m t) (uI h (m + 3) (150 * t + l) (bI false)) h' := pw_mono z2 fun q j w => by unfold txW; omega
  refine ⟨⟨?_, z1, ?_⟩, pw_tr p p2⟩
  · exact mRw_pw2 hT1.1 z2 fun q j w => by omega
  · exact mSv_pw2 hT1.2.2 z2 fun q j w => by omega
/-! ===== acts ===== -/
theorem g_keeps {h : AH} {m a : Nat} {A : Hd} {x : Ac} (hK : MdK h m) (ha : a < 5) (hA : MHd h m a A) (h1 : A.2 ≤ A.1.length) (h2 : A.1.length ≤ 512) : Okp (p_X11_keeps m (iI a) (iI (aco x)) h) (fun _ h' => MHd h' m a (A.1.take A.2 ++ [x], A.2 + 1) ∧ Pw (hdW m a) h h') := by
  have e8 := hA.1
  unfold p_X11_keeps p_X11_keeps_0
  simp (disch := omega) only [ck_t, nm_q, bR_s, j_add, j_sub, j_mul, j_nI, j_0, j_le, j_lt, j_eq, j_nat, j_ixe, bI_0, and_self, and_true, true_and, ne_eq, not_false_eq_true, not_true_eq_false, ite_true, ite_false, if_true, if_false, ck_p z_0, ck_p z_1, K_uI, N_uI, R_uI, L_uI, Z_uI, U_uI, E_uI, C_uI, M_uI, Int.toNat_natCast, mdk hK, ck_p, n_600, e8, w_I2, w_I1]
  have p : Pw (hdW m a) h (uI (uI (uI h (m + 7) (600 * a + A.2) (iI (aco x))) (m + 8) a (iI ((A.2 : Int) + 1))) (m + 9) a (iI 0)) := pw_tr (pw_uI (by unfold hdW; omega)) (pw_tr (pw_uI (by unfold hdW; omega)) (pw_uI (by unfold hdW; omega)))
  have ht : (A.1.take A.2).length = A.2 := by rw [List.length_take]; omega
  refine ok_some ⟨⟨?_, ?_, fun k y hk => ?_⟩, p⟩
  · rw [w_I2 (by omega), w_I1]; rfl
  · rw [w_I1]
    congr 1
    show (0 : Int) = ((A.1.take A.2 ++ [x]).length : Int) - ((A.2 + 1 : Nat) : Int)
    rw [List.length_append, ht, List.length_singleton]; omega
  · rw [w_I2 (by omega), w_I2 (by omega)]
    have hk' : (A.1.take A.2 ++ [x])[k]? = some y := hk
    by_cases d : k < A.2
    · rw [List.getElem?_append_left (by omega), List.getElem?_take_of_lt d] at hk'
      rw [w_I3 (by omega)]
      exact hA.2.2 k y hk'
    · rw [List.getElem?_append_right (by omega), ht] at hk'
      have : k - A.2 = 0 := by
        rcases Nat.eq_zero_or_pos (k - A.2) with z | z
        · exact z
        · rw [List.getElem?_eq_none (by rw [List.length_singleton]; omega)] at hk'; cases hk'
      rw [this] at hk'
      cases hk'
      rw [w_I4 (by omega)]

