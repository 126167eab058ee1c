
/-! ===== formats judged ===== -/
def MLv (h : AH) (m : Nat) (g : Nat → Bool) : Prop := ∀ i, i < 150 → aI h (m + 28) i = bI (g i)
def MCl (h : AH) (m f : Nat) (cs : List Ch) : Prop := aI h (m + 12) f = iI cs.length ∧ ∀ k, k < cs.length → aI h (m + 14) (150 * f + k) = iI (crd cs k).1.1 ∧ aI h (m + 16) (150 * f + k) = iI (bcm (crd cs k).1.2.2)
theorem bcm_0 {w : Int} (hw : 1 ≤ w) : (bcm w = 0) = (w = 1) := by
  unfold bcm
  by_cases c : w = 1
  · rw [if_pos c]; simp only [c]
  · rw [if_neg c]; exact propext ⟨fun z => by omega, fun z => absurd z c⟩
theorem bcm_rg {w : Int} (h1 : 1 ≤ w) (h2 : w ≤ 65535) : 0 ≤ bcm w ∧ bcm w ≤ 65535 := by
  unfold bcm
  split <;> omega
theorem mCl_pw {W : Nat → Nat → Prop} {h h' : AH} {m f : Nat} {cs : List Ch} (hr : MCl h m f cs) (hn : cs.length ≤ 150) (x : Pw W h h') (hd : ∀ q j, W q j → ¬ fmW m f q j) : MCl h' m f cs := by
  have nw : ∀ q j, fmW m f q j → ¬ W q j := fun q j z w => hd q j w z
  unfold MCl
  rw [pw_I x (nw (m + 12) f (by unfold fmW; omega))]
  refine ⟨hr.1, fun k hk => ?_⟩
  rw [pw_I x (nw (m + 14) (150 * f + k) (by unfold fmW; omega)), pw_I x (nw (m + 16) (150 * f + k) (by unfold fmW; omega))]
  exact hr.2 k hk
theorem mCl_of {h : AH} {m f : Nat} {F : Fm} (hF : MFm h m f F) : MCl h m f (fC F) := ⟨hF.2.2.1, fun k hk => ⟨(hF.2.2.2.2.2 k hk).1.1, (hF.2.2.2.2.2 k hk).1.2.1⟩⟩
theorem g_marks_24 {m f : Nat} {cs : List Ch} (hf : f < 60) (hl : cs.length ≤ 150) (hP : ∀ k ∈ cs, ChP k) : ∀ (k q n : Nat) (h : AH), MdK h m → MCl h m f cs → MLv h m (goL (cs.take q)) → q + k = cs.length → k < n → Okp (p_X11_marks_24 n m (iI f) (iI q) h) (fun _ h' => MLv h' m (goL cs) ∧ Pw (fun q _ => q = m + 28) h h') := by
  intro k
  induction k with
  | zero =>
    intro q n h hK hC hL hq hn
    obtain ⟨n, rfl⟩ : ∃ m, n = m + 1 := ⟨n - 1, by omega⟩
    have e0 := hC.1
    unfold p_X11_marks_24
    simp (disch := omega) only [ck_t, nm_q, bR_s, j_add, j_sub, j_mul, j_nI, j_0, j_le, j_lt, j_eq, j_nat, j_ixe, bI_0, and_self, and_true, true_and, ne_eq, not_false_eq_true, not_true_eq_false, ite_true, ite_false, if_true, if_false, ck_p z_0, ck_p z_1, K_uI, N_uI, R_uI, L_uI, Z_uI, U_uI, E_uI, C_uI, M_uI, Int.toNat_natCast, mdk hK, ck_p, e0, if_pos]
    refine ok_some ⟨?_, pw_rf⟩
    rw [List.take_of_length_le (by omega)] at hL
    exact hL
  | succ k ih =>
    intro q n h hK hC hL hq hn
    obtain ⟨n, rfl⟩ : ∃ m, n = m + 1 := ⟨n - 1, by omega⟩
    have e0 := hC.1
    have hq2 : q < cs.length := by omega
    have e1 := hC.2 q hq2
    have hc := hP _ (crd_mem hq2)
    have c1 := hc.1
    have cw := hc.2.2.2.1
    have cr := bcm_rg hc.2.2.2.1 hc.2.2.2.2.1
    unfold p_X11_marks_24 p_X11_marks_67
    simp (disch := omega) only [ck_t, nm_q, bR_s, j_add, j_sub, j_mul, j_nI, j_0, j_le, j_lt, j_eq, j_nat, j_ixe, bI_0, and_self, and_true, true_and, ne_eq, not_false_eq_true, not_true_eq_false, ite_true, ite_false, if_true, if_false, ck_p z_0, ck_p z_1, K_uI, N_uI, R_uI, L_uI, Z_uI, U_uI, E_uI, C_uI, M_uI, Int.toNat_natCast, mdk hK, ck_p, e0, n_150, e1, if_neg, j_z1]
    rw [ifc (bcm_0 cw)]
    by_cases c : (crd cs q).1.2.2 = 1
    · rw [if_pos c]
      have p : Pw (fun q _ => q = m + 28) h (uI h (m + 28) (crd cs q).1.1 (bI true)) := pw_uI rfl
      refine ok_to (ih (q + 1) n _ (mdK_pw hK p) (mCl_pw hC hl p fun q j w => by unfold fmW; omega) (fun i hi => ?_) (by omega) (by omega)) fun _ h2 z => ⟨z.1, pw_tr p z.2⟩
      rw [goL_take hq2, c]
      by_cases d : (crd cs q).1.1 = i
      · rw [d, w_I1, decide_eq_true rfl, decide_eq_true rfl, Bool.and_true, Bool.or_true]
      · rw [w_I3 (fun z => d z.symm), decide_eq_false d, Bool.false_and, Bool.or_false]; exact hL i hi
    · rw [if_neg c]
      refine ih (q + 1) n h hK hC (fun i hi => ?_) (by omega) (by omega)
      rw [goL_take hq2, decide_eq_false c, Bool.and_false, Bool.or_false]; exact hL i hi
theorem g_marks_2 {m f : Nat} {cs : List Ch} (hf : f < 60) (hl : cs.length ≤ 150) (hP : ∀ k ∈ cs, ChP k) : ∀ (k i n : Nat) (h : AH), MdK h m → MCl h m f cs → (∀ j, j < i → aI h (m + 28) j = bI false) → i + k = 150 → k < n → Okp (p_X11_marks_2 n m (iI f) (iI i) h) (fun _ h' => MLv h' m (goL cs) ∧ Pw (fun q _ => q = m + 28) h h') := by
  intro k
  induction k with
  | zero =>
    intro i n h hK hC hL hi hn
    obtain ⟨n, rfl⟩ : ∃ m, n = m + 1 := ⟨n - 1, by omega⟩
    unfold p_X11_marks_2
    simp (disch := omega) only [ck_t, nm_q, bR_s, j_add, j_sub, j_mul, j_nI, j_0, j_le, j_lt, j_eq, j_nat, j_ixe, bI_0, and_self, and_true, true_and, ne_eq, not_false_eq_true, not_true_eq_false, ite_true, ite_false, if_true, if_false, ck_p z_0, ck_p z_1, K_uI, N_uI, R_uI, L_uI, Z_uI, U_uI, E_uI, C_uI, M_uI, Int.toNat_natCast, mdk hK, ck_p, if_pos]
    exact g_marks_24 hf hl hP cs.length 0 FU h hK hC (fun j hj => by rw [List.take_zero]; exact hL j (by omega)) (by omega) (by unfold FU; omega)
  | succ k ih =>
    intro i n h hK hC hL hi hn
    obtain ⟨n, rfl⟩ : ∃ m, n = m + 1 := ⟨n - 1, by omega⟩
    have p : Pw (fun q _ => q = m + 28) h (uI h (m + 28) i (bI false)) := pw_uI rfl
    unfold p_X11_marks_2
    simp (disch := omega) only [ck_t, nm_q, bR_s, j_add, j_sub, j_mul, j_nI, j_0, j_le, j_lt, j_eq, j_nat, j_ixe, bI_0, and_self, and_true, true_and, ne_eq, not_false_eq_true, not_true_eq_false, ite_true, ite_false, if_true, if_false, ck_p z_0, ck_p z_1, K_uI, N_uI, R_uI, L_uI, Z_uI, U_uI, E_uI, C_uI, M_uI, Int.toNat_natCast, mdk hK, ck_p, if_neg, j_z0]
    refine ok_to (ih (i + 1) n _ (mdK_pw hK p) (mCl_pw hC hl p fun q j w => by unfold fmW; omega) (fun j hj => ?_) (by omega) (by omega)) fun _ h2 z => ⟨z.1, pw_tr p z.2⟩
    by_cases d : j = i
    · rw [d, w_I1]
    · rw [w_I3 d]; exact hL j (by omega)
theorem g_marks {h : AH} {m f : Nat} {cs : List Ch} (hf : f < 60) (hl : cs.length ≤ 150) (hP : ∀ k ∈ cs, ChP k) (hK : MdK h m) (hC : MCl h m f cs) : Okp (p_X11_marks m (iI f) h) (fun _ h' => MLv h' m (goL cs) ∧ Pw (fun q _ => q = m + 28) h h') := by
  have e := g_marks_2 hf hl hP 150 0 FU h hK hC (fun j hj => absurd hj (Nat.not_lt_zero _)) (by omega) (by decide +kernel)
  unfold p_X11_marks p_X11_marks_0
  simp (disch := omega) only [ck_t, nm_q, bR_s, j_add, j_sub, j_mul, j_nI, j_0, j_le, j_lt, j_eq, j_nat, j_ixe, bI_0, and_self, and_true, true_and, ne_eq, not_false_eq_true, not_true_eq_false, ite_true, ite_false, if_true, if_false, ck_p z_0, ck_p z_1, K_uI, N_uI, R_uI, L_uI, Z_uI, U_uI, E_uI, C_uI, M_uI, Int.toNat_natCast, mdk hK]
  exact e
theorem g_nearA {h : AH} {m t : Nat} {R : Rw} {g : Nat → Bool} (hK : MdK h m) (ht : t < 3) (hr : MRw h m t R) (hG : RwG R) (hL : MLv h m g) : ∀ (k n : Nat) (z : Int), z = (k : Int) - 1 → k ≤ rn R → k < n → p_X11_nearest_10 n m (iI t) (iI (-1)) (iI z) h = some (iI (nA R g k), h) := by
  have e0 := hr.1
  have hn := hG.1
  intro k
  induction k with
  | zero =>
    intro n z hz hk hn'
    obtain ⟨n, rfl⟩ : ∃ m, n = m + 1 := ⟨n - 1, by omega⟩
    unfold p_X11_nearest_10 p_X11_nearest_79
    simp (disch := omega) only [ck_t, nm_q, bR_s, j_add, j_sub, j_mul, j_nI, j_0, j_le, j_lt, j_eq, j_nat, j_ixe, bI_0, and_self, and_true, true_and, ne_eq, not_false_eq_true, not_true_eq_false, ite_true, ite_false, if_true, if_false, ck_p z_0, ck_p z_1, K_uI, N_uI, R_uI, L_uI, Z_uI, U_uI, E_uI, C_uI, M_uI, Int.toNat_natCast, if_pos]
    rfl
  | succ k ih =>
    intro n z hz hk hn'
    obtain ⟨n, rfl⟩ : ∃ m, n = m + 1 := ⟨n - 1, by omega⟩
    have ez : z = (k : Int) := by omega
    subst ez
    have h1 := (hr.2 k (by omega)).1
    have ho := (hG.2.1 k (by omega)).1
    have h2 := (hr.2 (ro R k) ho).2.2
    have h3 := hL (ro R k) (by omega)
    have e3 := ih n ((k : Int) + -1) (by omega) (by omega) (by omega)
    have eg : gf R g k = (rt R (ro R k) && !g (ro R k)) := rfl
    unfold p_X11_nearest_10 p_X11_nearest_79 p_X11_nearest_70
    simp (disch := omega) only [ck_t, nm_q, bR_s, j_add, j_sub, j_mul, j_nI, j_0, j_le, j_lt, j_eq, j_nat, j_ixe, bI_0, and_self, and_true, true_and, ne_eq, not_false_eq_true, not_true_eq_false, ite_true, ite_false, if_true, if_false, ck_p z_0, ck_p z_1, K_uI, N_uI, R_uI, L_uI, Z_uI, U_uI, E_uI, C_uI, M_uI, Int.toNat_natCast, mdk hK, ck_p, e0, n_150, h1, h2, h3, if_neg]
    rw [nA_s, eg]
    cases c1 : rt R (ro R k)
    · rw [if_pos (show false = false from rfl), Bool.false_and, if_neg (show ¬ (false = true) by decide)]
      exact e3
    · rw [if_neg (show ¬ (true = false) by decide), Bool.true_and]
      cases c2 : g (ro R k)
      · rw [if_pos (show false = false from rfl), if_pos (show (!false) = true from rfl)]
      · rw [if_neg (show ¬ (true = false) by decide), if_neg (show ¬ ((!true) = true) by decide)]
        exact e3
theorem g_nearB {h : AH} {m t : Nat} {R : Rw} {g : Nat → Bool} (hK : MdK h m) (ht : t < 3) (hr : MRw h m t R) (hG : RwG R) (hL : MLv h m g) : ∀ (k i n : Nat), i + k = rn R → k < n → p_X11_nearest_10 n m (iI t) (iI 1) (iI i) h = some (iI (nB R g i), h) := by
  have e0 := hr.1
  have hn := hG.1
  intro k
  induction k with
  | zero =>
    intro i n hk hn'
    obtain ⟨n, rfl⟩ : ∃ m, n = m + 1 := ⟨n - 1, by omega⟩
    have e : nB R g i = -1 := by
      unfold nB rl
      rw [show rn R - i = 0 by omega, if_neg (by show ¬ i < rn R; omega)]
    unfold p_X11_nearest_10 p_X11_nearest_79
    simp (disch := omega) only [ck_t, nm_q, bR_s, j_add, j_sub, j_mul, j_nI, j_0, j_le, j_lt, j_eq, j_nat, j_ixe, bI_0, and_self, and_true, true_and, ne_eq, not_false_eq_true, not_true_eq_false, ite_true, ite_false, if_true, if_false, ck_p z_0, ck_p z_1, K_uI, N_uI, R_uI, L_uI, Z_uI, U_uI, E_uI, C_uI, M_uI, Int.toNat_natCast, mdk hK, ck_p, e0, if_pos, if_neg, e]
  | succ k ih =>
    intro i n hk hn'
    obtain ⟨n, rfl⟩ : ∃ m, n = m + 1 := ⟨n - 1, by omega⟩
    have h1 := (hr.2 i (by omega)).1
    have ho := (hG.2.1 i (by omega)).1
    have h2 := (hr.2 (ro R i) ho).2.2
    have h3 := hL (ro R i) (by omega)
    have e3 := ih (i + 1) n (by omega) (by omega)
    have eg : gf R g i = (rt R (ro R i) && !g (ro R i)) := rfl
    unfold p_X11_nearest_10 p_X11_nearest_79 p_X11_nearest_70
    simp (disch := omega) only [ck_t, nm_q, bR_s, j_add, j_sub, j_mul, j_nI, j_0, j_le, j_lt, j_eq, j_nat, j_ixe, bI_0, and_self, and_true, true_and, ne_eq, not_false_eq_true, not_true_eq_false, ite_true, ite_false, if_true, if_false, ck_p z_0, ck_p z_1, K_uI, N_uI, R_uI, L_uI, Z_uI, U_uI, E_uI, C_uI, M_uI, Int.toNat_natCast, mdk hK, ck_p, e0, n_150, h1, h2, h3, if_neg]
    rw [nB_s R g (by omega), eg]
    cases c1 : rt R (ro R i)
    · rw [if_pos (show false = false from rfl), Bool.false_and, if_neg (show ¬ (false = true) by decide)]
      exact e3
    · rw [if_neg (show ¬ (true = false) by decide), Bool.true_and]
      cases c2 : g (ro R i)
      · rw [if_pos (show false = false from rfl), if_pos (show (!false) = true from rfl)]
      · rw [if_neg (show ¬ (true = false) by decide), if_neg (show ¬ ((!true) = true) by decide)]
        exact e3
theorem g_nearestA {h : AH} {m t l : Nat} {R : Rw} {g : Nat → Bool} (hK : MdK h m) (ht : t < 3) (hr : MRw h m t R) (hG : RwG R) (hL : MLv h m g) (hl : l < rn R) : p_X11_nearest m (iI t) (iI l) (iI (-1)) h = some (iI (nA R g (rpos R l)), h) := by
  have hn := hG.1
  have hp := rpos_le R l
  have e := g_nearA hK ht hr hG hL (rpos R l) FU ((rpos R l : Int) + -1) (by omega) hp (by unfold FU; omega)
  have e1 := g_at hK ht hr hG (z := l) (by omega) (by omega)
  have k0 := hK.1.1
  have k1 := hK.1.2.1
  unfold p_X11_nearest p_X11_nearest_0
  simp only [k0, k1, ne_eq, not_false_eq_true, ck_t]
  rw [bR_e e1, nm_q, j_add, e]
theorem g_nearestB {h : AH} {m t l : Nat} {R : Rw} {g : Nat → Bool} (hK : MdK h m) (ht : t < 3) (hr : MRw h m t R) (hG : RwG R) (hL : MLv h m g) (hl : l < rn R) : p_X11_nearest m (iI t) (iI l) (iI 1) h = some (iI (nB R g (rpos R l + 1)), h) := by
  have hn := hG.1
  have hp := rpos_is hG.2.2 hl
  have hp1 := hp.1
  have e1 := g_at hK ht hr hG (z := l) (by omega) (by omega)
  have e := g_nearB hK ht hr hG hL (rn R - (rpos R l + 1)) (rpos R l + 1) FU (by omega) (by unfold FU; omega)
  unfold p_X11_nearest p_X11_nearest_0
  simp (disch := omega) only [ck_t, nm_q, bR_s, j_add, j_sub, j_mul, j_nI, j_0, j_le, j_lt, j_eq, j_nat, j_ixe, bI_0, and_self, and_true, true_and, ne_eq, not_false_eq_true, not_true_eq_false, ite_true, ite_false, if_true, if_false, ck_p z_0, ck_p z_1, K_uI, N_uI, R_uI, L_uI, Z_uI, U_uI, E_uI, C_uI, M_uI, Int.toNat_natCast, mdk hK, e1]
  exact e
theorem g_hasCursor_5 {h : AH} {m t l : Nat} {T : Tx} (hK : MdK h m) (ht : t < 3) (hC : MCu h m t (xC T)) (hG : TxG T) (hl : l < 150) : ∀ (k j n : Nat) (b : Bool), j + k = 5 → k < n → p_X11_hasCursor_5 n m (iI t) (iI l) (bI b) (iI j) h = some (bI (b || decide (qfd (fun j => decide (xC T j = (l : Int))) k j < 5)), h) := by
  intro k
  induction k with
  | zero =>
    intro j n b hj hn
    obtain ⟨n, rfl⟩ : ∃ m, n = m + 1 := ⟨n - 1, by omega⟩
    unfold p_X11_hasCursor_5
    simp (disch := omega) only [ck_t, nm_q, bR_s, j_add, j_sub, j_mul, j_nI, j_0, j_le, j_lt, j_eq, j_nat, j_ixe, bI_0, and_self, and_true, true_and, ne_eq, not_false_eq_true, not_true_eq_false, ite_true, ite_false, if_true, if_false, ck_p z_0, ck_p z_1, K_uI, N_uI, R_uI, L_uI, Z_uI, U_uI, E_uI, C_uI, M_uI, Int.toNat_natCast, if_pos]
    rw [ck_p (bI_z _), show qfd (fun j => decide (xC T j = (l : Int))) 0 j = j from rfl, decide_eq_false (by omega), Bool.or_false]
  | succ k ih =>
    intro j n b hj hn
    obtain ⟨n, rfl⟩ : ∃ m, n = m + 1 := ⟨n - 1, by omega⟩
    have e := hC j (by omega)
    have gc := hG.2.1 j (by omega)
    have gn := hG.1.1
    unfold p_X11_hasCursor_5 p_X11_hasCursor_30 p_X11_hasCursor_35
    simp (disch := omega) only [ck_t, nm_q, bR_s, j_add, j_sub, j_mul, j_nI, j_0, j_le, j_lt, j_eq, j_nat, j_ixe, bI_0, and_self, and_true, true_and, ne_eq, not_false_eq_true, not_true_eq_false, ite_true, ite_false, if_true, if_false, ck_p z_0, ck_p z_1, K_uI, N_uI, R_uI, L_uI, Z_uI, U_uI, E_uI, C_uI, M_uI, Int.toNat_natCast, mdk hK, ck_p, n_5, e, if_neg]
    rw [qfd_s]
    cases b
    · rw [if_pos (show false = false from rfl), Bool.false_or]
      by_cases c : xC T j = (l : Int)
      · rw [if_pos c, if_pos (decide_eq_true c), decide_eq_true (show j < 5 by omega)]
        have := ih (j + 1) n true (by omega) (by omega)
        rw [Bool.true_or] at this
        exact this
      · rw [if_neg c, if_neg (by rw [decide_eq_false c]; decide)]
        have := ih (j + 1) n false (by omega) (by omega)
        rw [Bool.false_or] at this
        exact this
    · rw [if_neg (show ¬ (true = false) by decide), Bool.true_or]
      have := ih (j + 1) n true (by omega) (by omega)
      rw [Bool.true_or] at this
      exact this
theorem g_hasCursor {h : AH} {m t l : Nat} {T : Tx} (hK : MdK h m) (ht : t < 3) (hC : MCu h m t (xC T)) (hG : TxG T) (hl : l < 150) : p_X11_hasCursor m (iI t) (iI l) h = some (bI (hasC (xC T) l), h) := by
  have e := g_hasCursor_5 hK ht hC hG hl 5 0 FU false (by omega) (by decide +kernel)
  rw [Bool.false_or] at e
  unfold p_X11_hasCursor p_X11_hasCursor_0
  simp (disch := omega) only [ck_t, nm_q, bR_s, j_add, j_sub, j_mul, j_nI, j_0, j_le, j_lt, j_eq, j_nat, j_ixe, bI_0, and_self, and_true, true_and, ne_eq, not_false_eq_true, not_true_eq_false, ite_true, ite_false, if_true, if_false, ck_p z_0, ck_p z_1, K_uI, N_uI, R_uI, L_uI, Z_uI, U_uI, E_uI, C_uI, M_uI, Int.toNat_natCast, mdk hK]
  exact e
/-- one change, where the format is marked -/
theorem g_isSpared {h : AH} {m f q : Nat} {T : Tx} {cs : List Ch} {t : Nat} (hK : MdK h m) (hf : f < 60) (ht : t < 3) (hq : q < 150) (e10 : aI h (m + 10) f = iI t) (hT : MTx h m t T) (hG : TxG T) (hL : MLv h m (goL cs)) (hP : ChP (crd cs q)) (hl : (crd cs q).1.1 < rn (xR T)) (hc : MCh h m (150 * f + q) (crd cs q)) (e15 : aI h (m + 15) (150 * f + q) = iI (crd cs q).1.2.1) : p_X11_isSpared m (iI f) (iI q) h = some (bI (sprA T cs q), h) := by
  have hn := hG.1.1
  obtain ⟨p1, p2, p3, p4, p5, p6, p7, p8, p9⟩ := hP
  obtain ⟨c1, c2, c3, c4⟩ := hc
  have cr := bcm_rg p4 p5
  have et := (hT.1.2 _ hl).2
  have gs := (hG.1.2.1 _ hl).2
  have eA := g_nearestA hK ht hT.1 hG.1 hL hl
  have eB := g_nearestB hK ht hT.1 hG.1 hL hl
  have eH := g_hasCursor hK ht hT.2.1 hG p1
  have rA : -1 ≤ nA (xR T) (goL cs) (rpos (xR T) (crd cs q).1.1) ∧ nA (xR T) (goL cs) (rpos (xR T) (crd cs q).1.1) < 150 := by
    unfold nA
    have hle := qpv_le (gf (xR T) (goL cs)) (rpos (xR T) (crd cs q).1.1)
    have hp := (rpos_is hG.1.2.2 hl).1
    split
    · omega
    · have := (hG.1.2.1 (qpv (gf (xR T) (goL cs)) (rpos (xR T) (crd cs q).1.1) - 1) (by omega)).1; omega
  have rB : -1 ≤ nB (xR T) (goL cs) (rpos (xR T) (crd cs q).1.1 + 1) ∧ nB (xR T) (goL cs) (rpos (xR T) (crd cs q).1.1 + 1) < 150 := by
    unfold nB rl
    split
    · rename_i hlt
      have := (hG.1.2.1 _ hlt).1; omega
    · omega
  have s96 : ∀ x y : Bool, p_X11_isSpared_96 m (iI t) (iI (150 * (f : Int) + (q : Int))) (iI (crd cs q).1.1) (bI x) (bI y) h = some (bI (x || (y || (decide (nA (xR T) (goL cs) (rpos (xR T) (crd cs q).1.1) ≠ (crd cs q).2.1) || decide (nB (xR T) (goL cs) (rpos (xR T) (crd cs q).1.1 + 1) ≠ (crd cs q).2.2)))), h) := by
    intro x y
    unfold p_X11_isSpared_96 p_X11_isSpared_144 p_X11_isSpared_149
    simp (disch := omega) only [ck_t, nm_q, bR_s, j_add, j_sub, j_mul, j_nI, j_0, j_le, j_lt, j_eq, j_nat, j_ixe, bI_0, and_self, and_true, true_and, ne_eq, not_false_eq_true, not_true_eq_false, ite_true, ite_false, if_true, if_false, ck_p z_0, ck_p z_1, K_uI, N_uI, R_uI, L_uI, Z_uI, U_uI, E_uI, C_uI, M_uI, Int.toNat_natCast, mdk hK, ck_p, n_150, eA, eB, c3, c4]
    cases x
    · rw [if_pos (show false = false from rfl), Bool.false_or]
      cases y
      · rw [if_pos (show false = false from rfl), Bool.false_or]
        by_cases d1 : nA (xR T) (goL cs) (rpos (xR T) (crd cs q).1.1) = (crd cs q).2.1
        · rw [if_pos d1, decide_eq_false (fun z => z d1), Bool.false_or]
          by_cases d2 : nB (xR T) (goL cs) (rpos (xR T) (crd cs q).1.1 + 1) = (crd cs q).2.2
          · rw [if_pos d2, decide_eq_false (fun z => z d2)]; rfl
          · rw [if_neg d2, decide_eq_true d2]; rfl
        · rw [if_neg d1, decide_eq_true d1]; rfl
      · rw [if_neg (show ¬ (true = false) by decide)]; rfl
    · rw [if_neg (show ¬ (true = false) by decide)]; rfl
  have s69 : ∀ x : Bool, p_X11_isSpared_69 m (iI t) (iI (150 * (f : Int) + (q : Int))) (iI (crd cs q).1.1) (bI x) h = some (bI (x || ((decide ((crd cs q).1.2.2 = 1) && hasC (xC T) (crd cs q).1.1) || (decide (nA (xR T) (goL cs) (rpos (xR T) (crd cs q).1.1) ≠ (crd cs q).2.1) || decide (nB (xR T) (goL cs) (rpos (xR T) (crd cs q).1.1 + 1) ≠ (crd cs q).2.2)))), h) := by
    intro x
    have s0 := s96 x false
    have s1 := s96 x true
    unfold p_X11_isSpared_69 p_X11_isSpared_95
    simp (disch := omega) only [ck_t, nm_q, bR_s, j_add, j_sub, j_mul, j_nI, j_0, j_le, j_lt, j_eq, j_nat, j_ixe, bI_0, and_self, and_true, true_and, ne_eq, not_false_eq_true, not_true_eq_false, ite_true, ite_false, if_true, if_false, ck_p z_0, ck_p z_1, K_uI, N_uI, R_uI, L_uI, Z_uI, U_uI, E_uI, C_uI, M_uI, Int.toNat_natCast, mdk hK, ck_p, n_150, eH, c2]
    rw [ifc (bcm_0 p4)]
    by_cases d : (crd cs q).1.2.2 = 1
    · rw [if_pos d, decide_eq_true d, Bool.true_and]
      cases hh : hasC (xC T) (crd cs q).1.1
      · rw [if_pos (show false = false from rfl)]; exact s0
      · rw [if_neg (show ¬ (true = false) by decide)]; exact s1
    · rw [if_neg d, decide_eq_false d, Bool.false_and]; exact s0
  have s0 := s69 false
  have s1 := s69 true
  unfold p_X11_isSpared p_X11_isSpared_0 p_X11_isSpared_64 sprA spr sprB
  simp (disch := omega) only [ck_t, nm_q, bR_s, j_add, j_sub, j_mul, j_nI, j_0, j_le, j_lt, j_eq, j_nat, j_ixe, bI_0, and_self, and_true, true_and, ne_eq, not_false_eq_true, not_true_eq_false, ite_true, ite_false, if_true, if_false, ck_p z_0, ck_p z_1, K_uI, N_uI, R_uI, L_uI, Z_uI, U_uI, E_uI, C_uI, M_uI, Int.toNat_natCast, mdk hK, ck_p, n_150, e10, c1, e15, et]
  cases d1 : rt (xR T) (crd cs q).1.1
  · rw [if_pos (show false = false from rfl)]; exact s1
  · rw [if_neg (show ¬ (true = false) by decide)]
    by_cases d2 : rs (xR T) (crd cs q).1.1 = (crd cs q).1.2.1
    · rw [if_pos d2, decide_eq_false (fun z => z d2)]; exact s0
    · rw [if_neg d2, decide_eq_true d2]; exact s1
theorem mCh_at {h : AH} {m f : Nat} {F : Fm} (hF : MFm h m f F) {q : Nat} (hq : q < (fC F).length) : MCh h m (150 * f + q) (crd (fC F) q) := (hF.2.2.2.2.2 q hq).1
theorem g_sparedNow_9 {h : AH} {m f : Nat} {T : Tx} {F : Fm} (hK : MdK h m) (hf : f < 60) (hF : MFm h m f F) (hFG : FmG F) (f0 : fS F = 0) (hlt : ∀ k ∈ fC F, k.1.1 < rn (xR T)) (hT : MTx h m (fT F) T) (hG : TxG T) (hL : MLv h m (goL (fC F))) : ∀ (k q n : Nat), q + k = (fC F).length → k < n → p_X11_sparedNow_9 n m (iI f) (iI (qcn (sprA T (fC F)) q)) (iI q) h = some (iI (qcn (sprA T (fC F)) (fC F).length), h) := by
  have e0 := hF.2.2.1
  have h150 := hFG.2.2.2.2.2.1
  have ht := hFG.1
  intro k
  induction k with
  | zero =>
    intro q n hq hn
    obtain ⟨n, rfl⟩ : ∃ m, n = m + 1 := ⟨n - 1, by omega⟩
    unfold p_X11_sparedNow_9
    simp (disch := omega) only [ck_t, nm_q, bR_s, j_add, j_sub, j_mul, j_nI, j_0, j_le, j_lt, j_eq, j_nat, j_ixe, bI_0, and_self, and_true, true_and, ne_eq, not_false_eq_true, not_true_eq_false, ite_true, ite_false, if_true, if_false, ck_p z_0, ck_p z_1, K_uI, N_uI, R_uI, L_uI, Z_uI, U_uI, E_uI, C_uI, M_uI, Int.toNat_natCast, mdk hK, ck_p, e0, if_pos]
    rw [show q = (fC F).length by omega]
  | succ k ih =>
    intro q n hq hn
    obtain ⟨n, rfl⟩ : ∃ m, n = m + 1 := ⟨n - 1, by omega⟩
    have hq2 : q < (fC F).length := by omega
    have e1 := g_isSpared hK hf ht (by omega) hF.1 hT hG hL (hFG.2.2.2.2.2.2 _ (crd_mem hq2)) (hlt _ (crd_mem hq2)) (mCh_at hF hq2) ((hF.2.2.2.2.2 q hq2).2 f0)
    have e3 := ih (q + 1) n (by omega) (by omega)
    rw [qcn_s] at e3
    unfold p_X11_sparedNow_9 p_X11_sparedNow_34
    simp (disch := omega) only [ck_t, nm_q, bR_s, j_add, j_sub, j_mul, j_nI, j_0, j_le, j_lt, j_eq, j_nat, j_ixe, bI_0, and_self, and_true, true_and, ne_eq, not_false_eq_true, not_true_eq_false, ite_true, ite_false, if_true, if_false, ck_p z_0, ck_p z_1, K_uI, N_uI, R_uI, L_uI, Z_uI, U_uI, E_uI, C_uI, M_uI, Int.toNat_natCast, mdk hK, ck_p, e0, e1, if_neg]
    cases c : sprA T (fC F) q
    · rw [c] at e3
      rw [if_pos (show false = false from rfl)]
      exact e3
    · rw [c] at e3
      rw [if_neg (show ¬ (true = false) by decide)]
      exact e3
theorem g_sparedNow {h : AH} {m f : Nat} {T : Tx} {F : Fm} (hK : MdK h m) (hf : f < 60) (hF : MFm h m f F) (hFG : FmG F) (f0 : fS F = 0) (hlt : ∀ k ∈ fC F, k.1.1 < rn (xR T)) (hT : MTx h m (fT F) T) (hG : TxG T) : Okp (p_X11_sparedNow m (iI f) h) (fun r h' => r = iI (qcn (sprA T (fC F)) (fC F).length) ∧ MLv h' m (goL (fC F)) ∧ Pw (fun q _ => q = m + 28) h h') := by
  have h150 := hFG.2.2.2.2.2.1
  unfold p_X11_sparedNow p_X11_sparedNow_0
  simp (disch := omega) only [ck_t, nm_q, bR_s, j_add, j_sub, j_mul, j_nI, j_0, j_le, j_lt, j_eq, j_nat, j_ixe, bI_0, and_self, and_true, true_and, ne_eq, not_false_eq_true, not_true_eq_false, ite_true, ite_false, if_true, if_false, ck_p z_0, ck_p z_1, K_uI, N_uI, R_uI, L_uI, Z_uI, U_uI, E_uI, C_uI, M_uI, Int.toNat_natCast, mdk hK]
  refine ok_bR (g_marks hf h150 hFG.2.2.2.2.2.2 hK (mCl_of hF)) ?_
  rintro _ h1 ⟨z1, z2⟩
  have e := g_sparedNow_9 (mdK_pw hK z2) hf (mFm_pw hF h150 z2 fun q j w => by unfold fmW; omega) hFG f0 hlt (mTx_pw hT hG.1.1 hG.2.2.1 z2 fun q j w => by unfold txW; omega) hG z1 (fC F).length 0 FU (by omega) (by unfold FU; omega)
  exact ⟨_, h1, e, rfl, z1, z2⟩

