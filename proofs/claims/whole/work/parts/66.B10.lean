
/-! ===== what a kind wants, in the model ===== -/
def cl3 (Lt : Nat → Nat) (Sg Wn : Nat → Int) : Nat → List (Nat × Int × Int)
  | 0 => []
  | q + 1 => if Wn q = 0 then cl3 Lt Sg Wn q else cl3 Lt Sg Wn q ++ [(Lt q, Sg q, Wn q)]
theorem cl3_s (Lt : Nat → Nat) (Sg Wn : Nat → Int) (q : Nat) : cl3 Lt Sg Wn (q + 1) = if Wn q = 0 then cl3 Lt Sg Wn q else cl3 Lt Sg Wn q ++ [(Lt q, Sg q, Wn q)] := rfl
theorem cl3_map (Lt : Nat → Nat) (Sg Wn A B : Nat → Int) (m : Nat) : (chl Lt Sg Wn A B m).map (fun c => c.1) = cl3 Lt Sg Wn m := by
  induction m with
  | zero => rfl
  | succ q ih =>
    unfold chl cl3
    by_cases c : Wn q = 0
    · rw [if_pos c, if_pos c, ih]
    · rw [if_neg c, if_neg c, List.map_append, ih]; rfl
theorem cl3_len (Lt : Nat → Nat) (Sg Wn : Nat → Int) (m : Nat) : (cl3 Lt Sg Wn m).length ≤ m := by
  induction m with
  | zero => exact Nat.le_refl _
  | succ q ih =>
    unfold cl3
    split
    · omega
    · rw [List.length_append, List.length_singleton]; omega
def MDr (h : AH) (m f : Nat) (ls : List (Nat × Int × Int)) : Prop := aI h (m + 12) f = iI ls.length ∧ ∀ k x, ls[k]? = some x → aI h (m + 14) (150 * f + k) = iI x.1 ∧ aI h (m + 15) (150 * f + k) = iI x.2.1 ∧ aI h (m + 16) (150 * f + k) = iI (bcm x.2.2)
def wtW (m f q j : Nat) : Prop := (q = m + 12 ∧ j = f) ∨ (m + 14 ≤ q ∧ q ≤ m + 16 ∧ 150 * f ≤ j ∧ j < 150 * f + 150)
def DrC (h : AH) (m t f : Nat) (R : Rw) : Prop := MdK h m ∧ aI h m 18 = iI f ∧ MRw h m t R ∧ MSh h m R
theorem drC_pw {h h' : AH} {m t f : Nat} {R : Rw} (hC : DrC h m t f R) (hG : RwG R) (x : Pw (wtW m f) h h') : DrC h' m t f R := by
  obtain ⟨c1, c2, c3, c4⟩ := hC
  refine ⟨mdK_pw c1 x, by rw [pw_I x (by unfold wtW; omega)]; exact c2, mRw_pw c3 hG.1 x fun q j w => by unfold wtW at w; unfold txW; omega, by rw [pw_I x (by unfold wtW; omega)]; exact c4.1, fun q hq => by rw [pw_I x (by unfold wtW; omega)]; exact c4.2 q hq⟩
theorem g_wants {h : AH} {m t f q : Nat} {R : Rw} {ls : List (Nat × Int × Int)} {w : Int} (ht : t < 3) (hf : f < 60) (hG : RwG R) (hC : DrC h m t f R) (hq : q < qcn (rf R) (rn R)) (hD : MDr h m f ls) (hl : ls.length < 150) : Okp (p_X11_wants m (iI t) (iI q) (iI (bcm w)) h) (fun _ h' => MDr h' m f (ls ++ [(rsh R q, rs R (rsh R q), w)]) ∧ Pw (wtW m f) h h') := by
  obtain ⟨hK, e18, hr, hs⟩ := hC
  have e27 := hs.2 q hq
  have e12 := hD.1
  have hn := hG.1
  have hqn := qcn_le (rf R) (rn R)
  have hC1 : DrC (uI h (m + 14) (150 * f + ls.length) (iI (rsh R q))) m t f R := drC_pw ⟨hK, e18, hr, hs⟩ hG (pw_uI (by unfold wtW; omega))
  have e1 := g_signAt hC1.1 ht hC1.2.2.1 hG hC1.2.2.2 hq
  unfold p_X11_wants p_X11_wants_0
  simp (disch := omega) only [ck_t, nm_q, bR_s, j_add, j_sub, j_mul, j_nI, j_0, j_le, j_lt, j_eq, j_nat, j_ixe, bI_0, and_self, and_true, true_and, ne_eq, not_false_eq_true, not_true_eq_false, ite_true, ite_false, if_true, if_false, ck_p z_0, ck_p z_1, K_uI, N_uI, R_uI, L_uI, Z_uI, U_uI, E_uI, C_uI, M_uI, Int.toNat_natCast, mdk hK, ck_p, e18, e12, n_150, e27, w_I2, e1]
  have p : Pw (wtW m f) h (uI (uI (uI (uI h (m + 14) (150 * f + ls.length) (iI (rsh R q))) (m + 15) (150 * f + ls.length) (iI (rs R (rsh R q)))) (m + 16) (150 * f + ls.length) (iI (bcm w))) (m + 12) f (iI ((ls.length : Int) + 1))) := pw_tr (pw_uI (by unfold wtW; omega)) (pw_tr (pw_uI (by unfold wtW; omega)) (pw_tr (pw_uI (by unfold wtW; omega)) (pw_uI (by unfold wtW; omega))))
  refine ok_some ⟨⟨?_, fun k x hk => ?_⟩, p⟩
  · rw [w_I1, List.length_append, List.length_singleton]; rfl
  · by_cases d : k < ls.length
    · rw [List.getElem?_append_left d] at hk
      have hx := hD.2 k x hk
      refine ⟨?_, ?_, ?_⟩
      · rw [w_I2 (by omega), w_I2 (by omega), w_I2 (by omega), w_I3 (by omega)]; exact hx.1
      · rw [w_I2 (by omega), w_I2 (by omega), w_I3 (by omega), w_I2 (by omega)]; exact hx.2.1
      · rw [w_I2 (by omega), w_I3 (by omega), w_I2 (by omega), w_I2 (by omega)]; exact hx.2.2
    · rw [List.getElem?_append_right (by omega)] at hk
      have : k - ls.length = 0 := by
        rcases Nat.eq_zero_or_pos (k - ls.length) with z | z
        · exact z
        · rw [List.getElem?_eq_none (by rw [List.length_singleton]; omega)] at hk; cases hk
      rw [this] at hk
      cases hk
      refine ⟨?_, ?_, ?_⟩
      · rw [w_I2 (by omega), w_I2 (by omega), w_I2 (by omega), w_I4 (by omega)]
      · rw [w_I2 (by omega), w_I2 (by omega), w_I4 (by omega)]
      · rw [w_I2 (by omega), w_I4 (by omega)]
theorem wl_122 {k2 : Nat → Int32 → Int32 → Int32 → AH → Option (Unit × AH)} {Q : Unit → AH → Prop} {h : AH} {m t f q : Nat} {R : Rw} {ls : List (Nat × Int × Int)} {kd wv : Int} {bh fi en : Bool} (ht : t < 3) (hf : f < 60) (hG : RwG R) (hC : DrC h m t f R) (hq : q < qcn (rf R) (rn R)) (hD : MDr h m f ls) (hl : ls.length < 150) (hkd : kd = 0 ∨ kd = 1 ∨ kd = 2)
    (ewv : wv = if kd = 0 then (if rs R (rsh R q) = 32 ∧ bh = true then 1 else 0) else if kd = 1 then (if rs R (rsh R q) = 32 ∧ en = true then 1 else 0) else (if fi = true ∧ 97 ≤ rs R (rsh R q) ∧ rs R (rsh R q) ≤ 122 then rs R (rsh R q) - 32 else 0))
    (hnext : ∀ h', Pw (wtW m f) h h' → MDr h' m f (if wv = 0 then ls else ls ++ [(rsh R q, rs R (rsh R q), wv)]) → Okp (k2 m (iI t) (iI kd) (iI ((q : Int) + 1)) h') Q) :
    Okp (p_X11_wantsLetters_122 k2 m (iI t) (iI kd) (iI q) (iI (rs R (rsh R q))) (bI bh) (bI fi) (bI en) h) Q := by
  have gs := (hG.2.1 _ (rsh_lt hG hq)).2
  have hn := hG.1
  have hqn := qcn_le (rf R) (rn R)
  have k1 := hC.1.1.2.1
  have n0 : wv = 0 → Okp (k2 m (iI t) (iI kd) (iI ((q : Int) + 1)) h) Q := fun e => hnext h pw_rf (by rw [if_pos e]; exact hD)
  have n1 : wv = 1 → Okp (p_X11_wantsLetters_150 k2 m (iI t) (iI kd) (iI q) h) Q := by
    intro e
    unfold p_X11_wantsLetters_150 p_X11_wantsLetters_195
    rw [ck_p k1]
    refine ok_bR (show Okp (p_X11_wants m (iI t) (iI q) (iI 0) h) _ from g_wants (w := 1) ht hf hG hC hq hD hl) ?_
    rintro _ h' ⟨z1, z2⟩
    rw [nm_q, j_add]
    exact hnext h' z2 (by rw [if_neg (by omega), e]; exact z1)
  have nc : wv = rs R (rsh R q) - 32 → 97 ≤ rs R (rsh R q) → Okp (bR (p_X11_wants m (iI t) (iI q) (iI (rs R (rsh R q) - 32)) h) fun r6 h7 => k2 m (iI t) (iI kd) (iI ((q : Int) + 1)) h7) Q := by
    intro e e2
    have eb : bcm wv = rs R (rsh R q) - 32 := by unfold bcm; rw [if_neg (by omega), e]
    rw [← eb]
    refine ok_bR (g_wants (w := wv) ht hf hG hC hq hD hl) ?_
    rintro _ h' ⟨z1, z2⟩
    exact hnext h' z2 (by rw [if_neg (by omega)]; exact z1)
  unfold p_X11_wantsLetters_122 p_X11_wantsLetters_140 p_X11_wantsLetters_160 p_X11_wantsLetters_195
  rcases hkd with e | e | e <;> subst e
  · rw [if_pos rfl] at ewv
    simp (disch := omega) only [ck_t, nm_q, bR_s, j_add, j_sub, j_mul, j_nI, j_0, j_le, j_lt, j_eq, j_nat, j_ixe, bI_0, and_self, and_true, true_and, ne_eq, not_false_eq_true, not_true_eq_false, ite_true, ite_false, if_true, if_false, ck_p z_0, ck_p z_1, K_uI, N_uI, R_uI, L_uI, Z_uI, U_uI, E_uI, C_uI, M_uI, Int.toNat_natCast, if_neg, if_pos, k1]
    by_cases c1 : rs R (rsh R q) = 32
    · rw [if_pos c1]
      cases bh
      · rw [if_pos (show false = false from rfl)]
        exact n0 (by rw [ewv, if_neg (fun z => absurd z.2 (by decide))])
      · rw [if_neg (show ¬ (true = false) by decide)]
        exact n1 (by rw [ewv, if_pos ⟨c1, rfl⟩])
    · rw [if_neg c1]
      exact n0 (by rw [ewv, if_neg (fun z => c1 z.1)])
  · rw [if_neg (by decide), if_pos rfl] at ewv
    simp (disch := omega) only [ck_t, nm_q, bR_s, j_add, j_sub, j_mul, j_nI, j_0, j_le, j_lt, j_eq, j_nat, j_ixe, bI_0, and_self, and_true, true_and, ne_eq, not_false_eq_true, not_true_eq_false, ite_true, ite_false, if_true, if_false, ck_p z_0, ck_p z_1, K_uI, N_uI, R_uI, L_uI, Z_uI, U_uI, E_uI, C_uI, M_uI, Int.toNat_natCast, if_neg, if_pos, k1]
    by_cases c1 : rs R (rsh R q) = 32
    · rw [if_pos c1]
      cases en
      · rw [if_pos (show false = false from rfl)]
        exact n0 (by rw [ewv, if_neg (fun z => absurd z.2 (by decide))])
      · rw [if_neg (show ¬ (true = false) by decide)]
        exact n1 (by rw [ewv, if_pos ⟨c1, rfl⟩])
    · rw [if_neg c1]
      exact n0 (by rw [ewv, if_neg (fun z => c1 z.1)])
  · rw [if_neg (by decide), if_neg (by decide)] at ewv
    simp (disch := omega) only [ck_t, nm_q, bR_s, j_add, j_sub, j_mul, j_nI, j_0, j_le, j_lt, j_eq, j_nat, j_ixe, bI_0, and_self, and_true, true_and, ne_eq, not_false_eq_true, not_true_eq_false, ite_true, ite_false, if_true, if_false, ck_p z_0, ck_p z_1, K_uI, N_uI, R_uI, L_uI, Z_uI, U_uI, E_uI, C_uI, M_uI, Int.toNat_natCast, if_neg, if_pos, k1]
    have fin : Okp (if fi = false then k2 m (iI t) (iI 2) (iI ((q : Int) + 1)) h else if rs R (rsh R q) < 97 then k2 m (iI t) (iI 2) (iI ((q : Int) + 1)) h else if 122 < rs R (rsh R q) then k2 m (iI t) (iI 2) (iI ((q : Int) + 1)) h else bR (p_X11_wants m (iI t) (iI q) (iI (rs R (rsh R q) - 32)) h) fun r6 h7 => k2 m (iI t) (iI 2) (iI ((q : Int) + 1)) h7) Q := by
      cases fi
      · rw [if_pos (show false = false from rfl)]
        exact n0 (by rw [ewv, if_neg (fun z => absurd z.1 (by decide))])
      · rw [if_neg (show ¬ (true = false) by decide)]
        by_cases c2 : rs R (rsh R q) < 97
        · rw [if_pos c2]; exact n0 (by rw [ewv, if_neg (by omega)])
        · rw [if_neg c2]
          by_cases c3 : 122 < rs R (rsh R q)
          · rw [if_pos c3]; exact n0 (by rw [ewv, if_neg (by omega)])
          · rw [if_neg c3]; exact nc (by rw [ewv, if_pos ⟨rfl, by omega, by omega⟩]) (by omega)
    by_cases c1 : rs R (rsh R q) = 32
    · have h0 : wv = 0 := by rw [ewv, if_neg (by omega)]
      rw [if_pos c1]
      split <;> exact n0 h0
    · rw [if_neg c1]; exact fin
theorem wl_69 {k2 : Nat → Int32 → Int32 → Int32 → AH → Option (Unit × AH)} {h : AH} {m t f : Nat} {R : Rw} (ht : t < 3) (hG : RwG R) (hC : DrC h m t f R) {v2 v3 v4 v5 v6 : Int32} : ∀ (d i n : Nat), i + d = qcn (rf R) (rn R) → d < n → p_X11_wantsLetters_69 k2 n m (iI t) v2 v3 v4 v5 v6 (iI i) h = p_X11_wantsLetters_122 k2 m (iI t) v2 v3 v4 v5 v6 (bI (decide (qfd (fun j => decide (rs R (rsh R j) ≠ 32)) d i = qcn (rf R) (rn R) ∨ rs R (rsh R (qfd (fun j => decide (rs R (rsh R j) ≠ 32)) d i)) = 47))) h := by
  obtain ⟨hK, e18, hr, hs⟩ := hC
  have e29 := hs.1
  have hn := hG.1
  have hqn := qcn_le (rf R) (rn R)
  intro d
  induction d with
  | zero =>
    intro i n hi hn'
    obtain ⟨n, rfl⟩ : ∃ m, n = m + 1 := ⟨n - 1, by omega⟩
    unfold p_X11_wantsLetters_69 p_X11_wantsLetters_96 p_X11_wantsLetters_117
    simp (disch := omega) only [ck_t, nm_q, bR_s, j_add, j_sub, j_mul, j_nI, j_0, j_le, j_lt, j_eq, j_nat, j_ixe, bI_0, and_self, and_true, true_and, ne_eq, not_false_eq_true, not_true_eq_false, ite_true, ite_false, if_true, if_false, ck_p z_0, ck_p z_1, K_uI, N_uI, R_uI, L_uI, Z_uI, U_uI, E_uI, C_uI, M_uI, Int.toNat_natCast, mdk hK, e29, if_pos]
    rw [decide_eq_true (Or.inl (show qfd (fun j => decide (rs R (rsh R j) ≠ 32)) 0 i = qcn (rf R) (rn R) from by show i = _; omega))]
    rfl
  | succ d ih =>
    intro i n hi hn'
    obtain ⟨n, rfl⟩ : ∃ m, n = m + 1 := ⟨n - 1, by omega⟩
    have hiq : i < qcn (rf R) (rn R) := by omega
    have e1 := g_signAt hK ht hr hG hs hiq
    have gs := (hG.2.1 _ (rsh_lt hG hiq)).2
    unfold p_X11_wantsLetters_69 p_X11_wantsLetters_96 p_X11_wantsLetters_117
    simp (disch := omega) only [ck_t, nm_q, bR_s, j_add, j_sub, j_mul, j_nI, j_0, j_le, j_lt, j_eq, j_nat, j_ixe, bI_0, and_self, and_true, true_and, ne_eq, not_false_eq_true, not_true_eq_false, ite_true, ite_false, if_true, if_false, ck_p z_0, ck_p z_1, K_uI, N_uI, R_uI, L_uI, Z_uI, U_uI, E_uI, C_uI, M_uI, Int.toNat_natCast, mdk hK, e29, if_neg, e1]
    rw [qfd_s]
    by_cases c : rs R (rsh R i) = 32
    · rw [if_pos c, if_neg (by rw [decide_eq_false (fun z => z c)]; decide)]
      exact ih (i + 1) n (by omega) (by omega)
    · rw [if_neg c, if_pos (decide_eq_true c)]
      by_cases c2 : rs R (rsh R i) = 47
      · rw [if_pos c2, decide_eq_true (Or.inr c2)]; rfl
      · rw [if_neg c2, decide_eq_false (fun z => z.elim (by omega) c2)]; rfl
theorem g_wl_2 {m t f : Nat} {R : Rw} {kd nb : Int} (ht : t < 3) (hf : f < 60) (hG : RwG R) (hkd : kd = 0 ∨ kd = 1 ∨ kd = 2) : ∀ (k q n : Nat) (h : AH), DrC h m t f R → MDr h m f (cl3 (rsh R) (fun q => rs R (rsh R q)) (wAll kd nb (fun q => rs R (rsh R q)) (qcn (rf R) (rn R))) q) → q + k = qcn (rf R) (rn R) → k < n → Okp (p_X11_wantsLetters_2 n m (iI t) (iI kd) (iI q) h) (fun _ h' => MDr h' m f (cl3 (rsh R) (fun q => rs R (rsh R q)) (wAll kd nb (fun q => rs R (rsh R q)) (qcn (rf R) (rn R))) (qcn (rf R) (rn R))) ∧ Pw (wtW m f) h h') := by
  have hn := hG.1
  have hqn := qcn_le (rf R) (rn R)
  intro k
  induction k with
  | zero =>
    intro q n h hC hD hq hn'
    obtain ⟨n, rfl⟩ : ∃ m, n = m + 1 := ⟨n - 1, by omega⟩
    have hK := hC.1
    have e29 := hC.2.2.2.1
    unfold p_X11_wantsLetters_2
    simp (disch := omega) only [ck_t, nm_q, bR_s, j_add, j_sub, j_mul, j_nI, j_0, j_le, j_lt, j_eq, j_nat, j_ixe, bI_0, and_self, and_true, true_and, ne_eq, not_false_eq_true, not_true_eq_false, ite_true, ite_false, if_true, if_false, ck_p z_0, ck_p z_1, K_uI, N_uI, R_uI, L_uI, Z_uI, U_uI, E_uI, C_uI, M_uI, Int.toNat_natCast, mdk hK, e29, if_pos]
    have eq : q = qcn (rf R) (rn R) := by omega
    rw [eq] at hD
    exact ok_some ⟨hD, pw_rf⟩
  | succ k ih =>
    intro q n h hC hD hq hn'
    obtain ⟨n, rfl⟩ : ∃ m, n = m + 1 := ⟨n - 1, by omega⟩
    have hiq : q < qcn (rf R) (rn R) := by omega
    have hK := hC.1
    have e29 := hC.2.2.2.1
    have e1 := g_signAt hK ht hC.2.2.1 hG hC.2.2.2 hiq
    have gs := (hG.2.1 _ (rsh_lt hG hiq)).2
    have hll := cl3_len (rsh R) (fun q => rs R (rsh R q)) (wAll kd nb (fun q => rs R (rsh R q)) (qcn (rf R) (rn R))) q
    have fin : ∀ bh fi : Bool, bh = decide (1 ≤ q ∧ rs R (rsh R (q - 1)) = 32) → fi = decide (q = 0 ∨ rs R (rsh R (q - 1)) = 47) → Okp (p_X11_wantsLetters_69 (p_X11_wantsLetters_2 n) FU m (iI t) (iI kd) (iI q) (iI (rs R (rsh R q))) (bI bh) (bI fi) (iI q) h) (fun _ h' => MDr h' m f (cl3 (rsh R) (fun q => rs R (rsh R q)) (wAll kd nb (fun q => rs R (rsh R q)) (qcn (rf R) (rn R))) (qcn (rf R) (rn R))) ∧ Pw (wtW m f) h h') := by
      intro bh fi ebh efi
      rw [wl_69 ht hG hC (qcn (rf R) (rn R) - q) q FU (by omega) (by unfold FU; omega)]
      refine wl_122 (wv := wAll kd nb (fun q => rs R (rsh R q)) (qcn (rf R) (rn R)) q) ht hf hG hC hiq hD (by omega) hkd ?_ fun h' z1 z2 => ?_
      · unfold wAll
        rcases hkd with e | e | e <;> subst e
        · rw [if_pos rfl, if_pos rfl]
          unfold wSp
          refine ifc (propext ⟨fun z => ⟨z.2.1, by rw [ebh]; exact decide_eq_true ⟨z.1, z.2.2⟩⟩, fun z => ?_⟩)
          rw [ebh] at z
          have := of_decide_eq_true z.2
          exact ⟨this.1, z.1, this.2⟩
        · rw [if_neg (by decide), if_pos rfl, if_neg (by decide), if_pos rfl]
          rfl
        · rw [if_neg (by decide), if_neg (by decide), if_pos rfl, if_neg (by decide), if_neg (by decide)]
          unfold wCa
          refine ifc (propext ⟨fun z => ⟨by rw [efi]; exact decide_eq_true z.1, z.2⟩, fun z => ?_⟩)
          rw [efi] at z
          exact ⟨of_decide_eq_true z.1, z.2⟩
      · refine ok_to (ih (q + 1) n h' (drC_pw hC hG z1) (by rw [cl3_s]; exact z2) (by omega) (by omega)) fun _ h2 z => ⟨z.1, pw_tr z1 z.2⟩
    unfold p_X11_wantsLetters_2 p_X11_wantsLetters_39 p_X11_wantsLetters_40 p_X11_wantsLetters_59 p_X11_wantsLetters_64
    rcases Nat.eq_zero_or_pos q with c0 | c0
    · subst c0
      simp (disch := omega) only [ck_t, nm_q, bR_s, j_add, j_sub, j_mul, j_nI, j_0, j_le, j_lt, j_eq, j_nat, j_ixe, bI_0, and_self, and_true, true_and, ne_eq, not_false_eq_true, not_true_eq_false, ite_true, ite_false, if_true, if_false, ck_p z_0, ck_p z_1, K_uI, N_uI, R_uI, L_uI, Z_uI, U_uI, E_uI, C_uI, M_uI, Int.toNat_natCast, mdk hK, e29, if_neg, if_pos, e1]
      exact fin false true (by rw [decide_eq_false (by omega)]) (by rw [decide_eq_true (Or.inl rfl)])
    · obtain ⟨q, rfl⟩ : ∃ q', q = q' + 1 := ⟨q - 1, by omega⟩
      have e2 := g_signAt hK ht hC.2.2.1 hG hC.2.2.2 (q := q) (by omega)
      have gs2 := (hG.2.1 _ (rsh_lt hG (q := q) (by omega))).2
      have eq1 : (((q + 1 : Nat) : Int) - 1) = (q : Int) := by omega
      simp (disch := omega) only [ck_t, nm_q, bR_s, j_add, j_sub, j_mul, j_nI, j_0, j_le, j_lt, j_eq, j_nat, j_ixe, bI_0, and_self, and_true, true_and, ne_eq, not_false_eq_true, not_true_eq_false, ite_true, ite_false, if_true, if_false, ck_p z_0, ck_p z_1, K_uI, N_uI, R_uI, L_uI, Z_uI, U_uI, E_uI, C_uI, M_uI, Int.toNat_natCast, mdk hK, e29, if_neg, e1, eq1, e2]
      by_cases c1 : rs R (rsh R q) = 32
      · rw [if_pos c1]
        exact fin true false (by rw [decide_eq_true ⟨by omega, c1⟩]) (by rw [decide_eq_false (fun z => z.elim (by omega) (fun z => by have : rs R (rsh R q) = 47 := z; omega))])
      · rw [if_neg c1]
        by_cases c2 : rs R (rsh R q) = 47
        · rw [if_pos c2]
          exact fin false true (by rw [decide_eq_false (fun z => c1 z.2)]) (decide_eq_true (show q + 1 = 0 ∨ rs R (rsh R (q + 1 - 1)) = 47 from Or.inr c2)).symm
        · rw [if_neg c2]
          exact fin false false (by rw [decide_eq_false (fun z => c1 z.2)]) (by rw [decide_eq_false (fun z => z.elim (by omega) c2)])

