
/-! ===== a format comes ===== -/
theorem rl_G {R : Rw} (hG : RwG R) (i : Nat) : -1 ≤ rl R i ∧ rl R i < rn R ∨ rn R = 0 ∧ rl R i = -1 := by
  unfold rl
  split
  · rename_i h
    have := (hG.2.1 i h).1
    omega
  · omega
theorem txG_xgo {T : Tx} (hG : TxG T) {l : Nat} (hl : l < rn (xR T)) : TxG (xgo T l) := by
  refine ⟨hG.1, fun j hj => ?_, hG.2.2⟩
  have h1 := hG.2.1 j hj
  have h2 := rl_G (rwG_setT hG.1 l false) (qfd (rf (rsetT (xR T) l false)) (rn (rsetT (xR T) l false) - rpos (rsetT (xR T) l false) l) (rpos (rsetT (xR T) l false) l))
  have e : rn (rsetT (xR T) l false) = rn (xR T) := rfl
  have e2 : rn (xR (xgo T l)) = rn (xR T) := rfl
  show -1 ≤ (if xC T j = (l : Int) then xnext (rsetT (xR T) l false) l else xC T j) ∧ (if xC T j = (l : Int) then xnext (rsetT (xR T) l false) l else xC T j) < (rn (xR (xgo T l)) : Int)
  have e3 : xnext (rsetT (xR T) l false) l = rl (rsetT (xR T) l false) (qfd (rf (rsetT (xR T) l false)) (rn (rsetT (xR T) l false) - rpos (rsetT (xR T) l false) l) (rpos (rsetT (xR T) l false) l)) := rfl
  split <;> omega
theorem txG_xdo3 {T : Tx} (hG : TxG T) {l : Nat} {c : Int} (c1 : 0 ≤ c) (c2 : c ≤ 65535) : TxG (xdo T (3, l, c)) := by
  refine ⟨⟨hG.1.1, fun i hi => ⟨(hG.1.2.1 i hi).1, ?_⟩, hG.1.2.2⟩, hG.2.1, hG.2.2⟩
  show 0 ≤ (if i = l then c else rs (xR T) i) ∧ (if i = l then c else rs (xR T) i) ≤ 65535
  have := (hG.1.2.1 i hi).2
  split <;> omega
theorem cmT_s (T : Tx) (cs : List Ch) (sp : Nat → Bool) (q : Nat) : cmT T cs sp (q + 1) = if sp q = true then cmT T cs sp q else if (crd cs q).1.2.2 = 1 then xgo (cmT T cs sp q) (crd cs q).1.1 else xdo (cmT T cs sp q) (3, (crd cs q).1.1, (crd cs q).1.2.2) := rfl
theorem txG_cmT {T : Tx} (hG : TxG T) {cs : List Ch} (sp : Nat → Bool) (hP : ∀ k ∈ cs, ChP k) (hlt : ∀ k ∈ cs, k.1.1 < rn (xR T)) : ∀ q, q ≤ cs.length → TxG (cmT T cs sp q) := by
  intro q
  induction q with
  | zero => intro _; exact hG
  | succ q ih =>
    intro hq
    have h1 := ih (by omega)
    have hm := crd_mem (cs := cs) (q := q) (by omega)
    have hp := hP _ hm
    have hn := (cmT_n T cs sp q).1
    rw [cmT_s]
    by_cases c : sp q = true
    · rw [if_pos c]; exact h1
    · rw [if_neg c]
      by_cases c2 : (crd cs q).1.2.2 = 1
      · rw [if_pos c2]; exact txG_xgo h1 (by rw [hn]; exact hlt _ hm)
      · rw [if_neg c2]; exact txG_xdo3 h1 (by have := hp.2.2.2.1; omega) hp.2.2.2.2.1
theorem mTx_sign {h : AH} {m t l : Nat} {T : Tx} {c : Int} (ht : t < 3) (hT : MTx h m t T) : MTx (uI h (m + 2) (150 * t + l) (iI c)) m t (xdo T (3, l, c)) := by
  obtain ⟨b1, b2, b3⟩ := hT
  refine ⟨⟨by rw [w_I2 (by omega)]; exact b1.1, fun i hi => ?_⟩, fun j hj => ?_, ?_⟩
  · rw [w_I2 (by omega), w_I2 (a := m + 2) (b := m + 3) (by omega)]
    refine ⟨(b1.2 i hi).1, ?_, (b1.2 i hi).2.2⟩
    show _ = iI (if i = l then c else rs (xR T) i)
    by_cases d : i = l
    · rw [if_pos d, d, w_I1]
    · rw [if_neg d, w_I3 (by omega)]; exact (b1.2 i hi).2.1
  · rw [w_I2 (by omega)]; exact b2 j hj
  · unfold MSv
    rw [w_I2 (by omega), w_I2 (by omega), w_I2 (by omega), w_I2 (by omega)]
    refine ⟨b3.1, b3.2.1, b3.2.2.1, b3.2.2.2.1, fun j hj => ?_⟩
    rw [w_I2 (by omega)]; exact b3.2.2.2.2 j hj
theorem mTx_verS {h : AH} {m t : Nat} {T : Tx} (hT : MTx h m t T) : MTx (uI h (m + 5) t (xV T)) m t T := by
  obtain ⟨b1, b2, b3⟩ := hT
  refine ⟨⟨?_, fun i hi => ?_⟩, fun j hj => ?_, ?_⟩
  · rw [w_I2 (by omega)]; exact b1.1
  · rw [w_I2 (by omega), w_I2 (by omega), w_I2 (by omega)]; exact b1.2 i hi
  · rw [w_I2 (by omega)]; exact b2 j hj
  · unfold MSv
    rw [w_I1, w_I2 (by omega), w_I2 (by omega), w_I2 (by omega)]
    refine ⟨rfl, b3.2.1, b3.2.2.1, b3.2.2.2.1, fun j hj => ?_⟩
    rw [w_I2 (by omega)]; exact b3.2.2.2.2 j hj
theorem mCh_pw0 {W : Nat → Nat → Prop} {h h' : AH} {m g : Nat} {k : Ch} (hr : MCh h m g k) (x : Pw W h h') (hd : ∀ q, (q = m + 14 ∨ q = m + 16 ∨ q = m + 17 ∨ q = m + 18) → ¬ W q g) : MCh h' m g k := by
  unfold MCh
  rw [pw_I x (hd (m + 14) (by omega)), pw_I x (hd (m + 16) (by omega)), pw_I x (hd (m + 17) (by omega)), pw_I x (hd (m + 18) (by omega))]
  exact hr
def wsW (m f q j : Nat) : Prop := q = m + 15 ∧ 150 * f ≤ j ∧ j < 150 * f + 150
/-- which changes are spared, settled -/
theorem g_come_56 {m f t : Nat} {T : Tx} {cs : List Ch} {h0 : AH} {Q : Int32 → AH → Prop} (hf : f < 60) (ht : t < 3) (hK0 : MdK h0 m) (hl : cs.length ≤ 150) (hP : ∀ k ∈ cs, ChP k) (hlt : ∀ k ∈ cs, k.1.1 < rn (xR T)) (e10 : aI h0 (m + 10) f = iI t) (e12 : aI h0 (m + 12) f = iI cs.length) (hT : MTx h0 m t T) (hG : TxG T) (hL : MLv h0 m (goL cs)) (hc : ∀ k, k < cs.length → MCh h0 m (150 * f + k) (crd cs k))
    (hQ : ∀ h1, Pw (wsW m f) h0 h1 → (∀ k, k < cs.length → aI h1 (m + 15) (150 * f + k) = iI (if sprA T cs k = true then -1 else (crd cs k).1.2.1)) → Okp (p_X11_come_114 FU m (iI f) (iI t) (iI 0) h1) Q) :
    ∀ (k q n : Nat) (h : AH), Pw (wsW m f) h0 h → (∀ i, i < cs.length → aI h (m + 15) (150 * f + i) = iI (if i < q ∧ sprA T cs i = true then -1 else (crd cs i).1.2.1)) → q + k = cs.length → k < n → Okp (p_X11_come_56 n m (iI f) (iI t) (iI q) h) Q := by
  intro k
  induction k with
  | zero =>
    intro q n h p hw hq hn
    obtain ⟨n, rfl⟩ : ∃ m, n = m + 1 := ⟨n - 1, by omega⟩
    have hK := mdK_pw hK0 p
    have e : aI h (m + 12) f = iI cs.length := by rw [pw_I p (by unfold wsW; omega)]; exact e12
    unfold p_X11_come_56
    simp (disch := omega) only [ck_t, nm_q, bR_s, j_add, j_sub, j_mul, j_nI, j_0, j_le, j_lt, j_eq, j_nat, j_ixe, bI_0, and_self, and_true, true_and, ne_eq, not_false_eq_true, not_true_eq_false, ite_true, ite_false, if_true, if_false, ck_p z_0, ck_p z_1, K_uI, N_uI, R_uI, L_uI, Z_uI, U_uI, E_uI, C_uI, M_uI, Int.toNat_natCast, mdk hK, ck_p, e, if_pos]
    refine hQ h p fun i hi => ?_
    rw [hw i hi]
    by_cases c : sprA T cs i = true
    · rw [if_pos ⟨by omega, c⟩, if_pos c]
    · rw [if_neg (fun z => c z.2), if_neg c]
  | succ k ih =>
    intro q n h p hw hq hn
    obtain ⟨n, rfl⟩ : ∃ m, n = m + 1 := ⟨n - 1, by omega⟩
    have hq2 : q < cs.length := by omega
    have hK := mdK_pw hK0 p
    have e : aI h (m + 12) f = iI cs.length := by rw [pw_I p (by unfold wsW; omega)]; exact e12
    have e15 := hw q hq2
    rw [if_neg (fun z => Nat.lt_irrefl _ z.1)] at e15
    have hm := crd_mem hq2
    have e1 := g_isSpared hK hf ht (show q < 150 by omega) (by rw [pw_I p (by unfold wsW; omega)]; exact e10) (mTx_pw hT hG.1.1 hG.2.2.1 p fun q j w => by unfold wsW at w; unfold txW; omega) hG (fun i hi => by rw [pw_I p (by unfold wsW; omega)]; exact hL i hi) (hP _ hm) (hlt _ hm) (mCh_pw0 (hc q hq2) p fun z w => by unfold wsW; omega) e15
    have step : ∀ v : Int, v = (if sprA T cs q = true then -1 else (crd cs q).1.2.1) → Okp (p_X11_come_56 n m (iI f) (iI t) (iI ((q : Int) + 1)) (uI h (m + 15) (150 * f + q) (iI v))) Q := by
      intro v ev
      refine ih (q + 1) n _ (pw_tr p (pw_uI (by unfold wsW; omega))) (fun i hi => ?_) (by omega) (by omega)
      by_cases d : i = q
      · rw [d, w_I1, ev]
        by_cases c : sprA T cs q = true
        · rw [if_pos c, if_pos ⟨by omega, c⟩]
        · rw [if_neg c, if_neg (fun z => c z.2)]
      · rw [w_I3 (by omega), hw i hi]
        by_cases d2 : i < q ∧ sprA T cs i = true
        · rw [if_pos d2, if_pos ⟨by omega, d2.2⟩]
        · rw [if_neg d2, if_neg (fun z => d2 ⟨by omega, z.2⟩)]
    unfold p_X11_come_56 p_X11_come_104
    simp (disch := omega) only [ck_t, nm_q, bR_s, j_add, j_sub, j_mul, j_nI, j_0, j_le, j_lt, j_eq, j_nat, j_ixe, bI_0, and_self, and_true, true_and, ne_eq, not_false_eq_true, not_true_eq_false, ite_true, ite_false, if_true, if_false, ck_p z_0, ck_p z_1, K_uI, N_uI, R_uI, L_uI, Z_uI, U_uI, E_uI, C_uI, M_uI, Int.toNat_natCast, mdk hK, ck_p, e, e1, n_150, e15, if_neg]
    cases c : sprA T cs q
    · rw [if_pos (show false = false from rfl)]
      exact step _ (by rw [c, if_neg (show ¬ (false = true) by decide)])
    · rw [if_neg (show ¬ (true = false) by decide)]
      exact step (-1) (by rw [c, if_pos (show true = true from rfl)])
theorem i_add0 (x : Int32) : x + iI 0 = x := by rw [← j_0]; exact Int32.add_zero x
/-- the changes are done -/
theorem g_come_114 {m f t : Nat} {T : Tx} {cs : List Ch} {sp : Nat → Bool} {h1 : AH} (hf : f < 60) (ht : t < 3) (hK1 : MdK h1 m) (hl : cs.length ≤ 150) (hP : ∀ k ∈ cs, ChP k) (hlt : ∀ k ∈ cs, k.1.1 < rn (xR T)) (e12 : aI h1 (m + 12) f = iI cs.length) (e13 : aI h1 (m + 13) f = iI (qcn sp cs.length)) (hG : TxG T) (hc : ∀ k, k < cs.length → MCh h1 m (150 * f + k) (crd cs k)) (hw : ∀ k, k < cs.length → aI h1 (m + 15) (150 * f + k) = iI (if sp k = true then -1 else (crd cs k).1.2.1)) :
    ∀ (k q n : Nat) (h : AH), Pw (txW m t) h1 h → MTx h m t (cmT T cs sp q) → q + k = cs.length → k < n → Okp (p_X11_come_114 n m (iI f) (iI t) (iI q) h) (fun r h' => r = iI ((cs.length : Int) - qcn sp cs.length) ∧ MTx h' m t (if qcn sp cs.length < cs.length then xver (cmT T cs sp cs.length) else cmT T cs sp cs.length) ∧ Pw (fun q j => txW m t q j ∨ (q = m + 11 ∧ j = f)) h1 h' ∧ aI h' (m + 11) f = iI 1) := by
  have hqc := qcn_le sp cs.length
  intro k
  induction k with
  | zero =>
    intro q n h p hT hq hn
    obtain ⟨n, rfl⟩ : ∃ m, n = m + 1 := ⟨n - 1, by omega⟩
    have hK := mdK_pw hK1 p
    have e12' : aI h (m + 12) f = iI cs.length := by rw [pw_I p (by unfold txW; omega)]; exact e12
    have e13' : aI h (m + 13) f = iI (qcn sp cs.length) := by rw [pw_I p (by unfold txW; omega)]; exact e13
    have eq : q = cs.length := by omega
    rw [eq] at hT ⊢
    have hn2 := (cmT_n T cs sp cs.length).1
    have hT2 := txG_cmT hG sp hP hlt cs.length (Nat.le_refl _)
    generalize cmT T cs sp cs.length = U at *
    have e5 := hT.2.2.1
    unfold p_X11_come_114 p_X11_come_245
    simp (disch := omega) only [ck_t, nm_q, bR_s, j_add, j_sub, j_mul, j_nI, j_0, j_le, j_lt, j_eq, j_nat, j_ixe, bI_0, and_self, and_true, true_and, ne_eq, not_false_eq_true, not_true_eq_false, ite_true, ite_false, if_true, if_false, ck_p z_0, ck_p z_1, K_uI, N_uI, R_uI, L_uI, Z_uI, U_uI, E_uI, C_uI, M_uI, Int.toNat_natCast, mdk hK, ck_p, e12', e13', if_pos, e5]
    by_cases c : qcn sp cs.length < cs.length
    · rw [if_neg (by omega), if_pos c]
      have hT3 := mTx_ver ht hT
      refine ok_some ⟨rfl, ?_, pw_tr (pw_mono p fun q j w => Or.inl w) (pw_tr (pw_uI (Or.inl (by unfold txW; omega))) (pw_uI (Or.inr ⟨rfl, rfl⟩))), w_I1 _ _ _ _⟩
      exact mTx_pw (W := fun q j => q = m + 11) hT3 hT2.1.1 hT2.2.2.1 (pw_uI rfl) fun q j w => by unfold txW; omega
    · rw [if_pos (by omega), if_neg c, i_add0]
      have hT3 := mTx_verS hT
      refine ok_some ⟨rfl, ?_, pw_tr (pw_mono p fun q j w => Or.inl w) (pw_tr (pw_uI (Or.inl (by unfold txW; omega))) (pw_uI (Or.inr ⟨rfl, rfl⟩))), w_I1 _ _ _ _⟩
      exact mTx_pw (W := fun q j => q = m + 11) hT3 hT2.1.1 hT2.2.2.1 (pw_uI rfl) fun q j w => by unfold txW; omega
  | succ k ih =>
    intro q n h p hT hq hn
    obtain ⟨n, rfl⟩ : ∃ m, n = m + 1 := ⟨n - 1, by omega⟩
    have hq2 : q < cs.length := by omega
    have hK := mdK_pw hK1 p
    have e12' : aI h (m + 12) f = iI cs.length := by rw [pw_I p (by unfold txW; omega)]; exact e12
    have hm := crd_mem hq2
    have hp := hP _ hm
    have hln := hlt _ hm
    have hn2 := (cmT_n T cs sp q).1
    have gT := txG_cmT hG sp hP hlt q (by omega)
    have gn := gT.1.1
    have cw := hp.2.2.2.1
    have cr := bcm_rg cw hp.2.2.2.2.1
    have had0 := hp.2.1
    have had1 := hp.2.2.1
    have c1 := (hc q hq2).1
    have c2 := (hc q hq2).2.1
    have e14 : aI h (m + 14) (150 * f + q) = iI (crd cs q).1.1 := by rw [pw_I p (by unfold txW; omega)]; exact c1
    have e16 : aI h (m + 16) (150 * f + q) = iI (bcm (crd cs q).1.2.2) := by rw [pw_I p (by unfold txW; omega)]; exact c2
    have e15 : aI h (m + 15) (150 * f + q) = iI (if sp q = true then -1 else (crd cs q).1.2.1) := by rw [pw_I p (by unfold txW; omega)]; exact hw q hq2
    have hnext := fun h' => ih (q + 1) n h'
    rw [cmT_s] at hnext
    unfold p_X11_come_114 p_X11_come_207 p_X11_come_171 p_X11_come_207
    by_cases c : sp q = true
    · rw [if_pos c] at e15 hnext
      simp (disch := omega) only [ck_t, nm_q, bR_s, j_add, j_sub, j_mul, j_nI, j_0, j_le, j_lt, j_eq, j_nat, j_ixe, bI_0, and_self, and_true, true_and, ne_eq, not_false_eq_true, not_true_eq_false, ite_true, ite_false, if_true, if_false, ck_p z_0, ck_p z_1, K_uI, N_uI, R_uI, L_uI, Z_uI, U_uI, E_uI, C_uI, M_uI, Int.toNat_natCast, mdk hK, ck_p, e12', n_150, e15, if_neg, if_pos]
      exact hnext h p hT (by omega) (by omega)
    · rw [if_neg c] at e15 hnext
      simp (disch := omega) only [ck_t, nm_q, bR_s, j_add, j_sub, j_mul, j_nI, j_0, j_le, j_lt, j_eq, j_nat, j_ixe, bI_0, and_self, and_true, true_and, ne_eq, not_false_eq_true, not_true_eq_false, ite_true, ite_false, if_true, if_false, ck_p z_0, ck_p z_1, K_uI, N_uI, R_uI, L_uI, Z_uI, U_uI, E_uI, C_uI, M_uI, Int.toNat_natCast, mdk hK, ck_p, e12', n_150, e14, e15, e16, if_neg]
      rw [ifc (bcm_0 cw)]
      by_cases c3 : (crd cs q).1.2.2 = 1
      · rw [if_pos c3] at hnext ⊢
        refine ok_bR (g_leaves hK ht hT gT (by rw [hn2]; exact hln)) ?_
        rintro _ h3 ⟨x1, x2⟩
        exact hnext h3 (pw_tr p x2) x1 (by omega) (by omega)
      · rw [if_neg c3] at hnext ⊢
        have eb : bcm (crd cs q).1.2.2 = (crd cs q).1.2.2 := if_neg c3
        rw [eb]
        exact hnext _ (pw_tr p (pw_uI (by unfold txW; omega))) (mTx_sign ht hT) (by omega) (by omega)
theorem g_come {h : AH} {m : Nat} {S : Cs} (hR : MdR h m S) (hG : CsG S) {z : Int} (z1 : -2147483648 ≤ z) (z2 : z < 2147483648) : Okp (p_X11_come m (iI z) h) (MAn cd2 m h (coM S z)) := by
  have k0 := hR.1.1.1
  have k1 := hR.1.1.2.1
  have hK := hR.1
  unfold p_X11_come p_X11_come_0 coM
  simp only [k0, k1, ne_eq, not_false_eq_true, ck_t]
  rw [bR_e (g_isFormat hR hG z1 z2), ifc (bI_00 _)]
  by_cases hb : fOk S z
  · rw [if_neg (show ¬ ¬ fOk S z from fun w => w hb), decide_eq_true hb, if_neg (by decide)]
    obtain ⟨z', rfl⟩ : ∃ z' : Nat, z = z' := ⟨z.toNat, by have := hb.1; omega⟩
    have hlt : z' < (cF S).length := by have := hb.2; omega
    have hF := List.getElem?_eq_getElem hlt
    simp only [Int.toNat_natCast]
    rw [hF]
    generalize (cF S)[z'] = F at hF
    show Okp _ (MAn cd2 m h (if fS F = 0 then (.ok (((fC F).length : Int) - (spN S F : Int)), (cset (cX S) (fT F) (coT S F), cH S, (cF S).set z' (fT F, 1, fC F, (spN S F : Int)), cQ S, cN S)) else (.error 3, S)))
    obtain ⟨q1, q2, q3, q4⟩ := mdR_FG hG hF
    have hs := q3.2.1
    have hs2 := q3.2.2.1
    have h150 := q3.2.2.2.2.2.1
    have eF := (hR.2.2.2.1.2 z' F hF).2.1
    simp (disch := omega) only [ck_t, nm_q, bR_s, j_add, j_sub, j_mul, j_nI, j_0, j_le, j_lt, j_eq, j_nat, j_ixe, bI_0, and_self, and_true, true_and, ne_eq, not_false_eq_true, not_true_eq_false, ite_true, ite_false, if_true, if_false, ck_p z_0, ck_p z_1, K_uI, N_uI, R_uI, L_uI, Z_uI, U_uI, E_uI, C_uI, M_uI, Int.toNat_natCast, mdk hK, ck_p, eF]
    by_cases c0 : fS F = 0
    · rw [if_pos c0, if_pos c0]
      unfold p_X11_come_26
      rw [ck_p k1, bR_e (show p_X11_goes m (bI true) (iI 1) (iI 1) h = some (iI 1, uI h m 31 (iI 0)) from g_goesY hK), if_neg (by decide +kernel)]
      have R2 := mdR_sc hR hG (p31 (v := iI 0))
      have p2 := p31 (h := h) (m := m) (v := iI 0)
      have t1 := w_I1 h m 31 (iI 0)
      generalize uI h m 31 (iI 0) = g at *
      have K2 := R2.1
      have mF := R2.2.2.2.1.2 z' F hF
      have gT := hG.1 _ q3.1
      have ht := q3.1
      have hT := R2.2.1 _ q3.1
      simp (disch := omega) only [ck_t, nm_q, bR_s, j_add, j_sub, j_mul, j_nI, j_0, j_le, j_lt, j_eq, j_nat, j_ixe, bI_0, and_self, and_true, true_and, ne_eq, not_false_eq_true, not_true_eq_false, ite_true, ite_false, if_true, if_false, ck_p z_0, ck_p z_1, K_uI, N_uI, R_uI, L_uI, Z_uI, U_uI, E_uI, C_uI, M_uI, Int.toNat_natCast, mdk K2, ck_p]
      refine ok_bR (g_sparedNow K2 q1 mF q3 c0 (fun k hk => q4.2.2.2.2.2 k hk) hT gT) ?_
      rintro r h3 ⟨w1, w2, w3⟩
      subst w1
      have K3 := mdK_pw K2 w3
      simp (disch := omega) only [ck_t, nm_q, bR_s, j_add, j_sub, j_mul, j_nI, j_0, j_le, j_lt, j_eq, j_nat, j_ixe, bI_0, and_self, and_true, true_and, ne_eq, not_false_eq_true, not_true_eq_false, ite_true, ite_false, if_true, if_false, ck_p z_0, ck_p z_1, K_uI, N_uI, R_uI, L_uI, Z_uI, U_uI, E_uI, C_uI, M_uI, Int.toNat_natCast, mdk K3, ck_p, w_I2]
      have e10 : aI h3 (m + 10) z' = iI (fT F) := by rw [pw_I w3 (by omega)]; exact mF.1
      rw [e10]
      have p4 : Pw (fun q j => q = m + 28 ∨ (q = m + 13 ∧ j = z')) g (uI h3 (m + 13) z' (iI (qcn (sprA (cX S (fT F)) (fC F)) (fC F).length))) := pw_tr (pw_mono w3 fun q j w => Or.inl w) (pw_uI (Or.inr ⟨rfl, rfl⟩))
      have e13 : aI (uI h3 (m + 13) z' (iI (qcn (sprA (cX S (fT F)) (fC F)) (fC F).length))) (m + 13) z' = iI (qcn (sprA (cX S (fT F)) (fC F)) (fC F).length) := w_I1 _ _ _ _
      have w2' : MLv (uI h3 (m + 13) z' (iI (qcn (sprA (cX S (fT F)) (fC F)) (fC F).length))) m (goL (fC F)) := fun i hi => by rw [w_I2 (by omega)]; exact w2 i hi
      generalize uI h3 (m + 13) z' (iI (qcn (sprA (cX S (fT F)) (fC F)) (fC F).length)) = g4 at *
      have K4 := mdK_pw K2 p4
      refine g_come_56 q1 ht K4 h150 q3.2.2.2.2.2.2 (fun k hk => q4.2.2.2.2.2 k hk) (by rw [pw_I p4 (by omega)]; exact mF.1) (by rw [pw_I p4 (by omega)]; exact mF.2.2.1) (mTx_pw hT gT.1.1 gT.2.2.1 p4 fun q j w => by unfold txW; omega) gT w2' (fun k hk => mCh_pw0 (mF.2.2.2.2.2 k hk).1 p4 fun z w => by omega) ?_ (fC F).length 0 FU g4 pw_rf (fun i hi => by rw [if_neg (fun z => Nat.not_lt_zero _ z.1), pw_I p4 (by omega)]; exact (mF.2.2.2.2.2 i hi).2 c0) (by omega) (by unfold FU; omega)
      intro h5 p5 hw5
      have K5 := mdK_pw K4 p5
      have pg5 : Pw (fun q j => q = m + 28 ∨ (q = m + 13 ∧ j = z') ∨ wsW m z' q j) g h5 := pw_tr (pw_mono p4 fun q j w => by omega) (pw_mono p5 fun q j w => Or.inr (Or.inr w))
      have hT5 : MTx h5 m (fT F) (cX S (fT F)) := mTx_pw hT gT.1.1 gT.2.2.1 pg5 fun q j w => by unfold wsW at w; unfold txW; omega
      refine ok_to (g_come_114 q1 ht K5 h150 q3.2.2.2.2.2.2 (fun k hk => q4.2.2.2.2.2 k hk) (by rw [pw_I pg5 (by unfold wsW; omega)]; exact mF.2.2.1) (by rw [pw_I p5 (by unfold wsW; omega)]; exact e13) gT (fun k hk => mCh_pw0 (mF.2.2.2.2.2 k hk).1 pg5 fun z w => by unfold wsW; omega) hw5 (fC F).length 0 FU h5 pw_rf hT5 (by omega) (by unfold FU; omega)) ?_
      rintro r h6 ⟨y1, y2, y3, y4⟩
      subst y1
      have pg6 : Pw (fun q j => q = m + 28 ∨ (q = m + 13 ∧ j = z') ∨ wsW m z' q j ∨ txW m (fT F) q j ∨ (q = m + 11 ∧ j = z')) g h6 := pw_tr (pw_mono pg5 fun q j w => w.elim Or.inl (fun w => w.elim (fun w => Or.inr (Or.inl w)) (fun w => Or.inr (Or.inr (Or.inl w))))) (pw_mono y3 fun q j w => Or.inr (Or.inr (Or.inr w)))
      have e13' : aI h6 (m + 13) z' = iI (spN S F) := by rw [pw_I y3 (by unfold txW; omega), pw_I p5 (by unfold wsW; omega)]; exact e13
      have hF6 : MFm h6 m z' (fT F, 1, fC F, (spN S F : Int)) := by
        refine ⟨by rw [pw_I pg6 (by unfold wsW txW; omega)]; exact mF.1, y4, by rw [pw_I pg6 (by unfold wsW txW; omega)]; exact mF.2.2.1, fun _ => e13', fun (e : (1 : Int) = 2) => absurd e (by decide), fun k hk => ⟨?_, fun (e : (1 : Int) = 0) => absurd e (by decide)⟩⟩
        exact mCh_pw0 (mF.2.2.2.2.2 k hk).1 pg6 fun z w => by unfold wsW txW; omega
      have pall : Pw (fun q j => scW m q j ∨ txW m (fT F) q j ∨ fmW m z' q j) g h6 := pw_mono pg6 fun q j w => by
        rcases w with w | w | w | w | w
        · exact Or.inl (by unfold scW; omega)
        · exact Or.inr (Or.inr (by unfold fmW; omega))
        · exact Or.inr (Or.inr (by unfold wsW at w; unfold fmW; omega))
        · exact Or.inr (Or.inl w)
        · exact Or.inr (Or.inr (by unfold fmW; omega))
      refine man_ok ?_ (mdR_tf R2 hG ht q2 pall y2 hF6) (pw_tr (pw_mono p2 scW_md) (pw_mono pall (tfW_md ht)))
      rw [pw_I pg6 (by unfold wsW txW; omega)]; exact t1
    · rw [if_neg c0, if_neg c0, come_no hK true]
      exact ok_some (man_er (w_I1 h m 31 _) (mdR_sc hR hG p31) (pw_mono p31 scW_md))
  · rw [if_pos hb, decide_eq_false hb, if_pos rfl, come_no hK false]
    exact ok_some (man_er (w_I1 h m 31 _) (mdR_sc hR hG p31) (pw_mono p31 scW_md))

