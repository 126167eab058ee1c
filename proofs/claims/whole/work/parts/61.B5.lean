
/-! ===== type and erase ===== -/
theorem mdR_th {h h' : AH} {m t a : Nat} {S : Cs} {T : Tx} {A : Hd} (hR : MdR h m S) (hG : CsG S) (ht : t < 3) (ha : a < 5) (x : Pw (fun q j => scW m q j ∨ txW m t q j ∨ hdW m a q j) h h') (hT : MTx h' m t T) (hA : MHd h' m a A) : MdR h' m (cset (cX S) t T, cset (cH S) a A, cF S, cQ S, cN S) := by
  obtain ⟨r1, r2, r3, r4, ss, s1, s2, s3, s4⟩ := hR
  obtain ⟨g1, g2, g3, g4, g5, g6⟩ := hG
  refine ⟨mdK_pw r1 x, fun t2 ht2 => ?_, fun b hb => ?_, mFs_pw r4 (fun F hF => (g3 F hF).1.2.2.2.2.2.1) x (by unfold scW txW hdW; omega) (fun f q j w hf => by unfold scW txW hdW at w; unfold fmW; omega), ss, mSs_pw s1 x (by unfold scW txW hdW; omega) (fun q j z1 z2 => by unfold scW txW hdW; omega), s2, s3, s4⟩
  · show MTx h' m t2 (if t2 = t then T else cX S t2)
    by_cases d : t2 = t
    · rw [if_pos d, d]; exact hT
    · rw [if_neg d]
      exact mTx_pw (r2 t2 ht2) (g1 t2 ht2).1.1 (g1 t2 ht2).2.2.1 x fun q j w => by unfold scW txW hdW at w; unfold txW; omega
  · show MHd h' m b (if b = a then A else cH S b)
    by_cases d : b = a
    · rw [if_pos d, d]; exact hA
    · rw [if_neg d]
      exact mHd_pw (r3 b hb) (by have := g2 b hb; omega) x fun q j w => by unfold scW txW hdW at w; unfold hdW; omega
theorem thW_md {m t a : Nat} (ht : t < 3) : ∀ q j, (scW m q j ∨ txW m t q j ∨ hdW m a q j) → mdW m q j := fun q j w => by unfold scW txW hdW at w; unfold mdW; omega
/-- a version more -/
theorem mTx_ver {h : AH} {m t : Nat} {T : Tx} (ht : t < 3) (hT : MTx h m t T) : MTx (uI h (m + 5) t (xV T + iI 1)) m t (xver T) := by
  obtain ⟨b1, b2, b3⟩ := hT
  refine ⟨⟨?_, fun i hi => ?_⟩, fun j hj => ?_, ?_⟩
  · rw [w_I2 (by omega)]; exact b1.1
  · rw [w_I2 (by omega), w_I2 (by omega), w_I2 (by omega)]; exact b1.2 i hi
  · rw [w_I2 (by omega)]; exact b2 j hj
  · unfold MSv
    rw [w_I1, w_I2 (by omega), w_I2 (by omega), w_I2 (by omega)]
    refine ⟨rfl, b3.2.1, b3.2.2.1, b3.2.2.2.1, fun j hj => ?_⟩
    rw [w_I2 (by omega)]; exact b3.2.2.2.2 j hj
theorem type_no {h : AH} {m : Nat} {v1 v2 v3 : Int32} (hK : MdK h m) (b c : Bool) : p_X11_type_35 m v1 v2 v3 m (bI b) (bI c) h = some (iI 0, uI h m 31 (iI (gcd3 b c false))) := by
  unfold p_X11_type_35 p_X11_type_36
  rw [ck_p hK.1.2.1, bR_e (show p_X11_goes m (bI b) (bI c) (iI 0) h = _ from g_goes hK b c false), ifc (bI_00 _), Bool.and_false, if_pos rfl]
/-- the row is moved, the letter is put -/
theorem g_type_69 {m t a : Nat} {S : Cs} {ch : Int} {s : Nat} (ht : t < 3) (ha : a < 5) (hG : CsG S) (hf : rn (xR (cX S t)) < 150) (es : s = rpos (xR (cX S t)) (xC (cX S t) a)) (c1 : 0 ≤ ch) (c2 : ch ≤ 65535) (hG2 : TxG (xver (xdo (cX S t) (0, s, ch)))) : ∀ (d k n : Nat) (h0 h : AH), k = s + d → k ≤ rn (xR (cX S t)) → d < n → MdR h0 m S → Pw (fun q j => q = m + 1 ∧ 150 * t ≤ j ∧ j < 150 * t + 150) h0 h → (∀ i, k < i → i ≤ rn (xR (cX S t)) → aI h (m + 1) (150 * t + i) = iI (ro (xR (cX S t)) (i - 1))) → (∀ i, i ≤ k → i < rn (xR (cX S t)) → aI h (m + 1) (150 * t + i) = iI (ro (xR (cX S t)) i)) →
    Okp (p_X11_type_69 n m (iI a) (iI t) (iI ch) (iI s) (iI k) h) (fun r h' => r = iI (cpl (xver (xdo (cX S t) (0, s, ch))) a) ∧ MdR h' m (cset (cX S) t (xver (xdo (cX S t) (0, s, ch))), cset (cH S) a ((cH S a).1.take (cH S a).2 ++ [(t, rn (xR (cX S t)), true)], (cH S a).2 + 1), cF S, cQ S, cN S) ∧ aI h' m 31 = aI h0 m 31 ∧ Pw (mdW m) h0 h') := by
  have gT := hG.1 t ht
  have gA := hG.2.1 a ha
  intro d
  induction d with
  | zero =>
    intro k n h0 h hk hk2 hn hR p hhi hlo
    obtain ⟨n, rfl⟩ : ∃ m, n = m + 1 := ⟨n - 1, by omega⟩
    have hK := mdK_pw hR.1 p
    obtain ⟨b1, b2, b3⟩ := hR.2.1 t ht
    have e4 : aI h (m + 4) t = iI (rn (xR (cX S t))) := by rw [pw_I p (by omega)]; exact b1.1
    unfold p_X11_type_69
    rw [if_pos (by rw [show k = s by omega]; exact Int32.le_refl _)]
    simp (disch := omega) only [ck_t, nm_q, bR_s, j_add, j_sub, j_mul, j_nI, j_0, j_le, j_lt, j_eq, j_nat, j_ixe, bI_0, and_self, and_true, true_and, ne_eq, not_false_eq_true, not_true_eq_false, ite_true, ite_false, if_true, if_false, ck_p z_0, ck_p z_1, K_uI, N_uI, R_uI, L_uI, Z_uI, U_uI, E_uI, C_uI, M_uI, Int.toNat_natCast, mdk hK, ck_p, n_150, e4, w_I2, j_z1]
    have q1 : Pw (txW m t) h (uI (uI (uI h (m + 1) (150 * t + s) (iI (rn (xR (cX S t))))) (m + 2) (150 * t + rn (xR (cX S t))) (iI ch)) (m + 3) (150 * t + rn (xR (cX S t))) (bI true)) := pw_tr (pw_uI (by unfold txW; omega)) (pw_tr (pw_uI (by unfold txW; omega)) (pw_uI (by unfold txW; omega)))
    have f1 : ∀ i, i < rn (xR (cX S t)) + 1 → aI (uI (uI (uI h (m + 1) (150 * t + s) (iI (rn (xR (cX S t))))) (m + 2) (150 * t + rn (xR (cX S t))) (iI ch)) (m + 3) (150 * t + rn (xR (cX S t))) (bI true)) (m + 1) (150 * t + i) = iI (ro (rput (xR (cX S t)) s ch) i) := by
      intro i hi
      show _ = iI ((if i < s then ro (xR (cX S t)) i else if i = s then rn (xR (cX S t)) else ro (xR (cX S t)) (i - 1) : Nat) : Int)
      rw [w_I2 (by omega), w_I2 (by omega)]
      by_cases d1 : i < s
      · rw [if_pos d1, w_I3 (by omega)]; exact hlo i (by omega) (by omega)
      · rw [if_neg d1]
        by_cases d2 : i = s
        · rw [if_pos d2, d2, w_I1]
        · rw [if_neg d2, w_I3 (by omega)]; exact hhi i (by omega) (by omega)
    have f2 : ∀ i, i < rn (xR (cX S t)) + 1 → aI (uI (uI (uI h (m + 1) (150 * t + s) (iI (rn (xR (cX S t))))) (m + 2) (150 * t + rn (xR (cX S t))) (iI ch)) (m + 3) (150 * t + rn (xR (cX S t))) (bI true)) (m + 2) (150 * t + i) = iI (rs (rput (xR (cX S t)) s ch) i) := by
      intro i hi
      show _ = iI (if i = rn (xR (cX S t)) then ch else rs (xR (cX S t)) i)
      rw [w_I2 (by omega)]
      by_cases d1 : i = rn (xR (cX S t))
      · rw [if_pos d1, d1, w_I1]
      · rw [if_neg d1, w_I3 (by omega), w_I2 (by omega), pw_I p (by omega)]; exact (b1.2 i (by omega)).2.1
    have f3 : ∀ i, i < rn (xR (cX S t)) + 1 → aI (uI (uI (uI h (m + 1) (150 * t + s) (iI (rn (xR (cX S t))))) (m + 2) (150 * t + rn (xR (cX S t))) (iI ch)) (m + 3) (150 * t + rn (xR (cX S t))) (bI true)) (m + 3) (150 * t + i) = bI (rt (rput (xR (cX S t)) s ch) i) := by
      intro i hi
      show _ = bI (if i = rn (xR (cX S t)) then true else rt (xR (cX S t)) i)
      by_cases d1 : i = rn (xR (cX S t))
      · rw [if_pos d1, d1, w_I1]
      · rw [if_neg d1, w_I3 (by omega), w_I2 (by omega), w_I2 (by omega), pw_I p (by omega)]; exact (b1.2 i (by omega)).2.2
    have e4' : aI (uI (uI (uI h (m + 1) (150 * t + s) (iI (rn (xR (cX S t))))) (m + 2) (150 * t + rn (xR (cX S t))) (iI ch)) (m + 3) (150 * t + rn (xR (cX S t))) (bI true)) (m + 4) t = iI (rn (xR (cX S t))) := by
      rw [w_I2 (by omega), w_I2 (by omega), w_I2 (by omega)]; exact e4
    have p01 : Pw (txW m t) h0 (uI (uI (uI h (m + 1) (150 * t + s) (iI (rn (xR (cX S t))))) (m + 2) (150 * t + rn (xR (cX S t))) (iI ch)) (m + 3) (150 * t + rn (xR (cX S t))) (bI true)) := pw_tr (pw_mono p fun q j w => by unfold txW; omega) q1
    have pr : Pw (fun q j => q = m + 1 ∨ q = m + 2 ∨ q = m + 3) h0 (uI (uI (uI h (m + 1) (150 * t + s) (iI (rn (xR (cX S t))))) (m + 2) (150 * t + rn (xR (cX S t))) (iI ch)) (m + 3) (150 * t + rn (xR (cX S t))) (bI true)) := pw_tr (pw_mono p fun q j w => by omega) (pw_tr (pw_uI (by omega)) (pw_tr (pw_uI (by omega)) (pw_uI (by omega))))
    clear q1
    generalize uI (uI (uI h (m + 1) (150 * t + s) (iI (rn (xR (cX S t))))) (m + 2) (150 * t + rn (xR (cX S t))) (iI ch)) (m + 3) (150 * t + rn (xR (cX S t))) (bI true) = g at *
    have hK1 := mdK_pw hR.1 p01
    have hA1 : MHd g m a (cH S a) := mHd_pw (hR.2.2.1 a ha) (by omega) p01 fun q j w => by unfold txW at w; unfold hdW; omega
    have ek := g_keeps (x := (t, rn (xR (cX S t)), true)) hK1 ha hA1 gA.1 gA.2
    have eco : aco (t, rn (xR (cX S t)), true) = 1000 * (t : Int) + (rn (xR (cX S t)) : Int) := by
      show 1000 * (t : Int) + ((if true = true then (0 : Int) else 500) + (rn (xR (cX S t)) : Int)) = _
      rw [if_pos rfl]; omega
    rw [eco] at ek
    refine ok_bR ek ?_
    rintro _ g2 ⟨x1, x2⟩
    have hK2 := mdK_pw hK1 x2
    have e4'' : aI g2 (m + 4) t = iI (rn (xR (cX S t))) := by rw [pw_I x2 (by unfold hdW; omega)]; exact e4'
    have e5 : aI g2 (m + 5) t = xV (cX S t) := by rw [pw_I x2 (by unfold hdW; omega), pw_I pr (by omega)]; exact b3.1
    simp (disch := omega) only [ck_t, nm_q, bR_s, j_add, j_sub, j_mul, j_nI, j_0, j_le, j_lt, j_eq, j_nat, j_ixe, bI_0, and_self, and_true, true_and, ne_eq, not_false_eq_true, not_true_eq_false, ite_true, ite_false, if_true, if_false, ck_p z_0, ck_p z_1, K_uI, N_uI, R_uI, L_uI, Z_uI, U_uI, E_uI, C_uI, M_uI, Int.toNat_natCast, mdk hK2, ck_p, e4'', e5, w_I2]
    have pv : Pw (txW m t) g2 (uI (uI g2 (m + 4) t (iI ((rn (xR (cX S t)) : Int) + 1))) (m + 5) t (xV (cX S t) + iI 1)) := pw_tr (pw_uI (by unfold txW; omega)) (pw_uI (by unfold txW; omega))
    have pb : Pw (fun q j => q = m + 4 ∨ q = m + 5) g2 (uI (uI g2 (m + 4) t (iI ((rn (xR (cX S t)) : Int) + 1))) (m + 5) t (xV (cX S t) + iI 1)) := pw_tr (pw_uI (by omega)) (pw_uI (by omega))
    have v4 : aI (uI (uI g2 (m + 4) t (iI ((rn (xR (cX S t)) : Int) + 1))) (m + 5) t (xV (cX S t) + iI 1)) (m + 4) t = iI ((rn (xR (cX S t)) : Int) + 1) := by rw [w_I2 (by omega), w_I1]
    have v5 : aI (uI (uI g2 (m + 4) t (iI ((rn (xR (cX S t)) : Int) + 1))) (m + 5) t (xV (cX S t) + iI 1)) (m + 5) t = xV (cX S t) + iI 1 := w_I1 _ _ _ _
    generalize uI (uI g2 (m + 4) t (iI ((rn (xR (cX S t)) : Int) + 1))) (m + 5) t (xV (cX S t) + iI 1) = g3 at *
    have rd : ∀ q j, q ≠ m + 4 → q ≠ m + 5 → ¬ hdW m a q j → aI g3 q j = aI g q j := fun q j z1 z2 z3 => by rw [pw_I pb (by omega), pw_I x2 z3]
    have hT3 : MTx g3 m t (xver (xdo (cX S t) (0, s, ch))) := by
      refine ⟨⟨?_, fun i hi => ?_⟩, fun j hj => ?_, ?_⟩
      · rw [v4]; rfl
      · have hi' : i < rn (xR (cX S t)) + 1 := hi
        rw [rd (m + 1) _ (by omega) (by omega) (by unfold hdW; omega), rd (m + 2) _ (by omega) (by omega) (by unfold hdW; omega), rd (m + 3) _ (by omega) (by omega) (by unfold hdW; omega)]
        exact ⟨f1 i hi', f2 i hi', f3 i hi'⟩
      · rw [rd (m + 6) _ (by omega) (by omega) (by unfold hdW; omega), pw_I pr (by omega)]; exact b2 j hj
      · unfold MSv
        rw [v5, rd (m + 23) _ (by omega) (by omega) (by unfold hdW; omega), rd (m + 24) _ (by omega) (by omega) (by unfold hdW; omega), rd (m + 25) _ (by omega) (by omega) (by unfold hdW; omega), pw_I pr (by omega), pw_I pr (by omega), pw_I pr (by omega)]
        refine ⟨rfl, b3.2.1, b3.2.2.1, b3.2.2.2.1, fun j hj => ?_⟩
        rw [rd (m + 26) _ (by omega) (by omega) (by unfold hdW; omega), pw_I pr (by omega)]; exact b3.2.2.2.2 j hj
    have hK3 := mdK_pw hK2 pv
    rw [bR_e (g_placeOf hK3 ht ha hT3 hG2)]
    have pall : Pw (fun q j => scW m q j ∨ txW m t q j ∨ hdW m a q j) h0 g3 := pw_tr (pw_mono p01 fun q j w => Or.inr (Or.inl w)) (pw_tr (pw_mono x2 fun q j w => Or.inr (Or.inr w)) (pw_mono pv fun q j w => Or.inr (Or.inl w)))
    have hA3 : MHd g3 m a ((cH S a).1.take (cH S a).2 ++ [(t, rn (xR (cX S t)), true)], (cH S a).2 + 1) := mHd_pw x1 (by show ((cH S a).1.take (cH S a).2 ++ [(t, rn (xR (cX S t)), true)]).length ≤ 600; rw [List.length_append, List.length_take, List.length_singleton]; omega) pv fun q j w => by unfold txW at w; unfold hdW; omega
    refine ok_some ⟨rfl, mdR_th hR hG ht ha pall hT3 hA3, ?_, pw_mono pall (thW_md ht)⟩
    rw [rd m 31 (by omega) (by omega) (by unfold hdW; omega), pw_I pr (by omega)]
  | succ d ih =>
    intro k n h0 h hk hk2 hn hR p hhi hlo
    obtain ⟨n, rfl⟩ : ∃ m, n = m + 1 := ⟨n - 1, by omega⟩
    have hK := mdK_pw hR.1 p
    obtain ⟨k, rfl⟩ : ∃ k', k = k' + 1 := ⟨k - 1, by omega⟩
    have hs := rpos_le (xR (cX S t)) (xC (cX S t) a)
    have el := hlo k (by omega) (by omega)
    unfold p_X11_type_69
    simp (disch := omega) only [ck_t, nm_q, bR_s, j_add, j_sub, j_mul, j_nI, j_0, j_le, j_lt, j_eq, j_nat, j_ixe, bI_0, and_self, and_true, true_and, ne_eq, not_false_eq_true, not_true_eq_false, ite_true, ite_false, if_true, if_false, ck_p z_0, ck_p z_1, K_uI, N_uI, R_uI, L_uI, Z_uI, U_uI, E_uI, C_uI, M_uI, Int.toNat_natCast, mdk hK, ck_p, n_150, if_neg]
    rw [show (150 * (t : Int) + ((k + 1 : Nat) : Int) - 1) = 150 * (t : Int) + (k : Int) by omega, show (((k + 1 : Nat) : Int) + -1) = (k : Int) by omega]
    simp (disch := omega) only [ck_t, nm_q, bR_s, j_add, j_sub, j_mul, j_nI, j_0, j_le, j_lt, j_eq, j_nat, j_ixe, bI_0, and_self, and_true, true_and, ne_eq, not_false_eq_true, not_true_eq_false, ite_true, ite_false, if_true, if_false, ck_p z_0, ck_p z_1, K_uI, N_uI, R_uI, L_uI, Z_uI, U_uI, E_uI, C_uI, M_uI, Int.toNat_natCast, mdk hK, ck_p, n_150, el]
    have p2 : Pw (fun q j => q = m + 1 ∧ 150 * t ≤ j ∧ j < 150 * t + 150) h (uI h (m + 1) (150 * t + (k + 1)) (iI (ro (xR (cX S t)) k))) := pw_uI (by omega)
    refine ih k n h0 _ (by omega) (by omega) (by omega) hR (pw_tr p p2) (fun i i1 i2 => ?_) (fun i i1 i2 => ?_)
    · by_cases c : i = k + 1
      · rw [c, w_I1]; rfl
      · rw [w_I3 (by omega)]; exact hhi i (by omega) i2
    · rw [w_I3 (by omega)]; exact hlo i (by omega) i2
theorem g_type {h : AH} {m : Nat} {S : Cs} {a b ch : Int} (hR : MdR h m S) (hG : CsG S) (hG2 : CsG (tyM S a b ch).2) (a1 : -2147483648 ≤ a) (a2 : a < 2147483648) (b1 : -2147483648 ≤ b) (b2 : b < 2147483648) (c1 : 0 ≤ ch) (c2 : ch ≤ 65535) : Okp (p_X11_type m (iI a) (iI b) (iI ch) h) (MAn cdI m h (tyM S a b ch)) := by
  have k0 := hR.1.1.1
  have k1 := hR.1.1.2.1
  have hK := hR.1
  have er : ∀ (x y : Bool) (e : Nat), gcd3 x y false = (e : Int) → MAn cdI m h (.error e, S) (iI 0) (uI h m 31 (iI (gcd3 x y false))) := fun x y e he => man_er ((w_I1 h m 31 _).trans (by rw [he]; rfl)) (mdR_sc hR hG p31) (pw_mono p31 scW_md)
  unfold p_X11_type p_X11_type_0
  unfold tyM at hG2 ⊢
  simp only [k0, ne_eq, not_false_eq_true, ck_t]
  rw [bR_e (g_isHand a1 a2 b1 b2), bR_e (g_isLetter c1 c2), ifc (bI_00 _)]
  by_cases hb : hOk a ∧ tOk b
  · rw [if_neg (show ¬ ¬ (hOk a ∧ tOk b) from fun z => z hb)] at hG2 ⊢
    rw [decide_eq_true hb, if_neg (by decide)]
    obtain ⟨a', rfl⟩ : ∃ a' : Nat, a = a' := ⟨a.toNat, by have := hb.1.1; omega⟩
    obtain ⟨b', rfl⟩ : ∃ b' : Nat, b = b' := ⟨b.toNat, by have := hb.2.1; omega⟩
    have hb3 : b' < 3 := by have := hb.2.2; omega
    have ha5 : a' < 5 := by have := hb.1.2; omega
    have gT := hG.1 b' hb3
    have hn := gT.1.1
    have e4 := (hR.2.1 b' hb3).1.1
    simp only [Int.toNat_natCast] at hG2 ⊢
    simp (disch := omega) only [ck_t, nm_q, bR_s, j_add, j_sub, j_mul, j_nI, j_0, j_le, j_lt, j_eq, j_nat, j_ixe, bI_0, and_self, and_true, true_and, ne_eq, not_false_eq_true, not_true_eq_false, ite_true, ite_false, if_true, if_false, ck_p z_0, ck_p z_1, K_uI, N_uI, R_uI, L_uI, Z_uI, U_uI, E_uI, C_uI, M_uI, Int.toNat_natCast, mdk hK, ck_p, e4]
    cases hl : isLet ch
    · rw [if_pos (show false = false from rfl)]
      by_cases hf : 150 ≤ rn (xR (cX S b'))
      · rw [if_pos (by omega), type_no hK true false]
        exact ok_some (er true false 2 rfl)
      · rw [if_neg (by omega)]
        unfold p_X11_type_36
        rw [ck_p k1, bR_e (show p_X11_goes m (bI true) (bI false) (iI 1) h = _ from g_goes2 hK true false), ifc (bI_00 _), if_pos (show (true && false) = false from rfl)]
        exact ok_some (man_er (w_I1 h m 31 _) (mdR_sc hR hG p31) (pw_mono p31 scW_md))
    · rw [hl, if_neg (show ¬ (true = false) by decide)] at hG2
      rw [if_neg (show ¬ (true = false) by decide)]
      by_cases hf : 150 ≤ rn (xR (cX S b'))
      · rw [if_pos (by omega), if_pos hf, type_no hK true true]
        exact ok_some (er true true 3 rfl)
      · rw [if_neg hf] at hG2
        rw [if_neg (by omega), if_neg hf]
        have hG3 := hG2.1 b' hb3
        have hG4 : TxG (xver (xdo (cX S b') (0, rpos (xR (cX S b')) (xC (cX S b') a'), ch))) := by
          have : cset (cX S) b' (xver (xdo (cX S b') (0, rpos (xR (cX S b')) (xC (cX S b') a'), ch))) b' = xver (xdo (cX S b') (0, rpos (xR (cX S b')) (xC (cX S b') a'), ch)) := if_pos rfl
          rw [← this]; exact hG3
        have gc := gT.2.1 a' ha5
        have hp := rpos_le (xR (cX S b')) (xC (cX S b') a')
        unfold p_X11_type_36
        rw [ck_p k1, bR_e (show p_X11_goes m (bI true) (bI true) (iI 1) h = some (iI 1, uI h m 31 (iI 0)) from g_goes2 hK true true), if_neg (by decide +kernel)]
        have R2 := mdR_sc hR hG (p31 (v := iI 0))
        have p2 := pw_mono (p31 (h := h) (m := m) (v := iI 0)) scW_md
        have t1 := w_I1 h m 31 (iI 0)
        generalize uI h m 31 (iI 0) = g at *
        have K2 := R2.1
        have hT2 := R2.2.1 b' hb3
        have ec := hT2.2.1 a' ha5
        have e1 := g_at K2 hb3 hT2.1 gT.1 (z := xC (cX S b') a') (by omega) (by omega)
        have e4' := hT2.1.1
        simp (disch := omega) only [ck_t, nm_q, bR_s, j_add, j_sub, j_mul, j_nI, j_0, j_le, j_lt, j_eq, j_nat, j_ixe, bI_0, and_self, and_true, true_and, ne_eq, not_false_eq_true, not_true_eq_false, ite_true, ite_false, if_true, if_false, ck_p z_0, ck_p z_1, K_uI, N_uI, R_uI, L_uI, Z_uI, U_uI, E_uI, C_uI, M_uI, Int.toNat_natCast, mdk K2, ck_p, n_5, ec, e1, e4']
        refine ok_to (g_type_69 hb3 ha5 hG (by omega) rfl c1 c2 hG4 (rn (xR (cX S b')) - rpos (xR (cX S b')) (xC (cX S b') a')) (rn (xR (cX S b'))) FU g g (by omega) (Nat.le_refl _) (by unfold FU; omega) R2 pw_rf (fun i i1 i2 => by omega) (fun i i1 i2 => (hT2.1.2 i i2).1)) ?_
        rintro r h' ⟨z1, z2, z3, z4⟩
        subst z1
        exact man_ok (z3.trans t1) z2 (pw_tr p2 z4)
  · rw [if_pos hb, decide_eq_false hb, if_pos rfl, type_no hK false (isLet ch)]
    exact ok_some (er false (isLet ch) 1 rfl)
theorem erase_no {h : AH} {m : Nat} {v1 v2 v4 : Int32} (hK : MdK h m) (b : Bool) : p_X11_erase_34 m v1 v2 v4 m (bI b) (iI 0) h = some (iI 0, uI h m 31 (iI (gcd3 b false true))) := by
  unfold p_X11_erase_34
  rw [ck_p hK.1.2.1, bR_e (show p_X11_goes m (bI b) (iI 0) (iI 1) h = _ from g_goes2 hK b false), ifc (bI_00 _), Bool.and_false, if_pos rfl]
theorem g_erase {h : AH} {m : Nat} {S : Cs} {a b : Int} (hR : MdR h m S) (hG : CsG S) (hG2 : CsG (erM S a b).2) (a1 : -2147483648 ≤ a) (a2 : a < 2147483648) (b1 : -2147483648 ≤ b) (b2 : b < 2147483648) : Okp (p_X11_erase m (iI a) (iI b) h) (MAn cd2 m h (erM S a b)) := by
  have k0 := hR.1.1.1
  have k1 := hR.1.1.2.1
  have hK := hR.1
  unfold p_X11_erase p_X11_erase_0 p_X11_erase_20
  unfold erM at hG2 ⊢
  simp only [k0, ne_eq, not_false_eq_true, ck_t]
  rw [bR_e (g_isHand a1 a2 b1 b2), ifc (bI_00 _)]
  by_cases hb : hOk a ∧ tOk b
  · rw [if_neg (show ¬ ¬ (hOk a ∧ tOk b) from fun z => z hb)] at hG2 ⊢
    rw [decide_eq_true hb, if_neg (by decide), ck_p k1]
    obtain ⟨a', rfl⟩ : ∃ a' : Nat, a = a' := ⟨a.toNat, by have := hb.1.1; omega⟩
    obtain ⟨b', rfl⟩ : ∃ b' : Nat, b = b' := ⟨b.toNat, by have := hb.2.1; omega⟩
    have hb3 : b' < 3 := by have := hb.2.2; omega
    have ha5 : a' < 5 := by have := hb.1.2; omega
    have gT := hG.1 b' hb3
    have gA := hG.2.1 a' ha5
    have hn := gT.1.1
    have gc := gT.2.1 a' ha5
    have hp := rpos_le (xR (cX S b')) (xC (cX S b') a')
    have hq := qcn_le (rf (xR (cX S b'))) (rpos (xR (cX S b')) (xC (cX S b') a'))
    have hcpl : cpl (cX S b') a' = qcn (rf (xR (cX S b'))) (rpos (xR (cX S b')) (xC (cX S b') a')) := rfl
    have hpv0 := qcn_pv0 (rf (xR (cX S b'))) (rpos (xR (cX S b')) (xC (cX S b') a'))
    have hera : era (cX S b') a' = qpv (rf (xR (cX S b'))) (rpos (xR (cX S b')) (xC (cX S b') a')) := rfl
    simp only [Int.toNat_natCast] at hG2 ⊢
    rw [bR_e (g_placeOf hK hb3 ha5 (hR.2.1 b' hb3) gT), ifc (j_le0 (by omega) (by omega))]
    by_cases c0 : era (cX S b') a' = 0
    · have hc0 : cpl (cX S b') a' = 0 := by rw [hcpl]; rw [hera] at c0; exact hpv0.mp c0
      rw [if_pos (by omega), if_pos c0, erase_no hK true]
      exact ok_some (man_er (w_I1 h m 31 _) (mdR_sc hR hG p31) (pw_mono p31 scW_md))
    · have hc0 : cpl (cX S b') a' ≠ 0 := fun z => c0 (by rw [hera]; rw [hcpl] at z; exact hpv0.mpr z)
      rw [if_neg c0] at hG2
      rw [if_neg (by omega), if_neg c0]
      unfold p_X11_erase_34
      rw [ck_p k1, bR_e (show p_X11_goes m (bI true) (iI 1) (iI 1) h = some (iI 1, uI h m 31 (iI 0)) from g_goesY hK), if_neg (by decide +kernel)]
      have R2 := mdR_sc hR hG (p31 (v := iI 0))
      have p2 := p31 (h := h) (m := m) (v := iI 0)
      have t1 := w_I1 h m 31 (iI 0)
      generalize uI h m 31 (iI 0) = g at *
      rw [ck_p R2.1.1.2.1]
      refine ok_bR (g_shows hb3 gT.1 R2.1 (R2.2.1 b' hb3).1) ?_
      rintro _ h3 ⟨s1, s2⟩
      have s3 := pw_mono s2 shW_sc
      have R3 := mdR_sc R2 hG s3
      have K3 := R3.1
      have t3 : aI h3 m 31 = iI 0 := by rw [pw_I s2 (by unfold shW; omega)]; exact t1
      have hq2 := qcn_mono (rf (xR (cX S b'))) hp
      have e27 := s1.2 (cpl (cX S b') a' - 1) (by omega)
      have hpl := qpv_le (rf (xR (cX S b'))) (rpos (xR (cX S b')) (xC (cX S b') a'))
      have hlr : rsh (xR (cX S b')) (cpl (cX S b') a' - 1) = ro (xR (cX S b')) (era (cX S b') a' - 1) := by
        have w1 := qcn_pv (rf (xR (cX S b'))) (rpos (xR (cX S b')) (xC (cX S b') a')) (by rw [← hera]; exact c0)
        have w2 := qpv_is (rf (xR (cX S b'))) (rpos (xR (cX S b')) (xC (cX S b') a')) (by rw [← hera]; exact c0)
        have w3 := rsh_cn (R := xR (cX S b')) (i := qpv (rf (xR (cX S b'))) (rpos (xR (cX S b')) (xC (cX S b') a')) - 1) (by omega) w2
        rw [hcpl, ← w1, Nat.add_sub_cancel, w3]
        rfl
      rw [hlr] at e27
      have hl := (gT.1.2.1 (era (cX S b') a' - 1) (by omega)).1
      have en : ((cpl (cX S b') a' : Int) - 1).toNat = cpl (cX S b') a' - 1 := by omega
      have hT3 := R3.2.1 b' hb3
      simp (disch := omega) only [ck_t, nm_q, bR_s, j_add, j_sub, j_mul, j_nI, j_0, j_le, j_lt, j_eq, j_nat, j_ixe, bI_0, and_self, and_true, true_and, ne_eq, not_false_eq_true, not_true_eq_false, ite_true, ite_false, if_true, if_false, ck_p z_0, ck_p z_1, K_uI, N_uI, R_uI, L_uI, Z_uI, U_uI, E_uI, C_uI, M_uI, Int.toNat_natCast, mdk K3, ck_p, en, e27]
      refine ok_bR (g_leaves K3 hb3 hT3 gT hl) ?_
      rintro _ h4 ⟨x1, x2⟩
      have K4 := mdK_pw K3 x2
      have hA4 : MHd h4 m a' (cH S a') := mHd_pw (R3.2.2.1 a' ha5) (by omega) x2 fun q j w => by unfold txW at w; unfold hdW; omega
      have ek := g_keeps (x := (b', ro (xR (cX S b')) (era (cX S b') a' - 1), false)) K4 ha5 hA4 gA.1 gA.2
      have eco : aco (b', ro (xR (cX S b')) (era (cX S b') a' - 1), false) = 1000 * (b' : Int) + 500 + (ro (xR (cX S b')) (era (cX S b') a' - 1) : Int) := by
        show 1000 * (b' : Int) + ((if false = true then (0 : Int) else 500) + (ro (xR (cX S b')) (era (cX S b') a' - 1) : Int)) = _
        rw [if_neg (by decide)]; omega
      rw [eco] at ek
      rw [ck_p K4.1.2.1]
      refine ok_bR ek ?_
      rintro _ h5 ⟨y1, y2⟩
      have K5 := mdK_pw K4 y2
      have hT5 : MTx h5 m b' (xgo (cX S b') (ro (xR (cX S b')) (era (cX S b') a' - 1))) := mTx_pw x1 gT.1.1 gT.2.2.1 y2 fun q j w => by unfold hdW at w; unfold txW; omega
      have e5 := hT5.2.2.1
      simp (disch := omega) only [ck_t, nm_q, bR_s, j_add, j_sub, j_mul, j_nI, j_0, j_le, j_lt, j_eq, j_nat, j_ixe, bI_0, and_self, and_true, true_and, ne_eq, not_false_eq_true, not_true_eq_false, ite_true, ite_false, if_true, if_false, ck_p z_0, ck_p z_1, K_uI, N_uI, R_uI, L_uI, Z_uI, U_uI, E_uI, C_uI, M_uI, Int.toNat_natCast, mdk K5, ck_p, e5]
      have hT6 := mTx_ver hb3 hT5
      have p6 : Pw (txW m b') h5 (uI h5 (m + 5) b' (xV (xgo (cX S b') (ro (xR (cX S b')) (era (cX S b') a' - 1))) + iI 1)) := pw_uI (by unfold txW; omega)
      generalize uI h5 (m + 5) b' (xV (xgo (cX S b') (ro (xR (cX S b')) (era (cX S b') a' - 1))) + iI 1) = h6 at *
      have K6 := mdK_pw K5 p6
      have hG3 := hG2.1 b' hb3
      have hG4 : TxG (erT (cX S b') a') := by
        have : cset (cX S) b' (erT (cX S b') a') b' = erT (cX S b') a' := if_pos rfl
        rw [← this]; exact hG3
      rw [bR_e (g_placeOf K6 hb3 ha5 hT6 hG4)]
      have pall : Pw (fun q j => scW m q j ∨ txW m b' q j ∨ hdW m a' q j) h3 h6 := pw_tr (pw_mono x2 fun q j w => Or.inr (Or.inl w)) (pw_tr (pw_mono y2 fun q j w => Or.inr (Or.inr w)) (pw_mono p6 fun q j w => Or.inr (Or.inl w)))
      have hA6 := mHd_pw y1 (by show ((cH S a').1.take (cH S a').2 ++ [(b', ro (xR (cX S b')) (era (cX S b') a' - 1), false)]).length ≤ 600; rw [List.length_append, List.length_take, List.length_singleton]; omega) p6 fun q j w => by unfold txW at w; unfold hdW; omega
      refine ok_some (man_ok ?_ (mdR_th R3 hG hb3 ha5 pall hT6 hA6) (pw_tr (pw_mono (pw_tr p2 s3) scW_md) (pw_mono pall (thW_md hb3))))
      rw [pw_I p6 (by unfold txW; omega), pw_I y2 (by unfold hdW; omega), pw_I x2 (by unfold txW; omega)]
      exact t3
  · rw [if_pos hb, decide_eq_false hb, if_pos rfl, ifc (j_le0 (by decide) (by decide)), if_pos (by decide), erase_no hK false]
    exact ok_some (man_er (w_I1 h m 31 _) (mdR_sc hR hG p31) (pw_mono p31 scW_md))

