
/-! ===== saves of the model ===== -/
def ssg (ss : List (Sv × Bool)) (k : Nat) : Sv × Bool := ss.getD k ((0, 0, 0, -1), false)
theorem ssg_at {ss : List (Sv × Bool)} {k : Nat} (hk : k < ss.length) : ss[k]? = some (ssg ss k) := by
  unfold ssg
  rw [List.getD_eq_getElem?_getD, List.getElem?_eq_getElem hk]; rfl
def suw (ss : List (Sv × Bool)) (k : Nat) : Bool := !(ssg ss k).2
theorem unw_app (xs ys : List (Sv × Bool)) : unw (xs ++ ys) = unw xs ++ unw ys := by
  unfold unw
  rw [List.filter_append, List.map_append]
theorem unw_one (x : Sv × Bool) : unw [x] = if x.2 = true then [] else [x.1] := by
  unfold unw
  cases h : x.2
  · rw [List.filter_cons_of_pos (by rw [h]; rfl)]; rfl
  · rw [List.filter_cons_of_neg (by rw [h]; decide)]; rfl
theorem unw_take (ss : List (Sv × Bool)) : ∀ k, k ≤ ss.length → (unw (ss.take k)).length = qcn (suw ss) k := by
  intro k
  induction k with
  | zero => intro _; rw [List.take_zero]; rfl
  | succ k ih =>
    intro hk
    rw [List.take_add_one, ssg_at (by omega), unw_app, List.length_append, ih (by omega), qcn_s]
    show _ + (unw [ssg ss k]).length = _
    rw [unw_one]
    unfold suw
    cases (ssg ss k).2
    · rw [if_neg (by decide), if_pos (by rfl)]; rfl
    · rw [if_pos rfl, if_neg (by decide)]; rfl
theorem unw_len (ss : List (Sv × Bool)) : (unw ss).length = qcn (suw ss) ss.length := by
  have := unw_take ss ss.length (Nat.le_refl _)
  rw [List.take_length] at this
  exact this
theorem unw_cut {ss : List (Sv × Bool)} {k : Nat} (hk : k < ss.length) : ss = ss.take k ++ ssg ss k :: ss.drop (k + 1) := by
  have h1 := List.take_append_drop k ss
  have h2 := List.drop_eq_getElem_cons hk
  have h3 : ss[k] = ssg ss k := by
    have := ssg_at hk
    rw [List.getElem?_eq_getElem hk] at this
    exact Option.some.inj this
  rw [h2, h3] at h1
  exact h1.symm
theorem unw_at {ss : List (Sv × Bool)} {k : Nat} (hk : k < ss.length) (hu : suw ss k = true) : (unw ss)[qcn (suw ss) k]? = some (ssg ss k).1 := by
  have h1 := unw_cut hk
  have h2 := unw_take ss k (by omega)
  have h3 : unw ss = unw (ss.take k) ++ (ssg ss k).1 :: unw (ss.drop (k + 1)) := by
    have e : unw (ssg ss k :: ss.drop (k + 1)) = (ssg ss k).1 :: unw (ss.drop (k + 1)) := by
      rw [show ssg ss k :: ss.drop (k + 1) = [ssg ss k] ++ ss.drop (k + 1) from rfl, unw_app, unw_one]
      unfold suw at hu
      rw [if_neg (by intro z; rw [z] at hu; exact absurd hu (by decide))]
      rfl
    rw [← e, ← unw_app, ← h1]
  rw [h3, List.getElem?_append_right (by omega), h2, Nat.sub_self]
  rfl
theorem unw_set {ss : List (Sv × Bool)} {k : Nat} (hk : k < ss.length) (hu : suw ss k = true) : unw (ss.set k ((ssg ss k).1, true)) = (unw ss).eraseIdx (qcn (suw ss) k) := by
  have h1 := unw_cut hk
  have h2 := unw_take ss k (by omega)
  have h3 : unw ss = unw (ss.take k) ++ (ssg ss k).1 :: unw (ss.drop (k + 1)) := by
    have e : unw (ssg ss k :: ss.drop (k + 1)) = (ssg ss k).1 :: unw (ss.drop (k + 1)) := by
      rw [show ssg ss k :: ss.drop (k + 1) = [ssg ss k] ++ ss.drop (k + 1) from rfl, unw_app, unw_one]
      unfold suw at hu
      rw [if_neg (by intro z; rw [z] at hu; exact absurd hu (by decide))]
      rfl
    rw [← e, ← unw_app, ← h1]
  have h4 : ss.set k ((ssg ss k).1, true) = ss.take k ++ [((ssg ss k).1, true)] ++ ss.drop (k + 1) := by
    rw [List.set_eq_take_append_cons_drop, if_pos hk, List.append_assoc]; rfl
  rw [h4, unw_app, unw_app, unw_one, if_pos rfl, List.append_nil, h3, List.eraseIdx_append_of_length_le (by omega), h2, Nat.sub_self]
  rfl
theorem mdR_qn {h : AH} {m : Nat} {S : Cs} (hR : MdR h m S) : (cQ S).length ≤ cN S := by
  obtain ⟨r1, r2, r3, r4, ss, s1, s2, s3, s4⟩ := hR
  rw [s3, unw_len, ← s2]
  exact qcn_le _ _
theorem g_queued_9 {h : AH} {m : Nat} {ss : List (Sv × Bool)} (hK : MdK h m) (hS : MSs h m ss) (h60 : ss.length ≤ 60) : ∀ (k q n : Nat), q + k = ss.length → k < n → p_X11_queued_9 n m (iI (qcn (suw ss) q)) (iI q) h = some (iI (qcn (suw ss) ss.length), h) := by
  have e0 := hS.1
  intro k
  induction k with
  | zero =>
    intro q n hq hn
    obtain ⟨n, rfl⟩ : ∃ m, n = m + 1 := ⟨n - 1, by omega⟩
    unfold p_X11_queued_9
    simp (disch := omega) only [ck_t, nm_q, bR_s, j_add, j_sub, j_mul, j_nI, j_0, j_le, j_lt, j_eq, j_nat, j_ixe, bI_0, and_self, and_true, true_and, ne_eq, not_false_eq_true, not_true_eq_false, ite_true, ite_false, if_true, if_false, ck_p z_0, ck_p z_1, K_uI, N_uI, R_uI, L_uI, Z_uI, U_uI, E_uI, C_uI, M_uI, Int.toNat_natCast, mdk hK, e0, if_pos]
    rw [show q = ss.length by omega]
  | succ k ih =>
    intro q n hq hn
    obtain ⟨n, rfl⟩ : ∃ m, n = m + 1 := ⟨n - 1, by omega⟩
    have ew := (hS.2.1 q _ (ssg_at (by omega))).2.2.2.2.2.2.2
    have e3 := ih (q + 1) n (by omega) (by omega)
    rw [qcn_s] at e3
    unfold suw at e3
    unfold p_X11_queued_9 p_X11_queued_32
    simp (disch := omega) only [ck_t, nm_q, bR_s, j_add, j_sub, j_mul, j_nI, j_0, j_le, j_lt, j_eq, j_nat, j_ixe, bI_0, and_self, and_true, true_and, ne_eq, not_false_eq_true, not_true_eq_false, ite_true, ite_false, if_true, if_false, ck_p z_0, ck_p z_1, K_uI, N_uI, R_uI, L_uI, Z_uI, U_uI, E_uI, C_uI, M_uI, Int.toNat_natCast, mdk hK, ck_p, e0, ew, if_neg]
    cases c : (ssg ss q).2
    · rw [c] at e3
      rw [if_pos (show false = false from rfl)]
      exact e3
    · rw [c] at e3
      rw [if_neg (show ¬ (true = false) by decide)]
      exact e3
theorem g_queued {h : AH} {m : Nat} {S : Cs} (hR : MdR h m S) (hG : CsG S) : Okp (p_X11_queued m h) (fun r h' => r = iI (cQ S).length ∧ MdR h' m S ∧ Pw (mdW m) h h') := by
  have R2 := mdR_sc hR hG (p31 (v := iI 0))
  have p2 := pw_mono (p31 (h := h) (m := m) (v := iI 0)) scW_md
  have hK := hR.1
  have h60 := hG.2.2.2.1
  obtain ⟨r1, r2, r3, r4, ss, s1, s2, s3, s4⟩ := id R2
  have e := g_queued_9 r1 s1 (by omega) ss.length 0 FU (by omega) (by unfold FU; omega)
  unfold p_X11_queued p_X11_queued_0
  simp (disch := omega) only [ck_t, nm_q, bR_s, j_add, j_sub, j_mul, j_nI, j_0, j_le, j_lt, j_eq, j_nat, j_ixe, bI_0, and_self, and_true, true_and, ne_eq, not_false_eq_true, not_true_eq_false, ite_true, ite_false, if_true, if_false, ck_p z_0, ck_p z_1, K_uI, N_uI, R_uI, L_uI, Z_uI, U_uI, E_uI, C_uI, M_uI, Int.toNat_natCast, mdk hK]
  refine ⟨_, _, e, ?_, R2, p2⟩
  rw [s3, unw_len]
/-! ===== a save is asked for ===== -/
def asW (m n q j : Nat) : Prop := svW m n q j ∨ (q = m ∧ j = 23)
theorem asW_md {m n : Nat} : ∀ q j, asW m n q j → mdW m q j := fun q j w => by unfold asW svW at w; unfold mdW; omega
theorem g_save_26 {h : AH} {m : Nat} {S : Cs} {a b z : Int} (hR : MdR h m S) (hG : CsG S) (a1 : -2147483648 ≤ a) (a2 : a < 2147483648) (b1 : -2147483648 ≤ b) (b2 : b < 2147483648) (z1 : -2147483648 ≤ z) (z2 : z < 2147483648) : p_X11_save m (iI a) (iI b) (iI z) h = p_X11_save_70 m (iI a) (iI b) (iI z) m (bI (decide (hOk a ∧ tOk b ∧ (z = -1 ∨ fOk S z)))) (bI (decide (hOk a ∧ tOk b ∧ (z = -1 ∨ (fOk S z ∧ (fT (fmD (cF S)[z.toNat]?) : Int) = b))))) (bI (decide (cN S < 60))) h := by
  have hK := hR.1
  have k0 := hK.1.1
  have k1 := hK.1.2.1
  have h60 := hG.2.2.2.1
  have e23 : aI h m 23 = iI (cN S) := by
    obtain ⟨r1, r2, r3, r4, ss, s1, s2, s3, s4⟩ := hR
    rw [← s2]; exact s1.1
  have s56 : ∀ x y : Bool, p_X11_save_56 m (iI a) (iI b) (iI z) m (bI x) (bI y) h = p_X11_save_70 m (iI a) (iI b) (iI z) m (bI x) (bI y) (bI (decide (cN S < 60))) h := by
    intro x y
    unfold p_X11_save_56
    rw [ck_p k1, e23, ifc (j_le (by decide) (by decide) (by omega) (by omega))]
    by_cases c : 60 ≤ cN S
    · rw [if_pos (by omega), decide_eq_false (by omega)]; rfl
    · rw [if_neg (by omega), decide_eq_true (by omega)]; rfl
  have s55 := fun x => s56 x false
  have s51 := fun x => s56 x true
  unfold p_X11_save p_X11_save_0 p_X11_save_21 p_X11_save_25 p_X11_save_26 p_X11_save_51 p_X11_save_55
  simp only [k0, ne_eq, not_false_eq_true, ck_t]
  rw [bR_e (g_isHand a1 a2 b1 b2), ifc (bI_00 _)]
  have no : ¬ (hOk a ∧ tOk b ∧ (z = -1 ∨ fOk S z)) → (if iI 0 = (0 : Int32) then p_X11_save_56 m (iI a) (iI b) (iI z) m (iI 0) (iI 0) h else if iI z = iI (-1) then p_X11_save_56 m (iI a) (iI b) (iI z) m (iI 0) (iI 1) h else ck (aK h m = 13) <| ck (aK h (aR h m 9) = 20 ∧ ix (iI z) (aN h (aR h m 9))) <| if aI h (aR h m 9) (iI z).toNatClampNeg = iI b then p_X11_save_56 m (iI a) (iI b) (iI z) m (iI 0) (iI 1) h else p_X11_save_56 m (iI a) (iI b) (iI z) m (iI 0) (iI 0) h) = p_X11_save_70 m (iI a) (iI b) (iI z) m (bI (decide (hOk a ∧ tOk b ∧ (z = -1 ∨ fOk S z)))) (bI (decide (hOk a ∧ tOk b ∧ (z = -1 ∨ (fOk S z ∧ (fT (fmD (cF S)[z.toNat]?) : Int) = b))))) (bI (decide (cN S < 60))) h := by
    intro c
    rw [if_pos (by decide +kernel), decide_eq_false c, decide_eq_false (fun w => c ⟨w.1, w.2.1, w.2.2.elim Or.inl (fun w => Or.inr w.1)⟩)]
    exact s55 false
  by_cases hb : hOk a ∧ tOk b
  · rw [decide_eq_true hb, if_neg (by decide), ifc (j_eq z1 z2 (by decide) (by decide))]
    by_cases c0 : z = -1
    · rw [if_pos c0, if_neg (by decide +kernel), ifc (j_eq z1 z2 (by decide) (by decide)), if_pos c0, decide_eq_true (show hOk a ∧ tOk b ∧ (z = -1 ∨ fOk S z) from ⟨hb.1, hb.2, Or.inl c0⟩), decide_eq_true (show hOk a ∧ tOk b ∧ (z = -1 ∨ (fOk S z ∧ (fT (fmD (cF S)[z.toNat]?) : Int) = b)) from ⟨hb.1, hb.2, Or.inl c0⟩)]
      exact s51 true
    · rw [if_neg c0, ck_p k1, bR_e (g_isFormat hR hG z1 z2), ifc (bI_00 _)]
      by_cases c1 : fOk S z
      · rw [decide_eq_true c1, if_neg (by decide), if_neg (by decide +kernel), ifc (j_eq z1 z2 (by decide) (by decide)), if_neg c0, decide_eq_true (show hOk a ∧ tOk b ∧ (z = -1 ∨ fOk S z) from ⟨hb.1, hb.2, Or.inr c1⟩)]
        obtain ⟨z', rfl⟩ : ∃ z' : Nat, z = z' := ⟨z.toNat, by have := c1.1; omega⟩
        have hlt : z' < (cF S).length := by have := c1.2; omega
        have hF := List.getElem?_eq_getElem hlt
        have h60' := hG.2.2.2.2.1
        simp only [Int.toNat_natCast]
        have eF : aI h (m + 10) z' = iI (fT (fmD (cF S)[z']?)) := by
          rw [hF]; exact (hR.2.2.2.1.2 z' _ hF).1
        have gF : fT (fmD (cF S)[z']?) < 3 := by
          rw [hF]; exact (mdR_FG hG hF).2.2.1.1
        show _ = p_X11_save_70 m (iI a) (iI b) (iI z') m (bI true) (bI (decide (hOk a ∧ tOk b ∧ ((z' : Int) = -1 ∨ (fOk S z' ∧ (fT (fmD (cF S)[z']?) : Int) = b))))) (bI (decide (cN S < 60))) h
        simp (disch := omega) only [ck_t, nm_q, bR_s, j_add, j_sub, j_mul, j_nI, j_0, j_le, j_lt, j_eq, j_nat, j_ixe, bI_0, and_self, and_true, true_and, ne_eq, not_false_eq_true, not_true_eq_false, ite_true, ite_false, if_true, if_false, ck_p z_0, ck_p z_1, K_uI, N_uI, R_uI, L_uI, Z_uI, U_uI, E_uI, C_uI, M_uI, Int.toNat_natCast, mdk hK, ck_p, eF]
        by_cases c2 : (fT (fmD (cF S)[z']?) : Int) = b
        · rw [if_pos c2, decide_eq_true ⟨hb.1, hb.2, Or.inr ⟨c1, c2⟩⟩]
          exact s51 true
        · rw [if_neg c2, decide_eq_false (fun w => w.2.2.elim c0 (fun w => c2 w.2))]
          exact s55 true
      · rw [decide_eq_false c1, if_pos rfl]
        exact no (fun w => w.2.2.elim c0 c1)
  · rw [decide_eq_false hb, if_pos rfl]
    exact no (fun w => hb ⟨w.1, w.2.1⟩)
theorem g_save {h : AH} {m : Nat} {S : Cs} {a b z : Int} (hR : MdR h m S) (hG : CsG S) (a1 : -2147483648 ≤ a) (a2 : a < 2147483648) (b1 : -2147483648 ≤ b) (b2 : b < 2147483648) (z1 : -2147483648 ≤ z) (z2 : z < 2147483648) : Okp (p_X11_save m (iI a) (iI b) (iI z) h) (MAn cdI m h (svM S a b z)) := by
  have km := hR.1.1.2.1
  have hK := hR.1
  rw [g_save_26 hR hG a1 a2 b1 b2 z1 z2]
  unfold p_X11_save_70 svM
  rw [ck_p km, bR_e (g_goes hK _ _ _), ifc (bI_00 _)]
  by_cases hb : hOk a ∧ tOk b ∧ (z = -1 ∨ fOk S z)
  · rw [if_neg (show ¬ ¬ (hOk a ∧ tOk b ∧ (z = -1 ∨ fOk S z)) from fun w => w hb), decide_eq_true hb, Bool.true_and]
    obtain ⟨a', rfl⟩ : ∃ a' : Nat, a = a' := ⟨a.toNat, by have := hb.1.1; omega⟩
    obtain ⟨b', rfl⟩ : ∃ b' : Nat, b = b' := ⟨b.toNat, by have := hb.2.1.1; omega⟩
    have hb3 : b' < 3 := by have := hb.2.1.2; omega
    have ha5 : a' < 5 := by have := hb.1.2; omega
    simp only [Int.toNat_natCast]
    by_cases c2 : z ≠ -1 ∧ fT (fmD (cF S)[z.toNat]?) ≠ b'
    · rw [if_pos c2, decide_eq_false (fun w => w.2.2.elim c2.1 (fun w => c2.2 (by omega))), if_pos (by rfl)]
      exact ok_some (man_er (w_I1 h m 31 _) (mdR_sc hR hG p31) (pw_mono p31 scW_md))
    · have c2' : hOk (a' : Int) ∧ tOk (b' : Int) ∧ (z = -1 ∨ (fOk S z ∧ (fT (fmD (cF S)[z.toNat]?) : Int) = (b' : Int))) := by
        refine ⟨hb.1, hb.2.1, ?_⟩
        by_cases d : z = -1
        · exact Or.inl d
        · refine Or.inr ⟨hb.2.2.elim (fun w => absurd w d) id, ?_⟩
          by_cases e : fT (fmD (cF S)[z.toNat]?) = b'
          · omega
          · exact absurd ⟨d, e⟩ c2
      rw [if_neg c2, decide_eq_true c2', Bool.true_and]
      by_cases hf : 60 ≤ cN S
      · rw [if_pos hf, decide_eq_false (by omega), if_pos (show false = false from rfl)]
        exact ok_some (man_er (w_I1 h m 31 _) (mdR_sc hR hG p31) (pw_mono p31 scW_md))
      · rw [if_neg hf, decide_eq_true (show cN S < 60 by omega), if_neg (show ¬ (true = false) by decide)]
        have R2 := mdR_sc hR hG (p31 (v := iI (gcd3 true true true)))
        have p2 := p31 (h := h) (m := m) (v := iI (gcd3 true true true))
        have t1 : aI (uI h m 31 (iI (gcd3 true true true))) m 31 = iI 0 := w_I1 h m 31 (iI (gcd3 true true true))
        generalize uI h m 31 (iI (gcd3 true true true)) = g at *
        have K2 := R2.1
        obtain ⟨r1, r2, r3, r4, ss, s1, s2, s3, s4⟩ := id R2
        obtain ⟨n, en⟩ : ∃ n, n = cN S := ⟨_, rfl⟩
        have f23 : aI g m 23 = iI n := by rw [en, ← s2]; exact s1.1
        have hn60 : n < 60 := by omega
        simp (disch := omega) only [ck_t, nm_q, bR_s, j_add, j_sub, j_mul, j_nI, j_0, j_le, j_lt, j_eq, j_nat, j_ixe, bI_0, and_self, and_true, true_and, ne_eq, not_false_eq_true, not_true_eq_false, ite_true, ite_false, if_true, if_false, ck_p z_0, ck_p z_1, K_uI, N_uI, R_uI, L_uI, Z_uI, U_uI, E_uI, C_uI, M_uI, Int.toNat_natCast, mdk K2, ck_p, f23, w_I2, w_I1]
        rw [show ((n : Int) + 1 - 1) = (n : Int) by omega]
        have px : Pw (asW m n) g (uI (uI (uI (uI g (m + 19) n (iI a')) (m + 20) n (iI b')) (m + 21) n (iI z)) m 23 (iI ((n : Int) + 1))) := pw_tr (pw_uI (by unfold asW svW; omega)) (pw_tr (pw_uI (by unfold asW svW; omega)) (pw_tr (pw_uI (by unfold asW svW; omega)) (pw_uI (by unfold asW; omega))))
        have hzr : -1 ≤ z := by
          rcases hb.2.2 with w | w
          · omega
          · have := w.1; omega
        have hzl : z < (cF S).length := by
          rcases hb.2.2 with w | w
          · omega
          · exact w.2
        have q19 : ∀ k, k ≠ n → aI (uI (uI (uI (uI g (m + 19) n (iI a')) (m + 20) n (iI b')) (m + 21) n (iI z)) m 23 (iI ((n : Int) + 1))) (m + 19) k = aI g (m + 19) k := fun k hk => by rw [w_I2 (by omega), w_I2 (by omega), w_I2 (by omega), w_I3 hk]
        have q20 : ∀ k, k ≠ n → aI (uI (uI (uI (uI g (m + 19) n (iI a')) (m + 20) n (iI b')) (m + 21) n (iI z)) m 23 (iI ((n : Int) + 1))) (m + 20) k = aI g (m + 20) k := fun k hk => by rw [w_I2 (by omega), w_I2 (by omega), w_I3 hk, w_I2 (by omega)]
        have q21 : ∀ k, k ≠ n → aI (uI (uI (uI (uI g (m + 19) n (iI a')) (m + 20) n (iI b')) (m + 21) n (iI z)) m 23 (iI ((n : Int) + 1))) (m + 21) k = aI g (m + 21) k := fun k hk => by rw [w_I2 (by omega), w_I3 hk, w_I2 (by omega), w_I2 (by omega)]
        have q22 : ∀ k, aI (uI (uI (uI (uI g (m + 19) n (iI a')) (m + 20) n (iI b')) (m + 21) n (iI z)) m 23 (iI ((n : Int) + 1))) (m + 22) k = aI g (m + 22) k := fun k => by rw [w_I2 (by omega), w_I2 (by omega), w_I2 (by omega), w_I2 (by omega)]
        have n19 : aI (uI (uI (uI (uI g (m + 19) n (iI a')) (m + 20) n (iI b')) (m + 21) n (iI z)) m 23 (iI ((n : Int) + 1))) (m + 19) n = iI a' := by rw [w_I2 (by omega), w_I2 (by omega), w_I2 (by omega), w_I1]
        have n20 : aI (uI (uI (uI (uI g (m + 19) n (iI a')) (m + 20) n (iI b')) (m + 21) n (iI z)) m 23 (iI ((n : Int) + 1))) (m + 20) n = iI b' := by rw [w_I2 (by omega), w_I2 (by omega), w_I1]
        have n21 : aI (uI (uI (uI (uI g (m + 19) n (iI a')) (m + 20) n (iI b')) (m + 21) n (iI z)) m 23 (iI ((n : Int) + 1))) (m + 21) n = iI z := by rw [w_I2 (by omega), w_I1]
        have n23 : aI (uI (uI (uI (uI g (m + 19) n (iI a')) (m + 20) n (iI b')) (m + 21) n (iI z)) m 23 (iI ((n : Int) + 1))) m 23 = iI ((n : Int) + 1) := w_I1 _ _ _ _
        generalize uI (uI (uI (uI g (m + 19) n (iI a')) (m + 20) n (iI b')) (m + 21) n (iI z)) m 23 (iI ((n : Int) + 1)) = g3 at *
        have hss : MSs g3 m (ss ++ [((n, a', b', z), false)]) := by
          refine ⟨?_, fun k x hk => ?_, fun k k1 k2 => ?_⟩
          · rw [n23, List.length_append, List.length_singleton, s2, ← en]; rfl
          · by_cases d : k < ss.length
            · rw [List.getElem?_append_left d] at hk
              rw [q19 k (by omega), q20 k (by omega), q21 k (by omega), q22 k]
              exact s1.2.1 k x hk
            · rw [List.getElem?_append_right (by omega)] at hk
              have hk0 : k - ss.length = 0 := by
                rcases Nat.eq_zero_or_pos (k - ss.length) with w | w
                · exact w
                · rw [List.getElem?_eq_none (by rw [List.length_singleton]; omega)] at hk; cases hk
              rw [hk0] at hk
              cases hk
              have ek : k = n := by omega
              rw [ek, n19, n20, n21, q22 n]
              exact ⟨rfl, ha5, hb3, hzr, rfl, rfl, rfl, s1.2.2 n (by omega) (by omega)⟩
          · rw [List.length_append, List.length_singleton] at k1
            rw [q22 k]
            exact s1.2.2 k (by omega) k2
        obtain ⟨g1, g2, g3', g4, g5, g6⟩ := hG
        have R3 : MdR g3 m (cX S, cH S, cF S, cQ S ++ [(n, a', b', z)], n + 1) := by
          refine ⟨mdK_pw r1 px, fun t ht => mTx_pw (r2 t ht) (g1 t ht).1.1 (g1 t ht).2.2.1 px fun q j w => by unfold asW svW at w; unfold txW; omega, fun a ha => mHd_pw (r3 a ha) (show (cH S a).1.length ≤ 600 by have := g2 a ha; omega) px fun q j w => by unfold asW svW at w; unfold hdW; omega, mFs_pw r4 (fun F hF => (g3' F hF).1.2.2.2.2.2.1) px (by unfold asW svW; omega) (fun f q j w hf => by unfold asW svW at w; unfold fmW; omega), ss ++ [((n, a', b', z), false)], hss, ?_, ?_, fun y hy => ?_⟩
          · rw [List.length_append, List.length_singleton, s2, ← en]; rfl
          · show cQ S ++ [(n, a', b', z)] = _
            rw [unw_app, unw_one, if_neg (show ¬ (false = true) by decide), s3]
          · rcases List.mem_append.mp hy with w | w
            · exact s4 y w
            · rw [List.mem_singleton.mp w]; exact hzl
        rw [← en]
        refine ok_some (man_ok ?_ R3 (pw_tr (pw_mono p2 scW_md) (pw_mono px asW_md)))
        rw [pw_I px (by unfold asW svW; omega)]; exact t1
  · rw [if_pos hb, decide_eq_false hb, Bool.false_and, Bool.false_and, if_pos (show false = false from rfl)]
    exact ok_some (man_er (w_I1 h m 31 _) (mdR_sc hR hG p31) (pw_mono p31 scW_md))

