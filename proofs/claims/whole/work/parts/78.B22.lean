
/-! ===== the model begins ===== -/
def sl (i : Nat) : Nat := if i < 18 then i else if i < 22 then i + 1 else if i < 27 then i + 2 else i + 3
def kn (i : Nat) : Nat := if i = 2 ∨ i = 21 ∨ i = 27 then 22 else 20
def nn (i : Nat) : Nat := if i ≤ 2 then 450 else if i ≤ 4 then 3 else if i = 5 then 15 else if i = 6 then 3000 else if i ≤ 8 then 5 else if i ≤ 12 then 60 else if i ≤ 17 then 9000 else if i ≤ 21 then 60 else if i ≤ 24 then 3 else if i = 25 then 450 else 150
theorem sl_inj {i j : Nat} (h : i < j) : sl i ≠ sl j := by unfold sl; split <;> split <;> (try split) <;> (try split) <;> (try split) <;> (try split) <;> omega
def MdS (hb : AH) (m n u C : Nat) (h : AH) : Prop := (∀ i, i < n → aR h m (sl i) = m + 1 + i ∧ aK h (m + 1 + i) = kn i ∧ aN h (m + 1 + i) = nn i) ∧ (∀ q, m ≤ q → q < aZ h → ∀ j, aI h q j = 0) ∧ aZ h = m + 1 + n ∧ aU h = u ∧ aC h = C ∧ Wf h ∧ aK h m = 13 ∧ Prs (fun q => m ≤ q) hb h
theorem mdS_step {hb : AH} {m n u C N : Nat} {h g : AH} (hS : MdS hb m n u C h) (hN : nn n = N) (a : AlS m (kn n) N (sl n) h g) : MdS hb m (n + 1) (u + N) C g := by
  obtain ⟨s1, s2, s3, s4, s5, s6, s7, s8⟩ := hS
  obtain ⟨a1, a2, a3, a4, a5, a6, a7⟩ := a
  obtain ⟨p, z, v, w⟩ := a1
  refine ⟨fun i hi => ?_, fun q q1 q2 j => ?_, by omega, by omega, by rw [p.2.2.1]; exact s5, w, by rw [pr_K p (by omega)]; exact s7, pr_tr s8 (pr_mono p fun q _ z => by omega)⟩
  · by_cases d : i = n
    · subst d
      rw [s3] at a2 a3 a5
      exact ⟨a5, a2, by rw [a3, hN]⟩
    · have hi' : i < n := by omega
      have x := s1 i hi'
      rw [a6 (sl i) (sl_inj hi'), pr_K p (by omega), pr_N p (by omega)]
      exact x
  · by_cases d : q = m
    · subst d; rw [a7]; exact s2 q q1 (by omega) j
    · by_cases d2 : q = aZ h
      · rw [d2]; exact a4 j
      · rw [pr_I p (by omega) (by omega)]; exact s2 q q1 (by omega) j
theorem ok_mal {hb : AH} {m n u u2 C K N s : Nat} {z : Int} {h : AH} {f : AH → Option (Unit × AH)} {Q : Unit → AH → Prop} (hS : MdS hb m n u C h) (es : sl n = s) (eK : kn n = K) (eN : nn n = N) (hz : (0 : Int32) ≤ iI z) (hN : (iI z).toNatClampNeg = N) (hN2 : N ≤ 100000) (hK : K ≠ 1) (hc : m + n + 2 ≤ C) (hu : u + N ≤ gS) (eu : u + N = u2) (next : ∀ g, MdS hb m (n + 1) u2 C g → Okp (f g) Q) : Okp (ck ((0 ≤ (iI z) ∧ (iI z).toNatClampNeg ≤ 100000) ∧ aZ h + 1 ≤ aC h ∧ aU h + (iI z).toNatClampNeg ≤ gS) <| nm (uN h K (iI z).toNatClampNeg) fun h4 => ck (aK h4 m = 13) <| nm (uR h4 m s (aZ h)) fun h6 => f h6) Q := by
  have z1 := hS.2.2.1
  have u1 := hS.2.2.2.1
  have c1 := hS.2.2.2.2.1
  refine ok_al hz hN hN2 (by omega) hS.2.2.2.2.2.1 hK hS.2.2.2.2.2.2.1 (by decide) (by omega) (by omega) fun g a _ => ?_
  subst es eK eu
  exact next g (mdS_step hS eN a)
theorem mdK_of {hb : AH} {m u C : Nat} {h : AH} (h0 : m ≠ 0) (hS : MdS hb m 28 u C h) : MdK h m := by
  obtain ⟨s1, s2, s3, s4, s5, s6, s7, s8⟩ := hS
  have f0 : aR h m 0 = m + 1 ∧ aK h (m + 1) = 20 ∧ aN h (m + 1) = 450 := by
    have x := s1 0 (by decide)
    rw [show m + 1 + 0 = m + 1 from Nat.add_assoc m 1 0] at x
    exact x
  have f1 : aR h m 1 = m + 2 ∧ aK h (m + 2) = 20 ∧ aN h (m + 2) = 450 := by
    have x := s1 1 (by decide)
    rw [show m + 1 + 1 = m + 2 from Nat.add_assoc m 1 1] at x
    exact x
  have f2 : aR h m 2 = m + 3 ∧ aK h (m + 3) = 22 ∧ aN h (m + 3) = 450 := by
    have x := s1 2 (by decide)
    rw [show m + 1 + 2 = m + 3 from Nat.add_assoc m 1 2] at x
    exact x
  have f3 : aR h m 3 = m + 4 ∧ aK h (m + 4) = 20 ∧ aN h (m + 4) = 3 := by
    have x := s1 3 (by decide)
    rw [show m + 1 + 3 = m + 4 from Nat.add_assoc m 1 3] at x
    exact x
  have f4 : aR h m 4 = m + 5 ∧ aK h (m + 5) = 20 ∧ aN h (m + 5) = 3 := by
    have x := s1 4 (by decide)
    rw [show m + 1 + 4 = m + 5 from Nat.add_assoc m 1 4] at x
    exact x
  have f5 : aR h m 5 = m + 6 ∧ aK h (m + 6) = 20 ∧ aN h (m + 6) = 15 := by
    have x := s1 5 (by decide)
    rw [show m + 1 + 5 = m + 6 from Nat.add_assoc m 1 5] at x
    exact x
  have f6 : aR h m 6 = m + 7 ∧ aK h (m + 7) = 20 ∧ aN h (m + 7) = 3000 := by
    have x := s1 6 (by decide)
    rw [show m + 1 + 6 = m + 7 from Nat.add_assoc m 1 6] at x
    exact x
  have f7 : aR h m 7 = m + 8 ∧ aK h (m + 8) = 20 ∧ aN h (m + 8) = 5 := by
    have x := s1 7 (by decide)
    rw [show m + 1 + 7 = m + 8 from Nat.add_assoc m 1 7] at x
    exact x
  have f8 : aR h m 8 = m + 9 ∧ aK h (m + 9) = 20 ∧ aN h (m + 9) = 5 := by
    have x := s1 8 (by decide)
    rw [show m + 1 + 8 = m + 9 from Nat.add_assoc m 1 8] at x
    exact x
  have f9 : aR h m 9 = m + 10 ∧ aK h (m + 10) = 20 ∧ aN h (m + 10) = 60 := by
    have x := s1 9 (by decide)
    rw [show m + 1 + 9 = m + 10 from Nat.add_assoc m 1 9] at x
    exact x
  have f10 : aR h m 10 = m + 11 ∧ aK h (m + 11) = 20 ∧ aN h (m + 11) = 60 := by
    have x := s1 10 (by decide)
    rw [show m + 1 + 10 = m + 11 from Nat.add_assoc m 1 10] at x
    exact x
  have f11 : aR h m 11 = m + 12 ∧ aK h (m + 12) = 20 ∧ aN h (m + 12) = 60 := by
    have x := s1 11 (by decide)
    rw [show m + 1 + 11 = m + 12 from Nat.add_assoc m 1 11] at x
    exact x
  have f12 : aR h m 12 = m + 13 ∧ aK h (m + 13) = 20 ∧ aN h (m + 13) = 60 := by
    have x := s1 12 (by decide)
    rw [show m + 1 + 12 = m + 13 from Nat.add_assoc m 1 12] at x
    exact x
  have f13 : aR h m 13 = m + 14 ∧ aK h (m + 14) = 20 ∧ aN h (m + 14) = 9000 := by
    have x := s1 13 (by decide)
    rw [show m + 1 + 13 = m + 14 from Nat.add_assoc m 1 13] at x
    exact x
  have f14 : aR h m 14 = m + 15 ∧ aK h (m + 15) = 20 ∧ aN h (m + 15) = 9000 := by
    have x := s1 14 (by decide)
    rw [show m + 1 + 14 = m + 15 from Nat.add_assoc m 1 14] at x
    exact x
  have f15 : aR h m 15 = m + 16 ∧ aK h (m + 16) = 20 ∧ aN h (m + 16) = 9000 := by
    have x := s1 15 (by decide)
    rw [show m + 1 + 15 = m + 16 from Nat.add_assoc m 1 15] at x
    exact x
  have f16 : aR h m 16 = m + 17 ∧ aK h (m + 17) = 20 ∧ aN h (m + 17) = 9000 := by
    have x := s1 16 (by decide)
    rw [show m + 1 + 16 = m + 17 from Nat.add_assoc m 1 16] at x
    exact x
  have f17 : aR h m 17 = m + 18 ∧ aK h (m + 18) = 20 ∧ aN h (m + 18) = 9000 := by
    have x := s1 17 (by decide)
    rw [show m + 1 + 17 = m + 18 from Nat.add_assoc m 1 17] at x
    exact x
  have f18 : aR h m 19 = m + 19 ∧ aK h (m + 19) = 20 ∧ aN h (m + 19) = 60 := by
    have x := s1 18 (by decide)
    rw [show m + 1 + 18 = m + 19 from Nat.add_assoc m 1 18] at x
    exact x
  have f19 : aR h m 20 = m + 20 ∧ aK h (m + 20) = 20 ∧ aN h (m + 20) = 60 := by
    have x := s1 19 (by decide)
    rw [show m + 1 + 19 = m + 20 from Nat.add_assoc m 1 19] at x
    exact x
  have f20 : aR h m 21 = m + 21 ∧ aK h (m + 21) = 20 ∧ aN h (m + 21) = 60 := by
    have x := s1 20 (by decide)
    rw [show m + 1 + 20 = m + 21 from Nat.add_assoc m 1 20] at x
    exact x
  have f21 : aR h m 22 = m + 22 ∧ aK h (m + 22) = 22 ∧ aN h (m + 22) = 60 := by
    have x := s1 21 (by decide)
    rw [show m + 1 + 21 = m + 22 from Nat.add_assoc m 1 21] at x
    exact x
  have f22 : aR h m 24 = m + 23 ∧ aK h (m + 23) = 20 ∧ aN h (m + 23) = 3 := by
    have x := s1 22 (by decide)
    rw [show m + 1 + 22 = m + 23 from Nat.add_assoc m 1 22] at x
    exact x
  have f23 : aR h m 25 = m + 24 ∧ aK h (m + 24) = 20 ∧ aN h (m + 24) = 3 := by
    have x := s1 23 (by decide)
    rw [show m + 1 + 23 = m + 24 from Nat.add_assoc m 1 23] at x
    exact x
  have f24 : aR h m 26 = m + 25 ∧ aK h (m + 25) = 20 ∧ aN h (m + 25) = 3 := by
    have x := s1 24 (by decide)
    rw [show m + 1 + 24 = m + 25 from Nat.add_assoc m 1 24] at x
    exact x
  have f25 : aR h m 27 = m + 26 ∧ aK h (m + 26) = 20 ∧ aN h (m + 26) = 450 := by
    have x := s1 25 (by decide)
    rw [show m + 1 + 25 = m + 26 from Nat.add_assoc m 1 25] at x
    exact x
  have f26 : aR h m 28 = m + 27 ∧ aK h (m + 27) = 20 ∧ aN h (m + 27) = 150 := by
    have x := s1 26 (by decide)
    rw [show m + 1 + 26 = m + 27 from Nat.add_assoc m 1 26] at x
    exact x
  have f27 : aR h m 30 = m + 28 ∧ aK h (m + 28) = 22 ∧ aN h (m + 28) = 150 := by
    have x := s1 27 (by decide)
    rw [show m + 1 + 27 = m + 28 from Nat.add_assoc m 1 27] at x
    exact x
  exact ⟨⟨eq_false h0, s7, f0.1, f0.2.1, f0.2.2, f1.1, f1.2.1, f1.2.2, f2.1, f2.2.1, f2.2.2, f3.1, f3.2.1, f3.2.2, f4.1, f4.2.1, f4.2.2, f5.1, f5.2.1, f5.2.2, f6.1, f6.2.1, f6.2.2, f7.1, f7.2.1, f7.2.2, f8.1, f8.2.1, f8.2.2, f9.1, f9.2.1, f9.2.2, f10.1, f10.2.1, f10.2.2, f11.1, f11.2.1, f11.2.2, f12.1, f12.2.1, f12.2.2, f13.1, f13.2.1, f13.2.2, f14.1, f14.2.1, f14.2.2, f15.1, f15.2.1, f15.2.2, f16.1, f16.2.1, f16.2.2, f17.1, f17.2.1, f17.2.2, f18.1, f18.2.1, f18.2.2, f19.1, f19.2.1, f19.2.2, f20.1, f20.2.1, f20.2.2, f21.1, f21.2.1, f21.2.2, f22.1, f22.2.1, f22.2.2, f23.1, f23.2.1, f23.2.2, f24.1, f24.2.1, f24.2.2, f25.1, f25.2.1, f25.2.2, f26.1, f26.2.1, f26.2.2, f27.1, f27.2.1, f27.2.2⟩, by omega⟩
theorem g_init_262 {m : Nat} : ∀ (k i n : Nat) (h : AH), MdK h m → (∀ j, j < i → aI h (m + 6) j = iI (-1)) → i + k = 15 → k < n → Okp (p_X11_init_262 n m (iI i) h) (fun _ h' => (∀ j, j < 15 → aI h' (m + 6) j = iI (-1)) ∧ Pw (fun q _ => q = m + 6) h h') := by
  intro k
  induction k with
  | zero =>
    intro i n h hK hj hi hn
    obtain ⟨n, rfl⟩ : ∃ m, n = m + 1 := ⟨n - 1, by omega⟩
    unfold p_X11_init_262
    simp (disch := omega) only [ck_t, nm_q, bR_s, j_add, j_sub, j_mul, j_nI, j_0, j_le, j_lt, j_eq, j_nat, j_ixe, bI_0, and_self, and_true, true_and, ne_eq, not_false_eq_true, not_true_eq_false, ite_true, ite_false, if_true, if_false, ck_p z_0, ck_p z_1, K_uI, N_uI, R_uI, L_uI, Z_uI, U_uI, E_uI, C_uI, M_uI, Int.toNat_natCast, if_pos]
    exact ok_some ⟨fun j hj2 => hj j (by omega), pw_rf⟩
  | succ k ih =>
    intro i n h hK hj hi hn
    obtain ⟨n, rfl⟩ : ∃ m, n = m + 1 := ⟨n - 1, by omega⟩
    have p : Pw (fun q _ => q = m + 6) h (uI h (m + 6) i (iI (-1))) := pw_uI rfl
    unfold p_X11_init_262
    simp (disch := omega) only [ck_t, nm_q, bR_s, j_add, j_sub, j_mul, j_nI, j_0, j_le, j_lt, j_eq, j_nat, j_ixe, bI_0, and_self, and_true, true_and, ne_eq, not_false_eq_true, not_true_eq_false, ite_true, ite_false, if_true, if_false, ck_p z_0, ck_p z_1, K_uI, N_uI, R_uI, L_uI, Z_uI, U_uI, E_uI, C_uI, M_uI, Int.toNat_natCast, mdk hK, ck_p, if_neg]
    refine ok_to (ih (i + 1) n _ (mdK_pw hK p) (fun j hj2 => ?_) (by omega) (by omega)) fun _ h2 z => ⟨z.1, pw_tr p z.2⟩
    by_cases d : j = i
    · rw [d, w_I1]
    · rw [w_I3 d]; exact hj j (by omega)
theorem g_init_235 {m : Nat} : ∀ (k i n : Nat) (h : AH), MdK h m → (∀ j, j < i → aI h (m + 23) j = iI (-1) ∧ aI h (m + 24) j = iI (-1)) → i + k = 3 → k < n → Okp (p_X11_init_235 n m (iI i) h) (fun _ h' => (∀ j, j < 3 → aI h' (m + 23) j = iI (-1) ∧ aI h' (m + 24) j = iI (-1)) ∧ (∀ j, j < 15 → aI h' (m + 6) j = iI (-1)) ∧ Pw (fun q _ => q = m + 6 ∨ q = m + 23 ∨ q = m + 24) h h') := by
  intro k
  induction k with
  | zero =>
    intro i n h hK hj hi hn
    obtain ⟨n, rfl⟩ : ∃ m, n = m + 1 := ⟨n - 1, by omega⟩
    unfold p_X11_init_235
    simp (disch := omega) only [ck_t, nm_q, bR_s, j_add, j_sub, j_mul, j_nI, j_0, j_le, j_lt, j_eq, j_nat, j_ixe, bI_0, and_self, and_true, true_and, ne_eq, not_false_eq_true, not_true_eq_false, ite_true, ite_false, if_true, if_false, ck_p z_0, ck_p z_1, K_uI, N_uI, R_uI, L_uI, Z_uI, U_uI, E_uI, C_uI, M_uI, Int.toNat_natCast, if_pos]
    refine ok_to (show Okp (p_X11_init_262 FU m (iI ((0 : Nat) : Int)) h) _ from g_init_262 15 0 FU h hK (fun j hj => absurd hj (Nat.not_lt_zero _)) (by omega) (by unfold FU; omega)) ?_
    rintro _ h' ⟨y1, y2⟩
    refine ⟨fun j hj2 => ?_, y1, pw_mono y2 fun q j w => Or.inl w⟩
    rw [pw_I y2 (by omega), pw_I y2 (by omega)]
    exact hj j (by omega)
  | succ k ih =>
    intro i n h hK hj hi hn
    obtain ⟨n, rfl⟩ : ∃ m, n = m + 1 := ⟨n - 1, by omega⟩
    have p : Pw (fun q _ => q = m + 6 ∨ q = m + 23 ∨ q = m + 24) h (uI (uI h (m + 23) i (iI (-1))) (m + 24) i (iI (-1))) := pw_tr (pw_uI (by omega)) (pw_uI (by omega))
    unfold p_X11_init_235
    simp (disch := omega) only [ck_t, nm_q, bR_s, j_add, j_sub, j_mul, j_nI, j_0, j_le, j_lt, j_eq, j_nat, j_ixe, bI_0, and_self, and_true, true_and, ne_eq, not_false_eq_true, not_true_eq_false, ite_true, ite_false, if_true, if_false, ck_p z_0, ck_p z_1, K_uI, N_uI, R_uI, L_uI, Z_uI, U_uI, E_uI, C_uI, M_uI, Int.toNat_natCast, mdk hK, ck_p, if_neg]
    refine ok_to (ih (i + 1) n _ (mdK_pw hK p) (fun j hj2 => ?_) (by omega) (by omega)) fun _ h2 z => ⟨z.1, z.2.1, pw_tr p z.2.2⟩
    by_cases d : j = i
    · rw [d]; exact ⟨by rw [w_I2 (by omega), w_I1], w_I1 _ _ _ _⟩
    · rw [w_I2 (by omega), w_I3 d, w_I3 d, w_I2 (by omega)]; exact hj j (by omega)
theorem mdR_0 {hb : AH} {m u C : Nat} {h h' : AH} (h0 : m ≠ 0) (hS : MdS hb m 28 u C h) (y1 : ∀ j, j < 3 → aI h' (m + 23) j = iI (-1) ∧ aI h' (m + 24) j = iI (-1)) (y2 : ∀ j, j < 15 → aI h' (m + 6) j = iI (-1)) (y3 : Pw (fun q _ => q = m + 6 ∨ q = m + 23 ∨ q = m + 24) h h') : MdR h' m S0 := by
  have hK := mdK_pw (mdK_of h0 hS) y3
  have hz : aZ h = m + 29 := hS.2.2.1
  have zr : ∀ q j, m ≤ q → q < m + 29 → q ≠ m + 6 → q ≠ m + 23 → q ≠ m + 24 → aI h' q j = iI 0 := fun q j z1 z2 z3 z4 z5 => by rw [pw_I y3 (by omega), hS.2.1 q z1 (by omega) j]; exact j_0
  refine ⟨hK, fun t ht => ⟨⟨zr _ _ (by omega) (by omega) (by omega) (by omega) (by omega), fun i hi => absurd hi (Nat.not_lt_zero _)⟩, fun j hj => y2 _ (by omega), ?_, (y1 t ht).1, (y1 t ht).2, zr _ _ (by omega) (by omega) (by omega) (by omega) (by omega), fun j hj => absurd hj (Nat.not_lt_zero _)⟩, fun a ha => ⟨zr _ _ (by omega) (by omega) (by omega) (by omega) (by omega), zr _ _ (by omega) (by omega) (by omega) (by omega) (by omega), fun k x hk => (by cases hk)⟩, ⟨zr _ _ (by omega) (by omega) (by omega) (by omega) (by omega), fun f F hf => (by cases hf)⟩, [], ⟨zr _ _ (by omega) (by omega) (by omega) (by omega) (by omega), fun k x hk => (by cases hk), fun k _ _ => zr _ _ (by omega) (by omega) (by omega) (by omega) (by omega)⟩, rfl, rfl, fun x hx => (by cases hx)⟩
  rw [zr _ _ (by omega) (by omega) (by omega) (by omega) (by omega)]
  exact j_0.symm
theorem x11_tail {hb : AH} {m u C : Nat} {g : AH} (h0 : m ≠ 0) (hS : MdS hb m 28 u C g) : Okp (p_X11_init_235 FU m (iI 0) g) (fun _ h' => MdR h' m S0 ∧ Pw (fun q _ => q = m + 6 ∨ q = m + 23 ∨ q = m + 24) g h') := by
  refine ok_to (show Okp (p_X11_init_235 FU m (iI ((0 : Nat) : Int)) g) _ from g_init_235 3 0 FU g (mdK_of h0 hS) (fun j hj => absurd hj (Nat.not_lt_zero _)) (by omega) (by unfold FU; omega)) ?_
  rintro _ h' ⟨y1, y2, y3⟩
  exact ⟨mdR_0 h0 hS y1 y2 y3, y3⟩
theorem f_X11_init {hb h : AH} {m u C : Nat} (h0 : m ≠ 0) (hS : MdS hb m 0 u C h) (hc : m + 40 ≤ C) (hu : u + 51000 ≤ gS) : Okp (p_X11_init m h) (fun _ h' => Prs (fun q => m ≤ q) hb h' ∧ MdR h' m S0 ∧ Wf h' ∧ aZ h' = m + 29 ∧ aU h' = u + 50620 ∧ aC h' = C) := by
  unfold p_X11_init p_X11_init_0
  refine ok_ck h0 (ok_ck h0 ?_)
  refine ok_mal (n := 0) (u := u + 0) (u2 := u + 450) (K := 20) (N := 450) (s := 0) hS rfl rfl rfl tp_450 tn_450 (by decide) (by decide) (by omega) (by omega) (by omega) fun g1 (s1 : MdS hb m 1 (u + 450) C g1) => ?_
  refine ok_mal (n := 1) (u := u + 450) (u2 := u + 900) (K := 20) (N := 450) (s := 1) s1 rfl rfl rfl tp_450 tn_450 (by decide) (by decide) (by omega) (by omega) (by omega) fun g2 (s2 : MdS hb m 2 (u + 900) C g2) => ?_
  refine ok_mal (n := 2) (u := u + 900) (u2 := u + 1350) (K := 22) (N := 450) (s := 2) s2 rfl rfl rfl tp_450 tn_450 (by decide) (by decide) (by omega) (by omega) (by omega) fun g3 (s3 : MdS hb m 3 (u + 1350) C g3) => ?_
  refine ok_mal (n := 3) (u := u + 1350) (u2 := u + 1353) (K := 20) (N := 3) (s := 3) s3 rfl rfl rfl tp_3 tn_3 (by decide) (by decide) (by omega) (by omega) (by omega) fun g4 (s4 : MdS hb m 4 (u + 1353) C g4) => ?_
  refine ok_mal (n := 4) (u := u + 1353) (u2 := u + 1356) (K := 20) (N := 3) (s := 4) s4 rfl rfl rfl tp_3 tn_3 (by decide) (by decide) (by omega) (by omega) (by omega) fun g5 (s5 : MdS hb m 5 (u + 1356) C g5) => ?_
  refine ok_mal (n := 5) (u := u + 1356) (u2 := u + 1371) (K := 20) (N := 15) (s := 5) s5 rfl rfl rfl tp_15 tn_15 (by decide) (by decide) (by omega) (by omega) (by omega) fun g6 (s6 : MdS hb m 6 (u + 1371) C g6) => ?_
  refine ok_mal (n := 6) (u := u + 1371) (u2 := u + 4371) (K := 20) (N := 3000) (s := 6) s6 rfl rfl rfl tp_3000 tn_3000 (by decide) (by decide) (by omega) (by omega) (by omega) fun g7 (s7 : MdS hb m 7 (u + 4371) C g7) => ?_
  refine ok_mal (n := 7) (u := u + 4371) (u2 := u + 4376) (K := 20) (N := 5) (s := 7) s7 rfl rfl rfl tp_5 tn_5 (by decide) (by decide) (by omega) (by omega) (by omega) fun g8 (s8 : MdS hb m 8 (u + 4376) C g8) => ?_
  refine ok_mal (n := 8) (u := u + 4376) (u2 := u + 4381) (K := 20) (N := 5) (s := 8) s8 rfl rfl rfl tp_5 tn_5 (by decide) (by decide) (by omega) (by omega) (by omega) fun g9 (s9 : MdS hb m 9 (u + 4381) C g9) => ?_
  refine ok_mal (n := 9) (u := u + 4381) (u2 := u + 4441) (K := 20) (N := 60) (s := 9) s9 rfl rfl rfl tp_60 tn_60 (by decide) (by decide) (by omega) (by omega) (by omega) fun g10 (s10 : MdS hb m 10 (u + 4441) C g10) => ?_
  refine ok_mal (n := 10) (u := u + 4441) (u2 := u + 4501) (K := 20) (N := 60) (s := 10) s10 rfl rfl rfl tp_60 tn_60 (by decide) (by decide) (by omega) (by omega) (by omega) fun g11 (s11 : MdS hb m 11 (u + 4501) C g11) => ?_
  refine ok_mal (n := 11) (u := u + 4501) (u2 := u + 4561) (K := 20) (N := 60) (s := 11) s11 rfl rfl rfl tp_60 tn_60 (by decide) (by decide) (by omega) (by omega) (by omega) fun g12 (s12 : MdS hb m 12 (u + 4561) C g12) => ?_
  refine ok_mal (n := 12) (u := u + 4561) (u2 := u + 4621) (K := 20) (N := 60) (s := 12) s12 rfl rfl rfl tp_60 tn_60 (by decide) (by decide) (by omega) (by omega) (by omega) fun g13 (s13 : MdS hb m 13 (u + 4621) C g13) => ?_
  refine ok_mal (n := 13) (u := u + 4621) (u2 := u + 13621) (K := 20) (N := 9000) (s := 13) s13 rfl rfl rfl tp_9000 tn_9000 (by decide) (by decide) (by omega) (by omega) (by omega) fun g14 (s14 : MdS hb m 14 (u + 13621) C g14) => ?_
  refine ok_mal (n := 14) (u := u + 13621) (u2 := u + 22621) (K := 20) (N := 9000) (s := 14) s14 rfl rfl rfl tp_9000 tn_9000 (by decide) (by decide) (by omega) (by omega) (by omega) fun g15 (s15 : MdS hb m 15 (u + 22621) C g15) => ?_
  refine ok_mal (n := 15) (u := u + 22621) (u2 := u + 31621) (K := 20) (N := 9000) (s := 15) s15 rfl rfl rfl tp_9000 tn_9000 (by decide) (by decide) (by omega) (by omega) (by omega) fun g16 (s16 : MdS hb m 16 (u + 31621) C g16) => ?_
  refine ok_mal (n := 16) (u := u + 31621) (u2 := u + 40621) (K := 20) (N := 9000) (s := 16) s16 rfl rfl rfl tp_9000 tn_9000 (by decide) (by decide) (by omega) (by omega) (by omega) fun g17 (s17 : MdS hb m 17 (u + 40621) C g17) => ?_
  refine ok_mal (n := 17) (u := u + 40621) (u2 := u + 49621) (K := 20) (N := 9000) (s := 17) s17 rfl rfl rfl tp_9000 tn_9000 (by decide) (by decide) (by omega) (by omega) (by omega) fun g18 (s18 : MdS hb m 18 (u + 49621) C g18) => ?_
  refine ok_mal (n := 18) (u := u + 49621) (u2 := u + 49681) (K := 20) (N := 60) (s := 19) s18 rfl rfl rfl tp_60 tn_60 (by decide) (by decide) (by omega) (by omega) (by omega) fun g19 (s19 : MdS hb m 19 (u + 49681) C g19) => ?_
  refine ok_mal (n := 19) (u := u + 49681) (u2 := u + 49741) (K := 20) (N := 60) (s := 20) s19 rfl rfl rfl tp_60 tn_60 (by decide) (by decide) (by omega) (by omega) (by omega) fun g20 (s20 : MdS hb m 20 (u + 49741) C g20) => ?_
  refine ok_mal (n := 20) (u := u + 49741) (u2 := u + 49801) (K := 20) (N := 60) (s := 21) s20 rfl rfl rfl tp_60 tn_60 (by decide) (by decide) (by omega) (by omega) (by omega) fun g21 (s21 : MdS hb m 21 (u + 49801) C g21) => ?_
  refine ok_mal (n := 21) (u := u + 49801) (u2 := u + 49861) (K := 22) (N := 60) (s := 22) s21 rfl rfl rfl tp_60 tn_60 (by decide) (by decide) (by omega) (by omega) (by omega) fun g22 (s22 : MdS hb m 22 (u + 49861) C g22) => ?_
  refine ok_mal (n := 22) (u := u + 49861) (u2 := u + 49864) (K := 20) (N := 3) (s := 24) s22 rfl rfl rfl tp_3 tn_3 (by decide) (by decide) (by omega) (by omega) (by omega) fun g23 (s23 : MdS hb m 23 (u + 49864) C g23) => ?_
  refine ok_mal (n := 23) (u := u + 49864) (u2 := u + 49867) (K := 20) (N := 3) (s := 25) s23 rfl rfl rfl tp_3 tn_3 (by decide) (by decide) (by omega) (by omega) (by omega) fun g24 (s24 : MdS hb m 24 (u + 49867) C g24) => ?_
  refine ok_mal (n := 24) (u := u + 49867) (u2 := u + 49870) (K := 20) (N := 3) (s := 26) s24 rfl rfl rfl tp_3 tn_3 (by decide) (by decide) (by omega) (by omega) (by omega) fun g25 (s25 : MdS hb m 25 (u + 49870) C g25) => ?_
  refine ok_mal (n := 25) (u := u + 49870) (u2 := u + 50320) (K := 20) (N := 450) (s := 27) s25 rfl rfl rfl tp_450 tn_450 (by decide) (by decide) (by omega) (by omega) (by omega) fun g26 (s26 : MdS hb m 26 (u + 50320) C g26) => ?_
  refine ok_mal (n := 26) (u := u + 50320) (u2 := u + 50470) (K := 20) (N := 150) (s := 28) s26 rfl rfl rfl tp_150 tn_150 (by decide) (by decide) (by omega) (by omega) (by omega) fun g27 (s27 : MdS hb m 27 (u + 50470) C g27) => ?_
  refine ok_mal (n := 27) (u := u + 50470) (u2 := u + 50620) (K := 22) (N := 150) (s := 30) s27 rfl rfl rfl tp_150 tn_150 (by decide) (by decide) (by omega) (by omega) (by omega) fun g28 (s28 : MdS hb m 28 (u + 50620) C g28) => ?_
  refine ok_nm (ok_to (x11_tail h0 s28) ?_)
  rintro _ h' ⟨y1, y2⟩
  have z := s28.2.2.1
  have v := s28.2.2.2.1
  refine ⟨pr_tr s28.2.2.2.2.2.2.2 (pi_pr (pw_pi y2 fun q j w => by omega)), y1, wf_pi s28.2.2.2.2.2.1 (pw_pi (S := fun _ => True) y2 fun _ _ _ => trivial), by rw [y2.2.2.2.2.1]; exact z, ?_, by rw [y2.2.2.2.2.2.2.2.1]; exact s28.2.2.2.2.1⟩
  rw [y2.2.2.2.2.2.1, v]

