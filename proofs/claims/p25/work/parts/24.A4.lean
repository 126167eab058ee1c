
/-! ===== lists ===== -/
def lc (h : AH) (l : Nat) : Nat := aN h (aR h l 1)
def LsR (h : AH) (l : Nat) (xs : List Nat) : Prop := (l = 0) = False ∧ aK h l = 1 ∧ l < aZ h ∧ aI h l 2 = iI xs.length ∧ aK h (aR h l 1) = 26 ∧ (aR h l 1 = 0) = False ∧ aR h l 1 < aZ h ∧ xs.length ≤ aN h (aR h l 1) ∧ aN h (aR h l 1) ≤ 1761 ∧ ((aR h l 1 = aE h ∧ aN h (aR h l 1) = 0) ∨ (aR h l 1 ≠ aE h ∧ 10 ≤ aN h (aR h l 1))) ∧ (∀ i, i < xs.length → aR h (aR h l 1) i = xs.getD i 0) ∧ (∀ x ∈ xs, x ≠ 0 ∧ x < aZ h ∧ 1 ≤ aK h x ∧ aK h x ≤ 12)
def Wf (h : AH) : Prop := (aE h ≠ 0 ∧ aE h < aZ h ∧ aK h (aE h) = 26 ∧ aN h (aE h) = 0) ∧ (∀ q, aZ h ≤ q → aK h q = 0) ∧ (∀ l1 l2, aK h l1 = 1 → aK h l2 = 1 → aR h l1 1 = aR h l2 1 → l1 = l2 ∨ aR h l1 1 = aE h) ∧ (∀ l, aK h l = 1 → aR h l 1 < aZ h) ∧ aM h ≠ 0
def lS (h : AH) (l : Nat) (q : Nat) : Prop := q = l ∨ (q = aR h l 1 ∧ q ≠ aE h)
theorem wf_pi {S : Nat → Prop} {h h' : AH} (hw : Wf h) (x : Pi S h h') : Wf h' := by
  obtain ⟨x1, x2, x3, x4, x5, x6, x7, x8, x9, x10⟩ := x
  unfold Wf at hw ⊢
  rw [x1, x2, x3, x5, x7, x9]
  exact hw
theorem wf_kz {h : AH} (hw : Wf h) {q : Nat} (hq : aK h q ≠ 0) : q < aZ h := by
  rcases Nat.lt_or_ge q (aZ h) with z | z
  · exact z
  · exact absurd (hw.2.1 q z) hq
/-- a list that a step doesn't write -/
theorem ls_pr {S : Nat → Prop} {h h' : AH} {l : Nat} {xs : List Nat} (hl : LsR h l xs) (x : Prs S h h') (h1 : ¬ S l) (h2 : ¬ S (aR h l 1)) : LsR h' l xs := by
  obtain ⟨a1, a2, a3, a4, a5, a6, a7, a8, a9, a10, a11, a12⟩ := hl
  have e := pr_R x a3 h1
  have := x.1
  unfold LsR
  rw [e, pr_K x a3, pr_I x a3 h1, pr_K x a7, pr_N x a7, pr_R x a7 h2, x.2.1]
  refine ⟨a1, a2, by omega, a4, a5, a6, by omega, a8, a9, a10, a11, fun y hy => ?_⟩
  obtain ⟨b1, b2, b3⟩ := a12 y hy
  rw [pr_K x b2]
  exact ⟨b1, by omega, b3⟩
theorem lc_pr {S : Nat → Prop} {h h' : AH} {l : Nat} {xs : List Nat} (hl : LsR h l xs) (x : Prs S h h') (h1 : ¬ S l) : lc h' l = lc h l := by
  obtain ⟨a1, a2, a3, a4, a5, a6, a7, a8, a9, a10, a11, a12⟩ := hl
  unfold lc
  rw [pr_R x a3 h1, pr_N x a7]
/-- another list than the one that is written -/
theorem ls_other {h h' : AH} {l l2 : Nat} {xs ys : List Nat} (hw : Wf h) (hl : LsR h l xs) (hl2 : LsR h l2 ys) (hne : l2 ≠ l) (x : Prs (lS h l) h h') : LsR h' l2 ys := by
  refine ls_pr hl2 x ?_ ?_
  · rintro (z | z)
    · exact hne z
    · have := hl.2.2.2.2.1; have := hl2.2.1; rw [z.1] at this; omega
  · rintro (z | z)
    · have := hl.2.1; have := hl2.2.2.2.2.1; rw [z] at this; omega
    · rcases hw.2.2.1 l2 l hl2.2.1 hl.2.1 z.1 with w | w
      · exact hne w
      · exact z.2 w
theorem f_size {h : AH} {l : Nat} {xs : List Nat} (hl : LsR h l xs) : p_Jx4a65c_size_8abf5 l h = some (iI xs.length, h) := by
  obtain ⟨a1, a2, a3, a4, a5, a6, a7, a8, a9, a10, a11, a12⟩ := hl
  unfold p_Jx4a65c_size_8abf5 p_Jx4a65c_size_8abf5_0
  simp (disch := omega) only [ck_t, nm_q, bR_s, j_add, j_sub, j_mul, j_nI, j_0, j_le, j_lt, j_eq, j_nat, j_ixe, bI_0, and_self, and_true, true_and, ne_eq, not_false_eq_true, not_true_eq_false, ite_true, ite_false, if_true, if_false, ck_p z_0, ck_p z_1, a1, a2, a4]
theorem f_get {h : AH} {l : Nat} {xs : List Nat} (hl : LsR h l xs) {i : Nat} (hi : i < xs.length) : p_Jx4a65c_get_915e3 l (iI i) h = some (xs.getD i 0, h) := by
  obtain ⟨a1, a2, a3, a4, a5, a6, a7, a8, a9, a10, a11, a12⟩ := hl
  unfold p_Jx4a65c_get_915e3 p_Jx4a65c_get_915e3_0 p_J15_checkIndex_7cf53 p_J15_checkIndex_7cf53_0 p_J3_checkIndex_8e157 p_J3_checkIndex_8e157_0 p_Jx4a65c_elementData_915e3 p_Jx4a65c_elementData_915e3_0
  simp (disch := omega) only [ck_t, nm_q, bR_s, j_add, j_sub, j_mul, j_nI, j_0, j_le, j_lt, j_eq, j_nat, j_ixe, bI_0, and_self, and_true, true_and, ne_eq, not_false_eq_true, not_true_eq_false, ite_true, ite_false, if_true, if_false, ck_p z_0, ck_p z_1, a1, a2, a4, a5, Int.toNat_natCast, a11 i hi]
  rw [if_neg (by omega), if_pos (by omega)]
  simp (disch := omega) only [ck_t, nm_q, bR_s, j_add, j_sub, j_mul, j_nI, j_0, j_le, j_lt, j_eq, j_nat, j_ixe, bI_0, and_self, and_true, true_and, ne_eq, not_false_eq_true, not_true_eq_false, ite_true, ite_false, if_true, if_false, ck_p z_0, ck_p z_1, a1, a2, a4, a5]
  rw [ck_p (by omega), a11 i hi]
  rfl
def obk (h : AH) (x : Nat) : Prop := x ≠ 0 ∧ x < aZ h ∧ 1 ≤ aK h x ∧ aK h x ≤ 12
theorem f_add_tail {g : AH} {l x : Nat} {xs : List Nat} (hl : LsR g l xs) (hw : Wf g) (hx : obk g x) (hlt : xs.length < aN g (aR g l 1)) : Okp (p_Jx4a65c_add_72be8_11 l x (aR g l 1) (iI xs.length) g) (fun _ h' => LsR h' l (xs ++ [x]) ∧ Wf h' ∧ Prs (lS g l) g h' ∧ aZ h' = aZ g ∧ aU h' = aU g ∧ aR h' l 1 = aR g l 1 ∧ aN h' = aN g) := by
  obtain ⟨a1, a2, a3, a4, a5, a6, a7, a8, a9, a10, a11, a12⟩ := hl
  have hcl : aR g l 1 ≠ l := fun z => by rw [z] at a5; omega
  have hce : aR g l 1 ≠ aE g := by
    rcases a10 with z | z
    · omega
    · exact z.1
  unfold p_Jx4a65c_add_72be8_11
  simp (disch := omega) only [ck_t, nm_q, bR_s, j_add, j_sub, j_mul, j_nI, j_0, j_le, j_lt, j_eq, j_nat, j_ixe, bI_0, and_self, and_true, true_and, ne_eq, not_false_eq_true, not_true_eq_false, ite_true, ite_false, if_true, if_false, ck_p z_0, ck_p z_1, K_uI, N_uI, R_uI, L_uI, Z_uI, U_uI, E_uI, C_uI, M_uI, I_uI, K_uR, N_uR, I_uR, L_uR, Z_uR, U_uR, E_uR, C_uR, M_uR, R_uR, a1, a2, a4, a5, Int.toNat_natCast]
  rw [ck_p (by omega), ck_p ⟨hx.2.2.1, hx.2.2.2⟩]
  have p1 : Prs (lS g l) g (uR g (aR g l 1) xs.length x) := pr_uR (Or.inr ⟨rfl, hce⟩)
  have p2 : Prs (lS g l) g (uI (uR g (aR g l 1) xs.length x) l 2 (iI ((xs.length : Int) + 1))) := pr_tr p1 (pr_uI (Or.inl rfl))
  refine ok_some ⟨⟨a1, a2, a3, ?_, ?_, ?_, ?_, ?_, ?_, ?_, ?_, ?_⟩, ⟨hw.1, hw.2.1, ?_, ?_, hw.2.2.2.2⟩, p2, rfl, rfl, ?_, rfl⟩
  · rw [w_I1, List.length_append]; rfl
  · simp (disch := omega) only [K_uI, N_uI, R_uI, Z_uI, U_uI, E_uI, M_uI, K_uR, N_uR, I_uR, Z_uR, U_uR, E_uR, M_uR, w_I1, w_I2, w_R2]; exact a5
  · simp (disch := omega) only [K_uI, N_uI, R_uI, Z_uI, U_uI, E_uI, M_uI, K_uR, N_uR, I_uR, Z_uR, U_uR, E_uR, M_uR, w_I1, w_I2, w_R2]; exact a6
  · simp (disch := omega) only [K_uI, N_uI, R_uI, Z_uI, U_uI, E_uI, M_uI, K_uR, N_uR, I_uR, Z_uR, U_uR, E_uR, M_uR, w_I1, w_I2, w_R2]; exact a7
  · simp (disch := omega) only [K_uI, N_uI, R_uI, Z_uI, U_uI, E_uI, M_uI, K_uR, N_uR, I_uR, Z_uR, U_uR, E_uR, M_uR, w_I1, w_I2, w_R2, List.length_append, List.length_singleton]; omega
  · simp (disch := omega) only [K_uI, N_uI, R_uI, Z_uI, U_uI, E_uI, M_uI, K_uR, N_uR, I_uR, Z_uR, U_uR, E_uR, M_uR, w_I1, w_I2, w_R2]; exact a9
  · simp (disch := omega) only [K_uI, N_uI, R_uI, Z_uI, U_uI, E_uI, M_uI, K_uR, N_uR, I_uR, Z_uR, U_uR, E_uR, M_uR, w_I1, w_I2, w_R2]; exact a10
  · intro i hi
    simp (disch := omega) only [K_uI, N_uI, R_uI, Z_uI, U_uI, E_uI, M_uI, K_uR, N_uR, I_uR, Z_uR, U_uR, E_uR, M_uR, w_I1, w_I2, w_R2]
    rw [List.length_append, List.length_singleton] at hi
    by_cases c : i = xs.length
    · subst c
      rw [w_R1, gd_2]
    · rw [w_R3 c, gd_1 (by omega)]
      exact a11 i (by omega)
  · intro y hy
    rcases List.mem_append.mp hy with z | z
    · exact a12 y z
    · rw [List.mem_singleton.mp z]; exact hx
  · intro l1 l2 k1 k2
    have n1 : l1 ≠ aR g l 1 := fun z => by have k1' : aK g l1 = 1 := k1; rw [z] at k1'; omega
    have n2 : l2 ≠ aR g l 1 := fun z => by have k2' : aK g l2 = 1 := k2; rw [z] at k2'; omega
    simp (disch := omega) only [K_uI, N_uI, R_uI, Z_uI, U_uI, E_uI, M_uI, K_uR, N_uR, I_uR, Z_uR, U_uR, E_uR, M_uR, w_I1, w_I2, w_R2]
    exact hw.2.2.1 l1 l2 k1 k2
  · intro l1 k1
    have n1 : l1 ≠ aR g l 1 := fun z => by have k1' : aK g l1 = 1 := k1; rw [z] at k1'; omega
    simp (disch := omega) only [K_uI, N_uI, R_uI, Z_uI, U_uI, E_uI, M_uI, K_uR, N_uR, I_uR, Z_uR, U_uR, E_uR, M_uR, w_I1, w_I2, w_R2]
    exact hw.2.2.2.1 l1 k1
  · simp (disch := omega) only [K_uI, N_uI, R_uI, Z_uI, U_uI, E_uI, M_uI, K_uR, N_uR, I_uR, Z_uR, U_uR, E_uR, M_uR, w_I1, w_I2, w_R2]

