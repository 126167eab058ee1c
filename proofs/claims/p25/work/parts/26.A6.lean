
/-! ===== lists: taking out, and a new one ===== -/
theorem gd_e {xs : List Nat} {i j : Nat} : (xs.eraseIdx i).getD j 0 = if j < i then xs.getD j 0 else xs.getD (j + 1) 0 := by
  rw [List.getD_eq_getElem?_getD, List.getElem?_eraseIdx, List.getD_eq_getElem?_getD, List.getD_eq_getElem?_getD]
  split <;> rfl
theorem f_listInit {h : AH} {l : Nat} (h1 : l ≠ 0) (h2 : aK h l = 1) : p_Jx4a65c_init_da8c8 l h = some ((), uR (uI h l 0 (iI 0)) l 1 (aE h)) := by
  have a1 := eq_false h1
  unfold p_Jx4a65c_init_da8c8 p_Jx4a65c_init_da8c8_0 p_Jxc12de_init_da8c8 p_Jxc12de_init_da8c8_0 p_Jxa1e45_init_da8c8 p_Jxa1e45_init_da8c8_0
  simp (disch := omega) only [ck_t, nm_q, bR_s, j_add, j_sub, j_mul, j_nI, j_0, j_le, j_lt, j_eq, j_nat, j_ixe, bI_0, and_self, and_true, true_and, ne_eq, not_false_eq_true, not_true_eq_false, ite_true, ite_false, if_true, if_false, ck_p z_0, ck_p z_1, a1, h2, K_uI, E_uI]
  rw [ck_p (by decide), ck_p (by decide)]
  simp only [bR_s, K_uI, h2, ck_t, E_uI]
theorem f_remove {h : AH} {l i : Nat} {xs : List Nat} (hl : LsR h l xs) (hw : Wf h) (hi : i < xs.length) : Okp (p_Jx4a65c_remove_915e3 l (iI i) h) (fun r h' => r = xs.getD i 0 ∧ LsR h' l (xs.eraseIdx i) ∧ Wf h' ∧ Prs (lS h l) h h' ∧ aZ h' = aZ h ∧ aU h' = aU h ∧ aR h' l 1 = aR h l 1 ∧ aN h' = aN h) := by
  obtain ⟨a1, a2, a3, a4, a5, a6, a7, a8, a9, a10, a11, a12⟩ := hl
  have hcl : aR h l 1 ≠ l := fun z => by rw [z] at a5; omega
  have hce : aR h l 1 ≠ aE h := by
    rcases a10 with z | z
    · omega
    · exact z.1
  have hcn : 0 < aN h (aR h l 1) := by omega
  unfold p_Jx4a65c_remove_915e3 p_Jx4a65c_remove_915e3_0 p_J15_checkIndex_7cf53 p_J15_checkIndex_7cf53_0 p_J3_checkIndex_8e157 p_J3_checkIndex_8e157_0
  simp (disch := omega) only [ck_t, nm_q, bR_s, j_add, j_sub, j_mul, j_nI, j_0, j_le, j_lt, j_eq, j_nat, j_ixe, bI_0, and_self, and_true, true_and, ne_eq, not_false_eq_true, not_true_eq_false, ite_true, ite_false, if_true, if_false, ck_p z_0, ck_p z_1, a1, a2, a4]
  rw [if_neg (by omega), if_pos (by omega)]
  simp (disch := omega) only [ck_t, nm_q, bR_s, j_add, j_sub, j_mul, j_nI, j_0, j_le, j_lt, j_eq, j_nat, j_ixe, bI_0, and_self, and_true, true_and, ne_eq, not_false_eq_true, not_true_eq_false, ite_true, ite_false, if_true, if_false, ck_p z_0, ck_p z_1, a1, a2, a4, a5, Int.toNat_natCast]
  rw [ck_p (by omega), a11 i hi]
  have fin : ∀ g : AH, aK g = aK h → aN g = aN h → (∀ q, q ≠ l → aI g q = aI h q) → (∀ j, j ≠ 0 → aI g l j = aI h l j) → (∀ q, q ≠ aR h l 1 → aR g q = aR h q) → aL g = aL h → aZ g = aZ h → aU g = aU h → aE g = aE h → aC g = aC h → aM g = aM h → (∀ j, j + 1 < xs.length → aR g (aR h l 1) j = (xs.eraseIdx i).getD j 0) →
      Okp (p_Jx4a65c_fastRemove_b59b0_34 l (aR h l 1) (iI ((xs.length : Int) - 1)) g) (fun _ h' => LsR h' l (xs.eraseIdx i) ∧ Wf h' ∧ Prs (lS h l) h h' ∧ aZ h' = aZ h ∧ aU h' = aU h ∧ aR h' l 1 = aR h l 1 ∧ aN h' = aN h) := by
    intro g gK gN gI gI2 gR gL gZ gU gE gC gM gX
    have rl : aR g l = aR h l := gR l (fun z => hcl z.symm)
    have kc : aK g (aR h l 1) = 26 := by rw [gK]; exact a5
    have nc : aN g (aR h l 1) = aN h (aR h l 1) := by rw [gN]
    have kl : aK g l = 1 := by rw [gK]; exact a2
    unfold p_Jx4a65c_fastRemove_b59b0_34
    simp (disch := omega) only [ck_t, nm_q, bR_s, j_add, j_sub, j_mul, j_nI, j_0, j_le, j_lt, j_eq, j_nat, j_ixe, bI_0, and_self, and_true, true_and, ne_eq, not_false_eq_true, not_true_eq_false, ite_true, ite_false, if_true, if_false, ck_p z_0, ck_p z_1, K_uI, N_uI, kl, kc, nc]
    rw [ck_p (by omega), show ((xs.length : Int) - 1).toNat = xs.length - 1 by omega]
    have hel : (xs.eraseIdx i).length = xs.length - 1 := by rw [List.length_eraseIdx_of_lt hi]
    have rc : ∀ q, q ≠ aR h l 1 → aR (uR (uI g l 2 (iI ((xs.length : Int) - 1))) (aR h l 1) (xs.length - 1) 0) q = aR h q := by
      intro q hq
      rw [← gR q hq]
      funext j
      exact w_R2 hq
    have rl2 := rc l (fun z => hcl z.symm)
    refine ok_some ⟨⟨a1, kl, by show l < aZ g; omega, ?_, ?_, ?_, ?_, ?_, ?_, ?_, ?_, ?_⟩, ⟨?_, ?_, ?_, ?_, ?_⟩, ⟨?_, gE, gC, gM, fun q _ => ⟨by show aK g q = _; rw [gK], by show aN g q = _; rw [gN]⟩, fun q hq hs => ⟨?_, ?_, ?_⟩⟩, gZ, gU, by rw [rl2], gN⟩
    · rw [hel]
      show aI (uI g l 2 _) l 2 = _
      rw [w_I1]; congr 1; omega
    · rw [rl2]; exact kc
    · rw [rl2]; exact a6
    · rw [rl2]; show _ < aZ g; omega
    · rw [rl2, hel]; show _ ≤ aN g (aR h l 1); omega
    · rw [rl2]; show aN g (aR h l 1) ≤ _; omega
    · rw [rl2]; show (_ = aE g ∧ aN g (aR h l 1) = 0) ∨ (_ ≠ aE g ∧ 10 ≤ aN g (aR h l 1)); rw [gE, nc]; exact a10
    · intro j hj
      rw [hel] at hj
      rw [rl2, w_R3 (by omega)]
      exact gX j (by omega)
    · intro x hx
      have := a12 x (List.mem_of_mem_eraseIdx hx)
      show x ≠ 0 ∧ x < aZ g ∧ 1 ≤ aK g x ∧ aK g x ≤ 12
      rw [gZ, gK]; exact this
    · show aE g ≠ 0 ∧ aE g < aZ g ∧ aK g (aE g) = 26 ∧ aN g (aE g) = 0
      rw [gE, gZ, gK, gN]; exact hw.1
    · show ∀ q, aZ g ≤ q → aK g q = 0
      rw [gZ, gK]; exact hw.2.1
    · intro l1 l2 e1 e2
      have f1 : aK h l1 = 1 := by rw [← gK]; exact e1
      have f2 : aK h l2 = 1 := by rw [← gK]; exact e2
      rw [rc l1 (fun z => by rw [z] at f1; omega), rc l2 (fun z => by rw [z] at f2; omega)]
      show _ → _ ∨ _ = aE g
      rw [gE]
      exact hw.2.2.1 l1 l2 f1 f2
    · intro l1 e1
      have f1 : aK h l1 = 1 := by rw [← gK]; exact e1
      rw [rc l1 (fun z => by rw [z] at f1; omega)]
      show _ < aZ g
      rw [gZ]
      exact hw.2.2.2.1 l1 f1
    · show aM g ≠ 0
      rw [gM]; exact hw.2.2.2.2
    · show aZ h ≤ aZ g
      omega
    · have hql : q ≠ l := fun z => hs (Or.inl z)
      rw [← gI q hql]
      funext j
      exact w_I2 hql
    · exact rc q (fun z => hs (Or.inr ⟨z, by rw [z]; exact hce⟩))
    · show aL g q = _
      rw [gL]
  unfold p_Jx4a65c_fastRemove_b59b0 p_Jx4a65c_fastRemove_b59b0_0
  simp (disch := omega) only [ck_t, nm_q, bR_s, j_add, j_sub, j_mul, j_nI, j_0, j_le, j_lt, j_eq, j_nat, j_ixe, bI_0, and_self, and_true, true_and, ne_eq, not_false_eq_true, not_true_eq_false, ite_true, ite_false, if_true, if_false, ck_p z_0, ck_p z_1, K_uI, a1, a2, a6]
  rw [w_I3 (show (2 : Nat) ≠ 0 by decide), a4]
  simp (disch := omega) only [ck_t, nm_q, bR_s, j_add, j_sub, j_mul, j_nI, j_0, j_le, j_lt, j_eq, j_nat, j_ixe, bI_0, and_self, and_true, true_and, ne_eq, not_false_eq_true, not_true_eq_false, ite_true, ite_false, if_true, if_false, ck_p z_0, ck_p z_1]
  by_cases c : (xs.length : Int) - 1 ≤ i
  · rw [if_pos c]
    refine ok_bR (fin (uI h l 0 (aI h l 0 + iI 1)) rfl rfl (fun q hq => funext fun j => w_I2 hq) (fun j hj => w_I3 hj) (fun _ _ => rfl) rfl rfl rfl rfl rfl rfl (fun j hj => ?_)) (fun r h1 hr => ok_some ⟨rfl, hr⟩)
    rw [gd_e, if_pos (by omega)]
    exact a11 j (by omega)
  · rw [if_neg c]
    rw [show ((i : Int) + 1).toNat = i + 1 by omega, show ((xs.length : Int) - 1 - i).toNat = xs.length - 1 - i by omega, Int.toNat_natCast]
    rw [ck_p ⟨by omega, ⟨a5, a5⟩, ⟨hcn, hcn⟩, by show _ ≤ aN h (aR h l 1); omega, by show _ ≤ aN h (aR h l 1); omega⟩]
    have hel : okEl (uI h l 0 (aI h l 0 + iI 1)) (aR h l 1) (i + 1) (xs.length - 1 - i) := by
      intro j hj
      show aR h _ _ = 0 ∨ 1 ≤ aK h (aR h _ _) ∧ aK h (aR h _ _) ≤ 12
      rw [a11 _ (by omega)]
      exact Or.inr (a12 _ (gd_mem (by omega))).2.2
    rw [ck_p hel]
    refine ok_bR (fin (uCR (uI h l 0 (aI h l 0 + iI 1)) (aR h l 1) (i + 1) (aR h l 1) i (xs.length - 1 - i)) rfl rfl (fun q hq => funext fun j => w_I2 hq) (fun j hj => w_I3 hj) (fun q hq => funext fun j => if_neg fun z => hq z.1) rfl rfl rfl rfl rfl rfl (fun j hj => ?_)) (fun r h1 hr => ok_some ⟨rfl, hr⟩)
    show (if aR h l 1 = aR h l 1 ∧ i ≤ j ∧ j < i + (xs.length - 1 - i) then aR h (aR h l 1) (i + 1 + (j - i)) else aR h (aR h l 1) j) = _
    rw [gd_e]
    by_cases d : j < i
    · rw [if_pos d, if_neg (by omega)]
      exact a11 j (by omega)
    · rw [if_neg d, if_pos ⟨rfl, by omega, by omega⟩, show i + 1 + (j - i) = j + 1 by omega]
      exact a11 (j + 1) (by omega)

