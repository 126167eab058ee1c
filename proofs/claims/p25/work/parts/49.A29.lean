
abbrev fOk (S : Cs) (z : Int) : Prop := 0 ≤ z ∧ z < (cF S).length
def fmD (x : Option Fm) : Fm := x.getD (0, 0, [], 0)
def fsM (S : Cs) (z : Int) : Out := if ¬ fOk S z then (.error 1, S) else (.ok (fS (fmD (cF S)[z.toNat]?)), S)
/-- how many of a format's changes are spared now -/
def spN (S : Cs) (F : Fm) : Nat := qcn (sprA (cX S (fT F)) (fC F)) (fC F).length
def spM (S : Cs) (z : Int) : Out :=
  if ¬ fOk S z then (.error 1, S)
  else (.ok (if fS (fmD (cF S)[z.toNat]?) = 0 then (spN S (fmD (cF S)[z.toNat]?) : Int) else fW (fmD (cF S)[z.toNat]?)), S)
def drM (S : Cs) (z : Int) : Out :=
  if ¬ fOk S z then (.error 1, S)
  else if fS (fmD (cF S)[z.toNat]?) = 0 then (.ok (fC (fmD (cF S)[z.toNat]?)).length, (cX S, cH S, (cF S).set z.toNat (fT (fmD (cF S)[z.toNat]?), 2, fC (fmD (cF S)[z.toNat]?), (fC (fmD (cF S)[z.toNat]?)).length), cQ S, cN S))
  else (.error 3, S)
theorem f_state {h : AH} {c : Nat} {S : Cs} (hC : CkR h c S) (hr : Rdy h S) {z : Int} (z1 : -2147483648 ≤ z) (z2 : z < 2147483648) : Okp (p_X10_state c (iI z) h) (Ans c h (fsM S z)) := by
  obtain ⟨r1, r2, r3, r4⟩ := hr
  obtain ⟨k0, k1, -⟩ := ck_c0 hC
  obtain ⟨fs, qs, f1, f2, f3, f4, f5, f6, f7⟩ := hC.2.2.2.2.2.2.1
  unfold p_X10_state p_X10_state_0 fsM
  simp only [k0, k1, ne_eq, not_false_eq_true, ck_t]
  by_cases hz : fOk S z
  · rw [bX_ok (f_formatAt hC f1 f2 hz.1 hz.2), if_neg (show ¬ ¬ fOk S z from fun w => w hz)]
    have hlt : z.toNat < (cF S).length := by have := hz.1; have := hz.2; omega
    have hF := f2.2 z.toNat _ (List.getElem?_eq_getElem hlt)
    rw [List.getElem?_eq_getElem hlt, ck_p hF.2.2.1, hF.2.2.2.2.1]
    exact ok_some (ans_ok hC (cst_mono cst_rf (by decide) (by decide)))
  · rw [bX_er (f_formatAt_no hC f1 f2 z1 z2 hz (by omega) (by omega)), if_pos hz]
    exact ok_some (ans_ex hC cst_rf (by decide) (by decide))
theorem f_spared {h : AH} {c : Nat} {S : Cs} (hC : CkR h c S) (hr : Rdy h S) {z : Int} (z1 : -2147483648 ≤ z) (z2 : z < 2147483648) : Okp (p_X10_spared c (iI z) h) (Ans c h (spM S z)) := by
  obtain ⟨r1, r2, r3, r4⟩ := hr
  obtain ⟨k0, k1, k2, k3, k4, k5, k6, k7⟩ := ck_c0 hC
  obtain ⟨fs, qs, f1, f2, f3, f4, f5, f6, f7⟩ := hC.2.2.2.2.2.2.1
  unfold p_X10_spared p_X10_spared_0 p_X10_spared_28 spM
  simp only [k0, k1, ne_eq, not_false_eq_true, ck_t]
  by_cases hz : fOk S z
  · rw [bX_ok (f_formatAt hC f1 f2 hz.1 hz.2), if_neg (show ¬ ¬ fOk S z from fun w => w hz)]
    have hlt : z.toNat < (cF S).length := by have := hz.1; have := hz.2; omega
    have hF := f2.2 z.toNat _ (List.getElem?_eq_getElem hlt)
    have hm : (cF S)[z.toNat] ∈ cF S := List.getElem_mem hlt
    have hP := hC.2.2.2.2.2.2.2.2.2.2.2 _ hm
    rw [List.getElem?_eq_getElem hlt]
    show Okp _ (Ans c h (.ok (if fS (cF S)[z.toNat] = 0 then (spN S (cF S)[z.toNat] : Int) else fW (cF S)[z.toNat]), S))
    generalize (cF S)[z.toNat] = F at hF hm hP
    generalize fs.getD z.toNat 0 = f at hF
    have k5' := hF.2.2.1
    have v2 := hF.2.2.2.2.1
    have v3 := hF.2.2.2.2.2.1
    obtain ⟨p1, p2, p3, p4, p5, p6⟩ := hP
    rw [ck_p k5']
    simp only [j_0, v2, v3, j_eq (show (-2147483648 : Int) ≤ fS F by omega) (show fS F < 2147483648 by omega) (show (-2147483648 : Int) ≤ 0 by decide) (show (0 : Int) < 2147483648 by decide)]
    by_cases c0 : fS F = 0
    · rw [if_pos c0, if_pos c0, ck_p k1, ck_p k5']
      simp only [k7]
      obtain ⟨xs, l1, l2, l3⟩ := hF.2.2.2.2.2.2.2.2
      have hT := hC.2.2.2.2.1 _ p1
      have et : tcc c (fT F) = c + 13 + 12 * fT F := rfl
      refine ok_bR (f_X3_judge (nb := c + 9) (tc := tcc c) (by omega) rfl p6 l3 hT hF l1 l2 hC.2.2.2.1) ?_
      rintro r h1 ⟨e, jd, -⟩
      subst e
      have pj : Pi (fun q => (c + 5 ≤ q ∧ q ≤ c + 12) ∨ aK h q = 3) h h1 := pi_mono jd.1 fun q z => by omega
      have hC1 := ck_pi hC pj jd.2
      have s1 : Cst c h 0 0 h1 := ⟨pr_mono (pi_pr pj) fun q _ z => by unfold cS; omega, by rw [pj.2.2.2.2.1]; omega, by rw [pj.2.2.2.2.2.1]; omega⟩
      exact ok_some (ans_ok hC1 (cst_mono s1 (by decide) (by decide)))
    · rw [if_neg c0, if_neg c0, ck_p k5']
      exact ok_some (ans_ok hC (cst_mono cst_rf (by decide) (by decide)))
  · rw [bX_er (f_formatAt_no hC f1 f2 z1 z2 hz (by omega) (by omega)), if_pos hz]
    exact ok_some (ans_ex hC cst_rf (by decide) (by decide))
theorem f_drop {h : AH} {c : Nat} {S : Cs} (hC : CkR h c S) (hr : Rdy h S) {z : Int} (z1 : -2147483648 ≤ z) (z2 : z < 2147483648) : Okp (p_X10_drop c (iI z) h) (Ans c h (drM S z)) := by
  obtain ⟨r1, r2, r3, r4⟩ := hr
  obtain ⟨k0, k1, k2, k3, k4, k5, k6, k7⟩ := ck_c0 hC
  obtain ⟨fs, qs, f1, f2, f3, f4, f5, f6, f7⟩ := hC.2.2.2.2.2.2.1
  unfold p_X10_drop p_X10_drop_0 p_X10_waitingFormatAt p_X10_waitingFormatAt_0 drM
  simp only [k0, k1, ne_eq, not_false_eq_true, ck_t]
  by_cases hz : fOk S z
  · rw [bX_ok (f_formatAt hC f1 f2 hz.1 hz.2), if_neg (show ¬ ¬ fOk S z from fun w => w hz)]
    have hlt : z.toNat < (cF S).length := by have := hz.1; have := hz.2; omega
    have hlt2 : z.toNat < fs.length := by rw [f2.1]; exact hlt
    have hF := f2.2 z.toNat _ (List.getElem?_eq_getElem hlt)
    have hm : (cF S)[z.toNat] ∈ cF S := List.getElem_mem hlt
    have hP := hC.2.2.2.2.2.2.2.2.2.2.2 _ hm
    have hgF : (cF S)[z.toNat]? = some (cF S)[z.toNat] := List.getElem?_eq_getElem hlt
    rw [hgF]
    show Okp _ (Ans c h (if fS (cF S)[z.toNat] = 0 then (.ok (fC (cF S)[z.toNat]).length, (cX S, cH S, (cF S).set z.toNat (fT (cF S)[z.toNat], 2, fC (cF S)[z.toNat], (fC (cF S)[z.toNat]).length), cQ S, cN S)) else (.error 3, S)))
    obtain ⟨F, eF⟩ : ∃ F, F = (cF S)[z.toNat] := ⟨_, rfl⟩
    rw [← eF] at hF hm hP hgF ⊢
    obtain ⟨f, ef⟩ : ∃ f, f = fs.getD z.toNat 0 := ⟨_, rfl⟩
    rw [← ef] at hF ⊢
    have k5' := hF.2.2.1
    have v2 := hF.2.2.2.2.1
    have f0 := eq_false hF.1
    obtain ⟨p1, p2, p3, p4, p5, p6⟩ := hP
    obtain ⟨xs, l1, l2, l3⟩ := hF.2.2.2.2.2.2.2.2
    have hlen := hF.2.2.2.2.2.2.1
    have e1 := f_size l1
    have kl := l1.2.1
    have hxl := l2.1
    rw [ck_p k5']
    simp only [j_0, v2, j_eq (show (-2147483648 : Int) ≤ fS F by omega) (show fS F < 2147483648 by omega) (show (-2147483648 : Int) ≤ 0 by decide) (show (0 : Int) < 2147483648 by decide)]
    by_cases c0 : fS F = 0
    · rw [if_pos c0, if_pos c0, bX_ok rfl, ck_p k5', ck_p kl, bR_e e1, ck_p k5']
      unfold p_X3_end p_X3_end_0
      simp (disch := omega) only [ck_t, nm_q, bR_s, j_add, j_sub, j_mul, j_nI, j_0, j_le, j_lt, j_eq, j_nat, j_ixe, bI_0, and_self, and_true, true_and, ne_eq, not_false_eq_true, not_true_eq_false, ite_true, ite_false, if_true, if_false, ck_p z_0, ck_p z_1, K_uI, R_uI, f0, k5', kl, j_0]
      have pp : Pi (fun q => q = f) h (uI (uI h f 2 (iI 2)) f 3 (iI xs.length)) := pi_tr (pi_uI rfl) (pi_uI rfl)
      have hC1 := ck_fm (st := 2) (w := (fC F).length) hC f1 f2 f3 f4 f5 f6 f7 hlt2 ef.symm hgF pp (by rw [w_I3 (by decide), w_I1]) (by rw [w_I1, hxl]) (by decide) (by decide) (by omega) (by omega)
      have s1 : Cst c h 0 0 (uI (uI h f 2 (iI 2)) f 3 (iI xs.length)) := ⟨pr_mono (pi_pr pp) fun q _ z => by unfold cS; rw [z]; omega, by rw [pp.2.2.2.2.1]; omega, by rw [pp.2.2.2.2.2.1]; omega⟩
      have l1' : LsR (uI (uI h f 2 (iI 2)) f 3 (iI xs.length)) (aR h f 1) xs := ls_pr l1 (pi_pr pp) (fun z => by rw [z] at kl; omega) (fun z => by have := l1.2.2.2.2.1; rw [z] at this; omega)
      rw [bR_e (f_size l1'), hxl]
      rw [hxl] at hC1 s1
      exact ok_some (ans_ok hC1 (cst_mono s1 (by decide) (by decide)))
    · rw [if_neg c0, if_neg c0, ck_p ⟨by omega, by omega⟩, bX_er rfl]
      exact ok_some (ans_ex hC cst_rf (by decide) (by decide))
  · rw [bX_er (f_formatAt_no hC f1 f2 z1 z2 hz (by omega) (by omega)), if_pos hz, bX_er rfl]
    exact ok_some (ans_ex hC cst_rf (by decide) (by decide))

