
/-- a text behind a format's coming -/
def coT (S : Cs) (F : Fm) : Tx := if qcn (sprA (cX S (fT F)) (fC F)) (fC F).length < (fC F).length then xver (cmT (cX S (fT F)) (fC F) (sprA (cX S (fT F)) (fC F)) (fC F).length) else cmT (cX S (fT F)) (fC F) (sprA (cX S (fT F)) (fC F)) (fC F).length
def coM (S : Cs) (z : Int) : Out :=
  if ¬ fOk S z then (.error 1, S)
  else if fS (fmD (cF S)[z.toNat]?) = 0 then (.ok ((fC (fmD (cF S)[z.toNat]?)).length - (spN S (fmD (cF S)[z.toNat]?) : Int)), (cset (cX S) (fT (fmD (cF S)[z.toNat]?)) (coT S (fmD (cF S)[z.toNat]?)), cH S, (cF S).set z.toNat (fT (fmD (cF S)[z.toNat]?), 1, fC (fmD (cF S)[z.toNat]?), (spN S (fmD (cF S)[z.toNat]?) : Int)), cQ S, cN S))
  else (.error 3, S)
/-- what a format's coming lets be done stays within the deeds that a text may have -/
def CoP (S : Cs) : Prop := ∀ F ∈ cF S, (xD (cX S (fT F))).length + ((fC F).length - spN S F) ≤ 1174
theorem coT_n (S : Cs) (F : Fm) : rn (xR (coT S F)) = rn (xR (cX S (fT F))) := by
  unfold coT
  split
  · exact (cmT_n _ _ _ _).1
  · exact (cmT_n _ _ _ _).1
theorem ls_tS {h h' : AH} {t i l : Nat} {T : Tx} {ys : List Nat} (hl : LsR h l ys) (hT : TxR h t i T) (hw : Wf h) (p : Prs (tS h t) h h') (hne : l < t ∨ t + 11 < l) : LsR h' l ys := by
  obtain ⟨ds, l1, l2⟩ := hT.2.2.2.1
  refine ls_pr hl p ?_ ?_
  · rintro (z | z | z)
    · omega
    · omega
    · have := l1.2.2.2.2.1; have := hl.2.1
      rw [← z.1] at *; omega
  · have k26 := hl.2.2.2.2.1
    rintro (z | z | z)
    · have := tx_kinds hT _ z.1 z.2; omega
    · have := tx_kinds hT (t + 10) (by omega) (by omega)
      rw [z] at k26; omega
    · rcases hw.2.2.1 l (t + 10) hl.2.1 l1.2.1 z.1 with w | w
      · omega
      · exact z.2 w
theorem ls_un {h : AH} {l : Nat} {xs ys : List Nat} (x : LsR h l xs) (y : LsR h l ys) : xs = ys := by
  have h1 := x.2.2.2.2.2.2.2.1
  have h2 := x.2.2.2.2.2.2.2.2.1
  have h3 := y.2.2.2.2.2.2.2.1
  have e : (iI xs.length) = iI ys.length := x.2.2.2.1.symm.trans y.2.2.2.1
  rw [j_eq (by omega) (by omega) (by omega) (by omega)] at e
  have e' : xs.length = ys.length := by omega
  refine List.ext_getElem e' fun i hi hj => ?_
  have a := x.2.2.2.2.2.2.2.2.2.2.1 i hi
  have b := y.2.2.2.2.2.2.2.2.2.2.1 i hj
  rw [List.getD_eq_getElem?_getD, List.getElem?_eq_getElem hi] at a
  rw [List.getD_eq_getElem?_getD, List.getElem?_eq_getElem hj] at b
  exact a.symm.trans b
theorem f_come {h : AH} {c : Nat} {S : Cs} (hC : CkR h c S) (hr : Rdy h S) (hCo : CoP S) {z : Int} (z1 : -2147483648 ≤ z) (z2 : z < 2147483648) : Okp (p_X10_come c (iI z) h) (Ans c h (coM S z)) := by
  obtain ⟨r1, r2, r3, r4⟩ := hr
  obtain ⟨k0, k1, k2, k3, k4, k5, k6, k7⟩ := ck_c0 hC
  obtain ⟨fs, qs, f1, f2, f3, f4, f5, f6, f7⟩ := hC.2.2.2.2.2.2.1
  unfold p_X10_come p_X10_come_0 p_X10_waitingFormatAt p_X10_waitingFormatAt_0 coM
  simp only [k0, k1, ne_eq, not_false_eq_true, ck_t]
  by_cases hz : fOk S z
  · rw [bX_ok (f_formatAt hC f1 f2 hz.1 hz.2), if_neg (show ¬ ¬ fOk S z from fun w => w hz)]
    have hlt : z.toNat < (cF S).length := by have := hz.1; have := hz.2; omega
    have hlt2 : z.toNat < fs.length := by rw [f2.1]; exact hlt
    have hF := f2.2 z.toNat _ (List.getElem?_eq_getElem hlt)
    have hm : (cF S)[z.toNat] ∈ cF S := List.getElem_mem hlt
    have hP := hC.2.2.2.2.2.2.2.2.2.2.2 _ hm
    have hgF : (cF S)[z.toNat]? = some (cF S)[z.toNat] := List.getElem?_eq_getElem hlt
    rw [hgF]
    show Okp _ (Ans c h (if fS (cF S)[z.toNat] = 0 then (.ok ((fC (cF S)[z.toNat]).length - (spN S (cF S)[z.toNat] : Int)), (cset (cX S) (fT (cF S)[z.toNat]) (coT S (cF S)[z.toNat]), cH S, (cF S).set z.toNat (fT (cF S)[z.toNat], 1, fC (cF S)[z.toNat], (spN S (cF S)[z.toNat] : Int)), cQ S, cN S)) else (.error 3, S)))
    obtain ⟨F, eF⟩ : ∃ F, F = (cF S)[z.toNat] := ⟨_, rfl⟩
    rw [← eF] at hF hm hP hgF ⊢
    obtain ⟨f, ef⟩ : ∃ f, f = fs.getD z.toNat 0 := ⟨_, rfl⟩
    rw [← ef] at hF ⊢
    have hdyn := f3 f (by rw [ef]; exact gd_mem hlt2)
    have k5' := hF.2.2.1
    have v2 := hF.2.2.2.2.1
    have f0 := eq_false hF.1
    obtain ⟨p1, p2, p3, p4, p5, p6⟩ := hP
    have hlen := hF.2.2.2.2.2.2.1
    rw [ck_p k5']
    simp only [j_0, v2, j_eq (show (-2147483648 : Int) ≤ fS F by omega) (show fS F < 2147483648 by omega) (show (-2147483648 : Int) ≤ 0 by decide) (show (0 : Int) < 2147483648 by decide)]
    by_cases c0 : fS F = 0
    · rw [if_pos c0, if_pos c0, bX_ok rfl, ck_p k1, ck_p k5']
      simp only [k7]
      obtain ⟨xs, l1, l2, l3⟩ := hF.2.2.2.2.2.2.2.2
      have hT := hC.2.2.2.2.1 _ p1
      have et : tcc c (fT F) = c + 13 + 12 * fT F := rfl
      refine ok_bR (f_X3_judge (nb := c + 9) (tc := tcc c) (by omega) rfl p6 l3 hT hF l1 l2 hC.2.2.2.1) ?_
      rintro r h1 ⟨e, jd, js⟩
      subst e
      have pj : Pi (fun q => (c + 5 ≤ q ∧ q ≤ c + 12) ∨ aK h q = 3) h h1 := pi_mono jd.1 fun q z => by omega
      have hC1 := ck_pi hC pj jd.2
      have s1 : Cst c h 0 0 h1 := ⟨pr_mono (pi_pr pj) fun q _ z => by unfold cS; omega, by rw [pj.2.2.2.2.1]; omega, by rw [pj.2.2.2.2.2.1]; omega⟩
      have kz : ∀ q, ((c + 5 ≤ q ∧ q ≤ c + 12) ∨ aK h q = 3) → aK h q ≠ 5 ∧ aK h q ≠ 1 ∨ aK h q = 3 := by
        intro q z
        rcases z with z | z
        · obtain ⟨-, n0, -, -, -, n1, -, n2, -, n3, -, -⟩ := hC.2.2.2.1
          obtain ⟨-, q0, -, -, -, q1, -, q2, -, q3, -, -⟩ := hC.2.2.1
          rcases (show q = c + 5 ∨ q = c + 5 + 1 ∨ q = c + 5 + 2 ∨ q = c + 5 + 3 ∨ q = c + 9 ∨ q = c + 9 + 1 ∨ q = c + 9 + 2 ∨ q = c + 9 + 3 by omega) with e | e | e | e | e | e | e | e <;> rw [e] <;> omega
        · omega
      have hz1 : aZ h1 = aZ h := pj.2.2.2.2.1
      have hu1 : aU h1 = aU h := pj.2.2.2.2.2.1
      have hc1 : aC h1 = aC h := pj.2.2.2.2.2.2.2.1
      have hT1 := hC1.2.2.2.2.1 _ p1
      have kl := l1.2.1
      have k26 := l1.2.2.2.2.1
      have hzz : c + 62 < aZ h := hC.1.2.2.2.2.2.2.2.2.2.2.2.2.2.2
      have eR1 : aR h1 = aR h := pj.2.2.1
      have l1' : LsR h1 (aR h1 f 1) xs := by
        rw [eR1]
        refine ls_pr l1 (pi_pr pj) (fun z => by have := kz _ z; omega) (fun z => ?_)
        rcases z with z | z
        · have := ck_kinds hC (aR h (aR h f 1) 1) (by omega) (by omega); omega
        · omega
      have l2' : Al (ChR h1) xs (fC F) := al_mono l2 fun y k _ z => jd_ch jd z
      have hF1 : FmR (tcc c) h1 f F := by
        have nf : ¬ ((c + 5 ≤ f ∧ f ≤ c + 12) ∨ aK h f = 3) := fun z => by have := kz f z; omega
        obtain ⟨a1, a2, a3, a4, a5, a6, a7, a8, -⟩ := hF
        exact ⟨a1, by rw [hz1]; exact a2, by rw [pj.1]; exact a3, by rw [eR1]; exact a4, by rw [pi_I pj nf]; exact a5, by rw [pi_I pj nf]; exact a6, a7, a8, xs, l1', l2', l3⟩
      have xc := xcap_le hT1
      rw [ck_p hF1.2.2.1]
      refine ok_bR (f_X3_do (sp := sprA (cX S (fT F)) (fC F)) (tc := tcc c) rfl p6 (hCo F hm) hT1 hC1.2.1 hF1 (by rw [eR1]; omega) l1' l2' js (by omega) (by omega)) ?_
      intro _ h2 st
      have st' : Tst h1 (tcc c (fT F)) (fT F) 300 450 (coT S F) h2 := st
      have hC2 := ck_tx hC1 p1 st' (by rw [coT_n]; exact Nat.le_refl _)
      have s2 := cst_tx hT1 p1 st'
      obtain ⟨gs, ps, g1, g2, g3, g4, g5, g6, g7⟩ := hC2.2.2.2.2.2.2.1
      have L1 : LsR h1 (c + 3) fs := by
        have k3' := f1.2.1
        have k26' := f1.2.2.2.2.1
        refine ls_pr f1 (pi_pr pj) (fun z => by omega) (fun z => ?_)
        rcases z with z | z
        · have := ck_kinds hC (aR h (c + 3) 1) (by omega) (by omega); omega
        · omega
      have L2 := ls_tS L1 hT1 hC1.2.1 st'.2.2.1 (by omega)
      have eg := ls_un g1 L2
      subst eg
      have g2' : Al (FmR (tcc c) h2) gs (cF S) := g2
      have hF2 := g2'.2 z.toNat F hgF
      rw [← ef] at hF2
      obtain ⟨ys, m1, m2, m3⟩ := hF2.2.2.2.2.2.2.2.2
      have k52 := hF2.2.2.1
      have kl2 := m1.2.1
      have hspn : spN S F ≤ (fC F).length := qcn_le _ _
      have hyl := m2.1
      rw [ck_p k52]
      unfold p_X3_end p_X3_end_0
      simp (disch := omega) only [ck_t, nm_q, bR_s, j_add, j_sub, j_mul, j_nI, j_0, j_le, j_lt, j_eq, j_nat, j_ixe, bI_0, and_self, and_true, true_and, ne_eq, not_false_eq_true, not_true_eq_false, ite_true, ite_false, if_true, if_false, ck_p z_0, ck_p z_1, K_uI, R_uI, f0, k52, kl2, j_0]
      have pp : Pi (fun q => q = f) h2 (uI (uI h2 f 2 (iI 1)) f 3 (iI (qcn (sprA (cX S (fT F)) (fC F)) (fC F).length))) := pi_tr (pi_uI rfl) (pi_uI rfl)
      have hC3 := ck_fm (st := 1) (w := (spN S F : Int)) hC2 g1 g2 g3 g4 g5 g6 g7 hlt2 ef.symm hgF pp (by rw [w_I3 (by decide), w_I1]) (by rw [w_I1]; rfl) (by decide) (by decide) (by omega) (by omega)
      have s3 : Cst c h2 0 0 (uI (uI h2 f 2 (iI 1)) f 3 (iI (qcn (sprA (cX S (fT F)) (fC F)) (fC F).length))) := ⟨pr_mono (pi_pr pp) fun q _ z => by unfold cS; rw [z]; omega, by rw [pp.2.2.2.2.1]; omega, by rw [pp.2.2.2.2.2.1]; omega⟩
      have m1' : LsR (uI (uI h2 f 2 (iI 1)) f 3 (iI (qcn (sprA (cX S (fT F)) (fC F)) (fC F).length))) (aR h2 f 1) ys := ls_pr m1 (pi_pr pp) (fun z => by rw [z] at kl2; omega) (fun z => by have := m1.2.2.2.2.1; rw [z] at this; omega)
      rw [bR_e (f_size m1'), hyl, j_sub]
      exact ok_some (ans_ok hC3 (cst_mono (cst_tr (cst_tr s1 s2) s3) (by decide) (by decide)))
    · rw [if_neg c0, if_neg c0, ck_p ⟨by omega, by omega⟩, bX_er rfl]
      exact ok_some (ans_ex hC cst_rf (by decide) (by decide))
  · rw [bX_er (f_formatAt_no hC f1 f2 z1 z2 hz (by omega) (by omega)), if_pos hz, bX_er rfl]
    exact ok_some (ans_ex hC cst_rf (by decide) (by decide))

