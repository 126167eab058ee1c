
/-! ===== the object begins ===== -/
/-- what stands before the texts -/
def Bse (c : Nat) (h : AH) : Prop := aK h c = 12 ∧ aR h c 0 = c + 1 ∧ aR h c 1 = c + 2 ∧ aR h c 2 = c + 3 ∧ aR h c 3 = c + 4 ∧ aR h c 4 = c + 5 ∧ aR h c 5 = c + 9 ∧ aI h c 6 = iI 0 ∧ aK h (c + 1) = 24 ∧ aN h (c + 1) = 3 ∧ aK h (c + 2) = 25 ∧ aN h (c + 2) = 5 ∧ PlK h (c + 5) ∧ NbK h (c + 9) ∧ LsR h (c + 3) [] ∧ aR h (c + 3) 1 = aE h ∧ LsR h (c + 4) [] ∧ aR h (c + 4) 1 = aE h ∧ aE h < c ∧ c + 12 < aZ h
theorem bse_pr {c : Nat} {S : Nat → Prop} {h h' : AH} (hB : Bse c h) (p : Prs S h h') (hs : ∀ q, q < aZ h → S q → q = c + 1 ∨ q = c + 2 ∨ c + 12 < q) : Bse c h' := by
  obtain ⟨b1, b2, b3, b4, b5, b6, b7, b8, b9, b10, b11, b12, b13, b14, b15, b16, b17, b18, b19, b20⟩ := hB
  have n : ∀ q, q < aZ h → q ≠ c + 1 → q ≠ c + 2 → q ≤ c + 12 → ¬ S q := fun q z1 z2 z3 z4 z => by have := hs q z1 z; omega
  have z := p.1
  have pc := pr_R p (q := c) (by omega) (n _ (by omega) (by omega) (by omega) (by omega))
  have p3 := pr_R p (q := c + 3) (by omega) (n _ (by omega) (by omega) (by omega) (by omega))
  have p4 := pr_R p (q := c + 4) (by omega) (n _ (by omega) (by omega) (by omega) (by omega))
  have nE : ¬ S (aE h) := n _ (by omega) (by omega) (by omega) (by omega)
  refine ⟨by rw [pr_K p (by omega)]; exact b1, by rw [pc]; exact b2, by rw [pc]; exact b3, by rw [pc]; exact b4, by rw [pc]; exact b5, by rw [pc]; exact b6, by rw [pc]; exact b7, by rw [pr_I p (by omega) (n _ (by omega) (by omega) (by omega) (by omega))]; exact b8, by rw [pr_K p (by omega)]; exact b9, by rw [pr_N p (by omega)]; exact b10, by rw [pr_K p (by omega)]; exact b11, by rw [pr_N p (by omega)]; exact b12, plK_pr b13 p (n _ (by omega) (by omega) (by omega) (by omega)), nbK_pr b14 p (n _ (by omega) (by omega) (by omega) (by omega)), ls_pr b15 p (n _ (by omega) (by omega) (by omega) (by omega)) (by rw [b16]; exact nE), by rw [p3, p.2.1]; exact b16, ls_pr b17 p (n _ (by omega) (by omega) (by omega) (by omega)) (by rw [b18]; exact nE), by rw [p4, p.2.1]; exact b18, by rw [p.2.1]; exact b19, by omega⟩
def TxB (c i : Nat) (h : AH) : Prop := ∀ j, j < i → TxR h (tcc c j) j T0 ∧ aR h (tcc c j + 10) 1 = aE h ∧ aR h (c + 1) j = tcc c j
theorem txB_pr {c i : Nat} {S : Nat → Prop} {h h' : AH} (hE : aE h < c) (hT : TxB c i h) (p : Prs S h h') (hz : c + 13 + 12 * i ≤ aZ h) (hs : ∀ q, q < aZ h → S q → q = c + 2 ∨ c + 13 + 12 * i ≤ q) (h4 : ∀ q, S q → aK h q ≠ 4) : TxB c i h' := by
  intro j hj
  obtain ⟨t1, t2, t3⟩ := hT j hj
  have et : tcc c j = c + 13 + 12 * j := rfl
  refine ⟨txR_pr t1 p (fun q z1 z2 z => by have := hs q (by omega) z; omega) (fun z => by rw [t2] at z; have := hs _ (by omega) z; omega) h4, ?_, ?_⟩
  · rw [pr_R p (by omega) (fun z => by have := hs _ (by omega) z; omega), p.2.1]; exact t2
  · rw [pr_R p (by omega) (fun z => by have := hs _ (by omega) z; omega)]; exact t3
def HdB (c i : Nat) (h : AH) : Prop := ∀ j, j < i → HdR (tcc c) h (hcc c j) ([], 0) ∧ aR h (hcc c j + 1) 1 = aE h ∧ aR h (c + 2) j = hcc c j
theorem hdB_pr {c i : Nat} {S : Nat → Prop} {h h' : AH} (hE : aE h < c) (hT : HdB c i h) (p : Prs S h h') (hz : c + 49 + 2 * i ≤ aZ h) (hs : ∀ q, q < aZ h → S q → c + 49 + 2 * i ≤ q) (h4 : ∀ q, S q → aK h q ≠ 2) : HdB c i h' := by
  intro j hj
  obtain ⟨t1, t2, t3⟩ := hT j hj
  have et : hcc c j = c + 49 + 2 * j := rfl
  refine ⟨hd_pr t1 p (fun z => by have := hs _ (by omega) z; omega) (fun z => by have := hs _ (by omega) z; omega) (fun z => by rw [t2] at z; have := hs _ (by omega) z; omega) h4, ?_, ?_⟩
  · rw [pr_R p (by omega) (fun z => by have := hs _ (by omega) z; omega), p.2.1]; exact t2
  · rw [pr_R p (by omega) (fun z => by have := hs _ (by omega) z; omega)]; exact t3
theorem new_no {h : AH} (hw : Wf h) {q k : Nat} (hk : k ≠ 0) (hq : aZ h ≤ q) : aK h q ≠ k := by rw [hw.2.1 q hq]; exact fun z => hk z.symm
/-- hands -/
theorem f_X10_init_93 {c : Nat} : ∀ (k i n : Nat) (h : AH), Bse c h → TxB c 3 h → HdB c i h → Wf h → aZ h = c + 49 + 2 * i → aZ h + 2 * k ≤ aC h → aU h + 5 * k ≤ gS → i + k = 5 → k < n → Okp (p_X10_init_93 n c (iI i) h) (fun _ h' => Bse c h' ∧ TxB c 3 h' ∧ HdB c 5 h' ∧ Wf h' ∧ aZ h' = c + 59 ∧ aU h' = aU h + 5 * k ∧ aC h' = aC h) := by
  intro k
  induction k with
  | zero =>
    intro i n h hB hT hH hw hz hc hu hi hn
    obtain ⟨n, rfl⟩ : ∃ m, n = m + 1 := ⟨n - 1, by omega⟩
    unfold p_X10_init_93
    simp (disch := omega) only [ck_t, nm_q, bR_s, j_add, j_sub, j_mul, j_nI, j_0, j_le, j_lt, j_eq, j_nat, j_ixe, bI_0, and_self, and_true, true_and, ne_eq, not_false_eq_true, not_true_eq_false, ite_true, ite_false, if_true, if_false, ck_p z_0, ck_p z_1, K_uI, N_uI, R_uI, L_uI, Z_uI, U_uI, E_uI, C_uI, M_uI, Int.toNat_natCast, if_pos]
    have : i = 5 := by omega
    subst this
    exact ok_some ⟨hB, hT, hH, hw, by omega, by omega, rfl⟩
  | succ k ih =>
    intro i n h hB hT hH hw hz hc hu hi hn
    obtain ⟨n, rfl⟩ : ∃ m, n = m + 1 := ⟨n - 1, by omega⟩
    have b1 := hB.1
    have b3 := hB.2.2.1
    have b25 := hB.2.2.2.2.2.2.2.2.2.2.1
    have b5 := hB.2.2.2.2.2.2.2.2.2.2.2.1
    have bE := hB.2.2.2.2.2.2.2.2.2.2.2.2.2.2.2.2.2.2.1
    have hc' : aZ h ≠ 0 := by omega
    have p0 : Prs (fun q => aZ h ≤ q) h (uN h 6 2) := pr_uN
    unfold p_X10_init_93
    rw [ifc (j_le (by decide) (by decide) (by omega) (by omega)), if_neg (by omega), ck_p b1, ck_p ⟨by omega, by omega⟩, nm_q, ck_p (show ¬ aK (uN h 6 2) (aZ h) = 0 by rw [w_KN1]; decide)]
    have e := f_X4_init (h := uN h 6 2) (v0 := aZ h) (tc := tcc c) hc' rfl (w_KN1 h 6 2) ((w_IN1 h 6 2 1).trans j_0) (wf_uN hw (by decide)) (by show aZ h + 1 + 1 ≤ aC h; omega) (by show aU h + 2 + 3 ≤ gS; omega)
    refine ok_bR e ?_
    rintro _ g ⟨x1, x2, x3, x4, x5, x6⟩
    have zg : aZ g = c + 49 + 2 * (i + 1) := by have : aZ (uN h 6 2) = aZ h + 1 := rfl; omega
    have ug : aU g = aU h + 5 := by have : aU (uN h 6 2) = aU h + 2 := rfl; omega
    have pg : Prs (fun q => aZ h ≤ q) h g := pr_tr p0 (pr_mono x3 fun q _ z => by omega)
    have cg : aC g = aC h := pg.2.2.1
    clear e x3 x4 x5
    rw [b3, ck_p (show aK g (c + 2) = 25 ∧ ix (iI i) (aN g (c + 2)) from ⟨by rw [pr_K pg (by omega)]; exact b25, by rw [pr_N pg (by omega), b5, j_ixe (by omega) (by omega)]; omega⟩), ck_p x1.2.1, nm_q, nm_q, j_nat (by omega) (by omega), Int.toNat_natCast, j_add]
    have p2 : Prs (fun q => q = c + 2) g (uR g (c + 2) i (aZ h)) := pr_uR rfl
    have kc : aK g (c + 2) = 25 := by rw [pr_K pg (by omega)]; exact b25
    have hw2 : Wf (uR g (c + 2) i (aZ h)) := wf_uR x6 (by omega)
    have pa : Prs (fun q => q = c + 2 ∨ aZ h ≤ q) h (uR g (c + 2) i (aZ h)) := pr_tr (pr_mono pg fun q _ z => Or.inr z) (pr_mono p2 fun q _ z => Or.inl z)
    have zi : aZ h = hcc c i := hz
    have r1 : aR (uR g (c + 2) i (aZ h)) (c + 2) i = hcc c i := by rw [w_R1]; exact zi
    have r2 : ∀ j, j ≠ i → aR (uR g (c + 2) i (aZ h)) (c + 2) j = aR h (c + 2) j := fun j hj => by rw [w_R3 hj, pr_R pg (by omega) (by omega)]
    have zg2 : aZ (uR g (c + 2) i (aZ h)) = c + 49 + 2 * (i + 1) := zg
    have ug2 : aU (uR g (c + 2) i (aZ h)) = aU h + 5 := ug
    have cg2 : aC (uR g (c + 2) i (aZ h)) = aC h := cg
    generalize uR g (c + 2) i (aZ h) = g2 at p2 hw2 pa r1 r2 zg2 ug2 cg2 ⊢
    have hB2 := bse_pr hB pa (fun q z1 z => by omega)
    have hT2 := txB_pr bE hT pa (by omega) (fun q z1 z => by omega) (fun q z => by
      rcases z with z | z
      · rw [z]; omega
      · exact new_no hw (by decide) z)
    have hH2 : HdB c (i + 1) g2 := by
      intro j hj
      have et : hcc c j = c + 49 + 2 * j := rfl
      have kd := fun q (z : q = c + 2) => (show aK g q ≠ 2 by rw [z, kc]; decide)
      by_cases d : j = i
      · subst d
        rw [← zi]
        refine ⟨hd_pr x1 p2 (by omega) (by omega) (fun w => by rw [x2, pg.2.1] at w; omega) kd, ?_, ?_⟩
        · rw [pr_R p2 (by omega) (by omega), p2.2.1]; exact x2
        · rw [r1]; exact zi.symm
      · obtain ⟨t1, t2, t3⟩ := hH j (by omega)
        have t1' := hd_pr t1 pg (by omega) (by omega) (fun w => by rw [t2] at w; omega) (fun q z => new_no hw (by decide) z)
        have t2' : aR g (hcc c j + 1) 1 = aE g := by rw [pr_R pg (by omega) (by omega), pg.2.1]; exact t2
        refine ⟨hd_pr t1' p2 (by omega) (by omega) (fun w => by rw [t2', pg.2.1] at w; omega) kd, ?_, ?_⟩
        · rw [pr_R p2 (by omega) (by omega), p2.2.1]; exact t2'
        · rw [r2 j d]; exact t3
    refine ok_to (ih (i + 1) n g2 hB2 hT2 hH2 hw2 zg2 (by omega) (by omega) (by omega) (by omega)) ?_
    rintro _ h' ⟨y1, y2, y3, y4, y5, y6, y7⟩
    exact ⟨y1, y2, y3, y4, y5, by omega, by omega⟩
set_option maxRecDepth 16384 in
theorem f_X10_init_66 {c : Nat} : ∀ (k i n : Nat) (h : AH), Bse c h → TxB c i h → Wf h → aZ h = c + 13 + 12 * i → aZ h + 12 * k + 10 ≤ aC h → aU h + 1076 * k + 25 ≤ gS → i + k = 3 → k < n → Okp (p_X10_init_66 n c (iI i) h) (fun _ h' => Bse c h' ∧ TxB c 3 h' ∧ HdB c 5 h' ∧ Wf h' ∧ aZ h' = c + 59 ∧ aU h' = aU h + 1076 * k + 25 ∧ aC h' = aC h) := by
  intro k
  induction k with
  | zero =>
    intro i n h hB hT hw hz hc hu hi hn
    obtain ⟨n, rfl⟩ : ∃ m, n = m + 1 := ⟨n - 1, by omega⟩
    unfold p_X10_init_66
    simp (disch := omega) only [ck_t, nm_q, bR_s, j_add, j_sub, j_mul, j_nI, j_0, j_le, j_lt, j_eq, j_nat, j_ixe, bI_0, and_self, and_true, true_and, ne_eq, not_false_eq_true, not_true_eq_false, ite_true, ite_false, if_true, if_false, ck_p z_0, ck_p z_1, K_uI, N_uI, R_uI, L_uI, Z_uI, U_uI, E_uI, C_uI, M_uI, Int.toNat_natCast, if_pos]
    have : i = 3 := by omega
    subst this
    refine ok_to (show Okp (p_X10_init_93 FU c (iI ((0 : Nat) : Int)) h) _ from f_X10_init_93 5 0 FU h hB hT (fun j hj => absurd hj (Nat.not_lt_zero _)) hw (by omega) (by omega) (by omega) (by omega) (by unfold FU; omega)) ?_
    rintro _ h' ⟨y1, y2, y3, y4, y5, y6, y7⟩
    exact ⟨y1, y2, y3, y4, y5, by omega, y7⟩
  | succ k ih =>
    intro i n h hB hT hw hz hc hu hi hn
    obtain ⟨n, rfl⟩ : ∃ m, n = m + 1 := ⟨n - 1, by omega⟩
    have b1 := hB.1
    have b2 := hB.2.1
    have b24 := hB.2.2.2.2.2.2.2.2.1
    have b3 := hB.2.2.2.2.2.2.2.2.2.1
    have bE := hB.2.2.2.2.2.2.2.2.2.2.2.2.2.2.2.2.2.2.1
    have hc' : aZ h ≠ 0 := by omega
    have p0 : Prs (fun q => aZ h ≤ q) h (uN h 11 10) := pr_uN
    unfold p_X10_init_66
    rw [ifc (j_le (by decide) (by decide) (by omega) (by omega)), if_neg (by omega), ck_p b1, ck_p ⟨by omega, by omega⟩, nm_q, ck_p (show ¬ aK (uN h 11 10) (aZ h) = 0 by rw [w_KN1]; decide)]
    have u0 : aU (uN h 11 10) = aU h + 10 := rfl
    have z00 : aZ (uN h 11 10) = aZ h + 1 := rfl
    have c00 : aC (uN h 11 10) = aC h := rfl
    have e := f_X9_init (h := uN h 11 10) (t := aZ h) (i := i) hc' rfl (w_KN1 h 11 10) (fun j => w_IN1 h 11 10 j) (wf_uN hw (by decide)) (by omega) (by omega)
    refine ok_bR e ?_
    rintro _ g ⟨x1, x2, x3, x4, x5, x6⟩
    have zg : aZ g = c + 13 + 12 * (i + 1) := by have : aZ (uN h 11 10) = aZ h + 1 := rfl; omega
    have ug : aU g = aU h + 1076 := by have : aU (uN h 11 10) = aU h + 10 := rfl; omega
    have pg : Prs (fun q => aZ h ≤ q) h g := pr_tr p0 (pr_mono x3 fun q _ z => by omega)
    have cg : aC g = aC h := pg.2.2.1
    clear e x3 x4 x5
    rw [b2, ck_p (show aK g (c + 1) = 24 ∧ ix (iI i) (aN g (c + 1)) from ⟨by rw [pr_K pg (by omega)]; exact b24, by rw [pr_N pg (by omega), b3, j_ixe (by omega) (by omega)]; omega⟩), ck_p x1.1.2.1, nm_q, nm_q, j_nat (by omega) (by omega), Int.toNat_natCast, j_add]
    have p2 : Prs (fun q => q = c + 1) g (uR g (c + 1) i (aZ h)) := pr_uR rfl
    have kc : aK g (c + 1) = 24 := by rw [pr_K pg (by omega)]; exact b24
    have hw2 : Wf (uR g (c + 1) i (aZ h)) := wf_uR x6 (by omega)
    have pa : Prs (fun q => q = c + 1 ∨ aZ h ≤ q) h (uR g (c + 1) i (aZ h)) := pr_tr (pr_mono pg fun q _ z => Or.inr z) (pr_mono p2 fun q _ z => Or.inl z)
    have zi : aZ h = tcc c i := hz
    have r1 : aR (uR g (c + 1) i (aZ h)) (c + 1) i = tcc c i := by rw [w_R1]; exact zi
    have r2 : ∀ j, j ≠ i → aR (uR g (c + 1) i (aZ h)) (c + 1) j = aR h (c + 1) j := fun j hj => by rw [w_R3 hj, pr_R pg (by omega) (by omega)]
    have zg2 : aZ (uR g (c + 1) i (aZ h)) = c + 13 + 12 * (i + 1) := zg
    have ug2 : aU (uR g (c + 1) i (aZ h)) = aU h + 1076 := ug
    have cg2 : aC (uR g (c + 1) i (aZ h)) = aC h := cg
    generalize uR g (c + 1) i (aZ h) = g2 at p2 hw2 pa r1 r2 zg2 ug2 cg2 ⊢
    have hB2 := bse_pr hB pa (fun q z1 z => by omega)
    have hT2 : TxB c (i + 1) g2 := by
      intro j hj
      have et : tcc c j = c + 13 + 12 * j := rfl
      have kd := fun q (z : q = c + 1) => (show aK g q ≠ 4 by rw [z, kc]; decide)
      by_cases d : j = i
      · subst d
        rw [← zi]
        refine ⟨txR_pr x1 p2 (fun q w1 w2 => by omega) (fun w => by rw [x2, pg.2.1] at w; omega) kd, ?_, ?_⟩
        · rw [pr_R p2 (by omega) (by omega), p2.2.1]; exact x2
        · rw [r1]; exact zi.symm
      · obtain ⟨t1, t2, t3⟩ := hT j (by omega)
        have t1' := txR_pr t1 pg (fun q w1 w2 => by omega) (fun w => by rw [t2] at w; omega) (fun q z => new_no hw (by decide) z)
        have t2' : aR g (tcc c j + 10) 1 = aE g := by rw [pr_R pg (by omega) (by omega), pg.2.1]; exact t2
        refine ⟨txR_pr t1' p2 (fun q w1 w2 => by omega) (fun w => by rw [t2', pg.2.1] at w; omega) kd, ?_, ?_⟩
        · rw [pr_R p2 (by omega) (by omega), p2.2.1]; exact t2'
        · rw [r2 j d]; exact t3
    refine ok_to (ih (i + 1) n g2 hB2 hT2 hw2 zg2 (by omega) (by omega) (by omega) (by omega)) ?_
    rintro _ h' ⟨y1, y2, y3, y4, y5, y6, y7⟩
    exact ⟨y1, y2, y3, y4, y5, by omega, by omega⟩

