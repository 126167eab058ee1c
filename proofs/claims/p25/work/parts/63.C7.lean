
/-! ===== the object begins ===== -/
def PnS (v0 s : Nat) (h g : AH) : Prop := Nst v0 h g 4 454 ∧ PlK g (aZ h) ∧ aR g v0 s = aZ h ∧ (∀ j, j ≠ s → aR g v0 j = aR h v0 j) ∧ aI g v0 = aI h v0
theorem pn_step {h : AH} {v0 s : Nat} (hv : v0 < aZ h) (hw : Wf h) (h1 : aK h v0 = 12) (hc : aZ h + 4 ≤ aC h) (hu : aU h + 454 ≤ gS) : Okp (p_X6_init (aZ h) (uN h 8 4)) (fun _ h6 => PnS v0 s h (uR h6 v0 s (aZ h)) ∧ aK h6 v0 = 12) := by
  have nv : v0 ≠ aZ h := by omega
  have z1 : aZ (uN h 8 4) = aZ h + 1 := rfl
  have u1 : aU (uN h 8 4) = aU h + 4 := rfl
  have c1 : aC (uN h 8 4) = aC h := rfl
  have hw1 : Wf (uN h 8 4) := wf_uN hw (by decide)
  have hu1 : aU (uN h 8 4) + 450 ≤ gS := by rw [u1]; omega
  have hc1 : aZ (uN h 8 4) + 3 ≤ aC (uN h 8 4) := by rw [z1, c1]; omega
  refine ok_to (f_X6_init (by omega) z1 (w_KN1 h 8 4) hw1 hc1 hu1) ?_
  rintro _ h6 ⟨x1, x2, x3, x4, x5⟩
  have p0 : Prs (fun q => aZ h ≤ q) h (uN h 8 4) := pr_uN
  have p1 : Prs (fun q => aZ h ≤ q) h h6 := pr_tr p0 (pr_mono x2 fun q _ z => by omega)
  have k6 : aK h6 v0 = 12 := by rw [pr_K p1 hv]; exact h1
  have p2 : Prs (fun q => q = v0) h6 (uR h6 v0 s (aZ h)) := pr_uR rfl
  have z6 : aZ h6 = aZ h + 4 := by omega
  have u6 : aU h6 = aU h + 454 := by omega
  refine ⟨⟨⟨pr_tr (pr_mono p1 fun q _ z => Or.inr z) (pr_mono p2 fun q _ z => Or.inl z), z6, u6, wf_uR x5 (by omega)⟩, plK_pr x1 p2 (fun z => by omega), w_R1 _ _ _ _, fun j hj => ?_, ?_⟩, k6⟩
  · rw [w_R3 hj, pr_R p1 hv (by omega)]
  · show aI h6 v0 = _
    rw [pr_I p1 hv (by omega)]
def NnS (v0 s : Nat) (h g : AH) : Prop := Nst v0 h g 4 453 ∧ NbK g (aZ h) ∧ aR g v0 s = aZ h ∧ (∀ j, j ≠ s → aR g v0 j = aR h v0 j) ∧ aI g v0 = aI h v0
theorem nn_step {h : AH} {v0 s : Nat} (hv : v0 < aZ h) (hw : Wf h) (h1 : aK h v0 = 12) (hc : aZ h + 4 ≤ aC h) (hu : aU h + 453 ≤ gS) : Okp (p_X5_init (aZ h) (uN h 7 3)) (fun _ h6 => NnS v0 s h (uR h6 v0 s (aZ h)) ∧ aK h6 v0 = 12) := by
  have nv : v0 ≠ aZ h := by omega
  have z1 : aZ (uN h 7 3) = aZ h + 1 := rfl
  have u1 : aU (uN h 7 3) = aU h + 3 := rfl
  have c1 : aC (uN h 7 3) = aC h := rfl
  have hw1 : Wf (uN h 7 3) := wf_uN hw (by decide)
  have hu1 : aU (uN h 7 3) + 450 ≤ gS := by rw [u1]; omega
  have hc1 : aZ (uN h 7 3) + 3 ≤ aC (uN h 7 3) := by rw [z1, c1]; omega
  refine ok_to (f_X5_init (by omega) z1 (w_KN1 h 7 3) hw1 hc1 hu1) ?_
  rintro _ h6 ⟨x1, x2, x3, x4, x5⟩
  have p0 : Prs (fun q => aZ h ≤ q) h (uN h 7 3) := pr_uN
  have p1 : Prs (fun q => aZ h ≤ q) h h6 := pr_tr p0 (pr_mono x2 fun q _ z => by omega)
  have k6 : aK h6 v0 = 12 := by rw [pr_K p1 hv]; exact h1
  have p2 : Prs (fun q => q = v0) h6 (uR h6 v0 s (aZ h)) := pr_uR rfl
  have z6 : aZ h6 = aZ h + 4 := by omega
  have u6 : aU h6 = aU h + 453 := by omega
  refine ⟨⟨⟨pr_tr (pr_mono p1 fun q _ z => Or.inr z) (pr_mono p2 fun q _ z => Or.inl z), z6, u6, wf_uR x5 (by omega)⟩, nbK_pr x1 p2 (fun z => by omega), w_R1 _ _ _ _, fun j hj => ?_, ?_⟩, k6⟩
  · rw [w_R3 hj, pr_R p1 hv (by omega)]
  · show aI h6 v0 = _
    rw [pr_I p1 hv (by omega)]

def X10c (c : Nat) (h g1 g2 g3 g4 g5 g6 : AH) : Prop := AlS c 24 3 0 h g1 ∧ AlS c 25 5 1 g1 g2 ∧ LiS c 2 g2 g3 ∧ LiS c 3 g3 g4 ∧ PnS c 4 g4 g5 ∧ NnS c 5 g5 g6
theorem x10_bse {c : Nat} {h g1 g2 g3 g4 g5 g6 : AH} (hz : aZ h = c + 1) (hk : aK h c = 12) (hi : ∀ j, aI h c j = 0) (hE : aE h < c) (X : X10c c h g1 g2 g3 g4 g5 g6) : Bse c g6 := by
  obtain ⟨a1, a2, a3, a4, a5, a6⟩ := X
  have z1 : aZ g1 = c + 2 := by have := a1.1.2.1; omega
  have z2 : aZ g2 = c + 3 := by have := a2.1.2.1; omega
  have z3 : aZ g3 = c + 4 := by have := a3.1.2.1; omega
  have z4 : aZ g4 = c + 5 := by have := a4.1.2.1; omega
  have z5 : aZ g5 = c + 9 := by have := a5.1.2.1; omega
  have z6 : aZ g6 = c + 13 := by have := a6.1.2.1; omega
  have p6 : Prs (fun q => q = c ∨ c + 9 ≤ q) g5 g6 := pr_mono a6.1.1 fun q _ z => by omega
  have p5 : Prs (fun q => q = c ∨ c + 5 ≤ q) g4 g6 := pr_tr (pr_mono a5.1.1 fun q _ z => by omega) (pr_mono p6 fun q _ z => by omega)
  have p4 : Prs (fun q => q = c ∨ c + 4 ≤ q) g3 g6 := pr_tr (pr_mono a4.1.1 fun q _ z => by omega) (pr_mono p5 fun q _ z => by omega)
  have p3 : Prs (fun q => q = c ∨ c + 3 ≤ q) g2 g6 := pr_tr (pr_mono a3.1.1 fun q _ z => by omega) (pr_mono p4 fun q _ z => by omega)
  have p2 : Prs (fun q => q = c ∨ c + 2 ≤ q) g1 g6 := pr_tr (pr_mono a2.1.1 fun q _ z => by omega) (pr_mono p3 fun q _ z => by omega)
  have p1 : Prs (fun q => q = c ∨ c + 1 ≤ q) h g6 := pr_tr (pr_mono a1.1.1 fun q _ z => by omega) (pr_mono p2 fun q _ z => by omega)
  have r5 : aR g6 c 5 = c + 9 := by rw [a6.2.2.1, z5]
  have r4 : aR g6 c 4 = c + 5 := by rw [a6.2.2.2.1 4 (by decide), a5.2.2.1, z4]
  have r3 : aR g6 c 3 = c + 4 := by rw [a6.2.2.2.1 3 (by decide), a5.2.2.2.1 3 (by decide), a4.2.2.2.1, z3]
  have r2 : aR g6 c 2 = c + 3 := by rw [a6.2.2.2.1 2 (by decide), a5.2.2.2.1 2 (by decide), a4.2.2.2.2.1 2 (by decide), a3.2.2.2.1, z2]
  have r1 : aR g6 c 1 = c + 2 := by rw [a6.2.2.2.1 1 (by decide), a5.2.2.2.1 1 (by decide), a4.2.2.2.2.1 1 (by decide), a3.2.2.2.2.1 1 (by decide), a2.2.2.2.2.1, z1]
  have r0 : aR g6 c 0 = c + 1 := by rw [a6.2.2.2.1 0 (by decide), a5.2.2.2.1 0 (by decide), a4.2.2.2.2.1 0 (by decide), a3.2.2.2.2.1 0 (by decide), a2.2.2.2.2.2.1 0 (by decide), a1.2.2.2.2.1, hz]
  have i6 : aI g6 c 6 = iI 0 := by rw [a6.2.2.2.2, a5.2.2.2.2, a4.2.2.2.2.2, a3.2.2.2.2.2, a2.2.2.2.2.2.2, a1.2.2.2.2.2.2, hi 6]; exact j_0
  have k1 : aK g6 (c + 1) = 24 := by have := a1.2.1; rw [hz] at this; rw [pr_K p2 (by omega)]; exact this
  have n1 : aN g6 (c + 1) = 3 := by have := a1.2.2.1; rw [hz] at this; rw [pr_N p2 (by omega)]; exact this
  have k2 : aK g6 (c + 2) = 25 := by have := a2.2.1; rw [z1] at this; rw [pr_K p3 (by omega)]; exact this
  have n2 : aN g6 (c + 2) = 5 := by have := a2.2.2.1; rw [z1] at this; rw [pr_N p3 (by omega)]; exact this
  have e6 : aE g6 = aE h := p1.2.1
  have e3 : aE g3 = aE h := by have := p4.2.1; omega
  have e4 : aE g4 = aE h := by have := p5.2.1; omega
  have l3 : LsR g3 (c + 3) [] := by have := a3.2.1; rw [z2] at this; exact this
  have q3 : aR g3 (c + 3) 1 = aE h := by have := a3.2.2.1; rw [z2] at this; rw [this]; have := p3.2.1; omega
  have l4 : LsR g4 (c + 4) [] := by have := a4.2.1; rw [z3] at this; exact this
  have q4 : aR g4 (c + 4) 1 = aE h := by have := a4.2.2.1; rw [z3] at this; rw [this]; exact e3
  have L3 : LsR g6 (c + 3) [] := ls_pr l3 p4 (by omega) (by rw [q3]; omega)
  have Q3 : aR g6 (c + 3) 1 = aE g6 := by rw [pr_R p4 (by omega) (by omega), q3, e6]
  have L4 : LsR g6 (c + 4) [] := ls_pr l4 p5 (by omega) (by rw [q4]; omega)
  have Q4 : aR g6 (c + 4) 1 = aE g6 := by rw [pr_R p5 (by omega) (by omega), q4, e6]
  have P5 : PlK g6 (c + 5) := by have := a5.2.1; rw [z4] at this; exact plK_pr this p6 (by omega)
  have N9 : NbK g6 (c + 9) := by have := a6.2.1; rw [z5] at this; exact this
  exact ⟨(pr_K p1 (by omega)).trans hk, r0, r1, r2, r3, r4, r5, i6, k1, n1, k2, n2, P5, N9, L3, Q3, L4, Q4, by rw [e6]; exact hE, by omega⟩
theorem x10_tail {c : Nat} {g : AH} (hB : Bse c g) (hw : Wf g) (hz : aZ g = c + 13) (hc : aZ g + 50 ≤ aC g) (hu : aU g + 3253 ≤ gS) : Okp (p_X10_init_66 FU c (iI 0) g) (fun _ h' => Bse c h' ∧ TxB c 3 h' ∧ HdB c 5 h' ∧ Wf h' ∧ aZ h' = c + 59 ∧ aU h' = aU g + 3253 ∧ aC h' = aC g) := by
  refine ok_to (show Okp (p_X10_init_66 FU c (iI ((0 : Nat) : Int)) g) _ from f_X10_init_66 3 0 FU g hB (fun j hj => absurd hj (Nat.not_lt_zero _)) hw (by omega) (by omega) (by omega) (by omega) (by unfold FU; omega)) ?_
  rintro _ h' ⟨y1, y2, y3, y4, y5, y6, y7⟩
  exact ⟨y1, y2, y3, y4, y5, by omega, y7⟩
/-- an array is made and kept -/
theorem ok_al {h : AH} {v0 K N s kd : Nat} {z : Int} {f : AH → Option (Unit × AH)} {Q : Unit → AH → Prop} (hz : (0 : Int32) ≤ iI z) (hN : (iI z).toNatClampNeg = N) (hN2 : N ≤ 100000) (hv : v0 < aZ h) (hw : Wf h) (hK : K ≠ 1) (hk : aK h v0 = kd) (hkd : kd ≠ 1) (hc : aZ h + 1 ≤ aC h) (hu : aU h + N ≤ gS) (next : ∀ g, AlS v0 K N s h g → aK g v0 = kd → Okp (f g) Q) : Okp (ck ((0 ≤ (iI z) ∧ (iI z).toNatClampNeg ≤ 100000) ∧ aZ h + 1 ≤ aC h ∧ aU h + (iI z).toNatClampNeg ≤ gS) <| nm (uN h K (iI z).toNatClampNeg) fun h4 => ck (aK h4 v0 = kd) <| nm (uR h4 v0 s (aZ h)) fun h6 => f h6) Q := by
  refine ok_ck ⟨⟨hz, by rw [hN]; exact hN2⟩, hc, by rw [hN]; exact hu⟩ ?_
  rw [hN]
  refine ok_nm (ok_ck ?_ (ok_nm ?_))
  · rw [w_KN2 (by omega)]; exact hk
  · have a := al_step (h := h) (v0 := v0) (K := K) (N := N) (s := s) hv hw hK (by rw [hk]; exact hkd)
    exact next _ a ((nst_lt a.1 hv).1.trans hk)
theorem ok_li {h : AH} {v0 s kd : Nat} {f : AH → Option (Unit × AH)} {Q : Unit → AH → Prop} (hv : v0 < aZ h) (hw : Wf h) (hk : aK h v0 = kd) (hkd : kd ≠ 1) (hkd2 : kd ≠ 26) (hc : aZ h + 1 ≤ aC h) (hu : aU h + 3 ≤ gS) (next : ∀ g, LiS v0 s h g → aK g v0 = kd → Okp (f g) Q) : Okp (ck (aZ h + 1 ≤ aC h ∧ aU h + 3 ≤ gS) <| nm (uN h 1 3) fun h13 => ck (aK h13 (aZ h) ≠ 0) <| bR (p_Jx4a65c_init_da8c8 (aZ h) h13) fun _ h16 => ck (aK h16 v0 = kd) <| nm (uR h16 v0 s (aZ h)) fun h18 => f h18) Q := by
  refine ok_ck ⟨hc, hu⟩ (ok_nm (ok_ck (by rw [w_KN1]; decide) ?_))
  refine ok_eq (f_listInit (h := uN h 1 3) (l := aZ h) (by omega) (w_KN1 h 1 3)) ?_
  have a := li_step (h := h) (v0 := v0) (s := s) hv hw (by rw [hk]; exact hkd) (by rw [hk]; exact hkd2)
  refine ok_ck ?_ (ok_nm (next _ a ((nst_lt a.1 hv).1.trans hk)))
  exact (w_KN2 (h := h) (K := 1) (n := 3) (by omega)).trans hk
theorem ok_pn {h : AH} {v0 : Nat} {f : AH → Option (Unit × AH)} {Q : Unit → AH → Prop} (hv : v0 < aZ h) (hw : Wf h) (hk : aK h v0 = 12) (hc : aZ h + 4 ≤ aC h) (hu : aU h + 454 ≤ gS) (next : ∀ g, PnS v0 4 h g → aK g v0 = 12 → Okp (f g) Q) : Okp (ck (aZ h + 1 ≤ aC h ∧ aU h + 4 ≤ gS) <| nm (uN h 8 4) fun h27 => ck (aK h27 (aZ h) ≠ 0) <| bR (p_X6_init (aZ h) h27) fun _ h30 => ck (aK h30 v0 = 12) <| nm (uR h30 v0 4 (aZ h)) fun h32 => f h32) Q := by
  refine ok_ck ⟨by omega, by omega⟩ (ok_nm (ok_ck (by rw [w_KN1]; decide) ?_))
  refine ok_bR (pn_step (s := 4) hv hw hk hc hu) ?_
  rintro _ h6 ⟨a, k⟩
  exact ok_ck k (ok_nm (next _ a ((nst_lt a.1 hv).1.trans hk)))
theorem ok_nn {h : AH} {v0 : Nat} {f : AH → Option (Unit × AH)} {Q : Unit → AH → Prop} (hv : v0 < aZ h) (hw : Wf h) (hk : aK h v0 = 12) (hc : aZ h + 4 ≤ aC h) (hu : aU h + 453 ≤ gS) (next : ∀ g, NnS v0 5 h g → aK g v0 = 12 → Okp (f g) Q) : Okp (ck (aZ h + 1 ≤ aC h ∧ aU h + 3 ≤ gS) <| nm (uN h 7 3) fun h34 => ck (aK h34 (aZ h) ≠ 0) <| bR (p_X5_init (aZ h) h34) fun _ h37 => ck (aK h37 v0 = 12) <| nm (uR h37 v0 5 (aZ h)) fun h39 => f h39) Q := by
  refine ok_ck ⟨by omega, by omega⟩ (ok_nm (ok_ck (by rw [w_KN1]; decide) ?_))
  refine ok_bR (nn_step (s := 5) hv hw hk hc hu) ?_
  rintro _ h6 ⟨a, k⟩
  exact ok_ck k (ok_nm (next _ a ((nst_lt a.1 hv).1.trans hk)))
theorem f_X10_init {h : AH} {c : Nat} (h0 : c ≠ 0) (hz : aZ h = c + 1) (hk : aK h c = 12) (hi : ∀ j, aI h c j = 0) (hw : Wf h) (hE : aE h < c) (hc : aZ h + 100 ≤ aC h) (hu : aU h + 4174 ≤ gS) : Okp (p_X10_init c h) (fun _ h' => Bse c h' ∧ TxB c 3 h' ∧ HdB c 5 h' ∧ Wf h' ∧ aZ h' = c + 59 ∧ aU h' = aU h + 4174 ∧ aC h' = aC h) := by
  unfold p_X10_init p_X10_init_0
  refine ok_ck h0 (ok_ck h0 ?_)
  refine ok_al tp_3 tn_3 (by decide) (by omega) hw (by decide) hk (by decide) (by omega) (by omega) fun g1 a1 k1 => ?_
  have e1 : aZ g1 = c + 2 := by have := a1.1.2.1; omega
  have u1 : aU g1 = aU h + 3 := a1.1.2.2.1
  have c1 : aC g1 = aC h := a1.1.1.2.2.1
  refine ok_al tp_5 tn_5 (by decide) (by omega) a1.1.2.2.2 (by decide) k1 (by decide) (by omega) (by omega) fun g2 a2 k2 => ?_
  have e2 : aZ g2 = c + 3 := by have := a2.1.2.1; omega
  have u2 : aU g2 = aU h + 8 := by have := a2.1.2.2.1; omega
  have c2 : aC g2 = aC h := a2.1.1.2.2.1.trans c1
  refine ok_li (by omega) a2.1.2.2.2 k2 (by decide) (by decide) (by omega) (by omega) fun g3 a3 k3 => ?_
  have e3 : aZ g3 = c + 4 := by have := a3.1.2.1; omega
  have u3 : aU g3 = aU h + 11 := by have := a3.1.2.2.1; omega
  have c3 : aC g3 = aC h := a3.1.1.2.2.1.trans c2
  refine ok_li (by omega) a3.1.2.2.2 k3 (by decide) (by decide) (by omega) (by omega) fun g4 a4 k4 => ?_
  have e4 : aZ g4 = c + 5 := by have := a4.1.2.1; omega
  have u4 : aU g4 = aU h + 14 := by have := a4.1.2.2.1; omega
  have c4 : aC g4 = aC h := a4.1.1.2.2.1.trans c3
  refine ok_pn (by omega) a4.1.2.2.2 k4 (by omega) (by omega) fun g5 a5 k5 => ?_
  have e5 : aZ g5 = c + 9 := by have := a5.1.2.1; omega
  have u5 : aU g5 = aU h + 468 := by have := a5.1.2.2.1; omega
  have c5 : aC g5 = aC h := a5.1.1.2.2.1.trans c4
  refine ok_nn (by omega) a5.1.2.2.2 k5 (by omega) (by omega) fun g6 a6 k6 => ?_
  have e6 : aZ g6 = c + 13 := by have := a6.1.2.1; omega
  have u6 : aU g6 = aU h + 921 := by have := a6.1.2.2.1; omega
  have c6 : aC g6 = aC h := a6.1.1.2.2.1.trans c5
  have hB := x10_bse hz hk hi hE ⟨a1, a2, a3, a4, a5, a6⟩
  refine ok_nm (ok_to (x10_tail hB a6.1.2.2.2 e6 (by omega) (by omega)) ?_)
  rintro _ h' ⟨y1, y2, y3, y4, y5, y6, y7⟩
  exact ⟨y1, y2, y3, y4, y5, by omega, by omega⟩

