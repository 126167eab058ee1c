
/-! ===== the class begins ===== -/
theorem tn_1 : (iI 1).toNatClampNeg = 1 := by decide +kernel
theorem tp_1 : (0 : Int32) ≤ iI 1 := by decide +kernel
theorem tn_3 : (iI 3).toNatClampNeg = 3 := by decide +kernel
theorem tp_3 : (0 : Int32) ≤ iI 3 := by decide +kernel
theorem tn_5 : (iI 5).toNatClampNeg = 5 := by decide +kernel
theorem tp_5 : (0 : Int32) ≤ iI 5 := by decide +kernel
theorem tn_15 : (iI 15).toNatClampNeg = 15 := by decide +kernel
theorem tp_15 : (0 : Int32) ≤ iI 15 := by decide +kernel
theorem tn_60 : (iI 60).toNatClampNeg = 60 := by decide +kernel
theorem tp_60 : (0 : Int32) ≤ iI 60 := by decide +kernel
theorem tn_150 : (iI 150).toNatClampNeg = 150 := by decide +kernel
theorem tp_150 : (0 : Int32) ≤ iI 150 := by decide +kernel
theorem tn_450 : (iI 450).toNatClampNeg = 450 := by decide +kernel
theorem tp_450 : (0 : Int32) ≤ iI 450 := by decide +kernel
theorem tn_3000 : (iI 3000).toNatClampNeg = 3000 := by decide +kernel
theorem tp_3000 : (0 : Int32) ≤ iI 3000 := by decide +kernel
theorem tn_9000 : (iI 9000).toNatClampNeg = 9000 := by decide +kernel
theorem tp_9000 : (0 : Int32) ≤ iI 9000 := by decide +kernel

theorem wf_uR {h : AH} {a k v : Nat} (hw : Wf h) (ha : aK h a ≠ 1) : Wf (uR h a k v) := by
  refine ⟨hw.1, hw.2.1, fun l1 l2 a1 a2 => ?_, fun l1 a1 => ?_, hw.2.2.2.2⟩
  · have b1 : aK h l1 = 1 := a1
    have b2 : aK h l2 = 1 := a2
    have n1 : l1 ≠ a := fun z => by rw [z] at b1; exact ha b1
    have n2 : l2 ≠ a := fun z => by rw [z] at b2; exact ha b2
    rw [w_R2 n1, w_R2 n2]
    exact hw.2.2.1 l1 l2 b1 b2
  · have b1 : aK h l1 = 1 := a1
    have n1 : l1 ≠ a := fun z => by rw [z] at b1; exact ha b1
    rw [w_R2 n1]
    exact hw.2.2.2.1 l1 b1
def Nst (v0 : Nat) (h h' : AH) (k u : Nat) : Prop := Prs (fun q => q = v0 ∨ aZ h ≤ q) h h' ∧ aZ h' = aZ h + k ∧ aU h' = aU h + u ∧ Wf h'
theorem nst_tr {v0 k u k2 u2 : Nat} {h h1 h2 : AH} (x : Nst v0 h h1 k u) (y : Nst v0 h1 h2 k2 u2) : Nst v0 h h2 (k + k2) (u + u2) := by
  obtain ⟨x1, x2, x3, x4⟩ := x
  obtain ⟨y1, y2, y3, y4⟩ := y
  exact ⟨pr_tr x1 (pr_mono y1 fun q _ z => by omega), by omega, by omega, y4⟩
/-- an array is made, and kept in a field -/
def AlS (v0 K N s : Nat) (h g : AH) : Prop := Nst v0 h g 1 N ∧ aK g (aZ h) = K ∧ aN g (aZ h) = N ∧ (∀ j, aI g (aZ h) j = 0) ∧ aR g v0 s = aZ h ∧ (∀ j, j ≠ s → aR g v0 j = aR h v0 j) ∧ aI g v0 = aI h v0
theorem al_step {h : AH} {v0 K N s : Nat} (hv : v0 < aZ h) (hw : Wf h) (hK : K ≠ 1) (h1 : aK h v0 ≠ 1) : AlS v0 K N s h (uR (uN h K N) v0 s (aZ h)) := by
  have p : Prs (fun q => q = v0 ∨ aZ h ≤ q) h (uR (uN h K N) v0 s (aZ h)) := pr_tr pr_uN (pr_uR (Or.inl rfl))
  have nv : v0 ≠ aZ h := by omega
  refine ⟨⟨p, rfl, rfl, wf_uR (wf_uN hw hK) (by rw [w_KN2 nv]; exact h1)⟩, w_KN1 h K N, w_NN1 h K N, fun j => w_IN1 h K N j, w_R1 _ _ _ _, fun j hj => ?_, ?_⟩
  · rw [w_R3 hj, w_RN2 nv]
  · funext j
    show aI (uN h K N) v0 j = _
    rw [w_IN2 nv]
/-- a list is made, and kept in a field -/
def LiS (v0 s : Nat) (h g : AH) : Prop := Nst v0 h g 1 3 ∧ LsR g (aZ h) [] ∧ aR g (aZ h) 1 = aE h ∧ aR g v0 s = aZ h ∧ (∀ j, j ≠ s → aR g v0 j = aR h v0 j) ∧ aI g v0 = aI h v0
theorem li_step {h : AH} {v0 s : Nat} (hv : v0 < aZ h) (hw : Wf h) (h1 : aK h v0 ≠ 1) (h26 : aK h v0 ≠ 26) : LiS v0 s h (uR (uR (uI (uN h 1 3) (aZ h) 0 (iI 0)) (aZ h) 1 (aE h)) v0 s (aZ h)) := by
  obtain ⟨l1, l2, l3, l4⟩ := ls_new hw
  have nv : v0 ≠ aZ h := by omega
  have k0 : aK (uR (uI (uN h 1 3) (aZ h) 0 (iI 0)) (aZ h) 1 (aE h)) v0 = aK h v0 := w_KN2 (h := h) (K := 1) (n := 3) nv
  have p1 : Prs (fun q => q = v0) (uR (uI (uN h 1 3) (aZ h) 0 (iI 0)) (aZ h) 1 (aE h)) (uR (uR (uI (uN h 1 3) (aZ h) 0 (iI 0)) (aZ h) 1 (aE h)) v0 s (aZ h)) := pr_uR rfl
  have ea : aR (uR (uI (uN h 1 3) (aZ h) 0 (iI 0)) (aZ h) 1 (aE h)) (aZ h) 1 = aE h := w_R1 _ _ _ _
  refine ⟨⟨pr_tr (pr_mono l3 fun q _ z => Or.inr z) (pr_mono p1 fun q _ z => Or.inl z), rfl, rfl, wf_uR l1 (by rw [k0]; exact h1)⟩, ls_pr l2 p1 (fun z => nv z.symm) (fun z => ?_), ?_, w_R1 _ _ _ _, fun j hj => ?_, ?_⟩
  · have := l2.2.2.2.2.1
    rw [z, k0] at this
    exact h26 this
  · rw [w_R2 (fun z => nv z.symm)]; exact ea
  · rw [w_R3 hj, w_R2 nv]
    show aR (uN h 1 3) v0 j = _
    rw [w_RN2 nv]
  · funext j
    show aI (uI (uN h 1 3) (aZ h) 0 (iI 0)) v0 j = _
    rw [w_I2 nv, w_IN2 nv]
theorem nst_lt {v0 k u : Nat} {h g : AH} (x : Nst v0 h g k u) {q : Nat} (hq : q < aZ h) : aK g q = aK h q ∧ aN g q = aN h q := ⟨pr_K x.1 hq, pr_N x.1 hq⟩
theorem f_X7_init {h : AH} {v0 : Nat} (h0 : v0 ≠ 0) (hz : aZ h = v0 + 1) (hk : aK h v0 = 9) (hw : Wf h) (hi : aI h v0 3 = iI 0) (hc : aZ h + 3 ≤ aC h) (hu : aU h + 450 ≤ gS) : Okp (p_X7_init v0 h) (fun _ h' => RowR h' v0 r0 ∧ Nst v0 h h' 3 450) := by
  have z0 := eq_false h0
  unfold p_X7_init p_X7_init_0
  simp only [z0, ne_eq, not_false_eq_true, ck_t, tn_150]
  have a1 := al_step (h := h) (v0 := v0) (K := 20) (N := 150) (s := 0) (by omega) hw (by decide) (by omega)
  rw [ck_p ⟨⟨tp_150, by decide⟩, by omega, by omega⟩, nm_q, ck_p (show aK (uN h 20 150) v0 = 9 by rw [w_KN2 (by omega)]; omega), nm_q]
  generalize uR (uN h 20 150) v0 0 (aZ h) = g1 at *
  have e1 := a1.1.2.1
  have u1 := a1.1.2.2.1
  have c1 := a1.1.1.2.2.1
  have k1 := (nst_lt a1.1 (q := v0) (by omega)).1
  have a2 := al_step (h := g1) (v0 := v0) (K := 21) (N := 150) (s := 1) (by omega) a1.1.2.2.2 (by decide) (by omega)
  rw [ck_p ⟨⟨tp_150, by decide⟩, by omega, by omega⟩, nm_q, ck_p (show aK (uN g1 21 150) v0 = 9 by rw [w_KN2 (by omega)]; omega), nm_q]
  generalize uR (uN g1 21 150) v0 1 (aZ g1) = g2 at *
  have e2 := a2.1.2.1
  have u2 := a2.1.2.2.1
  have c2 := a2.1.1.2.2.1
  have k2 := (nst_lt a2.1 (q := v0) (by omega)).1
  have a3 := al_step (h := g2) (v0 := v0) (K := 22) (N := 150) (s := 2) (by omega) a2.1.2.2.2 (by decide) (by omega)
  rw [ck_p ⟨⟨tp_150, by decide⟩, by omega, by omega⟩, nm_q, ck_p (show aK (uN g2 22 150) v0 = 9 by rw [w_KN2 (by omega)]; omega), nm_q]
  generalize uR (uN g2 22 150) v0 2 (aZ g2) = g3 at *
  have e3 := a3.1.2.1
  have u3 := a3.1.2.2.1
  have c3 := a3.1.1.2.2.1
  have k3 := (nst_lt a3.1 (q := v0) (by omega)).1
  have n12 := nst_lt a2.1 (q := v0 + 1) (by omega)
  have n13 := nst_lt a3.1 (q := v0 + 1) (by omega)
  have n23 := nst_lt a3.1 (q := v0 + 2) (by omega)
  have ez : aZ h = v0 + 1 := hz
  have ez1 : aZ g1 = v0 + 2 := by omega
  have ez2 : aZ g2 = v0 + 3 := by omega
  have b1 := a1.2.1
  have b2 := a1.2.2.1
  have b3 := a2.2.1
  have b4 := a2.2.2.1
  have b5 := a3.2.1
  have b6 := a3.2.2.1
  rw [ez] at b1 b2
  rw [ez1] at b3 b4
  rw [ez2] at b5 b6
  have q0 : aR g3 v0 0 = v0 + 1 := by rw [a3.2.2.2.2.2.1 0 (by decide), a2.2.2.2.2.2.1 0 (by decide), a1.2.2.2.2.1, ez]
  have q1 : aR g3 v0 1 = v0 + 2 := by rw [a3.2.2.2.2.2.1 1 (by decide), a2.2.2.2.2.1, ez1]
  have q2 : aR g3 v0 2 = v0 + 3 := by rw [a3.2.2.2.2.1, ez2]
  have qi : aI g3 v0 3 = iI 0 := by rw [a3.2.2.2.2.2.2, a2.2.2.2.2.2.2, a1.2.2.2.2.2.2]; exact hi
  refine ok_some ⟨⟨⟨z0, by omega, q0, q1, q2, by omega, by omega, by omega, by omega, by omega, by omega, by omega⟩, qi, Nat.zero_le _, fun i hi => absurd hi (Nat.not_lt_zero _)⟩, nst_tr (nst_tr a1.1 a2.1) a3.1⟩
theorem f_X6_init {h : AH} {v0 : Nat} (h0 : v0 ≠ 0) (hz : aZ h = v0 + 1) (hk : aK h v0 = 8) (hw : Wf h) (hc : aZ h + 3 ≤ aC h) (hu : aU h + 450 ≤ gS) : Okp (p_X6_init v0 h) (fun _ h' => PlK h' v0 ∧ Nst v0 h h' 3 450) := by
  have z0 := eq_false h0
  unfold p_X6_init p_X6_init_0
  simp only [z0, ne_eq, not_false_eq_true, ck_t, tn_150]
  have a1 := al_step (h := h) (v0 := v0) (K := 20) (N := 150) (s := 0) (by omega) hw (by decide) (by omega)
  rw [ck_p ⟨⟨tp_150, by decide⟩, by omega, by omega⟩, nm_q, ck_p (show aK (uN h 20 150) v0 = 8 by rw [w_KN2 (by omega)]; omega), nm_q]
  generalize uR (uN h 20 150) v0 0 (aZ h) = g1 at *
  have e1 := a1.1.2.1
  have u1 := a1.1.2.2.1
  have c1 := a1.1.1.2.2.1
  have k1 := (nst_lt a1.1 (q := v0) (by omega)).1
  have a2 := al_step (h := g1) (v0 := v0) (K := 21) (N := 150) (s := 1) (by omega) a1.1.2.2.2 (by decide) (by omega)
  rw [ck_p ⟨⟨tp_150, by decide⟩, by omega, by omega⟩, nm_q, ck_p (show aK (uN g1 21 150) v0 = 8 by rw [w_KN2 (by omega)]; omega), nm_q]
  generalize uR (uN g1 21 150) v0 1 (aZ g1) = g2 at *
  have e2 := a2.1.2.1
  have u2 := a2.1.2.2.1
  have c2 := a2.1.1.2.2.1
  have k2 := (nst_lt a2.1 (q := v0) (by omega)).1
  have a3 := al_step (h := g2) (v0 := v0) (K := 21) (N := 150) (s := 2) (by omega) a2.1.2.2.2 (by decide) (by omega)
  rw [ck_p ⟨⟨tp_150, by decide⟩, by omega, by omega⟩, nm_q, ck_p (show aK (uN g2 21 150) v0 = 8 by rw [w_KN2 (by omega)]; omega), nm_q]
  generalize uR (uN g2 21 150) v0 2 (aZ g2) = g3 at *
  have e3 := a3.1.2.1
  have u3 := a3.1.2.2.1
  have c3 := a3.1.1.2.2.1
  have k3 := (nst_lt a3.1 (q := v0) (by omega)).1
  have n12 := nst_lt a2.1 (q := v0 + 1) (by omega)
  have n13 := nst_lt a3.1 (q := v0 + 1) (by omega)
  have n23 := nst_lt a3.1 (q := v0 + 2) (by omega)
  have ez : aZ h = v0 + 1 := hz
  have ez1 : aZ g1 = v0 + 2 := by omega
  have ez2 : aZ g2 = v0 + 3 := by omega
  have b1 := a1.2.1
  have b2 := a1.2.2.1
  have b3 := a2.2.1
  have b4 := a2.2.2.1
  have b5 := a3.2.1
  have b6 := a3.2.2.1
  rw [ez] at b1 b2
  rw [ez1] at b3 b4
  rw [ez2] at b5 b6
  have q0 : aR g3 v0 0 = v0 + 1 := by rw [a3.2.2.2.2.2.1 0 (by decide), a2.2.2.2.2.2.1 0 (by decide), a1.2.2.2.2.1, ez]
  have q1 : aR g3 v0 1 = v0 + 2 := by rw [a3.2.2.2.2.2.1 1 (by decide), a2.2.2.2.2.1, ez1]
  have q2 : aR g3 v0 2 = v0 + 3 := by rw [a3.2.2.2.2.1, ez2]
  refine ok_some ⟨⟨z0, by omega, q0, q1, q2, by omega, by omega, by omega, by omega, by omega, by omega, by omega⟩, nst_tr (nst_tr a1.1 a2.1) a3.1⟩
theorem f_X5_init {h : AH} {v0 : Nat} (h0 : v0 ≠ 0) (hz : aZ h = v0 + 1) (hk : aK h v0 = 7) (hw : Wf h) (hc : aZ h + 3 ≤ aC h) (hu : aU h + 450 ≤ gS) : Okp (p_X5_init v0 h) (fun _ h' => NbK h' v0 ∧ Nst v0 h h' 3 450) := by
  have z0 := eq_false h0
  unfold p_X5_init p_X5_init_0
  simp only [z0, ne_eq, not_false_eq_true, ck_t, tn_150]
  have a1 := al_step (h := h) (v0 := v0) (K := 22) (N := 150) (s := 0) (by omega) hw (by decide) (by omega)
  rw [ck_p ⟨⟨tp_150, by decide⟩, by omega, by omega⟩, nm_q, ck_p (show aK (uN h 22 150) v0 = 7 by rw [w_KN2 (by omega)]; omega), nm_q]
  generalize uR (uN h 22 150) v0 0 (aZ h) = g1 at *
  have e1 := a1.1.2.1
  have u1 := a1.1.2.2.1
  have c1 := a1.1.1.2.2.1
  have k1 := (nst_lt a1.1 (q := v0) (by omega)).1
  have a2 := al_step (h := g1) (v0 := v0) (K := 20) (N := 150) (s := 1) (by omega) a1.1.2.2.2 (by decide) (by omega)
  rw [ck_p ⟨⟨tp_150, by decide⟩, by omega, by omega⟩, nm_q, ck_p (show aK (uN g1 20 150) v0 = 7 by rw [w_KN2 (by omega)]; omega), nm_q]
  generalize uR (uN g1 20 150) v0 1 (aZ g1) = g2 at *
  have e2 := a2.1.2.1
  have u2 := a2.1.2.2.1
  have c2 := a2.1.1.2.2.1
  have k2 := (nst_lt a2.1 (q := v0) (by omega)).1
  have a3 := al_step (h := g2) (v0 := v0) (K := 20) (N := 150) (s := 2) (by omega) a2.1.2.2.2 (by decide) (by omega)
  rw [ck_p ⟨⟨tp_150, by decide⟩, by omega, by omega⟩, nm_q, ck_p (show aK (uN g2 20 150) v0 = 7 by rw [w_KN2 (by omega)]; omega), nm_q]
  generalize uR (uN g2 20 150) v0 2 (aZ g2) = g3 at *
  have e3 := a3.1.2.1
  have u3 := a3.1.2.2.1
  have c3 := a3.1.1.2.2.1
  have k3 := (nst_lt a3.1 (q := v0) (by omega)).1
  have n12 := nst_lt a2.1 (q := v0 + 1) (by omega)
  have n13 := nst_lt a3.1 (q := v0 + 1) (by omega)
  have n23 := nst_lt a3.1 (q := v0 + 2) (by omega)
  have ez : aZ h = v0 + 1 := hz
  have ez1 : aZ g1 = v0 + 2 := by omega
  have ez2 : aZ g2 = v0 + 3 := by omega
  have b1 := a1.2.1
  have b2 := a1.2.2.1
  have b3 := a2.2.1
  have b4 := a2.2.2.1
  have b5 := a3.2.1
  have b6 := a3.2.2.1
  rw [ez] at b1 b2
  rw [ez1] at b3 b4
  rw [ez2] at b5 b6
  have q0 : aR g3 v0 0 = v0 + 1 := by rw [a3.2.2.2.2.2.1 0 (by decide), a2.2.2.2.2.2.1 0 (by decide), a1.2.2.2.2.1, ez]
  have q1 : aR g3 v0 1 = v0 + 2 := by rw [a3.2.2.2.2.2.1 1 (by decide), a2.2.2.2.2.1, ez1]
  have q2 : aR g3 v0 2 = v0 + 3 := by rw [a3.2.2.2.2.1, ez2]
  refine ok_some ⟨⟨z0, by omega, q0, q1, q2, by omega, by omega, by omega, by omega, by omega, by omega, by omega⟩, nst_tr (nst_tr a1.1 a2.1) a3.1⟩
theorem f_X4_init {h : AH} {v0 : Nat} {tc : Nat → Nat} (h0 : v0 ≠ 0) (hz : aZ h = v0 + 1) (hk : aK h v0 = 6) (hi : aI h v0 1 = iI 0) (hw : Wf h) (hc : aZ h + 1 ≤ aC h) (hu : aU h + 3 ≤ gS) : Okp (p_X4_init v0 h) (fun _ h' => HdR tc h' v0 ([], 0) ∧ aR h' (v0 + 1) 1 = aE h' ∧ Nst v0 h h' 1 3) := by
  have z0 := eq_false h0
  have a1 := li_step (h := h) (v0 := v0) (s := 0) (by omega) hw (by omega) (by omega)
  unfold p_X4_init p_X4_init_0
  simp only [z0, ne_eq, not_false_eq_true, ck_t]
  rw [ck_p ⟨by omega, by omega⟩, nm_q, ck_p (show ¬ aK (uN h 1 3) (aZ h) = 0 by rw [w_KN1]; decide), bR_e (f_listInit (h := uN h 1 3) (l := aZ h) (by omega) (w_KN1 h 1 3))]
  have eE : aE (uN h 1 3) = aE h := rfl
  rw [eE, ck_p (show aK (uR (uI (uN h 1 3) (aZ h) 0 (iI 0)) (aZ h) 1 (aE h)) v0 = 6 from (w_KN2 (h := h) (K := 1) (n := 3) (by omega)).trans hk), nm_q]
  generalize uR (uR (uI (uN h 1 3) (aZ h) 0 (iI 0)) (aZ h) 1 (aE h)) v0 0 (aZ h) = g at *
  obtain ⟨x1, x2, x3, x4, x5, x6⟩ := a1
  have k1 := (nst_lt x1 (q := v0) (by omega)).1
  rw [hz] at x2 x3 x4
  have z1 := x1.2.1
  refine ok_some ⟨⟨z0, by omega, x4, by omega, by rw [x6]; exact hi, Nat.le_refl _, Nat.zero_le _, [], x2, ⟨rfl, fun i d hd => nomatch hd⟩⟩, by rw [x3, x1.1.2.1], x1⟩

