
/-! ===== formats ===== -/
theorem tx_kinds {h : AH} {t i : Nat} {T : Tx} (hT : TxR h t i T) : ∀ q, t ≤ q → q ≤ t + 11 → aK h q = 11 ∨ aK h q = 9 ∨ aK h q = 20 ∨ aK h q = 21 ∨ aK h q = 22 ∨ (aK h q = 1 ∧ q = t + 10) := by
  intro q z1 z2
  obtain ⟨⟨a0, k0, k1, k2, k3, k4, k5, k6, k7, k8, k9, k10, k11⟩, b2, b3, ⟨ds, l1, l2⟩, b5⟩ := hT
  obtain ⟨-, w0, -, -, -, w1, -, w2, -, w3, -, -⟩ := k11
  obtain ⟨⟨-, v0, -, -, -, v1, -, v2, -, v3, -, -⟩, -, -⟩ := b2
  have kl := l1.2.1
  rcases (show q = t ∨ q = t + 1 ∨ q = t + 1 + 1 ∨ q = t + 1 + 2 ∨ q = t + 1 + 3 ∨ q = t + 5 ∨ q = t + 6 ∨ q = t + 6 + 1 ∨ q = t + 6 + 2 ∨ q = t + 6 + 3 ∨ q = t + 10 ∨ q = t + 11 by omega) with e | e | e | e | e | e | e | e | e | e | e | e <;> rw [e] <;> omega
theorem tS_kinds {h : AH} {t i : Nat} {T : Tx} (hT : TxR h t i T) : ∀ q, tS h t q → aK h q = 11 ∨ aK h q = 9 ∨ aK h q = 20 ∨ aK h q = 21 ∨ aK h q = 22 ∨ aK h q = 1 ∨ aK h q = 26 := by
  intro q z
  rcases z with z | z | z
  · have := tx_kinds hT q z.1 z.2; omega
  · have := tx_kinds hT q (by omega) (by omega); omega
  · obtain ⟨ds, l1, l2⟩ := hT.2.2.2.1
    have := l1.2.2.2.2.1
    rw [z.1]; omega
abbrev Fm : Type := Nat × Int × List Ch × Int
def fT (F : Fm) : Nat := F.1
def fS (F : Fm) : Int := F.2.1
def fC (F : Fm) : List Ch := F.2.2.1
def fW (F : Fm) : Int := F.2.2.2
def FmR (tc : Nat → Nat) (h : AH) (f : Nat) (F : Fm) : Prop := f ≠ 0 ∧ f < aZ h ∧ aK h f = 5 ∧ aR h f 0 = tc (fT F) ∧ aI h f 2 = iI (fS F) ∧ aI h f 3 = iI (fW F) ∧ (fC F).length ≤ 150 ∧ (∀ c ∈ fC F, ChP c) ∧ ∃ xs, LsR h (aR h f 1) xs ∧ Al (ChR h) xs (fC F) ∧ ndp xs
theorem fm_pr {tc : Nat → Nat} {S : Nat → Prop} {h h' : AH} {f : Nat} {F : Fm} (hf : FmR tc h f F) (p : Prs S h h') (h1 : ¬ S f) (h2 : ¬ S (aR h f 1)) (h3 : ¬ S (aR h (aR h f 1) 1)) (h4 : ∀ q, S q → aK h q ≠ 3) : FmR tc h' f F := by
  obtain ⟨a1, a2, a3, a4, a5, a6, a7, a8, xs, l1, l2, l3⟩ := hf
  have := p.1
  unfold FmR
  rw [pr_K p a2, pr_I p a2 h1, pr_R p a2 h1]
  exact ⟨a1, by omega, a3, a4, a5, a6, a7, a8, xs, ls_pr l1 p h2 h3, al_mono l2 fun y c _ z => ch_pr z p (fun w => h4 _ w z.2.2.1), l3⟩
def crd (cs : List Ch) (q : Nat) : Ch := cs.getD q ((0, 0, 0), 0, 0)
theorem crd_at {cs : List Ch} {q : Nat} (hq : q < cs.length) : cs[q]? = some (crd cs q) := by
  unfold crd
  rw [List.getD_eq_getElem?_getD, List.getElem?_eq_getElem hq]; rfl
theorem crd_mem {cs : List Ch} {q : Nat} (hq : q < cs.length) : crd cs q ∈ cs := by
  have := crd_at hq
  exact List.mem_of_getElem? this
def sprB (T : Tx) (c : Ch) (a b : Int) : Bool := !(rt (xR T) c.1.1) || (decide (rs (xR T) c.1.1 ≠ c.1.2.1) || ((decide (c.1.2.2 = 1) && hasC (xC T) c.1.1) || (decide (a ≠ c.2.1) || decide (b ≠ c.2.2))))
theorem f_X3_spares {h : AH} {t i f x nb : Nat} {T : Tx} {c : Ch} {a b : Int} (hT : TxR h t i T) (hc : ChR h x c) (hP : ChP c) (f0 : f ≠ 0) (hf : aK h f = 5) (hft : aR h f 0 = t) (hk : NbK h nb) (hl : c.1.1 < rn (xR T)) (hA : aI h (nb + 2) c.1.1 = iI a) (hB : aI h (nb + 3) c.1.1 = iI b) (a1 : -1 ≤ a) (a2 : a < 150) (b1 : -1 ≤ b) (b2 : b < 150) : p_X3_spares f x nb h = some (bI (sprB T c a b), h) := by
  have f0' := eq_false f0
  have x0 := eq_false hc.1
  have nb0 := hk.1
  have kx := hc.2.2.1
  have kn := hk.2.1
  have kt := hT.1.2.1
  have kr : aK h (t + 1) = 9 := hT.2.1.1.2.1
  have rr := hT.1.2.2.1
  have hn150 := hT.2.1.2.2.1
  obtain ⟨i0, i1, i2, i3, i4⟩ := hc.2.2.2
  obtain ⟨p1, p2, p3, p4, p5, p6, p7, p8, p9⟩ := hP
  have e1 := f_X7_shows hT.2.1 (z := c.1.1) (by omega) (by omega)
  have e1' : rshow (xR T) c.1.1 = rt (xR T) c.1.1 := by
    unfold rshow rhas
    rw [decide_eq_true (by omega)]; rfl
  rw [e1'] at e1
  have e2 := f_X7_signOf hT.2.1 (i := c.1.1) hl
  have e3 := f_X1_goes hc ⟨p1, p2, p3, p4, p5, p6, p7, p8, p9⟩
  have e4 := f_X9_hasCursorAt hT (z := c.1.1) (by omega) (by omega)
  have e5 := f_X5_aheadOf (z := a) hk p1 hA
  have e6 := f_X5_behindOf (z := b) hk p1 hB
  have sg := hT.2.1.2.2.2 c.1.1 hl
  unfold p_X3_spares p_X3_spares_0 p_X3_spares_55 p_X3_spares_79 p_X3_spares_84 sprB
  simp (disch := omega) only [ck_t, nm_q, bR_s, j_add, j_sub, j_mul, j_nI, j_0, j_le, j_lt, j_eq, j_nat, j_ixe, bI_0, and_self, and_true, true_and, ne_eq, not_false_eq_true, not_true_eq_false, ite_true, ite_false, if_true, if_false, ck_p z_0, ck_p z_1, f0', x0, nb0, kx, hf, hft, kt, rr, kr, kn, i0, i1, i2, i3, i4, e1, e2, e3, e4, e5, e6]
  cases c1 : rt (xR T) c.1.1
  · rw [if_pos rfl]; rfl
  · rw [if_neg (by decide)]
    by_cases c2 : rs (xR T) c.1.1 = c.1.2.1
    · rw [if_pos c2, decide_eq_false (show ¬ rs (xR T) c.1.1 ≠ c.1.2.1 from fun z => z c2)]
      have tail : (if a = c.2.1 then (if b = c.2.2 then some (iI 0, h) else some (iI 1, h)) else some (iI 1, h)) = some (bI (decide (a ≠ c.2.1) || decide (b ≠ c.2.2)), h) := by
        by_cases d1 : a = c.2.1
        · rw [if_pos d1, decide_eq_false (show ¬ a ≠ c.2.1 from fun z => z d1)]
          by_cases d2 : b = c.2.2
          · rw [if_pos d2, decide_eq_false (show ¬ b ≠ c.2.2 from fun z => z d2)]; rfl
          · rw [if_neg d2, decide_eq_true d2]; rfl
        · rw [if_neg d1, decide_eq_true d1]; rfl
      by_cases c3 : c.1.2.2 = 1
      · rw [decide_eq_true c3, if_neg (by decide)]
        cases c4 : hasC (xC T) c.1.1
        · rw [if_pos rfl, tail]; rfl
        · rw [if_neg (by decide)]; rfl
      · rw [decide_eq_false c3, if_pos rfl, tail]; rfl
    · rw [if_neg c2, decide_eq_true c2]; rfl
/-- whether a change is spared -/
def spr (T : Tx) (cs : List Ch) (c : Ch) : Bool := sprB T c (nA (xR T) (goL cs) (rpos (xR T) c.1.1)) (nB (xR T) (goL cs) (rpos (xR T) c.1.1 + 1))
def sprA (T : Tx) (cs : List Ch) (q : Nat) : Bool := spr T cs (crd cs q)
/-- what a judging writes -/
def Jd (nb : Nat) (h h' : AH) : Prop := Pi (fun q => (nb ≤ q ∧ q ≤ nb + 3) ∨ aK h q = 3) h h' ∧ ∀ x j, aK h x = 3 → j ≠ 5 → aI h' x j = aI h x j
theorem jd_tr {nb : Nat} {h h1 h2 : AH} (x : Jd nb h h1) (y : Jd nb h1 h2) : Jd nb h h2 := by
  refine ⟨pi_tr x.1 (pi_mono y.1 fun q z => by rw [x.1.1] at z; exact z), fun q j hq hj => ?_⟩
  rw [y.2 q j (by rw [x.1.1]; exact hq) hj, x.2 q j hq hj]
theorem jd_ch {nb x : Nat} {h h' : AH} {c : Ch} (y : Jd nb h h') (hc : ChR h x c) : ChR h' x c := by
  obtain ⟨a1, a2, a3, a4, a5, a6, a7, a8⟩ := hc
  unfold ChR
  rw [y.1.1, y.1.2.2.2.2.1, y.2 x 0 a3 (by decide), y.2 x 1 a3 (by decide), y.2 x 2 a3 (by decide), y.2 x 3 a3 (by decide), y.2 x 4 a3 (by decide)]
  exact ⟨a1, a2, a3, a4, a5, a6, a7, a8⟩
theorem jd_tx {nb t i : Nat} {h h' : AH} {T : Tx} (y : Jd nb h h') (hT : TxR h t i T) (hnb : nb + 3 < t ∨ t + 11 < nb) (hk : NbK h nb) : TxR h' t i T := by
  obtain ⟨ds, l1, l2⟩ := hT.2.2.2.1
  have kl := l1.2.2.2.2.1
  have hb : ∀ q, nb ≤ q → q ≤ nb + 3 → aK h q = 7 ∨ aK h q = 20 ∨ aK h q = 22 := by
    intro q z1 z2
    obtain ⟨a0, k0, k1, k2, k3, k4, k5, k6, k7, k8, k9, k10⟩ := hk
    rcases (show q = nb ∨ q = nb + 1 ∨ q = nb + 2 ∨ q = nb + 3 by omega) with e | e | e | e <;> rw [e] <;> omega
  refine txR_pr hT (pi_pr y.1) ?_ ?_ ?_
  · intro q z1 z2 z
    have := tx_kinds hT q z1 z2
    rcases z with z | z <;> omega
  · rintro (z | z)
    · have := hb _ z.1 z.2; omega
    · omega
  · intro q z
    rcases z with z | z
    · have := hb _ z.1 z.2; omega
    · omega
theorem f_X3_judge_79 {t i f nb : Nat} {T : Tx} {F : Fm} {tc : Nat → Nat} {xs : List Nat} (hnb : nb + 3 < t ∨ t + 11 < nb) (htc : tc (fT F) = t) (hlt : ∀ c ∈ fC F, c.1.1 < rn (xR T)) (hnd : ndp xs) : ∀ (k q n : Nat) (h : AH), TxR h t i T → FmR tc h f F → LsR h (aR h f 1) xs → Al (ChR h) xs (fC F) → NbK h nb → (∀ j, j < rn (xR T) → aI h (nb + 2) (ro (xR T) j) = iI (nA (xR T) (goL (fC F)) j) ∧ aI h (nb + 3) (ro (xR T) j) = iI (nB (xR T) (goL (fC F)) (j + 1))) → (∀ j, j < q → aI h (xs.getD j 0) 5 = bI (sprA T (fC F) j)) → q + k = (fC F).length → k < n →
    Okp (p_X3_judge_79 n f nb (iI (qcn (sprA T (fC F)) q)) (iI q) h) (fun r h' => r = iI (qcn (sprA T (fC F)) (fC F).length) ∧ Jd nb h h' ∧ ∀ j, j < (fC F).length → aI h' (xs.getD j 0) 5 = bI (sprA T (fC F) j)) := by
  intro k
  induction k with
  | zero =>
    intro q n h hT hF hl hal hk hv hs hq hn
    obtain ⟨n, rfl⟩ : ∃ m, n = m + 1 := ⟨n - 1, by omega⟩
    obtain ⟨a1, a2, a3, a4, a5, a6, a7, a8, -⟩ := hF
    have e1 := f_size hl
    have kl := hl.2.1
    have hlen := hal.1
    unfold p_X3_judge_79
    simp (disch := omega) only [ck_t, nm_q, bR_s, j_add, j_sub, j_mul, j_nI, j_0, j_le, j_lt, j_eq, j_nat, j_ixe, bI_0, and_self, and_true, true_and, ne_eq, not_false_eq_true, not_true_eq_false, ite_true, ite_false, if_true, if_false, ck_p z_0, ck_p z_1, a3, kl, e1]
    rw [if_pos (by omega), show q = (fC F).length by omega]
    exact ok_some ⟨rfl, ⟨pi_rf, fun _ _ _ _ => rfl⟩, fun j hj => hs j (by omega)⟩
  | succ k ih =>
    intro q n h hT hF hl hal hk hv hs hq hn
    obtain ⟨n, rfl⟩ : ∃ m, n = m + 1 := ⟨n - 1, by omega⟩
    have hF' := hF
    obtain ⟨a1, a2, a3, a4, a5, a6, a7, a8, -⟩ := hF
    have e1 := f_size hl
    have kl := hl.2.1
    have hlen := hal.1
    have e2 := f_get hl (i := q) (by omega)
    have hqlt : q < (fC F).length := by omega
    have hcR := hal.2 q _ (crd_at hqlt)
    have hcm := crd_mem hqlt
    have hcP := a8 _ hcm
    have kx := hcR.2.2.1
    obtain ⟨j, hj, ej⟩ := hT.2.2.2.2.1.2 _ (hlt _ hcm)
    have v1 := hv j hj
    rw [ej] at v1
    have rA := nA_rg hT.2.1 (goL (fC F)) (i := j) (by omega)
    have rB := rl_rg hT.2.1 (qfd (gf (xR T) (goL (fC F))) (rn (xR T) - (j + 1)) (j + 1))
    have hn150 := hT.2.1.2.2.1
    have e3 := f_X3_spares hT hcR hcP a1 a3 (a4.trans htc) hk (hlt _ hcm) v1.1 v1.2 rA.1 rA.2 rB.1 (by show nB (xR T) (goL (fC F)) (j + 1) < 150; unfold nB; omega)
    have e4 : sprB T (crd (fC F) q) (nA (xR T) (goL (fC F)) j) (nB (xR T) (goL (fC F)) (j + 1)) = sprA T (fC F) q := by
      unfold sprA spr
      rw [← ej, rpos_ro hT.2.2.2.2.1 hj]
    rw [e4] at e3
    have hcq := qcn_le (sprA T (fC F)) q
    unfold p_X3_judge_79 p_X3_judge_130
    simp (disch := omega) only [ck_t, nm_q, bR_s, j_add, j_sub, j_mul, j_nI, j_0, j_le, j_lt, j_eq, j_nat, j_ixe, bI_0, and_self, and_true, true_and, ne_eq, not_false_eq_true, not_true_eq_false, ite_true, ite_false, if_true, if_false, ck_p z_0, ck_p z_1, a3, kl, e1, e2, kx, e3, K_uI, w_I1]
    rw [if_neg (by omega), ck_p (bI_z _)]
    have jd1 : Jd nb h (uI h (xs.getD q 0) 5 (bI (sprA T (fC F) q))) := ⟨pi_uI (Or.inr kx), fun x j hx hj => w_I3 hj⟩
    have hT1 := jd_tx jd1 hT hnb hk
    have p1 := pi_pr jd1.1
    have hl1 : LsR (uI h (xs.getD q 0) 5 (bI (sprA T (fC F) q))) (aR h f 1) xs := by
      refine ls_pr hl (pi_pr (S := fun q => aK h q = 3) (pi_uI kx)) (by omega) ?_
      have := hl.2.2.2.2.1; omega
    have hal1 : Al (ChR (uI h (xs.getD q 0) 5 (bI (sprA T (fC F) q)))) xs (fC F) := al_mono hal fun y c _ z => jd_ch jd1 z
    have hF1 : FmR tc (uI h (xs.getD q 0) 5 (bI (sprA T (fC F) q))) f F := by
      have nf : f ≠ xs.getD q 0 := fun z => by rw [← z] at kx; omega
      refine ⟨a1, a2, a3, a4, ?_, ?_, a7, a8, xs, hl1, hal1, hnd⟩
      · rw [w_I2 nf]; exact a5
      · rw [w_I2 nf]; exact a6
    have kn : ∀ z, z = 2 ∨ z = 3 → nb + z ≠ xs.getD q 0 := by
      intro z hz e
      rw [← e] at kx
      obtain ⟨-, -, -, -, -, -, -, n6, -, n8, -, -⟩ := hk
      rcases hz with rfl | rfl <;> omega
    have nx := ih (q + 1) n (uI h (xs.getD q 0) 5 (bI (sprA T (fC F) q))) hT1 hF1 hl1 hal1 (nbK_pi hk jd1.1) (fun j hj => by
      rw [w_I2 (kn 2 (Or.inl rfl)), w_I2 (kn 3 (Or.inr rfl))]; exact hv j hj) (fun j hj => by
      by_cases d : j = q
      · rw [d, w_I1]
      · rw [w_I2 (fun z => d (hnd j q (by omega) (by omega) z))]
        exact hs j (by omega)) (by omega) (by omega)
    rw [qcn_s] at nx
    cases c : sprA T (fC F) q
    · rw [c] at nx
      rw [if_pos rfl]
      exact ok_to nx fun r h' z => ⟨z.1, jd_tr (by rw [c] at jd1; exact jd1) z.2.1, z.2.2⟩
    · rw [c] at nx
      rw [if_neg (by decide)]
      exact ok_to nx fun r h' z => ⟨z.1, jd_tr (by rw [c] at jd1; exact jd1) z.2.1, z.2.2⟩

