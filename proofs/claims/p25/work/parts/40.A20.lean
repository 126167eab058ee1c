
theorem goL_take {cs : List Ch} {q l : Nat} (hq : q < cs.length) : goL (cs.take (q + 1)) l = (goL (cs.take q) l || (decide ((crd cs q).1.1 = l) && decide ((crd cs q).1.2.2 = 1))) := by
  unfold goL
  rw [List.take_add_one, crd_at hq, List.any_append]
  simp
theorem f_X3_judge_6 {t i f nb : Nat} {T : Tx} {F : Fm} {tc : Nat → Nat} {xs : List Nat} (hnb : nb + 3 < t ∨ t + 11 < nb) (htc : tc (fT F) = t) (hlt : ∀ c ∈ fC F, c.1.1 < rn (xR T)) (hnd : ndp xs) : ∀ (k q n : Nat) (h : AH), TxR h t i T → FmR tc h f F → LsR h (aR h f 1) xs → Al (ChR h) xs (fC F) → NbK h nb → NbG h nb (goL ((fC F).take q)) → q + k = (fC F).length → k < n →
    Okp (p_X3_judge_6 n f nb (iI q) h) (fun r h' => r = iI (qcn (sprA T (fC F)) (fC F).length) ∧ Jd nb h h' ∧ ∀ j, j < (fC F).length → aI h' (xs.getD j 0) 5 = bI (sprA T (fC F) j)) := by
  intro k
  induction k with
  | zero =>
    intro q n h hT hF hl hal hk hg hq hn
    obtain ⟨n, rfl⟩ : ∃ m, n = m + 1 := ⟨n - 1, by omega⟩
    obtain ⟨a1, a2, a3, a4, a5, a6, a7, a8, -⟩ := id hF
    have e1 := f_size hl
    have kl := hl.2.1
    have hlen := hal.1
    have kt := hT.1.2.1
    have rr := hT.1.2.2.1
    have kn := hk.2.1
    have kr : aK h (t + 1) = 9 := hT.2.1.1.2.1
    have a4' := a4.trans htc
    rw [show q = (fC F).length by omega, List.take_length] at hg
    unfold p_X3_judge_6
    simp (disch := omega) only [ck_t, nm_q, bR_s, j_add, j_sub, j_mul, j_nI, j_0, j_le, j_lt, j_eq, j_nat, j_ixe, bI_0, and_self, and_true, true_and, ne_eq, not_false_eq_true, not_true_eq_false, ite_true, ite_false, if_true, if_false, ck_p z_0, ck_p z_1, a3, kl, e1, a4', kt, kn, rr]
    rw [if_pos (by omega)]
    refine ok_bR (f_X5_find (b := nb) (a := t + 1) (by omega) hT.2.2.2.2.1 hT.2.1 hk hg) ?_
    rintro _ h1 ⟨f1, f2⟩
    have hb : ∀ q, nb ≤ q → q ≤ nb + 3 → aK h q = 7 ∨ aK h q = 20 ∨ aK h q = 22 := by
      intro q z1 z2
      obtain ⟨a0, k0, k1, k2, k3, k4, k5, k6, k7, k8, k9, k10⟩ := hk
      rcases (show q = nb ∨ q = nb + 1 ∨ q = nb + 2 ∨ q = nb + 3 by omega) with e | e | e | e <;> rw [e] <;> omega
    have jd1 : Jd nb h h1 := ⟨pi_mono f2 fun q z => Or.inl (by omega), fun x j hx hj => by
      rw [pi_I f2 (fun z => by rcases z with z | z <;> (have := hb x (by omega) (by omega); omega))]⟩
    have hT1 := jd_tx jd1 hT hnb hk
    have p1 := pi_pr f2
    have hl1 : LsR h1 (aR h1 f 1) xs := by
      rw [f2.2.2.1]
      refine ls_pr hl p1 (fun z => ?_) (fun z => ?_)
      · rcases z with z | z <;> (have := hb (aR h f 1) (by omega) (by omega); omega)
      · have := hl.2.2.2.2.1
        rcases z with z | z <;> (have := hb (aR h (aR h f 1) 1) (by omega) (by omega); omega)
    have hal1 : Al (ChR h1) xs (fC F) := al_mono hal fun y c _ z => jd_ch jd1 z
    have hF1 : FmR tc h1 f F := by
      have nf : ¬ (f = nb + 2 ∨ f = nb + 3) := fun z => by rcases z with z | z <;> (have := hb f (by omega) (by omega); omega)
      refine ⟨a1, by rw [f2.2.2.2.2.1]; exact a2, by rw [f2.1]; exact a3, by rw [f2.2.2.1]; exact a4, ?_, ?_, a7, a8, xs, hl1, hal1, hnd⟩
      · rw [pi_I f2 nf]; exact a5
      · rw [pi_I f2 nf]; exact a6
    have e := f_X3_judge_79 hnb htc hlt hnd (fC F).length 0 FU h1 hT1 hF1 hl1 hal1 (nbK_pi hk f2) f1 (fun j hj => absurd hj (Nat.not_lt_zero _)) (by omega) (by unfold FU; omega)
    exact ok_to e fun r h' z => ⟨z.1, jd_tr jd1 z.2.1, z.2.2⟩
  | succ k ih =>
    intro q n h hT hF hl hal hk hg hq hn
    obtain ⟨n, rfl⟩ : ∃ m, n = m + 1 := ⟨n - 1, by omega⟩
    obtain ⟨a1, a2, a3, a4, a5, a6, a7, a8, -⟩ := id hF
    have e1 := f_size hl
    have kl := hl.2.1
    have hlen := hal.1
    have kn := hk.2.1
    have hqlt : q < (fC F).length := by omega
    have e2 := f_get hl (i := q) (by omega)
    have hcR := hal.2 q _ (crd_at hqlt)
    have hcP := a8 _ (crd_mem hqlt)
    have kx := hcR.2.2.1
    have e3 := f_X1_goes hcR hcP
    have i0 := hcR.2.2.2.1
    unfold p_X3_judge_6 p_X3_judge_58
    simp (disch := omega) only [ck_t, nm_q, bR_s, j_add, j_sub, j_mul, j_nI, j_0, j_le, j_lt, j_eq, j_nat, j_ixe, bI_0, and_self, and_true, true_and, ne_eq, not_false_eq_true, not_true_eq_false, ite_true, ite_false, if_true, if_false, ck_p z_0, ck_p z_1, a3, kl, e1, e2, kx, e3, kn, i0]
    rw [if_neg (by omega)]
    by_cases c : (crd (fC F) q).1.2.2 = 1
    · rw [decide_eq_true c, if_neg (by decide)]
      refine ok_bR (f_X5_mark hk hg hcP.1) ?_
      rintro _ h1 ⟨q1, q2⟩
      have hb : aK h (nb + 1) = 22 := hk.2.2.2.2.2.1
      have jd1 : Jd nb h h1 := ⟨pi_mono q2 fun q z => Or.inl (by omega), fun x j hx hj => by rw [pi_I q2 (fun z => by rw [z] at hx; omega)]⟩
      have hT1 := jd_tx jd1 hT hnb hk
      have p1 := pi_pr q2
      have hl1 : LsR h1 (aR h1 f 1) xs := by
        rw [q2.2.2.1]
        refine ls_pr hl p1 (fun z => ?_) (fun z => ?_)
        · rw [z] at kl; omega
        · have := hl.2.2.2.2.1
          rw [z] at this; omega
      have hal1 : Al (ChR h1) xs (fC F) := al_mono hal fun y c _ z => jd_ch jd1 z
      have hF1 : FmR tc h1 f F := by
        have nf : f ≠ nb + 1 := fun z => by rw [z] at a3; omega
        refine ⟨a1, by rw [q2.2.2.2.2.1]; exact a2, by rw [q2.1]; exact a3, by rw [q2.2.2.1]; exact a4, ?_, ?_, a7, a8, xs, hl1, hal1, hnd⟩
        · rw [pi_I q2 nf]; exact a5
        · rw [pi_I q2 nf]; exact a6
      have eg : (fun x => if x = (crd (fC F) q).1.1 then true else goL ((fC F).take q) x) = goL ((fC F).take (q + 1)) := by
        funext x
        rw [goL_take hqlt, decide_eq_true c, Bool.and_true]
        by_cases d : x = (crd (fC F) q).1.1
        · rw [if_pos d, decide_eq_true d.symm, Bool.or_true]
        · rw [if_neg d, decide_eq_false (fun z => d z.symm), Bool.or_false]
      rw [eg] at q1
      exact ok_to (ih (q + 1) n h1 hT1 hF1 hl1 hal1 (nbK_pi hk q2) q1 (by omega) (by omega)) fun r h' z => ⟨z.1, jd_tr jd1 z.2.1, z.2.2⟩
    · rw [decide_eq_false c, if_pos rfl]
      have eg : goL ((fC F).take q) = goL ((fC F).take (q + 1)) := by
        funext x
        rw [goL_take hqlt, decide_eq_false c, Bool.and_false, Bool.or_false]
      rw [eg] at hg
      exact ih (q + 1) n h hT hF hl hal hk hg (by omega) (by omega)
theorem f_X3_judge {h : AH} {t i f nb : Nat} {T : Tx} {F : Fm} {tc : Nat → Nat} {xs : List Nat} (hnb : nb + 3 < t ∨ t + 11 < nb) (htc : tc (fT F) = t) (hlt : ∀ c ∈ fC F, c.1.1 < rn (xR T)) (hnd : ndp xs) (hT : TxR h t i T) (hF : FmR tc h f F) (hl : LsR h (aR h f 1) xs) (hal : Al (ChR h) xs (fC F)) (hk : NbK h nb) :
    Okp (p_X3_judge f nb h) (fun r h' => r = iI (qcn (sprA T (fC F)) (fC F).length) ∧ Jd nb h h' ∧ ∀ j, j < (fC F).length → aI h' (xs.getD j 0) 5 = bI (sprA T (fC F) j)) := by
  obtain ⟨a1, a2, a3, a4, a5, a6, a7, a8, -⟩ := id hF
  have f0 := eq_false a1
  have n0 := hk.1
  have kn := hk.2.1
  unfold p_X3_judge p_X3_judge_0
  simp (disch := omega) only [ck_t, nm_q, bR_s, j_add, j_sub, j_mul, j_nI, j_0, j_le, j_lt, j_eq, j_nat, j_ixe, bI_0, and_self, and_true, true_and, ne_eq, not_false_eq_true, not_true_eq_false, ite_true, ite_false, if_true, if_false, ck_p z_0, ck_p z_1, f0, n0, kn]
  refine ok_bR (f_X5_forget hk) ?_
  rintro _ h1 ⟨q1, q2⟩
  have kl := hl.2.1
  have hb : aK h (nb + 1) = 22 := hk.2.2.2.2.2.1
  have jd1 : Jd nb h h1 := ⟨pi_mono q2 fun q z => Or.inl (by omega), fun x j hx hj => by rw [pi_I q2 (fun z => by rw [z] at hx; omega)]⟩
  have hT1 := jd_tx jd1 hT hnb hk
  have p1 := pi_pr q2
  have hl1 : LsR h1 (aR h1 f 1) xs := by
    rw [q2.2.2.1]
    refine ls_pr hl p1 (fun z => ?_) (fun z => ?_)
    · rw [z] at kl; omega
    · have := hl.2.2.2.2.1
      rw [z] at this; omega
  have hal1 : Al (ChR h1) xs (fC F) := al_mono hal fun y c _ z => jd_ch jd1 z
  have hF1 : FmR tc h1 f F := by
    have nf : f ≠ nb + 1 := fun z => by rw [z] at a3; omega
    refine ⟨a1, by rw [q2.2.2.2.2.1]; exact a2, by rw [q2.1]; exact a3, by rw [q2.2.2.1]; exact a4, ?_, ?_, a7, a8, xs, hl1, hal1, hnd⟩
    · rw [pi_I q2 nf]; exact a5
    · rw [pi_I q2 nf]; exact a6
  exact ok_to (f_X3_judge_6 hnb htc hlt hnd (fC F).length 0 FU h1 hT1 hF1 hl1 hal1 (nbK_pi hk q2) q1 (by omega) (by unfold FU; omega)) fun r h' z => ⟨z.1, jd_tr jd1 z.2.1, z.2.2⟩
/-! what comes of it -/
def cmT (T : Tx) (cs : List Ch) (sp : Nat → Bool) : Nat → Tx
  | 0 => T
  | q + 1 => if sp q = true then cmT T cs sp q else if (crd cs q).1.2.2 = 1 then xgo (cmT T cs sp q) (crd cs q).1.1 else xdo (cmT T cs sp q) (3, (crd cs q).1.1, (crd cs q).1.2.2)
theorem cmT_n (T : Tx) (cs : List Ch) (sp : Nat → Bool) (q : Nat) : rn (xR (cmT T cs sp q)) = rn (xR T) ∧ (xD (cmT T cs sp q)).length + qcn sp q = (xD T).length + q := by
  induction q with
  | zero => exact ⟨rfl, rfl⟩
  | succ q ih =>
    rw [show cmT T cs sp (q + 1) = if sp q = true then cmT T cs sp q else if (crd cs q).1.2.2 = 1 then xgo (cmT T cs sp q) (crd cs q).1.1 else xdo (cmT T cs sp q) (3, (crd cs q).1.1, (crd cs q).1.2.2) from rfl, qcn_s]
    by_cases c : sp q = true
    · rw [if_pos c, if_pos c]; exact ⟨ih.1, by omega⟩
    · rw [if_neg c, if_neg c]
      by_cases d : (crd cs q).1.2.2 = 1
      · rw [if_pos d]
        refine ⟨ih.1, ?_⟩
        show (xD (cmT T cs sp q) ++ [_]).length + _ = _
        rw [List.length_append, List.length_singleton]; omega
      · rw [if_neg d]
        refine ⟨ih.1, ?_⟩
        show (xD (cmT T cs sp q) ++ [_]).length + _ = _
        rw [List.length_append, List.length_singleton]; omega
theorem xcap_le {h : AH} {t i : Nat} {T : Tx} (hT : TxR h t i T) : xcap h t ≤ 1761 := by
  obtain ⟨ds, l1, l2⟩ := hT.2.2.2.1
  exact l1.2.2.2.2.2.2.2.2.1
theorem f_X3_do_4 {t i f : Nat} {T : Tx} {F : Fm} {tc : Nat → Nat} {xs : List Nat} {sp : Nat → Bool} {z0 u0 : Nat} (htc : tc (fT F) = t) (hlt : ∀ c ∈ fC F, c.1.1 < rn (xR T)) (hdl : (xD T).length + ((fC F).length - qcn sp (fC F).length) ≤ 1174) : ∀ (k q n : Nat) (h : AH), TxR h t i (cmT T (fC F) sp q) → Wf h → FmR tc h f F → t + 11 < aR h f 1 → LsR h (aR h f 1) xs → Al (ChR h) xs (fC F) → (∀ j, j < (fC F).length → aI h (xs.getD j 0) 5 = bI (sp j)) → q + k = (fC F).length → k < n → aZ h + 2 * k ≤ aC h → aU h + 3 * k + 4 * (1761 - xcap h t) ≤ gS →
    Okp (p_X3_doChanges_4 n f (bI (decide (qcn sp q < q))) (iI q) h) (fun _ h' => Tst h t i (2 * k) (3 * k) (if qcn sp (fC F).length < (fC F).length then xver (cmT T (fC F) sp (fC F).length) else cmT T (fC F) sp (fC F).length) h') := by
  intro k
  induction k with
  | zero =>
    intro q n h hT hw hF hfl hl hal hs hq hn hz hu
    obtain ⟨n, rfl⟩ : ∃ m, n = m + 1 := ⟨n - 1, by omega⟩
    obtain ⟨a1, a2, a3, a4, a5, a6, a7, a8, -⟩ := id hF
    have e1 := f_size hl
    have kl := hl.2.1
    have hlen := hal.1
    have kt := hT.1.2.1
    have a4' := a4.trans htc
    have eq : q = (fC F).length := by omega
    unfold p_X3_doChanges_4 p_X3_doChanges_102
    simp (disch := omega) only [ck_t, nm_q, bR_s, j_add, j_sub, j_mul, j_nI, j_0, j_le, j_lt, j_eq, j_nat, j_ixe, bI_0, and_self, and_true, true_and, ne_eq, not_false_eq_true, not_true_eq_false, ite_true, ite_false, if_true, if_false, ck_p z_0, ck_p z_1, a3, kl, e1, a4', kt]
    rw [if_pos (by omega)]
    rw [eq] at hT ⊢
    have st0 : Tst h t i (2 * 0) (3 * 0) (cmT T (fC F) sp (fC F).length) h := ⟨hT, hw, pr_rf, by omega, by omega, Nat.le_refl _, Or.inl rfl⟩
    by_cases c : qcn sp (fC F).length < (fC F).length
    · rw [if_pos c, decide_eq_true c, if_neg (by decide)]
      exact ok_some (tst_ver (Or.inr trivial) st0)
    · rw [if_neg c, decide_eq_false c, if_pos rfl]
      exact ok_some st0
  | succ k ih =>
    intro q n h hT hw hF hfl hl hal hs hq hn hz hu
    obtain ⟨n, rfl⟩ : ∃ m, n = m + 1 := ⟨n - 1, by omega⟩
    obtain ⟨a1, a2, a3, a4, a5, a6, a7, a8, -⟩ := id hF
    have e1 := f_size hl
    have kl := hl.2.1
    have hlen := hal.1
    have kt := hT.1.2.1
    have a4' := a4.trans htc
    have hqlt : q < (fC F).length := by omega
    have e2 := f_get hl (i := q) (by omega)
    have hcR := hal.2 q _ (crd_at hqlt)
    have hcm := crd_mem hqlt
    have hcP := a8 _ hcm
    have kx := hcR.2.2.1
    have e3 := f_X1_goes hcR hcP
    have e5 := hs q hqlt
    have i0 := hcR.2.2.2.1
    have i2 := hcR.2.2.2.2.2.1
    have hcq := qcn_le sp q
    have ec : cmT T (fC F) sp (q + 1) = if sp q = true then cmT T (fC F) sp q else if (crd (fC F) q).1.2.2 = 1 then xgo (cmT T (fC F) sp q) (crd (fC F) q).1.1 else xdo (cmT T (fC F) sp q) (3, (crd (fC F) q).1.1, (crd (fC F) q).1.2.2) := rfl
    have hnn := cmT_n T (fC F) sp q
    have hl1 : (crd (fC F) q).1.1 < rn (xR (cmT T (fC F) sp q)) := by rw [hnn.1]; exact hlt _ hcm
    -- a step of the text's own leaves the format as it is
    have step : ∀ (h1 : AH) (T1 : Tx), Tst h t i 2 3 T1 h1 → cmT T (fC F) sp (q + 1) = T1 → qcn sp (q + 1) < q + 1 →
        Okp (p_X3_doChanges_4 n f (bI true) (iI ((q : Int) + 1)) h1) (fun _ h' => Tst h t i (2 * (k + 1)) (3 * (k + 1)) (if qcn sp (fC F).length < (fC F).length then xver (cmT T (fC F) sp (fC F).length) else cmT T (fC F) sp (fC F).length) h') := by
      intro h1 T1 st e hc
      have st' := st
      obtain ⟨s1, s2, s3, s4, s5, s6, s7⟩ := st
      have kd := tS_kinds hT
      have hx1 := xcap_le s1
      have hk3 : ∀ q, tS h t q → aK h q ≠ 3 := fun q z => by have := kd q z; omega
      have nf : ¬ tS h t f := fun z => by have := kd f z; omega
      have nl : ¬ tS h t (aR h f 1) := by
        rintro (z | z | z)
        · omega
        · omega
        · have := hl.2.1
          obtain ⟨ds, l1, l2⟩ := hT.2.2.2.1
          have := l1.2.2.2.2.1
          rw [← z.1] at this; omega
      have na : ¬ tS h t (aR h (aR h f 1) 1) := by
        have k26 := hl.2.2.2.2.1
        rintro (z | z | z)
        · have := tx_kinds hT _ z.1 z.2; omega
        · have := tx_kinds hT (t + 10) (by omega) (by omega)
          rw [z] at k26; omega
        · obtain ⟨ds, l1, l2⟩ := hT.2.2.2.1
          rcases hw.2.2.1 (aR h f 1) (t + 10) hl.2.1 l1.2.1 z.1 with w | w
          · omega
          · exact z.2 w
      have hF1 := fm_pr hF s3 nf nl na hk3
      have ef : aR h1 f = aR h f := pr_R s3 a2 nf
      have hl2 : LsR h1 (aR h1 f 1) xs := by rw [ef]; exact ls_pr hl s3 nl na
      have hal2 : Al (ChR h1) xs (fC F) := al_mono hal fun y c _ z => ch_pr z s3 (fun w => hk3 _ w z.2.2.1)
      have hs2 : ∀ j, j < (fC F).length → aI h1 (xs.getD j 0) 5 = bI (sp j) := by
        intro j hj
        have hx := hal.2 j _ (crd_at hj)
        rw [pr_I s3 hx.2.1 (fun w => hk3 _ w hx.2.2.1)]
        exact hs j hj
      have := ih (q + 1) n h1 (by rw [e]; exact s1) s2 hF1 (by rw [ef]; exact hfl) hl2 hal2 hs2 (by omega) (by omega) (by have := s3.2.2.1; omega) (by omega)
      rw [decide_eq_true hc] at this
      refine ok_to this fun _ h' z => ?_
      have tt := tst_tr hT st' z
      rw [show 2 * (k + 1) = 2 + 2 * k by omega, show 3 * (k + 1) = 3 + 3 * k by omega]
      exact tt
    have hcmono := qcn_mono sp (i := q + 1) (k := (fC F).length) (by omega)
    have hcrest : qcn sp (fC F).length ≤ qcn sp (q + 1) + ((fC F).length - (q + 1)) := by
      have : ∀ d, qcn sp (q + 1 + d) ≤ qcn sp (q + 1) + d := by
        intro d
        induction d with
        | zero => exact Nat.le_refl _
        | succ d ihd => rw [← Nat.add_assoc, qcn_s]; split <;> omega
      have := this ((fC F).length - (q + 1))
      rw [show q + 1 + ((fC F).length - (q + 1)) = (fC F).length by omega] at this
      exact this
    unfold p_X3_doChanges_4 p_X3_doChanges_79
    simp (disch := omega) only [ck_t, nm_q, bR_s, j_add, j_sub, j_mul, j_nI, j_0, j_le, j_lt, j_eq, j_nat, j_ixe, bI_0, and_self, and_true, true_and, ne_eq, not_false_eq_true, not_true_eq_false, ite_true, ite_false, if_true, if_false, ck_p z_0, ck_p z_1, a3, kl, e1, e2, kx, e5, e3, a4', kt, i0, i2]
    rw [if_neg (by omega)]
    cases c : sp q
    · have hs1 : qcn sp (q + 1) = qcn sp q := by rw [qcn_s, c]; rfl
      rw [if_pos rfl]
      rw [if_neg (by rw [c]; decide)] at ec
      by_cases d : (crd (fC F) q).1.2.2 = 1
      · rw [decide_eq_true d, if_neg (by decide)]
        rw [if_pos d] at ec
        refine ok_bR (f_X9_letGo hT hw hl1 (by omega) (by omega) (by omega)) ?_
        intro _ h1 st
        exact step h1 _ st ec (by omega)
      · rw [decide_eq_false d, if_pos rfl]
        rw [if_neg d] at ec
        refine ok_bR (f_X9_become hT hw hl1 (by have := hcP.2.2.2.1; omega) hcP.2.2.2.2.1 (by omega) (by omega) (by omega)) ?_
        intro _ h1 st
        exact step h1 _ st ec (by omega)
    · rw [if_neg (by decide)]
      rw [if_pos c] at ec
      have hs1 : qcn sp (q + 1) = qcn sp q + 1 := by rw [qcn_s, c]; rfl
      have nx := ih (q + 1) n h (by rw [ec]; exact hT) hw hF hfl hl hal hs (by omega) (by omega) (by omega) (by omega)
      rw [hs1, show decide (qcn sp q + 1 < q + 1) = decide (qcn sp q < q) from decide_eq_decide.mpr (by omega)] at nx
      refine ok_to nx fun _ h' z => ?_
      obtain ⟨s1, s2, s3, s4, s5, s6, s7⟩ := z
      exact ⟨s1, s2, s3, by omega, by omega, s6, s7⟩
theorem f_X3_do {h : AH} {t i f : Nat} {T : Tx} {F : Fm} {tc : Nat → Nat} {xs : List Nat} {sp : Nat → Bool} (htc : tc (fT F) = t) (hlt : ∀ c ∈ fC F, c.1.1 < rn (xR T)) (hdl : (xD T).length + ((fC F).length - qcn sp (fC F).length) ≤ 1174) (hT : TxR h t i T) (hw : Wf h) (hF : FmR tc h f F) (hfl : t + 11 < aR h f 1) (hl : LsR h (aR h f 1) xs) (hal : Al (ChR h) xs (fC F)) (hs : ∀ j, j < (fC F).length → aI h (xs.getD j 0) 5 = bI (sp j)) (hz : aZ h + 300 ≤ aC h) (hu : aU h + 450 + 4 * (1761 - xcap h t) ≤ gS) :
    Okp (p_X3_doChanges f h) (fun _ h' => Tst h t i 300 450 (if qcn sp (fC F).length < (fC F).length then xver (cmT T (fC F) sp (fC F).length) else cmT T (fC F) sp (fC F).length) h') := by
  obtain ⟨a1, a2, a3, a4, a5, a6, a7, a8, -⟩ := id hF
  have f0 := eq_false a1
  have e := f_X3_do_4 (z0 := 0) (u0 := 0) htc hlt hdl (fC F).length 0 FU h hT hw hF hfl hl hal hs (by omega) (by unfold FU; omega) (by omega) (by omega)
  unfold p_X3_doChanges p_X3_doChanges_0
  simp (disch := omega) only [ck_t, nm_q, bR_s, j_add, j_sub, j_mul, j_nI, j_0, j_le, j_lt, j_eq, j_nat, j_ixe, bI_0, and_self, and_true, true_and, ne_eq, not_false_eq_true, not_true_eq_false, ite_true, ite_false, if_true, if_false, ck_p z_0, ck_p z_1, f0]
  refine ok_to e fun _ h' z => ?_
  obtain ⟨s1, s2, s3, s4, s5, s6, s7⟩ := z
  exact ⟨s1, s2, s3, by omega, by omega, s6, s7⟩

