
def asM (S : Cs) (b kd nb : Int) : Out :=
  if ¬ tOk b then (.error 1, S)
  else if askOk kd nb = false then (.error 2, S)
  else if 60 ≤ (cF S).length then (.error 3, S)
  else (.ok (cF S).length, (cX S, cH S, cF S ++ [(b.toNat, 0, askC (xR (cX S b.toNat)) kd nb, 0)], cQ S, cN S))
theorem f_X3_init {h : AH} {tc : Nat → Nat} {f l i : Nat} {cs : List Ch} {ys : List Nat} (hf : f ≠ 0) (hk : aK h f = 5) (hz : f < aZ h) (ht : tc i ≠ 0) (i3 : aI h f 3 = iI 0) (hl : LsR h l ys) (hal : Al (ChR h) ys cs) (hnd : ndp ys) (hn : cs.length ≤ 150) (hP : ∀ k ∈ cs, ChP k) (hw : Wf h) : Okp (p_X3_init f (tc i) l h) (fun _ h' => FmR tc h' f (i, 0, cs, 0) ∧ aR h' f 1 = l ∧ Prs (fun q => q = f) h h' ∧ aZ h' = aZ h ∧ aU h' = aU h ∧ aC h' = aC h ∧ Wf h') := by
  have f0 := eq_false hf
  have t0 := eq_false ht
  have l0 := hl.1
  have kl := hl.2.1
  have k26 := hl.2.2.2.2.1
  unfold p_X3_init p_X3_init_0
  simp (disch := omega) only [ck_t, nm_q, bR_s, j_add, j_sub, j_mul, j_nI, j_0, j_le, j_lt, j_eq, j_nat, j_ixe, bI_0, and_self, and_true, true_and, ne_eq, not_false_eq_true, not_true_eq_false, ite_true, ite_false, if_true, if_false, ck_p z_0, ck_p z_1, K_uI, N_uI, R_uI, L_uI, Z_uI, U_uI, E_uI, C_uI, M_uI, I_uI, K_uR, N_uR, I_uR, L_uR, Z_uR, U_uR, E_uR, C_uR, M_uR, R_uR, f0, t0, l0, hk]
  have p : Prs (fun q => q = f) h (uR (uR (uI h f 2 (iI 0)) f 0 (tc i)) f 1 l) := pr_tr (pr_uI rfl) (pr_tr (pr_uR rfl) (pr_uR rfl))
  have e1 : aR (uR (uR (uI h f 2 (iI 0)) f 0 (tc i)) f 1 l) f 1 = l := w_R1 _ _ _ _
  refine ok_some ⟨⟨hf, hz, hk, ?_, ?_, ?_, hn, hP, ys, ?_, al_mono hal fun y k _ z => ch_pr z p (fun e => by have := z.2.2.1; rw [e] at this; omega), hnd⟩, e1, p, rfl, rfl, rfl, ⟨hw.1, hw.2.1, ?_, ?_, hw.2.2.2.2⟩⟩
  · rw [w_R3 (by decide)]; exact w_R1 _ _ _ _
  · show aI (uI h f 2 (iI 0)) f 2 = iI 0
    exact w_I1 _ _ _ _
  · show aI (uI h f 2 (iI 0)) f 3 = iI 0
    rw [w_I3 (by decide)]; exact i3
  · rw [e1]
    exact ls_pr hl p (fun e => by rw [e] at kl; omega) (fun e => by rw [e] at k26; omega)
  · intro l1 l2 a1 a2
    have b1 : aK h l1 = 1 := a1
    have b2 : aK h l2 = 1 := a2
    have n1 : l1 ≠ f := fun z => by rw [z] at b1; omega
    have n2 : l2 ≠ f := fun z => by rw [z] at b2; omega
    rw [w_R2 n1, w_R2 n2, w_R2 n1, w_R2 n2]
    exact hw.2.2.1 l1 l2 b1 b2
  · intro l1 a1
    have b1 : aK h l1 = 1 := a1
    have n1 : l1 ≠ f := fun z => by rw [z] at b1; omega
    rw [w_R2 n1, w_R2 n1]
    exact hw.2.2.2.1 l1 b1
theorem ask_tail {h1 g h2 : AH} {c b' r f : Nat} {S : Cs} {cs : List Ch} {ys : List Nat} (hC1 : CkR h1 c S) (hb3 : b' < 3) (hlen : (cF S).length < 60) (ef : f = aZ h1) (p0 : Prs (fun q => aZ h1 ≤ q) h1 g) (gz : aZ g = aZ h1 + 1) (gu : aU g ≤ aU h1 + 4) (gk : aK g f = 5) (gi : aI g f 3 = iI 0) (er : r = aZ g) (x1 : Wf h2) (x2 : LsR h2 r ys) (x3 : Al (ChR h2) ys cs) (x4 : ndp ys) (x5 : Prs (nS (c + 9) (aZ g)) g h2) (x7 : aZ h2 ≤ aZ g + 301) (x8 : aU h2 ≤ aU g + 7947) (hlenC : cs.length ≤ 150) (hchP : ∀ k ∈ cs, ChP k ∧ k.1.1 < rn (xR (cX S b'))) (r1 : aZ h1 + 1000 ≤ aC h1) (r2 : aU h1 + 15100 ≤ gS) :
    Okp (ck (aK h2 f ≠ 0) <| bR (p_X3_init f (tcc c b') r h2) fun r28 h29 => ck (aK h29 (c + 3) = 1) <| bR (p_Jx4a65c_add_9ea2d (c + 3) f h29) fun r31 h32 => ck (aK h32 c = 12) <| ck (aK h32 (aR h32 c 2) = 1) <| bR (p_Jx4a65c_size_8abf5 (aR h32 c 2) h32) fun r35 h36 => (some (.ok (r35 - (iI 1)), h36) : Option (Except Nat Int32 × AH)))
      (fun r h' => r = .ok (iI (cF S).length) ∧ CkR h' c (cX S, cH S, cF S ++ [(b', 0, cs, 0)], cQ S, cN S) ∧ Cst c h1 304 8343 h') := by
  have hzz : c + 62 < aZ h1 := hC1.1.2.2.2.2.2.2.2.2.2.2.2.2.2.2
  have hf1 : f < aZ g := by omega
  have kf2 : aK h2 f = 5 := by rw [pr_K x5 hf1]; exact gk
  have if2 : aI h2 f 3 = iI 0 := by rw [pr_I x5 hf1 (fun z => by unfold nS at z; omega)]; exact gi
  have zz2 := x5.1
  have c2 := x5.2.2.1
  have c1 := p0.2.2.1
  rw [ck_p (by rw [kf2]; decide)]
  refine ok_bR (f_X3_init (tc := tcc c) (by omega) kf2 (by omega) (by unfold tcc; omega) if2 x2 x3 x4 hlenC (fun k hk => (hchP k hk).1) x1) ?_
  rintro _ h3 ⟨y1, y2, y3, y4, y5, y6, y7⟩
  have pa : Prs (fun q => (c + 9 < q ∧ q ≤ c + 12) ∨ aZ h1 ≤ q) h1 h3 := pr_tr (pr_mono p0 fun q _ z => Or.inr z) (pr_tr (pr_mono x5 fun q _ z => by unfold nS at z; omega) (pr_mono y3 fun q _ z => Or.inr (by omega)))
  have hC3 := ck_gen hC1 y7 pa (fun q z => z)
  have s3 : Cst c h1 303 7951 h3 := ⟨pr_mono pa fun q _ z => by unfold cS; omega, by omega, by omega⟩
  obtain ⟨gs, ps, g1, g2, g3, g4, g5, g6, g7⟩ := hC1.2.2.2.2.2.2.1
  obtain ⟨gs', ps', g1', g2', g3', g4', g5', g6', g7'⟩ := hC3.2.2.2.2.2.2.1
  have k26 := g1.2.2.2.2.1
  have k27 := g1.2.2.2.2.2.2.1
  have L3 : LsR h3 (c + 3) gs := ls_pr g1 pa (by omega) (fun z => by
    rcases z with z | z
    · have := ck_kinds hC1 (aR h1 (c + 3) 1) (by omega) (by omega); omega
    · omega)
  have eg := ls_un g1' L3
  subst eg
  have glen := g2'.1
  have hlc := g7'.2.1
  have c3 := pa.2.2.1
  rw [ck_p g1'.2.1]
  have hx : obk h3 f := ⟨by omega, by omega, by rw [y1.2.2.1]; decide, by rw [y1.2.2.1]; decide⟩
  have hn1 : gs'.length ≤ 1173 := by omega
  have hz1 : aZ h3 + 1 ≤ aC h3 := by omega
  have hu1 : aU h3 + 4 * (1761 - lc h3 (c + 3)) ≤ gS := by omega
  refine ok_bR (f_add (x := f) g1' hC3.2.1 hx hn1 hz1 hu1) ?_
  rintro rr h4 ⟨w1, w2, w3, w4, w5, w6, w7, w8, w9⟩
  have hlc4 : lc h4 (c + 3) ≤ 98 := by
    rcases w9 with w | w
    · omega
    · omega
  have hr0 : c + 62 < aR h3 f 1 := by rw [y2]; omega
  have hne : ∀ y ∈ gs', y ≠ f := fun y hy e => by have := (g1.2.2.2.2.2.2.2.2.2.2.2 y hy).2.1; omega
  have hC4 := ck_addF hC3 g1' g2' g3' g4' g5' g6' g7' w4 w3 w2 hlc4 y1 hr0 hne ⟨hb3, Int.le_refl 0, (show (0 : Int) ≤ 2 by decide), Int.le_refl 0, (show (0 : Int) ≤ 150 by decide), fun k hk => (hchP k hk).2⟩ hlen
  obtain ⟨-, v1, -, -, v4, -⟩ := ck_c0 hC4
  have e4 := f_size w2
  rw [ck_p v1]
  simp only [v4]
  rw [ck_p w2.2.1, bR_e e4, List.length_append, List.length_singleton, glen]
  have s4 : Cst c h3 1 392 h4 := by
    refine ⟨pr_mono w4 fun q _ z => ?_, by omega, by omega⟩
    rcases z with z | z
    · exact Or.inl (by omega)
    · exact Or.inr (Or.inr (Or.inl (by rw [z.1]; exact g1'.2.2.2.2.1)))
  refine ok_some ⟨?_, hC4, cst_mono (cst_tr s3 s4) (by decide) (by decide)⟩
  rw [show iI (((cF S).length + 1 : Nat) : Int) - iI 1 = iI ((cF S).length : Int) by rw [j_sub]; congr 1; omega]
theorem ask_mid {h1 : AH} {c b' m : Nat} {S : Cs} {Lt : Nat → Nat} {Sg Wn : Nat → Int} (hC1 : CkR h1 c S) (hb3 : b' < 3) (hlen : (cF S).length < 60) (gP1 : PlR h1 (c + 5) m Lt Sg Wn) (hLt : ∀ q, q < m → ∃ i, i < rn (xR (cX S b')) ∧ Lt q = ro (xR (cX S b')) i) (r1 : aZ h1 + 1000 ≤ aC h1) (r2 : aU h1 + 15100 ≤ gS) :
    Okp (ck (aK h1 c = 12) <| ck (aZ h1 + 1 ≤ aC h1 ∧ aU h1 + 4 ≤ gS) <| nm (uN h1 5 4) fun h20 => ck (aK h20 c = 12) <| ck (aK h20 (tcc c b') = 11) <| ck (aK h20 c = 12) <| ck (aK h20 (aR h20 c 4) = 8) <| bR (p_X6_changes (aR h20 c 4) (aR h20 (tcc c b') 1) (aR h20 c 5) h20) fun r25 h26 => ck (aK h26 (aZ h1) ≠ 0) <| bR (p_X3_init (aZ h1) (tcc c b') r25 h26) fun r28 h29 => ck (aK h29 (aR h1 c 2) = 1) <| bR (p_Jx4a65c_add_9ea2d (aR h1 c 2) (aZ h1) h29) fun r31 h32 => ck (aK h32 c = 12) <| ck (aK h32 (aR h32 c 2) = 1) <| bR (p_Jx4a65c_size_8abf5 (aR h32 c 2) h32) fun r35 h36 => (some (.ok (r35 - (iI 1)), h36) : Option (Except Nat Int32 × AH)))
      (fun r h' => r = .ok (iI (cF S).length) ∧ CkR h' c (cX S, cH S, cF S ++ [(b', 0, chl Lt Sg Wn (chA (xR (cX S b')) (gw Lt Wn m) Lt) (chB (xR (cX S b')) (gw Lt Wn m) Lt) m, 0)], cQ S, cN S) ∧ Cst c h1 304 8343 h') := by
  have et : tcc c b' = c + 13 + 12 * b' := rfl
  have hzz : c + 62 < aZ h1 := hC1.1.2.2.2.2.2.2.2.2.2.2.2.2.2.2
  have m4' := (ck_c0 hC1).2.2.2.2.1
  have hT1 := hC1.2.2.2.2.1 b' hb3
  have hlenC : (chl Lt Sg Wn (chA (xR (cX S b')) (gw Lt Wn m) Lt) (chB (xR (cX S b')) (gw Lt Wn m) Lt) m).length ≤ 150 := by
    have := chl_len Lt Sg Wn (chA (xR (cX S b')) (gw Lt Wn m) Lt) (chB (xR (cX S b')) (gw Lt Wn m) Lt) m
    have h9 := gP1.2.2.1
    omega
  have hchP : ∀ k ∈ chl Lt Sg Wn (chA (xR (cX S b')) (gw Lt Wn m) Lt) (chB (xR (cX S b')) (gw Lt Wn m) Lt) m, ChP k ∧ k.1.1 < rn (xR (cX S b')) := by
    intro k hk
    obtain ⟨q, w1, w2, w3⟩ := chl_mem hk
    have hh := gP1.2.2.2 q w1
    obtain ⟨i, i1, i2⟩ := hLt q w1
    have ho := (hT1.2.1.2.2.2 i i1).2.1
    have rA := nA_rg hT1.2.1 (gw Lt Wn m) (rpos_le (xR (cX S b')) (Lt q))
    have rB := fun z => rl_rg hT1.2.1 z
    have h9 := hT1.2.1.2.2.1
    subst w3
    refine ⟨⟨hh.2.1, hh.2.2.2.1, hh.2.2.2.2.1, by show 1 ≤ Wn q; have := hh.2.2.2.2.2.2.1; omega, hh.2.2.2.2.2.2.2, rA.1, rA.2, (rB _).1, ?_⟩, by show Lt q < _; omega⟩
    have := (rB (qfd (gf (xR (cX S b')) (gw Lt Wn m)) (rn (xR (cX S b')) - (rpos (xR (cX S b')) (Lt q) + 1)) (rpos (xR (cX S b')) (Lt q) + 1))).2
    show nB _ _ _ < 150
    unfold nB
    omega
  rw [ck_p (ck_c0 hC1).2.1, ck_p ⟨by omega, by omega⟩, nm_q, m4']
  have p0 : Prs (fun q => aZ h1 ≤ q) h1 (uN h1 5 4) := pr_uN
  have hC2 : CkR (uN h1 5 4) c S := ck_gen hC1 (wf_uN hC1.2.1 (by decide)) p0 (fun q z => Or.inr z)
  have gz : aZ (uN h1 5 4) = aZ h1 + 1 := rfl
  have gu : aU (uN h1 5 4) = aU h1 + 4 := rfl
  have gc : aC (uN h1 5 4) = aC h1 := rfl
  have gk : aK (uN h1 5 4) (aZ h1) = 5 := w_KN1 h1 5 4
  have gi : aI (uN h1 5 4) (aZ h1) 3 = iI 0 := by rw [w_IN1]; exact j_0
  have gP : PlR (uN h1 5 4) (c + 5) m Lt Sg Wn := plR_pr gP1 p0 (fun q z1 z2 => by omega)
  generalize uN h1 5 4 = g at *
  obtain ⟨-, m1, -, -, m4, -, m6, m7⟩ := ck_c0 hC2
  obtain ⟨t1, t2, t3, t4⟩ := t_kind hC2 hb3
  have hT2 := hC2.2.2.2.2.1 b' hb3
  rw [ck_p m1, ck_p t1, ck_p m1]
  simp only [m6, m7, t2]
  rw [ck_p hC2.2.2.1.2.1]
  refine ok_bR (f_X6_changes (b := c + 5) (nb := c + 9) (a := tcc c b' + 1) (by omega) (by omega) hT2.2.2.2.2.1 hLt hT2.2.1 gP hC2.2.2.2.1 hC2.2.1 (by omega) (by omega)) ?_
  rintro r h2 ⟨ys, e2, x1, x2, x3, x4, x5, x6, x7, x8⟩
  exact ask_tail hC1 hb3 hlen rfl p0 gz (by omega) gk gi e2 x1 x2 x3 x4 x5 x7 x8 hlenC hchP r1 r2
theorem f_ask {h : AH} {c : Nat} {S : Cs} (hC : CkR h c S) (hr : Rdy h S) {b kd nb : Int} (b1 : -2147483648 ≤ b) (b2 : b < 2147483648) (k1' : -2147483648 ≤ kd) (k2' : kd < 2147483648) (n1' : -2147483648 ≤ nb) (n2' : nb < 2147483648) : Okp (p_X10_ask c (iI b) (iI kd) (iI nb) h) (Ans c h (asM S b kd nb)) := by
  obtain ⟨r1, r2, r3, r4⟩ := hr
  obtain ⟨k0, k1, k2, k3, k4, k5, k6, k7⟩ := ck_c0 hC
  unfold p_X10_ask p_X10_ask_0 asM
  simp only [k0, k1, ne_eq, not_false_eq_true, ck_t]
  by_cases hb : tOk b
  · rw [bX_ok (f_textAt hC hb.1 hb.2), if_neg (show ¬ ¬ tOk b from fun z => z hb)]
    obtain ⟨b', rfl⟩ : ∃ b' : Nat, b = b' := ⟨b.toNat, by have := hb.1; omega⟩
    have hb3 : b' < 3 := by have := hb.2; omega
    simp only [Int.toNat_natCast]
    rw [bR_e (f_canBeAsked k1' k2' n1' n2')]
    simp only [j_0, bI_0]
    cases hq : askOk kd nb
    · rw [if_pos (show false = false from rfl), if_pos (show false = false from rfl), ck_p ⟨by omega, by omega⟩]
      exact ok_some (ans_ex hC cst_rf (by decide) (by decide))
    · rw [if_neg (show ¬ (true = false) by decide), if_neg (show ¬ (true = false) by decide)]
      obtain ⟨fs, qs, f1, f2, f3, f4, f5, f6, f7⟩ := hC.2.2.2.2.2.2.1
      have hfl := hC.2.2.2.2.2.2.2.2.2.1
      have e1 := f_size f1
      have kl := f1.2.1
      rw [ck_p k1]
      simp only [k4]
      rw [ck_p kl, bR_e e1, f2.1]
      simp only [j_lt (show (-2147483648 : Int) ≤ ((cF S).length : Int) by omega) (show ((cF S).length : Int) < 2147483648 by omega) (show (-2147483648 : Int) ≤ 60 by decide) (show (60 : Int) < 2147483648 by decide)]
      by_cases hf : 60 ≤ (cF S).length
      · rw [if_neg (show ¬ ((cF S).length : Int) < 60 by omega), if_pos hf, ck_p ⟨by omega, by omega⟩]
        exact ok_some (ans_ex hC cst_rf (by decide) (by decide))
      · rw [if_pos (show ((cF S).length : Int) < 60 by omega), if_neg hf]
        have hkd : 0 ≤ kd ∧ kd ≤ 3 ∧ 0 ≤ nb ∧ nb ≤ 40 := by
          unfold askOk at hq
          by_cases c3 : kd = 3
          · rw [if_pos c3] at hq; have := of_decide_eq_true hq; omega
          · rw [if_neg c3] at hq; have := of_decide_eq_true hq; omega
        obtain ⟨t1, t2, t3, t4⟩ := t_kind hC hb3
        have et : tcc c b' = c + 13 + 12 * b' := rfl
        have hT := hC.2.2.2.2.1 b' hb3
        have kp := hC.2.2.1.2.1
        have hzz : c + 62 < aZ h := hC.1.2.2.2.2.2.2.2.2.2.2.2.2.2.2
        rw [ck_p k1, ck_p t1]
        simp only [k6, t2]
        rw [ck_p kp]
        refine ok_bR (f_X6_draw (b := c + 5) (a := tcc c b' + 1) (by omega) hT.2.1 hC.2.2.1 hkd.1 hkd.2.1 hkd.2.2.1 (by omega)) ?_
        rintro _ h1 ⟨q1, q2⟩
        have pj : Pi (fun q => (c + 5 ≤ q ∧ q ≤ c + 12) ∨ aK h q = 3) h h1 := pi_mono q2 fun q z => Or.inl (by obtain ⟨z1, z2⟩ := z; omega)
        have hC1 := ck_pi hC pj (fun x j hx hj => by
          rw [pi_I q2 (fun z => by obtain ⟨z1, z2⟩ := z; have := ck_kinds hC x (by omega) (by omega); omega)])
        have z1 : aZ h1 = aZ h := pj.2.2.2.2.1
        have u1 : aU h1 = aU h := pj.2.2.2.2.2.1
        have cc1 : aC h1 = aC h := pj.2.2.2.2.2.2.2.1
        have s1 : Cst c h 0 0 h1 := ⟨pr_mono (pi_pr pj) fun q _ z => by unfold cS; omega, by omega, by omega⟩
        have fin := ask_mid hC1 hb3 (by omega) q1 (fun q hq => by
          obtain ⟨i, i1, i2, -, -⟩ := rsh_in hq
          exact ⟨i, i1, i2⟩) (by omega) (by omega)
        clear q1
        refine ok_to fin ?_
        rintro r h' ⟨e1, e2, e3⟩
        exact ⟨e1, e2, cst_mono (cst_tr s1 e3) (by decide) (by decide)⟩
  · rw [bX_er (f_textAt_no hC b1 b2 hb (by omega) (by omega)), if_pos hb]
    exact ok_some (ans_ex hC cst_rf (by decide) (by decide))

