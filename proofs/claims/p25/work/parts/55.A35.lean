
/-! ===== a save is asked for ===== -/
theorem ifc {α : Type} {p q : Prop} {ip : Decidable p} [iq : Decidable q] {x y : α} (h : p = q) : (@ite α p ip x y) = (@ite α q iq x y) := by
  by_cases c : p
  · rw [if_pos c, if_pos (h ▸ c)]
  · rw [if_neg c, if_neg (h ▸ c)]
def svM (S : Cs) (a b z : Int) : Out :=
  if ¬ (hOk a ∧ tOk b ∧ (z = -1 ∨ fOk S z)) then (.error 1, S)
  else if z ≠ -1 ∧ fT (fmD (cF S)[z.toNat]?) ≠ b.toNat then (.error 2, S)
  else if 60 ≤ cN S then (.error 3, S)
  else (.ok (cN S), (cX S, cH S, cF S, cQ S ++ [(cN S, a.toNat, b.toNat, z)], cN S + 1))
/-- the saves' number -/
theorem ck_n {h : AH} {c n : Nat} {S : Cs} (hC : CkR h c S) (hn : n ≤ 60) : CkR (uI h c 6 (iI n)) c (cX S, cH S, cF S, cQ S, n) := by
  have hC' := hC
  obtain ⟨hK, hW, hP, hN, hX, hH, hF, hs1, hs2, hf1, hq1, hfp⟩ := hC
  have kc := hK.2.1
  have p : Pi (fun q => q = c) h (uI h c 6 (iI n)) := pi_uI rfl
  have pp := pi_pr p
  have ar : ∀ l2 ys, LsR h l2 ys → ¬ aR h l2 1 = c := fun l2 ys z1 z => by have := z1.2.2.2.2.1; rw [z] at this; omega
  obtain ⟨fs, qs, f1, f2, f3, f4, f5, f6, f7⟩ := id hF
  refine ⟨hK, wf_pi hW p, plK_pi hP p, nbK_pi hN p, fun i hi => ?_, fun j hj => ?_, fr_F hC' pp rfl rfl (by omega) (by omega) (fun l2 ys z1 _ => ar l2 ys z1) (fun q z1 z2 z3 => by omega) (fun q _ z => by rw [z]; omega), w_I1 _ _ _ _, hn, hf1, hq1, hfp⟩
  · have ei : tcc c i = c + 13 + 12 * i := rfl
    obtain ⟨ds2, m1, m2⟩ := (hX i hi).2.2.2.1
    exact txR_pr (hX i hi) pp (fun q z1 z2 => by omega) (ar _ _ m1) (fun q z => by rw [z]; omega)
  · have ej : hcc c j = c + 49 + 2 * j := rfl
    obtain ⟨-, h0, -, -, -, -, -, ys, m1, -⟩ := hH j hj
    exact hd_pr (hH j hj) pp (by omega) (by omega) (ar _ _ m1) (fun q z => by rw [z]; omega)
theorem f_X8_init {h : AH} {c x n a b : Nat} {z : Int} {f : Nat} {fs : List Nat} (hx : x ≠ 0) (hk : aK h x = 10) (hz : x < aZ h) (n1 : n < 60) (a1 : a < 5) (b1 : b < 3) (z1 : -1 ≤ z) (z2 : z < fs.length) (ef : f = if z < 0 then 0 else fs.getD z.toNat 0) :
    Okp (p_X8_init x (iI n) (iI a) (tcc c b) f h) (fun _ h' => SvR c fs h' x (n, a, b, z) ∧ Prs (fun q => q = x) h h' ∧ aZ h' = aZ h ∧ aU h' = aU h ∧ aC h' = aC h ∧ (Wf h → Wf h')) := by
  have x0 := eq_false hx
  have t0 : (tcc c b = 0) = False := eq_false (by unfold tcc; omega)
  unfold p_X8_init p_X8_init_0
  simp (disch := omega) only [ck_t, nm_q, bR_s, j_add, j_sub, j_mul, j_nI, j_0, j_le, j_lt, j_eq, j_nat, j_ixe, bI_0, and_self, and_true, true_and, ne_eq, not_false_eq_true, not_true_eq_false, ite_true, ite_false, if_true, if_false, ck_p z_0, ck_p z_1, K_uI, N_uI, R_uI, L_uI, Z_uI, U_uI, E_uI, C_uI, M_uI, I_uI, K_uR, N_uR, I_uR, L_uR, Z_uR, U_uR, E_uR, C_uR, M_uR, R_uR, x0, t0, hk]
  have p : Prs (fun q => q = x) h (uR (uR (uI (uI h x 0 (iI n)) x 2 (iI a)) x 1 (tcc c b)) x 3 f) := pr_tr (pr_uI rfl) (pr_tr (pr_uI rfl) (pr_tr (pr_uR rfl) (pr_uR rfl)))
  refine ok_some ⟨⟨hx, hz, hk, ?_, ?_, ?_, ?_, n1, a1, b1, z1, z2⟩, p, rfl, rfl, rfl, fun hw => ⟨hw.1, hw.2.1, ?_, ?_, hw.2.2.2.2⟩⟩
  · show aI (uI (uI h x 0 (iI n)) x 2 (iI a)) x 0 = iI n
    rw [w_I3 (by decide), w_I1]
  · show aI (uI (uI h x 0 (iI n)) x 2 (iI a)) x 2 = iI a
    rw [w_I1]
  · rw [w_R3 (by decide), w_R1]
  · rw [w_R1]; exact ef
  · intro l1 l2 a1 a2
    have b1 : aK h l1 = 1 := a1
    have b2 : aK h l2 = 1 := a2
    have n1 : l1 ≠ x := fun z => by rw [z] at b1; omega
    have n2 : l2 ≠ x := fun z => by rw [z] at b2; omega
    rw [w_R2 n1, w_R2 n2, w_R2 n1, w_R2 n2]
    exact hw.2.2.1 l1 l2 b1 b2
  · intro l1 a1
    have b1 : aK h l1 = 1 := a1
    have n1 : l1 ≠ x := fun z => by rw [z] at b1; omega
    rw [w_R2 n1, w_R2 n1]
    exact hw.2.2.2.1 l1 b1
theorem save_54 {h : AH} {c a b f : Nat} {z : Int} {S : Cs} {fs : List Nat} (hC : CkR h c S) (hr : Rdy h S) (hqn : (cQ S).length ≤ cN S) (ha : a < 5) (hb : b < 3) (g1 : LsR h (c + 3) fs) (z1 : -1 ≤ z) (z2 : z < (cF S).length) (ef : f = if z < 0 then 0 else fs.getD z.toNat 0) :
    Okp (p_X10_save_54 c (iI a) (tcc c b) f h) (Ans c h (if 60 ≤ cN S then (.error 3, S) else (.ok (cN S), (cX S, cH S, cF S, cQ S ++ [(cN S, a, b, z)], cN S + 1)))) := by
  obtain ⟨r1, r2, r3, r4⟩ := hr
  obtain ⟨k0, k1, k2, k3, k4, k5, k6, k7⟩ := ck_c0 hC
  have e6 : aI h c 6 = iI (cN S) := hC.2.2.2.2.2.2.2.1
  have hs2 := hC.2.2.2.2.2.2.2.2.1
  have hzz : c + 62 < aZ h := hC.1.2.2.2.2.2.2.2.2.2.2.2.2.2.2
  unfold p_X10_save_54
  rw [ck_p k1, e6, ifc (j_lt (by omega) (by omega) (by decide) (by decide))]
  by_cases hf : 60 ≤ cN S
  · rw [if_neg (by omega), if_pos hf, ck_p ⟨by omega, by omega⟩]
    exact ok_some (ans_ex hC cst_rf (by decide) (by decide))
  · rw [if_pos (by omega), if_neg hf, ck_p k1, ck_p ⟨by omega, by omega⟩, nm_q]
    have p0 : Prs (fun q => aZ h ≤ q) h (uN h 10 4) := pr_uN
    have hC2 : CkR (uN h 10 4) c S := ck_gen hC (wf_uN hC.2.1 (by decide)) p0 (fun q z => Or.inr z)
    have gz : aZ (uN h 10 4) = aZ h + 1 := rfl
    have gu : aU (uN h 10 4) = aU h + 4 := rfl
    have gc : aC (uN h 10 4) = aC h := rfl
    have gk : aK (uN h 10 4) (aZ h) = 10 := w_KN1 h 10 4
    have ge : aI (uN h 10 4) c 6 = iI (cN S) := hC2.2.2.2.2.2.2.2.1
    have g1' : LsR (uN h 10 4) (c + 3) fs := by
      have := g1.2.2.2.2.2.2.1
      exact ls_pr g1 p0 (by omega) (by omega)
    generalize uN h 10 4 = g at *
    obtain ⟨-, m1, -, -, m4, m5, -⟩ := ck_c0 hC2
    rw [ck_p m1, ck_p (by rw [gk]; decide), ge]
    obtain ⟨fs2, qs2, u1, u2, u3, u4, u5, u6, u7⟩ := hC2.2.2.2.2.2.2.1
    have efs := ls_un u1 g1'
    subst efs
    have ulen := u2.1
    refine ok_bR (f_X8_init (c := c) (fs := fs2) (by omega) gk (by omega) (by omega) ha hb z1 (by omega) ef) ?_
    rintro _ h3 ⟨y1, y2, y3, y4, y5, y6⟩
    have pa : Prs (fun q => aZ h ≤ q) h h3 := pr_tr p0 (pr_mono y2 fun q _ z => by omega)
    have hC3 := ck_gen hC (y6 hC2.2.1) pa (fun q z => Or.inr z)
    have s3 : Cst c h 1 4 h3 := ⟨pr_mono pa fun q _ z => Or.inr (Or.inl z), by omega, by omega⟩
    obtain ⟨fs3, qs3, v1, v2, v3, v4, v5, v6, v7⟩ := hC3.2.2.2.2.2.2.1
    have k26 := u1.2.2.2.2.1
    have L3 : LsR h3 (c + 3) fs2 := by
      refine ls_pr u1 y2 (by omega) (fun z => ?_)
      rw [z] at k26; omega
    have L4 : LsR h3 (c + 4) qs2 := by
      have k26' := u5.2.2.2.2.1
      refine ls_pr u5 y2 (by omega) (fun z => ?_)
      rw [z] at k26'; omega
    have eg := ls_un v1 L3
    subst eg
    have eg2 := ls_un v5 L4
    subst eg2
    have qlen := v6.1
    have hq60 := hC.2.2.2.2.2.2.2.2.2.2.1
    simp only [k5]
    rw [ck_p v5.2.1]
    have hqn : ∀ y ∈ qs3, y ≠ aZ h := by
      obtain ⟨gs, ps, w1, w2, w3, w4, w5, w6, w7⟩ := hC.2.2.2.2.2.2.1
      have k27 := w5.2.2.2.2.2.2.1
      have L5 : LsR h3 (c + 4) ps := ls_pr w5 pa (by omega) (by omega)
      have eg3 := ls_un v5 L5
      subst eg3
      intro y hy e
      have := (w5.2.2.2.2.2.2.2.2.2.2.2 y hy).2.1
      omega
    refine ok_bR (f_add (x := aZ h) v5 hC3.2.1 ⟨by omega, by omega, by rw [y1.2.2.1]; decide, by rw [y1.2.2.1]; decide⟩ (by omega) (by have := pa.2.2.1; omega) (by omega)) ?_
    rintro rr h4 ⟨w1, w2, w3, w4, w5, w6, w7, w8, w9⟩
    have hlc := v7.2.2
    have hlc4 : lc h4 (c + 4) ≤ 98 := by
      rcases w9 with w | w
      · omega
      · omega
    have hQ : (cQ S).length < 60 := by omega
    have hC4 := ck_addQ hC3 v1 v2 v3 v4 v5 v6 v7 w4 w3 w2 hlc4 y1 hqn hQ
    obtain ⟨-, x1, -⟩ := ck_c0 hC4
    have e4 : aI h4 c 6 = iI (cN S) := hC4.2.2.2.2.2.2.2.1
    have s4 : Cst c h3 1 392 h4 := by
      refine ⟨pr_mono w4 fun q _ z => ?_, by omega, by omega⟩
      rcases z with z | z
      · exact Or.inl (by omega)
      · exact Or.inr (Or.inr (Or.inl (by rw [z.1]; exact v5.2.2.2.2.1)))
    have hC5 := ck_n hC4 (n := cN S + 1) (by omega)
    rw [ck_p x1, ck_p x1, e4, j_add, nm_q, show ((cN S : Int) + 1) = ((cN S + 1 : Nat) : Int) by omega]
    rw [ck_p (show aK (uI h4 c 6 (iI ((cN S + 1 : Nat) : Int))) c = 12 from x1), w_I1, j_sub, show (((cN S + 1 : Nat) : Int) - 1) = (cN S : Int) by omega]
    have s5 : Cst c h4 0 0 (uI h4 c 6 (iI ((cN S + 1 : Nat) : Int))) := ⟨pr_uI (Or.inl (by omega)), Nat.le_refl _, Nat.le_refl _⟩
    exact ok_some (ans_ok hC5 (cst_mono (cst_tr (cst_tr s3 s4) s5) (by decide) (by decide)))
theorem f_save {h : AH} {c : Nat} {S : Cs} (hC : CkR h c S) (hr : Rdy h S) {a b z : Int} (a1 : -2147483648 ≤ a) (a2 : a < 2147483648) (b1 : -2147483648 ≤ b) (b2 : b < 2147483648) (z1 : -2147483648 ≤ z) (z2 : z < 2147483648) (hqn : (cQ S).length ≤ cN S) : Okp (p_X10_save c (iI a) (iI b) (iI z) h) (Ans c h (svM S a b z)) := by
  have hr' := hr
  obtain ⟨r1, r2, r3, r4⟩ := hr
  obtain ⟨k0, k1, k2, k3, k4, k5, k6, k7⟩ := ck_c0 hC
  obtain ⟨fs, qs, f1, f2, f3, f4, f5, f6, f7⟩ := hC.2.2.2.2.2.2.1
  unfold p_X10_save p_X10_save_0 svM
  simp only [k0, k1, ne_eq, not_false_eq_true, ck_t]
  by_cases ha : hOk a
  · rw [bX_ok (f_handAt hC ha.1 ha.2), ck_p k1]
    by_cases hb : tOk b
    · rw [bX_ok (f_textAt hC hb.1 hb.2), ifc (j_eq z1 z2 (by decide) (by decide))]
      obtain ⟨b', rfl⟩ : ∃ b' : Nat, b = b' := ⟨b.toNat, by have := hb.1; omega⟩
      obtain ⟨a', rfl⟩ : ∃ a' : Nat, a = a' := ⟨a.toNat, by have := ha.1; omega⟩
      have hb3 : b' < 3 := by have := hb.2; omega
      have ha5 : a' < 5 := by have := ha.2; omega
      simp only [Int.toNat_natCast]
      by_cases c0 : z = -1
      · subst c0
        rw [if_pos rfl, if_neg (show ¬ ¬ (hOk (a' : Int) ∧ tOk (b' : Int) ∧ ((-1 : Int) = -1 ∨ fOk S (-1))) from fun w => w ⟨ha, hb, Or.inl rfl⟩), if_neg (fun w => w.1 rfl)]
        unfold p_X10_save_27
        rw [if_pos rfl]
        exact save_54 hC hr' hqn ha5 hb3 f1 (by decide) (by omega) (by rw [if_pos (by decide)])
      · rw [if_neg c0, ck_p k1]
        by_cases hz : fOk S z
        · rw [bX_ok (f_formatAt hC f1 f2 hz.1 hz.2), if_neg (show ¬ ¬ (hOk (a' : Int) ∧ tOk (b' : Int) ∧ (z = -1 ∨ fOk S z)) from fun w => w ⟨ha, hb, Or.inr hz⟩)]
          have hlt : z.toNat < (cF S).length := by have := hz.1; have := hz.2; omega
          have hF := f2.2 z.toNat _ (List.getElem?_eq_getElem hlt)
          have hfp := hC.2.2.2.2.2.2.2.2.2.2.2 _ (List.getElem_mem hlt)
          rw [List.getElem?_eq_getElem hlt]
          show Okp _ (Ans c h (if z ≠ -1 ∧ fT (cF S)[z.toNat] ≠ b' then (.error 2, S) else _))
          unfold p_X10_save_27
          rw [if_neg hF.1, ck_p hF.2.2.1, hF.2.2.2.1]
          have et1 : tcc c (fT (cF S)[z.toNat]) = c + 13 + 12 * fT (cF S)[z.toNat] := rfl
          have et2 : tcc c b' = c + 13 + 12 * b' := rfl
          by_cases d : fT (cF S)[z.toNat] = b'
          · rw [if_pos (by rw [d]), if_neg (fun w => w.2 d)]
            exact save_54 hC hr' hqn ha5 hb3 f1 (by have := hz.1; omega) (by have := hz.2; omega) (by rw [if_neg (by have := hz.1; omega)])
          · rw [if_neg (by omega), if_pos ⟨c0, d⟩, ck_p ⟨by omega, by omega⟩]
            exact ok_some (ans_ex hC cst_rf (by decide) (by decide))
        · rw [bX_er (f_formatAt_no hC f1 f2 z1 z2 hz (by omega) (by omega)), if_pos (fun w => w.2.2.elim c0 hz)]
          exact ok_some (ans_ex hC cst_rf (by decide) (by decide))
    · rw [bX_er (f_textAt_no hC b1 b2 hb (by omega) (by omega)), if_pos (fun w => hb w.2.1)]
      exact ok_some (ans_ex hC cst_rf (by decide) (by decide))
  · rw [bX_er (f_handAt_no hC a1 a2 ha (by omega) (by omega)), if_pos (fun w => ha w.1)]
    exact ok_some (ans_ex hC cst_rf (by decide) (by decide))

