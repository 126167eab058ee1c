
/-! ===== the law begins ===== -/
theorem ck_start {c : Nat} {h h' : AH} (h0 : c ≠ 0) (hB : Bse c h) (hT : TxB c 3 h) (hH : HdB c 5 h) (hw : Wf h) (hz : aZ h = c + 59) (p : Prs (fun q => c + 59 ≤ q) h h') (hw' : Wf h') (hz' : c + 88 < aZ h') : CkR h' c S0 := by
  have bE := hB.2.2.2.2.2.2.2.2.2.2.2.2.2.2.2.2.2.2.1
  have hB2 := bse_pr hB p (fun q z1 z => by omega)
  have hT2 := txB_pr bE hT p (by omega) (fun q z1 z => by omega) (fun q z => new_no hw (by decide) (by omega))
  have hH2 := hdB_pr bE hH p (by omega) (fun q z1 z => by omega) (fun q z => new_no hw (by decide) (by omega))
  obtain ⟨b1, b2, b3, b4, b5, b6, b7, b8, b9, b10, b11, b12, b13, b14, b15, b16, b17, b18, b19, b20⟩ := hB2
  have hE := hw'.1.2.2.2
  have l3 : lc h' (c + 3) ≤ 98 := by unfold lc; rw [b16, hE]; exact Nat.zero_le _
  have l4 : lc h' (c + 4) ≤ 98 := by unfold lc; rw [b18, hE]; exact Nat.zero_le _
  refine ⟨⟨eq_false h0, b1, b2, b3, b4, b5, b6, b7, b9, b10, fun i hi => (hT2 i hi).2.2, b11, b12, fun j hj => (hH2 j hj).2.2, hz'⟩, hw', b13, b14, fun i hi => (hT2 i hi).1, fun j hj => (hH2 j hj).1, ⟨[], [], b15, ⟨rfl, fun i d hd => (by cases hd)⟩, fun f hf => (by cases hf), fun i j hi => absurd hi (Nat.not_lt_zero _), b17, ⟨rfl, fun i d hd => (by cases hd)⟩, fun i j hi => absurd hi (Nat.not_lt_zero _), l3, l4⟩, b8, Nat.zero_le _, Nat.zero_le _, Nat.zero_le _, fun F hF => (by cases hF)⟩
theorem mdS_0 {h : AH} {m u u2 C : Nat} (hm : aZ h = m) (hw : Wf h) (hu : aU h = u) (eu : u + 32 = u2) (hC : aC h = C) : MdS h m 0 u2 C (uN h 13 32) := by
  subst hm hu eu hC
  refine ⟨fun i hi => absurd hi (Nat.not_lt_zero _), fun q q1 q2 j => ?_, rfl, rfl, rfl, wf_uN hw (by decide), w_KN1 h 13 32, pr_uN⟩
  have e : aZ (uN h 13 32) = aZ h + 1 := rfl
  have : q = aZ h := by omega
  rw [this]
  exact w_IN1 h 13 32 j
theorem lwI_start {c u : Nat} {h h' : AH} (h0 : c ≠ 0) (hB : Bse c h) (hT : TxB c 3 h) (hH : HdB c 5 h) (hw : Wf h) (hz : aZ h = c + 59) (p : Prs (fun q => c + 59 ≤ q) h h') (hM : MdR h' (c + 59) S0) (hw' : Wf h') (hz' : aZ h' = c + 88) (hu : aU h' = u) (hu2 : u + 1 + 14100 * 512 + 1000 ≤ gS) (hc : c + 89 + 1000 * 512 ≤ aC h') : LwI c 0 S0 (uN h' 23 1) := by
  have p1 : Prs (fun q => c + 88 ≤ q) h' (uN h' 23 1) := pr_uN
  have zN : aZ (uN h' 23 1) = c + 89 := by show aZ h' + 1 = _; omega
  have uNe : aU (uN h' 23 1) = u + 1 := by show aU h' + 1 = _; omega
  have cN' : aC (uN h' 23 1) = aC h' := rfl
  have hw2 : Wf (uN h' 23 1) := wf_uN hw' (by decide)
  have k : aK (uN h' 23 1) (c + 88) = 23 := by have := w_KN1 h' 23 1; rw [hz'] at this; exact this
  have n : aN (uN h' 23 1) (c + 88) = 1 := by have := w_NN1 h' 23 1; rw [hz'] at this; exact this
  have hM2 : MdR (uN h' 23 1) (c + 59) S0 := mdR_eq hM (mdK_pr hM.1 p1 (by omega)) fun k hk => pr_I p1 (by omega) (by omega)
  generalize uN h' 23 1 = g at *
  have hC := ck_start h0 hB hT hH hw hz (pr_tr p (pr_mono p1 fun q _ z => by omega)) hw2 (by omega)
  exact ⟨hC, hM2, k, n, iv_0, by omega, by omega⟩
theorem law_from {xs : Nat → Int32} {L : Nat} {h : AH} (hL2 : L ≤ 2048) (h0 : aZ h ≠ 0) (hw : Wf h) (hc : aZ h + 601024 ≤ aC h) (hu : aU h = 0) : Okp (p_L_law_0 xs L h) (fun r _ => r = iI 1) := by
  have g0 : (7293034 : Nat) ≤ gS := Nat.le_refl _
  have z2 : aZ (uN h 12 7) = aZ h + 1 := rfl
  have u2 : aU (uN h 12 7) = 7 := by show aU h + 7 = 7; omega
  have c2 : aC (uN h 12 7) = aC h := rfl
  have hE : aE h < aZ h := hw.1.2.1
  unfold p_L_law_0
  refine ok_ck ⟨by omega, by omega⟩ (ok_nm (ok_ck (by rw [w_KN1]; decide) ?_))
  refine ok_bR (f_X10_init (h := uN h 12 7) h0 z2 (w_KN1 h 12 7) (fun j => w_IN1 h 12 7 j) (wf_uN hw (by decide)) hE (by omega) (by omega)) ?_
  rintro _ h5 ⟨y1, y2, y3, y4, y5, y6, y7⟩
  have u5 : aU h5 = 4181 := by omega
  have c5 : aC h5 = aC h := by omega
  clear y6 y7 u2 c2 z2
  refine ok_nm (ok_ck ⟨by omega, by omega⟩ (ok_nm (ok_ck (by rw [w_KN1]; decide) ?_)))
  rw [y5]
  refine ok_bR (f_X11_init (by omega) (mdS_0 y5 y4 u5 rfl c5) (by omega) (by omega)) ?_
  rintro _ h11 ⟨x1, x2, x3, x4, x5, x6⟩
  have u11 : aU h11 = 54833 := by omega
  refine ok_nm (ok_ck ⟨⟨tp_1, by rw [tn_1]; decide⟩, by omega, by rw [tn_1]; omega⟩ ?_)
  rw [tn_1]
  refine ok_nm (ok_nm (ok_nm ?_))
  have e88 : aZ h11 = aZ h + 88 := by omega
  have hI := lwI_start h0 y1 y2 y3 y4 y5 x1 x2 x3 e88 u11 (by omega) (by omega)
  rw [e88]
  exact law_loop (xs := xs) (L := L) hL2 512 0 FU _ S0 hI (by omega) (by unfold FU; omega)
theorem wf_h0 {B E M : Nat} (hE0 : E ≠ 0) (hE : E ≤ B) (hM : M ≠ 0) : Wf (h0 B E M) := by
  refine ⟨⟨hE0, Nat.lt_succ_of_le hE, if_pos rfl, rfl⟩, fun q hq => if_neg (fun z => by have : B + 1 ≤ q := hq; omega), fun l1 l2 k1 _ => ?_, fun l1 k1 => ?_, hM⟩
  · have : (if l1 = E then 26 else 0) = 1 := k1
    split at this <;> omega
  · have : (if l1 = E then 26 else 0) = 1 := k1
    split at this <;> omega
theorem pure_law : PureLaw := by
  intro B E M L xs hL hE0 hE hM
  obtain ⟨r, h', e1, e2⟩ := law_from (xs := xs) (L := L) (h := h0 B E M) hL (Nat.succ_ne_zero B) (wf_h0 hE0 hE hM) (by show B + 1 + 601024 ≤ B + 1 + 601024; exact Nat.le_refl (B + 1 + 601024)) rfl
  exact ⟨h', by rw [e1, e2]⟩

