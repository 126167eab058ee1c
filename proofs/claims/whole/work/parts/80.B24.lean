
/-! ===== the calls, one by one ===== -/
theorem iv_id {S S' : Cs} {n : Nat} (es : S' = S) (hI : IvS S n) : IvS S' (n + 1) := by
  subst es
  exact ivS_mono hI (Nat.le_succ _)
theorem err_tyM {S : Cs} {a b ch : Int} {e : Nat} (h : (tyM S a b ch).1 = .error e) : e = 1 ∨ e = 2 ∨ e = 3 := by
  unfold tyM at h
  repeat' split at h
  all_goals first | (injection h with h; omega) | (cases h)
theorem blk_type {xs : Nat → Int32} {L : Nat} {k : Nat → Nat → Nat → Int32 → AH → Option (Int32 × AH)} {c i : Nat} {S : Cs} {h : AH} {Q : Int32 → AH → Prop} (hi : i ≤ 511) (hx : 4 * i + 4 ≤ L) (hL2 : L ≤ 2048) (hL : LwI c i S h) (hK : ∀ S' h', LwI c (i + 1) S' h' → Okp (k c (c + 59) (c + 88) (iI (4 * (i : Int)) + iI 4) h') Q) : Okp (p_L_law_140 xs L k c (c + 59) (c + 88) (iI (4 * (i : Int))) h) Q := by
  have hG := csG_of hL.1
  have hr := ivS_rdy (h := h) hL.2.2.2.2.1 hG hi (by have := hL.2.2.2.2.2.1; omega) (by have := hL.2.2.2.2.2.2; omega)
  have x1 : ix (iI (4 * (i : Int)) + iI 1) L := by rw [j_add]; exact j_ix (by omega) (by omega) (by omega)
  obtain ⟨a, e1, a1, a2⟩ := j_all (xs (iI (4 * (i : Int)) + iI 1).toNatClampNeg)
  have x2 : ix (iI (4 * (i : Int)) + iI 2) L := by rw [j_add]; exact j_ix (by omega) (by omega) (by omega)
  obtain ⟨b, e2, b1, b2⟩ := j_all (xs (iI (4 * (i : Int)) + iI 2).toNatClampNeg)
  have x3 : ix (iI (4 * (i : Int)) + iI 3) L := by rw [j_add]; exact j_ix (by omega) (by omega) (by omega)
  obtain ⟨ch, e3, ch1, ch2⟩ := nC_all (xs (iI (4 * (i : Int)) + iI 3).toNatClampNeg)
  unfold p_L_law_140 p_L_type p_L_type_0
  simp only [ck_p x1, ck_p x2, ck_p x3, e1, e2, e3]
  refine ok_bR (ok_ck (of_eq_false hL.1.1.1) (ok_ck (by omega) (ok_ck hL.1.1.2.1 (wr_std (cd := cdI) hL (f_type hL.1 hr  a1 a2 b1 b2 ch1 ch2) (fun e h3 he => ?_))))) ?_
  · rcases err_tyM he with e0 | e0 | e0 <;> subst e0 <;> rfl
  rintro r4 h5 hW
  have hM5 := hW.2.2.1
  have hG2 := csG_of hW.2.1
  refine ok_ck hM5.1.1.2.1 (ok_bR (g_type hM5 hG hG2 a1 a2 b1 b2 ch1 ch2) ?_)
  rintro r10 h11 hA
  exact law_fin hi hL hW (oc_man hA) (fun v ev => by rw [hA.2.1 v ev]) hA.2.2.1 hA.2.2.2 (iv_ty hL.2.2.2.2.1 hG) (fun e he => cd_n0 cdI_ok (fun e he => err_tyM he) he) (fun h' z => by unfold p_L_law_219 p_L_law_1463; exact hK _ h' z)
theorem err_erM {S : Cs} {a b : Int} {e : Nat} (h : (erM S a b).1 = .error e) : e = 1 ∨ e = 3 := by
  unfold erM at h
  repeat' split at h
  all_goals first | (injection h with h; omega) | (cases h)
theorem blk_erase {xs : Nat → Int32} {L : Nat} {k : Nat → Nat → Nat → Int32 → AH → Option (Int32 × AH)} {c i : Nat} {S : Cs} {h : AH} {Q : Int32 → AH → Prop} (hi : i ≤ 511) (hx : 4 * i + 4 ≤ L) (hL2 : L ≤ 2048) (hL : LwI c i S h) (hK : ∀ S' h', LwI c (i + 1) S' h' → Okp (k c (c + 59) (c + 88) (iI (4 * (i : Int)) + iI 4) h') Q) : Okp (p_L_law_222 xs L k c (c + 59) (c + 88) (iI (4 * (i : Int))) h) Q := by
  have hG := csG_of hL.1
  have hr := ivS_rdy (h := h) hL.2.2.2.2.1 hG hi (by have := hL.2.2.2.2.2.1; omega) (by have := hL.2.2.2.2.2.2; omega)
  have x1 : ix (iI (4 * (i : Int)) + iI 1) L := by rw [j_add]; exact j_ix (by omega) (by omega) (by omega)
  obtain ⟨a, e1, a1, a2⟩ := j_all (xs (iI (4 * (i : Int)) + iI 1).toNatClampNeg)
  have x2 : ix (iI (4 * (i : Int)) + iI 2) L := by rw [j_add]; exact j_ix (by omega) (by omega) (by omega)
  obtain ⟨b, e2, b1, b2⟩ := j_all (xs (iI (4 * (i : Int)) + iI 2).toNatClampNeg)
  unfold p_L_law_222 p_L_erase p_L_erase_0
  simp only [ck_p x1, ck_p x2, e1, e2]
  refine ok_bR (ok_ck (of_eq_false hL.1.1.1) (ok_ck (by omega) (ok_ck hL.1.1.2.1 (wr_std (cd := cd2) hL (f_erase hL.1 hr  a1 a2 b1 b2) (fun e h3 he => ?_))))) ?_
  · rcases err_erM he with e0 | e0 <;> subst e0 <;> rfl
  rintro r4 h5 hW
  have hM5 := hW.2.2.1
  have hG2 := csG_of hW.2.1
  refine ok_ck hM5.1.1.2.1 (ok_bR (g_erase hM5 hG hG2 a1 a2 b1 b2) ?_)
  rintro r10 h11 hA
  exact law_fin hi hL hW (oc_man hA) (fun v ev => by rw [hA.2.1 v ev]) hA.2.2.1 hA.2.2.2 (iv_er hL.2.2.2.2.1 hG) (fun e he => cd_n0 cd2_ok (fun e he => (err_erM he).elim Or.inl (fun z => Or.inr (Or.inr z))) he) (fun h' z => by unfold p_L_law_287 p_L_law_1463; exact hK _ h' z)
theorem err_mvM {S : Cs} {a b p : Int} {e : Nat} (h : (mvM S a b p).1 = .error e) : e = 1 := by
  unfold mvM at h
  repeat' split at h
  all_goals first | (injection h with h; omega) | (cases h)
theorem blk_moveTo {xs : Nat → Int32} {L : Nat} {k : Nat → Nat → Nat → Int32 → AH → Option (Int32 × AH)} {c i : Nat} {S : Cs} {h : AH} {Q : Int32 → AH → Prop} (hi : i ≤ 511) (hx : 4 * i + 4 ≤ L) (hL2 : L ≤ 2048) (hL : LwI c i S h) (hK : ∀ S' h', LwI c (i + 1) S' h' → Okp (k c (c + 59) (c + 88) (iI (4 * (i : Int)) + iI 4) h') Q) : Okp (p_L_law_290 xs L k c (c + 59) (c + 88) (iI (4 * (i : Int))) h) Q := by
  have hG := csG_of hL.1
  have hr := ivS_rdy (h := h) hL.2.2.2.2.1 hG hi (by have := hL.2.2.2.2.2.1; omega) (by have := hL.2.2.2.2.2.2; omega)
  have x1 : ix (iI (4 * (i : Int)) + iI 1) L := by rw [j_add]; exact j_ix (by omega) (by omega) (by omega)
  obtain ⟨a, e1, a1, a2⟩ := j_all (xs (iI (4 * (i : Int)) + iI 1).toNatClampNeg)
  have x2 : ix (iI (4 * (i : Int)) + iI 2) L := by rw [j_add]; exact j_ix (by omega) (by omega) (by omega)
  obtain ⟨b, e2, b1, b2⟩ := j_all (xs (iI (4 * (i : Int)) + iI 2).toNatClampNeg)
  have x3 : ix (iI (4 * (i : Int)) + iI 3) L := by rw [j_add]; exact j_ix (by omega) (by omega) (by omega)
  obtain ⟨p, e3, p1, p2⟩ := j_all (xs (iI (4 * (i : Int)) + iI 3).toNatClampNeg)
  unfold p_L_law_290 p_L_moveTo p_L_moveTo_0
  simp only [ck_p x1, ck_p x2, ck_p x3, e1, e2, e3]
  refine ok_bR (ok_ck (of_eq_false hL.1.1.1) (ok_ck (by omega) (ok_ck hL.1.1.2.1 (wr_std (cd := cdI) hL (f_moveTo hL.1 hr  a1 a2 b1 b2 p1 p2) (fun e h3 he => ?_))))) ?_
  · have e0 := err_mvM he
    subst e0; rfl
  rintro r4 h5 hW
  have hM5 := hW.2.2.1
  have hG2 := csG_of hW.2.1
  refine ok_ck hM5.1.1.2.1 (ok_bR (g_moveTo (cd := cdI) rfl hM5 hG a1 a2 b1 b2 p1 p2) ?_)
  rintro r10 h11 hA
  exact law_fin hi hL hW (oc_man hA) (fun v ev => by rw [hA.2.1 v ev]) hA.2.2.1 hA.2.2.2 (iv_mv hL.2.2.2.2.1) (fun e he => cd_n0 cdI_ok (fun e he => Or.inl (err_mvM he)) he) (fun h' z => by unfold p_L_law_367 p_L_law_1463; exact hK _ h' z)
theorem err_unM {S : Cs} {a : Int} {e : Nat} (h : (unM S a).1 = .error e) : e = 1 ∨ e = 3 := by
  unfold unM at h
  repeat' split at h
  all_goals first | (injection h with h; omega) | (cases h)
theorem blk_undo {xs : Nat → Int32} {L : Nat} {k : Nat → Nat → Nat → Int32 → AH → Option (Int32 × AH)} {c i : Nat} {S : Cs} {h : AH} {Q : Int32 → AH → Prop} (hi : i ≤ 511) (hx : 4 * i + 4 ≤ L) (hL2 : L ≤ 2048) (hL : LwI c i S h) (hK : ∀ S' h', LwI c (i + 1) S' h' → Okp (k c (c + 59) (c + 88) (iI (4 * (i : Int)) + iI 4) h') Q) : Okp (p_L_law_370 xs L k c (c + 59) (c + 88) (iI (4 * (i : Int))) h) Q := by
  have hG := csG_of hL.1
  have hr := ivS_rdy (h := h) hL.2.2.2.2.1 hG hi (by have := hL.2.2.2.2.2.1; omega) (by have := hL.2.2.2.2.2.2; omega)
  have x1 : ix (iI (4 * (i : Int)) + iI 1) L := by rw [j_add]; exact j_ix (by omega) (by omega) (by omega)
  obtain ⟨a, e1, a1, a2⟩ := j_all (xs (iI (4 * (i : Int)) + iI 1).toNatClampNeg)
  unfold p_L_law_370 p_L_undo p_L_undo_0
  simp only [ck_p x1, e1]
  refine ok_bR (ok_ck (of_eq_false hL.1.1.1) (ok_ck (by omega) (ok_ck hL.1.1.2.1 (wr_std (cd := cd2) hL (f_undo hL.1 hr hL.2.2.2.2.1.2.2.1 a1 a2) (fun e h3 he => ?_))))) ?_
  · rcases err_unM he with e0 | e0 <;> subst e0 <;> rfl
  rintro r4 h5 hW
  have hM5 := hW.2.2.1
  have hG2 := csG_of hW.2.1
  refine ok_ck hM5.1.1.2.1 (ok_bR (g_undo hM5 hG hL.2.2.2.2.1.2.2.1 a1 a2) ?_)
  rintro r10 h11 hA
  exact law_fin hi hL hW (oc_man hA) (fun v ev => by rw [hA.2.1 v ev]) hA.2.2.1 hA.2.2.2 (iv_un hL.2.2.2.2.1 hG) (fun e he => cd_n0 cd2_ok (fun e he => (err_unM he).elim Or.inl (fun z => Or.inr (Or.inr z))) he) (fun h' z => by unfold p_L_law_423 p_L_law_1463; exact hK _ h' z)
theorem err_reM {S : Cs} {a : Int} {e : Nat} (h : (reM S a).1 = .error e) : e = 1 ∨ e = 3 := by
  unfold reM at h
  repeat' split at h
  all_goals first | (injection h with h; omega) | (cases h)
theorem blk_redo {xs : Nat → Int32} {L : Nat} {k : Nat → Nat → Nat → Int32 → AH → Option (Int32 × AH)} {c i : Nat} {S : Cs} {h : AH} {Q : Int32 → AH → Prop} (hi : i ≤ 511) (hx : 4 * i + 4 ≤ L) (hL2 : L ≤ 2048) (hL : LwI c i S h) (hK : ∀ S' h', LwI c (i + 1) S' h' → Okp (k c (c + 59) (c + 88) (iI (4 * (i : Int)) + iI 4) h') Q) : Okp (p_L_law_426 xs L k c (c + 59) (c + 88) (iI (4 * (i : Int))) h) Q := by
  have hG := csG_of hL.1
  have hr := ivS_rdy (h := h) hL.2.2.2.2.1 hG hi (by have := hL.2.2.2.2.2.1; omega) (by have := hL.2.2.2.2.2.2; omega)
  have x1 : ix (iI (4 * (i : Int)) + iI 1) L := by rw [j_add]; exact j_ix (by omega) (by omega) (by omega)
  obtain ⟨a, e1, a1, a2⟩ := j_all (xs (iI (4 * (i : Int)) + iI 1).toNatClampNeg)
  unfold p_L_law_426 p_L_redo p_L_redo_0
  simp only [ck_p x1, e1]
  refine ok_bR (ok_ck (of_eq_false hL.1.1.1) (ok_ck (by omega) (ok_ck hL.1.1.2.1 (wr_std (cd := cd2) hL (f_redo hL.1 hr hL.2.2.2.2.1.2.2.1 a1 a2) (fun e h3 he => ?_))))) ?_
  · rcases err_reM he with e0 | e0 <;> subst e0 <;> rfl
  rintro r4 h5 hW
  have hM5 := hW.2.2.1
  have hG2 := csG_of hW.2.1
  refine ok_ck hM5.1.1.2.1 (ok_bR (g_redo hM5 hG hL.2.2.2.2.1.2.2.1 a1 a2) ?_)
  rintro r10 h11 hA
  exact law_fin hi hL hW (oc_man hA) (fun v ev => by rw [hA.2.1 v ev]) hA.2.2.1 hA.2.2.2 (iv_re hL.2.2.2.2.1 hG) (fun e he => cd_n0 cd2_ok (fun e he => (err_reM he).elim Or.inl (fun z => Or.inr (Or.inr z))) he) (fun h' z => by unfold p_L_law_479 p_L_law_1463; exact hK _ h' z)
theorem err_plM {S : Cs} {a b : Int} {e : Nat} (h : (plM S a b).1 = .error e) : e = 1 := by
  unfold plM at h
  repeat' split at h
  all_goals first | (injection h with h; omega) | (cases h)
theorem id_plM {S : Cs} {a b : Int} : (plM S a b).2 = S := by
  unfold plM
  repeat' split
  all_goals rfl
theorem blk_place {xs : Nat → Int32} {L : Nat} {k : Nat → Nat → Nat → Int32 → AH → Option (Int32 × AH)} {c i : Nat} {S : Cs} {h : AH} {Q : Int32 → AH → Prop} (hi : i ≤ 511) (hx : 4 * i + 4 ≤ L) (hL2 : L ≤ 2048) (hL : LwI c i S h) (hK : ∀ S' h', LwI c (i + 1) S' h' → Okp (k c (c + 59) (c + 88) (iI (4 * (i : Int)) + iI 4) h') Q) : Okp (p_L_law_482 xs L k c (c + 59) (c + 88) (iI (4 * (i : Int))) h) Q := by
  have hG := csG_of hL.1
  have hr := ivS_rdy (h := h) hL.2.2.2.2.1 hG hi (by have := hL.2.2.2.2.2.1; omega) (by have := hL.2.2.2.2.2.2; omega)
  have x1 : ix (iI (4 * (i : Int)) + iI 1) L := by rw [j_add]; exact j_ix (by omega) (by omega) (by omega)
  obtain ⟨a, e1, a1, a2⟩ := j_all (xs (iI (4 * (i : Int)) + iI 1).toNatClampNeg)
  have x2 : ix (iI (4 * (i : Int)) + iI 2) L := by rw [j_add]; exact j_ix (by omega) (by omega) (by omega)
  obtain ⟨b, e2, b1, b2⟩ := j_all (xs (iI (4 * (i : Int)) + iI 2).toNatClampNeg)
  have es : (plM S a b).2 = S := id_plM
  unfold p_L_law_482 p_L_place p_L_place_0
  simp only [ck_p x1, ck_p x2, e1, e2]
  refine ok_bR (ok_ck (of_eq_false hL.1.1.1) (ok_ck (by omega) (ok_ck hL.1.1.2.1 (wr_std (cd := cdI) hL (f_place hL.1 hr  a1 a2 b1 b2) (fun e h3 he => ?_))))) ?_
  · have e0 := err_plM he
    subst e0; rfl
  rintro r4 h5 hW
  have hM5 := hW.2.2.1
  have hG2 := csG_of hW.2.1
  refine ok_ck hM5.1.1.2.1 (ok_bR (g_place (cd := cdI) rfl hM5 hG a1 a2 b1 b2) ?_)
  rintro r10 h11 hA
  exact law_fin hi hL hW (oc_man hA) (fun v ev => by rw [hA.2.1 v ev]) hA.2.2.1 hA.2.2.2 (iv_id es hL.2.2.2.2.1) (fun e he => cd_n0 cdI_ok (fun e he => Or.inl (err_plM he)) he) (fun h' z => by unfold p_L_law_547 p_L_law_1463; exact hK _ h' z)
theorem err_lnM {S : Cs} {b : Int} {e : Nat} (h : (lnM S b).1 = .error e) : e = 1 := by
  unfold lnM at h
  repeat' split at h
  all_goals first | (injection h with h; omega) | (cases h)
theorem id_lnM {S : Cs} {b : Int} : (lnM S b).2 = S := by
  unfold lnM
  repeat' split
  all_goals rfl
theorem blk_length {xs : Nat → Int32} {L : Nat} {k : Nat → Nat → Nat → Int32 → AH → Option (Int32 × AH)} {c i : Nat} {S : Cs} {h : AH} {Q : Int32 → AH → Prop} (hi : i ≤ 511) (hx : 4 * i + 4 ≤ L) (hL2 : L ≤ 2048) (hL : LwI c i S h) (hK : ∀ S' h', LwI c (i + 1) S' h' → Okp (k c (c + 59) (c + 88) (iI (4 * (i : Int)) + iI 4) h') Q) : Okp (p_L_law_550 xs L k c (c + 59) (c + 88) (iI (4 * (i : Int))) h) Q := by
  have hG := csG_of hL.1
  have hr := ivS_rdy (h := h) hL.2.2.2.2.1 hG hi (by have := hL.2.2.2.2.2.1; omega) (by have := hL.2.2.2.2.2.2; omega)
  have x1 : ix (iI (4 * (i : Int)) + iI 1) L := by rw [j_add]; exact j_ix (by omega) (by omega) (by omega)
  obtain ⟨b, e1, b1, b2⟩ := j_all (xs (iI (4 * (i : Int)) + iI 1).toNatClampNeg)
  have es : (lnM S b).2 = S := id_lnM
  unfold p_L_law_550 p_L_length p_L_length_0
  simp only [ck_p x1, e1]
  refine ok_bR (ok_ck (of_eq_false hL.1.1.1) (ok_ck (by omega) (ok_ck hL.1.1.2.1 (wr_std (cd := cdI) hL (f_length hL.1 hr  b1 b2) (fun e h3 he => ?_))))) ?_
  · have e0 := err_lnM he
    subst e0; rfl
  rintro r4 h5 hW
  have hM5 := hW.2.2.1
  have hG2 := csG_of hW.2.1
  refine ok_ck hM5.1.1.2.1 (ok_bR (g_length (cd := cdI) rfl hM5 hG b1 b2) ?_)
  rintro r10 h11 hA
  exact law_fin hi hL hW (oc_man hA) (fun v ev => by rw [hA.2.1 v ev]) hA.2.2.1 hA.2.2.2 (iv_id es hL.2.2.2.2.1) (fun e he => cd_n0 cdI_ok (fun e he => Or.inl (err_lnM he)) he) (fun h' z => by unfold p_L_law_603 p_L_law_1463; exact hK _ h' z)
theorem err_leM {S : Cs} {b p : Int} {e : Nat} (h : (leM S b p).1 = .error e) : e = 1 := by
  unfold leM at h
  repeat' split at h
  all_goals first | (injection h with h; omega) | (cases h)
theorem id_leM {S : Cs} {b p : Int} : (leM S b p).2 = S := by
  unfold leM
  repeat' split
  all_goals rfl
theorem blk_letter {xs : Nat → Int32} {L : Nat} {k : Nat → Nat → Nat → Int32 → AH → Option (Int32 × AH)} {c i : Nat} {S : Cs} {h : AH} {Q : Int32 → AH → Prop} (hi : i ≤ 511) (hx : 4 * i + 4 ≤ L) (hL2 : L ≤ 2048) (hL : LwI c i S h) (hK : ∀ S' h', LwI c (i + 1) S' h' → Okp (k c (c + 59) (c + 88) (iI (4 * (i : Int)) + iI 4) h') Q) : Okp (p_L_law_606 xs L k c (c + 59) (c + 88) (iI (4 * (i : Int))) h) Q := by
  have hG := csG_of hL.1
  have hr := ivS_rdy (h := h) hL.2.2.2.2.1 hG hi (by have := hL.2.2.2.2.2.1; omega) (by have := hL.2.2.2.2.2.2; omega)
  have x1 : ix (iI (4 * (i : Int)) + iI 1) L := by rw [j_add]; exact j_ix (by omega) (by omega) (by omega)
  obtain ⟨b, e1, b1, b2⟩ := j_all (xs (iI (4 * (i : Int)) + iI 1).toNatClampNeg)
  have x2 : ix (iI (4 * (i : Int)) + iI 2) L := by rw [j_add]; exact j_ix (by omega) (by omega) (by omega)
  obtain ⟨p, e2, p1, p2⟩ := j_all (xs (iI (4 * (i : Int)) + iI 2).toNatClampNeg)
  have es : (leM S b p).2 = S := id_leM
  unfold p_L_law_606 p_L_letter p_L_letter_0
  simp only [ck_p x1, ck_p x2, e1, e2]
  refine ok_bR (ok_ck (of_eq_false hL.1.1.1) (ok_ck (by omega) (ok_ck hL.1.1.2.1 (wr_std (cd := cdI) hL (f_letter hL.1 hr  b1 b2 p1 p2) (fun e h3 he => ?_))))) ?_
  · have e0 := err_leM he
    subst e0; rfl
  rintro r4 h5 hW
  have hM5 := hW.2.2.1
  have hG2 := csG_of hW.2.1
  refine ok_ck hM5.1.1.2.1 (ok_bR (g_letter (cd := cdI) rfl hM5 hG b1 b2 p1 p2) ?_)
  rintro r10 h11 ⟨hA, -⟩
  exact law_fin hi hL hW (oc_man hA) (fun v ev => by rw [hA.2.1 v ev]) hA.2.2.1 hA.2.2.2 (iv_id es hL.2.2.2.2.1) (fun e he => cd_n0 cdI_ok (fun e he => Or.inl (err_leM he)) he) (fun h' z => by unfold p_L_law_671 p_L_law_1463; exact hK _ h' z)
theorem blk_letterAnew {xs : Nat → Int32} {L : Nat} {k : Nat → Nat → Nat → Int32 → AH → Option (Int32 × AH)} {c i : Nat} {S : Cs} {h : AH} {Q : Int32 → AH → Prop} (hi : i ≤ 511) (hx : 4 * i + 4 ≤ L) (hL2 : L ≤ 2048) (hL : LwI c i S h) (hK : ∀ S' h', LwI c (i + 1) S' h' → Okp (k c (c + 59) (c + 88) (iI (4 * (i : Int)) + iI 4) h') Q) : Okp (p_L_law_674 xs L k c (c + 59) (c + 88) (iI (4 * (i : Int))) h) Q := by
  have hG := csG_of hL.1
  have hr := ivS_rdy (h := h) hL.2.2.2.2.1 hG hi (by have := hL.2.2.2.2.2.1; omega) (by have := hL.2.2.2.2.2.2; omega)
  have x1 : ix (iI (4 * (i : Int)) + iI 1) L := by rw [j_add]; exact j_ix (by omega) (by omega) (by omega)
  obtain ⟨b, e1, b1, b2⟩ := j_all (xs (iI (4 * (i : Int)) + iI 1).toNatClampNeg)
  have x2 : ix (iI (4 * (i : Int)) + iI 2) L := by rw [j_add]; exact j_ix (by omega) (by omega) (by omega)
  obtain ⟨p, e2, p1, p2⟩ := j_all (xs (iI (4 * (i : Int)) + iI 2).toNatClampNeg)
  have es : (leM S b p).2 = S := id_leM
  unfold p_L_law_674 p_L_letterAnew p_L_letterAnew_0
  simp only [ck_p x1, ck_p x2, e1, e2]
  refine ok_bR (ok_ck (of_eq_false hL.1.1.1) (ok_ck (by omega) (ok_ck hL.1.1.2.1 (wr_std (cd := cdI) hL (f_letterAnew hL.1 hr  b1 b2 p1 p2) (fun e h3 he => ?_))))) ?_
  · have e0 := err_leM he
    subst e0; rfl
  rintro r4 h5 hW
  have hM5 := hW.2.2.1
  have hG2 := csG_of hW.2.1
  refine ok_ck hM5.1.1.2.1 (ok_bR (g_letterAnew (cd := cdI) rfl hM5 hG b1 b2 p1 p2) ?_)
  rintro r10 h11 ⟨hA, -⟩
  exact law_fin hi hL hW (oc_man hA) (fun v ev => by rw [hA.2.1 v ev]) hA.2.2.1 hA.2.2.2 (iv_id es hL.2.2.2.2.1) (fun e he => cd_n0 cdI_ok (fun e he => Or.inl (err_leM he)) he) (fun h' z => by unfold p_L_law_739 p_L_law_1463; exact hK _ h' z)
theorem err_o_version {S : Cs} {b : Int} {e : Nat} (h : (o_version S b) = .error e) : e = 1 := by
  unfold o_version at h
  repeat' split at h
  all_goals first | (injection h with h; omega) | (cases h)
theorem blk_version {xs : Nat → Int32} {L : Nat} {k : Nat → Nat → Nat → Int32 → AH → Option (Int32 × AH)} {c i : Nat} {S : Cs} {h : AH} {Q : Int32 → AH → Prop} (hi : i ≤ 511) (hx : 4 * i + 4 ≤ L) (hL2 : L ≤ 2048) (hL : LwI c i S h) (hK : ∀ S' h', LwI c (i + 1) S' h' → Okp (k c (c + 59) (c + 88) (iI (4 * (i : Int)) + iI 4) h') Q) : Okp (p_L_law_742 xs L k c (c + 59) (c + 88) (iI (4 * (i : Int))) h) Q := by
  have hG := csG_of hL.1
  have hr := ivS_rdy (h := h) hL.2.2.2.2.1 hG hi (by have := hL.2.2.2.2.2.1; omega) (by have := hL.2.2.2.2.2.2; omega)
  have x1 : ix (iI (4 * (i : Int)) + iI 1) L := by rw [j_add]; exact j_ix (by omega) (by omega) (by omega)
  obtain ⟨b, e1, b1, b2⟩ := j_all (xs (iI (4 * (i : Int)) + iI 1).toNatClampNeg)
  unfold p_L_law_742 p_L_version p_L_version_0
  simp only [ck_p x1, e1]
  refine ok_bR (ok_ck (of_eq_false hL.1.1.1) (ok_ck (by omega) (ok_ck hL.1.1.2.1 (wr_stdV (cd := cdI) hL (f_version hL.1 hr  b1 b2) (fun e h3 he => ?_))))) ?_
  · have e0 := err_o_version he
    subst e0; rfl
  rintro r4 h5 hW
  have hM5 := hW.2.2.1
  have hG2 := csG_of hW.2.1
  refine ok_ck hM5.1.1.2.1 (ok_bR (g_version (cd := cdI) rfl hM5 hG b1 b2) ?_)
  rintro r10 h11 hA
  have ht : aI h11 (c + 59) 31 = iI (oc cdI (o_version S b)) := by
    have y := hA.1
    cases ho : (o_version S b) with
    | ok v => rw [ho] at y; exact y
    | error e => rw [ho] at y; exact y
  exact law_fin hi hL hW ht (fun v ev => by rw [hA.2.1 v ev]) hA.2.2.1 hA.2.2.2 (ivS_mono hL.2.2.2.2.1 (Nat.le_succ _)) (fun e he => cd_n0 cdI_ok (fun e he => Or.inl (err_o_version he)) he) (fun h' z => by unfold p_L_law_795 p_L_law_1463; exact hK _ h' z)
theorem err_asM {S : Cs} {b p q : Int} {e : Nat} (h : (asM S b p q).1 = .error e) : e = 1 ∨ e = 2 ∨ e = 3 := by
  unfold asM at h
  repeat' split at h
  all_goals first | (injection h with h; omega) | (cases h)
theorem blk_ask {xs : Nat → Int32} {L : Nat} {k : Nat → Nat → Nat → Int32 → AH → Option (Int32 × AH)} {c i : Nat} {S : Cs} {h : AH} {Q : Int32 → AH → Prop} (hi : i ≤ 511) (hx : 4 * i + 4 ≤ L) (hL2 : L ≤ 2048) (hL : LwI c i S h) (hK : ∀ S' h', LwI c (i + 1) S' h' → Okp (k c (c + 59) (c + 88) (iI (4 * (i : Int)) + iI 4) h') Q) : Okp (p_L_law_798 xs L k c (c + 59) (c + 88) (iI (4 * (i : Int))) h) Q := by
  have hG := csG_of hL.1
  have hr := ivS_rdy (h := h) hL.2.2.2.2.1 hG hi (by have := hL.2.2.2.2.2.1; omega) (by have := hL.2.2.2.2.2.2; omega)
  have x1 : ix (iI (4 * (i : Int)) + iI 1) L := by rw [j_add]; exact j_ix (by omega) (by omega) (by omega)
  obtain ⟨b, e1, b1, b2⟩ := j_all (xs (iI (4 * (i : Int)) + iI 1).toNatClampNeg)
  have x2 : ix (iI (4 * (i : Int)) + iI 2) L := by rw [j_add]; exact j_ix (by omega) (by omega) (by omega)
  obtain ⟨p, e2, p1, p2⟩ := j_all (xs (iI (4 * (i : Int)) + iI 2).toNatClampNeg)
  have x3 : ix (iI (4 * (i : Int)) + iI 3) L := by rw [j_add]; exact j_ix (by omega) (by omega) (by omega)
  obtain ⟨q, e3, q1, q2⟩ := j_all (xs (iI (4 * (i : Int)) + iI 3).toNatClampNeg)
  unfold p_L_law_798 p_L_ask p_L_ask_0
  simp only [ck_p x1, ck_p x2, ck_p x3, e1, e2, e3]
  refine ok_bR (ok_ck (of_eq_false hL.1.1.1) (ok_ck (by omega) (ok_ck hL.1.1.2.1 (wr_std (cd := cdI) hL (f_ask hL.1 hr  b1 b2 p1 p2 q1 q2) (fun e h3 he => ?_))))) ?_
  · rcases err_asM he with e0 | e0 | e0 <;> subst e0 <;> rfl
  rintro r4 h5 hW
  have hM5 := hW.2.2.1
  have hG2 := csG_of hW.2.1
  refine ok_ck hM5.1.1.2.1 (ok_bR (g_ask hM5 hG hG2 b1 b2 p1 p2 q1 q2) ?_)
  rintro r10 h11 hA
  exact law_fin hi hL hW (oc_man hA) (fun v ev => by rw [hA.2.1 v ev]) hA.2.2.1 hA.2.2.2 (iv_as hL.2.2.2.2.1 hG) (fun e he => cd_n0 cdI_ok (fun e he => err_asM he) he) (fun h' z => by unfold p_L_law_875 p_L_law_1463; exact hK _ h' z)
theorem err_coM {S : Cs} {b : Int} {e : Nat} (h : (coM S b).1 = .error e) : e = 1 ∨ e = 3 := by
  unfold coM at h
  repeat' split at h
  all_goals first | (injection h with h; omega) | (cases h)
theorem blk_come {xs : Nat → Int32} {L : Nat} {k : Nat → Nat → Nat → Int32 → AH → Option (Int32 × AH)} {c i : Nat} {S : Cs} {h : AH} {Q : Int32 → AH → Prop} (hi : i ≤ 511) (hx : 4 * i + 4 ≤ L) (hL2 : L ≤ 2048) (hL : LwI c i S h) (hK : ∀ S' h', LwI c (i + 1) S' h' → Okp (k c (c + 59) (c + 88) (iI (4 * (i : Int)) + iI 4) h') Q) : Okp (p_L_law_878 xs L k c (c + 59) (c + 88) (iI (4 * (i : Int))) h) Q := by
  have hG := csG_of hL.1
  have hr := ivS_rdy (h := h) hL.2.2.2.2.1 hG hi (by have := hL.2.2.2.2.2.1; omega) (by have := hL.2.2.2.2.2.2; omega)
  have x1 : ix (iI (4 * (i : Int)) + iI 1) L := by rw [j_add]; exact j_ix (by omega) (by omega) (by omega)
  obtain ⟨b, e1, b1, b2⟩ := j_all (xs (iI (4 * (i : Int)) + iI 1).toNatClampNeg)
  have hCo := ivS_co hL.2.2.2.2.1 hG hi
  unfold p_L_law_878 p_L_come p_L_come_0
  simp only [ck_p x1, e1]
  refine ok_bR (ok_ck (of_eq_false hL.1.1.1) (ok_ck (by omega) (ok_ck hL.1.1.2.1 (wr_std (cd := cd2) hL (f_come hL.1 hr hCo b1 b2) (fun e h3 he => ?_))))) ?_
  · rcases err_coM he with e0 | e0 <;> subst e0 <;> rfl
  rintro r4 h5 hW
  have hM5 := hW.2.2.1
  have hG2 := csG_of hW.2.1
  refine ok_ck hM5.1.1.2.1 (ok_bR (g_come hM5 hG b1 b2) ?_)
  rintro r10 h11 hA
  exact law_fin hi hL hW (oc_man hA) (fun v ev => by rw [hA.2.1 v ev]) hA.2.2.1 hA.2.2.2 (iv_co hL.2.2.2.2.1 hG) (fun e he => cd_n0 cd2_ok (fun e he => (err_coM he).elim Or.inl (fun z => Or.inr (Or.inr z))) he) (fun h' z => by unfold p_L_law_931 p_L_law_1463; exact hK _ h' z)
theorem err_drM {S : Cs} {b : Int} {e : Nat} (h : (drM S b).1 = .error e) : e = 1 ∨ e = 3 := by
  unfold drM at h
  repeat' split at h
  all_goals first | (injection h with h; omega) | (cases h)
theorem blk_drop {xs : Nat → Int32} {L : Nat} {k : Nat → Nat → Nat → Int32 → AH → Option (Int32 × AH)} {c i : Nat} {S : Cs} {h : AH} {Q : Int32 → AH → Prop} (hi : i ≤ 511) (hx : 4 * i + 4 ≤ L) (hL2 : L ≤ 2048) (hL : LwI c i S h) (hK : ∀ S' h', LwI c (i + 1) S' h' → Okp (k c (c + 59) (c + 88) (iI (4 * (i : Int)) + iI 4) h') Q) : Okp (p_L_law_934 xs L k c (c + 59) (c + 88) (iI (4 * (i : Int))) h) Q := by
  have hG := csG_of hL.1
  have hr := ivS_rdy (h := h) hL.2.2.2.2.1 hG hi (by have := hL.2.2.2.2.2.1; omega) (by have := hL.2.2.2.2.2.2; omega)
  have x1 : ix (iI (4 * (i : Int)) + iI 1) L := by rw [j_add]; exact j_ix (by omega) (by omega) (by omega)
  obtain ⟨b, e1, b1, b2⟩ := j_all (xs (iI (4 * (i : Int)) + iI 1).toNatClampNeg)
  unfold p_L_law_934 p_L_drop p_L_drop_0
  simp only [ck_p x1, e1]
  refine ok_bR (ok_ck (of_eq_false hL.1.1.1) (ok_ck (by omega) (ok_ck hL.1.1.2.1 (wr_std (cd := cd2) hL (f_drop hL.1 hr  b1 b2) (fun e h3 he => ?_))))) ?_
  · rcases err_drM he with e0 | e0 <;> subst e0 <;> rfl
  rintro r4 h5 hW
  have hM5 := hW.2.2.1
  have hG2 := csG_of hW.2.1
  refine ok_ck hM5.1.1.2.1 (ok_bR (g_drop hM5 hG b1 b2) ?_)
  rintro r10 h11 hA
  exact law_fin hi hL hW (oc_man hA) (fun v ev => by rw [hA.2.1 v ev]) hA.2.2.1 hA.2.2.2 (iv_dr hL.2.2.2.2.1) (fun e he => cd_n0 cd2_ok (fun e he => (err_drM he).elim Or.inl (fun z => Or.inr (Or.inr z))) he) (fun h' z => by unfold p_L_law_987 p_L_law_1463; exact hK _ h' z)
theorem err_fsM {S : Cs} {b : Int} {e : Nat} (h : (fsM S b).1 = .error e) : e = 1 := by
  unfold fsM at h
  repeat' split at h
  all_goals first | (injection h with h; omega) | (cases h)
theorem id_fsM {S : Cs} {b : Int} : (fsM S b).2 = S := by
  unfold fsM
  repeat' split
  all_goals rfl
theorem blk_state {xs : Nat → Int32} {L : Nat} {k : Nat → Nat → Nat → Int32 → AH → Option (Int32 × AH)} {c i : Nat} {S : Cs} {h : AH} {Q : Int32 → AH → Prop} (hi : i ≤ 511) (hx : 4 * i + 4 ≤ L) (hL2 : L ≤ 2048) (hL : LwI c i S h) (hK : ∀ S' h', LwI c (i + 1) S' h' → Okp (k c (c + 59) (c + 88) (iI (4 * (i : Int)) + iI 4) h') Q) : Okp (p_L_law_990 xs L k c (c + 59) (c + 88) (iI (4 * (i : Int))) h) Q := by
  have hG := csG_of hL.1
  have hr := ivS_rdy (h := h) hL.2.2.2.2.1 hG hi (by have := hL.2.2.2.2.2.1; omega) (by have := hL.2.2.2.2.2.2; omega)
  have x1 : ix (iI (4 * (i : Int)) + iI 1) L := by rw [j_add]; exact j_ix (by omega) (by omega) (by omega)
  obtain ⟨b, e1, b1, b2⟩ := j_all (xs (iI (4 * (i : Int)) + iI 1).toNatClampNeg)
  have es : (fsM S b).2 = S := id_fsM
  unfold p_L_law_990 p_L_state p_L_state_0
  simp only [ck_p x1, e1]
  refine ok_bR (ok_ck (of_eq_false hL.1.1.1) (ok_ck (by omega) (ok_ck hL.1.1.2.1 (wr_std (cd := cdI) hL (f_state hL.1 hr  b1 b2) (fun e h3 he => ?_))))) ?_
  · have e0 := err_fsM he
    subst e0; rfl
  rintro r4 h5 hW
  have hM5 := hW.2.2.1
  have hG2 := csG_of hW.2.1
  refine ok_ck hM5.1.1.2.1 (ok_bR (g_state (cd := cdI) rfl hM5 hG b1 b2) ?_)
  rintro r10 h11 hA
  exact law_fin hi hL hW (oc_man hA) (fun v ev => by rw [hA.2.1 v ev]) hA.2.2.1 hA.2.2.2 (iv_id es hL.2.2.2.2.1) (fun e he => cd_n0 cdI_ok (fun e he => Or.inl (err_fsM he)) he) (fun h' z => by unfold p_L_law_1043 p_L_law_1463; exact hK _ h' z)
theorem err_spM {S : Cs} {b : Int} {e : Nat} (h : (spM S b).1 = .error e) : e = 1 := by
  unfold spM at h
  repeat' split at h
  all_goals first | (injection h with h; omega) | (cases h)
theorem id_spM {S : Cs} {b : Int} : (spM S b).2 = S := by
  unfold spM
  repeat' split
  all_goals rfl
theorem blk_spared {xs : Nat → Int32} {L : Nat} {k : Nat → Nat → Nat → Int32 → AH → Option (Int32 × AH)} {c i : Nat} {S : Cs} {h : AH} {Q : Int32 → AH → Prop} (hi : i ≤ 511) (hx : 4 * i + 4 ≤ L) (hL2 : L ≤ 2048) (hL : LwI c i S h) (hK : ∀ S' h', LwI c (i + 1) S' h' → Okp (k c (c + 59) (c + 88) (iI (4 * (i : Int)) + iI 4) h') Q) : Okp (p_L_law_1046 xs L k c (c + 59) (c + 88) (iI (4 * (i : Int))) h) Q := by
  have hG := csG_of hL.1
  have hr := ivS_rdy (h := h) hL.2.2.2.2.1 hG hi (by have := hL.2.2.2.2.2.1; omega) (by have := hL.2.2.2.2.2.2; omega)
  have x1 : ix (iI (4 * (i : Int)) + iI 1) L := by rw [j_add]; exact j_ix (by omega) (by omega) (by omega)
  obtain ⟨b, e1, b1, b2⟩ := j_all (xs (iI (4 * (i : Int)) + iI 1).toNatClampNeg)
  have es : (spM S b).2 = S := id_spM
  unfold p_L_law_1046 p_L_spared p_L_spared_0
  simp only [ck_p x1, e1]
  refine ok_bR (ok_ck (of_eq_false hL.1.1.1) (ok_ck (by omega) (ok_ck hL.1.1.2.1 (wr_std (cd := cdI) hL (f_spared hL.1 hr  b1 b2) (fun e h3 he => ?_))))) ?_
  · have e0 := err_spM he
    subst e0; rfl
  rintro r4 h5 hW
  have hM5 := hW.2.2.1
  have hG2 := csG_of hW.2.1
  refine ok_ck hM5.1.1.2.1 (ok_bR (g_spared (cd := cdI) rfl hM5 hG b1 b2) ?_)
  rintro r10 h11 hA
  exact law_fin hi hL hW (oc_man hA) (fun v ev => by rw [hA.2.1 v ev]) hA.2.2.1 hA.2.2.2 (iv_id es hL.2.2.2.2.1) (fun e he => cd_n0 cdI_ok (fun e he => Or.inl (err_spM he)) he) (fun h' z => by unfold p_L_law_1099 p_L_law_1463; exact hK _ h' z)
theorem err_svM {S : Cs} {a b p : Int} {e : Nat} (h : (svM S a b p).1 = .error e) : e = 1 ∨ e = 2 ∨ e = 3 := by
  unfold svM at h
  repeat' split at h
  all_goals first | (injection h with h; omega) | (cases h)
theorem blk_save {xs : Nat → Int32} {L : Nat} {k : Nat → Nat → Nat → Int32 → AH → Option (Int32 × AH)} {c i : Nat} {S : Cs} {h : AH} {Q : Int32 → AH → Prop} (hi : i ≤ 511) (hx : 4 * i + 4 ≤ L) (hL2 : L ≤ 2048) (hL : LwI c i S h) (hK : ∀ S' h', LwI c (i + 1) S' h' → Okp (k c (c + 59) (c + 88) (iI (4 * (i : Int)) + iI 4) h') Q) : Okp (p_L_law_1177 xs L k c (c + 59) (c + 88) (iI (4 * (i : Int))) h) Q := by
  have hG := csG_of hL.1
  have hr := ivS_rdy (h := h) hL.2.2.2.2.1 hG hi (by have := hL.2.2.2.2.2.1; omega) (by have := hL.2.2.2.2.2.2; omega)
  have x1 : ix (iI (4 * (i : Int)) + iI 1) L := by rw [j_add]; exact j_ix (by omega) (by omega) (by omega)
  obtain ⟨a, e1, a1, a2⟩ := j_all (xs (iI (4 * (i : Int)) + iI 1).toNatClampNeg)
  have x2 : ix (iI (4 * (i : Int)) + iI 2) L := by rw [j_add]; exact j_ix (by omega) (by omega) (by omega)
  obtain ⟨b, e2, b1, b2⟩ := j_all (xs (iI (4 * (i : Int)) + iI 2).toNatClampNeg)
  have x3 : ix (iI (4 * (i : Int)) + iI 3) L := by rw [j_add]; exact j_ix (by omega) (by omega) (by omega)
  obtain ⟨p, e3, p1, p2⟩ := j_all (xs (iI (4 * (i : Int)) + iI 3).toNatClampNeg)
  unfold p_L_law_1177 p_L_save p_L_save_0
  simp only [ck_p x1, ck_p x2, ck_p x3, e1, e2, e3]
  refine ok_bR (ok_ck (of_eq_false hL.1.1.1) (ok_ck (by omega) (ok_ck hL.1.1.2.1 (wr_std (cd := cdI) hL (f_save hL.1 hr  a1 a2 b1 b2 p1 p2 (mdR_qn hL.2.1)) (fun e h3 he => ?_))))) ?_
  · rcases err_svM he with e0 | e0 | e0 <;> subst e0 <;> rfl
  rintro r4 h5 hW
  have hM5 := hW.2.2.1
  have hG2 := csG_of hW.2.1
  refine ok_ck hM5.1.1.2.1 (ok_bR (g_save hM5 hG a1 a2 b1 b2 p1 p2) ?_)
  rintro r10 h11 hA
  exact law_fin hi hL hW (oc_man hA) (fun v ev => by rw [hA.2.1 v ev]) hA.2.2.1 hA.2.2.2 (iv_sv hL.2.2.2.2.1) (fun e he => cd_n0 cdI_ok (fun e he => err_svM he) he) (fun h' z => by unfold p_L_law_1254 p_L_law_1463; exact hK _ h' z)
theorem err_o_savedVersion {S : Cs} {b : Int} {e : Nat} (h : (o_savedVersion S b) = .error e) : e = 1 := by
  unfold o_savedVersion at h
  repeat' split at h
  all_goals first | (injection h with h; omega) | (cases h)
theorem blk_savedVersion {xs : Nat → Int32} {L : Nat} {k : Nat → Nat → Nat → Int32 → AH → Option (Int32 × AH)} {c i : Nat} {S : Cs} {h : AH} {Q : Int32 → AH → Prop} (hi : i ≤ 511) (hx : 4 * i + 4 ≤ L) (hL2 : L ≤ 2048) (hL : LwI c i S h) (hK : ∀ S' h', LwI c (i + 1) S' h' → Okp (k c (c + 59) (c + 88) (iI (4 * (i : Int)) + iI 4) h') Q) : Okp (p_L_law_1283 xs L k c (c + 59) (c + 88) (iI (4 * (i : Int))) h) Q := by
  have hG := csG_of hL.1
  have hr := ivS_rdy (h := h) hL.2.2.2.2.1 hG hi (by have := hL.2.2.2.2.2.1; omega) (by have := hL.2.2.2.2.2.2; omega)
  have x1 : ix (iI (4 * (i : Int)) + iI 1) L := by rw [j_add]; exact j_ix (by omega) (by omega) (by omega)
  obtain ⟨b, e1, b1, b2⟩ := j_all (xs (iI (4 * (i : Int)) + iI 1).toNatClampNeg)
  unfold p_L_law_1283 p_L_savedVersion p_L_savedVersion_0
  simp only [ck_p x1, e1]
  refine ok_bR (ok_ck (of_eq_false hL.1.1.1) (ok_ck (by omega) (ok_ck hL.1.1.2.1 (wr_stdV (cd := cdI) hL (f_savedVersion hL.1 hr  b1 b2) (fun e h3 he => ?_))))) ?_
  · have e0 := err_o_savedVersion he
    subst e0; rfl
  rintro r4 h5 hW
  have hM5 := hW.2.2.1
  have hG2 := csG_of hW.2.1
  refine ok_ck hM5.1.1.2.1 (ok_bR (g_savedVersion (cd := cdI) rfl hM5 hG b1 b2) ?_)
  rintro r10 h11 hA
  have ht : aI h11 (c + 59) 31 = iI (oc cdI (o_savedVersion S b)) := by
    have y := hA.1
    cases ho : (o_savedVersion S b) with
    | ok v => rw [ho] at y; exact y
    | error e => rw [ho] at y; exact y
  exact law_fin hi hL hW ht (fun v ev => by rw [hA.2.1 v ev]) hA.2.2.1 hA.2.2.2 (ivS_mono hL.2.2.2.2.1 (Nat.le_succ _)) (fun e he => cd_n0 cdI_ok (fun e he => Or.inl (err_o_savedVersion he)) he) (fun h' z => by unfold p_L_law_1336 p_L_law_1463; exact hK _ h' z)
theorem err_o_savedLength {S : Cs} {b : Int} {e : Nat} (h : (o_savedLength S b) = .error e) : e = 1 := by
  unfold o_savedLength at h
  repeat' split at h
  all_goals first | (injection h with h; omega) | (cases h)
theorem blk_savedLength {xs : Nat → Int32} {L : Nat} {k : Nat → Nat → Nat → Int32 → AH → Option (Int32 × AH)} {c i : Nat} {S : Cs} {h : AH} {Q : Int32 → AH → Prop} (hi : i ≤ 511) (hx : 4 * i + 4 ≤ L) (hL2 : L ≤ 2048) (hL : LwI c i S h) (hK : ∀ S' h', LwI c (i + 1) S' h' → Okp (k c (c + 59) (c + 88) (iI (4 * (i : Int)) + iI 4) h') Q) : Okp (p_L_law_1339 xs L k c (c + 59) (c + 88) (iI (4 * (i : Int))) h) Q := by
  have hG := csG_of hL.1
  have hr := ivS_rdy (h := h) hL.2.2.2.2.1 hG hi (by have := hL.2.2.2.2.2.1; omega) (by have := hL.2.2.2.2.2.2; omega)
  have x1 : ix (iI (4 * (i : Int)) + iI 1) L := by rw [j_add]; exact j_ix (by omega) (by omega) (by omega)
  obtain ⟨b, e1, b1, b2⟩ := j_all (xs (iI (4 * (i : Int)) + iI 1).toNatClampNeg)
  unfold p_L_law_1339 p_L_savedLength p_L_savedLength_0
  simp only [ck_p x1, e1]
  refine ok_bR (ok_ck (of_eq_false hL.1.1.1) (ok_ck (by omega) (ok_ck hL.1.1.2.1 (wr_stdV (cd := cdI) hL (f_savedLength hL.1 hr  b1 b2) (fun e h3 he => ?_))))) ?_
  · have e0 := err_o_savedLength he
    subst e0; rfl
  rintro r4 h5 hW
  have hM5 := hW.2.2.1
  have hG2 := csG_of hW.2.1
  refine ok_ck hM5.1.1.2.1 (ok_bR (g_savedLength (cd := cdI) rfl hM5 hG b1 b2) ?_)
  rintro r10 h11 hA
  have ht : aI h11 (c + 59) 31 = iI (oc cdI (o_savedLength S b)) := by
    have y := hA.1
    cases ho : (o_savedLength S b) with
    | ok v => rw [ho] at y; exact y
    | error e => rw [ho] at y; exact y
  exact law_fin hi hL hW ht (fun v ev => by rw [hA.2.1 v ev]) hA.2.2.1 hA.2.2.2 (ivS_mono hL.2.2.2.2.1 (Nat.le_succ _)) (fun e he => cd_n0 cdI_ok (fun e he => Or.inl (err_o_savedLength he)) he) (fun h' z => by unfold p_L_law_1392 p_L_law_1463; exact hK _ h' z)
theorem err_slM {S : Cs} {b p : Int} {e : Nat} (h : (slM S b p).1 = .error e) : e = 1 := by
  unfold slM at h
  repeat' split at h
  all_goals first | (injection h with h; omega) | (cases h)
theorem id_slM {S : Cs} {b p : Int} : (slM S b p).2 = S := by
  unfold slM
  repeat' split
  all_goals rfl
theorem blk_savedLetter {xs : Nat → Int32} {L : Nat} {k : Nat → Nat → Nat → Int32 → AH → Option (Int32 × AH)} {c i : Nat} {S : Cs} {h : AH} {Q : Int32 → AH → Prop} (hi : i ≤ 511) (hx : 4 * i + 4 ≤ L) (hL2 : L ≤ 2048) (hL : LwI c i S h) (hK : ∀ S' h', LwI c (i + 1) S' h' → Okp (k c (c + 59) (c + 88) (iI (4 * (i : Int)) + iI 4) h') Q) : Okp (p_L_law_1395 xs L k c (c + 59) (c + 88) (iI (4 * (i : Int))) h) Q := by
  have hG := csG_of hL.1
  have hr := ivS_rdy (h := h) hL.2.2.2.2.1 hG hi (by have := hL.2.2.2.2.2.1; omega) (by have := hL.2.2.2.2.2.2; omega)
  have x1 : ix (iI (4 * (i : Int)) + iI 1) L := by rw [j_add]; exact j_ix (by omega) (by omega) (by omega)
  obtain ⟨b, e1, b1, b2⟩ := j_all (xs (iI (4 * (i : Int)) + iI 1).toNatClampNeg)
  have x2 : ix (iI (4 * (i : Int)) + iI 2) L := by rw [j_add]; exact j_ix (by omega) (by omega) (by omega)
  obtain ⟨p, e2, p1, p2⟩ := j_all (xs (iI (4 * (i : Int)) + iI 2).toNatClampNeg)
  have es : (slM S b p).2 = S := id_slM
  unfold p_L_law_1395 p_L_savedLetter p_L_savedLetter_0
  simp only [ck_p x1, ck_p x2, e1, e2]
  refine ok_bR (ok_ck (of_eq_false hL.1.1.1) (ok_ck (by omega) (ok_ck hL.1.1.2.1 (wr_std (cd := cdI) hL (f_savedLetter hL.1 hr  b1 b2 p1 p2) (fun e h3 he => ?_))))) ?_
  · have e0 := err_slM he
    subst e0; rfl
  rintro r4 h5 hW
  have hM5 := hW.2.2.1
  have hG2 := csG_of hW.2.1
  refine ok_ck hM5.1.1.2.1 (ok_bR (g_savedLetter (cd := cdI) rfl hM5 hG b1 b2 p1 p2) ?_)
  rintro r10 h11 ⟨hA, -⟩
  exact law_fin hi hL hW (oc_man hA) (fun v ev => by rw [hA.2.1 v ev]) hA.2.2.1 hA.2.2.2 (iv_id es hL.2.2.2.2.1) (fun e he => cd_n0 cdI_ok (fun e he => Or.inl (err_slM he)) he) (fun h' z => by unfold p_L_law_1460 p_L_law_1463; exact hK _ h' z)

