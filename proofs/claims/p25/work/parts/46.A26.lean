/-! ===== undoing and redoing ===== -/
theorem cset_id {α : Type} (f : Nat → α) (i : Nat) : cset f i (f i) = f := by
  funext j
  unfold cset
  by_cases d : j = i
  · rw [if_pos d, d]
  · rw [if_neg d]
/-- every act is of a letter that its text has -/
def AcP (S : Cs) : Prop := ∀ j, j < 5 → ∀ x ∈ (cH S j).1, x.1 < 3 ∧ x.2.1 < rn (xR (cX S x.1))
/-- a letter is let be there, or gone -/
def tuT (T : Tx) (l : Nat) (b : Bool) : Tx := if rt (xR T) l = b then T else xver (if b = true then xdo T (2, l, 0) else xgo T l)
theorem tuT_n (T : Tx) (l : Nat) (b : Bool) : rn (xR (tuT T l b)) = rn (xR T) := by
  unfold tuT
  split
  · rfl
  · split <;> rfl
def acD (x : Option Ac) : Ac := x.getD (0, 0, false)
def unM (S : Cs) (a : Int) : Out :=
  if ¬ hOk a then (.error 1, S)
  else if (cH S a.toNat).2 = 0 then (.error 3, S)
  else (.ok (acD (cH S a.toNat).1[(cH S a.toNat).2 - 1]?).1, (cset (cX S) (acD (cH S a.toNat).1[(cH S a.toNat).2 - 1]?).1 (tuT (cX S (acD (cH S a.toNat).1[(cH S a.toNat).2 - 1]?).1) (acD (cH S a.toNat).1[(cH S a.toNat).2 - 1]?).2.1 (!(acD (cH S a.toNat).1[(cH S a.toNat).2 - 1]?).2.2)), cset (cH S) a.toNat ((cH S a.toNat).1, (cH S a.toNat).2 - 1), cF S, cQ S, cN S))
def reM (S : Cs) (a : Int) : Out :=
  if ¬ hOk a then (.error 1, S)
  else if (cH S a.toNat).2 = (cH S a.toNat).1.length then (.error 3, S)
  else (.ok (acD (cH S a.toNat).1[(cH S a.toNat).2]?).1, (cset (cX S) (acD (cH S a.toNat).1[(cH S a.toNat).2]?).1 (tuT (cX S (acD (cH S a.toNat).1[(cH S a.toNat).2]?).1) (acD (cH S a.toNat).1[(cH S a.toNat).2]?).2.1 (acD (cH S a.toNat).1[(cH S a.toNat).2]?).2.2), cset (cH S) a.toNat ((cH S a.toNat).1, (cH S a.toNat).2 + 1), cF S, cQ S, cN S))
theorem f_undo {h : AH} {c : Nat} {S : Cs} (hC : CkR h c S) (hr : Rdy h S) (hP : AcP S) {a : Int} (a1 : -2147483648 ≤ a) (a2 : a < 2147483648) : Okp (p_X10_undo c (iI a) h) (Ans c h (unM S a)) := by
  obtain ⟨r1, r2, r3, r4⟩ := hr
  obtain ⟨k0, k1, -⟩ := ck_c0 hC
  unfold p_X10_undo p_X10_undo_0 unM
  simp only [k0, k1, ne_eq, not_false_eq_true, ck_t]
  by_cases ha : hOk a
  · rw [bX_ok (f_handAt hC ha.1 ha.2), if_neg (fun z => z ha)]
    obtain ⟨a', rfl⟩ : ∃ a' : Nat, a = a' := ⟨a.toNat, by have := ha.1; omega⟩
    have ha5 : a' < 5 := by have := ha.2; omega
    simp only [Int.toNat_natCast]
    have hA := hC.2.2.2.2.2.1 a' ha5
    rw [ck_p hA.2.1]
    by_cases h0 : (cH S a').2 = 0
    · rw [bR_e (f_X4_stepBack0 hA h0), if_pos rfl, if_pos h0, ck_p ⟨by omega, by omega⟩]
      exact ok_some (ans_ex hC cst_rf (by decide) (by decide))
    · rw [if_neg h0]
      have hlt : (cH S a').2 - 1 < (cH S a').1.length := by have := hA.2.2.2.2.2.1; omega
      obtain ⟨x, ex⟩ : ∃ x, x = (cH S a').1[(cH S a').2 - 1] := ⟨_, rfl⟩
      have e1 : (cH S a').1[(cH S a').2 - 1]? = some x := by rw [ex]; exact List.getElem?_eq_getElem hlt
      have hx := hP a' ha5 x (List.mem_of_getElem? e1)
      rw [e1]
      obtain ⟨t, l, ty⟩ := x
      obtain ⟨x1, x2⟩ := hx
      have x1 : t < 3 := x1
      have x2 : l < rn (xR (cX S t)) := x2
      refine ok_bR (f_X4_stepBack hA hC.2.1 h0 e1) ?_
      rintro r h1 ⟨q1, st⟩
      have hC1 := ck_hd hC ha5 st
      have s1 := cst_hd hA ha5 st
      have hT1 : TxR h1 (tcc c t) t (cX S t) := hC1.2.2.2.2.1 t x1
      obtain ⟨y1, y2, y3, y4, y5, y6⟩ := q1
      have y4 : aR h1 r 0 = tcc c t := y4
      have y5 : aI h1 r 1 = iI l := y5
      have y6 : aI h1 r 2 = bI ty := y6
      have z1 := st.2.2.2.1
      have c1' := st.2.2.1.2.2.1
      have u1 := s1.2.2
      have xc := xcap_le hT1
      have hl : l < rn (xR (cX S t)) := x2
      have fin : ∀ v : Int32, v = bI (!ty) → Okp (p_X10_undo_43 r (tcc c t) (iI l) v h1) (Ans c h (.ok (t : Int), (cset (cX S) t (tuT (cX S t) l (!ty)), cset (cH S) a' ((cH S a').1, (cH S a').2 - 1), cF S, cQ S, cN S))) := by
        intro v ev
        subst ev
        unfold p_X10_undo_43
        rw [ck_p hT1.1.2.1]
        refine ok_bR (f_X9_turn (b := !ty) hT1 hC1.2.1 hl (r3 _ x1) (by omega) (by omega)) ?_
        intro _ h2 st2
        have hC2 := ck_tx hC1 x1 st2 (by show _ ≤ rn (xR (tuT (cX S t) l (!ty))); rw [tuT_n]; exact Nat.le_refl _)
        have s2 := cst_tx hT1 x1 st2
        have nr : ¬ tS h1 (tcc c t) r := fun z => by have := tS_kinds hT1 r z; omega
        have kr : aK h2 r = 2 := by rw [pr_K st2.2.2.1 y2]; exact y3
        have ar : aR h2 r 0 = tcc c t := by rw [pr_R st2.2.2.1 y2 nr]; exact y4
        rw [ck_p kr]
        simp only [ar]
        rw [ck_p st2.1.1.2.1, st2.1.2.2.1.1]
        exact ok_some (ans_ok hC2 (cst_mono (cst_tr s1 s2) (by omega) (by omega)))
      rw [if_neg y1, ck_p y3, ck_p y3, ck_p y3]
      simp only [j_0, y6, bI_0, y4, y5]
      cases ty
      · rw [if_pos rfl]
        exact fin _ rfl
      · rw [if_neg (by decide)]
        exact fin _ rfl
  · rw [bX_er (f_handAt_no hC a1 a2 ha (by omega) (by omega)), if_pos ha]
    exact ok_some (ans_ex hC cst_rf (by decide) (by decide))
theorem f_redo {h : AH} {c : Nat} {S : Cs} (hC : CkR h c S) (hr : Rdy h S) (hP : AcP S) {a : Int} (a1 : -2147483648 ≤ a) (a2 : a < 2147483648) : Okp (p_X10_redo c (iI a) h) (Ans c h (reM S a)) := by
  obtain ⟨r1, r2, r3, r4⟩ := hr
  obtain ⟨k0, k1, -⟩ := ck_c0 hC
  unfold p_X10_redo p_X10_redo_0 reM
  simp only [k0, k1, ne_eq, not_false_eq_true, ck_t]
  by_cases ha : hOk a
  · rw [bX_ok (f_handAt hC ha.1 ha.2), if_neg (fun z => z ha)]
    obtain ⟨a', rfl⟩ : ∃ a' : Nat, a = a' := ⟨a.toNat, by have := ha.1; omega⟩
    have ha5 : a' < 5 := by have := ha.2; omega
    simp only [Int.toNat_natCast]
    have hA := hC.2.2.2.2.2.1 a' ha5
    rw [ck_p hA.2.1]
    by_cases h0 : (cH S a').2 = (cH S a').1.length
    · rw [bR_e (f_X4_stepForth0 hA h0), if_pos rfl, if_pos h0, ck_p ⟨by omega, by omega⟩]
      exact ok_some (ans_ex hC cst_rf (by decide) (by decide))
    · rw [if_neg h0]
      have hlt : (cH S a').2 < (cH S a').1.length := by have := hA.2.2.2.2.2.1; omega
      obtain ⟨x, ex⟩ : ∃ x, x = (cH S a').1[(cH S a').2] := ⟨_, rfl⟩
      have e1 : (cH S a').1[(cH S a').2]? = some x := by rw [ex]; exact List.getElem?_eq_getElem hlt
      have hx := hP a' ha5 x (List.mem_of_getElem? e1)
      rw [e1]
      obtain ⟨t, l, ty⟩ := x
      obtain ⟨x1, x2⟩ := hx
      have x1 : t < 3 := x1
      have x2 : l < rn (xR (cX S t)) := x2
      refine ok_bR (f_X4_stepForth hA hC.2.1 hlt e1) ?_
      rintro r h1 ⟨q1, st⟩
      have hC1 := ck_hd hC ha5 st
      have s1 := cst_hd hA ha5 st
      have hT1 : TxR h1 (tcc c t) t (cX S t) := hC1.2.2.2.2.1 t x1
      obtain ⟨y1, y2, y3, y4, y5, y6⟩ := q1
      have y4 : aR h1 r 0 = tcc c t := y4
      have y5 : aI h1 r 1 = iI l := y5
      have y6 : aI h1 r 2 = bI ty := y6
      have z1 := st.2.2.2.1
      have c1' := st.2.2.1.2.2.1
      have u1 := s1.2.2
      have xc := xcap_le hT1
      rw [if_neg y1, ck_p y3, ck_p y3, ck_p y3]
      simp only [y4, y5, y6]
      rw [ck_p hT1.1.2.1]
      refine ok_bR (f_X9_turn (b := ty) hT1 hC1.2.1 x2 (r3 _ x1) (by omega) (by omega)) ?_
      intro _ h2 st2
      have hC2 := ck_tx hC1 x1 st2 (by show _ ≤ rn (xR (tuT (cX S t) l ty)); rw [tuT_n]; exact Nat.le_refl _)
      have s2 := cst_tx hT1 x1 st2
      have nr : ¬ tS h1 (tcc c t) r := fun z => by have := tS_kinds hT1 r z; omega
      have kr : aK h2 r = 2 := by rw [pr_K st2.2.2.1 y2]; exact y3
      have ar : aR h2 r 0 = tcc c t := by rw [pr_R st2.2.2.1 y2 nr]; exact y4
      rw [ck_p kr]
      simp only [ar]
      rw [ck_p st2.1.1.2.1, st2.1.2.2.1.1]
      exact ok_some (ans_ok hC2 (cst_mono (cst_tr s1 s2) (by omega) (by omega)))
  · rw [bX_er (f_handAt_no hC a1 a2 ha (by omega) (by omega)), if_pos ha]
    exact ok_some (ans_ex hC cst_rf (by decide) (by decide))
