
/-! ===== typing, erasing, moving, undoing: rounds of the law ===== -/
section ACT
variable {c n k i many saves written : Nat} {S : Cs} {A : La} {h h' : AH}
variable {xs : Nat → Int32} {L : Nat} {K : Nat → Nat → Nat → Nat → Nat → Int32 → Int32 → Int32 → Int32 → Int32 → AH → Option (Int32 × AH)} {Q : Int32 → AH → Prop}
theorem tyX_e {a b : Nat} {ch : Int} : cX (tyS S a b ch) b = tyT (cX S b) a ch := if_pos rfl
theorem tyX_n {a b t : Nat} {ch : Int} (h : t ≠ b) : cX (tyS S a b ch) t = cX S t := if_neg h
theorem tyH_e {a b : Nat} {ch : Int} : cH (tyS S a b ch) a = ((cH S a).1.take (cH S a).2 ++ [(b, rn (xR (cX S b)), true)], (cH S a).2 + 1) := if_pos rfl
theorem tyH_n {a b j : Nat} {ch : Int} (h : j ≠ a) : cH (tyS S a b ch) j = cH S j := if_neg h
theorem erX_e {a b : Nat} : cX (erS S a b) b = erT (cX S b) a := if_pos rfl
theorem erX_n {a b t : Nat} (h : t ≠ b) : cX (erS S a b) t = cX S t := if_neg h
theorem erH_e {a b : Nat} : cH (erS S a b) a = ((cH S a).1.take (cH S a).2 ++ [(b, ro (xR (cX S b)) (era (cX S b) a - 1), false)], (cH S a).2 + 1) := if_pos rfl
theorem erH_n {a b j : Nat} (h : j ≠ a) : cH (erS S a b) j = cH S j := if_neg h
theorem unX_e {a : Nat} {x : Ac} : cX (unS S a x) x.1 = tuT (cX S x.1) x.2.1 (!x.2.2) := if_pos rfl
theorem unX_n {a t : Nat} {x : Ac} (h : t ≠ x.1) : cX (unS S a x) t = cX S t := if_neg h
theorem unH_e {a : Nat} {x : Ac} : cH (unS S a x) a = ((cH S a).1, (cH S a).2 - 1) := if_pos rfl
theorem unH_n {a j : Nat} {x : Ac} (h : j ≠ a) : cH (unS S a x) j = cH S j := if_neg h
theorem reX_e {a : Nat} {x : Ac} : cX (reS S a x) x.1 = tuT (cX S x.1) x.2.1 x.2.2 := if_pos rfl
theorem reX_n {a t : Nat} {x : Ac} (h : t ≠ x.1) : cX (reS S a x) t = cX S t := if_neg h
theorem reH_e {a : Nat} {x : Ac} : cH (reS S a x) a = ((cH S a).1, (cH S a).2 + 1) := if_pos rfl
theorem reH_n {a j : Nat} {x : Ac} (h : j ≠ a) : cH (reS S a x) j = cH S j := if_neg h
theorem tk_at {l : List Ac} {st : Nat} {x : Ac} (h : st ≤ l.length) : (l.take st ++ [x])[st]? = some x ∧ (l.take st ++ [x]).length = st + 1 := by
  have e : (l.take st).length = st := by rw [List.length_take]; omega
  refine ⟨?_, by rw [List.length_append, e]; rfl⟩
  rw [List.getElem?_append_right (by omega), e, Nat.sub_self]; rfl
theorem lv_get (hV : LV S A i 0) {t : Nat} (ht : t < 3) : ∃ w : Int, xV (cX S t) = iI (A.1 t) ∧ xW (cX S t) = iI w ∧ -1 ≤ w ∧ w ≤ A.1 t ∧ 0 ≤ A.1 t ∧ A.1 t ≤ 4 * i := by
  obtain ⟨v, w, v1, v2, v3, v4, v5, v6, v7, v8⟩ := hV t ht
  have e : v = A.1 t := by omega
  subst e
  exact ⟨w, v1, v2, v3, v4, v7, v8⟩
/-- a text's version has grown by d -/
theorem lv_put {S' : Cs} {A' : La} {d : Int} {b : Nat} (hV : LV S A i 0) (eA : A'.1 = A.1) (hb : b < 3) (d0 : 0 ≤ d) (d4 : d ≤ 4) (e1 : xV (cX S' b) = xV (cX S b) + iI d) (e2 : xW (cX S' b) = xW (cX S b)) (e3 : ∀ t, t ≠ b → cX S' t = cX S t) : LV S' A' i 4 := by
  intro t ht
  rw [eA]
  obtain ⟨w, v1, v2, v3, v4, v5, v6⟩ := lv_get hV ht
  by_cases z : t = b
  · subst z
    exact ⟨A.1 t + d, w, by rw [e1, v1, j_add], by rw [e2]; exact v2, v3, by omega, by omega, by omega, v5, v6⟩
  · rw [e3 t z]
    exact ⟨A.1 t, w, v1, v2, v3, v4, by omega, by omega, v5, v6⟩
theorem lr_put {S' : Cs} {b : Nat} (hR : LR S i) (e1 : rn (xR (cX S' b)) ≤ rn (xR (cX S b)) + 1) (e3 : ∀ t, t ≠ b → cX S' t = cX S t) : LR S' (i + 1) := by
  intro t ht
  by_cases z : t = b
  · subst z
    have := hR t ht; omega
  · rw [e3 t z]
    have := hR t ht; omega
theorem lh_put {S' : Cs} {A' : La} {a : Nat} {z : Int} (hH : LH S A) (eA : A'.2.1 = cset A.2.1 a z) (e1 : z = (cH S' a).2) (e2 : ∀ j, j ≠ a → cH S' j = cH S j) : LH S' A' := by
  intro j hj
  rw [eA]
  show (if j = a then z else A.2.1 j) = _
  by_cases d : j = a
  · rw [if_pos d, d]; exact e1
  · rw [if_neg d, e2 j d]; exact hH j hj
theorem br_type {a b : Nat} {ch : Int} (ha : a < 5) (hb : b < 3) (hl : isLet ch = true) (c1 : 0 ≤ ch) (c2 : ch ≤ 65535) (hi : i < 64) (hW : Wo c S A n k h) (hV : LV S A i 0) (hH : LH S A) (hF : LF S A many) (hQ : LQ S saves written) (hR : LR S i) (hn : n ≤ 4 * i) (hk : k ≤ 9300 * i + 200) (hX : NX K Q c i) : Okp (p_L_law_220 xs L K c (c + 59) (c + 60) (c + 61) (c + 62) (iI many) (iI saves) (iI written) (iI i) (iI b) (iI a) (vLk (cX S b)) (xV (cX S b)) (iI (vLn (cX S b))) (iI ch) h) Q := by
  have hG := (csG_of hW.1).1 b hb
  have hHa := ((csG_of hW.1).2.1 a ha).1
  have h150 := vLn_150 hW hb
  have hpl := cpl_rg (T := cX S b) (a := a)
  have hR1 := hR b hb
  obtain ⟨f1, f2, f3, f4⟩ := ty_facts (ch := ch) hG ha
  obtain ⟨u1, u2, u3, u4⟩ := ty_undo (ch := ch) hG ha
  obtain ⟨t1, t2⟩ := tk_at (x := (b, rn (xR (cX S b)), true)) hHa
  obtain ⟨w, v1, v2, v3, v4, v5, v6⟩ := lv_get hV hb
  have eX2 : cX (unS (tyS S a b ch) a (b, rn (xR (cX S b)), true)) b = tuT (tyT (cX S b) a ch) (rn (xR (cX S b))) false := by
    have := unX_e (S := tyS S a b ch) (a := a) (x := (b, rn (xR (cX S b)), true))
    rw [tyX_e] at this
    exact this
  have eX3 : cX (reS (unS (tyS S a b ch) a (b, rn (xR (cX S b)), true)) a (b, rn (xR (cX S b)), true)) b = tuT (tuT (tyT (cX S b) a ch) (rn (xR (cX S b))) false) (rn (xR (cX S b))) true := by
    have := reX_e (S := unS (tyS S a b ch) a (b, rn (xR (cX S b)), true)) (a := a) (x := (b, rn (xR (cX S b)), true))
    rw [eX2] at this
    exact this
  have eH2 : cH (unS (tyS S a b ch) a (b, rn (xR (cX S b)), true)) a = ((cH S a).1.take (cH S a).2 ++ [(b, rn (xR (cX S b)), true)], (cH S a).2) := by
    rw [unH_e, tyH_e]; rfl
  have eH3 : cH (reS (unS (tyS S a b ch) a (b, rn (xR (cX S b)), true)) a (b, rn (xR (cX S b)), true)) a = ((cH S a).1.take (cH S a).2 ++ [(b, rn (xR (cX S b)), true)], (cH S a).2 + 1) := by
    rw [reH_e, eH2]
  unfold p_L_law_220
  refine ok_bR (g_place hW (by omega) (by omega) ha hb) ?_
  rintro r h1 ⟨rfl, hW1⟩
  refine ok_bR (g_type hW1 (by omega) (by omega) ha hb hl c1 c2 (by omega)) ?_
  rintro r h2 ⟨rfl, hW2⟩
  rw [j_add, if_pos (by rw [f1]; rfl)]
  refine ok_bR (g_letter hW2 (by omega) (by omega) hb (p := cpl (cX S b) a) (by omega)) ?_
  rintro r h3 ⟨rfl, hW3⟩
  rw [tyX_e, f3, if_pos rfl]
  refine ok_bR (g_length hW3 (by omega) (by omega) hb) ?_
  rintro r h4 ⟨rfl, hW4⟩
  rw [tyX_e, f2, j_add, if_pos (by rfl)]
  refine ok_bR (g_version hW4 (by omega) (by omega) hb) ?_
  rintro r h5 ⟨rfl, hW5⟩
  rw [tyX_e, f4, if_pos rfl]
  refine ok_bR (g_undo hW5 (by omega) (by omega) ha (x := (b, rn (xR (cX S b)), true)) (by rw [tyH_e]; exact Nat.succ_ne_zero _) (by rw [tyH_e]; exact t1)) ?_
  rintro r h6 ⟨rfl, hW6⟩
  rw [if_pos rfl]
  refine ok_bR (g_looks hW6 (by omega) (by omega) hb) ?_
  rintro r h7 ⟨rfl, hW7⟩
  rw [eX2, sameL_lk u1, lg_same, if_pos rfl]
  refine ok_bR (g_redo hW7 (by omega) (by omega) ha (x := (b, rn (xR (cX S b)), true)) (by rw [eH2]; show (cH S a).2 ≠ _; rw [t2]; omega) (by rw [eH2]; exact t1)) ?_
  rintro r h8 ⟨rfl, hW8⟩
  rw [if_pos rfl]
  refine ok_bR (g_letter hW8 (by omega) (by omega) hb (p := cpl (cX S b) a) (by omega)) ?_
  rintro r h9 ⟨rfl, hW9⟩
  rw [eX3, u3, if_pos rfl]
  refine ok_bR (g_version hW9 (by omega) (by omega) hb) ?_
  rintro r h10 ⟨rfl, hW10⟩
  have e3 : xV (tuT (tuT (tyT (cX S b) a ch) (rn (xR (cX S b))) false) (rn (xR (cX S b))) true) = xV (cX S b) + iI 3 := by
    rw [u4, v1, j_add, j_add, j_add, j_add]
    congr 1; omega
  rw [eX3, e3, if_pos rfl]
  unfold p_L_law_353
  rw [ck_p (ix1 hW10 ha), ck_p (ix1 hW10 ha), nm_q, tnc (by omega), hW10.2.1.2.2.1 a ha, j_add]
  have nX : ∀ t, t ≠ b → cX (reS (unS (tyS S a b ch) a (b, rn (xR (cX S b)), true)) a (b, rn (xR (cX S b)), true)) t = cX S t := fun t ht => (reX_n ht).trans ((unX_n ht).trans (tyX_n ht))
  refine tl_1640 (wo_u1 hW10) (by omega) (by omega) hi (lv_put hV rfl hb (d := 3) (by omega) (by omega) (by rw [eX3]; exact e3) ?_ nX) (lh_put hH rfl ?_ ?_) hF hQ (lr_put hR (b := b) ?_ nX) hX
  · rw [eX3, (tu_v _ _ _).2, (tu_v _ _ _).2]; rfl
  · rw [eH3, hH a ha]; rfl
  · intro j hj
    exact (reH_n hj).trans ((unH_n hj).trans (tyH_n hj))
  · rw [eX3, tuT_n, tuT_n]
    exact Nat.le_refl _
theorem br_erase {a b : Nat} (ha : a < 5) (hb : b < 3) (hi : i < 64) (hW : Wo c S A n k h) (hV : LV S A i 0) (hH : LH S A) (hF : LF S A many) (hQ : LQ S saves written) (hR : LR S i) (hn : n ≤ 4 * i) (hk : k ≤ 9300 * i + 200) (hX : NX K Q c i) : Okp (bR (p_L_place c (iI a) (iI b) h) fun r60 h61 => bR (p_L_erase c (iI a) (iI b) h61) fun r62 h63 =>
    if r60 = 0 then
      if r62 = (iI (-103)) then
        bR (p_L_looks c (iI b) h63) fun r91 h92 =>
        if (lg_cmp r91 (vLk (cX S b))) = 0 then
          p_L_law_536 xs L K c (c + 59) (c + 60) (c + 61) (c + 62) (iI many) (iI saves) (iI written) (iI i) (iI a) r62 (iI 1) h92
        else
          p_L_law_421 xs L K c (c + 59) (c + 60) (c + 61) (c + 62) (iI many) (iI saves) (iI written) (iI i) (iI a) r62 h92
      else
        p_L_law_421 xs L K c (c + 59) (c + 60) (c + 61) (c + 62) (iI many) (iI saves) (iI written) (iI i) (iI a) r62 h63
    else
      if r62 = (r60 - (iI 1)) then
        bR (p_L_length c (iI b) h63) fun r66 h67 =>
        if r66 = ((iI (vLn (cX S b))) - (iI 1)) then
          bR (p_L_version c (iI b) h67) fun r69 h70 =>
          if r69 = ((xV (cX S b)) + (iI 1)) then
            bR (p_L_undo c (iI a) h70) fun r72 h73 =>
            if r72 = (iI b) then
              bR (p_L_looks c (iI b) h73) fun r75 h76 =>
              if (lg_cmp r75 (vLk (cX S b))) = 0 then
                bR (p_L_place c (iI a) (iI b) h76) fun r78 h79 =>
                if r78 = r60 then
                  bR (p_L_redo c (iI a) h79) fun r81 h82 =>
                  if r81 = (iI b) then
                    bR (p_L_length c (iI b) h82) fun r84 h85 =>
                    if r84 = ((iI (vLn (cX S b))) - (iI 1)) then
                      bR (p_L_redo c (iI a) h85) fun r87 h88 =>
                      if r87 = (iI (-103)) then
                        p_L_law_536 xs L K c (c + 59) (c + 60) (c + 61) (c + 62) (iI many) (iI saves) (iI written) (iI i) (iI a) r62 (iI 1) h88
                      else
                        p_L_law_535 xs L K c (c + 59) (c + 60) (c + 61) (c + 62) (iI many) (iI saves) (iI written) (iI i) (iI a) r62 h88
                    else
                      p_L_law_535 xs L K c (c + 59) (c + 60) (c + 61) (c + 62) (iI many) (iI saves) (iI written) (iI i) (iI a) r62 h85
                  else
                    p_L_law_535 xs L K c (c + 59) (c + 60) (c + 61) (c + 62) (iI many) (iI saves) (iI written) (iI i) (iI a) r62 h82
                else
                  p_L_law_535 xs L K c (c + 59) (c + 60) (c + 61) (c + 62) (iI many) (iI saves) (iI written) (iI i) (iI a) r62 h79
              else
                p_L_law_535 xs L K c (c + 59) (c + 60) (c + 61) (c + 62) (iI many) (iI saves) (iI written) (iI i) (iI a) r62 h76
            else
              p_L_law_535 xs L K c (c + 59) (c + 60) (c + 61) (c + 62) (iI many) (iI saves) (iI written) (iI i) (iI a) r62 h73
          else
            p_L_law_535 xs L K c (c + 59) (c + 60) (c + 61) (c + 62) (iI many) (iI saves) (iI written) (iI i) (iI a) r62 h70
        else
          p_L_law_535 xs L K c (c + 59) (c + 60) (c + 61) (c + 62) (iI many) (iI saves) (iI written) (iI i) (iI a) r62 h67
      else
        p_L_law_535 xs L K c (c + 59) (c + 60) (c + 61) (c + 62) (iI many) (iI saves) (iI written) (iI i) (iI a) r62 h63) Q := by
  have hG := (csG_of hW.1).1 b hb
  have hHa := ((csG_of hW.1).2.1 a ha).1
  have h150 := vLn_150 hW hb
  have hpl := cpl_rg (T := cX S b) (a := a)
  refine ok_bR (g_place hW (by omega) (by omega) ha hb) ?_
  rintro r h1 ⟨rfl, hW1⟩
  have hno : (era (cX S b) a = 0) = (cpl (cX S b) a = 0) := er_none
  by_cases h0 : era (cX S b) a = 0
  · refine ok_bR (g_erase0 hW1 (by omega) (by omega) ha hb h0) ?_
    rintro r h2 ⟨rfl, hW2⟩
    have hp0 : cpl (cX S b) a = 0 := hno ▸ h0
    rw [if_pos (by rw [hp0]; rfl), if_pos rfl]
    refine ok_bR (g_looks hW2 (by omega) (by omega) hb) ?_
    rintro r h3 ⟨rfl, hW3⟩
    rw [lg_same, if_pos rfl]
    unfold p_L_law_536
    rw [ck_p (ix1 hW3 ha), if_pos (by decide +kernel)]
    unfold p_L_law_553
    rw [ck_p (ix1 hW3 ha), nm_q, tnc (by omega), hW3.2.1.2.2.1 a ha, j_add]
    refine tl_1640 (wo_u1 hW3) (by omega) (by omega) hi (lv_put hV rfl hb (d := 0) (by omega) (by omega) ?_ rfl (fun _ _ => rfl)) (lh_put hH rfl ?_ (fun _ _ => rfl)) hF hQ (lr_put hR (b := b) (by omega) (fun _ _ => rfl)) hX
    · obtain ⟨w, v1, -⟩ := lv_get hV hb
      rw [v1, j_add, Int.add_zero]
    · rw [Int.add_zero]; exact hH a ha
  · obtain ⟨f1, f2, f3, f4, f5, f6⟩ := er_facts hG ha h0
    obtain ⟨u1, u2, u3, u4, u5⟩ := er_undo hG ha h0 (l := ro (xR (cX S b)) (era (cX S b) a - 1)) rfl
    obtain ⟨t1, t2⟩ := tk_at (x := (b, ro (xR (cX S b)) (era (cX S b) a - 1), false)) hHa
    obtain ⟨w, v1, v2, v3, v4, v5, v6⟩ := lv_get hV hb
    generalize hll : ro (xR (cX S b)) (era (cX S b) a - 1) = l at *
    have eX1 : cX (erS S a b) b = erT (cX S b) a := erX_e
    have eH1 : cH (erS S a b) a = ((cH S a).1.take (cH S a).2 ++ [(b, l, false)], (cH S a).2 + 1) := by rw [erH_e, hll]
    have eX2 : cX (unS (erS S a b) a (b, l, false)) b = tuT (erT (cX S b) a) l true := by
      have := unX_e (S := erS S a b) (a := a) (x := (b, l, false))
      rw [eX1] at this
      exact this
    have eX3 : cX (reS (unS (erS S a b) a (b, l, false)) a (b, l, false)) b = tuT (tuT (erT (cX S b) a) l true) l false := by
      have := reX_e (S := unS (erS S a b) a (b, l, false)) (a := a) (x := (b, l, false))
      rw [eX2] at this
      exact this
    have eH2 : cH (unS (erS S a b) a (b, l, false)) a = ((cH S a).1.take (cH S a).2 ++ [(b, l, false)], (cH S a).2) := by
      rw [unH_e, eH1]; rfl
    have eH3 : cH (reS (unS (erS S a b) a (b, l, false)) a (b, l, false)) a = ((cH S a).1.take (cH S a).2 ++ [(b, l, false)], (cH S a).2 + 1) := by
      rw [reH_e, eH2]
    refine ok_bR (g_erase hW1 (by omega) (by omega) ha hb h0) ?_
    rintro r h2 ⟨rfl, hW2⟩
    have hp0 : cpl (cX S b) a ≠ 0 := fun z => h0 (hno ▸ z)
    rw [if_neg (by rw [j_0, j_eq (by omega) (by omega) (by omega) (by omega)]; omega), j_sub, if_pos (by congr 1; omega)]
    refine ok_bR (g_length hW2 (by omega) (by omega) hb) ?_
    rintro r h3 ⟨rfl, hW3⟩
    rw [eX1, j_sub, if_pos (by congr 1; omega)]
    refine ok_bR (g_version hW3 (by omega) (by omega) hb) ?_
    rintro r h4 ⟨rfl, hW4⟩
    rw [eX1, f6, if_pos rfl]
    refine ok_bR (g_undo hW4 (by omega) (by omega) ha (x := (b, l, false)) (by rw [eH1]; exact Nat.succ_ne_zero _) (by rw [eH1]; exact t1)) ?_
    rintro r h5 ⟨rfl, hW5⟩
    rw [if_pos rfl]
    refine ok_bR (g_looks hW5 (by omega) (by omega) hb) ?_
    rintro r h6 ⟨rfl, hW6⟩
    rw [eX2, sameL_lk (sameL_R u1), lg_same, if_pos rfl]
    refine ok_bR (g_place hW6 (by omega) (by omega) ha hb) ?_
    rintro r h7 ⟨rfl, hW7⟩
    rw [eX2, u2, if_pos rfl]
    refine ok_bR (g_redo hW7 (by omega) (by omega) ha (x := (b, l, false)) (by rw [eH2]; show (cH S a).2 ≠ _; rw [t2]; omega) (by rw [eH2]; exact t1)) ?_
    rintro r h8 ⟨rfl, hW8⟩
    rw [if_pos rfl]
    refine ok_bR (g_length hW8 (by omega) (by omega) hb) ?_
    rintro r h9 ⟨rfl, hW9⟩
    rw [eX3, u4, if_pos (by congr 1; omega)]
    refine ok_bR (g_redo0 hW9 (by omega) (by omega) ha (by rw [eH3]; exact t2.symm)) ?_
    rintro r h10 ⟨rfl, hW10⟩
    rw [if_pos rfl]
    unfold p_L_law_536
    rw [ck_p (ix1 hW10 ha), if_neg (by rw [j_lt0 (by omega) (by omega)]; omega)]
    unfold p_L_law_553
    rw [ck_p (ix1 hW10 ha), nm_q, tnc (by omega), hW10.2.1.2.2.1 a ha, j_add]
    have nX : ∀ t, t ≠ b → cX (reS (unS (erS S a b) a (b, l, false)) a (b, l, false)) t = cX S t := fun t ht => (reX_n ht).trans ((unX_n ht).trans (erX_n ht))
    refine tl_1640 (wo_u1 hW10) (by omega) (by omega) hi (lv_put hV rfl hb (d := 3) (by omega) (by omega) ?_ ?_ nX) (lh_put hH rfl ?_ ?_) hF hQ (lr_put hR (b := b) ?_ nX) hX
    · rw [eX3, u5, v1, j_add, j_add, j_add, j_add]
      congr 1; omega
    · rw [eX3, (tu_v _ _ _).2, (tu_v _ _ _).2]; rfl
    · rw [eH3, hH a ha]; rfl
    · intro j hj
      exact (reH_n hj).trans ((unH_n hj).trans (erH_n hj))
    · rw [eX3, tuT_n, tuT_n]
      exact Nat.le_succ _
theorem br_move {a b x : Nat} (ha : a < 5) (hb : b < 3) (hx : x < 1000000000) (hi : i < 64) (hW : Wo c S A n k h) (hV : LV S A i 0) (hH : LH S A) (hF : LF S A many) (hQ : LQ S saves written) (hR : LR S i) (hn : n ≤ 4 * i) (hk : k ≤ 9300 * i + 200) (hX : NX K Q c i) : Okp (bR (p_L_place c (iI a) (iI b) h) fun r41 h42 =>
    bR (p_L_moves c (iI a) (iI b) ((iI (vLn (cX S b))) + (iI 1)) h42) fun r43 h44 =>
    if r43 = (iI (-101)) then
      ck (¬ ((iI (vLn (cX S b))) + (iI 1)) = 0) <|
      bR (p_L_moves c (iI a) (iI b) ((iI x) - (iI x) / ((iI (vLn (cX S b))) + (iI 1)) * ((iI (vLn (cX S b))) + (iI 1))) h44) fun r47 h48 =>
      if r47 = r41 then
        bR (p_L_place c (iI a) (iI b) h48) fun r50 h51 =>
        ck (¬ ((iI (vLn (cX S b))) + (iI 1)) = 0) <|
        if r50 = ((iI x) - (iI x) / ((iI (vLn (cX S b))) + (iI 1)) * ((iI (vLn (cX S b))) + (iI 1))) then
          bR (p_L_looks c (iI b) h51) fun r54 h55 =>
          if (lg_cmp r54 (vLk (cX S b))) = 0 then
            bR (p_L_version c (iI b) h55) fun r57 h58 =>
            if r57 = (xV (cX S b)) then
              p_L_law_658 xs L K c (c + 59) (c + 60) (c + 61) (c + 62) (iI many) (iI saves) (iI written) (iI i) (iI 1) h58
            else
              p_L_law_657 xs L K c (c + 59) (c + 60) (c + 61) (c + 62) (iI many) (iI saves) (iI written) (iI i) h58
          else
            p_L_law_657 xs L K c (c + 59) (c + 60) (c + 61) (c + 62) (iI many) (iI saves) (iI written) (iI i) h55
        else
          p_L_law_657 xs L K c (c + 59) (c + 60) (c + 61) (c + 62) (iI many) (iI saves) (iI written) (iI i) h51
      else
        p_L_law_657 xs L K c (c + 59) (c + 60) (c + 61) (c + 62) (iI many) (iI saves) (iI written) (iI i) h48
    else
      p_L_law_657 xs L K c (c + 59) (c + 60) (c + 61) (c + 62) (iI many) (iI saves) (iI written) (iI i) h44) Q := by
  have hG := (csG_of hW.1).1 b hb
  have h150 := vLn_150 hW hb
  have e1 : (iI (vLn (cX S b)) + iI 1 : Int32) = iI ((vLn (cX S b) + 1 : Nat) : Int) := by rw [j_add]; rfl
  have e2 : iI x - iI x / iI ((vLn (cX S b) + 1 : Nat) : Int) * iI ((vLn (cX S b) + 1 : Nat) : Int) = iI ((x % (vLn (cX S b) + 1) : Nat) : Int) := by
    rw [j_rem (by omega) (by omega) (by omega) (by omega)]; rfl
  have e3 : ¬ (iI ((vLn (cX S b) + 1 : Nat) : Int) = 0) := by rw [j_0, j_eq (by omega) (by omega) (by omega) (by omega)]; omega
  have hlt : x % (vLn (cX S b) + 1) < vLn (cX S b) + 1 := Nat.mod_lt _ (Nat.succ_pos _)
  rw [e1, e2]
  refine ok_bR (g_place hW (by omega) (by omega) ha hb) ?_
  rintro r h1 ⟨rfl, hW1⟩
  refine ok_bR (g_moves0 hW1 (by omega) (by omega) ha hb (Nat.lt_succ_self _) (by omega)) ?_
  rintro r h2 ⟨rfl, hW2⟩
  rw [if_pos rfl, ck_p e3]
  refine ok_bR (g_moves hW2 (by omega) (by omega) ha hb (p := x % (vLn (cX S b) + 1)) (by omega)) ?_
  rintro r h3 ⟨rfl, hW3⟩
  have eX : cX (mvS S a b (x % (vLn (cX S b) + 1))) b = mvT (cX S b) a (x % (vLn (cX S b) + 1) : Nat) := if_pos rfl
  have nX : ∀ t, t ≠ b → cX (mvS S a b (x % (vLn (cX S b) + 1))) t = cX S t := fun t ht => if_neg ht
  rw [if_pos rfl]
  refine ok_bR (g_place hW3 (by omega) (by omega) ha hb) ?_
  rintro r h4 ⟨rfl, hW4⟩
  rw [ck_p e3, eX, mv_place hG (by omega), if_pos rfl]
  refine ok_bR (g_looks hW4 (by omega) (by omega) hb) ?_
  rintro r h5 ⟨rfl, hW5⟩
  rw [eX, sameL_lk (T := mvT (cX S b) a (x % (vLn (cX S b) + 1) : Nat)) (T' := cX S b) (sameL_R rfl), lg_same, if_pos rfl]
  refine ok_bR (g_version hW5 (by omega) (by omega) hb) ?_
  rintro r h6 ⟨rfl, hW6⟩
  rw [eX, if_pos (by rfl)]
  unfold p_L_law_658
  obtain ⟨w, v1, -⟩ := lv_get hV hb
  refine tl_1640 hW6 (by omega) (by omega) hi (lv_put hV rfl hb (d := 0) (by omega) (by omega) ?_ (by rw [eX]; rfl) nX) hH hF hQ (lr_put hR (b := b) (by rw [eX]; exact Nat.le_succ _) nX) hX
  rw [eX]
  show xV (cX S b) = _
  rw [v1, j_add, Int.add_zero]
end ACT
