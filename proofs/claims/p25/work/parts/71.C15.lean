
/-! ===== undoing, locking, saving, writing: rounds of the law ===== -/
section ACT2
variable {c n k i many saves written : Nat} {S : Cs} {A : La} {h h' : AH}
variable {xs : Nat → Int32} {L : Nat} {K : Nat → Nat → Nat → Nat → Nat → Int32 → Int32 → Int32 → Int32 → Int32 → AH → Option (Int32 × AH)} {Q : Int32 → AH → Prop}
theorem j_rem0 {x m : Nat} (hx : x < 1000000000) (hm : 0 < m) (hm2 : m < 100000) : (iI x - iI x / iI m * iI m = (0 : Int32)) = (x % m = 0) := by
  have := Nat.mod_lt x hm
  rw [j_rem (by omega) (by omega) (by omega) (by omega), j_0, show ((x : Int) % (m : Int)) = ((x % m : Nat) : Int) from rfl, j_eq (by omega) (by omega) (by omega) (by omega)]
  apply propext
  omega
theorem br_undo {a x : Nat} (ha : a < 5) (hx : x < 1000000000) (hi : i < 64) (hW : Wo c S A n k h) (hV : LV S A i 0) (hH : LH S A) (hF : LF S A many) (hQ : LQ S saves written) (hR : LR S i) (hn : n ≤ 4 * i) (hk : k ≤ 9300 * i + 200) (hX : NX K Q c i) : Okp (bR (p_L_undo c (iI a) h) fun r24 h25 =>
    ck (aK h25 (c + 60) = 20 ∧ ix (iI a) (aN h25 (c + 60))) <|
    if (aI h25 (c + 60) (iI a).toNatClampNeg) = 0 then
      if r24 = (iI (-103)) then
        p_L_law_749 xs L K c (c + 59) (c + 60) (c + 61) (c + 62) (iI many) (iI saves) (iI written) (iI i) (iI a) (iI x) r24 (iI 1) h25
      else
        p_L_law_749 xs L K c (c + 59) (c + 60) (c + 61) (c + 62) (iI many) (iI saves) (iI written) (iI i) (iI a) (iI x) r24 (iI 0) h25
    else
      if r24 < 0 then
        p_L_law_748 xs L K c (c + 59) (c + 60) (c + 61) (c + 62) (iI many) (iI saves) (iI written) (iI i) (iI a) (iI x) r24 h25
      else
        if (iI 3) ≤ r24 then
          p_L_law_748 xs L K c (c + 59) (c + 60) (c + 61) (c + 62) (iI many) (iI saves) (iI written) (iI i) (iI a) (iI x) r24 h25
        else
          bR (p_L_version c r24 h25) fun r31 h32 =>
          ck (aK h32 (c + 59) = 20 ∧ ix r24 (aN h32 (c + 59))) <|
          if (iI 1) < (r31 - (aI h32 (c + 59) r24.toNatClampNeg)) then
            p_L_law_748 xs L K c (c + 59) (c + 60) (c + 61) (c + 62) (iI many) (iI saves) (iI written) (iI i) (iI a) (iI x) r24 h32
          else
            if ((iI x) - (iI x) / (iI 2) * (iI 2)) = 0 then
              p_L_law_744 xs L K c (c + 59) (c + 60) (c + 61) (c + 62) (iI many) (iI saves) (iI written) (iI i) (iI a) (iI x) r24 h32
            else
              bR (p_L_redo c (iI a) h32) fun r37 h38 =>
              if r37 = r24 then
                p_L_law_744 xs L K c (c + 59) (c + 60) (c + 61) (c + 62) (iI many) (iI saves) (iI written) (iI i) (iI a) (iI x) r24 h38
              else
                p_L_law_748 xs L K c (c + 59) (c + 60) (c + 61) (c + 62) (iI many) (iI saves) (iI written) (iI i) (iI a) (iI x) r24 h38) Q := by
  have hHa := ((csG_of hW.1).2.1 a ha).1
  have h512 := ((csG_of hW.1).2.1 a ha).2
  have eA := hH a ha
  have e2 : ((iI x) - (iI x) / (iI 2) * (iI 2) = (0 : Int32)) = (x % 2 = 0) := j_rem0 hx (m := 2) (by omega) (by omega)
  by_cases h0 : (cH S a).2 = 0
  · refine ok_bR (g_undo0 hW (by omega) (by omega) ha h0) ?_
    rintro r h1 ⟨rfl, hW1⟩
    rw [ck_p (ix1 hW1 ha), rd1 hW1 ha, if_pos (by rw [eA, h0]; rfl), if_pos rfl]
    unfold p_L_law_749
    rw [ck_p (ix1 hW1 ha), if_pos (by decide +kernel)]
    unfold p_L_law_772 p_L_law_773
    rw [ck_p (ix1 hW1 ha), nm_q, tnc (by omega), hW1.2.1.2.2.1 a ha, j_sub]
    refine tl_1640 (wo_u1 hW1) (by omega) (by omega) hi (lv_put hV rfl (b := 0) (by omega) (d := 0) (by omega) (by omega) ?_ rfl (fun _ _ => rfl)) (lh_put hH rfl ?_ (fun _ _ => rfl)) hF hQ (lr_put hR (b := 0) (by omega) (fun _ _ => rfl)) hX
    · obtain ⟨w, v1, -⟩ := lv_get hV (t := 0) (by omega)
      rw [v1, j_add, Int.add_zero]
    · rw [Int.sub_zero]; exact eA
  · have hlt : (cH S a).2 - 1 < (cH S a).1.length := by omega
    obtain ⟨y, ey⟩ : ∃ y, y = (cH S a).1[(cH S a).2 - 1] := ⟨_, rfl⟩
    have e1 : (cH S a).1[(cH S a).2 - 1]? = some y := by rw [ey]; exact List.getElem?_eq_getElem hlt
    have hy := hW.2.2.1.2.2.1 a ha y (List.mem_of_getElem? e1)
    obtain ⟨b, l, ty⟩ := y
    have hb : b < 3 := hy.1
    obtain ⟨w, v1, v2, v3, v4, v5, v6⟩ := lv_get hV hb
    have eX1 : cX (unS S a (b, l, ty)) b = tuT (cX S b) l (!ty) := unX_e (x := (b, l, ty))
    have eH1 : cH (unS S a (b, l, ty)) a = ((cH S a).1, (cH S a).2 - 1) := unH_e
    have nX1 : ∀ t, t ≠ b → cX (unS S a (b, l, ty)) t = cX S t := fun t ht => unX_n ht
    obtain ⟨d1, hd0, hd1, ed1⟩ : ∃ d : Int, 0 ≤ d ∧ d ≤ 1 ∧ xV (cX (unS S a (b, l, ty)) b) = iI (A.1 b + d) := by
      rw [eX1]
      rcases (tu_v (cX S b) l (!ty)).1 with z | z
      · exact ⟨0, by omega, by omega, by rw [z, v1, Int.add_zero]⟩
      · exact ⟨1, by omega, by omega, by rw [z, v1, j_add]⟩
    refine ok_bR (g_undo hW (by omega) (by omega) ha h0 e1) ?_
    rintro r h1 ⟨rfl, hW1⟩
    rw [ck_p (ix1 hW1 ha), rd1 hW1 ha, if_neg (by rw [eA, j_0, j_eq (by omega) (by omega) (by omega) (by omega)]; omega)]
    show Okp (if iI ((b : Nat) : Int) < 0 then _ else _) Q
    rw [if_neg (by rw [j_lt0 (by omega) (by omega)]; omega)]
    show Okp (if iI 3 ≤ iI ((b : Nat) : Int) then _ else _) Q
    rw [if_neg (by rw [j_le (by omega) (by omega) (by omega) (by omega)]; omega)]
    refine ok_bR (g_version hW1 (by omega) (by omega) hb) ?_
    rintro r h2 ⟨rfl, hW2⟩
    refine ok_ck (ix0 hW2 hb) ?_
    show Okp (if iI 1 < xV (cX (unS S a (b, l, ty)) b) - aI h2 (c + 59) (iI ((b : Nat) : Int)).toNatClampNeg then _ else _) Q
    rw [rd0 hW2 hb, ed1, j_sub, if_neg (by rw [j_lt (by omega) (by omega) (by omega) (by omega)]; omega)]
    by_cases c2 : x % 2 = 0
    · rw [if_pos (by rw [e2]; exact c2)]
      unfold p_L_law_744 p_L_law_749
      refine ok_ck (ix1 hW2 ha) ?_
      show Okp (if iI ((b : Nat) : Int) < 0 then _ else _) Q
      rw [if_neg (by rw [j_lt0 (by omega) (by omega)]; omega), if_pos (by rw [e2]; exact c2)]
      unfold p_L_law_773
      rw [ck_p (ix1 hW2 ha), nm_q, tnc (by omega), hW2.2.1.2.2.1 a ha, j_sub]
      refine tl_1640 (wo_u1 hW2) (by omega) (by omega) hi (lv_put hV rfl hb (d := d1) (by omega) (by omega) (by rw [ed1, v1, j_add]) ?_ nX1) (lh_put hH rfl ?_ ?_) hF hQ (lr_put hR (b := b) ?_ nX1) hX
      · rw [eX1]; exact (tu_v _ _ _).2
      · rw [eH1, eA]; show ((cH S a).2 : Int) - 1 = (((cH S a).2 - 1 : Nat) : Int); omega
      · intro j hj; exact unH_n hj
      · rw [eX1, tuT_n]; exact Nat.le_succ _
    · have eH2 : cH (reS (unS S a (b, l, ty)) a (b, l, ty)) a = ((cH S a).1, (cH S a).2 - 1 + 1) := by rw [reH_e, eH1]
      have eX2 : cX (reS (unS S a (b, l, ty)) a (b, l, ty)) b = tuT (cX (unS S a (b, l, ty)) b) l ty := reX_e (x := (b, l, ty))
      have nX2 : ∀ t, t ≠ b → cX (reS (unS S a (b, l, ty)) a (b, l, ty)) t = cX S t := fun t ht => (reX_n ht).trans (unX_n ht)
      obtain ⟨d2, hd2, hd3, ed2⟩ : ∃ d : Int, 0 ≤ d ∧ d ≤ 2 ∧ xV (cX (reS (unS S a (b, l, ty)) a (b, l, ty)) b) = iI (A.1 b + d) := by
        rw [eX2]
        rcases (tu_v (cX (unS S a (b, l, ty)) b) l ty).1 with z | z
        · exact ⟨d1, by omega, by omega, by rw [z, ed1]⟩
        · exact ⟨d1 + 1, by omega, by omega, by rw [z, ed1, j_add]; congr 1; omega⟩
      rw [if_neg (by rw [e2]; exact c2)]
      refine ok_bR (g_redo hW2 (by omega) (by omega) ha (x := (b, l, ty)) (by rw [eH1]; show (cH S a).2 - 1 ≠ (cH S a).1.length; omega) (by rw [eH1]; exact e1)) ?_
      rintro r h3 ⟨rfl, hW3⟩
      rw [if_pos rfl]
      unfold p_L_law_744 p_L_law_749
      refine ok_ck (ix1 hW3 ha) ?_
      show Okp (if iI ((b : Nat) : Int) < 0 then _ else _) Q
      rw [if_neg (by rw [j_lt0 (by omega) (by omega)]; omega), if_neg (by rw [e2]; exact c2)]
      unfold p_L_law_772 p_L_law_773
      rw [ck_p (ix1 hW3 ha), nm_q, tnc (by omega), hW3.2.1.2.2.1 a ha, j_sub]
      refine tl_1640 (wo_u1 hW3) (by omega) (by omega) hi (lv_put hV rfl hb (d := d2) (by omega) (by omega) (by rw [ed2, v1, j_add]) ?_ nX2) (lh_put hH rfl ?_ ?_) hF hQ (lr_put hR (b := b) ?_ nX2) hX
      · rw [eX2, (tu_v _ _ _).2, eX1, (tu_v _ _ _).2]
      · rw [eH2, eA]; show ((cH S a).2 : Int) - 0 = (((cH S a).2 - 1 + 1 : Nat) : Int); omega
      · intro j hj; exact (reH_n hj).trans (unH_n hj)
      · rw [eX2, tuT_n, eX1, tuT_n]; exact Nat.le_succ _
/-! the lock -/
theorem lo_facts {T : Tx} {a : Nat} (hf : isFree T a = true) : isFree (loT T a) a = true ∧ (xL (loT T a) = (a : Int) ↔ ¬ xL T = (a : Int)) := by
  have h := of_decide_eq_true hf
  have e : xL (loT T a) = if xL T = a then -1 else (a : Int) := rfl
  refine ⟨?_, ?_⟩
  · refine decide_eq_true ?_
    rw [e]
    by_cases d : xL T = a
    · rw [if_pos d]; exact Or.inl rfl
    · rw [if_neg d]; exact Or.inr rfl
  · rw [e]
    by_cases d : xL T = a
    · rw [if_pos d]; omega
    · rw [if_neg d]; exact ⟨fun _ => d, fun _ => rfl⟩
theorem br_lock {a b x : Nat} {z : Int32} (ez : z = iI 20) (ha : a < 5) (hb : b < 3) (hi : i < 64) (hW : Wo c S A n k h) (hV : LV S A i 0) (hH : LH S A) (hF : LF S A many) (hQ : LQ S saves written) (hR : LR S i) (hn : n ≤ 4 * i) (hk : k ≤ 9300 * i + 200) (hX : NX K Q c i) : Okp (p_L_law_1368 xs L K c (c + 59) (c + 60) (c + 61) (c + 62) (iI many) (iI saves) (iI written) (iI i) z (iI b) (iI a) (iI x) h) Q := by
  unfold p_L_law_1368
  rw [if_pos ez]
  obtain ⟨w, v1, -⟩ := lv_get hV hb
  cases hf : isFree (cX S b) a with
  | false =>
    refine ok_bR (g_lock0 hW (by omega) (by omega) ha hb hf) ?_
    rintro r h1 ⟨rfl, hW1⟩
    rw [if_pos rfl]
    refine ok_bR (g_lock0 hW1 (by omega) (by omega) ha hb hf) ?_
    rintro r h2 ⟨rfl, hW2⟩
    rw [if_pos rfl]
    unfold p_L_law_1446
    exact tl_1640 hW2 (by omega) (by omega) hi (lv_put hV rfl hb (d := 0) (by omega) (by omega) (by rw [v1, j_add, Int.add_zero]) rfl (fun _ _ => rfl)) hH hF hQ (lr_put hR (b := b) (by omega) (fun _ _ => rfl)) hX
  | true =>
    obtain ⟨l1, l2⟩ := lo_facts hf
    have eX1 : cX (loS S a b) b = loT (cX S b) a := if_pos rfl
    have nX1 : ∀ t, t ≠ b → cX (loS S a b) t = cX S t := fun t ht => if_neg ht
    have f1 : isFree (cX (loS S a b) b) a = true := by rw [eX1]; exact l1
    obtain ⟨l3, l4⟩ := lo_facts f1
    have eX2 : cX (loS (loS S a b) a b) b = loT (cX (loS S a b) b) a := if_pos rfl
    have nX2 : ∀ t, t ≠ b → cX (loS (loS S a b) a b) t = cX S t := fun t ht => (if_neg ht).trans (nX1 t ht)
    have f2 : isFree (cX (loS (loS S a b) a b) b) a = true := by rw [eX2]; exact l3
    have eX3 : cX (loS (loS (loS S a b) a b) a b) b = loT (cX (loS (loS S a b) a b) b) a := if_pos rfl
    have nX3 : ∀ t, t ≠ b → cX (loS (loS (loS S a b) a b) a b) t = cX S t := fun t ht => (if_neg ht).trans (nX2 t ht)
    rw [eX1] at l4
    refine ok_bR (g_lock hW (by omega) (by omega) ha hb hf) ?_
    rintro r h1 ⟨rfl, hW1⟩
    have nn : ∀ p : Prop, ∀ [Decidable p], ¬ (iI (if p then 0 else 1) = iI (-103)) := by
      intro p _
      split <;> decide +kernel
    rw [if_neg (nn _)]
    refine ok_bR (g_lock hW1 (by omega) (by omega) ha hb f1) ?_
    rintro r h2 ⟨rfl, hW2⟩
    rw [eX1, j_sub, if_pos (by
      congr 1
      by_cases d : xL (cX S b) = a
      · rw [if_pos d, if_neg (fun y => (l2.mp y) d)]; rfl
      · rw [if_neg d, if_pos (l2.mpr d)]; rfl)]
    refine ok_bR (g_lock hW2 (by omega) (by omega) ha hb f2) ?_
    rintro r h3 ⟨rfl, hW3⟩
    rw [eX2, eX1, if_pos (by
      congr 1
      by_cases d : xL (cX S b) = a
      · rw [if_pos d, if_pos (l4.mpr (fun y => (l2.mp y) d))]
      · rw [if_neg d, if_neg (fun y => (l4.mp y) (l2.mpr d))])]
    unfold p_L_law_1446
    refine tl_1640 hW3 (by omega) (by omega) hi (lv_put hV rfl hb (d := 0) (by omega) (by omega) ?_ ?_ nX3) hH hF hQ (lr_put hR (b := b) ?_ nX3) hX
    · rw [eX3, eX2, eX1]
      show xV (cX S b) = _
      rw [v1, j_add, Int.add_zero]
    · rw [eX3, eX2, eX1]; rfl
    · rw [eX3, eX2, eX1]; exact Nat.le_succ _
/-! saving and writing -/
theorem lv_same {S' : Cs} {A' : La} (hV : LV S A i 0) (eA : A'.1 = A.1) (e : ∀ t, t < 3 → xV (cX S' t) = xV (cX S t) ∧ (xW (cX S' t) = xW (cX S t) ∨ xW (cX S' t) = xV (cX S t))) : LV S' A' i 4 := by
  intro t ht
  rw [eA]
  obtain ⟨w, v1, v2, v3, v4, v5, v6⟩ := lv_get hV ht
  obtain ⟨e1, e2⟩ := e t ht
  rcases e2 with e2 | e2
  · exact ⟨A.1 t, w, by rw [e1]; exact v1, by rw [e2]; exact v2, v3, v4, by omega, by omega, v5, v6⟩
  · exact ⟨A.1 t, A.1 t, by rw [e1]; exact v1, by rw [e2]; exact v1, by omega, by omega, by omega, by omega, v5, v6⟩
theorem sv_mem {S : Cs} {j : Nat} (hj : j < (cQ S).length) : sv S j ∈ cQ S := List.mem_of_getElem? (sv_at hj)
theorem br_write (hi : i < 64) (hW : Wo c S A n k h) (hV : LV S A i 0) (hH : LH S A) (hF : LF S A many) (hQ : LQ S saves written) (hR : LR S i) (hn : n ≤ 4 * i) (hk : k ≤ 9300 * i + 200) (hX : NX K Q c i) : Okp (p_L_law_1570 xs L K c (c + 59) (c + 60) (c + 61) (c + 62) (iI many) (iI saves) (iI written) (iI i) h) Q := by
  obtain ⟨q1, q2, q3, q4⟩ := hQ
  unfold p_L_law_1570
  rw [ck_p hW.1.1.2.1]
  refine ok_bR (g_write hW (fun j hj => (q4 _ (sv_mem hj)).2)) ?_
  rintro r h1 ⟨rfl, hW1⟩
  by_cases d : qfd (wok S) (cQ S).length 0 < (cQ S).length
  · have hm := q4 _ (sv_mem d)
    have e1 : wrM S = ((((sv S (qfd (wok S) (cQ S).length 0)).1 : Nat) : Int), (cset (cX S) (sv S (qfd (wok S) (cQ S).length 0)).2.2.1 (xkeep (cX S (sv S (qfd (wok S) (cQ S).length 0)).2.2.1)), cH S, cF S, (cQ S).eraseIdx (qfd (wok S) (cQ S).length 0), cN S)) := if_pos d
    rw [e1] at hW1 ⊢
    generalize hqe : qfd (wok S) (cQ S).length 0 = p at *
    generalize hse : sv S p = s at *
    show Okp (if iI ((s.1 : Nat) : Int) < iI (-1) then _ else _) Q
    rw [if_neg (by rw [j_lt (by omega) (by omega) (by omega) (by omega)]; omega)]
    show Okp (if iI saves ≤ iI ((s.1 : Nat) : Int) then _ else _) Q
    rw [if_neg (by rw [j_le (by omega) (by omega) (by omega) (by omega)]; omega)]
    unfold p_L_law_1594
    show Okp (if iI ((s.1 : Nat) : Int) < 0 then _ else _) Q
    rw [if_neg (by rw [j_lt0 (by omega) (by omega)]; omega)]
    unfold p_L_law_1608
    rw [nm_q, if_neg one_ne]
    show Okp (if iI ((s.1 : Nat) : Int) < 0 then _ else _) Q
    have el : ((cQ S).eraseIdx p).length + 1 = (cQ S).length := by rw [List.length_eraseIdx, if_pos d]; omega
    have eq : ((iI written + iI 1 : Int32)) = iI ((written + 1 : Nat) : Int) := by rw [j_add]; rfl
    rw [if_neg (by rw [j_lt0 (by omega) (by omega)]; omega), ck_p hW1.1.1.2.1, bR_e (g_queued hW1), eq, j_sub, if_pos (by
      congr 1
      show ((((cQ S).eraseIdx p).length : Nat) : Int) = _
      omega)]
    unfold p_L_law_1633 p_L_law_1638
    refine tl_1640 hW1 (by omega) (by omega) hi (lv_same hV rfl fun t ht => ?_) hH hF ⟨q1, q2, ?_, fun y hy => q4 y (List.mem_of_mem_eraseIdx hy)⟩ (fun t ht => ?_) hX
    · show xV (if t = s.2.2.1 then xkeep (cX S s.2.2.1) else cX S t) = xV (cX S t) ∧ (xW (if t = s.2.2.1 then xkeep (cX S s.2.2.1) else cX S t) = xW (cX S t) ∨ xW (if t = s.2.2.1 then xkeep (cX S s.2.2.1) else cX S t) = xV (cX S t))
      by_cases z : t = s.2.2.1
      · rw [if_pos z, ← z]; exact ⟨rfl, Or.inr rfl⟩
      · rw [if_neg z]; exact ⟨rfl, Or.inl rfl⟩
    · show ((cQ S).eraseIdx p).length + (written + 1) = saves
      omega
    · show rn (xR (if t = s.2.2.1 then xkeep (cX S s.2.2.1) else cX S t)) ≤ i + 1
      by_cases z : t = s.2.2.1
      · rw [if_pos z, ← z]; exact Nat.le_succ_of_le (hR t ht)
      · rw [if_neg z]; exact Nat.le_succ_of_le (hR t ht)
  · have e1 : wrM S = (-1, S) := if_neg d
    rw [e1] at hW1 ⊢
    show Okp (if iI (-1) < iI (-1) then _ else _) Q
    rw [if_neg (by decide +kernel)]
    show Okp (if iI saves ≤ iI (-1) then _ else _) Q
    rw [if_neg (by rw [j_le (by omega) (by omega) (by omega) (by omega)]; omega)]
    unfold p_L_law_1594
    show Okp (if iI (-1) < 0 then _ else _) Q
    rw [if_pos (by decide +kernel)]
    unfold p_L_law_1608
    rw [nm_q, if_neg one_ne]
    show Okp (if iI (-1) < 0 then _ else _) Q
    rw [if_pos (by decide +kernel), j_add, Int.add_zero]
    unfold p_L_law_1633 p_L_law_1638
    exact tl_1640 hW1 (by omega) (by omega) hi (lv_same hV rfl fun t ht => ⟨rfl, Or.inl rfl⟩) hH hF ⟨q1, q2, q3, q4⟩ (fun t ht => Nat.le_succ_of_le (hR t ht)) hX
theorem fk_text {z : Int} {F : Fm} (h : FK z F) (h3 : fT F < 3) : 0 ≤ z ∧ z < 4000 ∧ z / 1000 = (fT F : Int) := by
  obtain ⟨kd, nb, e, k1, k2, n1, n2, -⟩ := h
  refine ⟨by omega, by omega, by omega⟩
theorem br_save {a b : Nat} {z : Int} (ha : a < 5) (hb : b < 3) (hi : i < 64) (hs : saves < 60) (z1 : -1 ≤ z) (z2 : z < many) (hW : Wo c S A n k h) (hV : LV S A i 0) (hH : LH S A) (hF : LF S A many) (hQ : LQ S saves written) (hR : LR S i) (hn : n ≤ 4 * i) (hk : k ≤ 9300 * i + 200) (hX : NX K Q c i) : Okp (p_L_law_1488 xs L K c (c + 59) (c + 60) (c + 61) (c + 62) (iI many) (iI saves) (iI written) (iI i) (iI b) (iI a) (iI z) h) Q := by
  have hQ' := hQ
  obtain ⟨q1, q2, q3, q4⟩ := hQ
  have hF' := hF
  obtain ⟨f1, ⟨f2, f0⟩, f3⟩ := hF
  have yes : (z = -1 ∨ fT (fm S z.toNat) = b) → ∀ h1, Wo c (svS S a b z) A (n + 1) (k + 1200) h1 → Okp (p_L_law_1521 xs L K c (c + 59) (c + 60) (c + 61) (c + 62) (iI many) (iI saves) (iI written) (iI i) (iI (cN S)) h1) Q := by
    intro hz h1 hW1
    unfold p_L_law_1521 p_L_law_1526
    rw [if_neg one_ne]
    unfold p_L_law_1542
    rw [q1, if_pos rfl]
    unfold p_L_law_1550
    rw [if_neg one_ne]
    unfold p_L_law_1564
    rw [nm_q, j_add]
    refine tl_1640 (saves := saves + 1) hW1 (by omega) (by omega) hi (lv_same hV rfl fun t ht => ⟨rfl, Or.inl rfl⟩) hH hF' ⟨?_, by omega, ?_, fun y hy => ?_⟩ (fun t ht => Nat.le_succ_of_le (hR t ht)) hX
    · show cN S + 1 = saves + 1; omega
    · show (cQ S ++ [(cN S, a, b, z)]).length + written = saves + 1
      rw [List.length_append, List.length_singleton]; omega
    · rcases List.mem_append.mp hy with y1 | y1
      · have := q4 y y1; exact ⟨by omega, this.2⟩
      · rw [List.mem_singleton.mp y1]; exact ⟨by show cN S < saves + 1; omega, hb⟩
  unfold p_L_law_1488
  by_cases d : z = -1
  · refine ok_bR (g_save hW (by omega) (by omega) ha hb (by omega) (by omega) z1 (by omega) (Or.inl d)) ?_
    rintro r h1 ⟨rfl, hW1⟩
    rw [if_pos (by rw [j_lt0 (by omega) (by omega)]; omega)]
    exact yes (Or.inl d) h1 hW1
  · obtain ⟨f, rfl⟩ : ∃ f : Nat, z = f := ⟨z.toNat, by omega⟩
    have hff := f3 f (by omega)
    have hT3 := (((csG_of hW.1).2.2.1 _ (fm_mem (S := S) (f := f) (by omega))).1).1
    obtain ⟨t1, t2, t3⟩ := fk_text hff.2 hT3
    by_cases e : fT (fm S f) = b
    · refine ok_bR (g_save hW (by omega) (by omega) ha hb (by omega) (by omega) z1 (by omega) (Or.inr e)) ?_
      rintro r h1 ⟨rfl, hW1⟩
      rw [if_neg (by rw [j_lt0 (by omega) (by omega)]; omega), ck_p (ix3 hW1 (by omega)), rd3 hW1 (by omega), j_div t1 (by omega) (by omega) (by omega), t3, e, if_pos rfl]
      exact yes (Or.inr e) h1 hW1
    · refine ok_bR (g_save0 hW (by omega) (by omega) ha hb (by omega) (by omega) (by omega) e) ?_
      rintro r h1 ⟨rfl, hW1⟩
      rw [if_neg (by rw [j_lt0 (by omega) (by omega)]; omega), ck_p (ix3 hW1 (by omega)), rd3 hW1 (by omega), j_div t1 (by omega) (by omega) (by omega), t3, if_neg (by rw [j_eq (by omega) (by omega) (by omega) (by omega)]; omega)]
      unfold p_L_law_1526
      rw [if_pos j_0.symm]
      unfold p_L_law_1542
      rw [if_pos rfl]
      unfold p_L_law_1550
      rw [if_pos j_0.symm]
      unfold p_L_law_1564
      rw [nm_q, j_add, Int.add_zero]
      exact tl_1640 hW1 (by omega) (by omega) hi (lv_same hV rfl fun t ht => ⟨rfl, Or.inl rfl⟩) hH hF' hQ' (fun t ht => Nat.le_succ_of_le (hR t ht)) hX
end ACT2
