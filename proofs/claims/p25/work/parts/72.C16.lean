
/-! ===== asking, coming, dropping: rounds of the law ===== -/
section FMT
variable {c n k i many saves written : Nat} {S : Cs} {A : La} {h h' : AH}
variable {xs : Nat → Int32} {L : Nat} {K : Nat → Nat → Nat → Nat → Nat → Int32 → Int32 → Int32 → Int32 → Int32 → AH → Option (Int32 × AH)} {Q : Int32 → AH → Prop}
theorem fm_set_e {S' : Cs} {f : Nat} {F : Fm} (e : cF S' = (cF S).set f F) (hf : f < (cF S).length) : fm S' f = F := by
  unfold fm fmD
  rw [e, List.getElem?_set, if_pos rfl, if_pos hf]; rfl
theorem fm_set_n {S' : Cs} {f g : Nat} {F : Fm} (e : cF S' = (cF S).set f F) (hg : g ≠ f) : fm S' g = fm S g := by
  unfold fm fmD
  rw [e, List.getElem?_set, if_neg (fun z => hg z.symm)]
theorem fm_app_e {S' : Cs} {F : Fm} (e : cF S' = cF S ++ [F]) : fm S' (cF S).length = F := by
  unfold fm fmD
  rw [e, List.getElem?_append_right (Nat.le_refl _), Nat.sub_self]; rfl
theorem fm_app_n {S' : Cs} {g : Nat} {F : Fm} (e : cF S' = cF S ++ [F]) (hg : g < (cF S).length) : fm S' g = fm S g := by
  unfold fm fmD
  rw [e, List.getElem?_append_left hg]
theorem fk_ask {T : Tx} {b : Nat} {kd nb st w : Int} (k1 : 0 ≤ kd) (k2 : kd ≤ 3) (n1 : 0 ≤ nb) (n2 : nb ≤ 40) : FK (1000 * (b : Int) + 100 * kd + nb) (b, st, askd T kd nb, w) :=
  ⟨kd, nb, rfl, k1, k2, n1, n2, fun z => askd_01 (by omega), fun z => askd_23 (by omega)⟩
theorem lf_ask {S' : Cs} {F : Fm} {z st : Int} (hF : LF S A many) (hm : many < 60) (e : cF S' = cF S ++ [F] ∨ cF S' = (cF S ++ [F]).set many F) (hst : fS F = st) (hz : FK z F) (A' : La) (eA1 : A'.2.2.1 = cset A.2.2.1 many st) (eA2 : A'.2.2.2 = cset A.2.2.2 many z) : LF S' A' (many + 1) := by
  obtain ⟨f1, ⟨f2, f0⟩, f3⟩ := hF
  have e' : cF S' = cF S ++ [F] := by
    rcases e with e | e
    · exact e
    · rw [e]
      apply List.ext_getElem?
      intro j
      rw [List.getElem?_set]
      by_cases d : many = j
      · subst d
        rw [if_pos rfl, if_pos (by rw [List.length_append, f1]; exact Nat.lt_succ_self _), ← f1, List.getElem?_append_right (Nat.le_refl _), Nat.sub_self]; rfl
      · rw [if_neg d]
  refine ⟨by rw [e', List.length_append, f1]; rfl, ⟨by omega, fun f h1 h2 => ?_⟩, fun f hf => ?_⟩
  · rw [eA1]
    show (if f = many then st else A.2.2.1 f) = 0
    rw [if_neg (by omega)]; exact f0 f (by omega) h2
  · rw [eA1, eA2]
    show (if f = many then st else A.2.2.1 f) = fS (fm S' f) ∧ FK (if f = many then z else A.2.2.2 f) (fm S' f)
    by_cases d : f = many
    · subst d
      have := fm_app_e e'
      rw [f1] at this
      rw [if_pos rfl, if_pos rfl, this]
      exact ⟨hst.symm, hz⟩
    · rw [if_neg d, if_neg d, fm_app_n e' (by omega)]
      exact f3 f (by omega)
theorem lf_set {S' : Cs} {F : Fm} {f : Nat} {st : Int} (hF : LF S A many) (hf : f < many) (e : cF S' = (cF S).set f F) (hst : fS F = st) (e1 : fT F = fT (fm S f)) (e2 : fC F = fC (fm S f)) (A' : La) (eA1 : A'.2.2.1 = cset A.2.2.1 f st) (eA2 : A'.2.2.2 = A.2.2.2) : LF S' A' many := by
  obtain ⟨f1, ⟨f2, f0⟩, f3⟩ := hF
  refine ⟨by rw [e, List.length_set, f1], ⟨f2, fun g h1 h2 => ?_⟩, fun g hg => ?_⟩
  · rw [eA1]
    show (if g = f then st else A.2.2.1 g) = 0
    rw [if_neg (by omega)]; exact f0 g h1 h2
  · rw [eA1, eA2]
    show (if g = f then st else A.2.2.1 g) = fS (fm S' g) ∧ _
    by_cases d : g = f
    · subst d
      rw [if_pos rfl, fm_set_e e (by omega)]
      refine ⟨hst.symm, ?_⟩
      obtain ⟨kd, nb, z1, z2, z3, z4, z5, z6, z7⟩ := (f3 g hg).2
      exact ⟨kd, nb, by rw [e1]; exact z1, z2, z3, z4, z5, by rw [e2]; exact z6, by rw [e2]; exact z7⟩
    · rw [if_neg d, fm_set_n e d]; exact f3 g hg
theorem spN_le {S : Cs} {F : Fm} : spN S F ≤ (fC F).length := qcn_le _ _
theorem co_clean {T : Tx} {b : Nat} {kd nb w : Int} (hG : RwG (xR T)) (eT : T = cX S b) (h0 : spN S (b, 0, askd T kd nb, w) = 0) (k1 : 0 ≤ kd) (k2 : kd ≤ 3) (hnb : 0 ≤ nb) : CleanP (vLe (coT S (b, 0, askd T kd nb, w))) (vLn (coT S (b, 0, askd T kd nb, w))) kd nb := by
  subst eT
  have := clean_all (T := cX S b) hG h0 k1 k2 hnb
  unfold coT
  split
  · exact this
  · exact this
set_option maxRecDepth 100000 in
theorem br_ask {b x : Nat} {kd nb : Int} (hb : b < 3) (hx : x < 1000000000) (ho : askOk kd nb = true) (k1 : 0 ≤ kd) (k2 : kd ≤ 3) (n1 : 0 ≤ nb) (n2 : nb ≤ 40) (hm : many < 60) (hi : i < 64) (hW : Wo c S A n k h) (hV : LV S A i 0) (hH : LH S A) (hF : LF S A many) (hQ : LQ S saves written) (hR : LR S i) (hn : n ≤ 4 * i) (hk : k ≤ 9300 * i + 200) (hX : NX K Q c i) : Okp (p_L_law_817 xs L K c (c + 59) (c + 60) (c + 61) (c + 62) (iI many) (iI saves) (iI written) (iI i) (iI b) (iI x) (vLk (cX S b)) (xV (cX S b)) (iI (vLn (cX S b))) (iI kd) (iI nb) h) Q := by
  have hG := ((csG_of hW.1).1 b hb).1
  have h150 := vLn_150 hW hb
  obtain ⟨w, v1, -⟩ := lv_get hV hb
  have f1 := hF.1
  have eF1 : cF (asS S b kd nb) = cF S ++ [(b, 0, askd (cX S b) kd nb, 0)] := rfl
  have em1 : fm (asS S b kd nb) many = (b, 0, askd (cX S b) kd nb, 0) := by
    have := fm_app_e eF1
    rw [f1] at this
    exact this
  have len1 : (cF (asS S b kd nb)).length = many + 1 := by rw [eF1, List.length_append, f1]; rfl
  have sl := spN_le (S := asS S b kd nb) (F := (b, 0, askd (cX S b) kd nb, 0))
  have cl : (askd (cX S b) kd nb).length ≤ 150 := Nat.le_trans (chl_len _ _ _ _ _ _) h150
  have sl : spN (asS S b kd nb) (b, 0, askd (cX S b) kd nb, 0) ≤ (askd (cX S b) kd nb).length := sl
  have esp : vSp (asS S b kd nb) (b, 0, askd (cX S b) kd nb, 0) = spN (asS S b kd nb) (b, 0, askd (cX S b) kd nb, 0) := if_pos rfl
  unfold p_L_law_817
  refine ok_bR (g_ask hW (by omega) (by omega) hb ho k1 k2 n1 n2 (by omega)) ?_
  rintro r h1 ⟨rfl, hW1⟩
  rw [f1, if_pos rfl]
  refine ok_bR (g_state hW1 (by omega) (by omega) (f := many) (by omega)) ?_
  rintro r h2 ⟨rfl, hW2⟩
  rw [em1, if_pos (show iI (fS ((b, 0, askd (cX S b) kd nb, 0) : Fm)) = 0 from j_0.symm)]
  refine ok_bR (g_spared hW2 (by omega) (by omega) (f := many) (by omega)) ?_
  rintro r h3 ⟨rfl, hW3⟩
  rw [em1, esp, if_neg (by rw [j_lt0 (by omega) (by omega)]; omega)]
  refine ok_bR (g_looks hW3 (by omega) (by omega) hb) ?_
  rintro r h4 ⟨rfl, hW4⟩
  rw [if_pos (show lg_cmp (vLk (cX (asS S b kd nb) b)) (vLk (cX S b)) = 0 from lg_same (vLk (cX S b)))]
  refine ok_bR (g_version hW4 (by omega) (by omega) hb) ?_
  rintro r h5 ⟨rfl, hW5⟩
  rw [if_pos (show xV (cX (asS S b kd nb) b) = xV (cX S b) from rfl)]
  unfold p_L_law_880
  have e1000 : (((iI 1000) * (iI b)) + ((iI 100) * (iI kd))) + (iI nb) = iI (1000 * (b : Int) + 100 * kd + nb) := by rw [j_mul, j_mul, j_add, j_add]
  have em : (iI many + iI 1 : Int32) = iI ((many + 1 : Nat) : Int) := by rw [j_add]; rfl
  have em2 : (iI ((many + 1 : Nat) : Int) - iI 1 : Int32) = iI many := by rw [j_sub]; congr 1; omega
  rw [ck_p (ix3 hW5 hm), nm_q, nm_q, e1000, em, if_neg one_ne, em2]
  have hW6 : Wo c (asS S b kd nb) (A.1, A.2.1, A.2.2.1, cset A.2.2.2 many (1000 * (b : Int) + 100 * kd + nb)) (n + 1) (k + 1200 + 1 + 1 + 151 + 1) (uI h5 (c + 62) (iI many).toNatClampNeg (iI (1000 * (b : Int) + 100 * kd + nb))) := by
    rw [tnc (by omega)]
    exact wo_u3 (t := many) (v := 1000 * (b : Int) + 100 * kd + nb) hW5
  generalize uI h5 (c + 62) (iI many).toNatClampNeg (iI (1000 * (b : Int) + 100 * kd + nb)) = h6 at *
  have e144 : ((iI x / iI 144) - (iI x / iI 144) / (iI 2) * (iI 2) = (0 : Int32)) = (x / 144 % 2 = 0) := by
    rw [j_div (by omega) (by omega) (by omega) (by omega), show ((x : Int) / 144) = ((x / 144 : Nat) : Int) from rfl]
    exact j_rem0 (m := 2) (by omega) (by omega) (by omega)
  by_cases c1 : x / 144 % 2 = 0
  · rw [if_pos (by rw [e144]; exact c1)]
    refine ok_bR (g_spared hW6 (by omega) (by omega) (f := many) (by omega)) ?_
    rintro r h7 ⟨rfl, hW7⟩
    rw [em1, esp]
    refine ok_bR (g_come hW7 (by omega) (by omega) (f := many) (by omega) (by rw [em1]; rfl)) ?_
    rintro r h8 ⟨rfl, hW8⟩
    rw [em1, ck_p (ix2 hW8 hm), nm_q, tnc (by omega)]
    have hW9 := wo_u2 (t := many) (v := 1) hW8
    generalize uI h8 (c + 61) many (iI 1) = h9 at *
    have eF2 : cF (coS (asS S b kd nb) many) = (cF (asS S b kd nb)).set many (b, 1, askd (cX S b) kd nb, (spN (asS S b kd nb) (b, 0, askd (cX S b) kd nb, 0) : Int)) := by
      show (cF (asS S b kd nb)).set many _ = _
      rw [em1]; rfl
    have em3 : fm (coS (asS S b kd nb) many) many = (b, 1, askd (cX S b) kd nb, (spN (asS S b kd nb) (b, 0, askd (cX S b) kd nb, 0) : Int)) := fm_set_e eF2 (by omega)
    have len2 : (cF (coS (asS S b kd nb) many)).length = many + 1 := by rw [eF2, List.length_set]; exact len1
    have eX2 : cX (coS (asS S b kd nb) many) b = coT (asS S b kd nb) (b, 0, askd (cX S b) kd nb, 0) := by
      show (if b = fT (fm (asS S b kd nb) many) then coT (asS S b kd nb) (fm (asS S b kd nb) many) else _) = _
      rw [em1]; exact if_pos rfl
    have nX2 : ∀ t, t ≠ b → cX (coS (asS S b kd nb) many) t = cX S t := by
      intro t ht
      show (if t = fT (fm (asS S b kd nb) many) then coT (asS S b kd nb) (fm (asS S b kd nb) many) else cX S t) = _
      rw [em1]; exact if_neg ht
    obtain ⟨p1, p2, p3, p4, p5⟩ := co_facts (S := asS S b kd nb) (F := (b, 0, askd (cX S b) kd nb, 0)) hG (askd_dst hG) (askd_lt hG)
    have p2 : (∀ k ∈ askd (cX S b) kd nb, k.1.2.2 = 1) → vLn (coT (asS S b kd nb) (b, 0, askd (cX S b) kd nb, 0)) + ((askd (cX S b) kd nb).length - spN (asS S b kd nb) (b, 0, askd (cX S b) kd nb, 0)) = vLn (cX S b) := p2
    have p3 : (∀ k ∈ askd (cX S b) kd nb, k.1.2.2 ≠ 1) → vLn (coT (asS S b kd nb) (b, 0, askd (cX S b) kd nb, 0)) = vLn (cX S b) := p3
    have p4 : xV (coT (asS S b kd nb) (b, 0, askd (cX S b) kd nb, 0)) = if spN (asS S b kd nb) (b, 0, askd (cX S b) kd nb, 0) < (askd (cX S b) kd nb).length then xV (cX S b) + iI 1 else xV (cX S b) := p4
    have hsp0 : kd = 2 ∨ kd = 3 → spN (asS S b kd nb) (b, 0, askd (cX S b) kd nb, 0) = 0 := fun z => askd_sp0 z
    have hcl := co_clean (S := asS S b kd nb) (T := cX S b) (b := b) (kd := kd) (nb := nb) (w := 0) hG rfl
    have ecl : fC (b, 0, askd (cX S b) kd nb, 0) = askd (cX S b) kd nb := rfl
    rw [ecl]
    have hrn : rn (xR (coT (asS S b kd nb) (b, 0, askd (cX S b) kd nb, 0))) = rn (xR (cX S b)) := coT_n _ _
    generalize hT2 : coT (asS S b kd nb) (b, 0, askd (cX S b) kd nb, 0) = T2 at *
    generalize hss : spN (asS S b kd nb) (b, 0, askd (cX S b) kd nb, 0) = sp at *
    generalize hll : (askd (cX S b) kd nb).length = len at *
    generalize hSS : coS (asS S b kd nb) many = S2 at *
    -- the ending
    have fin : ∀ (h2 : AH) (q : Nat), Wo c S2 (A.1, A.2.1, cset A.2.2.1 many 1, cset A.2.2.2 many (1000 * (b : Int) + 100 * kd + nb)) (n + 1 + 1) q h2 → q ≤ 9300 * i + 6000 → Okp (p_L_law_996 xs L K c (c + 59) (c + 60) (c + 61) (c + 62) (iI ((many + 1 : Nat) : Int)) (iI saves) (iI written) (iI i) (iI b) (xV (cX S b)) (iI (vLn (cX S b))) (iI kd) (iI ((len : Int) - sp)) h2) Q := by
      intro h2 q hW' hq
      have last : ∀ (h3 : AH) (q : Nat), Wo c S2 (A.1, A.2.1, cset A.2.2.1 many 1, cset A.2.2.2 many (1000 * (b : Int) + 100 * kd + nb)) (n + 1 + 1) q h3 → q ≤ 9300 * i + 6700 → Okp (p_L_law_1052 xs L K c (c + 59) (c + 60) (c + 61) (c + 62) (iI ((many + 1 : Nat) : Int)) (iI saves) (iI written) (iI i) h3) Q := by
        intro h3 q hW' hq
        unfold p_L_law_1052 p_L_law_1057 p_L_law_1059
        refine tl_1640 hW' (by omega) hq hi (lv_put hV rfl hb (d := if sp < len then 1 else 0) (by split <;> omega) (by split <;> omega) ?_ (by rw [eX2]; exact p5) nX2) (fun a ha => ?_) (lf_ask hF hm (F := (b, 1, askd (cX S b) kd nb, (sp : Int))) (st := 1) (z := 1000 * (b : Int) + 100 * kd + nb) (Or.inr ?_) rfl (fk_ask k1 k2 n1 n2) _ rfl rfl) ?_ (lr_put hR (b := b) (by rw [eX2, hrn]; exact Nat.le_succ _) nX2) hX
        · rw [eX2, p4]
          by_cases d : sp < len
          · rw [if_pos d, if_pos d]
          · rw [if_neg d, if_neg d, v1, j_add, Int.add_zero]
        · rw [← hSS]; exact hH a ha
        · rw [eF2, eF1]
          apply List.ext_getElem?
          intro j
          rw [List.getElem?_set, List.getElem?_set]
          by_cases d : many = j
          · subst d
            rw [if_pos rfl, if_pos rfl, List.length_append, List.length_append]; rfl
          · rw [if_neg d, if_neg d]
            by_cases d2 : j < (cF S).length
            · rw [List.getElem?_append_left d2, List.getElem?_append_left d2]
            · rw [List.getElem?_eq_none (by rw [List.length_append, f1]; show many + 1 ≤ j; omega), List.getElem?_eq_none (by rw [List.length_append, f1]; show many + 1 ≤ j; omega)]
        · rw [← hSS]; exact hQ
      have mid : ∀ (h3 : AH) (q : Nat) (d : Int), Wo c S2 (A.1, A.2.1, cset A.2.2.1 many 1, cset A.2.2.2 many (1000 * (b : Int) + 100 * kd + nb)) (n + 1 + 1) q h3 → q ≤ 9300 * i + 6500 → xV T2 = xV (cX S b) + iI d → Okp (p_L_law_1014 xs L K c (c + 59) (c + 60) (c + 61) (c + 62) (iI ((many + 1 : Nat) : Int)) (iI saves) (iI written) (iI i) (iI b) (iI (vLn (cX S b))) (iI kd) (iI ((len : Int) - sp)) (xV T2) (xV (cX S b)) (iI d) h3) Q := by
        intro h3 q d hW' hq hd
        unfold p_L_law_1014
        rw [if_pos hd]
        by_cases c2 : kd ≤ 1
        · rw [if_pos (by rw [j_le (by omega) (by omega) (by omega) (by omega)]; exact c2)]
          refine ok_bR (g_length hW' (by omega) (by omega) hb) ?_
          rintro r h4 ⟨rfl, hW4'⟩
          have := p2 (askd_01 (by omega))
          rw [eX2, j_sub, if_pos (by congr 1; omega)]
          exact last h4 _ hW4' (by omega)
        · rw [if_neg (by rw [j_le (by omega) (by omega) (by omega) (by omega)]; exact c2)]
          refine ok_bR (g_length hW' (by omega) (by omega) hb) ?_
          rintro r h4 ⟨rfl, hW4'⟩
          rw [eX2, p3 (askd_23 (by omega)), if_pos rfl]
          exact last h4 _ hW4' (by omega)
      unfold p_L_law_996
      refine ok_bR (g_version hW' (by omega) (by omega) hb) ?_
      rintro r h3 ⟨rfl, hW3'⟩
      rw [eX2]
      by_cases d : sp < len
      · rw [if_neg (by rw [j_le0 (by omega) (by omega)]; omega)]
        exact mid h3 _ 1 hW3' (by omega) (by rw [p4, if_pos d])
      · rw [if_pos (by rw [j_le0 (by omega) (by omega)]; omega)]
        exact mid h3 _ 0 hW3' (by omega) (by rw [p4, if_neg d, v1, j_add, Int.add_zero])
    have s965 : Okp (p_L_law_965 xs L K c (c + 59) (c + 60) (c + 61) (c + 62) (iI ((many + 1 : Nat) : Int)) (iI saves) (iI written) (iI i) (iI b) (xV (cX S b)) (iI (vLn (cX S b))) (iI kd) (iI nb) (iI sp) (iI ((len : Int) - sp)) h9) Q := by
      unfold p_L_law_965
      rw [em2]
      refine ok_bR (g_spared hW9 (by omega) (by omega) (f := many) (by omega)) ?_
      rintro r h10 ⟨rfl, hW10⟩
      have ev : vSp S2 (fm S2 many) = sp := by
        rw [em3]
        exact if_neg (show ¬ ((1 : Int) = 0) by decide)
      rw [ev, if_pos rfl]
      by_cases d : 0 < sp
      · rw [if_pos (by rw [j_0, j_lt (by omega) (by omega) (by omega) (by omega)]; omega)]
        exact fin h10 _ hW10 (by omega)
      · rw [if_neg (by rw [j_0, j_lt (by omega) (by omega) (by omega) (by omega)]; omega)]
        refine ok_bR (g_clean hW10 (by omega) (by omega) hb k1 k2 n1 (by omega) (by rw [eX2]; exact hcl (by omega) k1 k2 n1)) ?_
        rintro r h11 ⟨rfl, hW11⟩
        rw [if_neg one_ne]
        exact fin h11 _ hW11 (by omega)
    rw [if_neg (by rw [j_lt0 (by omega) (by omega)]; omega)]
    by_cases c2 : kd < 2
    · rw [if_pos (by rw [j_lt (by omega) (by omega) (by omega) (by omega)]; exact c2)]
      exact s965
    · rw [if_neg (by rw [j_lt (by omega) (by omega) (by omega) (by omega)]; exact c2), if_pos (by rw [hsp0 (by omega)]; exact j_0.symm)]
      exact s965
  · rw [if_neg (by rw [e144]; exact c1)]
    unfold p_L_law_1059
    exact tl_1640 hW6 (by omega) (by omega) hi (lv_same hV rfl fun t ht => ⟨rfl, Or.inl rfl⟩) hH (lf_ask hF hm (st := 0) (Or.inl eF1) rfl (fk_ask k1 k2 n1 n2) _ (by
      funext f
      show A.2.2.1 f = if f = many then 0 else A.2.2.1 f
      by_cases d : f = many
      · rw [if_pos d, d]; exact hF.2.1.2 many (Nat.le_refl _) hm
      · rw [if_neg d]) rfl) hQ (fun t ht => Nat.le_succ_of_le (hR t ht)) hX
end FMT
