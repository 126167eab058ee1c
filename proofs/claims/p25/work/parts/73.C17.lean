
/-! ===== a format comes late, or is dropped: a round of the law ===== -/
section LATE
variable {c n k i many saves written : Nat} {S : Cs} {A : La} {h h' : AH}
variable {xs : Nat → Int32} {L : Nat} {K : Nat → Nat → Nat → Nat → Nat → Int32 → Int32 → Int32 → Int32 → Int32 → AH → Option (Int32 × AH)} {Q : Int32 → AH → Prop}
set_option maxRecDepth 100000 in
theorem br_fmt {x : Nat} {v13 : Int} {v14 v15 : Int32} (hv : v13 < 20) (hv0 : 0 ≤ v13) (hx : x < 1000000000) (hm0 : 0 < many) (hi : i < 64) (hW : Wo c S A n k h) (hV : LV S A i 0) (hH : LH S A) (hF : LF S A many) (hQ : LQ S saves written) (hR : LR S i) (hn : n ≤ 4 * i) (hk : k ≤ 9300 * i + 200) (hX : NX K Q c i) : Okp (p_L_law_1062 xs L K c (c + 59) (c + 60) (c + 61) (c + 62) (iI many) (iI saves) (iI written) (iI i) (iI v13) v14 v15 (iI x) h) Q := by
  have hm := hF.2.1.1
  have hf1 := hF.1
  have hlt : x % many < many := Nat.mod_lt _ hm0
  have ef : (iI x - iI x / iI many * iI many : Int32) = iI ((x % many : Nat) : Int) := by
    rw [j_rem (by omega) (by omega) (by omega) (by omega)]; rfl
  generalize x % many = f at *
  obtain ⟨g1, g2⟩ := hF.2.2 f hlt
  have hmem := fm_mem (S := S) (f := f) (by omega)
  obtain ⟨hFG, hFP⟩ := (csG_of hW.1).2.2.1 _ hmem
  have hT3 := hFG.1
  have hlen := hFG.2.2.2.2.2.1
  have hst0 := hFG.2.1
  have hst2 := hFG.2.2.1
  have hw0 := hFG.2.2.2.1
  have hw2 := hFG.2.2.2.2.1
  obtain ⟨t1, t2, t3⟩ := fk_text g2 hT3
  obtain ⟨kd, nb, z1, z2, z3, z4, z5, z6, z7⟩ := g2
  have hG := ((csG_of hW.1).1 _ hT3).1
  have hN := hW.2.2.1.2.2.2 _ hmem
  obtain ⟨p1, p2, p3, p4, p5⟩ := co_facts (S := S) (F := fm S f) hG hN.1 hFP.2.2.2.2.2
  have h150 := vLn_150 hW hT3
  obtain ⟨w, v1, -⟩ := lv_get hV hT3
  have e60 : ((iI x / iI 60) - (iI x / iI 60) / (iI 4) * (iI 4) = (0 : Int32)) = (x / 60 % 4 = 0) := by
    rw [j_div (by omega) (by omega) (by omega) (by omega), show ((x : Int) / 60) = ((x / 60 : Nat) : Int) from rfl]
    exact j_rem0 (m := 4) (by omega) (by omega) (by omega)
  have fin : ∀ (S' : Cs) (q : Nat) (h' : AH) (st : Int) (F' : Fm), Wo c S' A (n + 1) q h' → q ≤ 9300 * i + 6700 → cF S' = (cF S).set f F' → fS F' = st → fT F' = fT (fm S f) → fC F' = fC (fm S f) → LV S' A i 4 → (∀ j, cH S' j = cH S j) → LQ S' saves written → LR S' (i + 1) → Okp (p_L_law_1364 xs L K c (c + 59) (c + 60) (c + 61) (c + 62) (iI many) (iI saves) (iI written) (iI 1) (iI i) (c + 61) (iI f) (iI st) h') Q := by
    intro S' q h' st F' hW' hq e1 e2 e3 e4 hV' eH hQ' hR'
    unfold p_L_law_1364
    rw [ck_p (ix2 hW' (by omega)), nm_q]
    have hW2 : Wo c S' (A.1, A.2.1, cset A.2.2.1 f st, A.2.2.2) (n + 1) q (uI h' (c + 61) (iI f).toNatClampNeg (iI st)) := by
      rw [tnc (by omega)]
      exact wo_u2 hW'
    exact tl_1640 hW2 (by omega) hq hi hV' (fun a ha => by rw [eH]; exact hH a ha) (lf_set hF hlt e1 e2 e3 e4 _ rfl rfl) hQ' hR' hX
  unfold p_L_law_1062
  rw [if_neg (by rw [j_le (by omega) (by omega) (by omega) (by omega)]; omega), if_neg (by rw [j_le0 (by omega) (by omega)]; omega), ck_p (by rw [j_0, j_eq (by omega) (by omega) (by omega) (by omega)]; omega), ef, nm_q, ck_p (ix3 hW (by omega)), rd3 hW (by omega), j_div t1 (by omega) (by omega) (by omega), t3, nm_q]
  refine ok_bR (g_spared hW (by omega) (by omega) (f := f) (by omega)) ?_
  rintro r h1 ⟨rfl, hW1⟩
  refine ok_bR (g_version hW1 (by omega) (by omega) hT3) ?_
  rintro r h2 ⟨rfl, hW2⟩
  refine ok_bR (g_length hW2 (by omega) (by omega) hT3) ?_
  rintro r h3 ⟨rfl, hW3⟩
  by_cases d0 : fS (fm S f) = 0
  · have esp : vSp S (fm S f) = spN S (fm S f) := if_pos d0
    rw [esp]
    by_cases d1 : x / 60 % 4 = 0
    · -- dropped
      rw [if_pos (by rw [e60]; exact d1)]
      refine ok_bR (g_drop hW3 (by omega) (by omega) (f := f) (by omega) d0) ?_
      rintro r h4 ⟨rfl, hW4⟩
      have eF : cF (drS S f) = (cF S).set f (fT (fm S f), 2, fC (fm S f), ((fC (fm S f)).length : Int)) := rfl
      have em : fm (drS S f) f = (fT (fm S f), 2, fC (fm S f), ((fC (fm S f)).length : Int)) := fm_set_e eF (by omega)
      have el : (cF (drS S f)).length = many := by rw [eF, List.length_set, hf1]
      unfold p_L_law_1141
      rw [if_pos (by rw [e60]; exact d1)]
      unfold p_L_law_1158
      rw [ck_p (ix2 hW4 (by omega)), rd2 hW4 (by omega), g1, d0, if_pos (by rw [j_le0 (by omega) (by omega)]; omega), if_neg one_ne, if_neg (by rw [j_lt (by omega) (by omega) (by omega) (by omega)]; omega)]
      refine ok_bR (g_state hW4 (by omega) (by omega) (f := f) (by omega)) ?_
      rintro r h5 ⟨rfl, hW5⟩
      rw [em, if_pos (show iI (fS ((fT (fm S f), 2, fC (fm S f), ((fC (fm S f)).length : Int)) : Fm)) = iI 2 from rfl)]
      refine ok_bR (g_spared hW5 (by omega) (by omega) (f := f) (by omega)) ?_
      rintro r h6 ⟨rfl, hW6⟩
      rw [em, if_pos (show iI (vSp (drS S f) ((fT (fm S f), 2, fC (fm S f), ((fC (fm S f)).length : Int)) : Fm)) = iI ((fC (fm S f)).length : Int) from congrArg iI (if_neg (show ¬ ((2 : Int) = 0) by decide)))]
      refine ok_bR (g_version hW6 (by omega) (by omega) hT3) ?_
      rintro r h7 ⟨rfl, hW7⟩
      rw [if_pos (show xV (cX (drS S f) (fT (fm S f))) = xV (cX S (fT (fm S f))) from rfl)]
      unfold p_L_law_1332
      rw [ck_p (ix2 hW7 (by omega)), rd2 hW7 (by omega), g1, d0, if_pos (by rw [j_le0 (by omega) (by omega)]; omega), if_neg one_ne]
      exact fin (drS S f) _ h7 2 _ hW7 (by omega) eF rfl rfl rfl (lv_same hV rfl fun t ht => ⟨rfl, Or.inl rfl⟩) (fun _ => rfl) hQ (fun t ht => Nat.le_succ_of_le (hR t ht))
    · -- come
      rw [if_neg (by rw [e60]; exact d1)]
      refine ok_bR (g_come hW3 (by omega) (by omega) (f := f) (by omega) d0) ?_
      rintro r h4 ⟨rfl, hW4⟩
      have eF : cF (coS S f) = (cF S).set f (fT (fm S f), 1, fC (fm S f), (spN S (fm S f) : Int)) := rfl
      have em : fm (coS S f) f = (fT (fm S f), 1, fC (fm S f), (spN S (fm S f) : Int)) := fm_set_e eF (by omega)
      have el : (cF (coS S f)).length = many := by rw [eF, List.length_set, hf1]
      have eX : cX (coS S f) (fT (fm S f)) = coT S (fm S f) := if_pos rfl
      have nX : ∀ t, t ≠ fT (fm S f) → cX (coS S f) t = cX S t := fun t ht => if_neg ht
      unfold p_L_law_1141
      rw [if_neg (by rw [e60]; exact d1)]
      unfold p_L_law_1158
      rw [ck_p (ix2 hW4 (by omega)), rd2 hW4 (by omega), g1, d0, if_pos (by rw [j_le0 (by omega) (by omega)]; omega), if_pos j_0.symm, if_neg (by rw [j_lt0 (by omega) (by omega)]; omega)]
      refine ok_bR (g_state hW4 (by omega) (by omega) (f := f) (by omega)) ?_
      rintro r h5 ⟨rfl, hW5⟩
      rw [em, if_pos (show iI (fS ((fT (fm S f), 1, fC (fm S f), (spN S (fm S f) : Int)) : Fm)) = iI 1 from rfl)]
      refine ok_bR (g_spared hW5 (by omega) (by omega) (f := f) (by omega)) ?_
      rintro r h6 ⟨rfl, hW6⟩
      rw [em, if_pos (show iI (vSp (coS S f) ((fT (fm S f), 1, fC (fm S f), (spN S (fm S f) : Int)) : Fm)) = iI (spN S (fm S f) : Int) from congrArg iI (if_neg (show ¬ ((1 : Int) = 0) by decide)))]
      refine ok_bR (g_version hW6 (by omega) (by omega) hT3) ?_
      rintro r h7 ⟨rfl, hW7⟩
      rw [eX]
      -- behind the version
      have last : ∀ (q : Nat) (h9 : AH) (d : Int), Wo c (coS S f) A (n + 1) q h9 → q ≤ 9300 * i + 6700 → 0 ≤ d → d ≤ 1 → xV (coT S (fm S f)) = xV (cX S (fT (fm S f))) + iI d → Okp (p_L_law_1332 xs L K c (c + 59) (c + 60) (c + 61) (c + 62) (iI many) (iI saves) (iI written) (iI i) (iI f) (iI 0) (iI 1) h9) Q := by
        intro q h9 d hW9 hq d1 d2 hd
        unfold p_L_law_1332
        rw [ck_p (ix2 hW9 (by omega)), rd2 hW9 (by omega), g1, d0, if_pos (by rw [j_le0 (by omega) (by omega)]; omega), if_pos j_0.symm]
        exact fin (coS S f) _ h9 1 _ hW9 hq eF rfl rfl rfl (lv_put hV rfl hT3 d1 (by omega) (by rw [eX]; exact hd) (by rw [eX]; exact p5) nX) (fun _ => rfl) hQ (lr_put hR (b := fT (fm S f)) (by rw [eX, coT_n]; exact Nat.le_succ _) nX)
      have mid : ∀ d : Int, 0 ≤ d → d ≤ 1 → xV (coT S (fm S f)) = xV (cX S (fT (fm S f))) + iI d → Okp (p_L_law_1290 xs L K c (c + 59) (c + 60) (c + 61) (c + 62) (iI many) (iI saves) (iI written) (iI i) (iI f) (iI (fT (fm S f))) (iI (vLn (cX S (fT (fm S f))))) (iI (((fC (fm S f)).length : Int) - spN S (fm S f))) (iI 0) (xV (coT S (fm S f))) (xV (cX S (fT (fm S f)))) (iI d) h7) Q := by
        intro d d1 d2 hd
        unfold p_L_law_1290
        rw [if_pos hd]
        refine ok_bR (g_length hW7 (by omega) (by omega) hT3) ?_
        rintro r h8 ⟨rfl, hW8⟩
        rw [ck_p (ix3 hW8 (by omega)), rd3 hW8 (by omega), j_div t1 (by omega) (by omega) (by omega), j_rem (by omega) (by omega) (by omega) (by omega), show A.2.2.2 f / 100 % 10 = kd by omega, eX]
        by_cases c2 : 2 ≤ kd
        · rw [if_pos (by rw [j_le (by omega) (by omega) (by omega) (by omega)]; exact c2)]
          unfold p_L_law_1323
          rw [p3 (z7 c2), j_sub, if_pos (by rw [Int.sub_zero])]
          exact last _ h8 d hW8 (by omega) d1 d2 hd
        · have := p2 (z6 (by omega))
          rw [if_neg (by rw [j_le (by omega) (by omega) (by omega) (by omega)]; exact c2)]
          unfold p_L_law_1323
          rw [j_sub, if_pos (by congr 1; omega)]
          exact last _ h8 d hW8 (by omega) d1 d2 hd
      by_cases c3 : spN S (fm S f) < (fC (fm S f)).length
      · rw [if_neg (by rw [j_le0 (by omega) (by omega)]; omega)]
        exact mid 1 (by omega) (by omega) (by rw [p4, if_pos c3])
      · rw [if_pos (by rw [j_le0 (by omega) (by omega)]; omega)]
        exact mid 0 (by omega) (by omega) (by rw [p4, if_neg c3, v1, j_add, Int.add_zero])
  · -- it waits no more
    have last : ∀ (q : Nat) (h9 : AH) (fl : Int32), Wo c S A (n + 1) q h9 → q ≤ 9300 * i + 6000 → Okp (p_L_law_1158 xs L K c (c + 59) (c + 60) (c + 61) (c + 62) (iI many) (iI saves) (iI written) (iI i) (iI f) (iI (fT (fm S f))) (iI (vSp S (fm S f))) (xV (cX S (fT (fm S f)))) (iI (vLn (cX S (fT (fm S f))))) (iI (-103)) fl h9) Q := by
      intro q h9 fl hW9 hq
      unfold p_L_law_1158
      rw [ck_p (ix2 hW9 (by omega)), rd2 hW9 (by omega), g1, if_neg (by rw [j_le0 (by omega) (by omega)]; omega), if_pos rfl]
      refine ok_bR (g_spared hW9 (by omega) (by omega) (f := f) (by omega)) ?_
      rintro r h10 ⟨rfl, hW10⟩
      rw [if_pos rfl]
      unfold p_L_law_1332
      rw [ck_p (ix2 hW10 (by omega)), rd2 hW10 (by omega), g1, if_neg (by rw [j_le0 (by omega) (by omega)]; omega), ck_p (ix2 hW10 (by omega))]
      unfold p_L_law_1364
      rw [ck_p (ix2 hW10 (by omega)), nm_q]
      have hW11 : Wo c S A (n + 1) (q + 1) (uI h10 (c + 61) (iI f).toNatClampNeg (iI (fS (fm S f)))) := by
        rw [tnc (by omega), ← g1]
        have := wo_u2 (t := f) (v := A.2.2.1 f) hW10
        rw [cset_id] at this
        exact this
      exact tl_1640 hW11 (by omega) (by omega) hi (lv_same hV rfl fun t ht => ⟨rfl, Or.inl rfl⟩) hH hF hQ (fun t ht => Nat.le_succ_of_le (hR t ht)) hX
    by_cases d1 : x / 60 % 4 = 0
    · rw [if_pos (by rw [e60]; exact d1)]
      refine ok_bR (g_drop0 hW3 (by omega) (by omega) (f := f) (by omega) d0) ?_
      rintro r h4 ⟨rfl, hW4⟩
      unfold p_L_law_1141
      rw [if_pos (by rw [e60]; exact d1)]
      exact last _ h4 _ hW4 (by omega)
    · rw [if_neg (by rw [e60]; exact d1)]
      refine ok_bR (g_come0 hW3 (by omega) (by omega) (f := f) (by omega) d0) ?_
      rintro r h4 ⟨rfl, hW4⟩
      unfold p_L_law_1141
      rw [if_neg (by rw [e60]; exact d1)]
      exact last _ h4 _ hW4 (by omega)
end LATE
