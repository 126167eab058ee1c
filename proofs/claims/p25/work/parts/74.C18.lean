
/-! ===== the law's rounds ===== -/
theorem g_cell {xs : Nat → Int32} {L i : Nat} (h : AH) (hL : L ≤ 260) (hi : i < 64) : ∃ y : Nat, y < 2147483648 ∧ p_L_cell xs L (iI i) h = some (iI y, h) := by
  have fin : ∀ s : Int32, ∃ y : Nat, y < 2147483648 ∧ p_L_cell_24 xs L s h = some (iI y, h) := by
    intro s
    obtain ⟨j, j1, j2⟩ := pk_andE s (m := 2147483647) 31 (by decide +kernel)
    refine ⟨j, by omega, ?_⟩
    unfold p_L_cell_24
    rw [j2, j_nI]
  unfold p_L_cell p_L_cell_0
  by_cases c : L ≤ i
  · rw [if_pos (by rw [j_nI, j_le (by omega) (by omega) (by omega) (by omega)]; omega)]
    exact fin _
  · rw [if_neg (by rw [j_nI, j_le (by omega) (by omega) (by omega) (by omega)]; omega), ck_p (j_ix (by omega) (by omega) (by omega))]
    exact fin _
theorem j_divN {y m : Nat} (hy : y < 2147483648) (hm : 0 < m) (hm2 : m < 100000) : (iI y / iI m : Int32) = iI ((y / m : Nat) : Int) := by
  rw [j_div (by omega) (by omega) (by omega) (by omega)]; rfl
theorem j_remN {y m : Nat} (hy : y < 2147483648) (hm : 0 < m) (hm2 : m < 100000) : (iI y - iI y / iI m * iI m : Int32) = iI ((y % m : Nat) : Int) := by
  rw [j_rem (by omega) (by omega) (by omega) (by omega)]; rfl
section LOOP
variable {c : Nat} {xs : Nat → Int32} {L : Nat}
set_option maxRecDepth 100000 in
theorem law_loop (hL : L ≤ 260) : ∀ (j i m : Nat) (S : Cs) (A : La) (n k : Nat) (h : AH) (many saves written : Nat), LIv c i S A n k h many saves written → i + j = 64 → j < m → Okp (p_L_law_54 xs L m c (c + 59) (c + 60) (c + 61) (c + 62) (iI many) (iI saves) (iI written) (iI 1) (iI i) h) (fun r _ => r = iI 1) := by
  intro j
  induction j with
  | zero =>
    intro i m S A n k h many saves written hI hi hm
    obtain ⟨m, rfl⟩ : ∃ q, m = q + 1 := ⟨m - 1, by omega⟩
    unfold p_L_law_54
    rw [if_pos (by rw [j_le (by omega) (by omega) (by omega) (by omega)]; omega)]
    unfold p_L_law_1814
    exact ok_some rfl
  | succ j ih =>
    intro i m S A n k h many saves written hI hij hm
    obtain ⟨m, rfl⟩ : ∃ q, m = q + 1 := ⟨m - 1, by omega⟩
    obtain ⟨hW, hV, hH, hF, hQ, hR, hn, hk⟩ := hI
    have hi : i < 64 := by omega
    have h60 := hF.2.1.1
    have hs60 := hQ.2.1
    have hX : NX (p_L_law_54 xs L m) (fun r _ => r = iI 1) c i := by
      intro S' A' n' k' h' many' saves' written' hI'
      exact ih (i + 1) m S' A' n' k' h' many' saves' written' hI' (by omega) (by omega)
    obtain ⟨y, hy, ey⟩ := g_cell (xs := xs) (L := L) h hL hi
    unfold p_L_law_54
    rw [if_neg (by rw [j_le (by omega) (by omega) (by omega) (by omega)]; omega), if_neg one_ne, bR_e ey]
    have y1 : y / 24 < 2147483648 := by omega
    have e5 : (iI y / iI 24 : Int32) = iI ((y / 24 : Nat) : Int) := j_divN (m := 24) hy (by omega) (by omega)
    have e6 : (iI y - iI y / iI 24 * iI 24 : Int32) = iI ((y % 24 : Nat) : Int) := j_remN (m := 24) hy (by omega) (by omega)
    have e7 : (iI ((y / 24 : Nat) : Int) - iI ((y / 24 : Nat) : Int) / iI 3 * iI 3 : Int32) = iI ((y / 24 % 3 : Nat) : Int) := j_remN (m := 3) y1 (by omega) (by omega)
    have e8 : (iI ((y / 24 : Nat) : Int) / iI 3 - iI ((y / 24 : Nat) : Int) / iI 3 / iI 5 * iI 5 : Int32) = iI ((y / 24 / 3 % 5 : Nat) : Int) := by
      have e : (iI ((y / 24 : Nat) : Int) / iI 3 : Int32) = iI ((y / 24 / 3 : Nat) : Int) := j_divN (m := 3) y1 (by omega) (by omega)
      rw [e]
      exact j_remN (m := 5) (by omega) (by omega) (by omega)
    have e9 : (iI ((y / 24 : Nat) : Int) / iI 15 : Int32) = iI ((y / 24 / 15 : Nat) : Int) := j_divN (m := 15) y1 (by omega) (by omega)
    rw [nm_q, nm_q, nm_q, nm_q, nm_q, e6, e5, e7, e8, e9]
    have hb : y / 24 % 3 < 3 := by omega
    have ha : y / 24 / 3 % 5 < 5 := by omega
    have hx : y / 24 / 15 < 1000000000 := by omega
    have hkd : y % 24 < 24 := by omega
    generalize y / 24 % 3 = b at *
    generalize y / 24 / 3 % 5 = a at *
    generalize y / 24 / 15 = x at *
    generalize y % 24 = kd at *
    refine ok_bR (g_looks hW (by omega) (by omega) hb) ?_
    rintro r h1 ⟨rfl, hW1⟩
    refine ok_bR (g_version hW1 (by omega) (by omega) hb) ?_
    rintro r h2 ⟨rfl, hW2⟩
    refine ok_bR (g_length hW2 (by omega) (by omega) hb) ?_
    rintro r h3 ⟨rfl, hW3⟩
    have hk3 : k + 151 + 1 + 1 ≤ 9300 * i + 200 := by omega
    by_cases d9 : 9 ≤ kd
    · rw [if_pos (by rw [j_le (by omega) (by omega) (by omega) (by omega)]; omega)]
      by_cases d11 : 11 ≤ kd
      · rw [if_pos (by rw [j_le (by omega) (by omega) (by omega) (by omega)]; omega)]
        by_cases d14 : 14 ≤ kd
        · rw [if_pos (by rw [j_le (by omega) (by omega) (by omega) (by omega)]; omega)]
          by_cases d16 : 16 ≤ kd
          · rw [if_pos (by rw [j_le (by omega) (by omega) (by omega) (by omega)]; omega)]
            -- formats, locks, saves
            have other : ¬ (kd < 20 ∧ 0 < many) → Okp (p_L_law_1368 xs L (p_L_law_54 xs L m) c (c + 59) (c + 60) (c + 61) (c + 62) (iI many) (iI saves) (iI written) (iI i) (iI kd) (iI b) (iI a) (iI x) h3) (fun r _ => r = iI 1) := by
              intro _
              by_cases d20 : kd = 20
              · exact br_lock (by rw [d20]; rfl) ha hb hi hW3 hV hH hF hQ hR hn hk3 hX
              · have wr : Okp (p_L_law_1570 xs L (p_L_law_54 xs L m) c (c + 59) (c + 60) (c + 61) (c + 62) (iI many) (iI saves) (iI written) (iI i) h3) (fun r _ => r = iI 1) := br_write hi hW3 hV hH hF hQ hR hn hk3 hX
                unfold p_L_law_1368
                rw [if_neg (by rw [j_eq (by omega) (by omega) (by omega) (by omega)]; omega)]
                by_cases d21 : kd = 21
                · rw [if_pos (by rw [d21]; rfl)]
                  by_cases ds : 60 ≤ saves
                  · rw [if_pos (by rw [j_le (by omega) (by omega) (by omega) (by omega)]; omega)]
                    exact wr
                  · rw [if_neg (by rw [j_le (by omega) (by omega) (by omega) (by omega)]; omega)]
                    have sv1 : Okp (p_L_law_1477 xs L (p_L_law_54 xs L m) c (c + 59) (c + 60) (c + 61) (c + 62) (iI many) (iI saves) (iI written) (iI i) (iI b) (iI a) h3) (fun r _ => r = iI 1) := by
                      unfold p_L_law_1477
                      exact br_save ha hb hi (by omega) (by omega) (by omega) hW3 hV hH hF hQ hR hn hk3 hX
                    by_cases dm : many = 0
                    · rw [if_pos (by rw [dm]; exact j_0.symm)]
                      exact sv1
                    · rw [if_neg (by rw [j_0, j_eq (by omega) (by omega) (by omega) (by omega)]; omega)]
                      have e3 : (iI x - iI x / iI 3 * iI 3 : Int32) = iI ((x % 3 : Nat) : Int) := j_remN (m := 3) (by omega) (by omega) (by omega)
                      rw [e3]
                      by_cases dx : x % 3 ≤ 0
                      · rw [if_pos (by rw [j_le0 (by omega) (by omega)]; omega), ck_p (by rw [j_0, j_eq (by omega) (by omega) (by omega) (by omega)]; omega)]
                        have e4 : (iI x / iI 3 - iI x / iI 3 / iI many * iI many : Int32) = iI ((x / 3 % many : Nat) : Int) := by
                          have e : (iI x / iI 3 : Int32) = iI ((x / 3 : Nat) : Int) := j_divN (m := 3) (by omega) (by omega) (by omega)
                          rw [e]
                          exact j_remN (by omega) (by omega) (by omega)
                        rw [e4]
                        have := Nat.mod_lt (x / 3) (show 0 < many by omega)
                        exact br_save ha hb hi (by omega) (by omega) (by omega) hW3 hV hH hF hQ hR hn hk3 hX
                      · rw [if_neg (by rw [j_le0 (by omega) (by omega)]; omega)]
                        exact sv1
                · rw [if_neg (by rw [j_eq (by omega) (by omega) (by omega) (by omega)]; omega)]
                  exact wr
            have fmt : Okp (p_L_law_1062 xs L (p_L_law_54 xs L m) c (c + 59) (c + 60) (c + 61) (c + 62) (iI many) (iI saves) (iI written) (iI i) (iI kd) (iI b) (iI a) (iI x) h3) (fun r _ => r = iI 1) := by
              by_cases d20 : kd < 20
              · by_cases dm : 0 < many
                · exact br_fmt (by omega) (by omega) hx dm hi hW3 hV hH hF hQ hR hn hk3 hX
                · unfold p_L_law_1062
                  rw [if_neg (by rw [j_le (by omega) (by omega) (by omega) (by omega)]; omega), if_pos (by rw [j_le0 (by omega) (by omega)]; omega)]
                  exact other (fun z => dm z.2)
              · unfold p_L_law_1062
                rw [if_pos (by rw [j_le (by omega) (by omega) (by omega) (by omega)]; omega)]
                exact other (fun z => d20 z.1)
            by_cases d18 : 18 ≤ kd
            · rw [if_pos (by rw [j_le (by omega) (by omega) (by omega) (by omega)]; omega)]
              exact fmt
            · rw [if_neg (by rw [j_le (by omega) (by omega) (by omega) (by omega)]; omega)]
              by_cases dm : 60 ≤ many
              · rw [if_pos (by rw [j_le (by omega) (by omega) (by omega) (by omega)]; omega)]
                exact fmt
              · rw [if_neg (by rw [j_le (by omega) (by omega) (by omega) (by omega)]; omega)]
                have e22 : (iI x - iI x / iI 4 * iI 4 : Int32) = iI ((x % 4 : Nat) : Int) := j_remN (m := 4) (by omega) (by omega) (by omega)
                rw [nm_q, e22]
                by_cases d3 : x % 4 = 3
                · rw [if_pos (by rw [d3]; rfl)]
                  have e : (iI x / iI 4 - iI x / iI 4 / iI 36 * iI 36 : Int32) = iI ((x / 4 % 36 : Nat) : Int) := by
                    have e : (iI x / iI 4 : Int32) = iI ((x / 4 : Nat) : Int) := j_divN (m := 4) (by omega) (by omega) (by omega)
                    rw [e]
                    exact j_remN (m := 36) (by omega) (by omega) (by omega)
                  rw [e, j_add]
                  refine br_ask hb hx ?_ (by omega) (by omega) (by omega) (by omega) (by omega) hi hW3 hV hH hF hQ hR hn hk3 hX
                  unfold askOk
                  rw [if_pos (by omega)]
                  exact decide_eq_true (by omega)
                · rw [if_neg (by rw [j_eq (by omega) (by omega) (by omega) (by omega)]; omega)]
                  refine br_ask hb hx ?_ (by omega) (by omega) (by omega) (by omega) (by omega) hi hW3 hV hH hF hQ hR hn hk3 hX
                  unfold askOk
                  rw [if_neg (by omega)]
                  exact decide_eq_true (by omega)
          · rw [if_neg (by rw [j_le (by omega) (by omega) (by omega) (by omega)]; omega)]
            exact br_undo ha hx hi hW3 hV hH hF hQ hR hn hk3 hX
        · rw [if_neg (by rw [j_le (by omega) (by omega) (by omega) (by omega)]; omega)]
          exact br_move ha hb hx hi hW3 hV hH hF hQ hR hn hk3 hX
      · rw [if_neg (by rw [j_le (by omega) (by omega) (by omega) (by omega)]; omega)]
        exact br_erase ha hb hi hW3 hV hH hF hQ hR hn hk3 hX
    · rw [if_neg (by rw [j_le (by omega) (by omega) (by omega) (by omega)]; omega)]
      have e94 : (iI x - iI x / iI 8 * iI 8 : Int32) = iI ((x % 8 : Nat) : Int) := j_remN (m := 8) (by omega) (by omega) (by omega)
      have ed8 : (iI x / iI 8 : Int32) = iI ((x / 8 : Nat) : Int) := j_divN (m := 8) (by omega) (by omega) (by omega)
      have e26 : (iI ((x / 8 : Nat) : Int) - iI ((x / 8 : Nat) : Int) / iI 26 * iI 26 : Int32) = iI ((x / 8 % 26 : Nat) : Int) := j_remN (m := 26) (by omega) (by omega) (by omega)
      have e10 : (iI ((x / 8 : Nat) : Int) - iI ((x / 8 : Nat) : Int) / iI 10 * iI 10 : Int32) = iI ((x / 8 % 10 : Nat) : Int) := j_remN (m := 10) (by omega) (by omega) (by omega)
      rw [nm_q, e94, ed8, e26, e10]
      have typ : ∀ ch : Int, ((97 ≤ ch ∧ ch ≤ 122) ∨ (65 ≤ ch ∧ ch ≤ 90) ∨ (48 ≤ ch ∧ ch ≤ 57) ∨ ch = 32 ∨ ch = 47) → Okp (p_L_law_220 xs L (p_L_law_54 xs L m) c (c + 59) (c + 60) (c + 61) (c + 62) (iI many) (iI saves) (iI written) (iI i) (iI b) (iI a) (vLk (cX S b)) (xV (cX S b)) (iI (vLn (cX S b))) (iI ch) h3) (fun r _ => r = iI 1) := fun ch hc => br_type ha hb (decide_eq_true hc) (by omega) (by omega) hi hW3 hV hH hF hQ hR hn hk3 hX
      by_cases t3 : 3 ≤ x % 8
      · rw [if_pos (by rw [j_le (by omega) (by omega) (by omega) (by omega)]; omega)]
        by_cases t4 : x % 8 = 3
        · rw [if_pos (by rw [t4]; rfl)]
          exact typ 47 (by omega)
        · rw [if_neg (by rw [j_eq (by omega) (by omega) (by omega) (by omega)]; omega)]
          by_cases t5 : x % 8 = 4
          · rw [if_pos (by rw [t5]; rfl), j_add]
            exact typ _ (by omega)
          · rw [if_neg (by rw [j_eq (by omega) (by omega) (by omega) (by omega)]; omega)]
            by_cases t6 : x % 8 = 5
            · rw [if_pos (by rw [t6]; rfl), j_add]
              exact typ _ (by omega)
            · rw [if_neg (by rw [j_eq (by omega) (by omega) (by omega) (by omega)]; omega), j_add]
              exact typ _ (by omega)
      · rw [if_neg (by rw [j_le (by omega) (by omega) (by omega) (by omega)]; omega)]
        exact typ 32 (by omega)
end LOOP
/-! ===== the law begins ===== -/
theorem ck_start {c : Nat} {h h' : AH} (h0 : c ≠ 0) (hB : Bse c h) (hT : TxB c 3 h) (hH : HdB c 5 h) (hw : Wf h) (hz : aZ h = c + 59) (p : Prs (fun q => c + 59 ≤ q) h h') (hw' : Wf h') (hz' : c + 62 < aZ h') : CkR h' c S0 := by
  have bE := hB.2.2.2.2.2.2.2.2.2.2.2.2.2.2.2.2.2.2.1
  have hB2 := bse_pr hB p (fun q z1 z => by omega)
  have hT2 := txB_pr bE hT p (by omega) (fun q z1 z => by omega) (fun q z => new_no hw (by decide) (by omega))
  have hH2 := hdB_pr bE hH p (by omega) (fun q z1 z => by omega) (fun q z => new_no hw (by decide) (by omega))
  obtain ⟨b1, b2, b3, b4, b5, b6, b7, b8, b9, b10, b11, b12, b13, b14, b15, b16, b17, b18, b19, b20⟩ := hB2
  have hE := hw'.1.2.2.2
  have l3 : lc h' (c + 3) ≤ 98 := by unfold lc; rw [b16, hE]; exact Nat.zero_le _
  have l4 : lc h' (c + 4) ≤ 98 := by unfold lc; rw [b18, hE]; exact Nat.zero_le _
  refine ⟨⟨eq_false h0, b1, b2, b3, b4, b5, b6, b7, b9, b10, fun i hi => (hT2 i hi).2.2, b11, b12, fun j hj => (hH2 j hj).2.2, hz'⟩, hw', b13, b14, fun i hi => (hT2 i hi).1, fun j hj => (hH2 j hj).1, ⟨[], [], b15, ⟨rfl, fun i d hd => (by cases hd)⟩, fun f hf => (by cases hf), fun i j hi => absurd hi (Nat.not_lt_zero _), b17, ⟨rfl, fun i d hd => (by cases hd)⟩, fun i j hi => absurd hi (Nat.not_lt_zero _), l3, l4⟩, b8, Nat.zero_le _, Nat.zero_le _, Nat.zero_le _, fun F hF => (by cases hF)⟩
/-- a new array of ints -/
theorem uN_at {h : AH} {K n q : Nat} (hq : q = aZ h) : aK (uN h K n) q = K ∧ aN (uN h K n) q = n ∧ ∀ j, aI (uN h K n) q j = 0 := by
  subst hq
  exact ⟨w_KN1 h K n, w_NN1 h K n, fun j => w_IN1 h K n j⟩
theorem uN_lt {h : AH} {K n q : Nat} (hq : q < aZ h) : aK (uN h K n) q = aK h q ∧ aN (uN h K n) q = aN h q ∧ aI (uN h K n) q = aI h q := by
  have : q ≠ aZ h := by omega
  exact ⟨w_KN2 this, w_NN2 this, funext fun j => w_IN2 this⟩
theorem law_from {xs : Nat → Int32} {L : Nat} {h : AH} (hL : L ≤ 260) (h0 : aZ h ≠ 0) (hw : Wf h) (hc : aC h = aZ h + 600130) (hu : aU h = 0) : Okp (p_L_law_0 xs L h) (fun r _ => r = iI 1) := by
  have g0 : gS = 7301080 := rfl
  have z2 : aZ (uN h 12 7) = aZ h + 1 := rfl
  have u2 : aU (uN h 12 7) = 7 := by show aU h + 7 = 7; omega
  have c2 : aC (uN h 12 7) = aC h := rfl
  have hE : aE h < aZ h := hw.1.2.1
  unfold p_L_law_0
  refine ok_ck ⟨by omega, by omega⟩ (ok_nm (ok_ck (by rw [w_KN1]; decide) ?_))
  refine ok_bR (f_X10_init (h := uN h 12 7) h0 z2 (w_KN1 h 12 7) (fun j => w_IN1 h 12 7 j) (wf_uN hw (by decide)) hE (by omega) (by omega)) ?_
  rintro _ h5 ⟨y1, y2, y3, y4, y5, y6, y7⟩
  have u5 : aU h5 = 4181 := by omega
  have c5 : aC h5 = aC h := by omega
  clear y6 y7 u2 c2 z2
  generalize hcc : aZ h = c at *
  rw [tn_3, tn_5, tn_60]
  have z6 : aZ (uN h5 20 3) = c + 60 := by show aZ h5 + 1 = _; omega
  have z7 : aZ (uN (uN h5 20 3) 20 5) = c + 61 := by show aZ h5 + 1 + 1 = _; omega
  have z8 : aZ (uN (uN (uN h5 20 3) 20 5) 20 60) = c + 62 := by show aZ h5 + 1 + 1 + 1 = _; omega
  have z9 : aZ (uN (uN (uN (uN h5 20 3) 20 5) 20 60) 20 60) = c + 63 := by show aZ h5 + 1 + 1 + 1 + 1 = _; omega
  have w9 : aU (uN (uN (uN (uN h5 20 3) 20 5) 20 60) 20 60) = 4309 := by show aU h5 + 3 + 5 + 60 + 60 = _; omega
  have c9 : aC (uN (uN (uN (uN h5 20 3) 20 5) 20 60) 20 60) = c + 600130 := by show aC h5 = _; omega
  refine ok_nm (ok_ck ⟨⟨tp_3, by decide⟩, by omega, by omega⟩ (ok_nm (ok_nm ?_)))
  refine ok_ck ⟨⟨tp_5, by decide⟩, by show aZ h5 + 1 + 1 ≤ aC h5; omega, by show aU h5 + 3 + 5 ≤ gS; omega⟩ (ok_nm (ok_nm ?_))
  refine ok_ck ⟨⟨tp_60, by decide⟩, by show aZ h5 + 1 + 1 + 1 ≤ aC h5; omega, by show aU h5 + 3 + 5 + 60 ≤ gS; omega⟩ (ok_nm (ok_nm ?_))
  refine ok_ck ⟨⟨tp_60, by decide⟩, by show aZ h5 + 1 + 1 + 1 + 1 ≤ aC h5; omega, by show aU h5 + 3 + 5 + 60 + 60 ≤ gS; omega⟩ (ok_nm (ok_nm (ok_nm (ok_nm (ok_nm ?_)))))
  have k1 := uN_at (h := h5) (K := 20) (n := 3) (q := c + 59) y5.symm
  have k2 := uN_at (h := uN h5 20 3) (K := 20) (n := 5) (q := c + 60) z6.symm
  have k3 := uN_at (h := uN (uN h5 20 3) 20 5) (K := 20) (n := 60) (q := c + 61) z7.symm
  have k4 := uN_at (h := uN (uN (uN h5 20 3) 20 5) 20 60) (K := 20) (n := 60) (q := c + 62) z8.symm
  have m1 := uN_lt (h := uN h5 20 3) (K := 20) (n := 5) (q := c + 59) (by omega)
  have m2 := uN_lt (h := uN (uN h5 20 3) 20 5) (K := 20) (n := 60) (q := c + 59) (by omega)
  have m3 := uN_lt (h := uN (uN h5 20 3) 20 5) (K := 20) (n := 60) (q := c + 60) (by omega)
  have m4 := uN_lt (h := uN (uN (uN h5 20 3) 20 5) 20 60) (K := 20) (n := 60) (q := c + 59) (by omega)
  have m5 := uN_lt (h := uN (uN (uN h5 20 3) 20 5) 20 60) (K := 20) (n := 60) (q := c + 60) (by omega)
  have m6 := uN_lt (h := uN (uN (uN h5 20 3) 20 5) 20 60) (K := 20) (n := 60) (q := c + 61) (by omega)
  have w6 : Wf (uN h5 20 3) := wf_uN y4 (by decide)
  have w7 : Wf (uN (uN h5 20 3) 20 5) := wf_uN w6 (by decide)
  have w8 : Wf (uN (uN (uN h5 20 3) 20 5) 20 60) := wf_uN w7 (by decide)
  have hw9 : Wf (uN (uN (uN (uN h5 20 3) 20 5) 20 60) 20 60) := wf_uN w8 (by decide)
  have pr : Prs (fun q => c + 59 ≤ q) h5 (uN (uN (uN (uN h5 20 3) 20 5) 20 60) 20 60) := pr_tr (pr_tr (pr_tr pr_uN pr_uN) pr_uN) pr_uN
  rw [z6, z7, z8, y5]
  have hA : LwA (uN (uN (uN (uN h5 20 3) 20 5) 20 60) 20 60) c (fun _ => 0, fun _ => 0, fun _ => 0, fun _ => 0) := by
    refine ⟨⟨?_, ?_, ?_, ?_, ?_, ?_, k4.1, k4.2.1⟩, fun i _ => ?_, fun i _ => ?_, fun i _ => ?_, fun i _ => ?_⟩
    · rw [m4.1, m2.1, m1.1]; exact k1.1
    · rw [m4.2.1, m2.2.1, m1.2.1]; exact k1.2.1
    · rw [m5.1, m3.1]; exact k2.1
    · rw [m5.2.1, m3.2.1]; exact k2.2.1
    · rw [m6.1]; exact k3.1
    · rw [m6.2.1]; exact k3.2.1
    · rw [m4.2.2, m2.2.2, m1.2.2, k1.2.2]; exact j_0
    · rw [m5.2.2, m3.2.2, k2.2.2]; exact j_0
    · rw [m6.2.2, k3.2.2]; exact j_0
    · rw [k4.2.2]; exact j_0
  generalize uN (uN (uN (uN h5 20 3) 20 5) 20 60) 20 60 = g at *
  have hC := ck_start h0 y1 y2 y3 y4 y5 pr hw9 (by omega)
  have hW : Wo c S0 (fun _ => 0, fun _ => 0, fun _ => 0, fun _ => 0) 0 0 g := ⟨hC, hA, iv_0, by omega, by omega, c9⟩
  refine ok_ck hC.1.2.1 ?_
  rw [bR_e (g_queued hW), if_pos (show iI (((cQ S0).length : Nat) : Int) = 0 from j_0.symm)]
  unfold p_L_law_49
  rw [nm_q]
  refine law_loop hL 64 0 FU S0 _ 0 0 g 0 0 0 ⟨hW, fun t _ => ?_, fun _ _ => rfl, ⟨rfl, ⟨Nat.zero_le _, fun _ _ _ => rfl⟩, fun f hf => by omega⟩, ⟨rfl, Nat.zero_le _, rfl, fun s hs => by cases hs⟩, fun _ _ => Nat.zero_le _, Nat.zero_le _, Nat.zero_le _⟩ rfl (by unfold FU; omega)
  exact ⟨0, -1, j_0, rfl, by omega, by omega, by show (0 : Int) ≤ 0; omega, by show (0 : Int) ≤ 0 + 0; omega, by show (0 : Int) ≤ 0; omega, by show (0 : Int) ≤ 4 * ((0 : Nat) : Int); omega⟩
theorem wf_h0 {B E M : Nat} (hE0 : E ≠ 0) (hE : E ≤ B) (hM : M ≠ 0) : Wf (h0 B E M) := by
  refine ⟨⟨hE0, Nat.lt_succ_of_le hE, if_pos rfl, rfl⟩, fun q hq => if_neg (fun z => by have : B + 1 ≤ q := hq; omega), fun l1 l2 k1 _ => ?_, fun l1 k1 => ?_, hM⟩
  · have : (if l1 = E then 26 else 0) = 1 := k1
    split at this <;> omega
  · have : (if l1 = E then 26 else 0) = 1 := k1
    split at this <;> omega
theorem pure_law : PureLaw := by
  intro B E M L xs hL hE0 hE hM
  obtain ⟨r, h', e1, e2⟩ := law_from (xs := xs) (L := L) (h := h0 B E M) hL (Nat.succ_ne_zero B) (wf_h0 hE0 hE hM) (by show B + 1 + 600130 = B + 1 + 600130; exact Eq.refl (B + 1 + 600130)) rfl
  exact ⟨h', by rw [e1, e2]⟩
