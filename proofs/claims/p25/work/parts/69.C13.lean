
/-! ===== the law's arrays are written; the ends of a round of the law ===== -/
section LAW
variable {c n k i many saves written : Nat} {S : Cs} {A : La} {h h' : AH}
theorem ck_law {q0 : Nat} (hC : CkR h c S) (p : Pi (fun q => q = q0) h h') (h1 : c + 59 ≤ q0) (h2 : q0 ≤ c + 62) (hk : aK h q0 = 20) : CkR h' c S := by
  have hC' := hC
  obtain ⟨hK, hW, hP, hN, hX, hH, hF, hs1, hs2, hf1, hq1, hfp⟩ := hC
  have hz := hK.2.2.2.2.2.2.2.2.2.2.2.2.2.2
  have pp := pi_pr p
  have ar : ∀ l2 ys, LsR h l2 ys → ¬ (aR h l2 1 = q0) := fun l2 ys z1 z => by
    have := z1.2.2.2.2.1
    rw [z] at this; omega
  refine ⟨fr_K hC' pp (by omega) (by omega) (by omega), wf_pi hW p, plK_pr hP pp (by omega), nbK_pr hN pp (by omega), fun i hi => ?_, fun j hj => ?_, ?_, ?_, hs2, hf1, hq1, hfp⟩
  · have ei : tcc c i = c + 13 + 12 * i := rfl
    obtain ⟨ds2, m1, m2⟩ := (hX i hi).2.2.2.1
    exact txR_pr (hX i hi) pp (fun q z1 z2 => by omega) (ar _ _ m1) (fun q z => by rw [z]; omega)
  · have ej : hcc c j = c + 49 + 2 * j := rfl
    obtain ⟨-, -, -, -, -, -, -, ys, m1, -⟩ := hH j hj
    exact hd_pr (hH j hj) pp (by omega) (by omega) (ar _ _ m1) (fun q z => by rw [z]; omega)
  · exact fr_F hC' pp rfl rfl (by omega) (by omega) (fun l2 ys z1 _ => ar l2 ys z1) (fun q z1 z2 z3 z => by rw [z] at z3; omega) (fun q _ z => by rw [z]; omega)
  · rw [pr_I pp (by omega) (by omega)]; exact hs1
theorem tnc {t : Nat} (ht : t < 100000) : (iI (t : Int)).toNatClampNeg = t := by rw [j_nat (by omega) (by omega), Int.toNat_natCast]
theorem wo_uI {q t : Nat} {v : Int32} {A' : La} (hW : Wo c S A n k h) (h1 : c + 59 ≤ q) (h2 : q ≤ c + 62) (hA : LwA (uI h q t v) c A') : Wo c S A' n k (uI h q t v) := by
  have hk : aK h q = 20 := by
    have := hW.2.1.1
    rcases (show q = c + 59 ∨ q = c + 60 ∨ q = c + 61 ∨ q = c + 62 by omega) with e | e | e | e <;> rw [e] <;> omega
  exact ⟨ck_law hW.1 (pi_uI (S := fun x => x = q) rfl) h1 h2 hk, hA, hW.2.2.1, hW.2.2.2.1, hW.2.2.2.2.1, hW.2.2.2.2.2⟩
theorem wo_u0 {t : Nat} {v : Int} (hW : Wo c S A n k h) : Wo c S (cset A.1 t v, A.2) n k (uI h (c + 59) t (iI v)) := by
  obtain ⟨a0, a1, a2, a3, a4⟩ := hW.2.1
  refine wo_uI hW (by omega) (by omega) ⟨a0, fun i hi => ?_, fun i hi => ?_, fun i hi => ?_, fun i hi => ?_⟩
  · rw [I_uI]
    show _ = iI (if i = t then v else A.1 i)
    by_cases d : i = t
    · rw [if_pos ⟨rfl, d⟩, if_pos d]
    · rw [if_neg (fun z => d z.2), if_neg d]; exact a1 i hi
  · rw [w_I2 (by omega)]; exact a2 i hi
  · rw [w_I2 (by omega)]; exact a3 i hi
  · rw [w_I2 (by omega)]; exact a4 i hi
theorem wo_u1 {t : Nat} {v : Int} (hW : Wo c S A n k h) : Wo c S (A.1, cset A.2.1 t v, A.2.2) n k (uI h (c + 60) t (iI v)) := by
  obtain ⟨a0, a1, a2, a3, a4⟩ := hW.2.1
  refine wo_uI hW (by omega) (by omega) ⟨a0, fun i hi => ?_, fun i hi => ?_, fun i hi => ?_, fun i hi => ?_⟩
  · rw [w_I2 (by omega)]; exact a1 i hi
  · rw [I_uI]
    show _ = iI (if i = t then v else A.2.1 i)
    by_cases d : i = t
    · rw [if_pos ⟨rfl, d⟩, if_pos d]
    · rw [if_neg (fun z => d z.2), if_neg d]; exact a2 i hi
  · rw [w_I2 (by omega)]; exact a3 i hi
  · rw [w_I2 (by omega)]; exact a4 i hi
theorem wo_u2 {t : Nat} {v : Int} (hW : Wo c S A n k h) : Wo c S (A.1, A.2.1, cset A.2.2.1 t v, A.2.2.2) n k (uI h (c + 61) t (iI v)) := by
  obtain ⟨a0, a1, a2, a3, a4⟩ := hW.2.1
  refine wo_uI hW (by omega) (by omega) ⟨a0, fun i hi => ?_, fun i hi => ?_, fun i hi => ?_, fun i hi => ?_⟩
  · rw [w_I2 (by omega)]; exact a1 i hi
  · rw [w_I2 (by omega)]; exact a2 i hi
  · rw [I_uI]
    show _ = iI (if i = t then v else A.2.2.1 i)
    by_cases d : i = t
    · rw [if_pos ⟨rfl, d⟩, if_pos d]
    · rw [if_neg (fun z => d z.2), if_neg d]; exact a3 i hi
  · rw [w_I2 (by omega)]; exact a4 i hi
theorem wo_u3 {t : Nat} {v : Int} (hW : Wo c S A n k h) : Wo c S (A.1, A.2.1, A.2.2.1, cset A.2.2.2 t v) n k (uI h (c + 62) t (iI v)) := by
  obtain ⟨a0, a1, a2, a3, a4⟩ := hW.2.1
  refine wo_uI hW (by omega) (by omega) ⟨a0, fun i hi => ?_, fun i hi => ?_, fun i hi => ?_, fun i hi => ?_⟩
  · rw [w_I2 (by omega)]; exact a1 i hi
  · rw [w_I2 (by omega)]; exact a2 i hi
  · rw [w_I2 (by omega)]; exact a3 i hi
  · rw [I_uI]
    show _ = iI (if i = t then v else A.2.2.2 i)
    by_cases d : i = t
    · rw [if_pos ⟨rfl, d⟩, if_pos d]
    · rw [if_neg (fun z => d z.2), if_neg d]; exact a4 i hi
theorem ix0 {t : Nat} (hW : Wo c S A n k h) (ht : t < 3) : aK h (c + 59) = 20 ∧ ix (iI t) (aN h (c + 59)) := by
  obtain ⟨⟨k1, n1, k2, n2, k3, n3, k4, n4⟩, -⟩ := hW.2.1
  exact ⟨k1, by rw [n1]; exact j_ix (by omega) (by omega) (by omega)⟩
theorem ix1 {t : Nat} (hW : Wo c S A n k h) (ht : t < 5) : aK h (c + 60) = 20 ∧ ix (iI t) (aN h (c + 60)) := by
  obtain ⟨⟨k1, n1, k2, n2, k3, n3, k4, n4⟩, -⟩ := hW.2.1
  exact ⟨k2, by rw [n2]; exact j_ix (by omega) (by omega) (by omega)⟩
theorem ix2 {t : Nat} (hW : Wo c S A n k h) (ht : t < 60) : aK h (c + 61) = 20 ∧ ix (iI t) (aN h (c + 61)) := by
  obtain ⟨⟨k1, n1, k2, n2, k3, n3, k4, n4⟩, -⟩ := hW.2.1
  exact ⟨k3, by rw [n3]; exact j_ix (by omega) (by omega) (by omega)⟩
theorem ix3 {t : Nat} (hW : Wo c S A n k h) (ht : t < 60) : aK h (c + 62) = 20 ∧ ix (iI t) (aN h (c + 62)) := by
  obtain ⟨⟨k1, n1, k2, n2, k3, n3, k4, n4⟩, -⟩ := hW.2.1
  exact ⟨k4, by rw [n4]; exact j_ix (by omega) (by omega) (by omega)⟩
theorem rd0 {t : Nat} (hW : Wo c S A n k h) (ht : t < 3) : aI h (c + 59) (iI t).toNatClampNeg = iI (A.1 t) := by rw [tnc (by omega)]; exact hW.2.1.2.1 t ht
theorem rd1 {t : Nat} (hW : Wo c S A n k h) (ht : t < 5) : aI h (c + 60) (iI t).toNatClampNeg = iI (A.2.1 t) := by rw [tnc (by omega)]; exact hW.2.1.2.2.1 t ht
theorem rd2 {t : Nat} (hW : Wo c S A n k h) (ht : t < 60) : aI h (c + 61) (iI t).toNatClampNeg = iI (A.2.2.1 t) := by rw [tnc (by omega)]; exact hW.2.1.2.2.2.1 t ht
theorem rd3 {t : Nat} (hW : Wo c S A n k h) (ht : t < 60) : aI h (c + 62) (iI t).toNatClampNeg = iI (A.2.2.2 t) := by rw [tnc (by omega)]; exact hW.2.1.2.2.2.2 t ht
/-! what holds at the beginning of a round, and (with d) behind what it does -/
def LV (S : Cs) (A : La) (i : Nat) (d : Int) : Prop := ∀ t, t < 3 → ∃ v w : Int, xV (cX S t) = iI v ∧ xW (cX S t) = iI w ∧ -1 ≤ w ∧ w ≤ v ∧ A.1 t ≤ v ∧ v ≤ A.1 t + d ∧ 0 ≤ A.1 t ∧ A.1 t ≤ 4 * i
def LH (S : Cs) (A : La) : Prop := ∀ a, a < 5 → A.2.1 a = (cH S a).2
def FK (z : Int) (F : Fm) : Prop := ∃ kd nb : Int, z = 1000 * (fT F : Int) + 100 * kd + nb ∧ 0 ≤ kd ∧ kd ≤ 3 ∧ 0 ≤ nb ∧ nb ≤ 40 ∧ (kd < 2 → ∀ k ∈ fC F, k.1.2.2 = 1) ∧ (2 ≤ kd → ∀ k ∈ fC F, k.1.2.2 ≠ 1)
def LF (S : Cs) (A : La) (many : Nat) : Prop := (cF S).length = many ∧ (many ≤ 60 ∧ ∀ f, many ≤ f → f < 60 → A.2.2.1 f = 0) ∧ ∀ f, f < many → A.2.2.1 f = fS (fm S f) ∧ FK (A.2.2.2 f) (fm S f)
def LQ (S : Cs) (saves written : Nat) : Prop := cN S = saves ∧ saves ≤ 60 ∧ (cQ S).length + written = saves ∧ ∀ s ∈ cQ S, s.1 < saves ∧ s.2.2.1 < 3
def LR (S : Cs) (j : Nat) : Prop := ∀ t, t < 3 → rn (xR (cX S t)) ≤ j
def LIv (c i : Nat) (S : Cs) (A : La) (n k : Nat) (h : AH) (many saves written : Nat) : Prop := Wo c S A n k h ∧ LV S A i 0 ∧ LH S A ∧ LF S A many ∧ LQ S saves written ∧ LR S i ∧ n ≤ 4 * i ∧ k ≤ 9300 * i
variable {xs : Nat → Int32} {L : Nat} {K : Nat → Nat → Nat → Nat → Nat → Int32 → Int32 → Int32 → Int32 → Int32 → AH → Option (Int32 × AH)} {Q : Int32 → AH → Prop}
def NX (K : Nat → Nat → Nat → Nat → Nat → Int32 → Int32 → Int32 → Int32 → Int32 → AH → Option (Int32 × AH)) (Q : Int32 → AH → Prop) (c i : Nat) : Prop := ∀ (S : Cs) (A : La) (n k : Nat) (h : AH) (many saves written : Nat), LIv c (i + 1) S A n k h many saves written → Okp (K c (c + 59) (c + 60) (c + 61) (c + 62) (iI many) (iI saves) (iI written) (iI 1) (iI ((i : Int) + 1)) h) Q
/-- the formats, the queue, the next round -/
theorem tl_1736 (hn : n ≤ 511) (hF : LF S A many) (hQ : LQ S saves written) (fin : ∀ (k' : Nat) (h' : AH), Wo c S A n k' h' → k' ≤ k + 2 * many → Okp (K c (c + 59) (c + 60) (c + 61) (c + 62) (iI many) (iI saves) (iI written) (iI 1) (iI ((i : Int) + 1)) h') Q) : ∀ (j f m : Nat) (h : AH) (kk : Nat), f + j = many → j < m → Wo c S A n kk h → kk + 2 * j ≤ k + 2 * many → k + 2 * many ≤ 599000 → Okp (p_L_law_1736 xs L K m c (c + 59) (c + 60) (c + 61) (c + 62) (iI many) (iI saves) (iI written) (iI 1) (iI i) (iI f) h) Q := by
  obtain ⟨f1, ⟨f2, f0⟩, f3⟩ := hF
  obtain ⟨q1, q2, q3, q4⟩ := hQ
  intro j
  induction j with
  | zero =>
    intro f m h kk hf hm hW hk hk2
    obtain ⟨m, rfl⟩ : ∃ q, m = q + 1 := ⟨m - 1, by omega⟩
    unfold p_L_law_1736
    rw [if_pos (by rw [j_le (by omega) (by omega) (by omega) (by omega)]; omega)]
    unfold p_L_law_1784
    rw [if_neg one_ne, ck_p hW.1.1.2.1, bR_e (g_queued hW), if_pos (by rw [j_sub]; congr 1; omega)]
    unfold p_L_law_1806
    rw [nm_q, j_add]
    exact fin kk h hW (by omega)
  | succ j ih =>
    intro f m h kk hf hm hW hk hk2
    obtain ⟨m, rfl⟩ : ∃ q, m = q + 1 := ⟨m - 1, by omega⟩
    have hf3 := f3 f (by omega)
    have hmem := fm_mem (S := S) (f := f) (by omega)
    have hG := ((csG_of hW.1).2.2.1 _ hmem).1
    unfold p_L_law_1736
    rw [if_neg (by rw [j_le (by omega) (by omega) (by omega) (by omega)]; omega), if_neg one_ne]
    refine ok_bR (g_state hW hn (by omega) (f := f) (by omega)) ?_
    rintro r h1 ⟨rfl, hW1⟩
    rw [ck_p (ix2 hW1 (by omega)), rd2 hW1 (by omega), hf3.1, if_pos rfl]
    refine ok_bR (g_spared hW1 hn (by omega) (f := f) (by omega)) ?_
    rintro r h2 ⟨rfl, hW2⟩
    have hsp : 0 ≤ vSp S (fm S f) ∧ vSp S (fm S f) ≤ 1000 := by
      unfold vSp
      by_cases d : fS (fm S f) = 0
      · rw [if_pos d]
        have := qcn_le (sprA (cX S (fT (fm S f))) (fC (fm S f))) (fC (fm S f)).length
        have e : spN S (fm S f) = qcn (sprA (cX S (fT (fm S f))) (fC (fm S f))) (fC (fm S f)).length := rfl
        have := hG.2.2.2.2.2.1
        omega
      · rw [if_neg d]
        have := hG.2.2.2.1
        have := hG.2.2.2.2.1
        omega
    rw [if_neg (by rw [j_lt0 (by omega) (by omega)]; omega)]
    unfold p_L_law_1776
    rw [nm_q, j_add]
    exact ih (f + 1) m h2 (kk + 1 + 1) (by omega) (by omega) hW2 (by omega) hk2
set_option maxRecDepth 100000 in
/-- the texts: versions, both ways -/
theorem tl_1643 (hi : i < 64) (hn : n ≤ 511) (hV : LV S A i 4) (fin : ∀ (A' : La) (k' : Nat) (h' : AH), Wo c S A' n k' h' → k' ≤ k + 1500 → A'.2 = A.2 → (∀ t, t < 3 → xV (cX S t) = iI (A'.1 t) ∧ 0 ≤ A'.1 t ∧ A'.1 t ≤ 4 * i + 4) → Okp (p_L_law_1733 xs L K c (c + 59) (c + 60) (c + 61) (c + 62) (iI many) (iI saves) (iI written) (iI 1) (iI i) h') Q) : ∀ (j t m : Nat) (B : La) (h : AH) (kk : Nat), t + j = 3 → j < m → Wo c S B n kk h → B.2 = A.2 → (∀ q, q < 3 → t ≤ q → B.1 q = A.1 q) → (∀ q, q < t → xV (cX S q) = iI (B.1 q) ∧ 0 ≤ B.1 q ∧ B.1 q ≤ 4 * i + 4) → kk + 500 * j ≤ k + 1500 → k + 1500 ≤ 597000 → Okp (p_L_law_1643 xs L K m c (c + 59) (c + 60) (c + 61) (c + 62) (iI many) (iI saves) (iI written) (iI 1) (iI i) (iI t) h) Q := by
  intro j
  induction j with
  | zero =>
    intro t m B h kk ht hm hW hB2 hB1 hB0 hk hk2
    obtain ⟨m, rfl⟩ : ∃ q, m = q + 1 := ⟨m - 1, by omega⟩
    unfold p_L_law_1643
    rw [if_pos (by rw [j_le (by omega) (by omega) (by omega) (by omega)]; omega)]
    exact fin B kk h hW (by omega) hB2 fun q hq => hB0 q (by omega)
  | succ j ih =>
    intro t m B h kk ht hm hW hB2 hB1 hB0 hk hk2
    obtain ⟨m, rfl⟩ : ∃ q, m = q + 1 := ⟨m - 1, by omega⟩
    have ht3 : t < 3 := by omega
    obtain ⟨v, w, v1, v2, v3, v4, v5, v6, v7, v8⟩ := hV t ht3
    have hbt := hB1 t ht3 (Nat.le_refl _)
    unfold p_L_law_1643
    rw [if_neg (by rw [j_le (by omega) (by omega) (by omega) (by omega)]; omega), if_neg one_ne]
    refine ok_bR (g_version hW hn (by omega) ht3) ?_
    rintro r h1 ⟨rfl, hW1⟩
    rw [ck_p (ix0 hW1 ht3), rd0 hW1 ht3, v1, hbt, if_neg (by rw [j_lt (by omega) (by omega) (by omega) (by omega)]; omega)]
    refine ok_bR (g_fits hW1 hn (by omega) ht3 (i := i) (by omega)) ?_
    rintro r h2 ⟨rfl, hW2⟩
    rw [if_neg one_ne]
    refine ok_bR (g_savedVersion hW2 hn (by omega) ht3) ?_
    rintro r h3 ⟨rfl, hW3⟩
    refine ok_bR (g_version hW3 hn (by omega) ht3) ?_
    rintro r h4 ⟨rfl, hW4⟩
    rw [v1, v2, if_neg (by rw [j_lt (by omega) (by omega) (by omega) (by omega)]; omega)]
    refine ok_bR (g_savedLength hW4 hn (by omega) ht3) ?_
    rintro r h5 ⟨rfl, hW5⟩
    refine ok_bR (g_savedEnd hW5 hn (by omega) ht3) ?_
    rintro r h6 ⟨rfl, hW6⟩
    rw [if_pos rfl]
    unfold p_L_law_1715
    refine ok_bR (g_version hW6 hn (by omega) ht3) ?_
    rintro r h7 ⟨rfl, hW7⟩
    rw [ck_p (ix0 hW7 ht3), nm_q, nm_q, tnc (by omega), v1, j_add]
    refine ih (t + 1) m (cset B.1 t v, B.2) _ (kk + 1 + 400 + 1 + 1 + 1 + 1 + 1) (by omega) (by omega) (wo_u0 hW7) hB2 (fun q h1 h2 => ?_) (fun q h1 => ?_) (by omega) hk2
    · show (if q = t then v else B.1 q) = _
      rw [if_neg (by omega)]; exact hB1 q h1 (by omega)
    · show xV (cX S q) = iI (if q = t then v else B.1 q) ∧ 0 ≤ (if q = t then v else B.1 q) ∧ (if q = t then v else B.1 q) ≤ 4 * i + 4
      by_cases d : q = t
      · rw [if_pos d, d]; exact ⟨v1, by omega, by omega⟩
      · rw [if_neg d]; exact hB0 q (by omega)
/-- from the end of a branch to the next round -/
theorem tl_1640 (hW : Wo c S A n k h) (hn : n ≤ 4 * i + 4) (hk : k ≤ 9300 * i + 6700) (hi : i < 64) (hV : LV S A i 4) (hH : LH S A) (hF : LF S A many) (hQ : LQ S saves written) (hR : LR S (i + 1)) (hX : NX K Q c i) : Okp (p_L_law_1640 xs L K c (c + 59) (c + 60) (c + 61) (c + 62) (iI many) (iI saves) (iI written) (iI 1) (iI i) h) Q := by
  unfold p_L_law_1640
  rw [nm_q]
  have hn2 : n ≤ 511 := by omega
  have h60 := hF.2.1.1
  refine tl_1643 (k := k) hi hn2 hV (fun A' k' h' hW' hk' eA hv => ?_) 3 0 FU A h k rfl (by unfold FU; omega) hW rfl (fun q _ _ => rfl) (fun q hq => by omega) (by omega) (by omega)
  unfold p_L_law_1733
  rw [nm_q]
  have e2 : A'.2.1 = A.2.1 := by rw [eA]
  have e3 : A'.2.2.1 = A.2.2.1 := by rw [eA]
  have e4 : A'.2.2.2 = A.2.2.2 := by rw [eA]
  have hF' : LF S A' many := ⟨hF.1, ⟨hF.2.1.1, fun f h1 h2 => by rw [e3]; exact hF.2.1.2 f h1 h2⟩, fun f hf => by rw [e3, e4]; exact hF.2.2 f hf⟩
  refine tl_1736 (k := k') hn2 hF' hQ (fun k2 h2 hW2 hk2 => ?_) many 0 FU h' k' (by omega) (by unfold FU; omega) hW' (by omega) (by omega)
  refine hX S A' n k2 h2 many saves written ⟨hW2, fun t ht => ?_, fun a ha => by rw [e2]; exact hH a ha, hF', hQ, hR, by omega, by omega⟩
  obtain ⟨v, w, v1, v2, v3, v4, v5, v6, v7, v8⟩ := hV t ht
  obtain ⟨u1, u2, u3⟩ := hv t ht
  have ev : A'.1 t = v := by
    have a1 := j_toInt (a := A'.1 t) (by omega) (by omega)
    have a2 := j_toInt (a := v) (by omega) (by omega)
    rw [← u1, v1, a2] at a1
    exact a1.symm
  exact ⟨v, w, v1, v2, v3, v4, by omega, by omega, by omega, by omega⟩
end LAW
