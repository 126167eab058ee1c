
/-! ===== formats that there are ===== -/
theorem al_set {α : Type} {P : Nat → α → Prop} {xs : List Nat} {ds : List α} {i : Nat} {d : α} (h : Al P xs ds) (hi : i < ds.length) (hd : P (xs.getD i 0) d) : Al P xs (ds.set i d) := by
  refine ⟨by rw [List.length_set]; exact h.1, fun j e hj => ?_⟩
  rw [List.getElem?_set] at hj
  by_cases c : i = j
  · subst c
    rw [if_pos rfl, if_pos hi] at hj
    cases hj
    exact hd
  · rw [if_neg c] at hj
    exact h.2 j e hj
theorem al_in {α : Type} {P : Nat → α → Prop} {xs : List Nat} {ds : List α} (h : Al P xs ds) {x : Nat} (hx : x ∈ xs) : ∃ i d, i < xs.length ∧ xs.getD i 0 = x ∧ ds[i]? = some d ∧ P x d := by
  obtain ⟨i, hi, e⟩ := List.getElem_of_mem hx
  have hi2 : i < ds.length := by rw [← h.1]; exact hi
  have e2 : xs.getD i 0 = x := by rw [List.getD_eq_getElem?_getD, List.getElem?_eq_getElem hi]; exact e
  have := h.2 i _ (List.getElem?_eq_getElem hi2)
  rw [e2] at this
  exact ⟨i, _, hi, e2, List.getElem?_eq_getElem hi2, this⟩
theorem ck_fm {h h' : AH} {c i f : Nat} {S : Cs} {F : Fm} {st w : Int} {fs qs : List Nat} (hC : CkR h c S) (f1 : LsR h (c + 3) fs) (f2 : Al (FmR (tcc c) h) fs (cF S)) (f3 : ∀ f ∈ fs, c + 62 < aR h f 1) (f4 : ndp fs) (f5 : LsR h (c + 4) qs) (f6 : Al (SvR c fs h) qs (cQ S)) (f7 : ndp qs ∧ lc h (c + 3) ≤ 98 ∧ lc h (c + 4) ≤ 98) (hi : i < fs.length) (hf : fs.getD i 0 = f) (hF : (cF S)[i]? = some F) (p : Pi (fun q => q = f) h h') (v2 : aI h' f 2 = iI st) (v3 : aI h' f 3 = iI w) (s1 : 0 ≤ st) (s2 : st ≤ 2) (w1 : 0 ≤ w) (w2 : w ≤ 150) : CkR h' c (cX S, cH S, (cF S).set i (fT F, st, fC F, w), cQ S, cN S) := by
  have hC' := hC
  have hFR := f2.2 i F hF
  rw [hf] at hFR
  have kf := hFR.2.2.1
  have hil : i < (cF S).length := by rw [← f2.1]; exact hi
  obtain ⟨hK, hW, hP, hN, hX, hH, -, hs1, hs2, hf1, hq1, hfp⟩ := hC
  have pp := pi_pr p
  have st0 : ∀ q, c ≤ q → q ≤ c + 58 → ¬ q = f := fun q z1 z2 z => by have := ck_kinds hC' q z1 z2; rw [z] at this; omega
  have ar : ∀ l2 ys, LsR h l2 ys → ¬ aR h l2 1 = f := fun l2 ys z1 z => by have := z1.2.2.2.2.1; rw [z] at this; omega
  refine ⟨?_, wf_pi hW p, plK_pi hP p, nbK_pi hN p, fun i hi => ?_, fun j hj => ?_, ?_, ?_, hs2, by rw [show cF (cX S, cH S, (cF S).set i (fT F, st, fC F, w), cQ S, cN S) = (cF S).set i (fT F, st, fC F, w) from rfl, List.length_set]; exact hf1, hq1, fun G hG => ?_⟩
  · unfold CkK at hK ⊢
    rw [p.1, p.2.1, p.2.2.1, p.2.2.2.2.1]
    exact hK
  · have ei : tcc c i = c + 13 + 12 * i := rfl
    obtain ⟨ds2, m1, m2⟩ := (hX i hi).2.2.2.1
    exact txR_pr (hX i hi) pp (fun q z1 z2 => st0 q (by omega) (by omega)) (ar _ _ m1) (fun q z => by rw [z]; omega)
  · have ej : hcc c j = c + 49 + 2 * j := rfl
    obtain ⟨-, h0, -, -, -, -, -, ys, m1, -⟩ := hH j hj
    exact hd_pr (hH j hj) pp (st0 _ (by omega) (by omega)) (st0 _ (by omega) (by omega)) (ar _ _ m1) (fun q z => by rw [z]; omega)
  · refine ⟨fs, qs, ls_pr f1 pp (st0 _ (by omega) (by omega)) (ar _ _ f1), ?_, fun g hg => by rw [p.2.2.1]; exact f3 g hg, f4, ls_pr f5 pp (st0 _ (by omega) (by omega)) (ar _ _ f5), al_mono f6 fun x s _ z => ?_, f7.1, by unfold lc; rw [p.2.2.1, p.2.1]; exact f7.2.1, by unfold lc; rw [p.2.2.1, p.2.1]; exact f7.2.2⟩
    · have oth : ∀ x G, FmR (tcc c) h x G → x ≠ f → FmR (tcc c) h' x G := fun x G hG hx => by
        obtain ⟨-, -, -, -, -, -, -, -, ys, l1, -⟩ := id hG
        exact fm_pr hG pp hx (fun z => by have := l1.2.1; rw [z] at this; omega) (ar _ _ l1) (fun q z => by rw [z]; omega)
      refine ⟨by show fs.length = ((cF S).set i _).length; rw [List.length_set]; exact f2.1, fun j G hj => ?_⟩
      have hj' : ((cF S).set i (fT F, st, fC F, w))[j]? = some G := hj
      rw [List.getElem?_set] at hj'
      by_cases d : i = j
      · subst d
        rw [if_pos rfl, if_pos hil] at hj'
        cases hj'
        rw [hf]
        obtain ⟨a1, a2, a3, a4, a5, a6, a7, a8, ys, l1, l2, l3⟩ := hFR
        refine ⟨a1, by rw [p.2.2.2.2.1]; exact a2, by rw [p.1]; exact a3, by rw [p.2.2.1]; exact a4, v2, v3, a7, a8, ys, ?_, al_mono l2 fun y k _ z => ch_pr z pp (fun e => by have := z.2.2.1; rw [e] at this; omega), l3⟩
        rw [p.2.2.1]
        exact ls_pr l1 pp (fun z => by have := l1.2.1; rw [z] at this; omega) (ar _ _ l1)
      · rw [if_neg d] at hj'
        refine oth _ G (f2.2 j G hj') (fun e => d ?_)
        have hjl := (List.getElem?_eq_some_iff.mp hj').1
        exact f4 i j hi (by rw [f2.1]; exact hjl) (hf.trans e.symm)
    · obtain ⟨a1, a2, a3, a4⟩ := z
      have n1 : ¬ x = f := fun z => by rw [z] at a3; omega
      unfold SvR
      rw [p.1, p.2.2.2.2.1, pi_I p n1, p.2.2.1]
      exact ⟨a1, a2, a3, a4⟩
  · rw [pi_I p (st0 _ (by omega) (by omega))]; exact hs1
  · have hG' : G ∈ (cF S).set i (fT F, st, fC F, w) := hG
    rcases List.mem_or_eq_of_mem_set hG' with z | z
    · exact hfp G z
    · subst z
      have q := hfp F (List.mem_of_getElem? hF)
      exact ⟨q.1, s1, s2, w1, w2, q.2.2.2.2.2⟩
theorem f_formatAt {h : AH} {c : Nat} {S : Cs} {z : Int} {fs : List Nat} (hC : CkR h c S) (f1 : LsR h (c + 3) fs) (f2 : Al (FmR (tcc c) h) fs (cF S)) (z1 : 0 ≤ z) (z2 : z < (cF S).length) : p_X10_formatAt c (iI z) h = some (.ok (fs.getD z.toNat 0), h) := by
  obtain ⟨k0, k1, k2, k3, k4, k5, -⟩ := ck_c0 hC
  have hl := hC.2.2.2.2.2.2.2.2.2.1
  have e1 := f_size f1
  have e2 := f_get f1 (i := z.toNat) (by rw [f2.1]; omega)
  have kf := (f2.2 z.toNat _ (List.getElem?_eq_getElem (by omega))).2.2.1
  have k3' := f1.2.1
  have hlen := f2.1
  have ez : ((z.toNat : Nat) : Int) = z := by omega
  rw [ez] at e2
  unfold p_X10_formatAt p_X10_formatAt_0 p_X10_formatAt_17
  simp (disch := omega) only [ck_t, nm_q, bR_s, j_add, j_sub, j_mul, j_nI, j_0, j_le, j_lt, j_eq, j_nat, j_ixe, bI_0, and_self, and_true, true_and, ne_eq, not_false_eq_true, not_true_eq_false, ite_true, ite_false, if_true, if_false, ck_p z_0, ck_p z_1, k0, k1, k4, k3', e1, e2, kf]
  rw [if_neg (by omega), if_pos (by omega)]
theorem f_formatAt_no {h : AH} {c : Nat} {S : Cs} {z : Int} {fs : List Nat} (hC : CkR h c S) (f1 : LsR h (c + 3) fs) (f2 : Al (FmR (tcc c) h) fs (cF S)) (r1 : -2147483648 ≤ z) (r2 : z < 2147483648) (z1 : ¬ (0 ≤ z ∧ z < (cF S).length)) (hz : aZ h + 1 ≤ aC h) (hu : aU h + 6 ≤ gS) : p_X10_formatAt c (iI z) h = some (.error 1, uN h 0 6) := by
  obtain ⟨k0, k1, k2, k3, k4, k5, -⟩ := ck_c0 hC
  have hl := hC.2.2.2.2.2.2.2.2.2.1
  have e1 := f_size f1
  have k3' := f1.2.1
  have hlen := f2.1
  unfold p_X10_formatAt p_X10_formatAt_0 p_X10_formatAt_17
  simp (disch := omega) only [ck_t, nm_q, bR_s, j_add, j_sub, j_mul, j_nI, j_0, j_le, j_lt, j_eq, j_nat, j_ixe, bI_0, and_self, and_true, true_and, ne_eq, not_false_eq_true, not_true_eq_false, ite_true, ite_false, if_true, if_false, ck_p z_0, ck_p z_1, k0, k1, k4, k3', e1]
  by_cases c1 : z < 0
  · rw [if_pos c1, ck_p ⟨hz, hu⟩]
  · rw [if_neg c1, if_neg (by omega), ck_p ⟨hz, hu⟩]

