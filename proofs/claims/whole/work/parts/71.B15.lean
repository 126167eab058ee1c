
/-! ===== the class leaves the model, the model leaves the class ===== -/
theorem mdk_kinds {h : AH} {m : Nat} (hK : MdK h m) : ∀ q, m ≤ q → q ≤ m + 28 → aK h q = 13 ∨ aK h q = 20 ∨ aK h q = 22 := by
  intro q h1 h2
  rcases (show q = m ∨ q = m + 1 ∨ q = m + 2 ∨ q = m + 3 ∨ q = m + 4 ∨ q = m + 5 ∨ q = m + 6 ∨ q = m + 7 ∨ q = m + 8 ∨ q = m + 9 ∨ q = m + 10 ∨ q = m + 11 ∨ q = m + 12 ∨ q = m + 13 ∨ q = m + 14 ∨ q = m + 15 ∨ q = m + 16 ∨ q = m + 17 ∨ q = m + 18 ∨ q = m + 19 ∨ q = m + 20 ∨ q = m + 21 ∨ q = m + 22 ∨ q = m + 23 ∨ q = m + 24 ∨ q = m + 25 ∨ q = m + 26 ∨ q = m + 27 ∨ q = m + 28 by omega) with e | e | e | e | e | e | e | e | e | e | e | e | e | e | e | e | e | e | e | e | e | e | e | e | e | e | e | e | e <;> (rw [e]; simp only [mdk hK, true_or, or_true])
theorem mdR_eq {h h' : AH} {m : Nat} {S : Cs} (hR : MdR h m S) (hK : MdK h' m) (hI : ∀ k, k ≤ 28 → aI h' (m + k) = aI h (m + k)) : MdR h' m S := by
  have i0 : aI h' m = aI h m := hI 0 (by omega)
  have i1 := hI 1 (by omega)
  have i2 := hI 2 (by omega)
  have i3 := hI 3 (by omega)
  have i4 := hI 4 (by omega)
  have i5 := hI 5 (by omega)
  have i6 := hI 6 (by omega)
  have i7 := hI 7 (by omega)
  have i8 := hI 8 (by omega)
  have i9 := hI 9 (by omega)
  have i10 := hI 10 (by omega)
  have i11 := hI 11 (by omega)
  have i12 := hI 12 (by omega)
  have i13 := hI 13 (by omega)
  have i14 := hI 14 (by omega)
  have i15 := hI 15 (by omega)
  have i16 := hI 16 (by omega)
  have i17 := hI 17 (by omega)
  have i18 := hI 18 (by omega)
  have i19 := hI 19 (by omega)
  have i20 := hI 20 (by omega)
  have i21 := hI 21 (by omega)
  have i22 := hI 22 (by omega)
  have i23 := hI 23 (by omega)
  have i24 := hI 24 (by omega)
  have i25 := hI 25 (by omega)
  have i26 := hI 26 (by omega)
  have i27 := hI 27 (by omega)
  have i28 := hI 28 (by omega)
  obtain ⟨r1, r2, r3, r4, ss, s1, s2, s3, s4⟩ := hR
  refine ⟨hK, fun t ht => ?_, fun a ha => ?_, ?_, ss, ?_, s2, s3, s4⟩
  · have := r2 t ht
    unfold MTx MRw MCu MSv at this ⊢
    rw [i4, i1, i2, i3, i6, i5, i23, i24, i25, i26]; exact this
  · have := r3 a ha
    unfold MHd at this ⊢
    rw [i8, i9, i7]; exact this
  · refine ⟨by rw [i0]; exact r4.1, fun f F hf => ?_⟩
    have := r4.2 f F hf
    unfold MFm at this ⊢
    rw [i10, i11, i12, i13, i15]
    refine ⟨this.1, this.2.1, this.2.2.1, this.2.2.2.1, this.2.2.2.2.1, fun k hk => ⟨?_, (this.2.2.2.2.2 k hk).2⟩⟩
    have z := (this.2.2.2.2.2 k hk).1
    unfold MCh at z ⊢
    rw [i14, i16, i17, i18]; exact z
  · unfold MSs at s1 ⊢
    rw [i0, i19, i20, i21, i22]; exact s1
theorem mdK_pr {S : Nat → Prop} {h h' : AH} {m : Nat} (hK : MdK h m) (p : Prs S h h') (hs : ¬ S m) : MdK h' m := by
  have hz := hK.2
  have z1 := p.1
  have k := fun j (hj : j ≤ 28) => pr_K p (q := m + j) (by omega)
  have n := fun j (hj : j ≤ 28) => pr_N p (q := m + j) (by omega)
  have r := pr_R p (q := m) (by omega) hs
  have hz2 : m + 28 < aZ h' := by omega
  have k0 : aK h' m = aK h m := k 0 (by decide)
  have k1 : aK h' (m + 1) = aK h (m + 1) := k 1 (by decide)
  have n1 : aN h' (m + 1) = aN h (m + 1) := n 1 (by decide)
  have k2 : aK h' (m + 2) = aK h (m + 2) := k 2 (by decide)
  have n2 : aN h' (m + 2) = aN h (m + 2) := n 2 (by decide)
  have k3 : aK h' (m + 3) = aK h (m + 3) := k 3 (by decide)
  have n3 : aN h' (m + 3) = aN h (m + 3) := n 3 (by decide)
  have k4 : aK h' (m + 4) = aK h (m + 4) := k 4 (by decide)
  have n4 : aN h' (m + 4) = aN h (m + 4) := n 4 (by decide)
  have k5 : aK h' (m + 5) = aK h (m + 5) := k 5 (by decide)
  have n5 : aN h' (m + 5) = aN h (m + 5) := n 5 (by decide)
  have k6 : aK h' (m + 6) = aK h (m + 6) := k 6 (by decide)
  have n6 : aN h' (m + 6) = aN h (m + 6) := n 6 (by decide)
  have k7 : aK h' (m + 7) = aK h (m + 7) := k 7 (by decide)
  have n7 : aN h' (m + 7) = aN h (m + 7) := n 7 (by decide)
  have k8 : aK h' (m + 8) = aK h (m + 8) := k 8 (by decide)
  have n8 : aN h' (m + 8) = aN h (m + 8) := n 8 (by decide)
  have k9 : aK h' (m + 9) = aK h (m + 9) := k 9 (by decide)
  have n9 : aN h' (m + 9) = aN h (m + 9) := n 9 (by decide)
  have k10 : aK h' (m + 10) = aK h (m + 10) := k 10 (by decide)
  have n10 : aN h' (m + 10) = aN h (m + 10) := n 10 (by decide)
  have k11 : aK h' (m + 11) = aK h (m + 11) := k 11 (by decide)
  have n11 : aN h' (m + 11) = aN h (m + 11) := n 11 (by decide)
  have k12 : aK h' (m + 12) = aK h (m + 12) := k 12 (by decide)
  have n12 : aN h' (m + 12) = aN h (m + 12) := n 12 (by decide)
  have k13 : aK h' (m + 13) = aK h (m + 13) := k 13 (by decide)
  have n13 : aN h' (m + 13) = aN h (m + 13) := n 13 (by decide)
  have k14 : aK h' (m + 14) = aK h (m + 14) := k 14 (by decide)
  have n14 : aN h' (m + 14) = aN h (m + 14) := n 14 (by decide)
  have k15 : aK h' (m + 15) = aK h (m + 15) := k 15 (by decide)
  have n15 : aN h' (m + 15) = aN h (m + 15) := n 15 (by decide)
  have k16 : aK h' (m + 16) = aK h (m + 16) := k 16 (by decide)
  have n16 : aN h' (m + 16) = aN h (m + 16) := n 16 (by decide)
  have k17 : aK h' (m + 17) = aK h (m + 17) := k 17 (by decide)
  have n17 : aN h' (m + 17) = aN h (m + 17) := n 17 (by decide)
  have k18 : aK h' (m + 18) = aK h (m + 18) := k 18 (by decide)
  have n18 : aN h' (m + 18) = aN h (m + 18) := n 18 (by decide)
  have k19 : aK h' (m + 19) = aK h (m + 19) := k 19 (by decide)
  have n19 : aN h' (m + 19) = aN h (m + 19) := n 19 (by decide)
  have k20 : aK h' (m + 20) = aK h (m + 20) := k 20 (by decide)
  have n20 : aN h' (m + 20) = aN h (m + 20) := n 20 (by decide)
  have k21 : aK h' (m + 21) = aK h (m + 21) := k 21 (by decide)
  have n21 : aN h' (m + 21) = aN h (m + 21) := n 21 (by decide)
  have k22 : aK h' (m + 22) = aK h (m + 22) := k 22 (by decide)
  have n22 : aN h' (m + 22) = aN h (m + 22) := n 22 (by decide)
  have k23 : aK h' (m + 23) = aK h (m + 23) := k 23 (by decide)
  have n23 : aN h' (m + 23) = aN h (m + 23) := n 23 (by decide)
  have k24 : aK h' (m + 24) = aK h (m + 24) := k 24 (by decide)
  have n24 : aN h' (m + 24) = aN h (m + 24) := n 24 (by decide)
  have k25 : aK h' (m + 25) = aK h (m + 25) := k 25 (by decide)
  have n25 : aN h' (m + 25) = aN h (m + 25) := n 25 (by decide)
  have k26 : aK h' (m + 26) = aK h (m + 26) := k 26 (by decide)
  have n26 : aN h' (m + 26) = aN h (m + 26) := n 26 (by decide)
  have k27 : aK h' (m + 27) = aK h (m + 27) := k 27 (by decide)
  have n27 : aN h' (m + 27) = aN h (m + 27) := n 27 (by decide)
  have k28 : aK h' (m + 28) = aK h (m + 28) := k 28 (by decide)
  have n28 : aN h' (m + 28) = aN h (m + 28) := n 28 (by decide)
  have hc := hK.1
  refine ⟨?_, hz2⟩
  simp only [k0, r, k1, n1, k2, n2, k3, n3, k4, n4, k5, n5, k6, n6, k7, n7, k8, n8, k9, n9, k10, n10, k11, n11, k12, n12, k13, n13, k14, n14, k15, n15, k16, n16, k17, n17, k18, n18, k19, n19, k20, n20, k21, n21, k22, n22, k23, n23, k24, n24, k25, n25, k26, n26, k27, n27, k28, n28]
  exact hc
theorem cS_md {h : AH} {c : Nat} (hK : MdK h (c + 59)) : ∀ q, c + 59 ≤ q → q ≤ c + 87 → ¬ cS c h q := by
  intro q h1 h2 z
  have := mdk_kinds hK q h1 (by omega)
  have := hK.2
  unfold cS at z
  omega
theorem md_cls {h h' : AH} {c : Nat} {S : Cs} (hR : MdR h (c + 59) S) (p : Prs (cS c h) h h') : MdR h' (c + 59) S := by
  have hz := hR.1.2
  exact mdR_eq hR (mdK_pr hR.1 p (cS_md hR.1 _ (by omega) (by omega))) fun k hk => pr_I p (by omega) (cS_md hR.1 _ (by omega) (by omega))
theorem ck_mod {h h' : AH} {c : Nat} {S : Cs} (hC : CkR h c S) (hM : MdK h (c + 59)) (x : Pw (mdW (c + 59)) h h') : CkR h' c S := by
  have hC' := hC
  obtain ⟨hK, hW, hP, hN, hX, hH, hF, hs1, hs2, hf1, hq1, hfp⟩ := hC
  have hz := hK.2.2.2.2.2.2.2.2.2.2.2.2.2.2
  have pi : Pi (fun q => c + 59 ≤ q ∧ q ≤ c + 87) h h' := pw_pi x fun q j w => by unfold mdW at w; omega
  have p := pi_pr pi
  have kd : ∀ q, (c + 59 ≤ q ∧ q ≤ c + 87) → aK h q = 13 ∨ aK h q = 20 ∨ aK h q = 22 := fun q z => mdk_kinds hM q z.1 (by omega)
  have st : ∀ q, q ≤ c + 58 → ¬ (c + 59 ≤ q ∧ q ≤ c + 87) := fun q z1 z => by omega
  have ar : ∀ l2 ys, LsR h l2 ys → ¬ (c + 59 ≤ aR h l2 1 ∧ aR h l2 1 ≤ c + 87) := fun l2 ys z1 z => by
    have := kd _ z
    have := z1.2.2.2.2.1; omega
  refine ⟨fr_K hC' p (st _ (by omega)) (st _ (by omega)) (st _ (by omega)), wf_pi hW pi, plK_pr hP p (st _ (by omega)), nbK_pr hN p (st _ (by omega)), fun i hi => ?_, fun j hj => ?_, ?_, ?_, hs2, hf1, hq1, hfp⟩
  · have ei : tcc c i = c + 13 + 12 * i := rfl
    obtain ⟨ds2, m1, m2⟩ := (hX i hi).2.2.2.1
    exact txR_pr (hX i hi) p (fun q z1 z2 => st q (by omega)) (ar _ _ m1) (fun q z => by have := kd q z; omega)
  · have ej : hcc c j = c + 49 + 2 * j := rfl
    obtain ⟨-, -, -, -, -, -, -, ys, m1, -⟩ := hH j hj
    exact hd_pr (hH j hj) p (st _ (by omega)) (st _ (by omega)) (ar _ _ m1) (fun q z => by have := kd q z; omega)
  · exact fr_F hC' p rfl rfl (st _ (by omega)) (st _ (by omega)) (fun l2 ys z1 _ => ar l2 ys z1) (fun q z1 z2 z3 z => by omega) (fun q y z => by have := kd q z; omega)
  · rw [pr_I p (by omega) (st _ (by omega))]; exact hs1
/-- the law's long -/
theorem ck_uL {h : AH} {c a k : Nat} {v : Int64} {S : Cs} (hC : CkR h c S) : CkR (uL h a k v) c S := hC
theorem md_uL {h : AH} {m a k : Nat} {v : Int64} {S : Cs} (hR : MdR h m S) : MdR (uL h a k v) m S := hR

