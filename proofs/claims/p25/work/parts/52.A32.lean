
/-- a list of the object's own grows by one: all else stays -/
theorem ck_addL {h h' : AH} {c l : Nat} {S : Cs} {ys : List Nat} (hC : CkR h c S) (hl : l = c + 3 ∨ l = c + 4) (l1 : LsR h l ys) (p : Prs (lS h l) h h') :
    CkK h' c ∧ PlK h' (c + 5) ∧ NbK h' (c + 9) ∧ (∀ i, i < 3 → TxR h' (tcc c i) i (cX S i)) ∧ (∀ j, j < 5 → HdR (tcc c) h' (hcc c j) (cH S j)) ∧ aI h' c 6 = iI (cN S) ∧ (∀ l2 zs, LsR h l2 zs → l2 ≠ l → (l2 ≤ c + 58 → c ≤ l2) → LsR h' l2 zs ∧ lc h' l2 = lc h l2) ∧ (∀ q, q < aZ h → aK h q ≠ 1 → aK h q ≠ 26 → aK h' q = aK h q ∧ aI h' q = aI h q ∧ aR h' q = aR h q) := by
  have hC' := hC
  obtain ⟨hK, hW, hP, hN, hX, hH, hF, hs, hs2, hf1, hq1, hfp⟩ := hC
  have e1 : ∀ q, lS h l q → rgS h l l l q := by
    rintro q (z | z)
    · exact Or.inl (by omega)
    · exact Or.inr z
  have p' := pr_mono (S2 := rgS h l l l) p fun q _ z => e1 q z
  have nk := rg_kinds hC' (lo := l) (hi := l) (by omega) (by omega) l1
  have st : ∀ q, c ≤ q → q ≤ c + 58 → q ≠ l → ¬ rgS h l l l q := fun q z1 z2 z3 => rg_stat hC' l1 z1 z2 (by omega)
  have ar : ∀ l2 zs, LsR h l2 zs → l2 ≠ l → ¬ rgS h l l l (aR h l2 1) := fun l2 zs z1 z2 => rg_arr hC' (by omega) (by omega) l1 z1 z2
  refine ⟨fr_K hC' p' (st _ (by omega) (by omega) (by omega)) (st _ (by omega) (by omega) (by omega)) (st _ (by omega) (by omega) (by omega)), plK_pr hP p' (st _ (by omega) (by omega) (by omega)), nbK_pr hN p' (st _ (by omega) (by omega) (by omega)), fun i hi => ?_, fun j hj => ?_, ?_, fun l2 zs m1 m2 _ => ?_, fun q z1 z2 z3 => ?_⟩
  · have ei : tcc c i = c + 13 + 12 * i := rfl
    obtain ⟨ds2, m1, m2⟩ := (hX i hi).2.2.2.1
    exact txR_pr (hX i hi) p' (fun q z1 z2 => st q (by omega) (by omega) (by omega)) (ar _ _ m1 (by omega)) (fun q z => (nk q z).2.2.1)
  · have ej : hcc c j = c + 49 + 2 * j := rfl
    obtain ⟨-, -, -, -, -, -, -, zs, m1, -⟩ := hH j hj
    exact hd_pr (hH j hj) p' (st _ (by omega) (by omega) (by omega)) (st _ (by omega) (by omega) (by omega)) (ar _ _ m1 (by omega)) (fun q z => (nk q z).1)
  · rw [pr_I p' (by have := hK.2.2.2.2.2.2.2.2.2.2.2.2.2.2; omega) (st _ (by omega) (by omega) (by omega))]; exact hs
  · have n1 : ¬ lS h l l2 := by
      rintro (z | z)
      · exact m2 z
      · have := l1.2.2.2.2.1; have := m1.2.1; rw [← z.1] at *; omega
    have n2 : ¬ lS h l (aR h l2 1) := fun z => ar _ _ m1 m2 (e1 _ z)
    exact ⟨ls_pr m1 p n1 n2, lc_pr m1 p n1⟩
  · have n1 : ¬ lS h l q := by
      rintro (z | z)
      · rw [z] at z2; exact z2 l1.2.1
      · rw [z.1] at z3; exact z3 l1.2.2.2.2.1
    exact ⟨pr_K p z1, pr_I p z1 n1, pr_R p z1 n1⟩

