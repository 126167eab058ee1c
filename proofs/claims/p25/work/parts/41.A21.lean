
/-! ===== the whole object: its cells lie in a row from c on; what comes later lies behind c + 62 ===== -/
def tcc (c i : Nat) : Nat := c + 13 + 12 * i
def hcc (c j : Nat) : Nat := c + 49 + 2 * j
/-- a save: its number, its hand, its text, its format (-1: none) -/
abbrev Sv : Type := Nat × Nat × Nat × Int
def SvR (c : Nat) (fs : List Nat) (h : AH) (x : Nat) (s : Sv) : Prop := x ≠ 0 ∧ x < aZ h ∧ aK h x = 10 ∧ aI h x 0 = iI s.1 ∧ aI h x 2 = iI s.2.1 ∧ aR h x 1 = tcc c s.2.2.1 ∧ aR h x 3 = (if s.2.2.2 < 0 then 0 else fs.getD s.2.2.2.toNat 0) ∧ s.1 < 60 ∧ s.2.1 < 5 ∧ s.2.2.1 < 3 ∧ -1 ≤ s.2.2.2 ∧ s.2.2.2 < fs.length
abbrev Cs : Type := (Nat → Tx) × (Nat → Hd) × List Fm × List Sv × Nat
def cX (S : Cs) : Nat → Tx := S.1
def cH (S : Cs) : Nat → Hd := S.2.1
def cF (S : Cs) : List Fm := S.2.2.1
def cQ (S : Cs) : List Sv := S.2.2.2.1
def cN (S : Cs) : Nat := S.2.2.2.2
def CkK (h : AH) (c : Nat) : Prop := (c = 0) = False ∧ aK h c = 12 ∧ aR h c 0 = c + 1 ∧ aR h c 1 = c + 2 ∧ aR h c 2 = c + 3 ∧ aR h c 3 = c + 4 ∧ aR h c 4 = c + 5 ∧ aR h c 5 = c + 9 ∧ aK h (c + 1) = 24 ∧ aN h (c + 1) = 3 ∧ (∀ i, i < 3 → aR h (c + 1) i = tcc c i) ∧ aK h (c + 2) = 25 ∧ aN h (c + 2) = 5 ∧ (∀ j, j < 5 → aR h (c + 2) j = hcc c j) ∧ c + 62 < aZ h
def FmP (S : Cs) (F : Fm) : Prop := fT F < 3 ∧ 0 ≤ fS F ∧ fS F ≤ 2 ∧ 0 ≤ fW F ∧ fW F ≤ 150 ∧ ∀ k ∈ fC F, k.1.1 < rn (xR (cX S (fT F)))
def CkF (h : AH) (c : Nat) (S : Cs) : Prop := ∃ fs qs, LsR h (c + 3) fs ∧ Al (FmR (tcc c) h) fs (cF S) ∧ (∀ f ∈ fs, c + 62 < aR h f 1) ∧ ndp fs ∧ LsR h (c + 4) qs ∧ Al (SvR c fs h) qs (cQ S) ∧ ndp qs ∧ lc h (c + 3) ≤ 98 ∧ lc h (c + 4) ≤ 98
def CkR (h : AH) (c : Nat) (S : Cs) : Prop := CkK h c ∧ Wf h ∧ PlK h (c + 5) ∧ NbK h (c + 9) ∧ (∀ i, i < 3 → TxR h (tcc c i) i (cX S i)) ∧ (∀ j, j < 5 → HdR (tcc c) h (hcc c j) (cH S j)) ∧ CkF h c S ∧ aI h c 6 = iI (cN S) ∧ cN S ≤ 60 ∧ (cF S).length ≤ 60 ∧ (cQ S).length ≤ 60 ∧ (∀ F ∈ cF S, FmP S F)
theorem ck_kinds {h : AH} {c : Nat} {S : Cs} (hC : CkR h c S) : ∀ q, c ≤ q → q ≤ c + 58 → aK h q = 12 ∨ aK h q = 24 ∨ aK h q = 25 ∨ aK h q = 1 ∨ aK h q = 8 ∨ aK h q = 20 ∨ aK h q = 21 ∨ aK h q = 7 ∨ aK h q = 22 ∨ aK h q = 11 ∨ aK h q = 9 ∨ aK h q = 6 := by
  obtain ⟨hK, hW, hP, hN, hX, hH, ⟨fs, qs, f1, f2, f3, f4, f5, f6, f7⟩, -⟩ := hC
  intro q z1 z2
  have w := hK.2.1
  have w1 := hK.2.2.2.2.2.2.2.2.1
  have w2 := hK.2.2.2.2.2.2.2.2.2.2.2.1
  have w3 := f1.2.1
  have w4 := f5.2.1
  obtain ⟨-, p0, -, -, -, p1, -, p2, -, p3, -, -⟩ := hP
  obtain ⟨-, n0, -, -, -, n1, -, n2, -, n3, -, -⟩ := hN
  by_cases c1 : q < c + 13
  · rcases (show q = c ∨ q = c + 1 ∨ q = c + 2 ∨ q = c + 3 ∨ q = c + 4 ∨ q = c + 5 ∨ q = c + 5 + 1 ∨ q = c + 5 + 2 ∨ q = c + 5 + 3 ∨ q = c + 9 ∨ q = c + 9 + 1 ∨ q = c + 9 + 2 ∨ q = c + 9 + 3 by omega) with e | e | e | e | e | e | e | e | e | e | e | e | e <;> rw [e] <;> omega
  · by_cases c2 : q < c + 49
    · have hi : (q - (c + 13)) / 12 < 3 := by omega
      have := tx_kinds (hX _ hi) q (by unfold tcc; omega) (by unfold tcc; omega)
      omega
    · have hj : (q - (c + 49)) / 2 < 5 := by omega
      obtain ⟨-, k0, -, -, -, -, -, xs, l1, -⟩ := hH _ hj
      have kl := l1.2.1
      unfold hcc at k0 kl
      rcases (show q = c + 49 + 2 * ((q - (c + 49)) / 2) ∨ q = c + 49 + 2 * ((q - (c + 49)) / 2) + 1 by omega) with e | e
      · rw [← e] at k0; omega
      · rw [← e] at kl; omega
/-- a step within lo .. hi, and the array of the list l there -/
def rgS (h : AH) (lo hi l q : Nat) : Prop := (lo ≤ q ∧ q ≤ hi) ∨ (q = aR h l 1 ∧ q ≠ aE h)
section FR
variable {h h' : AH} {c lo hi l : Nat} {S : Cs} {xs : List Nat}
theorem rg_kinds (hC : CkR h c S) (h1 : c ≤ lo) (h2 : hi ≤ c + 58) (hl : LsR h l xs) : ∀ q, rgS h lo hi l q → aK h q ≠ 2 ∧ aK h q ≠ 3 ∧ aK h q ≠ 4 ∧ aK h q ≠ 5 ∧ aK h q ≠ 10 := by
  intro q z
  rcases z with z | z
  · have := ck_kinds hC q (by omega) (by omega); omega
  · have := hl.2.2.2.2.1; rw [z.1]; omega
theorem rg_stat (hC : CkR h c S) (hl : LsR h l xs) {q : Nat} (h3 : c ≤ q) (h4 : q ≤ c + 58) (h5 : q < lo ∨ hi < q) : ¬ rgS h lo hi l q := by
  rintro (z | z)
  · omega
  · have := ck_kinds hC q h3 h4
    have := hl.2.2.2.2.1
    rw [← z.1] at this; omega
theorem rg_arr (hC : CkR h c S) (h1 : c ≤ lo) (h2 : hi ≤ c + 58) (hl : LsR h l xs) {l2 : Nat} {ys : List Nat} (hl2 : LsR h l2 ys) (hne : l2 ≠ l) : ¬ rgS h lo hi l (aR h l2 1) := by
  have k26 := hl2.2.2.2.2.1
  rintro (z | z)
  · have := ck_kinds hC _ (Nat.le_trans h1 z.1) (Nat.le_trans z.2 h2); omega
  · rcases hC.2.1.2.2.1 l2 l hl2.2.1 hl.2.1 z.1 with w | w
    · exact hne w
    · exact z.2 w
theorem fr_K {Sw : Nat → Prop} (hC : CkR h c S) (p : Prs Sw h h') (s0 : ¬ Sw c) (s1 : ¬ Sw (c + 1)) (s2 : ¬ Sw (c + 2)) : CkK h' c := by
  obtain ⟨a0, a1, a2, a3, a4, a5, a6, a7, a8, a9, a10, a11, a12, a13, a14⟩ := hC.1
  have := p.1
  unfold CkK
  rw [pr_K p (q := c) (by omega), pr_R p (q := c) (by omega) s0, pr_K p (q := c + 1) (by omega), pr_N p (q := c + 1) (by omega), pr_R p (q := c + 1) (by omega) s1, pr_K p (q := c + 2) (by omega), pr_N p (q := c + 2) (by omega), pr_R p (q := c + 2) (by omega) s2]
  exact ⟨a0, a1, a2, a3, a4, a5, a6, a7, a8, a9, a10, a11, a12, a13, by omega⟩
/-- the formats and the queue, where neither list is written -/
theorem fr_F {Sw : Nat → Prop} {S' : Cs} (hC : CkR h c S) (p : Prs Sw h h') (eF : cF S' = cF S) (eQ : cQ S' = cQ S) (n3 : ¬ Sw (c + 3)) (n4 : ¬ Sw (c + 4)) (na : ∀ l2 ys, LsR h l2 ys → l2 = c + 3 ∨ l2 = c + 4 ∨ c + 62 < l2 → ¬ Sw (aR h l2 1)) (nd : ∀ q, c + 62 < q → q < aZ h → aK h q = 1 → ¬ Sw q) (nk : ∀ q, q < aZ h → Sw q → aK h q ≠ 3 ∧ aK h q ≠ 5 ∧ aK h q ≠ 10) : CkF h' c S' := by
  obtain ⟨fs, qs, f1, f2, f3, f4, f5, f6, f7⟩ := hC.2.2.2.2.2.2.1
  have fm : ∀ x F, x ∈ fs → FmR (tcc c) h x F → FmR (tcc c) h' x F ∧ aR h' x = aR h x := by
    intro x F hx hF
    have hF' := hF
    obtain ⟨a1, a2, a3, a4, a5, a6, a7, a8, ys, l1, l2, l3⟩ := hF
    have s1 : ¬ Sw x := fun z => (nk x a2 z).2.1 a3
    have hd := f3 x hx
    refine ⟨?_, pr_R p a2 s1⟩
    unfold FmR
    have := p.1
    rw [pr_K p a2, pr_I p a2 s1, pr_R p a2 s1]
    exact ⟨a1, by omega, a3, a4, a5, a6, a7, a8, ys, ls_pr l1 p (nd _ hd l1.2.2.1 l1.2.1) (na _ _ l1 (Or.inr (Or.inr hd))), al_mono l2 fun y k _ z => ch_pr z p (fun w => (nk y z.2.1 w).1 z.2.2.1), l3⟩
  have fobk : ∀ x ∈ fs, x < aZ h ∧ aK h x = 5 := by
    intro x hx
    obtain ⟨i, hi, e⟩ := List.getElem_of_mem hx
    have := f2.2 i _ (List.getElem?_eq_getElem (by rw [← f2.1]; exact hi))
    rw [List.getD_eq_getElem?_getD, List.getElem?_eq_getElem hi] at this
    rw [← e]
    exact ⟨this.2.1, this.2.2.1⟩
  have sv : ∀ x s, SvR c fs h x s → SvR c fs h' x s := by
    intro x s z
    obtain ⟨a1, a2, a3, a4⟩ := z
    have s1 : ¬ Sw x := fun z => (nk x a2 z).2.2 a3
    have := p.1
    unfold SvR
    rw [pr_K p a2, pr_I p a2 s1, pr_R p a2 s1]
    exact ⟨a1, by omega, a3, a4⟩
  refine ⟨fs, qs, ls_pr f1 p n3 (na _ _ f1 (Or.inl rfl)), by rw [eF]; exact al_mono f2 fun x F hx z => (fm x F hx z).1, fun f hf => ?_, f4, ls_pr f5 p n4 (na _ _ f5 (Or.inr (Or.inl rfl))), by rw [eQ]; exact al_mono f6 fun x s _ z => sv x s z, f7.1, by rw [lc_pr f1 p n3]; exact f7.2.1, by rw [lc_pr f5 p n4]; exact f7.2.2⟩
  · rw [pr_R p (fobk f hf).1 (fun z => (nk f (fobk f hf).1 z).2.1 (fobk f hf).2)]
    exact f3 f hf
/-- a text's own step -/
def cset {α : Type} (f : Nat → α) (i : Nat) (v : α) : Nat → α := fun j => if j = i then v else f j
theorem ck_txG {i : Nat} {T : Tx} (hC : CkR h c S) (hi : i < 3) (x1 : TxR h' (tcc c i) i T) (x2 : Wf h') (x3 : Prs (fun q => tS h (tcc c i) q ∨ aZ h ≤ q) h h') (hn : rn (xR (cX S i)) ≤ rn (xR T)) : CkR h' c (cset (cX S) i T, cH S, cF S, cQ S, cN S) := by
  have hC' := hC
  obtain ⟨hK, hW, hP, hN, hX, hH, hF, hs, hs2, hf1, hq1, hfp⟩ := hC
  obtain ⟨ds, l1, l2⟩ := (hX i hi).2.2.2.1
  have e1 : ∀ q, tS h (tcc c i) q → rgS h (tcc c i) (tcc c i + 11) (tcc c i + 10) q := by
    rintro q (z | z | z)
    · exact Or.inl z
    · exact Or.inl (by omega)
    · exact Or.inr z
  have p := pr_mono (S2 := rgS h (tcc c i) (tcc c i + 11) (tcc c i + 10)) x3 fun q y z => z.elim (fun z => e1 q z) (fun z => absurd z (by omega))
  have et : tcc c i = c + 13 + 12 * i := rfl
  have nk := rg_kinds hC' (lo := tcc c i) (hi := tcc c i + 11) (by omega) (by omega) l1
  have st : ∀ q, c ≤ q → q ≤ c + 58 → (q < tcc c i ∨ tcc c i + 11 < q) → ¬ rgS h (tcc c i) (tcc c i + 11) (tcc c i + 10) q := fun q z1 z2 z3 => rg_stat hC' l1 z1 z2 z3
  have ar : ∀ l2 ys, LsR h l2 ys → l2 ≠ tcc c i + 10 → ¬ rgS h (tcc c i) (tcc c i + 11) (tcc c i + 10) (aR h l2 1) := fun l2 ys z1 z2 => rg_arr hC' (by omega) (by omega) l1 z1 z2
  refine ⟨fr_K hC' p (st _ (by omega) (by omega) (by omega)) (st _ (by omega) (by omega) (by omega)) (st _ (by omega) (by omega) (by omega)), x2, plK_pr hP p (st _ (by omega) (by omega) (by omega)), nbK_pr hN p (st _ (by omega) (by omega) (by omega)), fun j hj => ?_, fun j hj => ?_, ?_, ?_, hs2, hf1, hq1, fun F hF2 => ?_⟩
  · show TxR h' (tcc c j) j (if j = i then T else cX S j)
    by_cases d : j = i
    · rw [if_pos d, d]; exact x1
    · rw [if_neg d]
      have ej : tcc c j = c + 13 + 12 * j := rfl
      obtain ⟨ds2, m1, m2⟩ := (hX j hj).2.2.2.1
      exact txR_pr (hX j hj) p (fun q z1 z2 => st q (by omega) (by omega) (by omega)) (ar _ _ m1 (by omega)) (fun q z => (nk q z).2.2.1)
  · have ej : hcc c j = c + 49 + 2 * j := rfl
    obtain ⟨-, -, -, -, -, -, -, ys, m1, -⟩ := hH j hj
    exact hd_pr (hH j hj) p (st _ (by omega) (by omega) (by omega)) (st _ (by omega) (by omega) (by omega)) (ar _ _ m1 (by omega)) (fun q z => (nk q z).1)
  · refine fr_F hC' p rfl rfl (st _ (by omega) (by omega) (by omega)) (st _ (by omega) (by omega) (by omega)) (fun l2 ys z1 z2 => ar l2 ys z1 (by omega)) (fun q z1 z2 z3 z => ?_) (fun q _ z => ⟨(nk q z).2.1, (nk q z).2.2.2.1, (nk q z).2.2.2.2⟩)
    rcases z with z | z
    · omega
    · have := l1.2.2.2.2.1; rw [← z.1] at this; omega
  · rw [pr_I p (by have := hK.2.2.2.2.2.2.2.2.2.2.2.2.2.2; omega) (st _ (by omega) (by omega) (by omega))]; exact hs
  · obtain ⟨q1, q2, q3, q4, q5, q6⟩ := hfp F hF2
    refine ⟨q1, q2, q3, q4, q5, fun k hk => ?_⟩
    have := q6 k hk
    show k.1.1 < rn (xR (if fT F = i then T else cX S (fT F)))
    by_cases d : fT F = i
    · rw [if_pos d]; rw [d] at this; omega
    · rw [if_neg d]; exact this
theorem ck_tx {i a b : Nat} {T : Tx} (hC : CkR h c S) (hi : i < 3) (x : Tst h (tcc c i) i a b T h') (hn : rn (xR (cX S i)) ≤ rn (xR T)) : CkR h' c (cset (cX S) i T, cH S, cF S, cQ S, cN S) := ck_txG hC hi x.1 x.2.1 (pr_mono x.2.2.1 fun q _ z => Or.inl z) hn
theorem ck_hd {j a b : Nat} {A : Hd} (hC : CkR h c S) (hj : j < 5) (x : Hst (tcc c) h (hcc c j) a b A h') : CkR h' c (cX S, cset (cH S) j A, cF S, cQ S, cN S) := by
  obtain ⟨x1, x2, x3, x4, x5, x6⟩ := x
  have hC' := hC
  obtain ⟨hK, hW, hP, hN, hX, hH, hF, hs, hs2, hf1, hq1, hfp⟩ := hC
  obtain ⟨-, -, -, -, -, -, -, xs, l1, -⟩ := hH j hj
  have e1 : ∀ q, hS h (hcc c j) q → rgS h (hcc c j) (hcc c j + 1) (hcc c j + 1) q := by
    rintro q (z | z | z)
    · exact Or.inl (by omega)
    · exact Or.inl (by omega)
    · exact Or.inr z
  have p := pr_mono (S2 := rgS h (hcc c j) (hcc c j + 1) (hcc c j + 1)) x3 fun q _ z => e1 q z
  have et : hcc c j = c + 49 + 2 * j := rfl
  have nk := rg_kinds hC' (lo := hcc c j) (hi := hcc c j + 1) (by omega) (by omega) l1
  have st : ∀ q, c ≤ q → q ≤ c + 58 → (q < hcc c j ∨ hcc c j + 1 < q) → ¬ rgS h (hcc c j) (hcc c j + 1) (hcc c j + 1) q := fun q z1 z2 z3 => rg_stat hC' l1 z1 z2 z3
  have ar : ∀ l2 ys, LsR h l2 ys → l2 ≠ hcc c j + 1 → ¬ rgS h (hcc c j) (hcc c j + 1) (hcc c j + 1) (aR h l2 1) := fun l2 ys z1 z2 => rg_arr hC' (by omega) (by omega) l1 z1 z2
  refine ⟨fr_K hC' p (st _ (by omega) (by omega) (by omega)) (st _ (by omega) (by omega) (by omega)) (st _ (by omega) (by omega) (by omega)), x2, plK_pr hP p (st _ (by omega) (by omega) (by omega)), nbK_pr hN p (st _ (by omega) (by omega) (by omega)), fun i hi => ?_, fun k hk => ?_, ?_, ?_, hs2, hf1, hq1, hfp⟩
  · have ei : tcc c i = c + 13 + 12 * i := rfl
    obtain ⟨ds2, m1, m2⟩ := (hX i hi).2.2.2.1
    exact txR_pr (hX i hi) p (fun q z1 z2 => st q (by omega) (by omega) (by omega)) (ar _ _ m1 (by omega)) (fun q z => (nk q z).2.2.1)
  · show HdR (tcc c) h' (hcc c k) (if k = j then A else cH S k)
    by_cases d : k = j
    · rw [if_pos d, d]; exact x1
    · rw [if_neg d]
      have ek : hcc c k = c + 49 + 2 * k := rfl
      obtain ⟨-, -, -, -, -, -, -, ys, m1, -⟩ := hH k hk
      exact hd_pr (hH k hk) p (st _ (by omega) (by omega) (by omega)) (st _ (by omega) (by omega) (by omega)) (ar _ _ m1 (by omega)) (fun q z => (nk q z).1)
  · refine fr_F hC' p rfl rfl (st _ (by omega) (by omega) (by omega)) (st _ (by omega) (by omega) (by omega)) (fun l2 ys z1 z2 => ar l2 ys z1 (by omega)) (fun q z1 z2 z3 z => ?_) (fun q _ z => ⟨(nk q z).2.1, (nk q z).2.2.2.1, (nk q z).2.2.2.2⟩)
    rcases z with z | z
    · omega
    · have := l1.2.2.2.2.1; rw [← z.1] at this; omega
  · rw [pr_I p (by have := hK.2.2.2.2.2.2.2.2.2.2.2.2.2.2; omega) (st _ (by omega) (by omega) (by omega))]; exact hs
/-- what is new, or of the neighbours' arrays -/
theorem ck_gen {Sw : Nat → Prop} (hC : CkR h c S) (hw : Wf h') (p : Prs Sw h h') (hs : ∀ q, Sw q → (c + 9 < q ∧ q ≤ c + 12) ∨ aZ h ≤ q) : CkR h' c S := by
  have hC' := hC
  obtain ⟨hK, hW, hP, hN, hX, hH, hF, hs1, hs2, hf1, hq1, hfp⟩ := hC
  have hz := hK.2.2.2.2.2.2.2.2.2.2.2.2.2.2
  have st : ∀ q, q < aZ h → (q ≤ c + 9 ∨ c + 12 < q) → ¬ Sw q := fun q z1 z2 z => by have := hs q z; omega
  have kd : ∀ q, q < aZ h → Sw q → aK h q = 20 ∨ aK h q = 22 := by
    intro q z1 z
    have := hs q z
    obtain ⟨-, n0, -, -, -, n1, -, n2, -, n3, -, -⟩ := hN
    rcases (show q = c + 9 + 1 ∨ q = c + 9 + 2 ∨ q = c + 9 + 3 by omega) with e | e | e <;> rw [e] <;> omega
  have ar : ∀ l2 ys, LsR h l2 ys → ¬ Sw (aR h l2 1) := fun l2 ys z1 z => by
    have := kd _ z1.2.2.2.2.2.2.1 z
    have := z1.2.2.2.2.1; omega
  have k0 : ∀ q k, k ≠ 20 → k ≠ 22 → k ≠ 0 → Sw q → aK h q ≠ k := by
    intro q k k1 k2 k3 z
    rcases Nat.lt_or_ge q (aZ h) with y | y
    · have := kd q y z; omega
    · rw [hW.2.1 q y]; omega
  refine ⟨fr_K hC' p (st _ (by omega) (by omega)) (st _ (by omega) (by omega)) (st _ (by omega) (by omega)), hw, plK_pr hP p (st _ (by omega) (by omega)), nbK_pr hN p (st _ (by omega) (by omega)), fun i hi => ?_, fun j hj => ?_, ?_, ?_, hs2, hf1, hq1, hfp⟩
  · have ei : tcc c i = c + 13 + 12 * i := rfl
    obtain ⟨ds2, m1, m2⟩ := (hX i hi).2.2.2.1
    exact txR_pr (hX i hi) p (fun q z1 z2 => st q (by omega) (by omega)) (ar _ _ m1) (fun q z => k0 q 4 (by decide) (by decide) (by decide) z)
  · have ej : hcc c j = c + 49 + 2 * j := rfl
    obtain ⟨-, -, -, -, -, -, -, ys, m1, -⟩ := hH j hj
    exact hd_pr (hH j hj) p (st _ (by omega) (by omega)) (st _ (by omega) (by omega)) (ar _ _ m1) (fun q z => k0 q 2 (by decide) (by decide) (by decide) z)
  · refine fr_F hC' p rfl rfl (st _ (by omega) (by omega)) (st _ (by omega) (by omega)) (fun l2 ys z1 _ => ar l2 ys z1) (fun q z1 z2 z3 => st q z2 (by omega)) (fun q y z => ⟨k0 q 3 (by decide) (by decide) (by decide) z, k0 q 5 (by decide) (by decide) (by decide) z, k0 q 10 (by decide) (by decide) (by decide) z⟩)
  · rw [pr_I p (by omega) (st _ (by omega) (by omega))]; exact hs1
/-- ints of the plan, of the neighbours, and which changes are spared -/
theorem ck_pi (hC : CkR h c S) (p : Pi (fun q => (c + 5 ≤ q ∧ q ≤ c + 12) ∨ aK h q = 3) h h') (hch : ∀ x j, aK h x = 3 → j ≠ 5 → aI h' x j = aI h x j) : CkR h' c S := by
  have hC' := hC
  obtain ⟨hK, hW, hP, hN, hX, hH, hF, hs1, hs2, hf1, hq1, hfp⟩ := hC
  have hz := hK.2.2.2.2.2.2.2.2.2.2.2.2.2.2
  have pp := pi_pr p
  have kd : ∀ q, ((c + 5 ≤ q ∧ q ≤ c + 12) ∨ aK h q = 3) → aK h q = 8 ∨ aK h q = 7 ∨ aK h q = 20 ∨ aK h q = 21 ∨ aK h q = 22 ∨ aK h q = 3 := by
    intro q z
    obtain ⟨-, n0, -, -, -, n1, -, n2, -, n3, -, -⟩ := hN
    obtain ⟨-, p0, -, -, -, p1, -, p2, -, p3, -, -⟩ := hP
    rcases z with z | z
    · rcases (show q = c + 5 ∨ q = c + 5 + 1 ∨ q = c + 5 + 2 ∨ q = c + 5 + 3 ∨ q = c + 9 ∨ q = c + 9 + 1 ∨ q = c + 9 + 2 ∨ q = c + 9 + 3 by omega) with e | e | e | e | e | e | e | e <;> rw [e] <;> omega
    · omega
  have st : ∀ q, aK h q ≠ 3 → (q < c + 5 ∨ c + 12 < q) → ¬ ((c + 5 ≤ q ∧ q ≤ c + 12) ∨ aK h q = 3) := fun q z1 z2 z => by omega
  have ar : ∀ l2 ys, LsR h l2 ys → ¬ ((c + 5 ≤ aR h l2 1 ∧ aR h l2 1 ≤ c + 12) ∨ aK h (aR h l2 1) = 3) := fun l2 ys z1 z => by
    have := kd _ z
    have := z1.2.2.2.2.1; omega
  refine ⟨?_, wf_pi hW p, plK_pi hP p, nbK_pi hN p, fun i hi => ?_, fun j hj => ?_, ?_, ?_, hs2, hf1, hq1, hfp⟩
  · unfold CkK at hK ⊢
    rw [p.1, p.2.1, p.2.2.1, p.2.2.2.2.1]
    exact hK
  · have ei : tcc c i = c + 13 + 12 * i := rfl
    obtain ⟨ds2, m1, m2⟩ := (hX i hi).2.2.2.1
    exact txR_pr (hX i hi) pp (fun q z1 z2 => st q (by have := tx_kinds (hX i hi) q z1 z2; omega) (by omega)) (ar _ _ m1) (fun q z => by have := kd q z; omega)
  · have ej : hcc c j = c + 49 + 2 * j := rfl
    obtain ⟨-, h0, -, -, -, -, -, ys, m1, -⟩ := hH j hj
    have kl := m1.2.1
    exact hd_pr (hH j hj) pp (st _ (by omega) (by omega)) (st _ (by omega) (by omega)) (ar _ _ m1) (fun q z => by have := kd q z; omega)
  · obtain ⟨fs, qs, f1, f2, f3, f4, f5, f6, f7⟩ := hF
    have k3 := f1.2.1
    have k4 := f5.2.1
    refine ⟨fs, qs, ls_pr f1 pp (st _ (by omega) (by omega)) (ar _ _ f1), al_mono f2 fun x F _ hF => ?_, fun f hf => by rw [p.2.2.1]; exact f3 f hf, f4, ls_pr f5 pp (st _ (by omega) (by omega)) (ar _ _ f5), al_mono f6 fun x s _ z => ?_, f7.1, by unfold lc; rw [p.2.2.1, p.2.1]; exact f7.2.1, by unfold lc; rw [p.2.2.1, p.2.1]; exact f7.2.2⟩
    · obtain ⟨a1, a2, a3, a4, a5, a6, a7, a8, ys, l1, l2, l3⟩ := hF
      have kl := l1.2.1
      have s1 : ¬ ((c + 5 ≤ x ∧ x ≤ c + 12) ∨ aK h x = 3) := fun z => by have := kd x z; omega
      refine ⟨a1, by rw [p.2.2.2.2.1]; exact a2, by rw [p.1]; exact a3, by rw [p.2.2.1]; exact a4, by rw [pi_I p s1]; exact a5, by rw [pi_I p s1]; exact a6, a7, a8, ys, ?_, al_mono l2 fun y k _ z => ?_, l3⟩
      · rw [p.2.2.1]
        exact ls_pr l1 pp (fun z => by have := kd _ z; omega) (ar _ _ l1)
      · obtain ⟨b1, b2, b3, b4, b5, b6, b7, b8⟩ := z
        unfold ChR
        rw [p.1, p.2.2.2.2.1, hch y 0 b3 (by decide), hch y 1 b3 (by decide), hch y 2 b3 (by decide), hch y 3 b3 (by decide), hch y 4 b3 (by decide)]
        exact ⟨b1, b2, b3, b4, b5, b6, b7, b8⟩
    · obtain ⟨a1, a2, a3, a4⟩ := z
      have s1 : ¬ ((c + 5 ≤ x ∧ x ≤ c + 12) ∨ aK h x = 3) := fun z => by have := kd x z; omega
      unfold SvR
      rw [p.1, p.2.2.2.2.1, pi_I p s1, p.2.2.1]
      exact ⟨a1, a2, a3, a4⟩
  · have k12 := hK.2.1
    rw [pi_I p (st _ (by omega) (by omega))]; exact hs1
end FR

