
/-! ===== lists grow ===== -/
theorem f_newLength {h : AH} {c : Nat} (h1 : 10 ≤ c) (h2 : c ≤ 1200) : p_J8_newLength_cabcc (iI c) (iI 1) (iI ((c : Int) / 2)) h = some (iI ((c : Int) + c / 2), h) := by
  unfold p_J8_newLength_cabcc p_J8_newLength_cabcc_0
  rw [show (2147483639 : Int32) = iI 2147483639 from by decide +kernel]
  have e : (if iI 1 < iI ((c : Int) / 2) then iI ((c : Int) / 2) else iI 1) = iI ((c : Int) / 2) := if_pos (by rw [j_lt (by decide) (by decide) (by omega) (by omega)]; omega)
  rw [e]
  simp (disch := omega) only [ck_t, nm_q, bR_s, j_add, j_sub, j_mul, j_nI, j_0, j_le, j_lt, j_eq, j_nat, j_ixe, bI_0, and_self, and_true, true_and, ne_eq, not_false_eq_true, not_true_eq_false, ite_true, ite_false, if_true, if_false, ck_p z_0, ck_p z_1]
  rw [if_neg (by omega), if_neg (by omega)]
def grown (h : AH) (l k : Nat) : AH := uR (uN h 26 k) l 1 (aZ h)
theorem f_grow {h : AH} {l : Nat} {xs : List Nat} (hl : LsR h l xs) (hw : Wf h) (hfull : xs.length = aN h (aR h l 1)) (hn : xs.length ≤ 1173) (hz : aZ h + 1 ≤ aC h) (hu : aU h + 4 * (1761 - lc h l) ≤ gS) :
    Okp (p_Jx4a65c_grow_d5877 l h) (fun r g => r = aR g l 1 ∧ LsR g l xs ∧ Wf g ∧ Prs (fun q => q = l) h g ∧ aR g l 1 = aZ h ∧ xs.length < aN g (aR g l 1) ∧ aZ g = aZ h + 1 ∧ aU g + 4 * lc h l ≤ aU h + 4 * lc g l ∧ lc g l ≤ xs.length + xs.length / 2 + 10) := by
  have hl' := hl
  obtain ⟨a1, a2, a3, a4, a5, a6, a7, a8, a9, a10, a11, a12⟩ := hl
  have hcl : aR h l 1 ≠ l := fun z => by rw [z] at a5; omega
  have hlz : l ≠ aZ h := by omega
  have hez := hw.1.2.1
  have key : ∀ (k : Nat) (g : AH), xs.length < k → k ≤ 1761 → 10 ≤ k → k ≤ xs.length + xs.length / 2 + 10 → k + 4 * lc h l ≤ 4 * k → aK g = aK (grown h l k) → aN g = aN (grown h l k) → aI g = aI h ∨ (∀ q, q ≠ aZ h → aI g q = aI h q) → (∀ q j, q ≠ aZ h → aR g q j = aR (grown h l k) q j) → (∀ q, q ≠ aZ h → aL g q = aL h q) → (∀ i, i < xs.length → aR g (aZ h) i = xs.getD i 0) → aZ g = aZ h + 1 → aU g = aU h + k → aE g = aE h → aC g = aC h → aM g = aM h → LsR g l xs ∧ Wf g ∧ Prs (fun q => q = l) h g ∧ aR g l 1 = aZ h ∧ xs.length < aN g (aR g l 1) ∧ aZ g = aZ h + 1 ∧ aU g + 4 * lc h l ≤ aU h + 4 * lc g l ∧ lc g l ≤ xs.length + xs.length / 2 + 10 := by
    intro k g k1 k2 k3 k5 k4 gK gN gI gR gL gX gZ gU gE gC gM
    have gI' : ∀ q, q ≠ aZ h → aI g q = aI h q := by
      rcases gI with z | z
      · intro q _; rw [z]
      · exact z
    have rl : aR g l 1 = aZ h := by rw [gR l 1 hlz]; exact w_R1 _ _ _ _
    have kz : aK g (aZ h) = 26 := by rw [gK]; exact w_KN1 h 26 k
    have nz : aN g (aZ h) = k := by rw [gN]; exact w_NN1 h 26 k
    have ko : ∀ q, q ≠ aZ h → aK g q = aK h q := fun q hq => by rw [gK]; exact w_KN2 (h := h) (K := 26) (n := k) hq
    have no : ∀ q, q ≠ aZ h → aN g q = aN h q := fun q hq => by rw [gN]; exact w_NN2 (h := h) (K := 26) (n := k) hq
    have ro' : ∀ q j, q ≠ aZ h → q ≠ l → aR g q j = aR h q j := fun q j hq hq2 => by
      rw [gR q j hq]
      show aR (uR (uN h 26 k) l 1 (aZ h)) q j = _
      rw [w_R2 hq2, w_RN2 hq]
    refine ⟨?_, ⟨?_, ?_, ?_, ?_, by rw [gM]; exact hw.2.2.2.2⟩, ⟨by omega, gE, gC, gM, fun q hq => ⟨ko q (by omega), no q (by omega)⟩, fun q hq hs => ⟨gI' q (by omega), funext fun j => ro' q j (by omega) hs, gL q (by omega)⟩⟩, rl, by rw [rl, nz]; exact k1, gZ, by unfold lc at k4 ⊢; rw [rl, nz, gU]; omega, by unfold lc; rw [rl, nz]; exact k5⟩
    · unfold LsR
      rw [rl, kz, nz, ko l hlz, gI' l hlz, gE, gZ]
      refine ⟨a1, a2, by omega, a4, rfl, eq_false (by omega), by omega, by omega, k2, Or.inr ⟨by omega, k3⟩, gX, fun x hx => ?_⟩
      obtain ⟨b1, b2, b3⟩ := a12 x hx
      rw [ko x (by omega)]
      exact ⟨b1, by omega, b3⟩
    · rw [gE, gZ, ko _ (by omega), no _ (by omega)]
      exact ⟨hw.1.1, by omega, hw.1.2.2⟩
    · intro q hq
      rw [ko q (by omega)]
      exact hw.2.1 q (by omega)
    · intro l1 l2 e1 e2 e3
      rw [gE]
      have f1 : l1 ≠ aZ h := fun z => by rw [z, kz] at e1; omega
      have f2 : l2 ≠ aZ h := fun z => by rw [z, kz] at e2; omega
      rw [ko _ f1] at e1
      rw [ko _ f2] at e2
      by_cases c1 : l1 = l
      · by_cases c2 : l2 = l
        · exact Or.inl (c1.trans c2.symm)
        · rw [c1, rl, ro' l2 1 f2 c2] at e3
          have := hw.2.2.2.1 l2 e2
          omega
      · by_cases c2 : l2 = l
        · rw [c2, rl, ro' l1 1 f1 c1] at e3
          have := hw.2.2.2.1 l1 e1
          omega
        · rw [ro' l1 1 f1 c1, ro' l2 1 f2 c2] at e3
          rw [ro' l1 1 f1 c1]
          exact hw.2.2.1 l1 l2 e1 e2 e3
    · intro l1 e1
      rw [gZ]
      have f1 : l1 ≠ aZ h := fun z => by rw [z, kz] at e1; omega
      rw [ko _ f1] at e1
      by_cases c1 : l1 = l
      · rw [c1, rl]; omega
      · rw [ro' l1 1 f1 c1]
        have := hw.2.2.2.1 l1 e1
        omega
  unfold p_Jx4a65c_grow_d5877 p_Jx4a65c_grow_d5877_0 p_Jx4a65c_grow_92f84 p_Jx4a65c_grow_92f84_0
  simp (disch := omega) only [ck_t, nm_q, bR_s, j_add, j_sub, j_mul, j_nI, j_0, j_le, j_lt, j_eq, j_nat, j_ixe, bI_0, and_self, and_true, true_and, ne_eq, not_false_eq_true, not_true_eq_false, ite_true, ite_false, if_true, if_false, ck_p z_0, ck_p z_1, a1, a2, a4, a5]
  rcases a10 with ⟨z1, z2⟩ | ⟨z1, z2⟩
  · rw [if_neg (by omega), if_pos z1]
    have hlen : xs.length = 0 := by omega
    simp (disch := omega) only [ck_t, nm_q, bR_s, j_add, j_sub, j_mul, j_nI, j_0, j_le, j_lt, j_eq, j_nat, j_ixe, bI_0, and_self, and_true, true_and, ne_eq, not_false_eq_true, not_true_eq_false, ite_true, ite_false, if_true, if_false, ck_p z_0, ck_p z_1, hlen, Int.natCast_zero]
    rw [if_neg (by omega)]
    simp (disch := omega) only [ck_t, nm_q, bR_s, j_add, j_sub, j_mul, j_nI, j_0, j_le, j_lt, j_eq, j_nat, j_ixe, bI_0, and_self, and_true, true_and, ne_eq, not_false_eq_true, not_true_eq_false, ite_true, ite_false, if_true, if_false, ck_p z_0, ck_p z_1]
    have hu2 : aU h + 10 ≤ gS := by unfold lc at hu; omega
    rw [ck_p ⟨⟨by omega, by decide⟩, hz, hu2⟩]
    have e2 : aK (uN h 26 (10 : Int).toNat) l = 1 := by rw [w_KN2 hlz, a2]
    rw [ck_p e2]
    refine ok_some ⟨(w_R1 _ _ _ _).symm, ?_⟩
    have key2 := key 10 (grown h l 10) (by omega) (by omega) (by omega) (by omega) (by unfold lc; omega) rfl rfl (Or.inr fun q hq => funext fun j => w_IN2 (h := h) (K := 26) (n := 10) hq) (fun q j hq => rfl) (fun q hq => funext fun j => if_neg hq) (fun i hi => absurd hi (by omega)) rfl rfl rfl rfl rfl
    rw [hlen] at key2
    exact key2
  · rw [if_pos (by omega)]
    generalize hc : aN h (aR h l 1) = c at *
    unfold p_Jx4a65c_grow_92f84_20
    rw [hfull]
    simp (disch := omega) only [j_shr, j_sub]
    rw [show (c : Int) + 1 - c = 1 by omega]
    rw [bR_e (f_newLength (by omega) (by omega))]
    unfold p_J7_copyOf_1904c p_J7_copyOf_1904c_0 p_J7_copyOf_6403c p_J7_copyOf_6403c_0
    have hM : (aM h = 0) = False := eq_false hw.2.2.2.2
    have hu2 : aU h + ((c : Int) + c / 2).toNat ≤ gS := by unfold lc at hu; rw [hc] at hu; omega
    simp (disch := omega) only [ck_t, nm_q, bR_s, j_add, j_sub, j_mul, j_nI, j_0, j_le, j_lt, j_eq, j_nat, j_ixe, bI_0, and_self, and_true, true_and, ne_eq, not_false_eq_true, not_true_eq_false, ite_true, ite_false, if_true, if_false, ck_p z_0, ck_p z_1, a1, a2, a5, a6, hM]
    rw [ck_p ⟨⟨by omega, by omega⟩, hz, hu2⟩]
    have hcz : aR h l 1 ≠ aZ h := by omega
    generalize hk : ((c : Int) + c / 2).toNat = k at *
    simp (disch := omega) only [ck_t, nm_q, bR_s, j_add, j_sub, j_mul, j_nI, j_0, j_le, j_lt, j_eq, j_nat, j_ixe, bI_0, and_self, and_true, true_and, ne_eq, not_false_eq_true, not_true_eq_false, ite_true, ite_false, if_true, if_false, ck_p z_0, ck_p z_1, w_KN2 hcz, w_NN2 hcz, a5, hc]
    rw [if_neg (by omega)]
    simp (disch := omega) only [ck_t, nm_q, bR_s, j_add, j_sub, j_mul, j_nI, j_0, j_le, j_lt, j_eq, j_nat, j_ixe, bI_0, and_self, and_true, true_and, ne_eq, not_false_eq_true, not_true_eq_false, ite_true, ite_false, if_true, if_false, ck_p z_0, ck_p z_1, Int.toNat_natCast]
    rw [ck_p ⟨⟨by omega, by omega⟩, ⟨by rw [w_KN2 hcz, a5], w_KN1 _ _ _⟩, ⟨by rw [w_NN2 hcz]; omega, by rw [w_NN1]; omega⟩, by rw [w_NN2 hcz]; omega, by rw [w_NN1]; omega⟩]
    have hel : okEl (uN h 26 k) (aR h l 1) (0 : Int).toNat c := by
      intro i hi
      rw [show (0 : Int).toNat + i = i by omega, w_RN2 hcz, a11 i (by omega)]
      have := a12 _ (gd_mem (show i < xs.length by omega))
      rw [w_KN2 (by omega)]
      exact Or.inr this.2.2
    rw [ck_p hel]
    have e2 : aK (uCR (uN h 26 k) (aR h l 1) (0 : Int).toNat (aZ h) (0 : Int).toNat c) l = 1 := by
      show aK (uN h 26 k) l = 1
      rw [w_KN2 hlz, a2]
    simp only [bR_s]
    rw [ck_p e2]
    refine ok_some ⟨(w_R1 _ _ _ _).symm, ?_⟩
    have g1 : ∀ q j, q ≠ aZ h → aR (uR (uCR (uN h 26 k) (aR h l 1) (0 : Int).toNat (aZ h) (0 : Int).toNat c) l 1 (aZ h)) q j = aR (grown h l k) q j := by
      intro q j hq
      show (if q = l ∧ j = 1 then aZ h else (if q = aZ h ∧ _ ∧ _ then _ else aR (uN h 26 k) q j)) = if q = l ∧ j = 1 then aZ h else aR (uN h 26 k) q j
      rw [if_neg (fun z : q = aZ h ∧ _ => hq z.1)]
    have g2 : ∀ i, i < xs.length → aR (uR (uCR (uN h 26 k) (aR h l 1) (0 : Int).toNat (aZ h) (0 : Int).toNat c) l 1 (aZ h)) (aZ h) i = xs.getD i 0 := by
      intro i hi
      show (if aZ h = l ∧ i = 1 then aZ h else (if aZ h = aZ h ∧ (0 : Int).toNat ≤ i ∧ i < (0 : Int).toNat + c then aR (uN h 26 k) (aR h l 1) ((0 : Int).toNat + (i - (0 : Int).toNat)) else _)) = _
      rw [if_neg (fun z => hlz z.1.symm), if_pos ⟨rfl, by omega, by omega⟩, show (0 : Int).toNat + (i - (0 : Int).toNat) = i by omega, w_RN2 hcz]
      exact a11 i hi
    have key2 := key k (uR (uCR (uN h 26 k) (aR h l 1) (0 : Int).toNat (aZ h) (0 : Int).toNat c) l 1 (aZ h)) (by omega) (by omega) (by omega) (by omega) (by unfold lc; rw [hc]; omega) rfl rfl (Or.inr fun q hq => funext fun j => w_IN2 (h := h) (K := 26) (n := k) hq) g1 (fun q hq => funext fun j => if_neg hq) g2 rfl rfl rfl rfl rfl
    rw [hfull] at key2
    exact key2
theorem f_add {h : AH} {l x : Nat} {xs : List Nat} (hl : LsR h l xs) (hw : Wf h) (hx : obk h x) (hn : xs.length ≤ 1173) (hz : aZ h + 1 ≤ aC h) (hu : aU h + 4 * (1761 - lc h l) ≤ gS) :
    Okp (p_Jx4a65c_add_9ea2d l x h) (fun r h' => r = iI 1 ∧ LsR h' l (xs ++ [x]) ∧ Wf h' ∧ Prs (lS h l) h h' ∧ aZ h' ≤ aZ h + 1 ∧ aU h' + 4 * lc h l ≤ aU h + 4 * lc h' l ∧ (aR h' l 1 = aR h l 1 ∨ aR h' l 1 = aZ h) ∧ lc h l ≤ lc h' l ∧ (lc h' l = lc h l ∨ lc h' l ≤ xs.length + xs.length / 2 + 10)) := by
  have p0 : Pi (fun q => q = l) h (uI h l 0 (aI h l 0 + iI 1)) := pi_uI rfl
  generalize hg : uI h l 0 (aI h l 0 + iI 1) = g at p0
  have q0 : aR g = aR h := p0.2.2.1
  have qK : aK g = aK h := p0.1
  have qN : aN g = aN h := p0.2.1
  have hlg : LsR g l xs := by
    obtain ⟨a1, a2, a3, a4, a5, a6, a7, a8, a9, a10, a11, a12⟩ := hl
    unfold LsR
    rw [q0, qK, qN, p0.2.2.2.2.1, p0.2.2.2.2.2.2.1]
    refine ⟨a1, a2, a3, ?_, a5, a6, a7, a8, a9, a10, a11, a12⟩
    rw [← hg, w_I3 (by decide)]
    exact a4
  have hwg := wf_pi hw p0
  have hlc : lc g l = lc h l := by unfold lc; rw [q0, qN]
  have hS : ∀ q, lS g l q → lS h l q := by
    intro q hq
    unfold lS at hq ⊢
    rw [q0, p0.2.2.2.2.2.2.1] at hq
    exact hq
  have hxg : obk g x := by
    unfold obk
    rw [qK, p0.2.2.2.2.1]
    exact hx
  have x0 := eq_false hx.1
  have hlg' := hlg
  obtain ⟨a1, a2, a3, a4, a5, a6, a7, a8, a9, a10, a11, a12⟩ := hlg'
  have k2 : aK h l = 1 := hl.2.1
  unfold p_Jx4a65c_add_9ea2d p_Jx4a65c_add_9ea2d_0
  simp only [ck_t, nm_q, k2, a1, x0, ne_eq, not_false_eq_true, hg]
  simp only [ck_t, nm_q, a2, a4]
  unfold p_Jx4a65c_add_72be8 p_Jx4a65c_add_72be8_0
  simp only [ck_t, a1, x0, a6, a5, ne_eq, not_false_eq_true, j_nI, j_eq (show (-2147483648 : Int) ≤ (xs.length : Int) by omega) (show (xs.length : Int) < 2147483648 by omega) (show (-2147483648 : Int) ≤ (aN g (aR g l 1) : Int) by omega) (show (aN g (aR g l 1) : Int) < 2147483648 by omega)]
  by_cases c : (xs.length : Int) = aN g (aR g l 1)
  · rw [if_pos c]
    rw [ck_p a2]
    refine ok_bR (R := fun _ h' => LsR h' l (xs ++ [x]) ∧ Wf h' ∧ Prs (lS h l) h h' ∧ aZ h' ≤ aZ h + 1 ∧ aU h' + 4 * lc h l ≤ aU h + 4 * lc h' l ∧ (aR h' l 1 = aR h l 1 ∨ aR h' l 1 = aZ h) ∧ lc h l ≤ lc h' l ∧ (lc h' l = lc h l ∨ lc h' l ≤ xs.length + xs.length / 2 + 10)) ?_ (fun r h1 hr => ok_some ⟨rfl, hr⟩)
    refine ok_bR (f_grow hlg hwg (by omega) hn (by rw [p0.2.2.2.2.1, p0.2.2.2.2.2.2.2.1]; exact hz) (by rw [hlc, p0.2.2.2.2.2.1]; exact hu)) ?_
    rintro r g2 ⟨b1, b2, b3, b4, b5, b6, b7, b8, b9⟩
    rw [b1]
    refine ok_to (f_add_tail b2 b3 ⟨hxg.1, by have := hxg.2.1; omega, by rw [pr_K b4 hxg.2.1]; exact hxg.2.2.1, by rw [pr_K b4 hxg.2.1]; exact hxg.2.2.2⟩ b6) ?_
    rintro _ h' ⟨d1, d2, d3, d4, d5, d6, d7⟩
    have hzg : aZ g = aZ h := p0.2.2.2.2.1
    refine ⟨d1, d2, ?_, by omega, ?_, Or.inr (by rw [d6, b5, hzg]), ?_, ?_⟩
    · refine pr_trN (pr_tr (pr_mono (pi_pr p0) fun q _ z => Or.inl z) (pr_mono b4 fun q _ z => Or.inl z)) d3 ?_
      intro q hq z
      rcases z with z | z
      · exact Or.inl z
      · have := z.1; omega
    · have e1 : lc h' l = lc g2 l := by unfold lc; rw [d6, d7]
      have e2 : aU g = aU h := p0.2.2.2.2.2.1
      omega
    · have e1 : lc h' l = lc g2 l := by unfold lc; rw [d6, d7]
      have e3 : lc h l = aN g (aR g l 1) := hlc.symm
      have e4 : lc g2 l = aN g2 (aR g2 l 1) := rfl
      omega
    · have e1 : lc h' l = lc g2 l := by unfold lc; rw [d6, d7]
      exact Or.inr (by omega)
  · rw [if_neg c]
    refine ok_bR (R := fun _ h' => LsR h' l (xs ++ [x]) ∧ Wf h' ∧ Prs (lS h l) h h' ∧ aZ h' ≤ aZ h + 1 ∧ aU h' + 4 * lc h l ≤ aU h + 4 * lc h' l ∧ (aR h' l 1 = aR h l 1 ∨ aR h' l 1 = aZ h) ∧ lc h l ≤ lc h' l ∧ (lc h' l = lc h l ∨ lc h' l ≤ xs.length + xs.length / 2 + 10)) ?_ (fun r h1 hr => ok_some ⟨rfl, hr⟩)
    refine ok_to (f_add_tail hlg hwg hxg (by omega)) ?_
    rintro _ h' ⟨d1, d2, d3, d4, d5, d6, d7⟩
    have hzg : aZ g = aZ h := p0.2.2.2.2.1
    have e1 : lc h' l = lc g l := by unfold lc; rw [d6, d7]
    have e2 : aU g = aU h := p0.2.2.2.2.2.1
    exact ⟨d1, d2, pr_tr (pr_mono (pi_pr p0) fun q _ z => Or.inl z) (pr_mono d3 fun q _ z => hS q z), by omega, by omega, Or.inl (by rw [d6, q0]), by omega, Or.inl (by omega)⟩

