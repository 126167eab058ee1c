
/-! ===== hands ===== -/
/-- an act: the text's number, the letter, typed or erased -/
abbrev Ac : Type := Nat × Nat × Bool
def AcR (tc : Nat → Nat) (h : AH) (x : Nat) (a : Ac) : Prop := x ≠ 0 ∧ x < aZ h ∧ aK h x = 2 ∧ aR h x 0 = tc a.1 ∧ aI h x 1 = iI a.2.1 ∧ aI h x 2 = bI a.2.2
abbrev Hd : Type := List Ac × Nat
def HdR (tc : Nat → Nat) (h : AH) (d : Nat) (A : Hd) : Prop := (d = 0) = False ∧ aK h d = 6 ∧ aR h d 0 = d + 1 ∧ d + 1 < aZ h ∧ aI h d 1 = iI A.2 ∧ A.2 ≤ A.1.length ∧ A.1.length ≤ 512 ∧ ∃ xs, LsR h (d + 1) xs ∧ Al (AcR tc h) xs A.1
def hS (h : AH) (d q : Nat) : Prop := q = d ∨ lS h (d + 1) q
def hcap (h : AH) (d : Nat) : Nat := lc h (d + 1)
theorem ac_pr {tc : Nat → Nat} {S : Nat → Prop} {h h' : AH} {x : Nat} {a : Ac} (hd : AcR tc h x a) (p : Prs S h h') (hs : ∀ q, S q → aK h q ≠ 2) : AcR tc h' x a := by
  obtain ⟨a1, a2, a3, a4⟩ := hd
  have := p.1
  have hn : ¬ S x := fun z => hs x z a3
  unfold AcR
  rw [pr_K p a2, pr_I p a2 hn, pr_R p a2 hn]
  exact ⟨a1, by omega, a3, a4⟩
theorem hd_pr {tc : Nat → Nat} {S : Nat → Prop} {h h' : AH} {d : Nat} {A : Hd} (hd : HdR tc h d A) (p : Prs S h h') (h1 : ¬ S d) (h2 : ¬ S (d + 1)) (h3 : ¬ S (aR h (d + 1) 1)) (hs : ∀ q, S q → aK h q ≠ 2) : HdR tc h' d A := by
  obtain ⟨a0, k0, k1, k2, k3, k4, k5, xs, l1, l2⟩ := hd
  have := p.1
  unfold HdR
  rw [pr_K p (q := d) (by omega), pr_R p (q := d) (by omega) h1, pr_I p (q := d) (by omega) h1]
  exact ⟨a0, k0, k1, by omega, k3, k4, k5, xs, ls_pr l1 p h2 h3, al_mono l2 fun y a _ z => ac_pr z p hs⟩
theorem hS_no2 {h : AH} {tc : Nat → Nat} {d : Nat} {A : Hd} (hd : HdR tc h d A) : ∀ q, hS h d q → aK h q = 6 ∨ aK h q = 1 ∨ aK h q = 26 := by
  obtain ⟨a0, k0, k1, k2, k3, k4, k5, xs, l1, l2⟩ := hd
  intro q z
  rcases z with z | z | z
  · exact Or.inl (by rw [z]; exact k0)
  · exact Or.inr (Or.inl (by rw [z]; exact l1.2.1))
  · exact Or.inr (Or.inr (by rw [z.1]; exact l1.2.2.2.2.1))
theorem f_X0_init {tc : Nat → Nat} {h : AH} {x l : Nat} {b : Bool} {a : Nat} (hx : x ≠ 0) (hk : aK h x = 2) (hz : x < aZ h) (ht : tc a ≠ 0) : Okp (p_X0_init x (tc a) (iI l) (bI b) h) (fun _ h' => AcR tc h' x (a, l, b) ∧ Prs (fun q => q = x) h h' ∧ aZ h' = aZ h ∧ aU h' = aU h ∧ aC h' = aC h ∧ (Wf h → Wf h')) := by
  have x0 := eq_false hx
  have t0 := eq_false ht
  unfold p_X0_init p_X0_init_0
  simp (disch := omega) only [ck_t, nm_q, bR_s, j_add, j_sub, j_mul, j_nI, j_0, j_le, j_lt, j_eq, j_nat, j_ixe, bI_0, and_self, and_true, true_and, ne_eq, not_false_eq_true, not_true_eq_false, ite_true, ite_false, if_true, if_false, ck_p z_0, ck_p z_1, K_uI, N_uI, R_uI, L_uI, Z_uI, U_uI, E_uI, C_uI, M_uI, I_uI, K_uR, N_uR, I_uR, L_uR, Z_uR, U_uR, E_uR, C_uR, M_uR, R_uR, x0, t0, hk]
  rw [ck_p (bI_z b)]
  refine ok_some ⟨⟨hx, hz, hk, ?_, ?_, ?_⟩, pr_tr (pr_uR rfl) (pr_tr (pr_uI rfl) (pr_uI rfl)), rfl, rfl, rfl, fun hw => ⟨hw.1, hw.2.1, ?_, ?_, hw.2.2.2.2⟩⟩
  · exact w_R1 h x 0 (tc a)
  · rw [w_I3 (by decide), w_I1]
  · rw [w_I1]
  · intro l1 l2 e1 e2
    have e1' : aK h l1 = 1 := e1
    have e2' : aK h l2 = 1 := e2
    have n1 : l1 ≠ x := fun z => by rw [z] at e1'; omega
    have n2 : l2 ≠ x := fun z => by rw [z] at e2'; omega
    show aR (uR h x 0 (tc a)) l1 1 = aR (uR h x 0 (tc a)) l2 1 → l1 = l2 ∨ aR (uR h x 0 (tc a)) l1 1 = aE h
    rw [w_R2 n1, w_R2 n2]
    exact hw.2.2.1 l1 l2 e1' e2'
  · intro l1 e1
    have e1' : aK h l1 = 1 := e1
    have n1 : l1 ≠ x := fun z => by rw [z] at e1'; omega
    show aR (uR h x 0 (tc a)) l1 1 < _
    rw [w_R2 n1]
    exact hw.2.2.2.1 l1 e1'
theorem erase_last {xs : List Nat} {k : Nat} (h : xs.length = k + 1) : xs.eraseIdx k = xs.take k := by
  rw [List.eraseIdx_eq_take_drop_succ, List.drop_eq_nil_of_le (by omega), List.append_nil]
theorem al_take {α : Type} {P : Nat → α → Prop} {xs : List Nat} {ds : List α} (h : Al P xs ds) (k : Nat) : Al P (xs.take k) (ds.take k) := by
  refine ⟨by rw [List.length_take, List.length_take, h.1], fun i d hi => ?_⟩
  rw [List.getElem?_take] at hi
  by_cases c : i < k
  · rw [if_pos c] at hi
    have := h.2 i d hi
    rw [List.getD_eq_getElem?_getD, List.getElem?_take, if_pos c, ← List.getD_eq_getElem?_getD]
    exact this
  · rw [if_neg c] at hi; cases hi
/-- what a hand's own writes come to -/
def Hst (tc : Nat → Nat) (h : AH) (d a b : Nat) (A : Hd) (h' : AH) : Prop := HdR tc h' d A ∧ Wf h' ∧ Prs (hS h d) h h' ∧ aZ h' ≤ aZ h + a ∧ aU h' + 4 * hcap h d ≤ aU h + b + 4 * hcap h' d ∧ hcap h d ≤ hcap h' d
theorem f_X4_remember_12 {tc : Nat → Nat} {d x : Nat} {a : Ac} : ∀ (k n : Nat) (z : Int) (h : AH) (A : Hd), HdR tc h d A → Wf h → AcR tc h x a → A.1.length = A.2 + k → z = (A.1.length : Int) - 1 → k < n → A.2 ≤ 511 → aZ h + 1 ≤ aC h → aU h + 4 * (1761 - hcap h d) ≤ gS →
    Okp (p_X4_remember_12 n d x (iI z) h) (fun _ h' => Hst tc h d 1 0 (A.1.take A.2 ++ [a], A.2 + 1) h') := by
  intro k
  induction k with
  | zero =>
    intro n z h A hA hw hx hl hz hn hs hz1 hu
    obtain ⟨n, rfl⟩ : ∃ m, n = m + 1 := ⟨n - 1, by omega⟩
    have hA' := hA
    obtain ⟨a0, k0, k1, k2, k3, k4, k5, xs, l1, l2⟩ := hA
    have kl := l1.2.1
    have e1 := f_size l1
    have hlen := l2.1
    unfold p_X4_remember_12
    simp (disch := omega) only [ck_t, nm_q, bR_s, j_add, j_sub, j_mul, j_nI, j_0, j_le, j_lt, j_eq, j_nat, j_ixe, bI_0, and_self, and_true, true_and, ne_eq, not_false_eq_true, not_true_eq_false, ite_true, ite_false, if_true, if_false, ck_p z_0, ck_p z_1, k0, k3, k1, kl, e1]
    rw [if_pos (by omega), if_neg (by omega)]
    have ob : obk h x := ⟨hx.1, hx.2.1, by rw [hx.2.2.1]; decide, by rw [hx.2.2.1]; decide⟩
    refine ok_bR (f_add (x := x) l1 hw ob (by omega) hz1 hu) ?_
    rintro r h1 ⟨g1, g2, g3, g4, g5, g6, g7, g8⟩
    have no : ∀ q, lS h (d + 1) q → aK h q = 6 ∨ aK h q = 1 ∨ aK h q = 26 := fun q z => hS_no2 hA' q (Or.inr z)
    have nd : ¬ lS h (d + 1) d := by
      rintro (z | z)
      · omega
      · have := l1.2.2.2.2.1; rw [← z.1] at this; omega
    have ed : aR h1 d 0 = d + 1 := by rw [pr_R g4 (by omega) nd]; exact k1
    have kd : aK h1 d = 6 := by rw [pr_K g4 (by omega)]; exact k0
    have e2 := f_size g2
    have kl1 := g2.2.1
    unfold p_X4_remember_63
    simp (disch := omega) only [ck_t, nm_q, bR_s, j_add, j_sub, j_mul, j_nI, j_0, j_le, j_lt, j_eq, j_nat, j_ixe, bI_0, and_self, and_true, true_and, ne_eq, not_false_eq_true, not_true_eq_false, ite_true, ite_false, if_true, if_false, ck_p z_0, ck_p z_1, kd, ed, kl1, e2]
    have p2 : Pi (fun q => q = d) h1 (uI h1 d 1 (iI ((xs ++ [x]).length : Int))) := pi_uI rfl
    have q2 := pi_pr p2
    have zz := g4.1
    have na : aR h1 (d + 1) 1 ≠ d := fun z => by have := g2.2.2.2.2.1; rw [z] at this; omega
    have hal : Al (AcR tc h1) (xs ++ [x]) (A.1 ++ [a]) := al_app (al_mono l2 fun y e _ z => ac_pr z g4 (fun q w => by have := no q w; omega)) (ac_pr hx g4 (fun q w => by have := no q w; omega))
    have etk : A.1.take A.2 = A.1 := by rw [show A.2 = A.1.length by omega]; exact List.take_length
    refine ok_some ⟨⟨a0, kd, ed, by show d + 1 < aZ h1; omega, ?_, ?_, ?_, xs ++ [x], ls_pr g2 q2 (by omega) na, ?_⟩, wf_pi g3 p2, ?_, g5, ?_, ?_⟩
    · rw [w_I1, List.length_append, List.length_singleton]
      congr 1
      show ((xs.length + 1 : Nat) : Int) = ((A.2 + 1 : Nat) : Int)
      omega
    · show A.2 + 1 ≤ (A.1.take A.2 ++ [a]).length
      rw [etk, List.length_append, List.length_singleton]; omega
    · show (A.1.take A.2 ++ [a]).length ≤ 512
      rw [etk, List.length_append, List.length_singleton]; omega
    · show Al _ _ (A.1.take A.2 ++ [a])
      rw [etk]
      exact al_mono hal fun y e _ z => ac_pr z q2 (fun q w => by rw [w, kd]; decide)
    · exact pr_trN (pr_mono g4 fun q _ z => Or.inr z) q2 (fun q _ z => Or.inl z)
    · show aU h1 + 4 * lc h (d + 1) ≤ aU h + 0 + 4 * lc h1 (d + 1)
      omega
    · exact g8.1
  | succ k ih =>
    intro n z h A hA hw hx hl hz hn hs hz1 hu
    obtain ⟨n, rfl⟩ : ∃ m, n = m + 1 := ⟨n - 1, by omega⟩
    have hA' := hA
    obtain ⟨a0, k0, k1, k2, k3, k4, k5, xs, l1, l2⟩ := hA
    have kl := l1.2.1
    have hlen := l2.1
    obtain ⟨m, em⟩ : ∃ m : Nat, A.1.length = m + 1 := ⟨A.1.length - 1, by omega⟩
    have ez : z = (m : Int) := by omega
    subst ez
    unfold p_X4_remember_12
    simp (disch := omega) only [ck_t, nm_q, bR_s, j_add, j_sub, j_mul, j_nI, j_0, j_le, j_lt, j_eq, j_nat, j_ixe, bI_0, and_self, and_true, true_and, ne_eq, not_false_eq_true, not_true_eq_false, ite_true, ite_false, if_true, if_false, ck_p z_0, ck_p z_1, k0, k3, k1, kl]
    rw [if_neg (by omega)]
    refine ok_bR (f_remove l1 hw (i := m) (by omega)) ?_
    rintro r h1 ⟨g1, g2, g3, g4, g5, g6, g7, g8⟩
    rw [erase_last (by omega)] at g2
    have no : ∀ q, lS h (d + 1) q → aK h q = 6 ∨ aK h q = 1 ∨ aK h q = 26 := fun q z => hS_no2 hA' q (Or.inr z)
    have nd : ¬ lS h (d + 1) d := by
      rintro (z | z)
      · omega
      · have := l1.2.2.2.2.1; rw [← z.1] at this; omega
    have hcp : hcap h1 d = hcap h d := by unfold hcap lc; rw [g7, g8]
    have hA1 : HdR tc h1 d (A.1.take m, A.2) := by
      refine ⟨a0, by rw [pr_K g4 (by omega)]; exact k0, by rw [pr_R g4 (by omega) nd]; exact k1, by omega, by rw [pr_I g4 (by omega) nd]; exact k3, ?_, ?_, xs.take m, g2, al_take (al_mono l2 fun y e _ z => ac_pr z g4 (fun q w => by have := no q w; omega)) m⟩
      · show A.2 ≤ (A.1.take m).length
        rw [List.length_take]; omega
      · show (A.1.take m).length ≤ 512
        rw [List.length_take]; omega
    have hC : aC h1 = aC h := g4.2.2.1
    have el : (A.1.take m).length = m := by rw [List.length_take]; omega
    refine ok_to (ih n (↑m + -1) h1 (A.1.take m, A.2) hA1 g3 (ac_pr hx g4 (fun q w => by have := no q w; omega)) (by show (A.1.take m).length = A.2 + k; omega) (by show (m : Int) + -1 = ((A.1.take m).length : Int) - 1; omega) (by omega) hs (by omega) (by rw [hcp]; omega)) ?_
    rintro _ h2 ⟨u1, u2, u3, u4, u5, u6⟩
    rw [show (A.1.take m).take A.2 = A.1.take A.2 by rw [List.take_take, Nat.min_eq_left (by omega)]] at u1
    refine ⟨u1, u2, pr_trN (pr_mono g4 fun q _ z => Or.inr z) u3 ?_, by omega, by omega, by omega⟩
    intro q hq z
    rcases z with z | z | z
    · exact Or.inl z
    · exact Or.inr (Or.inl z)
    · rw [g7, g4.2.1] at z
      exact Or.inr (Or.inr z)
theorem f_X4_remember {tc : Nat → Nat} {h : AH} {d x : Nat} {a : Ac} {A : Hd} (hA : HdR tc h d A) (hw : Wf h) (hx : AcR tc h x a) (hs : A.2 ≤ 511) (hz1 : aZ h + 1 ≤ aC h) (hu : aU h + 4 * (1761 - hcap h d) ≤ gS) :
    Okp (p_X4_remember d x h) (fun _ h' => Hst tc h d 1 0 (A.1.take A.2 ++ [a], A.2 + 1) h') := by
  have e := f_X4_remember_12 (A.1.length - A.2) FU ((A.1.length : Int) - 1) h A hA hw hx (by have := hA.2.2.2.2.2.1; omega) rfl (by have := hA.2.2.2.2.2.2.1; unfold FU; omega) hs hz1 hu
  obtain ⟨a0, k0, k1, k2, k3, k4, k5, xs, l1, l2⟩ := hA
  have kl := l1.2.1
  have e1 := f_size l1
  have hlen := l2.1
  have x0 := eq_false hx.1
  unfold p_X4_remember p_X4_remember_0
  simp (disch := omega) only [ck_t, nm_q, bR_s, j_add, j_sub, j_mul, j_nI, j_0, j_le, j_lt, j_eq, j_nat, j_ixe, bI_0, and_self, and_true, true_and, ne_eq, not_false_eq_true, not_true_eq_false, ite_true, ite_false, if_true, if_false, ck_p z_0, ck_p z_1, a0, x0, k0, k1, kl, e1]
  rw [hlen]
  exact e
theorem f_X4_stepBack0 {tc : Nat → Nat} {h : AH} {d : Nat} {A : Hd} (hA : HdR tc h d A) (h0 : A.2 = 0) : p_X4_stepBack d h = some (0, h) := by
  obtain ⟨a0, k0, k1, k2, k3, k4, k5, xs, l1, l2⟩ := hA
  unfold p_X4_stepBack p_X4_stepBack_0 p_X4_stepBack_23
  simp (disch := omega) only [ck_t, nm_q, bR_s, j_add, j_sub, j_mul, j_nI, j_0, j_le, j_lt, j_eq, j_nat, j_ixe, bI_0, and_self, and_true, true_and, ne_eq, not_false_eq_true, not_true_eq_false, ite_true, ite_false, if_true, if_false, ck_p z_0, ck_p z_1, a0, k0, k3]
  rw [if_pos (by omega)]
theorem f_X4_stepForth0 {tc : Nat → Nat} {h : AH} {d : Nat} {A : Hd} (hA : HdR tc h d A) (h0 : A.2 = A.1.length) : p_X4_stepForth d h = some (0, h) := by
  obtain ⟨a0, k0, k1, k2, k3, k4, k5, xs, l1, l2⟩ := hA
  have kl := l1.2.1
  have e1 := f_size l1
  have hlen := l2.1
  unfold p_X4_stepForth p_X4_stepForth_0 p_X4_stepForth_23
  simp (disch := omega) only [ck_t, nm_q, bR_s, j_add, j_sub, j_mul, j_nI, j_0, j_le, j_lt, j_eq, j_nat, j_ixe, bI_0, and_self, and_true, true_and, ne_eq, not_false_eq_true, not_true_eq_false, ite_true, ite_false, if_true, if_false, ck_p z_0, ck_p z_1, a0, k0, k3, k1, kl, e1]
  rw [if_neg (by omega), if_neg (by omega)]
theorem hd_step {tc : Nat → Nat} {h : AH} {d : Nat} {A : Hd} (hA : HdR tc h d A) (hw : Wf h) {st : Nat} (h1 : st ≤ A.1.length) : Hst tc h d 0 0 (A.1, st) (uI h d 1 (iI st)) := by
  obtain ⟨a0, k0, k1, k2, k3, k4, k5, xs, l1, l2⟩ := hA
  have p : Pi (fun q => q = d) h (uI h d 1 (iI st)) := pi_uI rfl
  have na : aR h (d + 1) 1 ≠ d := fun z => by have := l1.2.2.2.2.1; rw [z] at this; omega
  exact ⟨⟨a0, k0, k1, k2, w_I1 _ _ _ _, h1, k5, xs, ls_pr l1 (pi_pr p) (by omega) na, al_mono l2 fun y e _ z => ac_pr z (pi_pr p) (fun q w => by rw [w, k0]; decide)⟩, wf_pi hw p, pr_mono (pi_pr p) fun q _ z => Or.inl z, Nat.le_refl _, Nat.le_refl _, Nat.le_refl _⟩
theorem f_X4_stepBack {tc : Nat → Nat} {h : AH} {d : Nat} {A : Hd} {a : Ac} (hA : HdR tc h d A) (hw : Wf h) (h0 : A.2 ≠ 0) (ha : A.1[A.2 - 1]? = some a) : Okp (p_X4_stepBack d h) (fun r h' => AcR tc h' r a ∧ Hst tc h d 0 0 (A.1, A.2 - 1) h') := by
  have st := hd_step (st := A.2 - 1) hA hw (by have := hA.2.2.2.2.2.1; omega)
  obtain ⟨a0, k0, k1, k2, k3, k4, k5, xs, l1, l2⟩ := hA
  have kl := l1.2.1
  have e1 := f_size l1
  have hlen := l2.1
  unfold p_X4_stepBack p_X4_stepBack_0 p_X4_stepBack_23
  simp (disch := omega) only [ck_t, nm_q, bR_s, j_add, j_sub, j_mul, j_nI, j_0, j_le, j_lt, j_eq, j_nat, j_ixe, bI_0, and_self, and_true, true_and, ne_eq, not_false_eq_true, not_true_eq_false, ite_true, ite_false, if_true, if_false, ck_p z_0, ck_p z_1, a0, k0, k3, k1, kl, e1]
  rw [if_neg (by omega), if_pos (by omega), show (A.2 : Int) - 1 = ((A.2 - 1 : Nat) : Int) by omega]
  obtain ⟨b0, q0, q1, q2, q3, q4, q5, ys, m1, m2⟩ := st.1
  have ml := m2.1
  have e2 := f_get m1 (i := A.2 - 1) (by show A.2 - 1 < ys.length; have : ys.length = A.1.length := ml; omega)
  have hr := m2.2 (A.2 - 1) a ha
  have kr := hr.2.2.1
  rw [q3, q1]
  have mk := m1.2.1
  simp (disch := omega) only [ck_t, nm_q, bR_s, j_add, j_sub, j_mul, j_nI, j_0, j_le, j_lt, j_eq, j_nat, j_ixe, bI_0, and_self, and_true, true_and, ne_eq, not_false_eq_true, not_true_eq_false, ite_true, ite_false, if_true, if_false, ck_p z_0, ck_p z_1, q0, mk, e2, kr]
  exact ok_some ⟨hr, st⟩
theorem f_X4_stepForth {tc : Nat → Nat} {h : AH} {d : Nat} {A : Hd} {a : Ac} (hA : HdR tc h d A) (hw : Wf h) (h0 : A.2 < A.1.length) (ha : A.1[A.2]? = some a) : Okp (p_X4_stepForth d h) (fun r h' => AcR tc h' r a ∧ Hst tc h d 0 0 (A.1, A.2 + 1) h') := by
  have st := hd_step (st := A.2 + 1) hA hw (by omega)
  obtain ⟨a0, k0, k1, k2, k3, k4, k5, xs, l1, l2⟩ := hA
  have kl := l1.2.1
  have e1 := f_size l1
  have hlen := l2.1
  unfold p_X4_stepForth p_X4_stepForth_0 p_X4_stepForth_23
  simp (disch := omega) only [ck_t, nm_q, bR_s, j_add, j_sub, j_mul, j_nI, j_0, j_le, j_lt, j_eq, j_nat, j_ixe, bI_0, and_self, and_true, true_and, ne_eq, not_false_eq_true, not_true_eq_false, ite_true, ite_false, if_true, if_false, ck_p z_0, ck_p z_1, a0, k0, k3, k1, kl, e1]
  rw [if_neg (by omega), if_pos (by omega), show (A.2 : Int) + 1 = ((A.2 + 1 : Nat) : Int) by omega]
  obtain ⟨b0, q0, q1, q2, q3, q4, q5, ys, m1, m2⟩ := st.1
  have ml := m2.1
  have e2 := f_get m1 (i := A.2) (by show A.2 < ys.length; have : ys.length = A.1.length := ml; omega)
  have hr := m2.2 A.2 a ha
  have kr := hr.2.2.1
  rw [q3, q1]
  have mk := m1.2.1
  dsimp only at q5 q4
  simp (disch := omega) only [ck_t, nm_q, bR_s, j_add, j_sub, j_mul, j_nI, j_0, j_le, j_lt, j_eq, j_nat, j_ixe, bI_0, and_self, and_true, true_and, ne_eq, not_false_eq_true, not_true_eq_false, ite_true, ite_false, if_true, if_false, ck_p z_0, ck_p z_1, q0, mk, show ((A.2 + 1 : Nat) : Int) - 1 = (A.2 : Int) by omega, e2, kr]
  exact ok_some ⟨hr, st⟩

