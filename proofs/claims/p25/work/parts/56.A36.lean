
/-! ===== a save is written ===== -/
def sv (S : Cs) (j : Nat) : Sv := (cQ S).getD j (0, 0, 0, -1)
theorem sv_at {S : Cs} {j : Nat} (hj : j < (cQ S).length) : (cQ S)[j]? = some (sv S j) := by
  unfold sv
  rw [List.getD_eq_getElem?_getD, List.getElem?_eq_getElem hj]; rfl
/-- the format for which a save waits, if any, is not waiting, and its text is free for it -/
def rdyS (S : Cs) (s : Sv) : Bool := (decide (s.2.2.2 < 0) || decide (fS (fmD (cF S)[s.2.2.2.toNat]?) ≠ 0)) && isFree (cX S s.2.2.1) s.2.1
/-- no save ahead of it is for its text -/
def fstS (S : Cs) (i : Nat) : Bool := decide (qfd (fun j => decide ((sv S j).2.2.1 = (sv S i).2.2.1)) (cQ S).length 0 = i)
def wok (S : Cs) (i : Nat) : Bool := rdyS S (sv S i) && fstS S i
def wrR (S : Cs) (i : Nat) : Int × Cs := if i < (cQ S).length then ((sv S i).1, (cset (cX S) (sv S i).2.2.1 (xkeep (cX S (sv S i).2.2.1)), cH S, cF S, (cQ S).eraseIdx i, cN S)) else (-1, S)
def wrM (S : Cs) : Int × Cs := wrR S (qfd (wok S) (cQ S).length 0)
theorem al_erase {α : Type} {P : Nat → α → Prop} {xs : List Nat} {ds : List α} (h : Al P xs ds) (i : Nat) : Al P (xs.eraseIdx i) (ds.eraseIdx i) := by
  refine ⟨by rw [List.length_eraseIdx, List.length_eraseIdx, h.1], fun j e hj => ?_⟩
  rw [List.getElem?_eraseIdx] at hj
  rw [gd_e]
  by_cases c : j < i
  · rw [if_pos c] at hj ⊢; exact h.2 j e hj
  · rw [if_neg c] at hj ⊢; exact h.2 (j + 1) e hj
theorem ndp_erase {xs : List Nat} (h : ndp xs) {i : Nat} (hi : i < xs.length) : ndp (xs.eraseIdx i) := by
  intro a b ha hb e
  rw [List.length_eraseIdx, if_pos hi] at ha hb
  rw [gd_e, gd_e] at e
  by_cases c1 : a < i
  · rw [if_pos c1] at e
    by_cases c2 : b < i
    · rw [if_pos c2] at e; exact h a b (by omega) (by omega) e
    · rw [if_neg c2] at e; have := h a (b + 1) (by omega) (by omega) e; omega
  · rw [if_neg c1] at e
    by_cases c2 : b < i
    · rw [if_pos c2] at e; have := h (a + 1) b (by omega) (by omega) e; omega
    · rw [if_neg c2] at e; have := h (a + 1) (b + 1) (by omega) (by omega) e; omega
theorem ck_setQ {h h' : AH} {c : Nat} {S : Cs} {Q : List Sv} {fs qs qs' : List Nat} (hC : CkR h c S) (f1 : LsR h (c + 3) fs) (f2 : Al (FmR (tcc c) h) fs (cF S)) (f3 : ∀ f ∈ fs, c + 62 < aR h f 1) (f4 : ndp fs) (f5 : LsR h (c + 4) qs) (g6 : Al (SvR c fs h) qs' Q) (g7 : ndp qs') (f7 : lc h (c + 3) ≤ 98) (p : Prs (lS h (c + 4)) h h') (hw : Wf h') (g1 : LsR h' (c + 4) qs') (glc : lc h' (c + 4) ≤ 98) (hlen : Q.length ≤ 60) : CkR h' c (cX S, cH S, cF S, Q, cN S) := by
  obtain ⟨b1, b2, b3, b4, b5, b6, b7, b8⟩ := ck_addL hC (Or.inr rfl) f5 p
  have fm : ∀ x G, FmR (tcc c) h x G → c + 62 < aR h x 1 → FmR (tcc c) h' x G ∧ aR h' x = aR h x := by
    intro x G hG hx
    obtain ⟨a1, a2, a3, a4, a5, a6, a7, a8, ys, l1, l2, l3⟩ := hG
    obtain ⟨w1, w2, w3⟩ := b8 x a2 (by omega) (by omega)
    have hz := p.1
    refine ⟨?_, w3⟩
    unfold FmR
    rw [w1, w2, w3]
    refine ⟨a1, by omega, a3, a4, a5, a6, a7, a8, ys, (b7 _ _ l1 (by omega) (by omega)).1, al_mono l2 fun y k _ z => ?_, l3⟩
    obtain ⟨d1, d2, d3, d4⟩ := z
    obtain ⟨u1, u2, u3⟩ := b8 y d2 (by omega) (by omega)
    unfold ChR
    rw [u1, u2]
    exact ⟨d1, by omega, d3, d4⟩
  have sv : ∀ y r, SvR c fs h y r → SvR c fs h' y r := by
    intro y r z
    obtain ⟨a1, a2, a3, a4⟩ := z
    obtain ⟨u1, u2, u3⟩ := b8 y a2 (by omega) (by omega)
    have hz := p.1
    unfold SvR
    rw [u1, u2, u3]
    exact ⟨a1, by omega, a3, a4⟩
  have q3 := b7 _ _ f1 (by omega) (by omega)
  refine ⟨b1, hw, b2, b3, b4, b5, ⟨fs, qs', q3.1, al_mono f2 fun y G hy z => (fm y G z (f3 y hy)).1, fun y hy => ?_, f4, g1, al_mono g6 fun y r _ z => sv y r z, g7, by rw [q3.2]; exact f7, glc⟩, b6, hC.2.2.2.2.2.2.2.2.1, hC.2.2.2.2.2.2.2.2.2.1, hlen, hC.2.2.2.2.2.2.2.2.2.2.2⟩
  obtain ⟨i, G, -, -, -, hG⟩ := al_in f2 hy
  rw [(fm y G hG (f3 y hy)).2]; exact f3 y hy
theorem f_X8_isReady {h : AH} {c x : Nat} {S : Cs} {s : Sv} {fs : List Nat} (hC : CkR h c S) (f2 : Al (FmR (tcc c) h) fs (cF S)) (hs : SvR c fs h x s) : p_X8_isReady x h = some (bI (rdyS S s), h) := by
  obtain ⟨x1, x2, x3, x4, x5, x6, x7, x8, x9, x10, x11, x12⟩ := hs
  have x0 := eq_false x1
  have hT := hC.2.2.2.2.1 _ x10
  have kT := hT.1.2.1
  have e1 := f_X9_isFreeFor hT x9
  have t17 : p_X8_isReady_17 x h = some (bI (isFree (cX S s.2.2.1) s.2.1), h) := by
    unfold p_X8_isReady_17 p_X8_isReady_35 p_X8_isReady_36
    simp (disch := omega) only [ck_t, nm_q, bR_s, j_add, j_sub, j_mul, j_nI, j_0, j_le, j_lt, j_eq, j_nat, j_ixe, bI_0, and_self, and_true, true_and, ne_eq, not_false_eq_true, not_true_eq_false, ite_true, ite_false, if_true, if_false, ck_p z_0, ck_p z_1, x3, x5, x6, kT, e1]
    cases isFree (cX S s.2.2.1) s.2.1
    · rw [if_pos rfl]; rfl
    · rw [if_neg (by decide)]; rfl
  unfold p_X8_isReady p_X8_isReady_0 rdyS
  rw [t17]
  simp only [x0, x3, x7, ne_eq, not_false_eq_true, ck_t]
  by_cases c0 : s.2.2.2 < 0
  · rw [if_pos c0, if_pos rfl, decide_eq_true c0]; rfl
  · rw [if_neg c0, decide_eq_false c0, Bool.false_or]
    have hlt : s.2.2.2.toNat < (cF S).length := by have := f2.1; omega
    have hF := f2.2 _ _ (List.getElem?_eq_getElem hlt)
    have hfp := hC.2.2.2.2.2.2.2.2.2.2.2 _ (List.getElem_mem hlt)
    rw [List.getElem?_eq_getElem hlt, if_neg hF.1, ck_p hF.2.2.1, hF.2.2.2.2.1, j_0, ifc (j_eq (by have := hfp.2.1; omega) (by have := hfp.2.2.1; omega) (by decide) (by decide))]
    show _ = some (bI (decide (fS (cF S)[s.2.2.2.toNat] ≠ 0) && _), h)
    by_cases d : fS (cF S)[s.2.2.2.toNat] = 0
    · rw [if_pos d, decide_eq_false (fun w => w d)]
      unfold p_X8_isReady_35 p_X8_isReady_36
      rw [ck_p z_0]; rfl
    · rw [if_neg d, decide_eq_true d]; rfl
theorem f_isFirst_2 {h : AH} {c i : Nat} {S : Cs} {fs qs : List Nat} (hC : CkR h c S) (f5 : LsR h (c + 4) qs) (f6 : Al (SvR c fs h) qs (cQ S)) (f7 : ndp qs) (hi : i < (cQ S).length) : ∀ (k j n : Nat), j + k = (cQ S).length → j ≤ i → k < n → p_X10_isFirstForItsText_2 n c (qs.getD i 0) (iI j) h = some (bI (decide (qfd (fun j => decide ((sv S j).2.2.1 = (sv S i).2.2.1)) k j = i)), h) := by
  obtain ⟨k0, k1, k2, k3, k4, k5, k6, k7⟩ := ck_c0 hC
  have hlen := f6.1
  have h60 := hC.2.2.2.2.2.2.2.2.2.2.1
  have k3' := f5.2.1
  have e1 := f_size f5
  intro k
  induction k with
  | zero => intro j n h1 h2 h3; omega
  | succ k ih =>
    intro j n h1 h2 h3
    obtain ⟨n, rfl⟩ : ∃ m, n = m + 1 := ⟨n - 1, by omega⟩
    have e2 := f_get f5 (i := j) (by omega)
    have sj := f6.2 j _ (sv_at (by omega))
    have si := f6.2 i _ (sv_at hi)
    unfold p_X10_isFirstForItsText_2 p_X10_isFirstForItsText_57
    simp (disch := omega) only [ck_t, nm_q, bR_s, j_add, j_sub, j_mul, j_nI, j_0, j_le, j_lt, j_eq, j_nat, j_ixe, bI_0, and_self, and_true, true_and, ne_eq, not_false_eq_true, not_true_eq_false, ite_true, ite_false, if_true, if_false, ck_p z_0, ck_p z_1, k1, k5, k3', e1, e2, sj.2.2.1, si.2.2.1, sj.2.2.2.2.2.1, si.2.2.2.2.2.1]
    rw [if_neg (by omega)]
    unfold qfd
    have w1 : tcc c (sv S j).2.2.1 = c + 13 + 12 * (sv S j).2.2.1 := rfl
    have w2 : tcc c (sv S i).2.2.1 = c + 13 + 12 * (sv S i).2.2.1 := rfl
    by_cases d : (sv S j).2.2.1 = (sv S i).2.2.1
    · rw [if_pos (by omega), decide_eq_true d, if_pos rfl]
      by_cases d2 : j = i
      · subst d2
        rw [if_pos rfl, decide_eq_true rfl]; rfl
      · rw [if_neg (fun w => d2 (f7 j i (by omega) (by omega) w)), decide_eq_false d2]; rfl
    · rw [if_neg (by omega), decide_eq_false d, if_neg (by decide)]
      have : j ≠ i := fun w => d (by rw [w])
      exact ih (j + 1) n (by omega) (by omega) (by omega)
theorem f_isFirst {h : AH} {c i : Nat} {S : Cs} {fs qs : List Nat} (hC : CkR h c S) (f5 : LsR h (c + 4) qs) (f6 : Al (SvR c fs h) qs (cQ S)) (f7 : ndp qs) (hi : i < (cQ S).length) : p_X10_isFirstForItsText c (qs.getD i 0) h = some (bI (fstS S i), h) := by
  have h60 := hC.2.2.2.2.2.2.2.2.2.2.1
  have e := f_isFirst_2 hC f5 f6 f7 hi (cQ S).length 0 FU (by omega) (Nat.zero_le _) (by unfold FU; omega)
  have x0 := eq_false (f6.2 i _ (sv_at hi)).1
  obtain ⟨k0, -⟩ := ck_c0 hC
  unfold p_X10_isFirstForItsText p_X10_isFirstForItsText_0
  simp only [k0, x0, ne_eq, not_false_eq_true, ck_t, nm_q]
  exact e
def AnsW (c : Nat) (h : AH) (o : Int × Cs) : Int32 → AH → Prop := fun r h' => r = iI o.1 ∧ CkR h' c o.2 ∧ Cst c h 1000 14100 h'
theorem f_write_2 {h : AH} {c : Nat} {S : Cs} {fs qs : List Nat} (hC : CkR h c S) (f1 : LsR h (c + 3) fs) (f2 : Al (FmR (tcc c) h) fs (cF S)) (f3 : ∀ f ∈ fs, c + 62 < aR h f 1) (f4 : ndp fs) (f5 : LsR h (c + 4) qs) (f6 : Al (SvR c fs h) qs (cQ S)) (f7 : ndp qs ∧ lc h (c + 3) ≤ 98 ∧ lc h (c + 4) ≤ 98) : ∀ (k i n : Nat), i + k = (cQ S).length → k < n → Okp (p_X10_write_2 n c (iI i) h) (AnsW c h (wrR S (qfd (wok S) k i))) := by
  obtain ⟨k0, k1, k2, k3, k4, k5, k6, k7⟩ := ck_c0 hC
  have hlen := f6.1
  have h60 := hC.2.2.2.2.2.2.2.2.2.2.1
  have k3' := f5.2.1
  have e1 := f_size f5
  intro k
  induction k with
  | zero =>
    intro i n h1 h2
    obtain ⟨n, rfl⟩ : ∃ m, n = m + 1 := ⟨n - 1, by omega⟩
    unfold p_X10_write_2
    simp (disch := omega) only [ck_t, nm_q, bR_s, j_add, j_sub, j_mul, j_nI, j_0, j_le, j_lt, j_eq, j_nat, j_ixe, bI_0, and_self, and_true, true_and, ne_eq, not_false_eq_true, not_true_eq_false, ite_true, ite_false, if_true, if_false, ck_p z_0, ck_p z_1, k1, k5, k3', e1]
    rw [if_pos (by omega)]
    have : wrR S (qfd (wok S) 0 i) = (-1, S) := by
      show wrR S i = _
      unfold wrR
      rw [if_neg (by omega)]
    rw [this]
    exact ok_some ⟨rfl, hC, cst_mono cst_rf (by decide) (by decide)⟩
  | succ k ih =>
    intro i n h1 h2
    obtain ⟨n, rfl⟩ : ∃ m, n = m + 1 := ⟨n - 1, by omega⟩
    have hi : i < (cQ S).length := by omega
    have e2 := f_get f5 (i := i) (by omega)
    have si := f6.2 i _ (sv_at hi)
    have e3 := f_X8_isReady hC f2 si
    have e4 := f_isFirst hC f5 f6 f7.1 hi
    have hrec := ih (i + 1) n (by omega) (by omega)
    rw [show (((i + 1 : Nat) : Int)) = (i : Int) + 1 by omega] at hrec
    unfold p_X10_write_2 p_X10_write_67
    simp (disch := omega) only [ck_t, nm_q, bR_s, j_add, j_sub, j_mul, j_nI, j_0, j_le, j_lt, j_eq, j_nat, j_ixe, bI_0, and_self, and_true, true_and, ne_eq, not_false_eq_true, not_true_eq_false, ite_true, ite_false, if_true, if_false, ck_p z_0, ck_p z_1, k1, k5, k3', e1, e2, si.2.2.1, e3, e4]
    rw [if_neg (by omega)]
    unfold qfd
    by_cases d1 : rdyS S (sv S i) = false
    · rw [if_pos d1, if_neg (by unfold wok; rw [d1, Bool.false_and]; decide)]
      exact hrec
    · rw [if_neg d1]
      by_cases d2 : fstS S i = false
      · rw [if_pos d2, if_neg (by unfold wok; rw [d2, Bool.and_false]; decide)]
        exact hrec
      · rw [if_neg d2, if_pos (by unfold wok; simp only [Bool.not_eq_false] at d1 d2; rw [d1, d2]; rfl)]
        have ew : wrR S i = (((sv S i).1 : Int), (cset (cX S) (sv S i).2.2.1 (xkeep (cX S (sv S i).2.2.1)), cH S, cF S, (cQ S).eraseIdx i, cN S)) := if_pos hi
        rw [ew]
        refine ok_bR (f_remove f5 hC.2.1 (by omega)) ?_
        rintro r h1 ⟨-, g2, g3, g4, g5, g6, g7, g8⟩
        have hC1 := ck_setQ hC f1 f2 f3 f4 f5 (al_erase f6 i) (ndp_erase f7.1 (i := i) (by omega)) f7.2.1 g4 g3 g2 (by unfold lc; rw [g7, g8]; exact f7.2.2) (by rw [List.length_eraseIdx]; split <;> omega)
        have sx := si.2.1
        have kx := si.2.2.1
        have nx : ¬ lS h (c + 4) (qs.getD i 0) := by
          rintro (z | z)
          · rw [z] at kx; omega
          · rw [z.1] at kx; have := f5.2.2.2.2.1; omega
        have kx1 : aK h1 (qs.getD i 0) = 10 := by rw [pr_K g4 sx]; exact kx
        have rx1 : aR h1 (qs.getD i 0) 1 = tcc c (sv S i).2.2.1 := by rw [pr_R g4 sx nx]; exact si.2.2.2.2.2.1
        have ix1 : aI h1 (qs.getD i 0) 0 = iI (sv S i).1 := by rw [pr_I g4 sx nx]; exact si.2.2.2.1
        have hb3 : (sv S i).2.2.1 < 3 := si.2.2.2.2.2.2.2.2.2.1
        have hT := hC1.2.2.2.2.1 _ hb3
        rw [ck_p kx1, rx1, ck_p hT.1.2.1]
        refine ok_bR (f_X9_keepAsSaved hT hC1.2.1) ?_
        rintro _ h2 hst
        have hC2 := ck_tx hC1 hb3 hst (Nat.le_refl _)
        have s1 : Cst c h 0 0 h1 := ⟨pr_mono g4 fun q _ z => by
          rcases z with z | z
          · exact Or.inl (by omega)
          · exact Or.inr (Or.inr (Or.inl (by rw [z.1]; exact f5.2.2.2.2.1))), by omega, by omega⟩
        have s2 := cst_tx hT hb3 hst
        have sx1 : qs.getD i 0 < aZ h1 := by omega
        have nx1 : ¬ tS h1 (tcc c (sv S i).2.2.1) (qs.getD i 0) := fun z => by
          have := tS_kinds hT _ z
          omega
        have kx2 : aK h2 (qs.getD i 0) = 10 := by rw [pr_K hst.2.2.1 sx1]; exact kx1
        have ix2 : aI h2 (qs.getD i 0) 0 = iI (sv S i).1 := by rw [pr_I hst.2.2.1 sx1 nx1]; exact ix1
        rw [ck_p kx2, ix2]
        exact ok_some ⟨rfl, hC2, cst_mono (cst_tr s1 s2) (by decide) (by decide)⟩
theorem f_write {h : AH} {c : Nat} {S : Cs} (hC : CkR h c S) : Okp (p_X10_write c h) (AnsW c h (wrM S)) := by
  have h60 := hC.2.2.2.2.2.2.2.2.2.2.1
  obtain ⟨fs, qs, f1, f2, f3, f4, f5, f6, f7⟩ := hC.2.2.2.2.2.2.1
  have e := f_write_2 hC f1 f2 f3 f4 f5 f6 f7 (cQ S).length 0 FU (by omega) (by unfold FU; omega)
  obtain ⟨k0, -⟩ := ck_c0 hC
  unfold p_X10_write p_X10_write_0
  simp only [k0, ne_eq, not_false_eq_true, ck_t, nm_q]
  exact e

