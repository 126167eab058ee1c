
theorem osf_end (Sg : Nat → Int) (m : Nat) : osf Sg m m = true := by
  unfold osf
  rw [Nat.sub_self]
  exact decide_eq_true (Or.inl rfl)
theorem osf_s (Sg : Nat → Int) {m i : Nat} (hi : i < m) : osf Sg m i = if Sg i = 32 then osf Sg m (i + 1) else decide (Sg i = 47) := by
  unfold osf
  rw [show m - i = (m - (i + 1)) + 1 by omega, show qfd (fun j => decide (Sg j ≠ 32)) (m - (i + 1) + 1) i = if decide (Sg i ≠ 32) = true then i else qfd (fun j => decide (Sg j ≠ 32)) (m - (i + 1)) (i + 1) from rfl]
  by_cases c : Sg i = 32
  · rw [if_pos c, if_neg (by rw [decide_eq_true_eq]; exact fun z => z c)]
  · rw [if_neg c, if_pos (decide_eq_true c)]
    apply decide_eq_decide.mpr
    constructor
    · rintro (z | z)
      · omega
      · exact z
    · exact Or.inr
theorem f_X6_ends_9 {b m : Nat} {Lt : Nat → Nat} {Sg : Nat → Int} : ∀ (k n : Nat) (z : Int) (h : AH), z = (k : Int) - 1 → PlR h b m Lt Sg (fun q => if k ≤ q then wEn Sg m q else 0) → k ≤ m → k < n →
    Okp (p_X6_wantBareEnds_9 n b (bI (osf Sg m k)) (iI z) h) (fun _ h' => PlR h' b m Lt Sg (wEn Sg m) ∧ Pi (rS b) h h') := by
  intro k
  induction k with
  | zero =>
    intro n z h ez hp hk hn
    obtain ⟨n, rfl⟩ : ∃ m, n = m + 1 := ⟨n - 1, by omega⟩
    unfold p_X6_wantBareEnds_9
    simp (disch := omega) only [ck_t, nm_q, bR_s, j_add, j_sub, j_mul, j_nI, j_0, j_le, j_lt, j_eq, j_nat, j_ixe, bI_0, and_self, and_true, true_and, ne_eq, not_false_eq_true, not_true_eq_false, ite_true, ite_false, if_true, if_false, ck_p z_0, ck_p z_1]
    rw [if_pos (by omega)]
    exact ok_some ⟨plR_eq hp fun q hq => by rw [if_pos (Nat.zero_le _)], pi_rf⟩
  | succ k ih =>
    intro n z h ez hp hk hn
    obtain ⟨n, rfl⟩ : ∃ m, n = m + 1 := ⟨n - 1, by omega⟩
    have e0 : z = (k : Int) := by omega
    subst e0
    have hp' := hp
    obtain ⟨⟨a0, k0, k1, k2, k3, k4, k5, k6, k7, k8, k9, k10⟩, hc, hm, hq⟩ := hp
    have g1 := hq k (by omega)
    have os := osf_s Sg (m := m) (i := k) (by omega)
    unfold p_X6_wantBareEnds_9 p_X6_wantBareEnds_40 p_X6_wantBareEnds_55
    simp (disch := omega) only [ck_t, nm_q, bR_s, j_add, j_sub, j_mul, j_nI, j_0, j_le, j_lt, j_eq, j_nat, j_ixe, bI_0, and_self, and_true, true_and, ne_eq, not_false_eq_true, not_true_eq_false, ite_true, ite_false, if_true, if_false, ck_p z_0, ck_p z_1, k0, k2, k6, k7, k3, k8, k9, Int.toNat_natCast, g1.2.2.1, j_nC]
    rw [if_neg (by omega), ck_p (by omega), ck_p (by omega)]
    have nx : ∀ g : AH, PlR g b m Lt Sg (fun q => if q = k then wEn Sg m k else if k + 1 ≤ q then wEn Sg m q else 0) → Okp (p_X6_wantBareEnds_9 n b (bI (osf Sg m k)) (iI ((k : Int) + -1)) g) (fun _ h' => PlR h' b m Lt Sg (wEn Sg m) ∧ Pi (rS b) g h') := by
      intro g hg
      refine ih n _ g (by omega) (plR_eq hg fun q hq => ?_) (by omega) (by omega)
      by_cases c : q = k
      · rw [if_pos (by omega), if_pos c, c]
      · rw [if_neg c]
        by_cases d : k + 1 ≤ q
        · rw [if_pos d, if_pos (by omega)]
        · rw [if_neg d, if_neg (by omega)]
    have no : wEn Sg m k = 0 → Okp (p_X6_wantBareEnds_9 n b (bI (osf Sg m k)) (iI ((k : Int) + -1)) h) (fun _ h' => PlR h' b m Lt Sg (wEn Sg m) ∧ Pi (rS b) h h') := by
      intro e
      refine nx h (plR_eq hp' fun q hq => ?_)
      by_cases c : q = k
      · rw [if_pos c, e, if_neg (by omega)]
      · rw [if_neg c]
    by_cases c1 : Sg k = 32
    · rw [if_pos c1]
      rw [if_pos c1] at os
      rw [← os]
      cases c2 : osf Sg m k
      · rw [if_pos rfl]
        rw [c2] at no
        exact no (if_neg fun z => by rw [c2] at z; exact absurd z.2 (by decide))
      · rw [if_neg (by decide)]
        rw [c2] at nx
        have e : wEn Sg m k = 1 := if_pos ⟨c1, c2⟩
        refine ok_to (nx _ ?_) (fun _ h1 q => ⟨q.1, pi_tr (pi_uI ⟨by omega, by omega⟩) q.2⟩)
        rw [e]
        exact plR_set hp' (by decide) (by decide)
    · rw [if_neg c1]
      rw [if_neg c1] at os
      have e : wEn Sg m k = 0 := if_neg fun z => c1 z.1
      by_cases c3 : Sg k = 47
      · rw [if_pos c3]
        rw [decide_eq_true c3] at os
        rw [os] at no
        rw [ck_p (by omega)]
        exact no e
      · rw [if_neg c3]
        rw [decide_eq_false c3] at os
        rw [os] at no
        rw [ck_p (by omega)]
        exact no e
theorem f_X6_ends {h : AH} {b m : Nat} {Lt : Nat → Nat} {Sg : Nat → Int} (hp : PlR h b m Lt Sg (fun _ => 0)) : Okp (p_X6_wantBareEnds b h) (fun _ h' => PlR h' b m Lt Sg (wEn Sg m) ∧ Pi (rS b) h h') := by
  have a0 := hp.1.1
  have hm := hp.2.2.1
  have hc := hp.2.1
  have k0 := hp.1.2.1
  unfold p_X6_wantBareEnds p_X6_wantBareEnds_0
  simp (disch := omega) only [ck_t, nm_q, bR_s, j_add, j_sub, j_mul, j_nI, j_0, j_le, j_lt, j_eq, j_nat, j_ixe, bI_0, and_self, and_true, true_and, ne_eq, not_false_eq_true, not_true_eq_false, ite_true, ite_false, if_true, if_false, ck_p z_0, ck_p z_1, a0, k0, hc]
  have e := f_X6_ends_9 (Lt := Lt) (Sg := Sg) m FU _ h rfl (plR_eq hp fun q hq => by rw [if_neg (by omega)]) (Nat.le_refl _) (by unfold FU; omega)
  rw [osf_end] at e
  exact e
/-- whether a line begins at a place -/
def bgn (Sg : Nat → Int) (q : Nat) : Bool := decide (q = 0 ∨ Sg (q - 1) = 47)
theorem f_X6_caps_4 {b m : Nat} {Lt : Nat → Nat} {Sg : Nat → Int} : ∀ (k i n : Nat) (h : AH), PlR h b m Lt Sg (fun q => if q < i then wCa Sg q else 0) → i + k = m → k < n →
    Okp (p_X6_wantCapitals_4 n b (bI (bgn Sg i)) (iI i) h) (fun _ h' => PlR h' b m Lt Sg (wCa Sg) ∧ Pi (rS b) h h') := by
  intro k
  induction k with
  | zero =>
    intro i n h hp hk hn
    obtain ⟨n, rfl⟩ : ∃ m, n = m + 1 := ⟨n - 1, by omega⟩
    have k0 := hp.1.2.1
    have hc := hp.2.1
    have hm := hp.2.2.1
    unfold p_X6_wantCapitals_4
    simp (disch := omega) only [ck_t, nm_q, bR_s, j_add, j_sub, j_mul, j_nI, j_0, j_le, j_lt, j_eq, j_nat, j_ixe, bI_0, and_self, and_true, true_and, ne_eq, not_false_eq_true, not_true_eq_false, ite_true, ite_false, if_true, if_false, ck_p z_0, ck_p z_1, k0, hc]
    rw [if_pos (by omega)]
    exact ok_some ⟨plR_eq hp fun q hq => by rw [if_pos (by omega)], pi_rf⟩
  | succ k ih =>
    intro i n h hp hk hn
    obtain ⟨n, rfl⟩ : ∃ m, n = m + 1 := ⟨n - 1, by omega⟩
    have hp' := hp
    obtain ⟨⟨a0, k0, k1, k2, k3, k4, k5, k6, k7, k8, k9, k10⟩, hc, hm, hq⟩ := hp
    have g1 := hq i (by omega)
    -- the end of a round
    have rnd : ∀ g : AH, PlR g b m Lt Sg (fun q => if q = i then wCa Sg i else if q < i then wCa Sg q else 0) → Okp (p_X6_wantCapitals_57 (p_X6_wantCapitals_4 n) b (iI i) g) (fun _ h' => PlR h' b m Lt Sg (wCa Sg) ∧ Pi (rS b) g h') := by
      intro g hg
      have hg' := hg
      obtain ⟨⟨b0, l0, l1, l2, l3, l4, l5, l6, l7, l8, l9, l10⟩, gc, gm, gq⟩ := hg
      have g2 := gq i (by omega)
      unfold p_X6_wantCapitals_57 p_X6_wantCapitals_73
      simp (disch := omega) only [ck_t, nm_q, bR_s, j_add, j_sub, j_mul, j_nI, j_0, j_le, j_lt, j_eq, j_nat, j_ixe, bI_0, and_self, and_true, true_and, ne_eq, not_false_eq_true, not_true_eq_false, ite_true, ite_false, if_true, if_false, ck_p z_0, ck_p z_1, l0, l2, l6, l7, Int.toNat_natCast, g2.2.2.1]
      rw [ck_p (by omega)]
      have e := ih (i + 1) n g (plR_eq hg' fun q hq => by
        by_cases c : q = i
        · rw [if_pos (by omega), if_pos c, c]
        · rw [if_neg c]
          by_cases d : q < i
          · rw [if_pos d, if_pos (by omega)]
          · rw [if_neg d, if_neg (by omega)]) (by omega) (by omega)
      have eb : bgn Sg (i + 1) = decide (Sg i = 47) := by
        unfold bgn
        apply decide_eq_decide.mpr
        rw [Nat.add_sub_cancel]
        constructor
        · rintro (z | z)
          · omega
          · exact z
        · exact Or.inr
      by_cases c : Sg i = 47
      · rw [if_pos c]
        rw [eb, decide_eq_true c] at e
        exact e
      · rw [if_neg c]
        rw [eb, decide_eq_false c] at e
        exact e
    have no : wCa Sg i = 0 → Okp (p_X6_wantCapitals_57 (p_X6_wantCapitals_4 n) b (iI i) h) (fun _ h' => PlR h' b m Lt Sg (wCa Sg) ∧ Pi (rS b) h h') := by
      intro e
      refine rnd h (plR_eq hp' fun q hq => ?_)
      by_cases c : q = i
      · rw [if_pos c, e, if_neg (by omega)]
      · rw [if_neg c]
    unfold p_X6_wantCapitals_4
    simp (disch := omega) only [ck_t, nm_q, bR_s, j_add, j_sub, j_mul, j_nI, j_0, j_le, j_lt, j_eq, j_nat, j_ixe, bI_0, and_self, and_true, true_and, ne_eq, not_false_eq_true, not_true_eq_false, ite_true, ite_false, if_true, if_false, ck_p z_0, ck_p z_1, k0, hc, k2, k6, k7, k3, k8, k9, Int.toNat_natCast, g1.2.2.1]
    rw [if_neg (by omega)]
    cases cb : bgn Sg i
    · rw [if_pos rfl]
      exact no (if_neg fun z => by unfold bgn at cb; exact absurd z.1 (of_decide_eq_false cb))
    · rw [if_neg (by decide), ck_p (by omega)]
      by_cases c1 : Sg i < 97
      · rw [if_pos c1]
        exact no (if_neg fun z => by omega)
      · rw [if_neg c1, ck_p (by omega)]
        by_cases c2 : 122 < Sg i
        · rw [if_pos c2]
          exact no (if_neg fun z => by omega)
        · rw [if_neg c2, ck_p (by omega), ck_p (by omega), j_nC (by omega) (by omega), j_nC (by omega) (by omega)]
          have e : wCa Sg i = Sg i - 97 + 65 := by
            unfold wCa
            rw [if_pos ⟨of_decide_eq_true cb, by omega, by omega⟩]
            omega
          refine ok_to (rnd _ ?_) (fun _ h1 q => ⟨q.1, pi_tr (pi_uI ⟨by omega, by omega⟩) q.2⟩)
          rw [e]
          exact plR_set hp' (by omega) (by omega)
theorem f_X6_caps {h : AH} {b m : Nat} {Lt : Nat → Nat} {Sg : Nat → Int} (hp : PlR h b m Lt Sg (fun _ => 0)) : Okp (p_X6_wantCapitals b h) (fun _ h' => PlR h' b m Lt Sg (wCa Sg) ∧ Pi (rS b) h h') := by
  have a0 := hp.1.1
  have hm := hp.2.2.1
  unfold p_X6_wantCapitals p_X6_wantCapitals_0
  simp (disch := omega) only [ck_t, nm_q, bR_s, j_add, j_sub, j_mul, j_nI, j_0, j_le, j_lt, j_eq, j_nat, j_ixe, bI_0, and_self, and_true, true_and, ne_eq, not_false_eq_true, not_true_eq_false, ite_true, ite_false, if_true, if_false, ck_p z_0, ck_p z_1, a0]
  exact f_X6_caps_4 m 0 FU h (plR_eq hp fun q hq => by rw [if_neg (Nat.not_lt_zero _)]) (by omega) (by unfold FU; omega)
/-! lines: where one begins, and its last space -/
def wst (Sg : Nat → Int) (w : Int) : Nat → Int × Int
  | 0 => (0, -1)
  | i + 1 => if Sg i = 47 then ((i : Int) + 1, -1) else if (i : Int) - (wst Sg w i).1 = w ∧ 0 ≤ (if Sg i = 32 then (i : Int) else (wst Sg w i).2) then ((if Sg i = 32 then (i : Int) else (wst Sg w i).2) + 1, -1) else ((wst Sg w i).1, if Sg i = 32 then (i : Int) else (wst Sg w i).2)
def wmk (Sg : Nat → Int) (w : Int) (i : Nat) : Int := if Sg i = 47 then -1 else if (i : Int) - (wst Sg w i).1 = w then (if Sg i = 32 then (i : Int) else (wst Sg w i).2) else -1
def wWr (Sg : Nat → Int) (w : Int) : Nat → Nat → Int
  | 0, _ => 0
  | i + 1, q => if (q : Int) = wmk Sg w i then 47 else wWr Sg w i q
theorem wst_rg (Sg : Nat → Int) (w : Int) (i : Nat) : 0 ≤ (wst Sg w i).1 ∧ (wst Sg w i).1 ≤ i ∧ -1 ≤ (wst Sg w i).2 ∧ (wst Sg w i).2 < i := by
  induction i with
  | zero => exact ⟨Int.le_refl 0, Int.le_refl 0, Int.le_refl _, by show (-1 : Int) < 0; decide⟩
  | succ i ih =>
    obtain ⟨s, es⟩ : ∃ s, s = (wst Sg w i).1 := ⟨_, rfl⟩
    obtain ⟨p, ep⟩ : ∃ p, p = (if Sg i = 32 then (i : Int) else (wst Sg w i).2) := ⟨_, rfl⟩
    have hp : -1 ≤ p ∧ p ≤ i := by rw [ep]; split <;> omega
    have e : wst Sg w (i + 1) = if Sg i = 47 then ((i : Int) + 1, -1) else if (i : Int) - s = w ∧ 0 ≤ p then (p + 1, -1) else (s, p) := by rw [es, ep]; rfl
    rw [e]
    rw [← es] at ih
    by_cases c1 : Sg i = 47
    · rw [if_pos c1]
      exact ⟨by show 0 ≤ (i : Int) + 1; omega, by show (i : Int) + 1 ≤ ((i + 1 : Nat) : Int); omega, Int.le_refl _, by show (-1 : Int) < ((i + 1 : Nat) : Int); omega⟩
    · rw [if_neg c1]
      by_cases c2 : (i : Int) - s = w ∧ 0 ≤ p
      · rw [if_pos c2]
        exact ⟨by show 0 ≤ p + 1; omega, by show p + 1 ≤ ((i + 1 : Nat) : Int); omega, Int.le_refl _, by show (-1 : Int) < ((i + 1 : Nat) : Int); omega⟩
      · rw [if_neg c2]
        exact ⟨ih.1, by show s ≤ ((i + 1 : Nat) : Int); omega, hp.1, by show p < ((i + 1 : Nat) : Int); omega⟩
theorem f_X6_wrap_7 {b m : Nat} {Lt : Nat → Nat} {Sg : Nat → Int} {w : Int} (w1 : 0 ≤ w) (w2 : w ≤ 1000) : ∀ (k i n : Nat) (h : AH), PlR h b m Lt Sg (wWr Sg w i) → i + k = m → k < n →
    Okp (p_X6_wantWrapped_7 n b (iI w) (iI (wst Sg w i).1) (iI (wst Sg w i).2) (iI i) h) (fun _ h' => PlR h' b m Lt Sg (wWr Sg w m) ∧ Pi (rS b) h h') := by
  intro k
  induction k with
  | zero =>
    intro i n h hp hk hn
    obtain ⟨n, rfl⟩ : ∃ m, n = m + 1 := ⟨n - 1, by omega⟩
    have k0 := hp.1.2.1
    have hc := hp.2.1
    have hm := hp.2.2.1
    unfold p_X6_wantWrapped_7
    simp (disch := omega) only [ck_t, nm_q, bR_s, j_add, j_sub, j_mul, j_nI, j_0, j_le, j_lt, j_eq, j_nat, j_ixe, bI_0, and_self, and_true, true_and, ne_eq, not_false_eq_true, not_true_eq_false, ite_true, ite_false, if_true, if_false, ck_p z_0, ck_p z_1, k0, hc]
    rw [if_pos (by omega)]
    exact ok_some ⟨by rw [show m = i by omega] at hp ⊢; exact hp, pi_rf⟩
  | succ k ih =>
    intro i n h hp hk hn
    obtain ⟨n, rfl⟩ : ∃ m, n = m + 1 := ⟨n - 1, by omega⟩
    have hp' := hp
    obtain ⟨⟨a0, k0, k1, k2, k3, k4, k5, k6, k7, k8, k9, k10⟩, hc, hm, hq⟩ := hp
    have g1 := hq i (by omega)
    have rg := wst_rg Sg w i
    obtain ⟨s, es⟩ : ∃ s, s = (wst Sg w i).1 := ⟨_, rfl⟩
    obtain ⟨p, ep⟩ : ∃ p, p = (wst Sg w i).2 := ⟨_, rfl⟩
    rw [← es, ← ep] at rg ⊢
    have nxt : ∀ (s' p' : Int) (g : AH), wst Sg w (i + 1) = (s', p') → PlR g b m Lt Sg (wWr Sg w (i + 1)) → Okp (p_X6_wantWrapped_7 n b (iI w) (iI s') (iI p') (iI ((i : Int) + 1)) g) (fun _ h' => PlR h' b m Lt Sg (wWr Sg w m) ∧ Pi (rS b) g h') := by
      intro s' p' g e hg
      have := ih (i + 1) n g hg (by omega) (by omega)
      rw [e] at this
      exact this
    have keep : (∀ q : Nat, q < m → (q : Int) ≠ wmk Sg w i) → PlR h b m Lt Sg (wWr Sg w (i + 1)) := by
      intro hno
      refine plR_eq hp' fun q hq => ?_
      show (if (q : Int) = wmk Sg w i then 47 else wWr Sg w i q) = _
      rw [if_neg (hno q hq)]
    -- the part behind the space
    have tail : ∀ p' : Int, p' = (if Sg i = 32 then (i : Int) else p) → Sg i ≠ 47 → Okp (p_X6_wantWrapped_53 (p_X6_wantWrapped_7 n) b (iI w) (iI s) (iI p') (iI i) h) (fun _ h' => PlR h' b m Lt Sg (wWr Sg w m) ∧ Pi (rS b) h h') := by
      intro p' e h47
      have rp : -1 ≤ p' ∧ p' ≤ i := by rw [e]; split <;> omega
      have ew : wst Sg w (i + 1) = if (i : Int) - s = w ∧ 0 ≤ p' then (p' + 1, -1) else (s, p') := by
        rw [e, es, ep]
        show (if Sg i = 47 then _ else _) = _
        rw [if_neg h47]
      have em : wmk Sg w i = if (i : Int) - s = w then p' else -1 := by
        rw [e, es, ep]
        unfold wmk
        rw [if_neg h47]
      unfold p_X6_wantWrapped_53 p_X6_wantWrapped_79
      simp (disch := omega) only [ck_t, nm_q, bR_s, j_add, j_sub, j_mul, j_nI, j_0, j_le, j_lt, j_eq, j_nat, j_ixe, bI_0, and_self, and_true, true_and, ne_eq, not_false_eq_true, not_true_eq_false, ite_true, ite_false, if_true, if_false, ck_p z_0, ck_p z_1, k0, k3, k8, k9, j_nC]
      by_cases c1 : (i : Int) - s = w
      · rw [if_pos c1]
        rw [if_pos c1] at em
        by_cases c2 : p' < 0
        · rw [if_pos c2]
          rw [if_neg (by omega)] at ew
          exact nxt s p' h ew (keep fun q _ => by rw [em]; omega)
        · rw [if_neg c2, ck_p (by omega)]
          rw [if_pos ⟨c1, by omega⟩] at ew
          refine ok_to (nxt (p' + 1) (-1) _ ew ?_) (fun _ h1 q => ⟨q.1, pi_tr (pi_uI ⟨by omega, by omega⟩) q.2⟩)
          refine plR_eq (plR_set hp' (i := p'.toNat) (w := 47) (by decide) (by decide)) fun q hq => ?_
          show (if (q : Int) = wmk Sg w i then 47 else wWr Sg w i q) = _
          rw [em]
          by_cases d : q = p'.toNat
          · rw [if_pos (by omega), if_pos d]
          · rw [if_neg (by omega), if_neg d]
      · rw [if_neg c1]
        rw [if_neg c1] at em
        rw [if_neg (fun z => c1 z.1)] at ew
        exact nxt s p' h ew (keep fun q _ => by rw [em]; omega)
    unfold p_X6_wantWrapped_7
    simp (disch := omega) only [ck_t, nm_q, bR_s, j_add, j_sub, j_mul, j_nI, j_0, j_le, j_lt, j_eq, j_nat, j_ixe, bI_0, and_self, and_true, true_and, ne_eq, not_false_eq_true, not_true_eq_false, ite_true, ite_false, if_true, if_false, ck_p z_0, ck_p z_1, k0, hc, k2, k6, k7, Int.toNat_natCast, g1.2.2.1]
    rw [if_neg (by omega), ck_p (by omega), ck_p (by omega)]
    by_cases c1 : Sg i = 47
    · rw [if_pos c1]
      unfold p_X6_wantWrapped_79
      simp (disch := omega) only [ck_t, nm_q, bR_s, j_add, j_sub, j_mul, j_nI, j_0, j_le, j_lt, j_eq, j_nat, j_ixe, bI_0, and_self, and_true, true_and, ne_eq, not_false_eq_true, not_true_eq_false, ite_true, ite_false, if_true, if_false, ck_p z_0, ck_p z_1]
      have ew : wst Sg w (i + 1) = ((i : Int) + 1, -1) := by
        show (if Sg i = 47 then _ else _) = _
        rw [if_pos c1]
      have em : wmk Sg w i = -1 := by unfold wmk; rw [if_pos c1]
      exact nxt _ _ h ew (keep fun q _ => by rw [em]; omega)
    · rw [if_neg c1]
      by_cases c2 : Sg i = 32
      · rw [if_pos c2]
        exact tail i (by rw [if_pos c2]) c1
      · rw [if_neg c2]
        exact tail p (by rw [if_neg c2]) c1
theorem f_X6_wrap {h : AH} {b m : Nat} {Lt : Nat → Nat} {Sg : Nat → Int} {w : Int} (w1 : 0 ≤ w) (w2 : w ≤ 1000) (hp : PlR h b m Lt Sg (fun _ => 0)) : Okp (p_X6_wantWrapped b (iI w) h) (fun _ h' => PlR h' b m Lt Sg (wWr Sg w m) ∧ Pi (rS b) h h') := by
  have a0 := hp.1.1
  have hm := hp.2.2.1
  unfold p_X6_wantWrapped p_X6_wantWrapped_0
  simp (disch := omega) only [ck_t, nm_q, bR_s, j_add, j_sub, j_mul, j_nI, j_0, j_le, j_lt, j_eq, j_nat, j_ixe, bI_0, and_self, and_true, true_and, ne_eq, not_false_eq_true, not_true_eq_false, ite_true, ite_false, if_true, if_false, ck_p z_0, ck_p z_1, a0]
  exact f_X6_wrap_7 w1 w2 m 0 FU h hp (by omega) (by unfold FU; omega)
/-- what a kind of format wants -/
def wAll (kd nb : Int) (Sg : Nat → Int) (m : Nat) : Nat → Int := if kd = 0 then wSp Sg else if kd = 1 then wEn Sg m else if kd = 2 then wCa Sg else wWr Sg nb m
theorem f_X6_draw {h : AH} {a b : Nat} {R : Rw} {kd nb : Int} (hab : b + 3 < a ∨ a + 3 < b) (hr : RowR h a R) (hk : PlK h b) (kd1 : 0 ≤ kd) (kd2 : kd ≤ 3) (n1 : 0 ≤ nb) (n2 : nb ≤ 1000) : Okp (p_X6_draw b a (iI kd) (iI nb) h) (fun _ h' => PlR h' b (qcn (rf R) (rn R)) (rsh R) (fun q => rs R (rsh R q)) (wAll kd nb (fun q => rs R (rsh R q)) (qcn (rf R) (rn R))) ∧ Pi (rS b) h h') := by
  have a0 := hk.1
  have k0 := hk.2.1
  have a1 := hr.1.1
  unfold p_X6_draw p_X6_draw_0 p_X6_draw_58 wAll
  simp (disch := omega) only [ck_t, nm_q, bR_s, j_add, j_sub, j_mul, j_nI, j_0, j_le, j_lt, j_eq, j_nat, j_ixe, bI_0, and_self, and_true, true_and, ne_eq, not_false_eq_true, not_true_eq_false, ite_true, ite_false, if_true, if_false, ck_p z_0, ck_p z_1, a0, a1, k0]
  refine ok_bR (f_X6_look hab hr hk) ?_
  rintro _ h1 ⟨q1, q2⟩
  have k1 := q1.1.2.1
  simp (disch := omega) only [ck_t, nm_q, bR_s, j_add, j_sub, j_mul, j_nI, j_0, j_le, j_lt, j_eq, j_nat, j_ixe, bI_0, and_self, and_true, true_and, ne_eq, not_false_eq_true, not_true_eq_false, ite_true, ite_false, if_true, if_false, ck_p z_0, ck_p z_1, k1]
  by_cases c0 : kd = 0
  · rw [if_pos c0, if_pos c0]
    exact ok_bR (f_X6_single q1) fun _ h2 q => ok_some ⟨q.1, pi_tr q2 q.2⟩
  · rw [if_neg c0, if_neg c0]
    by_cases c1 : kd = 1
    · rw [if_pos c1, if_pos c1]
      exact ok_bR (f_X6_ends q1) fun _ h2 q => ok_some ⟨q.1, pi_tr q2 q.2⟩
    · rw [if_neg c1, if_neg c1]
      by_cases c2 : kd = 2
      · rw [if_pos c2, if_pos c2]
        exact ok_bR (f_X6_caps q1) fun _ h2 q => ok_some ⟨q.1, pi_tr q2 q.2⟩
      · rw [if_neg c2, if_neg c2]
        exact ok_bR (f_X6_wrap n1 n2 q1) fun _ h2 q => ok_some ⟨q.1, pi_tr q2 q.2⟩

