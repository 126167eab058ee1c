
/-! ===== a row: how many letters, their order, their signs, which are there ===== -/
abbrev Rw : Type := Nat × (Nat → Nat) × (Nat → Int) × (Nat → Bool)
def rn (R : Rw) : Nat := R.1
def ro (R : Rw) : Nat → Nat := R.2.1
def rs (R : Rw) : Nat → Int := R.2.2.1
def rt (R : Rw) : Nat → Bool := R.2.2.2
def RowK (h : AH) (a : Nat) : Prop := (a = 0) = False ∧ aK h a = 9 ∧ aR h a 0 = a + 1 ∧ aR h a 1 = a + 2 ∧ aR h a 2 = a + 3 ∧ aK h (a + 1) = 20 ∧ aN h (a + 1) = 150 ∧ aK h (a + 2) = 21 ∧ aN h (a + 2) = 150 ∧ aK h (a + 3) = 22 ∧ aN h (a + 3) = 150 ∧ a + 3 < aZ h
def RowR (h : AH) (a : Nat) (R : Rw) : Prop := RowK h a ∧ aI h a 3 = iI (rn R) ∧ rn R ≤ 150 ∧ ∀ i, i < rn R → aI h (a + 1) i = iI (ro R i) ∧ ro R i < rn R ∧ aI h (a + 2) i = iI (rs R i) ∧ 0 ≤ rs R i ∧ rs R i ≤ 65535 ∧ aI h (a + 3) i = bI (rt R i)
def rhas (R : Rw) (z : Int) : Bool := decide (0 ≤ z ∧ z < rn R)
def rshow (R : Rw) (z : Int) : Bool := rhas R z && rt R z.toNat
/-- shown, by spots -/
def rf (R : Rw) (i : Nat) : Bool := rt R (ro R i)
theorem f_X7_count {h : AH} {a : Nat} {R : Rw} (hr : RowR h a R) : p_X7_count a h = some (iI (rn R), h) := by
  obtain ⟨⟨a0, k0, k1, k2, k3, k4, k5, k6, k7, k8, k9, k10⟩, hn, hn2, hi⟩ := hr
  unfold p_X7_count p_X7_count_0
  simp (disch := omega) only [ck_t, nm_q, bR_s, j_add, j_sub, j_mul, j_nI, j_0, j_le, j_lt, j_eq, j_nat, j_ixe, bI_0, and_self, and_true, true_and, ne_eq, not_false_eq_true, not_true_eq_false, ite_true, ite_false, if_true, if_false, ck_p z_0, ck_p z_1, a0, k0, k1, k2, k3, k4, k5, k6, k7, k8, k9, hn]
theorem f_X7_has {h : AH} {a : Nat} {R : Rw} (hr : RowR h a R) {z : Int} (h1 : -1 ≤ z) (h2 : z < 100000) : p_X7_has a (iI z) h = some (bI (rhas R z), h) := by
  obtain ⟨⟨a0, k0, k1, k2, k3, k4, k5, k6, k7, k8, k9, k10⟩, hn, hn2, hi⟩ := hr
  unfold p_X7_has p_X7_has_0 p_X7_has_16 p_X7_has_17 rhas
  simp (disch := omega) only [ck_t, nm_q, bR_s, j_add, j_sub, j_mul, j_nI, j_0, j_le, j_lt, j_eq, j_nat, j_ixe, bI_0, and_self, and_true, true_and, ne_eq, not_false_eq_true, not_true_eq_false, ite_true, ite_false, if_true, if_false, ck_p z_0, ck_p z_1, a0, k0, k1, k2, k3, k4, k5, k6, k7, k8, k9, hn]
  by_cases c1 : z < 0
  · rw [if_pos c1, decide_eq_false (by omega)]; rfl
  · rw [if_neg c1]
    by_cases c2 : (rn R : Int) ≤ z
    · rw [if_pos c2, decide_eq_false (by omega)]; rfl
    · rw [if_neg c2, decide_eq_true (by omega)]; rfl
theorem f_X7_shows {h : AH} {a : Nat} {R : Rw} (hr : RowR h a R) {z : Int} (h1 : -1 ≤ z) (h2 : z < 100000) : p_X7_shows a (iI z) h = some (bI (rshow R z), h) := by
  have e1 := f_X7_has hr h1 h2
  obtain ⟨⟨a0, k0, k1, k2, k3, k4, k5, k6, k7, k8, k9, k10⟩, hn, hn2, hi⟩ := hr
  unfold p_X7_shows p_X7_shows_0 p_X7_shows_21 p_X7_shows_22 rshow
  simp (disch := omega) only [ck_t, nm_q, bR_s, j_add, j_sub, j_mul, j_nI, j_0, j_le, j_lt, j_eq, j_nat, j_ixe, bI_0, and_self, and_true, true_and, ne_eq, not_false_eq_true, not_true_eq_false, ite_true, ite_false, if_true, if_false, ck_p z_0, ck_p z_1, a0, k0, k1, k2, k3, k4, k5, k6, k7, k8, k9, hn, e1]
  by_cases c1 : rhas R z = true
  · have c2 : 0 ≤ z ∧ z < rn R := of_decide_eq_true c1
    have hz := hi z.toNat (by omega)
    rw [if_neg (by rw [c1]; decide), ck_p (by omega), hz.2.2.2.2.2, c1]
    simp only [bI_0]
    cases rt R z.toNat <;> rfl
  · have c2 : rhas R z = false := by simpa using c1
    rw [if_pos c2, c2]; rfl

theorem f_X7_signOf {h : AH} {a : Nat} {R : Rw} (hr : RowR h a R) {i : Nat} (h1 : i < rn R) : p_X7_signOf a (iI i) h = some (iI (rs R i), h) := by
  have e1 := f_X7_has hr (z := i) (by omega) (by have := hr.2.2.1; omega)
  obtain ⟨⟨a0, k0, k1, k2, k3, k4, k5, k6, k7, k8, k9, k10⟩, hn, hn2, hi⟩ := hr
  have e2 : rhas R i = true := decide_eq_true (by omega)
  have hz := hi i h1
  unfold p_X7_signOf p_X7_signOf_0 p_X7_signOf_18
  simp (disch := omega) only [ck_t, nm_q, bR_s, j_add, j_sub, j_mul, j_nI, j_0, j_le, j_lt, j_eq, j_nat, j_ixe, bI_0, and_self, and_true, true_and, ne_eq, not_false_eq_true, not_true_eq_false, ite_true, ite_false, if_true, if_false, ck_p z_0, ck_p z_1, a0, k0, k1, k2, k3, k4, k5, k6, k7, k8, k9, hn, e1, e2]
  rw [if_neg (by decide), ck_p (by omega), Int.toNat_natCast, hz.2.2.1, ck_p (j_okC hz.2.2.2.1 hz.2.2.2.2.1)]
def rlet (R : Rw) (i : Int) : Int := if 0 ≤ i ∧ i < rn R then (ro R i.toNat : Int) else -1
theorem f_X7_letterAt {h : AH} {a : Nat} {R : Rw} (hr : RowR h a R) {z : Int} (h1 : -1 ≤ z) (h2 : z < 100000) : p_X7_letterAt a (iI z) h = some (iI (rlet R z), h) := by
  obtain ⟨⟨a0, k0, k1, k2, k3, k4, k5, k6, k7, k8, k9, k10⟩, hn, hn2, hi⟩ := hr
  unfold p_X7_letterAt p_X7_letterAt_0 p_X7_letterAt_21 p_X7_letterAt_22 rlet
  simp (disch := omega) only [ck_t, nm_q, bR_s, j_add, j_sub, j_mul, j_nI, j_0, j_le, j_lt, j_eq, j_nat, j_ixe, bI_0, and_self, and_true, true_and, ne_eq, not_false_eq_true, not_true_eq_false, ite_true, ite_false, if_true, if_false, ck_p z_0, ck_p z_1, a0, k0, k1, k2, k3, k4, k5, k6, k7, k8, k9, hn]
  by_cases c1 : z < 0
  · rw [if_pos c1, if_neg (by omega)]
  · rw [if_neg c1]
    by_cases c2 : (rn R : Int) ≤ z
    · rw [if_pos c2, if_neg (by omega)]
    · rw [if_neg c2, if_pos (by omega), ck_p (by omega), (hi z.toNat (by omega)).1]
theorem rlet_in {R : Rw} {i : Nat} (h : i < rn R) : rlet R i = ro R i := by
  unfold rlet
  rw [if_pos (by omega)]; rfl
theorem rshow_in {h : AH} {a : Nat} {R : Rw} (hr : RowR h a R) {i : Nat} (h1 : i < rn R) : rshow R (ro R i) = rf R i := by
  have := (hr.2.2.2 i h1).2.1
  unfold rshow rhas rf
  rw [decide_eq_true (by omega)]; rfl
/-- the letter at a spot, or none -/
def rl (R : Rw) (i : Nat) : Int := if i < rn R then (ro R i : Int) else -1
/-- the spot of a letter, or the end -/
def rpos (R : Rw) (z : Int) : Nat := qfd (fun j => decide ((ro R j : Int) = z)) (rn R) 0
theorem rpos_le (R : Rw) (z : Int) : rpos R z ≤ rn R := by have := qfd_le (fun j => decide ((ro R j : Int) = z)) (rn R) 0; unfold rpos; omega
theorem f_X7_spotOf_2 {h : AH} {a : Nat} {R : Rw} (hr : RowR h a R) {z : Int} (h1 : -1 ≤ z) (h2 : z < 100000) : ∀ (k i n : Nat), i + k = rn R → k < n → p_X7_spotOf_2 n a (iI z) (iI i) h = some (iI (qfd (fun j => decide ((ro R j : Int) = z)) k i), h) := by
  have hr' := hr
  obtain ⟨⟨a0, k0, k1, k2, k3, k4, k5, k6, k7, k8, k9, k10⟩, hn, hn2, hi⟩ := hr
  intro k
  induction k with
  | zero =>
    intro i n hk hn'
    obtain ⟨n, rfl⟩ : ∃ m, n = m + 1 := ⟨n - 1, by omega⟩
    unfold p_X7_spotOf_2
    simp (disch := omega) only [ck_t, nm_q, bR_s, j_add, j_sub, j_mul, j_nI, j_0, j_le, j_lt, j_eq, j_nat, j_ixe, bI_0, and_self, and_true, true_and, ne_eq, not_false_eq_true, not_true_eq_false, ite_true, ite_false, if_true, if_false, ck_p z_0, ck_p z_1, a0, k0, k1, k2, k3, k4, k5, k6, k7, k8, k9, hn]
    rw [if_pos (by omega)]
    show some (iI (rn R), h) = some (iI i, h)
    rw [show i = rn R by omega]
  | succ k ih =>
    intro i n hk hn'
    obtain ⟨n, rfl⟩ : ∃ m, n = m + 1 := ⟨n - 1, by omega⟩
    have hz := hi i (by omega)
    unfold p_X7_spotOf_2
    simp (disch := omega) only [ck_t, nm_q, bR_s, j_add, j_sub, j_mul, j_nI, j_0, j_le, j_lt, j_eq, j_nat, j_ixe, bI_0, and_self, and_true, true_and, ne_eq, not_false_eq_true, not_true_eq_false, ite_true, ite_false, if_true, if_false, ck_p z_0, ck_p z_1, a0, k0, k1, k2, k3, k4, k5, k6, k7, k8, k9, hn, Int.toNat_natCast, hz.1]
    rw [if_neg (by omega), ck_p (by omega)]
    unfold qfd
    by_cases c : (ro R i : Int) = z
    · rw [if_pos c, decide_eq_true c, if_pos rfl]
    · rw [if_neg c, decide_eq_false c, if_neg (by decide)]
      exact ih (i + 1) n (by omega) (by omega)
theorem f_X7_spotOf {h : AH} {a : Nat} {R : Rw} (hr : RowR h a R) {z : Int} (h1 : -1 ≤ z) (h2 : z < 100000) : p_X7_spotOf a (iI z) h = some (iI (rpos R z), h) := by
  have e := f_X7_spotOf_2 hr h1 h2 (rn R) 0 FU (by omega) (by have := hr.2.2.1; unfold FU; omega)
  obtain ⟨⟨a0, k0, k1, k2, k3, k4, k5, k6, k7, k8, k9, k10⟩, hn, hn2, hi⟩ := hr
  unfold p_X7_spotOf p_X7_spotOf_0
  simp (disch := omega) only [ck_t, nm_q, bR_s, j_add, j_sub, j_mul, j_nI, j_0, j_le, j_lt, j_eq, j_nat, j_ixe, bI_0, and_self, and_true, true_and, ne_eq, not_false_eq_true, not_true_eq_false, ite_true, ite_false, if_true, if_false, ck_p z_0, ck_p z_1, a0, k0, k1, k2, k3, k4, k5, k6, k7, k8, k9, hn]
  exact e
theorem f_X7_nearestShownAhead_4 {h : AH} {a : Nat} {R : Rw} (hr : RowR h a R) : ∀ (k n : Nat) (z : Int), z = (k : Int) - 1 → k ≤ rn R → k < n → p_X7_nearestShownAhead_4 n a (iI z) h = some (iI (if qpv (rf R) k = 0 then -1 else (ro R (qpv (rf R) k - 1) : Int)), h) := by
  have hr' := hr
  obtain ⟨⟨a0, k0, k1, k2, k3, k4, k5, k6, k7, k8, k9, k10⟩, hn, hn2, hi⟩ := hr
  intro k
  induction k with
  | zero =>
    intro n z ez hk hn'
    obtain ⟨n, rfl⟩ : ∃ m, n = m + 1 := ⟨n - 1, by omega⟩
    unfold p_X7_nearestShownAhead_4
    simp (disch := omega) only [ck_t, nm_q, bR_s, j_add, j_sub, j_mul, j_nI, j_0, j_le, j_lt, j_eq, j_nat, j_ixe, bI_0, and_self, and_true, true_and, ne_eq, not_false_eq_true, not_true_eq_false, ite_true, ite_false, if_true, if_false, ck_p z_0, ck_p z_1, a0, k0, k1, k2, k3, k4, k5, k6, k7, k8, k9, hn]
    rw [if_pos (by omega)]
    rfl
  | succ k ih =>
    intro n z ez hk hn'
    obtain ⟨n, rfl⟩ : ∃ m, n = m + 1 := ⟨n - 1, by omega⟩
    have hz := hi k (by omega)
    have e1 := f_X7_letterAt hr' (z := k) (by omega) (by omega)
    rw [rlet_in (by omega)] at e1
    have e2 := f_X7_shows hr' (z := ro R k) (by omega) (by omega)
    rw [rshow_in hr' (by omega)] at e2
    have e0 : z = (k : Int) := by omega
    subst e0
    unfold p_X7_nearestShownAhead_4
    simp (disch := omega) only [ck_t, nm_q, bR_s, j_add, j_sub, j_mul, j_nI, j_0, j_le, j_lt, j_eq, j_nat, j_ixe, bI_0, and_self, and_true, true_and, ne_eq, not_false_eq_true, not_true_eq_false, ite_true, ite_false, if_true, if_false, ck_p z_0, ck_p z_1, a0, k0, k1, k2, k3, k4, k5, k6, k7, k8, k9, hn, e1, e2]
    rw [if_neg (by omega)]
    unfold qpv
    cases c : rf R k
    · simp only [Bool.false_eq_true, if_false, if_true]
      exact ih n _ (by omega) (by omega) (by omega)
    · simp only [Bool.true_eq_false, if_false, if_true]
      rw [if_neg (by omega), Nat.add_sub_cancel]
theorem f_X7_nearestShownAhead {h : AH} {a : Nat} {R : Rw} (hr : RowR h a R) {k : Nat} (hk : k ≤ rn R) : p_X7_nearestShownAhead a (iI k) h = some (iI (if qpv (rf R) k = 0 then -1 else (ro R (qpv (rf R) k - 1) : Int)), h) := by
  have e := f_X7_nearestShownAhead_4 hr k FU _ rfl hk (by have := hr.2.2.1; unfold FU; omega)
  obtain ⟨⟨a0, k0, k1, k2, k3, k4, k5, k6, k7, k8, k9, k10⟩, hn, hn2, hi⟩ := hr
  unfold p_X7_nearestShownAhead p_X7_nearestShownAhead_0
  simp (disch := omega) only [ck_t, nm_q, bR_s, j_add, j_sub, j_mul, j_nI, j_0, j_le, j_lt, j_eq, j_nat, j_ixe, bI_0, and_self, and_true, true_and, ne_eq, not_false_eq_true, not_true_eq_false, ite_true, ite_false, if_true, if_false, ck_p z_0, ck_p z_1, a0, k0, k1, k2, k3, k4, k5, k6, k7, k8, k9, hn]
  exact e
theorem f_X7_nearestShownFrom_2 {h : AH} {a : Nat} {R : Rw} (hr : RowR h a R) : ∀ (k i n : Nat), i + k = rn R → k < n → p_X7_nearestShownFrom_2 n a (iI i) h = some (iI (rl R (qfd (rf R) k i)), h) := by
  have hr' := hr
  obtain ⟨⟨a0, k0, k1, k2, k3, k4, k5, k6, k7, k8, k9, k10⟩, hn, hn2, hi⟩ := hr
  intro k
  induction k with
  | zero =>
    intro i n hk hn'
    obtain ⟨n, rfl⟩ : ∃ m, n = m + 1 := ⟨n - 1, by omega⟩
    unfold p_X7_nearestShownFrom_2
    simp (disch := omega) only [ck_t, nm_q, bR_s, j_add, j_sub, j_mul, j_nI, j_0, j_le, j_lt, j_eq, j_nat, j_ixe, bI_0, and_self, and_true, true_and, ne_eq, not_false_eq_true, not_true_eq_false, ite_true, ite_false, if_true, if_false, ck_p z_0, ck_p z_1, a0, k0, k1, k2, k3, k4, k5, k6, k7, k8, k9, hn]
    rw [if_pos (by omega)]
    show _ = some (iI (rl R i), h)
    unfold rl
    rw [if_neg (by omega)]
  | succ k ih =>
    intro i n hk hn'
    obtain ⟨n, rfl⟩ : ∃ m, n = m + 1 := ⟨n - 1, by omega⟩
    have e1 := f_X7_letterAt hr' (z := i) (by omega) (by omega)
    rw [rlet_in (by omega)] at e1
    have hz := hi i (by omega)
    have e2 := f_X7_shows hr' (z := ro R i) (by omega) (by omega)
    rw [rshow_in hr' (by omega)] at e2
    unfold p_X7_nearestShownFrom_2
    simp (disch := omega) only [ck_t, nm_q, bR_s, j_add, j_sub, j_mul, j_nI, j_0, j_le, j_lt, j_eq, j_nat, j_ixe, bI_0, and_self, and_true, true_and, ne_eq, not_false_eq_true, not_true_eq_false, ite_true, ite_false, if_true, if_false, ck_p z_0, ck_p z_1, a0, k0, k1, k2, k3, k4, k5, k6, k7, k8, k9, hn, e1, e2]
    rw [if_neg (by omega)]
    unfold qfd
    cases c : rf R i
    · rw [if_pos rfl, if_neg (by decide)]
      exact ih (i + 1) n (by omega) (by omega)
    · rw [if_neg (by decide), if_pos rfl]
      unfold rl
      rw [if_pos (by omega)]
theorem f_X7_nearestShownFrom {h : AH} {a : Nat} {R : Rw} (hr : RowR h a R) {i : Nat} (hk : i ≤ rn R) : p_X7_nearestShownFrom a (iI i) h = some (iI (rl R (qfd (rf R) (rn R - i) i)), h) := by
  have e := f_X7_nearestShownFrom_2 hr (rn R - i) i FU (by omega) (by have := hr.2.2.1; unfold FU; omega)
  obtain ⟨⟨a0, k0, k1, k2, k3, k4, k5, k6, k7, k8, k9, k10⟩, hn, hn2, hi⟩ := hr
  unfold p_X7_nearestShownFrom p_X7_nearestShownFrom_0
  simp (disch := omega) only [ck_t, nm_q, bR_s, j_add, j_sub, j_mul, j_nI, j_0, j_le, j_lt, j_eq, j_nat, j_ixe, bI_0, and_self, and_true, true_and, ne_eq, not_false_eq_true, not_true_eq_false, ite_true, ite_false, if_true, if_false, ck_p z_0, ck_p z_1, a0, k0, k1, k2, k3, k4, k5, k6, k7, k8, k9, hn]
  exact e
theorem f_X7_shownCountAhead_4 {h : AH} {a : Nat} {R : Rw} (hr : RowR h a R) {m : Nat} (hm : m ≤ rn R) : ∀ (k i n : Nat), i + k = m → k < n → p_X7_shownCountAhead_4 n a (iI m) (iI (qcn (rf R) i)) (iI i) h = some (iI (qcn (rf R) m), h) := by
  have hr' := hr
  obtain ⟨⟨a0, k0, k1, k2, k3, k4, k5, k6, k7, k8, k9, k10⟩, hn, hn2, hi⟩ := hr
  intro k
  induction k with
  | zero =>
    intro i n hk hn'
    obtain ⟨n, rfl⟩ : ∃ m, n = m + 1 := ⟨n - 1, by omega⟩
    unfold p_X7_shownCountAhead_4
    simp (disch := omega) only [ck_t, nm_q, bR_s, j_add, j_sub, j_mul, j_nI, j_0, j_le, j_lt, j_eq, j_nat, j_ixe, bI_0, and_self, and_true, true_and, ne_eq, not_false_eq_true, not_true_eq_false, ite_true, ite_false, if_true, if_false, ck_p z_0, ck_p z_1, a0, k0, k1, k2, k3, k4, k5, k6, k7, k8, k9, hn]
    rw [if_pos (by omega), show i = m by omega]
  | succ k ih =>
    intro i n hk hn'
    obtain ⟨n, rfl⟩ : ∃ m, n = m + 1 := ⟨n - 1, by omega⟩
    have e1 := f_X7_letterAt hr' (z := i) (by omega) (by omega)
    rw [rlet_in (by omega)] at e1
    have hz := hi i (by omega)
    have e2 := f_X7_shows hr' (z := ro R i) (by omega) (by omega)
    rw [rshow_in hr' (by omega)] at e2
    unfold p_X7_shownCountAhead_4 p_X7_shownCountAhead_24
    simp (disch := omega) only [ck_t, nm_q, bR_s, j_add, j_sub, j_mul, j_nI, j_0, j_le, j_lt, j_eq, j_nat, j_ixe, bI_0, and_self, and_true, true_and, ne_eq, not_false_eq_true, not_true_eq_false, ite_true, ite_false, if_true, if_false, ck_p z_0, ck_p z_1, a0, k0, k1, k2, k3, k4, k5, k6, k7, k8, k9, hn, e1, e2]
    rw [if_neg (by omega)]
    have e3 := ih (i + 1) n (by omega) (by omega)
    rw [qcn_s] at e3
    cases c : rf R i
    · rw [c] at e3
      rw [if_pos rfl]
      exact e3
    · rw [c] at e3
      rw [if_neg (by decide)]
      exact e3
theorem f_X7_shownCountAhead {h : AH} {a : Nat} {R : Rw} (hr : RowR h a R) {m : Nat} (hm : m ≤ rn R) : p_X7_shownCountAhead a (iI m) h = some (iI (qcn (rf R) m), h) := by
  have e := f_X7_shownCountAhead_4 hr hm m 0 FU (by omega) (by have := hr.2.2.1; unfold FU; omega)
  obtain ⟨⟨a0, k0, k1, k2, k3, k4, k5, k6, k7, k8, k9, k10⟩, hn, hn2, hi⟩ := hr
  unfold p_X7_shownCountAhead p_X7_shownCountAhead_0
  simp (disch := omega) only [ck_t, nm_q, bR_s, j_add, j_sub, j_mul, j_nI, j_0, j_le, j_lt, j_eq, j_nat, j_ixe, bI_0, and_self, and_true, true_and, ne_eq, not_false_eq_true, not_true_eq_false, ite_true, ite_false, if_true, if_false, ck_p z_0, ck_p z_1, a0, k0, k1, k2, k3, k4, k5, k6, k7, k8, k9, hn]
  exact e
theorem f_X7_shownCount {h : AH} {a : Nat} {R : Rw} (hr : RowR h a R) : p_X7_shownCount a h = some (iI (qcn (rf R) (rn R)), h) := by
  have e := f_X7_shownCountAhead hr (Nat.le_refl _)
  obtain ⟨⟨a0, k0, k1, k2, k3, k4, k5, k6, k7, k8, k9, k10⟩, hn, hn2, hi⟩ := hr
  unfold p_X7_shownCount p_X7_shownCount_0
  simp (disch := omega) only [ck_t, nm_q, bR_s, j_add, j_sub, j_mul, j_nI, j_0, j_le, j_lt, j_eq, j_nat, j_ixe, bI_0, and_self, and_true, true_and, ne_eq, not_false_eq_true, not_true_eq_false, ite_true, ite_false, if_true, if_false, ck_p z_0, ck_p z_1, a0, k0, k1, k2, k3, k4, k5, k6, k7, k8, k9, hn, e]
/-- the spot of the shown letter with p ones ahead of it, or the end -/
def rsel (R : Rw) (p : Int) (k i : Nat) : Nat := qfd (fun j => rf R j && decide ((qcn (rf R) j : Int) = p)) k i
theorem f_X7_shownLetter_4 {h : AH} {a : Nat} {R : Rw} (hr : RowR h a R) {p : Int} (p1 : -2147483648 ≤ p) (p2 : p < 2147483648) : ∀ (k i n : Nat), i + k = rn R → k < n → p_X7_shownLetter_4 n a (iI p) (iI (qcn (rf R) i)) (iI i) h = some (iI (rl R (rsel R p k i)), h) := by
  have hr' := hr
  obtain ⟨⟨a0, k0, k1, k2, k3, k4, k5, k6, k7, k8, k9, k10⟩, hn, hn2, hi⟩ := hr
  intro k
  induction k with
  | zero =>
    intro i n hk hn'
    obtain ⟨n, rfl⟩ : ∃ m, n = m + 1 := ⟨n - 1, by omega⟩
    unfold p_X7_shownLetter_4
    simp (disch := omega) only [ck_t, nm_q, bR_s, j_add, j_sub, j_mul, j_nI, j_0, j_le, j_lt, j_eq, j_nat, j_ixe, bI_0, and_self, and_true, true_and, ne_eq, not_false_eq_true, not_true_eq_false, ite_true, ite_false, if_true, if_false, ck_p z_0, ck_p z_1, a0, k0, k1, k2, k3, k4, k5, k6, k7, k8, k9, hn]
    rw [if_pos (by omega)]
    show _ = some (iI (rl R i), h)
    unfold rl
    rw [if_neg (by omega)]
  | succ k ih =>
    intro i n hk hn'
    obtain ⟨n, rfl⟩ : ∃ m, n = m + 1 := ⟨n - 1, by omega⟩
    have hz := hi i (by omega)
    have hc := qcn_le (rf R) i
    have e2 := f_X7_shows hr' (z := ro R i) (by omega) (by omega)
    rw [rshow_in hr' (by omega)] at e2
    unfold p_X7_shownLetter_4 p_X7_shownLetter_40
    simp (disch := omega) only [ck_t, nm_q, bR_s, j_add, j_sub, j_mul, j_nI, j_0, j_le, j_lt, j_eq, j_nat, j_ixe, bI_0, and_self, and_true, true_and, ne_eq, not_false_eq_true, not_true_eq_false, ite_true, ite_false, if_true, if_false, ck_p z_0, ck_p z_1, a0, k0, k1, k2, k3, k4, k5, k6, k7, k8, k9, hn, Int.toNat_natCast, hz.1, e2]
    rw [if_neg (by omega), ck_p (by omega), ck_p (by omega)]
    have e3 := ih (i + 1) n (by omega) (by omega)
    rw [qcn_s] at e3
    unfold rsel qfd
    cases c : rf R i
    · rw [c] at e3
      rw [if_pos rfl, if_neg (by simp [c])]
      exact e3
    · rw [c] at e3
      rw [if_neg (by decide)]
      by_cases c2 : (qcn (rf R) i : Int) = p
      · rw [if_pos c2, if_pos (by simp [c, c2])]
        unfold rl
        rw [if_pos (by omega)]
      · rw [if_neg c2, if_neg (by simp [c2])]
        exact e3
theorem f_X7_shownLetter {h : AH} {a : Nat} {R : Rw} (hr : RowR h a R) {p : Int} (p1 : -2147483648 ≤ p) (p2 : p < 2147483648) : p_X7_shownLetter a (iI p) h = some (iI (rl R (rsel R p (rn R) 0)), h) := by
  have e := f_X7_shownLetter_4 hr p1 p2 (rn R) 0 FU (by omega) (by have := hr.2.2.1; unfold FU; omega)
  obtain ⟨⟨a0, k0, k1, k2, k3, k4, k5, k6, k7, k8, k9, k10⟩, hn, hn2, hi⟩ := hr
  unfold p_X7_shownLetter p_X7_shownLetter_0
  simp (disch := omega) only [ck_t, nm_q, bR_s, j_add, j_sub, j_mul, j_nI, j_0, j_le, j_lt, j_eq, j_nat, j_ixe, bI_0, and_self, and_true, true_and, ne_eq, not_false_eq_true, not_true_eq_false, ite_true, ite_false, if_true, if_false, ck_p z_0, ck_p z_1, a0, k0, k1, k2, k3, k4, k5, k6, k7, k8, k9, hn]
  exact e
theorem f_X7_isFull {h : AH} {a : Nat} {R : Rw} (hr : RowR h a R) : p_X7_isFull a h = some (bI (decide (150 ≤ rn R)), h) := by
  obtain ⟨⟨a0, k0, k1, k2, k3, k4, k5, k6, k7, k8, k9, k10⟩, hn, hn2, hi⟩ := hr
  unfold p_X7_isFull p_X7_isFull_0 p_X7_isFull_15
  simp (disch := omega) only [ck_t, nm_q, bR_s, j_add, j_sub, j_mul, j_nI, j_0, j_le, j_lt, j_eq, j_nat, j_ixe, bI_0, and_self, and_true, true_and, ne_eq, not_false_eq_true, not_true_eq_false, ite_true, ite_false, if_true, if_false, ck_p z_0, ck_p z_1, a0, k0, k1, k2, k3, k4, k5, k6, k7, k8, k9, hn]
  by_cases c : (rn R : Int) < 150
  · rw [if_pos c, decide_eq_false (by omega)]; rfl
  · rw [if_neg c, decide_eq_true (by omega)]; rfl

