
/-! ===== lines: the class goes on, the model begins anew behind a space ===== -/
theorem wst_s (Sg : Nat → Int) (w : Int) (i : Nat) : wst Sg w (i + 1) = if Sg i = 47 then ((i : Int) + 1, -1) else if (i : Int) - (wst Sg w i).1 = w ∧ 0 ≤ (if Sg i = 32 then (i : Int) else (wst Sg w i).2) then ((if Sg i = 32 then (i : Int) else (wst Sg w i).2) + 1, -1) else ((wst Sg w i).1, if Sg i = 32 then (i : Int) else (wst Sg w i).2) := rfl
theorem wst_in (Sg : Nat → Int) (w : Int) (i : Nat) : (wst Sg w i).2 = -1 ∨ (wst Sg w i).1 ≤ (wst Sg w i).2 := by
  induction i with
  | zero => exact Or.inl rfl
  | succ i ih =>
    have hr := wst_rg Sg w i
    rw [wst_s]
    by_cases c1 : Sg i = 47
    · rw [if_pos c1]; exact Or.inl rfl
    · rw [if_neg c1]
      by_cases c2 : (i : Int) - (wst Sg w i).1 = w ∧ 0 ≤ (if Sg i = 32 then (i : Int) else (wst Sg w i).2)
      · rw [if_pos c2]; exact Or.inl rfl
      · rw [if_neg c2]
        by_cases c3 : Sg i = 32
        · simp only [if_pos c3]; exact Or.inr hr.2.1
        · simp only [if_neg c3]; exact ih
theorem wst_mono1 (Sg : Nat → Int) (w : Int) (i : Nat) : (wst Sg w i).1 ≤ (wst Sg w (i + 1)).1 := by
  have hr := wst_rg Sg w i
  have hi := wst_in Sg w i
  rw [wst_s]
  by_cases c1 : Sg i = 47
  · rw [if_pos c1]; show (wst Sg w i).1 ≤ (i : Int) + 1; omega
  · rw [if_neg c1]
    by_cases c2 : (i : Int) - (wst Sg w i).1 = w ∧ 0 ≤ (if Sg i = 32 then (i : Int) else (wst Sg w i).2)
    · rw [if_pos c2]
      show (wst Sg w i).1 ≤ (if Sg i = 32 then (i : Int) else (wst Sg w i).2) + 1
      by_cases c3 : Sg i = 32
      · rw [if_pos c3]; omega
      · rw [if_neg c3] at c2 ⊢; omega
    · rw [if_neg c2]; exact Int.le_refl _
theorem wst_mono (Sg : Nat → Int) (w : Int) {i j : Nat} (h : i ≤ j) : (wst Sg w i).1 ≤ (wst Sg w j).1 := by
  induction j with
  | zero => rw [Nat.le_zero.mp h]; exact Int.le_refl _
  | succ j ih =>
    rcases Nat.lt_or_ge i (j + 1) with c | c
    · have := ih (by omega); have := wst_mono1 Sg w j; omega
    · rw [show i = j + 1 by omega]; exact Int.le_refl _
theorem wmk_rg (Sg : Nat → Int) (w : Int) {i q : Nat} (h : (q : Int) = wmk Sg w i) : (wst Sg w i).1 ≤ q ∧ (q : Int) < (wst Sg w (i + 1)).1 := by
  have hr := wst_rg Sg w i
  have hi := wst_in Sg w i
  unfold wmk at h
  by_cases c1 : Sg i = 47
  · rw [if_pos c1] at h; omega
  · rw [if_neg c1] at h
    by_cases c2 : (i : Int) - (wst Sg w i).1 = w
    · rw [if_pos c2] at h
      rw [wst_s, if_neg c1, if_pos ⟨c2, by omega⟩]
      show _ ∧ (q : Int) < (if Sg i = 32 then (i : Int) else (wst Sg w i).2) + 1
      by_cases c3 : Sg i = 32
      · rw [if_pos c3] at h ⊢; omega
      · rw [if_neg c3] at h ⊢; omega
    · rw [if_neg c2] at h; omega
theorem wWr_or (Sg : Nat → Int) (w : Int) (m q : Nat) : (wWr Sg w m q = 0 ∧ ∀ i, i < m → (q : Int) ≠ wmk Sg w i) ∨ (wWr Sg w m q = 47 ∧ ∃ i, i < m ∧ (q : Int) = wmk Sg w i) := by
  induction m with
  | zero => exact Or.inl ⟨rfl, fun i hi => absurd hi (Nat.not_lt_zero _)⟩
  | succ m ih =>
    have e : wWr Sg w (m + 1) q = if (q : Int) = wmk Sg w m then 47 else wWr Sg w m q := rfl
    rw [e]
    by_cases c : (q : Int) = wmk Sg w m
    · rw [if_pos c]; exact Or.inr ⟨rfl, m, by omega, c⟩
    · rw [if_neg c]
      rcases ih with ⟨z1, z2⟩ | ⟨z1, i, z2, z3⟩
      · refine Or.inl ⟨z1, fun i hi => ?_⟩
        by_cases d : i = m
        · rw [d]; exact c
        · exact z2 i (by omega)
      · exact Or.inr ⟨z1, i, by omega, z3⟩
/-- the last space from a on, below -/
def lsA (Sg : Nat → Int) (a : Nat) : Nat → Int
  | 0 => -1
  | j + 1 => if a ≤ j ∧ Sg j = 32 then (j : Int) else lsA Sg a j
theorem lsA_s (Sg : Nat → Int) (a j : Nat) : lsA Sg a (j + 1) = if a ≤ j ∧ Sg j = 32 then (j : Int) else lsA Sg a j := rfl
theorem lsA_rg (Sg : Nat → Int) (a j : Nat) : lsA Sg a j = -1 ∨ ((a : Int) ≤ lsA Sg a j ∧ lsA Sg a j < j) := by
  induction j with
  | zero => exact Or.inl rfl
  | succ j ih =>
    rw [lsA_s]
    split
    · exact Or.inr ⟨by omega, by omega⟩
    · rcases ih with z | z
      · exact Or.inl z
      · exact Or.inr ⟨z.1, by omega⟩
theorem lsA_none (Sg : Nat → Int) (a j : Nat) (h : ∀ q, a ≤ q → q < j → Sg q ≠ 32) : lsA Sg a j = -1 := by
  induction j with
  | zero => rfl
  | succ j ih =>
    rw [lsA_s, if_neg (fun z => h j z.1 (by omega) z.2)]
    exact ih fun q h1 h2 => h q h1 (by omega)
theorem lsA_max (Sg : Nat → Int) (a j : Nat) {q : Nat} (h1 : lsA Sg a j < q) (h2 : a ≤ q) (h3 : q < j) : Sg q ≠ 32 := by
  induction j with
  | zero => omega
  | succ j ih =>
    rw [lsA_s] at h1
    by_cases c : a ≤ j ∧ Sg j = 32
    · rw [if_pos c] at h1; omega
    · rw [if_neg c] at h1
      by_cases d : q = j
      · subst d; exact fun z => c ⟨h2, z⟩
      · exact ih h1 (by omega)
def WI (Sg : Nat → Int) (w a i : Nat) : Prop := wst Sg (w : Int) i = ((a : Int), -1) ∧ a ≤ i ∧ i ≤ a + w ∧ ∀ j, a ≤ j → j < i → Sg j ≠ 32 ∧ Sg j ≠ 47
theorem wst_run {Sg : Nat → Int} {w a i e : Nat} (hI : WI Sg w a i) (he : ∀ j, a ≤ j → j < e → Sg j ≠ 47) (hw : e ≤ a + w ∨ lsA Sg a (a + w + 1) = -1 ∨ e = a + w + 1) : ∀ d j, j = i + d → j ≤ e → (j ≤ a + w ∨ e ≠ a + w + 1 ∨ lsA Sg a (a + w + 1) = -1) → (wst Sg (w : Int) j).1 = a ∧ (j ≤ a + w → (wst Sg (w : Int) j).2 = lsA Sg a j) := by
  obtain ⟨i1, i2, i3, i4⟩ := hI
  intro d
  induction d with
  | zero =>
    intro j hj hje _
    have ej : j = i := by omega
    subst ej
    rw [i1]
    exact ⟨rfl, fun _ => (lsA_none Sg a j fun q h1 h2 => (i4 q h1 h2).1).symm⟩
  | succ d ih =>
    intro j hj hje hjw
    obtain ⟨j, rfl⟩ : ∃ j', j = j' + 1 := ⟨j - 1, by omega⟩
    have ih' := ih j (by omega) (by omega) (by omega)
    have n47 := he j (by omega) (by omega)
    rw [wst_s, if_neg n47, ih'.1]
    by_cases c : j ≤ a + w
    · rw [ih'.2 c]
      have el : (if Sg j = 32 then (j : Int) else lsA Sg a j) = lsA Sg a (j + 1) := by
        rw [lsA_s]
        by_cases c3 : Sg j = 32
        · rw [if_pos c3, if_pos ⟨by omega, c3⟩]
        · rw [if_neg c3, if_neg (fun z => c3 z.2)]
      rw [el]
      by_cases c2 : j = a + w
      · subst c2
        have : lsA Sg a (a + w + 1) = -1 := by omega
        rw [if_neg (by omega)]
        exact ⟨rfl, fun z => by omega⟩
      · rw [if_neg (by omega)]
        exact ⟨rfl, fun _ => rfl⟩
    · rw [if_neg (by omega)]
      exact ⟨rfl, fun z => by omega⟩
/-- what is marked between two beginnings of lines -/
theorem wWr_seg {Sg : Nat → Int} {w a i a2 i2 M : Nat} (h1 : (wst Sg (w : Int) i).1 = a) (h2 : i2 ≤ M → (wst Sg (w : Int) i2).1 = a2) (h0 : i2 ≤ M ∨ M ≤ i2) {q : Nat} (hq1 : a ≤ q) (hq2 : q < a2) {k : Nat} (hk : k < M) (hm : (q : Int) = wmk Sg (w : Int) k) : i ≤ k ∧ k < i2 := by
  have hr := wmk_rg Sg (w : Int) hm
  refine ⟨?_, ?_⟩
  · rcases Nat.lt_or_ge k i with c | c
    · have := wst_mono Sg (w : Int) (i := k + 1) (j := i) (by omega)
      omega
    · exact c
  · rcases Nat.lt_or_ge k i2 with c | c
    · exact c
    · have := wst_mono Sg (w : Int) (i := i2) (j := k) c
      have := h2 (by omega)
      omega
theorem line_mark {Sg : Nat → Int} {w a i e M s : Nat} (hI : WI Sg w a i) (he : ∀ j, a ≤ j → j < e → Sg j ≠ 47) (heM : e ≤ M) (hw : a + w < e) (hs : lsA Sg a (a + w + 1) = (s : Int)) : WI Sg w (s + 1) (a + w + 1) ∧ a ≤ s ∧ s < a + w + 1 ∧ ∀ q, a ≤ q → q < s + 1 → wWr Sg (w : Int) M q = if q = s then 47 else 0 := by
  have hrg := lsA_rg Sg a (a + w + 1)
  have hse := fun q => lsA_max Sg a (a + w + 1) (q := q)
  obtain ⟨i1, i2, i3, i4⟩ := id hI
  have r1 := fun j (hj1 : i ≤ j) (hj2 : j ≤ a + w) => wst_run (e := a + w + 1) hI (fun j z1 z2 => he j z1 (by omega)) (Or.inr (Or.inr rfl)) (j - i) j (by omega) (by omega) (Or.inl hj2)
  have ra := r1 (a + w) i3 (Nat.le_refl _)
  have n47 := he (a + w) (by omega) hw
  have el : (if Sg (a + w) = 32 then ((a + w : Nat) : Int) else (wst Sg (w : Int) (a + w)).2) = (s : Int) := by
    rw [ra.2 (Nat.le_refl _), ← hs, lsA_s]
    by_cases c3 : Sg (a + w) = 32
    · rw [if_pos c3, if_pos ⟨by omega, c3⟩]
    · rw [if_neg c3, if_neg (fun z => c3 z.2)]
  have es : wst Sg (w : Int) (a + w + 1) = ((s : Int) + 1, -1) := by
    rw [wst_s, if_neg n47, el, ra.1, if_pos ⟨by omega, by omega⟩]
  refine ⟨⟨es, by omega, by omega, fun j z1 z2 => ⟨hse j (by omega) (by omega) z2, he j (by omega) (by omega)⟩⟩, by omega, by omega, fun q q1 q2 => ?_⟩
  have seg := fun k (hk : k < M) hm => wWr_seg (Sg := Sg) (w := w) (a := a) (i := i) (a2 := s + 1) (i2 := a + w + 1) (M := M) (by rw [i1]) (fun _ => by rw [es]; rfl) (by omega) (q := q) q1 q2 (k := k) hk hm
  have mk : ∀ k, i ≤ k → k < a + w + 1 → wmk Sg (w : Int) k = if k = a + w then (s : Int) else -1 := by
    intro k k1 k2
    unfold wmk
    rw [if_neg (he k (by omega) (by omega)), (r1 k k1 (by omega)).1]
    by_cases c : k = a + w
    · rw [if_pos c, if_pos (by omega), c]; exact el
    · rw [if_neg c, if_neg (by omega)]
  rcases wWr_or Sg (w : Int) M q with ⟨z1, z2⟩ | ⟨z1, k, z2, z3⟩
  · rw [z1]
    by_cases c : q = s
    · exfalso
      refine z2 (a + w) (by omega) ?_
      rw [mk (a + w) i3 (by omega), if_pos rfl, c]
    · rw [if_neg c]
  · have sg := seg k z2 z3
    rw [mk k sg.1 sg.2] at z3
    by_cases c : k = a + w
    · rw [if_pos c] at z3
      rw [z1, if_pos (by omega)]
    · rw [if_neg c] at z3; omega
theorem line_none {Sg : Nat → Int} {w a i e M : Nat} (hI : WI Sg w a i) (hiM : i ≤ M) (he : ∀ j, a ≤ j → j < e → Sg j ≠ 47) (haM : a ≤ e) (hie : i ≤ e) (heM : e ≤ M) (hM : e < M → Sg e = 47) (hw : e ≤ a + w ∨ lsA Sg a (a + w + 1) = -1) : (e < M → WI Sg w (e + 1) (e + 1)) ∧ ∀ q, a ≤ q → q < e + 1 → q < M → wWr Sg (w : Int) M q = 0 := by
  obtain ⟨i1, i2, i3, i4⟩ := id hI
  have r1 := fun j (hj1 : i ≤ j) (hj2 : j ≤ e) => wst_run hI he (hw.elim Or.inl (fun z => Or.inr (Or.inl z))) (j - i) j (by omega) hj2 (by omega)
  have es : e < M → wst Sg (w : Int) (e + 1) = ((e : Int) + 1, -1) := by
    intro z
    rw [wst_s, if_pos (hM z)]
  have mk : ∀ k, i ≤ k → k < e → wmk Sg (w : Int) k = -1 := by
    intro k k1 k2
    unfold wmk
    rw [if_neg (he k (by omega) k2), (r1 k k1 (by omega)).1]
    by_cases c : k = a + w
    · rw [if_pos (by omega), (r1 k k1 (by omega)).2 (by omega)]
      have : lsA Sg a (a + w + 1) = -1 := by omega
      rw [← c, lsA_s] at this
      by_cases c3 : Sg k = 32
      · rw [if_pos ⟨by omega, c3⟩] at this; omega
      · rw [if_neg c3]; rw [if_neg (fun z => c3 z.2)] at this; exact this
    · rw [if_neg (by omega)]
  refine ⟨fun z => ⟨es z, Nat.le_refl _, by omega, fun j z1 z2 => by omega⟩, fun q q1 q2 q3 => ?_⟩
  rcases wWr_or Sg (w : Int) M q with ⟨z1, z2⟩ | ⟨z1, k, z2, z3⟩
  · exact z1
  · exfalso
    have seg := wWr_seg (Sg := Sg) (w := w) (a := a) (i := i) (a2 := e + 1) (i2 := e + 1) (M := M) (by rw [i1]) (fun z => by rw [es (by omega)]; rfl) (by omega) (q := q) q1 q2 z2 z3
    rcases Nat.lt_or_ge k e with c | c
    · rw [mk k seg.1 c] at z3; omega
    · have ek : k = e := by omega
      subst ek
      unfold wmk at z3
      rw [if_pos (hM z2)] at z3; omega
theorem cl3_zero {Lt : Nat → Nat} {Sg Wn : Nat → Int} {a : Nat} : ∀ b, a ≤ b → (∀ q, a ≤ q → q < b → Wn q = 0) → cl3 Lt Sg Wn b = cl3 Lt Sg Wn a := by
  intro b
  induction b with
  | zero => intro h _; rw [Nat.le_zero.mp h]
  | succ b ih =>
    intro h hz
    rcases Nat.lt_or_ge a (b + 1) with c | c
    · rw [cl3_s, if_pos (hz b (by omega) (by omega))]
      exact ih (by omega) fun q z1 z2 => hz q z1 (by omega)
    · rw [show a = b + 1 by omega]
theorem g_nextEnd_2 {h : AH} {m t f : Nat} {R : Rw} (ht : t < 3) (hG : RwG R) (hC : DrC h m t f R) : ∀ (d i n : Nat), i + d = qcn (rf R) (rn R) → d < n → p_X11_nextEnd_2 n m (iI t) (iI i) h = some (iI (qfd (fun j => decide (rs R (rsh R j) = 47)) d i), h) := by
  obtain ⟨hK, e18, hr, hs⟩ := hC
  have e29 := hs.1
  have hn := hG.1
  have hqn := qcn_le (rf R) (rn R)
  intro d
  induction d with
  | zero =>
    intro i n hi hn'
    obtain ⟨n, rfl⟩ : ∃ m, n = m + 1 := ⟨n - 1, by omega⟩
    unfold p_X11_nextEnd_2 p_X11_nextEnd_27
    simp (disch := omega) only [ck_t, nm_q, bR_s, j_add, j_sub, j_mul, j_nI, j_0, j_le, j_lt, j_eq, j_nat, j_ixe, bI_0, and_self, and_true, true_and, ne_eq, not_false_eq_true, not_true_eq_false, ite_true, ite_false, if_true, if_false, ck_p z_0, ck_p z_1, K_uI, N_uI, R_uI, L_uI, Z_uI, U_uI, E_uI, C_uI, M_uI, Int.toNat_natCast, mdk hK, e29, if_pos]
    rfl
  | succ d ih =>
    intro i n hi hn'
    obtain ⟨n, rfl⟩ : ∃ m, n = m + 1 := ⟨n - 1, by omega⟩
    have hiq : i < qcn (rf R) (rn R) := by omega
    have e1 := g_signAt hK ht hr hG hs hiq
    have gs := (hG.2.1 _ (rsh_lt hG hiq)).2
    unfold p_X11_nextEnd_2 p_X11_nextEnd_27
    simp (disch := omega) only [ck_t, nm_q, bR_s, j_add, j_sub, j_mul, j_nI, j_0, j_le, j_lt, j_eq, j_nat, j_ixe, bI_0, and_self, and_true, true_and, ne_eq, not_false_eq_true, not_true_eq_false, ite_true, ite_false, if_true, if_false, ck_p z_0, ck_p z_1, K_uI, N_uI, R_uI, L_uI, Z_uI, U_uI, E_uI, C_uI, M_uI, Int.toNat_natCast, mdk hK, e29, if_neg, e1]
    rw [qfd_s]
    by_cases c : rs R (rsh R i) = 47
    · rw [if_pos c, if_pos (decide_eq_true c)]
    · rw [if_neg c, if_neg (by rw [decide_eq_false c]; decide)]
      exact ih (i + 1) n (by omega) (by omega)
theorem wln_24 {k2 : Nat → Int32 → Int32 → Int32 → AH → Option (Unit × AH)} {h : AH} {m t f w a e : Nat} {R : Rw} (ht : t < 3) (hG : RwG R) (hC : DrC h m t f R) (hw : w ≤ 40) (hae : a + w < e) (heM : e ≤ qcn (rf R) (rn R)) : ∀ (d k n : Nat), k + d = a + w + 1 → a ≤ k → d < n → p_X11_wantsLines_24 k2 n m (iI t) (iI w) (iI a) (iI e) (iI (lsA (fun q => rs R (rsh R q)) a k)) (iI k) h = p_X11_wantsLines_67 k2 m (iI t) (iI w) (iI e) (iI (lsA (fun q => rs R (rsh R q)) a (a + w + 1))) h := by
  obtain ⟨hK, e18, hr, hs⟩ := hC
  have hn := hG.1
  have hqn := qcn_le (rf R) (rn R)
  intro d
  induction d with
  | zero =>
    intro k n hi hk hn'
    obtain ⟨n, rfl⟩ : ∃ m, n = m + 1 := ⟨n - 1, by omega⟩
    unfold p_X11_wantsLines_24
    simp (disch := omega) only [ck_t, nm_q, bR_s, j_add, j_sub, j_mul, j_nI, j_0, j_le, j_lt, j_eq, j_nat, j_ixe, bI_0, and_self, and_true, true_and, ne_eq, not_false_eq_true, not_true_eq_false, ite_true, ite_false, if_true, if_false, ck_p z_0, ck_p z_1, K_uI, N_uI, R_uI, L_uI, Z_uI, U_uI, E_uI, C_uI, M_uI, Int.toNat_natCast, if_pos]
    rw [show k = a + w + 1 by omega]
  | succ d ih =>
    intro k n hi hk hn'
    obtain ⟨n, rfl⟩ : ∃ m, n = m + 1 := ⟨n - 1, by omega⟩
    have hkq : k < qcn (rf R) (rn R) := by omega
    have e1 := g_signAt hK ht hr hG hs hkq
    have gs := (hG.2.1 _ (rsh_lt hG hkq)).2
    have e3 := ih (k + 1) n (by omega) (by omega) (by omega)
    rw [lsA_s] at e3
    unfold p_X11_wantsLines_24 p_X11_wantsLines_59
    simp (disch := omega) only [ck_t, nm_q, bR_s, j_add, j_sub, j_mul, j_nI, j_0, j_le, j_lt, j_eq, j_nat, j_ixe, bI_0, and_self, and_true, true_and, ne_eq, not_false_eq_true, not_true_eq_false, ite_true, ite_false, if_true, if_false, ck_p z_0, ck_p z_1, K_uI, N_uI, R_uI, L_uI, Z_uI, U_uI, E_uI, C_uI, M_uI, Int.toNat_natCast, mdk hK, if_neg, e1]
    by_cases c : rs R (rsh R k) = 32
    · rw [if_pos ⟨hk, c⟩] at e3
      rw [if_pos c]
      exact e3
    · rw [if_neg (fun z => c z.2)] at e3
      rw [if_neg c]
      exact e3
theorem g_wln_2 {m t f w : Nat} {R : Rw} (ht : t < 3) (hf : f < 60) (hG : RwG R) (hw : w ≤ 40) : ∀ (d a i n : Nat) (h : AH), a + d = qcn (rf R) (rn R) → i ≤ qcn (rf R) (rn R) → WI (fun q => rs R (rsh R q)) w a i → DrC h m t f R → MDr h m f (cl3 (rsh R) (fun q => rs R (rsh R q)) (wWr (fun q => rs R (rsh R q)) (w : Int) (qcn (rf R) (rn R))) a) → d + 1 < n → Okp (p_X11_wantsLines_2 n m (iI t) (iI w) (iI a) h) (fun _ h' => MDr h' m f (cl3 (rsh R) (fun q => rs R (rsh R q)) (wWr (fun q => rs R (rsh R q)) (w : Int) (qcn (rf R) (rn R))) (qcn (rf R) (rn R))) ∧ Pw (wtW m f) h h') := by
  have hn := hG.1
  have hqn := qcn_le (rf R) (rn R)
  intro d
  induction d using Nat.strongRecOn with
  | ind d ih =>
  intro a i n h had hiM hI hC hD hdn
  obtain ⟨n, rfl⟩ : ∃ m, n = m + 1 := ⟨n - 1, by omega⟩
  have hK := hC.1
  have e29 := hC.2.2.2.1
  rcases Nat.eq_zero_or_pos d with c0 | c0
  · unfold p_X11_wantsLines_2
    simp (disch := omega) only [ck_t, nm_q, bR_s, j_add, j_sub, j_mul, j_nI, j_0, j_le, j_lt, j_eq, j_nat, j_ixe, bI_0, and_self, and_true, true_and, ne_eq, not_false_eq_true, not_true_eq_false, ite_true, ite_false, if_true, if_false, ck_p z_0, ck_p z_1, K_uI, N_uI, R_uI, L_uI, Z_uI, U_uI, E_uI, C_uI, M_uI, Int.toNat_natCast, mdk hK, e29, if_pos]
    have eq : a = qcn (rf R) (rn R) := by omega
    rw [eq] at hD
    exact ok_some ⟨hD, pw_rf⟩
  · have ge := qfd_ge (fun j => decide (rs R (rsh R j) = 47)) d a
    have le := qfd_le (fun j => decide (rs R (rsh R j) = 47)) d a
    have no := fun j z1 z2 => qfd_no (fun j => decide (rs R (rsh R j) = 47)) d a (j := j) z1 z2
    have yes := qfd_is (fun j => decide (rs R (rsh R j) = 47)) d a
    have en := g_nextEnd_2 ht hG hC d a FU had (by unfold FU; omega)
    generalize qfd (fun j => decide (rs R (rsh R j) = 47)) d a = e at *
    have he : ∀ j, a ≤ j → j < e → (fun q => rs R (rsh R q)) j ≠ 47 := fun j z1 z2 => of_decide_eq_false (no j z1 z2)
    have heM : e ≤ qcn (rf R) (rn R) := by omega
    have hM : e < qcn (rf R) (rn R) → (fun q => rs R (rsh R q)) e = 47 := fun z => of_decide_eq_true (yes (by omega))
    have hie : i ≤ e := by
      rcases Nat.lt_or_ge e i with c | c
      · exfalso
        exact (hI.2.2.2 e ge c).2 (hM (by omega))
      · exact c
    have hll := cl3_len (rsh R) (fun q => rs R (rsh R q)) (wWr (fun q => rs R (rsh R q)) (w : Int) (qcn (rf R) (rn R))) a
    have last : ∀ s : Int, (e ≤ a + w → s = -1) → (a + w < e → s = lsA (fun q => rs R (rsh R q)) a (a + w + 1)) → Okp (p_X11_wantsLines_67 (p_X11_wantsLines_2 n) m (iI t) (iI w) (iI e) (iI s) h) (fun _ h' => MDr h' m f (cl3 (rsh R) (fun q => rs R (rsh R q)) (wWr (fun q => rs R (rsh R q)) (w : Int) (qcn (rf R) (rn R))) (qcn (rf R) (rn R))) ∧ Pw (wtW m f) h h') := by
      intro s hs1 hs2
      have hrg := lsA_rg (fun q => rs R (rsh R q)) a (a + w + 1)
      by_cases c : s = -1
      · have hL := line_none hI hiM he ge hie heM hM (by omega)
        subst c
        unfold p_X11_wantsLines_67 p_X11_wantsLines_81 p_X11_wantsLines_97
        simp (disch := omega) only [ck_t, nm_q, bR_s, j_add, j_sub, j_mul, j_nI, j_0, j_le, j_lt, j_eq, j_nat, j_ixe, bI_0, and_self, and_true, true_and, ne_eq, not_false_eq_true, not_true_eq_false, ite_true, ite_false, if_true, if_false, ck_p z_0, ck_p z_1, K_uI, N_uI, R_uI, L_uI, Z_uI, U_uI, E_uI, C_uI, M_uI, Int.toNat_natCast, if_pos]
        by_cases c2 : e < qcn (rf R) (rn R)
        · have ec := cl3_zero (Lt := rsh R) (Sg := fun q => rs R (rsh R q)) (e + 1) (by omega) (fun q z1 z2 => hL.2 q z1 z2 (by omega))
          exact ih (qcn (rf R) (rn R) - (e + 1)) (by omega) (e + 1) (e + 1) n h (by omega) (by omega) (hL.1 c2) hC (by rw [ec]; exact hD) (by omega)
        · have ec := cl3_zero (Lt := rsh R) (Sg := fun q => rs R (rsh R q)) (qcn (rf R) (rn R)) (by omega) (fun q z1 z2 => hL.2 q z1 (by omega) z2)
          obtain ⟨n, rfl⟩ : ∃ m, n = m + 1 := ⟨n - 1, by omega⟩
          unfold p_X11_wantsLines_2
          simp (disch := omega) only [ck_t, nm_q, bR_s, j_add, j_sub, j_mul, j_nI, j_0, j_le, j_lt, j_eq, j_nat, j_ixe, bI_0, and_self, and_true, true_and, ne_eq, not_false_eq_true, not_true_eq_false, ite_true, ite_false, if_true, if_false, ck_p z_0, ck_p z_1, K_uI, N_uI, R_uI, L_uI, Z_uI, U_uI, E_uI, C_uI, M_uI, Int.toNat_natCast, mdk hK, e29, if_pos]
          rw [ec]
          exact ok_some ⟨hD, pw_rf⟩
      · obtain ⟨s', rfl⟩ : ∃ s' : Nat, s = s' := ⟨s.toNat, by omega⟩
        have hL := line_mark hI he heM (by omega) (hs2 (by omega)).symm
        obtain ⟨l1, l2, l3, l4⟩ := hL
        have em := l4 s' l2 (by omega)
        rw [if_pos rfl] at em
        have ec : cl3 (rsh R) (fun q => rs R (rsh R q)) (wWr (fun q => rs R (rsh R q)) (w : Int) (qcn (rf R) (rn R))) (s' + 1) = cl3 (rsh R) (fun q => rs R (rsh R q)) (wWr (fun q => rs R (rsh R q)) (w : Int) (qcn (rf R) (rn R))) a ++ [(rsh R s', rs R (rsh R s'), 47)] := by
          rw [cl3_s, if_neg (by rw [em]; decide), em, cl3_zero s' l2 (fun q z1 z2 => by rw [l4 q z1 (by omega), if_neg (by omega)])]
        unfold p_X11_wantsLines_67 p_X11_wantsLines_81 p_X11_wantsLines_97
        simp (disch := omega) only [ck_t, nm_q, bR_s, j_add, j_sub, j_mul, j_nI, j_0, j_le, j_lt, j_eq, j_nat, j_ixe, bI_0, and_self, and_true, true_and, ne_eq, not_false_eq_true, not_true_eq_false, ite_true, ite_false, if_true, if_false, ck_p z_0, ck_p z_1, K_uI, N_uI, R_uI, L_uI, Z_uI, U_uI, E_uI, C_uI, M_uI, Int.toNat_natCast, mdk hK, if_neg]
        refine ok_bR (show Okp (p_X11_wants m (iI t) (iI s') (iI 47) h) _ from g_wants (w := 47) ht hf hG hC (by omega) hD (by omega)) ?_
        rintro _ h' ⟨z1, z2⟩
        rw [← ec] at z1
        refine ok_to (ih (qcn (rf R) (rn R) - (s' + 1)) (by omega) (s' + 1) (a + w + 1) n h' (by omega) (by omega) l1 (drC_pw hC hG z2) z1 (by omega)) fun _ h2 z => ⟨z.1, pw_tr z2 z.2⟩
    unfold p_X11_wantsLines_2 p_X11_nextEnd p_X11_nextEnd_0
    simp (disch := omega) only [ck_t, nm_q, bR_s, j_add, j_sub, j_mul, j_nI, j_0, j_le, j_lt, j_eq, j_nat, j_ixe, bI_0, and_self, and_true, true_and, ne_eq, not_false_eq_true, not_true_eq_false, ite_true, ite_false, if_true, if_false, ck_p z_0, ck_p z_1, K_uI, N_uI, R_uI, L_uI, Z_uI, U_uI, E_uI, C_uI, M_uI, Int.toNat_natCast, mdk hK, e29, if_neg, en]
    by_cases c : a + w < e
    · have := wln_24 (k2 := p_X11_wantsLines_2 n) ht hG hC hw c heM (w + 1) a FU (by omega) (Nat.le_refl _) (by unfold FU; omega)
      rw [lsA_none _ a a (fun q z1 z2 => by omega)] at this
      rw [this]
      exact last _ (fun z => by omega) (fun _ => rfl)
    · have : p_X11_wantsLines_24 (p_X11_wantsLines_2 n) FU m (iI t) (iI w) (iI a) (iI e) (iI (-1)) (iI a) h = p_X11_wantsLines_67 (p_X11_wantsLines_2 n) m (iI t) (iI w) (iI e) (iI (-1)) h := by
        obtain ⟨fu, efu⟩ : ∃ fu, FU = fu + 1 := ⟨FU - 1, by unfold FU; omega⟩
        rw [efu]
        unfold p_X11_wantsLines_24
        simp (disch := omega) only [ck_t, nm_q, bR_s, j_add, j_sub, j_mul, j_nI, j_0, j_le, j_lt, j_eq, j_nat, j_ixe, bI_0, and_self, and_true, true_and, ne_eq, not_false_eq_true, not_true_eq_false, ite_true, ite_false, if_true, if_false, ck_p z_0, ck_p z_1, K_uI, N_uI, R_uI, L_uI, Z_uI, U_uI, E_uI, C_uI, M_uI, Int.toNat_natCast, if_pos, if_neg]
      rw [this]
      exact last (-1) (fun _ => rfl) (fun z => absurd z c)

