
/-! ===== the model's rows ===== -/
theorem n_150 (t i : Nat) : (150 * (t : Int) + (i : Int)).toNat = 150 * t + i := by omega
theorem n_5 (t i : Nat) : (5 * (t : Int) + (i : Int)).toNat = 5 * t + i := by omega
theorem n_600 (t i : Nat) : (600 * (t : Int) + (i : Int)).toNat = 600 * t + i := by omega
def cdI (e : Nat) : Int := e
def cd2 (e : Nat) : Int := if e = 3 then 2 else e
def mdW (m q _j : Nat) : Prop := m ≤ q ∧ q ≤ m + 28
def MAn (cd : Nat → Int) (m : Nat) (h : AH) (o : Out) : Int32 → AH → Prop := fun r h' => aI h' m 31 = iI (match o.1 with | .ok _ => 0 | .error e => cd e) ∧ (∀ v, o.1 = .ok v → r = iI v) ∧ MdR h' m o.2 ∧ Pw (mdW m) h h'
theorem man_ok {cd : Nat → Int} {m : Nat} {h h' : AH} {v : Int} {S' : Cs} (h31 : aI h' m 31 = iI 0) (hR : MdR h' m S') (hp : Pw (mdW m) h h') : MAn cd m h (.ok v, S') (iI v) h' := ⟨h31, fun w e => by cases e; rfl, hR, hp⟩
theorem man_er {cd : Nat → Int} {m : Nat} {h h' : AH} {r : Int32} {e : Nat} {S' : Cs} (h31 : aI h' m 31 = iI (cd e)) (hR : MdR h' m S') (hp : Pw (mdW m) h h') : MAn cd m h (.error e, S') r h' := ⟨h31, fun w e => (by cases e), hR, hp⟩
def MAnV (cd : Nat → Int) (m : Nat) (h : AH) (S : Cs) (o : Except Nat Int32) : Int32 → AH → Prop := fun r h' => aI h' m 31 = iI (match o with | .ok _ => 0 | .error e => cd e) ∧ (∀ v, o = .ok v → r = v) ∧ MdR h' m S ∧ Pw (mdW m) h h'
theorem mFs_pw {W : Nat → Nat → Prop} {h h' : AH} {m : Nat} {Fs : List Fm} (hr : MFs h m Fs) (hn : ∀ F ∈ Fs, (fC F).length ≤ 150) (x : Pw W h h') (h18 : ¬ W m 18) (hd : ∀ f q j, W q j → f < Fs.length → ¬ fmW m f q j) : MFs h' m Fs := by
  refine ⟨by rw [pw_I x h18]; exact hr.1, fun f F hf => mFm_pw (hr.2 f F hf) (hn F (List.mem_of_getElem? hf)) x fun q j w => hd f q j w (List.getElem?_eq_some_iff.mp hf).1⟩
/-- scratch alone is written -/
theorem mdR_sc {h h' : AH} {m : Nat} {S : Cs} (hR : MdR h m S) (hG : CsG S) (x : Pw (scW m) h h') : MdR h' m S := by
  obtain ⟨r1, r2, r3, r4, ss, s1, s2, s3, s4⟩ := hR
  obtain ⟨g1, g2, g3, g4, g5, g6⟩ := hG
  refine ⟨mdK_pw r1 x, fun t ht => mTx_pw (r2 t ht) (g1 t ht).1.1 (g1 t ht).2.2.1 x fun q j w => by unfold scW at w; unfold txW; omega, fun a ha => mHd_pw (r3 a ha) (by have := g2 a ha; omega) x fun q j w => by unfold scW at w; unfold hdW; omega, mFs_pw r4 (fun F hF => (g3 F hF).1.2.2.2.2.2.1) x (by unfold scW; omega) (fun f q j w hf => by unfold scW at w; unfold fmW; omega), ss, mSs_pw s1 x (by unfold scW; omega) (fun q j z1 z2 => by unfold scW; omega), s2, s3, s4⟩
theorem scW_md {m : Nat} : ∀ q j, scW m q j → mdW m q j := fun q j w => by unfold scW at w; unfold mdW; omega
theorem rsh_lt {R : Rw} (hG : RwG R) {q : Nat} (hq : q < qcn (rf R) (rn R)) : rsh R q < rn R := by
  obtain ⟨i, h1, h2, -⟩ := rsh_in hq
  rw [h2]; exact (hG.2.1 i h1).1
theorem rsh_cn {R : Rw} {i : Nat} (hi : i < rn R) (hf : rf R i = true) : rsh R (qcn (rf R) i) = ro R i := by
  unfold rsh
  rw [rsel_cn hi hf]
theorem rsel_iff {R : Rw} {p : Int} : (rsel R p (rn R) 0 < rn R) ↔ (0 ≤ p ∧ p < qcn (rf R) (rn R)) := by
  constructor
  · intro hl
    have e := qfd_is (fun j => rf R j && decide ((qcn (rf R) j : Int) = p)) (rn R) 0 (by unfold rsel at hl; omega)
    rw [Bool.and_eq_true] at e
    have e2 := of_decide_eq_true e.2
    have := qcn_lt (rf R) hl e.1
    unfold rsel at this
    omega
  · rintro ⟨p1, p2⟩
    obtain ⟨i, h1, h2, h3⟩ := qcn_at (rf R) (p := p.toNat) (k := rn R) (by omega)
    have e := rsel_cn h1 h2
    rw [h3, show ((p.toNat : Nat) : Int) = p by omega] at e
    omega
theorem g_at_2 {h : AH} {m t : Nat} {R : Rw} (hK : MdK h m) (ht : t < 3) (hr : MRw h m t R) (hG : RwG R) {z : Int} (h1 : -1 ≤ z) (h2 : z < 100000) : ∀ (k i n : Nat), i + k = rn R → k < n → p_X11_at_2 n m (iI t) (iI z) (iI i) h = some (iI (qfd (fun j => decide ((ro R j : Int) = z)) k i), h) := by
  have e0 := hr.1
  have hn := hG.1
  intro k
  induction k with
  | zero =>
    intro i n hk hn'
    obtain ⟨n, rfl⟩ : ∃ m, n = m + 1 := ⟨n - 1, by omega⟩
    unfold p_X11_at_2 p_X11_at_34
    simp (disch := omega) only [ck_t, nm_q, bR_s, j_add, j_sub, j_mul, j_nI, j_0, j_le, j_lt, j_eq, j_nat, j_ixe, bI_0, and_self, and_true, true_and, ne_eq, not_false_eq_true, not_true_eq_false, ite_true, ite_false, if_true, if_false, ck_p z_0, ck_p z_1, K_uI, N_uI, R_uI, L_uI, Z_uI, U_uI, E_uI, C_uI, M_uI, Int.toNat_natCast, mdk hK, e0, ck_p, if_pos]
    rfl
  | succ k ih =>
    intro i n hk hn'
    obtain ⟨n, rfl⟩ : ∃ m, n = m + 1 := ⟨n - 1, by omega⟩
    have hz := (hr.2 i (by omega)).1
    have ho := (hG.2.1 i (by omega)).1
    unfold p_X11_at_2 p_X11_at_34
    simp (disch := omega) only [ck_t, nm_q, bR_s, j_add, j_sub, j_mul, j_nI, j_0, j_le, j_lt, j_eq, j_nat, j_ixe, bI_0, and_self, and_true, true_and, ne_eq, not_false_eq_true, not_true_eq_false, ite_true, ite_false, if_true, if_false, ck_p z_0, ck_p z_1, K_uI, N_uI, R_uI, L_uI, Z_uI, U_uI, E_uI, C_uI, M_uI, Int.toNat_natCast, mdk hK, e0, ck_p, n_150, hz]
    rw [if_neg (by omega)]
    unfold qfd
    by_cases c : (ro R i : Int) = z
    · rw [if_pos c, decide_eq_true c, if_pos rfl]
    · rw [if_neg c, decide_eq_false c, if_neg (by decide)]
      exact ih (i + 1) n (by omega) (by omega)
theorem g_at {h : AH} {m t : Nat} {R : Rw} (hK : MdK h m) (ht : t < 3) (hr : MRw h m t R) (hG : RwG R) {z : Int} (h1 : -1 ≤ z) (h2 : z < 100000) : p_X11_at m (iI t) (iI z) h = some (iI (rpos R z), h) := by
  have e := g_at_2 hK ht hr hG h1 h2 (rn R) 0 FU (by omega) (by have := hG.1; unfold FU; omega)
  unfold p_X11_at p_X11_at_0
  simp (disch := omega) only [ck_t, nm_q, bR_s, j_add, j_sub, j_mul, j_nI, j_0, j_le, j_lt, j_eq, j_nat, j_ixe, bI_0, and_self, and_true, true_and, ne_eq, not_false_eq_true, not_true_eq_false, ite_true, ite_false, if_true, if_false, ck_p z_0, ck_p z_1, K_uI, N_uI, R_uI, L_uI, Z_uI, U_uI, E_uI, C_uI, M_uI, Int.toNat_natCast, mdk hK]
  exact e
def shW (m q j : Nat) : Prop := (q = m ∧ j = 29) ∨ q = m + 27
theorem shW_sc {m : Nat} : ∀ q j, shW m q j → scW m q j := fun q j w => by unfold shW at w; unfold scW; omega
def MShk (h : AH) (m : Nat) (R : Rw) (i : Nat) : Prop := aI h m 29 = iI (qcn (rf R) i) ∧ ∀ q, q < qcn (rf R) i → aI h (m + 27) q = iI (rsh R q)
def MSh (h : AH) (m : Nat) (R : Rw) : Prop := MShk h m R (rn R)
theorem g_shows_7 {m t : Nat} {R : Rw} (ht : t < 3) (hG : RwG R) : ∀ (k i n : Nat) (h : AH), MdK h m → MRw h m t R → MShk h m R i → i + k = rn R → k < n → Okp (p_X11_shows_7 n m (iI t) (iI i) h) (fun _ h' => MSh h' m R ∧ Pw (shW m) h h') := by
  have hn := hG.1
  intro k
  induction k with
  | zero =>
    intro i n h hK hr hs hk hn'
    have e0 := hr.1
    obtain ⟨n, rfl⟩ : ∃ m, n = m + 1 := ⟨n - 1, by omega⟩
    unfold p_X11_shows_7
    simp (disch := omega) only [ck_t, nm_q, bR_s, j_add, j_sub, j_mul, j_nI, j_0, j_le, j_lt, j_eq, j_nat, j_ixe, bI_0, and_self, and_true, true_and, ne_eq, not_false_eq_true, not_true_eq_false, ite_true, ite_false, if_true, if_false, ck_p z_0, ck_p z_1, K_uI, N_uI, R_uI, L_uI, Z_uI, U_uI, E_uI, C_uI, M_uI, Int.toNat_natCast, mdk hK, e0, ck_p, if_pos]
    have : i = rn R := by omega
    subst this
    exact ok_some ⟨hs, pw_rf⟩
  | succ k ih =>
    intro i n h hK hr hs hk hn'
    have e0 := hr.1
    obtain ⟨n, rfl⟩ : ∃ m, n = m + 1 := ⟨n - 1, by omega⟩
    have hz := (hr.2 i (by omega)).1
    have ho := (hG.2.1 i (by omega)).1
    have ht2 := (hr.2 (ro R i) ho).2.2
    have e29 := hs.1
    have hq := qcn_le (rf R) i
    unfold p_X11_shows_7 p_X11_shows_65
    simp (disch := omega) only [ck_t, nm_q, bR_s, j_add, j_sub, j_mul, j_nI, j_0, j_le, j_lt, j_eq, j_nat, j_ixe, bI_0, and_self, and_true, true_and, ne_eq, not_false_eq_true, not_true_eq_false, ite_true, ite_false, if_true, if_false, ck_p z_0, ck_p z_1, K_uI, N_uI, R_uI, L_uI, Z_uI, U_uI, E_uI, C_uI, M_uI, Int.toNat_natCast, mdk hK, e0, ck_p, n_150, hz, ht2, e29]
    rw [if_neg (by omega)]
    have ef : rf R i = rt R (ro R i) := rfl
    by_cases c : rt R (ro R i) = false
    · rw [if_pos c]
      refine ih (i + 1) n h hK hr ?_ (by omega) (by omega)
      unfold MShk
      rw [qcn_s, ef, c]
      exact hs
    · rw [if_neg c]
      have c' : rf R i = true := by rw [ef]; simpa using c
      have p : Pw (shW m) h (uI (uI h (m + 27) (qcn (rf R) i) (iI (ro R i))) m 29 (iI ((qcn (rf R) i : Int) + 1))) := pw_tr (pw_uI (by unfold shW; omega)) (pw_uI (by unfold shW; omega))
      have r1 : aI (uI h (m + 27) (qcn (rf R) i) (iI (ro R i))) m 29 = iI (qcn (rf R) i) := by rw [w_I2 (by omega)]; exact e29
      rw [r1, j_add]
      refine ok_to (ih (i + 1) n _ (mdK_pw hK p) (mRw_pw hr hn p fun q j w => by unfold shW at w; unfold txW; omega) ?_ (by omega) (by omega)) fun _ h2 z => ⟨z.1, pw_tr p z.2⟩
      unfold MShk
      rw [qcn_s, c', if_pos rfl]
      refine ⟨w_I1 _ _ _ _, fun q hq2 => ?_⟩
      rw [w_I2 (by omega)]
      by_cases d : q = qcn (rf R) i
      · rw [d, w_I1, rsh_cn (by omega) c']
      · rw [w_I3 d]; exact hs.2 q (by omega)
theorem g_shows {h : AH} {m t : Nat} {R : Rw} (ht : t < 3) (hG : RwG R) (hK : MdK h m) (hr : MRw h m t R) : Okp (p_X11_shows m (iI t) h) (fun _ h' => MSh h' m R ∧ Pw (shW m) h h') := by
  have hn := hG.1
  unfold p_X11_shows p_X11_shows_0
  simp (disch := omega) only [ck_t, nm_q, bR_s, j_add, j_sub, j_mul, j_nI, j_0, j_le, j_lt, j_eq, j_nat, j_ixe, bI_0, and_self, and_true, true_and, ne_eq, not_false_eq_true, not_true_eq_false, ite_true, ite_false, if_true, if_false, ck_p z_0, ck_p z_1, K_uI, N_uI, R_uI, L_uI, Z_uI, U_uI, E_uI, C_uI, M_uI, Int.toNat_natCast, mdk hK]
  have p : Pw (shW m) h (uI h m 29 (iI 0)) := pw_uI (by unfold shW; omega)
  refine ok_to (g_shows_7 ht hG (rn R) 0 FU _ (mdK_pw hK p) (mRw_pw hr hn p fun q j w => by unfold shW at w; unfold txW; omega) ⟨w_I1 _ _ _ _, fun q hq => absurd hq (Nat.not_lt_zero _)⟩ (by omega) (by unfold FU; omega)) fun _ h2 z => ⟨z.1, pw_tr p z.2⟩
theorem g_placeOf_22 {h : AH} {m t : Nat} {R : Rw} (hK : MdK h m) (ht : t < 3) (hr : MRw h m t R) (hG : RwG R) {e : Nat} (he : e ≤ rn R) : ∀ (k i n : Nat), i + k = e → k < n → p_X11_placeOf_22 n m (iI t) (iI e) (iI (qcn (rf R) i)) (iI i) h = some (iI (qcn (rf R) e), h) := by
  have e0 := hr.1
  have hn := hG.1
  intro k
  induction k with
  | zero =>
    intro i n hk hn'
    obtain ⟨n, rfl⟩ : ∃ m, n = m + 1 := ⟨n - 1, by omega⟩
    unfold p_X11_placeOf_22
    simp (disch := omega) only [ck_t, nm_q, bR_s, j_add, j_sub, j_mul, j_nI, j_0, j_le, j_lt, j_eq, j_nat, j_ixe, bI_0, and_self, and_true, true_and, ne_eq, not_false_eq_true, not_true_eq_false, ite_true, ite_false, if_true, if_false, ck_p z_0, ck_p z_1, K_uI, N_uI, R_uI, L_uI, Z_uI, U_uI, E_uI, C_uI, M_uI, Int.toNat_natCast, if_pos]
    rw [show i = e by omega]
  | succ k ih =>
    intro i n hk hn'
    obtain ⟨n, rfl⟩ : ∃ m, n = m + 1 := ⟨n - 1, by omega⟩
    have hz := (hr.2 i (by omega)).1
    have ho := (hG.2.1 i (by omega)).1
    have ht2 := (hr.2 (ro R i) ho).2.2
    have e3 := ih (i + 1) n (by omega) (by omega)
    rw [qcn_s] at e3
    have ef : rf R i = rt R (ro R i) := rfl
    unfold p_X11_placeOf_22 p_X11_placeOf_62
    simp (disch := omega) only [ck_t, nm_q, bR_s, j_add, j_sub, j_mul, j_nI, j_0, j_le, j_lt, j_eq, j_nat, j_ixe, bI_0, and_self, and_true, true_and, ne_eq, not_false_eq_true, not_true_eq_false, ite_true, ite_false, if_true, if_false, ck_p z_0, ck_p z_1, K_uI, N_uI, R_uI, L_uI, Z_uI, U_uI, E_uI, C_uI, M_uI, Int.toNat_natCast, mdk hK, ck_p, n_150, hz, ht2]
    rw [if_neg (by omega)]
    cases c : rt R (ro R i)
    · rw [ef, c] at e3
      rw [if_pos rfl]
      exact e3
    · rw [ef, c] at e3
      rw [if_neg (by decide)]
      exact e3
theorem g_placeOf {h : AH} {m t a : Nat} {T : Tx} (hK : MdK h m) (ht : t < 3) (ha : a < 5) (hT : MTx h m t T) (hG : TxG T) : p_X11_placeOf m (iI a) (iI t) h = some (iI (cpl T a), h) := by
  have ec := hT.2.1 a ha
  have gc := hG.2.1 a ha
  have hn := hG.1.1
  have e1 := g_at hK ht hT.1 hG.1 (z := xC T a) (by omega) (by omega)
  have e2 := g_placeOf_22 hK ht hT.1 hG.1 (rpos_le (xR T) (xC T a)) (rpos (xR T) (xC T a)) 0 FU (by omega) (by have := rpos_le (xR T) (xC T a); unfold FU; omega)
  unfold p_X11_placeOf p_X11_placeOf_0
  simp (disch := omega) only [ck_t, nm_q, bR_s, j_add, j_sub, j_mul, j_nI, j_0, j_le, j_lt, j_eq, j_nat, j_ixe, bI_0, and_self, and_true, true_and, ne_eq, not_false_eq_true, not_true_eq_false, ite_true, ite_false, if_true, if_false, ck_p z_0, ck_p z_1, K_uI, N_uI, R_uI, L_uI, Z_uI, U_uI, E_uI, C_uI, M_uI, Int.toNat_natCast, mdk hK, ck_p, n_5, ec, e1]
  exact e2
theorem g_signAt {h : AH} {m t q : Nat} {R : Rw} (hK : MdK h m) (ht : t < 3) (hr : MRw h m t R) (hG : RwG R) (hs : MSh h m R) (hq : q < qcn (rf R) (rn R)) : p_X11_signAt m (iI t) (iI q) h = some (iI (rs R (rsh R q)), h) := by
  have e1 := hs.2 q hq
  have hl := rsh_lt hG hq
  have e2 := (hr.2 _ hl).2.1
  have hn := hG.1
  have hc := qcn_le (rf R) (rn R)
  unfold p_X11_signAt p_X11_signAt_0
  simp (disch := omega) only [ck_t, nm_q, bR_s, j_add, j_sub, j_mul, j_nI, j_0, j_le, j_lt, j_eq, j_nat, j_ixe, bI_0, and_self, and_true, true_and, ne_eq, not_false_eq_true, not_true_eq_false, ite_true, ite_false, if_true, if_false, ck_p z_0, ck_p z_1, K_uI, N_uI, R_uI, L_uI, Z_uI, U_uI, E_uI, C_uI, M_uI, Int.toNat_natCast, mdk hK, ck_p, n_150, e1, e2]
/-! ===== calls that ask of texts ===== -/
theorem p31 {h : AH} {m : Nat} {v : Int32} : Pw (scW m) h (uI h m 31 v) := pw_uI (by unfold scW; omega)
theorem g_place {h : AH} {m : Nat} {S : Cs} {cd : Nat → Int} (hcd : cd 1 = 1) (hR : MdR h m S) (hG : CsG S) {a b : Int} (a1 : -2147483648 ≤ a) (a2 : a < 2147483648) (b1 : -2147483648 ≤ b) (b2 : b < 2147483648) : Okp (p_X11_place m (iI a) (iI b) h) (MAn cd m h (plM S a b)) := by
  have k0 := hR.1.1.1
  have k1 := hR.1.1.2.1
  have R2 := mdR_sc hR hG (p31 (v := iI (gcd3 (decide (hOk a ∧ tOk b)) true true)))
  have p2 := pw_mono (p31 (h := h) (m := m) (v := iI (gcd3 (decide (hOk a ∧ tOk b)) true true))) scW_md
  have t1 := w_I1 h m 31 (iI (gcd3 (decide (hOk a ∧ tOk b)) true true))
  unfold p_X11_place p_X11_place_0 p_X11_place_24 plM
  simp only [k0, ne_eq, not_false_eq_true, ck_t]
  rw [bR_e (g_isHand a1 a2 b1 b2), ck_p k1, bR_e (g_goes1 hR.1 _), ifc (bI_00 _)]
  by_cases hb : hOk a ∧ tOk b
  · rw [if_neg (show ¬ ¬ (hOk a ∧ tOk b) from fun z => z hb)]
    rw [decide_eq_true hb] at R2 p2 t1 ⊢
    rw [if_neg (by decide)]
    obtain ⟨a', rfl⟩ : ∃ a' : Nat, a = a' := ⟨a.toNat, by have := hb.1.1; omega⟩
    obtain ⟨b', rfl⟩ : ∃ b' : Nat, b = b' := ⟨b.toNat, by have := hb.2.1; omega⟩
    have hb3 : b' < 3 := by have := hb.2.2; omega
    have ha5 : a' < 5 := by have := hb.1.2; omega
    simp only [Int.toNat_natCast]
    rw [ck_p R2.1.1.2.1, bR_e (g_placeOf R2.1 hb3 ha5 (R2.2.1 b' hb3) (hG.1 b' hb3))]
    exact ok_some (man_ok t1 R2 p2)
  · rw [if_pos hb]
    rw [decide_eq_false hb] at R2 p2 t1 ⊢
    rw [if_pos rfl]
    exact ok_some (man_er (t1.trans (by rw [hcd]; rfl)) R2 p2)
theorem g_length {h : AH} {m : Nat} {S : Cs} {cd : Nat → Int} (hcd : cd 1 = 1) (hR : MdR h m S) (hG : CsG S) {b : Int} (b1 : -2147483648 ≤ b) (b2 : b < 2147483648) : Okp (p_X11_length m (iI b) h) (MAn cd m h (lnM S b)) := by
  have k0 := hR.1.1.1
  have k1 := hR.1.1.2.1
  have R2 := mdR_sc hR hG (p31 (v := iI (gcd3 (decide (tOk b)) true true)))
  have p2 := p31 (h := h) (m := m) (v := iI (gcd3 (decide (tOk b)) true true))
  have t1 := w_I1 h m 31 (iI (gcd3 (decide (tOk b)) true true))
  unfold p_X11_length p_X11_length_0 lnM
  simp only [k0, ne_eq, not_false_eq_true, ck_t]
  rw [bR_e (g_isText b1 b2), ck_p k1, bR_e (g_goes1 hR.1 _), ifc (bI_00 _)]
  by_cases hb : tOk b
  · rw [if_neg (show ¬ ¬ tOk b from fun z => z hb)]
    rw [decide_eq_true hb] at R2 p2 t1 ⊢
    rw [if_neg (by decide)]
    obtain ⟨b', rfl⟩ : ∃ b' : Nat, b = b' := ⟨b.toNat, by have := hb.1; omega⟩
    have hb3 : b' < 3 := by have := hb.2; omega
    simp only [Int.toNat_natCast]
    rw [ck_p R2.1.1.2.1]
    refine ok_bR (g_shows hb3 (hG.1 b' hb3).1 R2.1 (R2.2.1 b' hb3).1) ?_
    rintro _ h3 ⟨s1, s2⟩
    have s3 := pw_mono s2 shW_sc
    have R3 := mdR_sc R2 hG s3
    rw [ck_p R3.1.1.2.1, s1.1]
    refine ok_some (man_ok ?_ R3 (pw_mono (pw_tr p2 s3) scW_md))
    rw [pw_I s2 (by unfold shW; omega)]; exact t1
  · rw [if_pos hb]
    rw [decide_eq_false hb] at R2 p2 t1 ⊢
    rw [if_pos rfl]
    exact ok_some (man_er (t1.trans (by rw [hcd]; rfl)) R2 (pw_mono p2 scW_md))
theorem g_version {h : AH} {m : Nat} {S : Cs} {cd : Nat → Int} (hcd : cd 1 = 1) (hR : MdR h m S) (hG : CsG S) {b : Int} (b1 : -2147483648 ≤ b) (b2 : b < 2147483648) : Okp (p_X11_version m (iI b) h) (MAnV cd m h S (o_version S b)) := by
  have k0 := hR.1.1.1
  have k1 := hR.1.1.2.1
  have R2 := mdR_sc hR hG (p31 (v := iI (gcd3 (decide (tOk b)) true true)))
  have p2 := pw_mono (p31 (h := h) (m := m) (v := iI (gcd3 (decide (tOk b)) true true))) scW_md
  have t1 := w_I1 h m 31 (iI (gcd3 (decide (tOk b)) true true))
  unfold p_X11_version p_X11_version_0 p_X11_version_23 o_version
  simp only [k0, ne_eq, not_false_eq_true, ck_t]
  rw [bR_e (g_isText b1 b2), ck_p k1, bR_e (g_goes1 hR.1 _), ifc (bI_00 _)]
  by_cases hb : tOk b
  · rw [if_neg (show ¬ ¬ tOk b from fun z => z hb)]
    rw [decide_eq_true hb] at R2 p2 t1 ⊢
    rw [if_neg (by decide)]
    obtain ⟨b', rfl⟩ : ∃ b' : Nat, b = b' := ⟨b.toNat, by have := hb.1; omega⟩
    have hb3 : b' < 3 := by have := hb.2; omega
    have ev := (R2.2.1 b' hb3).2.2.1
    have K2 := R2.1
    generalize uI h m 31 _ = g at *
    simp (disch := omega) only [ck_t, nm_q, bR_s, j_add, j_sub, j_mul, j_nI, j_0, j_le, j_lt, j_eq, j_nat, j_ixe, bI_0, and_self, and_true, true_and, ne_eq, not_false_eq_true, not_true_eq_false, ite_true, ite_false, if_true, if_false, ck_p z_0, ck_p z_1, K_uI, N_uI, R_uI, L_uI, Z_uI, U_uI, E_uI, C_uI, M_uI, Int.toNat_natCast, mdk K2, ck_p, ev]
    exact ok_some ⟨t1, fun v e => by cases e; rfl, R2, p2⟩
  · rw [if_pos hb]
    rw [decide_eq_false hb] at R2 p2 t1 ⊢
    rw [if_pos rfl]
    exact ok_some ⟨t1.trans (show _ = iI (cd 1) by rw [hcd]; rfl), fun v e => (by cases e), R2, p2⟩
theorem g_savedVersion {h : AH} {m : Nat} {S : Cs} {cd : Nat → Int} (hcd : cd 1 = 1) (hR : MdR h m S) (hG : CsG S) {b : Int} (b1 : -2147483648 ≤ b) (b2 : b < 2147483648) : Okp (p_X11_savedVersion m (iI b) h) (MAnV cd m h S (o_savedVersion S b)) := by
  have k0 := hR.1.1.1
  have k1 := hR.1.1.2.1
  have R2 := mdR_sc hR hG (p31 (v := iI (gcd3 (decide (tOk b)) true true)))
  have p2 := pw_mono (p31 (h := h) (m := m) (v := iI (gcd3 (decide (tOk b)) true true))) scW_md
  have t1 := w_I1 h m 31 (iI (gcd3 (decide (tOk b)) true true))
  unfold p_X11_savedVersion p_X11_savedVersion_0 p_X11_savedVersion_23 o_savedVersion
  simp only [k0, ne_eq, not_false_eq_true, ck_t]
  rw [bR_e (g_isText b1 b2), ck_p k1, bR_e (g_goes1 hR.1 _), ifc (bI_00 _)]
  by_cases hb : tOk b
  · rw [if_neg (show ¬ ¬ tOk b from fun z => z hb)]
    rw [decide_eq_true hb] at R2 p2 t1 ⊢
    rw [if_neg (by decide)]
    obtain ⟨b', rfl⟩ : ∃ b' : Nat, b = b' := ⟨b.toNat, by have := hb.1; omega⟩
    have hb3 : b' < 3 := by have := hb.2; omega
    have ev := (R2.2.1 b' hb3).2.2.2.2.1
    have K2 := R2.1
    generalize uI h m 31 _ = g at *
    simp (disch := omega) only [ck_t, nm_q, bR_s, j_add, j_sub, j_mul, j_nI, j_0, j_le, j_lt, j_eq, j_nat, j_ixe, bI_0, and_self, and_true, true_and, ne_eq, not_false_eq_true, not_true_eq_false, ite_true, ite_false, if_true, if_false, ck_p z_0, ck_p z_1, K_uI, N_uI, R_uI, L_uI, Z_uI, U_uI, E_uI, C_uI, M_uI, Int.toNat_natCast, mdk K2, ck_p, ev]
    exact ok_some ⟨t1, fun v e => by cases e; rfl, R2, p2⟩
  · rw [if_pos hb]
    rw [decide_eq_false hb] at R2 p2 t1 ⊢
    rw [if_pos rfl]
    exact ok_some ⟨t1.trans (show _ = iI (cd 1) by rw [hcd]; rfl), fun v e => (by cases e), R2, p2⟩
theorem g_savedLength {h : AH} {m : Nat} {S : Cs} {cd : Nat → Int} (hcd : cd 1 = 1) (hR : MdR h m S) (hG : CsG S) {b : Int} (b1 : -2147483648 ≤ b) (b2 : b < 2147483648) : Okp (p_X11_savedLength m (iI b) h) (MAnV cd m h S (o_savedLength S b)) := by
  have k0 := hR.1.1.1
  have k1 := hR.1.1.2.1
  have R2 := mdR_sc hR hG (p31 (v := iI (gcd3 (decide (tOk b)) true true)))
  have p2 := pw_mono (p31 (h := h) (m := m) (v := iI (gcd3 (decide (tOk b)) true true))) scW_md
  have t1 := w_I1 h m 31 (iI (gcd3 (decide (tOk b)) true true))
  unfold p_X11_savedLength p_X11_savedLength_0 p_X11_savedLength_23 o_savedLength
  simp only [k0, ne_eq, not_false_eq_true, ck_t]
  rw [bR_e (g_isText b1 b2), ck_p k1, bR_e (g_goes1 hR.1 _), ifc (bI_00 _)]
  by_cases hb : tOk b
  · rw [if_neg (show ¬ ¬ tOk b from fun z => z hb)]
    rw [decide_eq_true hb] at R2 p2 t1 ⊢
    rw [if_neg (by decide)]
    obtain ⟨b', rfl⟩ : ∃ b' : Nat, b = b' := ⟨b.toNat, by have := hb.1; omega⟩
    have hb3 : b' < 3 := by have := hb.2; omega
    have ev := (R2.2.1 b' hb3).2.2.2.2.2.1
    have K2 := R2.1
    generalize uI h m 31 _ = g at *
    simp (disch := omega) only [ck_t, nm_q, bR_s, j_add, j_sub, j_mul, j_nI, j_0, j_le, j_lt, j_eq, j_nat, j_ixe, bI_0, and_self, and_true, true_and, ne_eq, not_false_eq_true, not_true_eq_false, ite_true, ite_false, if_true, if_false, ck_p z_0, ck_p z_1, K_uI, N_uI, R_uI, L_uI, Z_uI, U_uI, E_uI, C_uI, M_uI, Int.toNat_natCast, mdk K2, ck_p, ev]
    exact ok_some ⟨t1, fun v e => by cases e; rfl, R2, p2⟩
  · rw [if_pos hb]
    rw [decide_eq_false hb] at R2 p2 t1 ⊢
    rw [if_pos rfl]
    exact ok_some ⟨t1.trans (show _ = iI (cd 1) by rw [hcd]; rfl), fun v e => (by cases e), R2, p2⟩

