
/-! ===== the model writes a save ===== -/
def cwp (ss : List (Sv × Bool)) (t j : Nat) : Bool := suw ss j && decide ((ssg ss j).1.2.2.1 = t)
def cwB (S : Cs) (ss : List (Sv × Bool)) (k : Nat) : Bool := suw ss k && (rdyS S (ssg ss k).1 && decide (qfd (cwp ss (ssg ss k).1.2.2.1) k 0 = k))
theorem g_canWrite_74 {h : AH} {m k t : Nat} {ss : List (Sv × Bool)} (hK : MdK h m) (hS : MSs h m ss) (h60 : ss.length ≤ 60) (hk : k < ss.length) (ht : t < 3) : ∀ (d j n : Nat) (b : Bool), j + d = k → d < n → p_X11_canWrite_74 n m (iI k) (iI t) (bI b) (iI j) h = some (bI (b && decide (qfd (cwp ss t) d j = k)), h) := by
  intro d
  induction d with
  | zero =>
    intro j n b hj hn
    obtain ⟨n, rfl⟩ : ∃ m, n = m + 1 := ⟨n - 1, by omega⟩
    unfold p_X11_canWrite_74
    simp (disch := omega) only [ck_t, nm_q, bR_s, j_add, j_sub, j_mul, j_nI, j_0, j_le, j_lt, j_eq, j_nat, j_ixe, bI_0, and_self, and_true, true_and, ne_eq, not_false_eq_true, not_true_eq_false, ite_true, ite_false, if_true, if_false, ck_p z_0, ck_p z_1, K_uI, N_uI, R_uI, L_uI, Z_uI, U_uI, E_uI, C_uI, M_uI, Int.toNat_natCast, if_pos]
    rw [ck_p (bI_z _), decide_eq_true (show qfd (cwp ss t) 0 j = k from by show j = k; omega), Bool.and_true]
  | succ d ih =>
    intro j n b hj hn
    obtain ⟨n, rfl⟩ : ∃ m, n = m + 1 := ⟨n - 1, by omega⟩
    obtain ⟨x1, x2, x3, x4, x5, x6, x7, x8⟩ := hS.2.1 j _ (ssg_at (by omega))
    have rF := ih (j + 1) n false (by omega) (by omega)
    have rT := ih (j + 1) n true (by omega) (by omega)
    rw [Bool.false_and] at rF
    rw [Bool.true_and] at rT
    rw [qfd_s]
    have ec : cwp ss t j = (!(ssg ss j).2 && decide ((ssg ss j).1.2.2.1 = t)) := rfl
    unfold p_X11_canWrite_74 p_X11_canWrite_105 p_X11_canWrite_109 p_X11_canWrite_110
    simp (disch := omega) only [ck_t, nm_q, bR_s, j_add, j_sub, j_mul, j_nI, j_0, j_le, j_lt, j_eq, j_nat, j_ixe, bI_0, and_self, and_true, true_and, ne_eq, not_false_eq_true, not_true_eq_false, ite_true, ite_false, if_true, if_false, ck_p z_0, ck_p z_1, K_uI, N_uI, R_uI, L_uI, Z_uI, U_uI, E_uI, C_uI, M_uI, Int.toNat_natCast, mdk hK, ck_p, x6, x8, if_neg]
    cases b
    · rw [if_pos (show false = false from rfl), Bool.false_and]
      exact rF
    · rw [if_neg (show ¬ (true = false) by decide), Bool.true_and, ec]
      cases hw : (ssg ss j).2
      · rw [if_pos (show false = false from rfl)]
        by_cases c : (ssg ss j).1.2.2.1 = t
        · rw [if_pos (by omega), decide_eq_true c, if_pos (show (!false && true) = true from rfl), decide_eq_false (by omega)]
          exact rF
        · rw [if_neg (by omega), decide_eq_false c, if_neg (show ¬ ((!false && false) = true) by decide)]
          exact rT
      · rw [if_neg (show ¬ (true = false) by decide), if_neg (by rw [show (!true) = false from rfl, Bool.false_and]; decide)]
        exact rT
theorem g_canWrite {h : AH} {m k : Nat} {S : Cs} {ss : List (Sv × Bool)} (hK : MdK h m) (hX : ∀ t, t < 3 → aI h (m + 23) t = iI (xL (cX S t))) (hG : CsG S) (hF : MFs h m (cF S)) (hS : MSs h m ss) (h60 : ss.length ≤ 60) (hfm : ∀ x ∈ ss, x.1.2.2.2 < (cF S).length) (hk : k < ss.length) : p_X11_canWrite m (iI k) h = some (bI (cwB S ss k), h) := by
  have hat := ssg_at hk
  obtain ⟨x1, x2, x3, x4, x5, x6, x7, x8⟩ := hS.2.1 k _ hat
  have hfl := hfm _ (List.mem_of_getElem? hat)
  have h60' := hG.2.2.2.2.1
  have el := hX _ x3
  have gl := (hG.1 _ x3).2.2.2.2
  have hsu : suw ss k = !(ssg ss k).2 := rfl
  unfold cwB
  rw [hsu]
  generalize ssg ss k = s at *
  have w70 : ∀ b : Bool, p_X11_canWrite_70 m (iI k) (iI s.1.2.2.1) (bI b) h = some (bI (b && decide (qfd (cwp ss s.1.2.2.1) k 0 = k)), h) := by
    intro b
    unfold p_X11_canWrite_70
    rw [nm_q]
    exact g_canWrite_74 hK hS h60 hk x3 k 0 FU b (by omega) (by unfold FU; omega)
  have w69 := w70 false
  have w65 := w70 true
  rw [Bool.false_and] at w69
  rw [Bool.true_and] at w65
  have w40 : p_X11_canWrite_40 m (iI k) (iI s.1.2.2.1) h = some (bI (isFree (cX S s.1.2.2.1) s.1.2.1 && decide (qfd (cwp ss s.1.2.2.1) k 0 = k)), h) := by
    unfold p_X11_canWrite_40 p_X11_canWrite_65 p_X11_canWrite_69 isFree
    simp (disch := omega) only [ck_t, nm_q, bR_s, j_add, j_sub, j_mul, j_nI, j_0, j_le, j_lt, j_eq, j_nat, j_ixe, bI_0, and_self, and_true, true_and, ne_eq, not_false_eq_true, not_true_eq_false, ite_true, ite_false, if_true, if_false, ck_p z_0, ck_p z_1, K_uI, N_uI, R_uI, L_uI, Z_uI, U_uI, E_uI, C_uI, M_uI, Int.toNat_natCast, mdk hK, ck_p, el, x5]
    by_cases c1 : xL (cX S s.1.2.2.1) = -1
    · rw [if_pos c1, decide_eq_true (Or.inl c1), Bool.true_and]; exact w65
    · rw [if_neg c1]
      by_cases c2 : xL (cX S s.1.2.2.1) = (s.1.2.1 : Int)
      · rw [if_pos c2, decide_eq_true (Or.inr c2), Bool.true_and]; exact w65
      · rw [if_neg c2, decide_eq_false (fun w => w.elim c1 c2), Bool.false_and]; exact w69
  unfold p_X11_canWrite p_X11_canWrite_0 p_X11_canWrite_69
  simp (disch := omega) only [ck_t, nm_q, bR_s, j_add, j_sub, j_mul, j_nI, j_0, j_le, j_lt, j_eq, j_nat, j_ixe, bI_0, and_self, and_true, true_and, ne_eq, not_false_eq_true, not_true_eq_false, ite_true, ite_false, if_true, if_false, ck_p z_0, ck_p z_1, K_uI, N_uI, R_uI, L_uI, Z_uI, U_uI, E_uI, C_uI, M_uI, Int.toNat_natCast, mdk hK, ck_p, x6, x7, x8]
  cases hw : s.2
  · rw [if_pos (show false = false from rfl)]
    unfold rdyS
    by_cases c1 : s.1.2.2.2 = -1
    · rw [if_pos c1, decide_eq_true (show s.1.2.2.2 < 0 by omega), Bool.true_or, Bool.true_and]
      exact w40
    · rw [if_neg c1, decide_eq_false (show ¬ s.1.2.2.2 < 0 by omega), Bool.false_or]
      obtain ⟨z, ez⟩ : ∃ z : Nat, s.1.2.2.2 = z := ⟨s.1.2.2.2.toNat, by omega⟩
      rw [ez] at hfl ⊢
      have hlt : z < (cF S).length := by omega
      have eg := List.getElem?_eq_getElem hlt
      have gF := (mdR_FG hG eg).2.2.1
      have eF := (hF.2 z _ eg).2.1
      have gf1 := gF.2.1
      have gf2 := gF.2.2.1
      have e0 : fS (fmD (cF S)[z]?) = fS (cF S)[z] := by rw [eg]; rfl
      simp (disch := omega) only [ck_t, nm_q, bR_s, j_add, j_sub, j_mul, j_nI, j_0, j_le, j_lt, j_eq, j_nat, j_ixe, bI_0, and_self, and_true, true_and, ne_eq, not_false_eq_true, not_true_eq_false, ite_true, ite_false, if_true, if_false, ck_p z_0, ck_p z_1, K_uI, N_uI, R_uI, L_uI, Z_uI, U_uI, E_uI, C_uI, M_uI, Int.toNat_natCast, ck_p, eF, e0]
      by_cases c2 : fS (cF S)[z] = 0
      · rw [if_pos c2, decide_eq_false (fun w => w c2), Bool.false_and, Bool.false_and]
        exact w69
      · rw [if_neg c2, decide_eq_true c2, Bool.true_and]
        exact w40
  · rw [if_neg (show ¬ (true = false) by decide)]
    exact w69
theorem sv_unw {S : Cs} {ss : List (Sv × Bool)} (hQ : cQ S = unw ss) {k : Nat} (hk : k < ss.length) (hu : suw ss k = true) : sv S (qcn (suw ss) k) = (ssg ss k).1 ∧ qcn (suw ss) k < (cQ S).length := by
  have h1 := unw_at hk hu
  have h2 := qcn_lt (suw ss) hk hu
  rw [← unw_len, ← hQ] at h2
  refine ⟨?_, h2⟩
  unfold sv
  rw [hQ, List.getD_eq_getElem?_getD, h1]; rfl
theorem fst_eq {S : Cs} {ss : List (Sv × Bool)} (hQ : cQ S = unw ss) {k : Nat} (hk : k < ss.length) (hu : suw ss k = true) : fstS S (qcn (suw ss) k) = decide (qfd (cwp ss (ssg ss k).1.2.2.1) k 0 = k) := by
  have hs := sv_unw hQ hk hu
  have hlen : (cQ S).length = qcn (suw ss) ss.length := by rw [hQ, unw_len]
  unfold fstS
  rw [hs.1]
  by_cases c : ∀ j, j < k → cwp ss (ssg ss k).1.2.2.1 j = false
  · rw [decide_eq_true (show qfd (cwp ss (ssg ss k).1.2.2.1) k 0 = k from qfd_un (Nat.zero_le _) (by omega) (fun q _ hq => c q hq) (fun z => absurd z (by omega)))]
    refine decide_eq_true (qfd_un (Nat.zero_le _) (by omega) (fun q _ hq => ?_) (fun _ => ?_))
    · obtain ⟨j, j1, j2, j3⟩ := qcn_at (suw ss) (p := q) (k := ss.length) (by omega)
      have hjk : j < k := by
        rcases Nat.lt_or_ge j k with z | z
        · exact z
        · have := qcn_mono (suw ss) z; omega
      have hj := c j hjk
      unfold cwp at hj
      rw [j2, Bool.true_and] at hj
      have e := (sv_unw hQ j1 j2).1
      rw [j3] at e
      rw [e]; exact hj
    · rw [hs.1]; exact decide_eq_true rfl
  · have hex : ∃ j, j < k ∧ cwp ss (ssg ss k).1.2.2.1 j = true := by
      rcases Classical.em (∃ j, j < k ∧ cwp ss (ssg ss k).1.2.2.1 j = true) with z | z
      · exact z
      · exfalso
        refine c fun j hj => ?_
        cases hc : cwp ss (ssg ss k).1.2.2.1 j
        · rfl
        · exact absurd ⟨j, hj, hc⟩ z
    obtain ⟨j, j1, j2⟩ := hex
    have j3 : suw ss j = true ∧ decide ((ssg ss j).1.2.2.1 = (ssg ss k).1.2.2.1) = true := by
      unfold cwp at j2; rw [Bool.and_eq_true] at j2; exact j2
    have e := (sv_unw hQ (show j < ss.length by omega) j3.1).1
    have hlt := qcn_lt (suw ss) j1 j3.1
    rw [decide_eq_false (fun z => ?_), decide_eq_false (fun z => ?_)]
    · have := qfd_no (cwp ss (ssg ss k).1.2.2.1) k 0 (j := j) (Nat.zero_le _) (by omega)
      rw [j2] at this; cases this
    · have := qfd_no (fun j => decide ((sv S j).2.2.1 = (ssg ss k).1.2.2.1)) (cQ S).length 0 (j := qcn (suw ss) j) (Nat.zero_le _) (by omega)
      simp only [e] at this
      rw [j3.2] at this; cases this
theorem cwB_wok {S : Cs} {ss : List (Sv × Bool)} (hQ : cQ S = unw ss) {k : Nat} (hk : k < ss.length) : cwB S ss k = (suw ss k && wok S (qcn (suw ss) k)) := by
  unfold cwB
  cases hu : suw ss k
  · rw [Bool.false_and, Bool.false_and]
  · rw [Bool.true_and, Bool.true_and]
    unfold wok
    rw [(sv_unw hQ hk hu).1, fst_eq hQ hk hu]
theorem wr_eq {S : Cs} {ss : List (Sv × Bool)} (hQ : cQ S = unw ss) (hno : ∀ k, k < ss.length → (ssg ss k).1.1 = k) : (qfd (cwB S ss) ss.length 0 < ss.length → suw ss (qfd (cwB S ss) ss.length 0) = true ∧ wrM S = ((qfd (cwB S ss) ss.length 0 : Int), (cset (cX S) (ssg ss (qfd (cwB S ss) ss.length 0)).1.2.2.1 (xkeep (cX S (ssg ss (qfd (cwB S ss) ss.length 0)).1.2.2.1)), cH S, cF S, (cQ S).eraseIdx (qcn (suw ss) (qfd (cwB S ss) ss.length 0)), cN S))) ∧ (¬ qfd (cwB S ss) ss.length 0 < ss.length → wrM S = (-1, S)) := by
  have hlen : (cQ S).length = qcn (suw ss) ss.length := by rw [hQ, unw_len]
  have hle := qfd_le (cwB S ss) ss.length 0
  have hno1 := fun j z => qfd_no (cwB S ss) ss.length 0 (j := j) (Nat.zero_le _) z
  have his := qfd_is (cwB S ss) ss.length 0
  generalize qfd (cwB S ss) ss.length 0 = k at *
  refine ⟨fun hk => ?_, fun hk => ?_⟩
  · have hb := his (by omega)
    rw [cwB_wok hQ hk, Bool.and_eq_true] at hb
    have hs := sv_unw hQ hk hb.1
    refine ⟨hb.1, ?_⟩
    have ef : qfd (wok S) (cQ S).length 0 = qcn (suw ss) k := by
      refine qfd_un (Nat.zero_le _) (by omega) (fun q _ hq => ?_) (fun _ => hb.2)
      obtain ⟨j, j1, j2, j3⟩ := qcn_at (suw ss) (p := q) (k := ss.length) (by omega)
      have hjk : j < k := by
        rcases Nat.lt_or_ge j k with z | z
        · exact z
        · have := qcn_mono (suw ss) z; omega
      have := hno1 j hjk
      rw [cwB_wok hQ j1, j2, Bool.true_and, j3] at this
      exact this
    unfold wrM wrR
    rw [ef, if_pos hs.2, hs.1, hno k hk]
  · unfold wrM wrR
    have ef : qfd (wok S) (cQ S).length 0 = (cQ S).length := by
      refine qfd_un (Nat.zero_le _) (by omega) (fun q _ hq => ?_) (fun z => absurd z (by omega))
      obtain ⟨j, j1, j2, j3⟩ := qcn_at (suw ss) (p := q) (k := ss.length) (by omega)
      have := hno1 j (by omega)
      rw [cwB_wok hQ j1, j2, Bool.true_and, j3] at this
      exact this
    rw [ef, if_neg (Nat.lt_irrefl _)]
theorem g_write_82 {m t k : Nat} {R : Rw} (ht : t < 3) (hG : RwG R) : ∀ (d q n : Nat) (h : AH), MdK h m → MRw h m t R → MSh h m R → (∀ p, p < q → aI h (m + 26) (150 * t + p) = iI (rs R (rsh R p))) → q + d = qcn (rf R) (rn R) → d < n → Okp (p_X11_write_82 n m (iI k) (iI t) (iI q) h) (fun r h' => r = iI k ∧ (∀ p, p < qcn (rf R) (rn R) → aI h' (m + 26) (150 * t + p) = iI (rs R (rsh R p))) ∧ Pw (fun q j => q = m + 26 ∧ 150 * t ≤ j ∧ j < 150 * t + 150) h h') := by
  have hn := hG.1
  have hqn := qcn_le (rf R) (rn R)
  intro d
  induction d with
  | zero =>
    intro q n h hK hr hs hp hq hn'
    obtain ⟨n, rfl⟩ : ∃ m, n = m + 1 := ⟨n - 1, by omega⟩
    have e29 := hs.1
    unfold p_X11_write_82
    simp (disch := omega) only [ck_t, nm_q, bR_s, j_add, j_sub, j_mul, j_nI, j_0, j_le, j_lt, j_eq, j_nat, j_ixe, bI_0, and_self, and_true, true_and, ne_eq, not_false_eq_true, not_true_eq_false, ite_true, ite_false, if_true, if_false, ck_p z_0, ck_p z_1, K_uI, N_uI, R_uI, L_uI, Z_uI, U_uI, E_uI, C_uI, M_uI, Int.toNat_natCast, mdk hK, e29, if_pos]
    exact ok_some ⟨rfl, fun p hp2 => hp p (by omega), pw_rf⟩
  | succ d ih =>
    intro q n h hK hr hs hp hq hn'
    obtain ⟨n, rfl⟩ : ∃ m, n = m + 1 := ⟨n - 1, by omega⟩
    have hiq : q < qcn (rf R) (rn R) := by omega
    have e29 := hs.1
    have e1 := g_signAt hK ht hr hG hs hiq
    unfold p_X11_write_82
    simp (disch := omega) only [ck_t, nm_q, bR_s, j_add, j_sub, j_mul, j_nI, j_0, j_le, j_lt, j_eq, j_nat, j_ixe, bI_0, and_self, and_true, true_and, ne_eq, not_false_eq_true, not_true_eq_false, ite_true, ite_false, if_true, if_false, ck_p z_0, ck_p z_1, K_uI, N_uI, R_uI, L_uI, Z_uI, U_uI, E_uI, C_uI, M_uI, Int.toNat_natCast, mdk hK, ck_p, e29, if_neg, e1, n_150]
    have p1 : Pw (fun q j => q = m + 26 ∧ 150 * t ≤ j ∧ j < 150 * t + 150) h (uI h (m + 26) (150 * t + q) (iI (rs R (rsh R q)))) := pw_uI (by omega)
    refine ok_to (ih (q + 1) n _ (mdK_pw hK p1) (mRw_pw2 hr p1 fun q j w => by omega) ⟨by rw [pw_I p1 (by omega)]; exact e29, fun p hp2 => by rw [pw_I p1 (by omega)]; exact hs.2 p hp2⟩ (fun p hp2 => ?_) (by omega) (by omega)) fun _ h2 z => ⟨z.1, z.2.1, pw_tr p1 z.2.2⟩
    by_cases c : p = q
    · rw [c, w_I1]
    · rw [w_I3 (by omega)]; exact hp p (by omega)
theorem g_write_7 {h : AH} {m : Nat} {S : Cs} {ss : List (Sv × Bool)} (hK : MdK h m) (hX : ∀ t, t < 3 → aI h (m + 23) t = iI (xL (cX S t))) (hG : CsG S) (hF : MFs h m (cF S)) (hS : MSs h m ss) (h60 : ss.length ≤ 60) (hfm : ∀ x ∈ ss, x.1.2.2.2 < (cF S).length) : ∀ (d i n : Nat), i + d = ss.length → d < n → p_X11_write_7 n m (iI i) h = p_X11_write_29 m (iI (qfd (cwB S ss) d i)) h := by
  have e0 := hS.1
  intro d
  induction d with
  | zero =>
    intro i n hi hn
    obtain ⟨n, rfl⟩ : ∃ m, n = m + 1 := ⟨n - 1, by omega⟩
    unfold p_X11_write_7
    simp (disch := omega) only [ck_t, nm_q, bR_s, j_add, j_sub, j_mul, j_nI, j_0, j_le, j_lt, j_eq, j_nat, j_ixe, bI_0, and_self, and_true, true_and, ne_eq, not_false_eq_true, not_true_eq_false, ite_true, ite_false, if_true, if_false, ck_p z_0, ck_p z_1, K_uI, N_uI, R_uI, L_uI, Z_uI, U_uI, E_uI, C_uI, M_uI, Int.toNat_natCast, mdk hK, e0, if_pos]
    rfl
  | succ d ih =>
    intro i n hi hn
    obtain ⟨n, rfl⟩ : ∃ m, n = m + 1 := ⟨n - 1, by omega⟩
    have e1 := g_canWrite hK hX hG hF hS h60 hfm (k := i) (by omega)
    unfold p_X11_write_7
    simp (disch := omega) only [ck_t, nm_q, bR_s, j_add, j_sub, j_mul, j_nI, j_0, j_le, j_lt, j_eq, j_nat, j_ixe, bI_0, and_self, and_true, true_and, ne_eq, not_false_eq_true, not_true_eq_false, ite_true, ite_false, if_true, if_false, ck_p z_0, ck_p z_1, K_uI, N_uI, R_uI, L_uI, Z_uI, U_uI, E_uI, C_uI, M_uI, Int.toNat_natCast, mdk hK, e0, if_neg, e1]
    rw [qfd_s]
    cases c : cwB S ss i
    · rw [if_pos (show false = false from rfl), if_neg (show ¬ (false = true) by decide)]
      exact ih (i + 1) n (by omega) (by omega)
    · rw [if_neg (show ¬ (true = false) by decide), if_pos (show true = true from rfl)]
theorem g_write {h : AH} {m : Nat} {S : Cs} (hR : MdR h m S) (hG : CsG S) : Okp (p_X11_write m h) (fun r h' => r = iI (wrM S).1 ∧ MdR h' m (wrM S).2 ∧ Pw (mdW m) h h') := by
  have hK := hR.1
  have R2 := mdR_sc hR hG (p31 (v := iI 0))
  have p2 := pw_mono (p31 (h := h) (m := m) (v := iI 0)) scW_md
  unfold p_X11_write p_X11_write_0
  simp (disch := omega) only [ck_t, nm_q, bR_s, j_add, j_sub, j_mul, j_nI, j_0, j_le, j_lt, j_eq, j_nat, j_ixe, bI_0, and_self, and_true, true_and, ne_eq, not_false_eq_true, not_true_eq_false, ite_true, ite_false, if_true, if_false, ck_p z_0, ck_p z_1, K_uI, N_uI, R_uI, L_uI, Z_uI, U_uI, E_uI, C_uI, M_uI, Int.toNat_natCast, mdk hK]
  generalize uI h m 31 (iI 0) = g at *
  obtain ⟨r1, r2, r3, r4, ss, s1, s2, s3, s4⟩ := id R2
  have h60 := hG.2.2.2.1
  show Okp (p_X11_write_7 FU m (iI ((0 : Nat) : Int)) g) _
  rw [g_write_7 r1 (fun t ht => (r2 t ht).2.2.2.1) hG r4 s1 (by omega) s4 ss.length 0 FU (by omega) (by unfold FU; omega)]
  have hw := wr_eq s3 (fun k hk => (s1.2.1 k _ (ssg_at hk)).1)
  have hle := qfd_le (cwB S ss) ss.length 0
  have e23 := s1.1
  generalize qfd (cwB S ss) ss.length 0 = k at *
  unfold p_X11_write_29
  by_cases hk : k < ss.length
  · obtain ⟨hu, hwM⟩ := hw.1 hk
    rw [hwM]
    obtain ⟨x1, x2, x3, x4, x5, x6, x7, x8⟩ := s1.2.1 k _ (ssg_at hk)
    have hus := unw_set hk hu
    have hsm := s4 _ (List.mem_of_getElem? (ssg_at hk))
    generalize hs : ssg ss k = s at *
    obtain ⟨t, et⟩ : ∃ t, t = s.1.2.2.1 := ⟨_, rfl⟩
    rw [← et] at x3 x6 ⊢
    have gT := hG.1 t x3
    have gR := gT.1
    have hn := gR.1
    have hqn := qcn_le (rf (xR (cX S t))) (rn (xR (cX S t)))
    simp (disch := omega) only [ck_t, nm_q, bR_s, j_add, j_sub, j_mul, j_nI, j_0, j_le, j_lt, j_eq, j_nat, j_ixe, bI_0, and_self, and_true, true_and, ne_eq, not_false_eq_true, not_true_eq_false, ite_true, ite_false, if_true, if_false, ck_p z_0, ck_p z_1, K_uI, N_uI, R_uI, L_uI, Z_uI, U_uI, E_uI, C_uI, M_uI, Int.toNat_natCast, mdk r1, ck_p, e23, if_neg, x6, j_z1]
    have q1 : Pw (fun q j => q = m + 22 ∧ j = k) g (uI g (m + 22) k (bI true)) := pw_uI ⟨rfl, rfl⟩
    have n22 : aI (uI g (m + 22) k (bI true)) (m + 22) k = bI true := w_I1 _ _ _ _
    generalize uI g (m + 22) k (bI true) = g1 at *
    have K1 := mdK_pw r1 q1
    have hr1 := mRw_pw (r2 t x3).1 hn q1 fun q j w => by unfold txW; omega
    refine ok_bR (g_shows x3 gR K1 hr1) ?_
    rintro _ g2 ⟨w1, w2⟩
    have K2 := mdK_pw K1 w2
    have e5 : aI g2 (m + 5) t = xV (cX S t) := by rw [pw_I w2 (by unfold shW; omega), pw_I q1 (by omega)]; exact (r2 t x3).2.2.1
    have e29 := w1.1
    simp (disch := omega) only [ck_t, nm_q, bR_s, j_add, j_sub, j_mul, j_nI, j_0, j_le, j_lt, j_eq, j_nat, j_ixe, bI_0, and_self, and_true, true_and, ne_eq, not_false_eq_true, not_true_eq_false, ite_true, ite_false, if_true, if_false, ck_p z_0, ck_p z_1, K_uI, N_uI, R_uI, L_uI, Z_uI, U_uI, E_uI, C_uI, M_uI, Int.toNat_natCast, mdk K2, ck_p, e5, w_I2, e29]
    have q3 : Pw (fun q j => (q = m + 24 ∨ q = m + 25) ∧ j = t) g2 (uI (uI g2 (m + 24) t (xV (cX S t))) (m + 25) t (iI (qcn (rf (xR (cX S t))) (rn (xR (cX S t)))))) := pw_tr (pw_uI (by omega)) (pw_uI (by omega))
    have n24 : aI (uI (uI g2 (m + 24) t (xV (cX S t))) (m + 25) t (iI (qcn (rf (xR (cX S t))) (rn (xR (cX S t)))))) (m + 24) t = xV (cX S t) := by rw [w_I2 (by omega), w_I1]
    have n25 : aI (uI (uI g2 (m + 24) t (xV (cX S t))) (m + 25) t (iI (qcn (rf (xR (cX S t))) (rn (xR (cX S t)))))) (m + 25) t = iI (qcn (rf (xR (cX S t))) (rn (xR (cX S t)))) := w_I1 _ _ _ _
    generalize uI (uI g2 (m + 24) t (xV (cX S t))) (m + 25) t (iI (qcn (rf (xR (cX S t))) (rn (xR (cX S t))))) = g3 at *
    have K3 := mdK_pw K2 q3
    have hr2 := mRw_pw hr1 hn w2 fun q j w => by unfold shW at w; unfold txW; omega
    have hr3 := mRw_pw2 hr2 q3 fun q j w => by omega
    refine ok_to (g_write_82 (k := k) x3 gR (qcn (rf (xR (cX S t))) (rn (xR (cX S t)))) 0 FU g3 K3 hr3 ⟨by rw [pw_I q3 (by omega)]; exact e29, fun p hp => by rw [pw_I q3 (by omega)]; exact w1.2 p hp⟩ (fun p hp => absurd hp (Nat.not_lt_zero _)) (by omega) (by unfold FU; omega)) ?_
    rintro r g4 ⟨y1, y2, y3⟩
    have K4 := mdK_pw K3 y3
    have pall : Pw (fun q j => (q = m + 22 ∧ j = k) ∨ shW m q j ∨ ((q = m + 24 ∨ q = m + 25) ∧ j = t) ∨ (q = m + 26 ∧ 150 * t ≤ j ∧ j < 150 * t + 150)) g g4 := pw_tr (pw_mono q1 fun q j w => Or.inl w) (pw_tr (pw_mono w2 fun q j w => Or.inr (Or.inl w)) (pw_tr (pw_mono q3 fun q j w => Or.inr (Or.inr (Or.inl w))) (pw_mono y3 fun q j w => Or.inr (Or.inr (Or.inr w)))))
    have hT4 : MTx g4 m t (xkeep (cX S t)) := by
      obtain ⟨b1, b2, b3⟩ := r2 t x3
      refine ⟨mRw_pw2 hr3 y3 fun q j w => by omega, fun j hj => ?_, ?_⟩
      · rw [pw_I pall (by unfold shW; omega)]; exact b2 j hj
      · refine ⟨?_, ?_, ?_, ?_, y2⟩
        · rw [pw_I pall (by unfold shW; omega)]; exact b3.1
        · rw [pw_I pall (by unfold shW; omega)]; exact b3.2.1
        · rw [pw_I y3 (by omega)]; exact n24
        · rw [pw_I y3 (by omega)]; exact n25
    obtain ⟨g1', g2', g3', g4', g5', g6'⟩ := hG
    refine ⟨y1, ⟨K4, fun t2 ht2 => ?_, fun a ha => mHd_pw (r3 a ha) (show (cH S a).1.length ≤ 600 by have := g2' a ha; omega) pall fun q j w => by unfold shW at w; unfold hdW; omega, mFs_pw r4 (fun F hF => (g3' F hF).1.2.2.2.2.2.1) pall (by unfold shW; omega) (fun f q j w hf => by unfold shW at w; unfold fmW; omega), ss.set k (s.1, true), ⟨?_, fun i x hi => ?_, fun i i1 i2 => ?_⟩, ?_, ?_, fun y hy => ?_⟩, pw_tr p2 (pw_mono pall fun q j w => by unfold shW at w; unfold mdW; omega)⟩
    · show MTx g4 m t2 (if t2 = t then xkeep (cX S t) else cX S t2)
      by_cases d : t2 = t
      · rw [if_pos d, d]; exact hT4
      · rw [if_neg d]
        exact mTx_pw (r2 t2 ht2) (g1' t2 ht2).1.1 (g1' t2 ht2).2.2.1 pall fun q j w => by unfold shW at w; unfold txW; omega
    · rw [List.length_set, pw_I pall (by unfold shW; omega)]; exact e23
    · rw [List.getElem?_set] at hi
      have r19 : ∀ q j, m + 19 ≤ q → q ≤ m + 21 → aI g4 q j = aI g q j := fun q j z1 z2 => pw_I pall (by unfold shW; omega)
      by_cases d : k = i
      · subst d
        rw [if_pos rfl, if_pos hk] at hi
        cases hi
        refine ⟨x1, x2, by rw [← et]; exact x3, x4, ?_, ?_, ?_, ?_⟩
        · rw [r19 _ _ (by omega) (by omega)]; exact x5
        · rw [r19 _ _ (by omega) (by omega), ← et]; exact x6
        · rw [r19 _ _ (by omega) (by omega)]; exact x7
        · rw [pw_I y3 (by omega), pw_I q3 (by omega), pw_I w2 (by unfold shW; omega)]; exact n22
      · rw [if_neg d] at hi
        rw [r19 _ _ (by omega) (by omega), r19 _ _ (by omega) (by omega), r19 _ _ (by omega) (by omega), pw_I pall (by unfold shW; omega)]
        exact s1.2.1 i x hi
    · rw [List.length_set] at i1
      rw [pw_I pall (by unfold shW; omega)]
      exact s1.2.2 i i1 i2
    · rw [List.length_set]; exact s2
    · show (cQ S).eraseIdx _ = _
      rw [hus, s3]
    · rcases List.mem_or_eq_of_mem_set hy with z | z
      · exact s4 y z
      · rw [z]; exact hsm
  · rw [hw.2 hk]
    have ek : k = ss.length := by omega
    subst ek
    simp (disch := omega) only [ck_t, nm_q, bR_s, j_add, j_sub, j_mul, j_nI, j_0, j_le, j_lt, j_eq, j_nat, j_ixe, bI_0, and_self, and_true, true_and, ne_eq, not_false_eq_true, not_true_eq_false, ite_true, ite_false, if_true, if_false, ck_p z_0, ck_p z_1, K_uI, N_uI, R_uI, L_uI, Z_uI, U_uI, E_uI, C_uI, M_uI, Int.toNat_natCast, mdk r1, e23, if_pos]
    exact ok_some ⟨rfl, R2, p2⟩

