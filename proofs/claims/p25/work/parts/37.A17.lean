
/-! ===== changes: the letter, what it had, what is wanted (1: that it goes), its neighbours ===== -/
abbrev Ch : Type := (Nat × Int × Int) × Int × Int
def ChP (c : Ch) : Prop := c.1.1 < 150 ∧ 0 ≤ c.1.2.1 ∧ c.1.2.1 ≤ 65535 ∧ 1 ≤ c.1.2.2 ∧ c.1.2.2 ≤ 65535 ∧ -1 ≤ c.2.1 ∧ c.2.1 < 150 ∧ -1 ≤ c.2.2 ∧ c.2.2 < 150
def ChR (h : AH) (x : Nat) (c : Ch) : Prop := x ≠ 0 ∧ x < aZ h ∧ aK h x = 3 ∧ aI h x 0 = iI c.1.1 ∧ aI h x 1 = iI c.1.2.1 ∧ aI h x 2 = iI c.1.2.2 ∧ aI h x 3 = iI c.2.1 ∧ aI h x 4 = iI c.2.2
theorem ch_pr {S : Nat → Prop} {h h' : AH} {x : Nat} {c : Ch} (hd : ChR h x c) (p : Prs S h h') (hs : ¬ S x) : ChR h' x c := by
  obtain ⟨a1, a2, a3, a4⟩ := hd
  have := p.1
  unfold ChR
  rw [pr_K p a2, pr_I p a2 hs]
  exact ⟨a1, by omega, a3, a4⟩
theorem f_X1_init {h : AH} {x l : Nat} {sg w a b : Int} (hx : x ≠ 0) (hk : aK h x = 3) (hz : x < aZ h) (s1 : 0 ≤ sg) (s2 : sg ≤ 65535) (w1 : 0 ≤ w) (w2 : w ≤ 65535) : Okp (p_X1_init x (iI l) (iI sg) (iI w) (iI a) (iI b) h) (fun _ h' => ChR h' x ((l, sg, w), a, b) ∧ Pi (fun q => q = x) h h') := by
  have x0 := eq_false hx
  unfold p_X1_init p_X1_init_0
  simp (disch := omega) only [ck_t, nm_q, bR_s, j_add, j_sub, j_mul, j_nI, j_0, j_le, j_lt, j_eq, j_nat, j_ixe, bI_0, and_self, and_true, true_and, ne_eq, not_false_eq_true, not_true_eq_false, ite_true, ite_false, if_true, if_false, ck_p z_0, ck_p z_1, x0, hk, K_uI]
  rw [ck_p (j_okC s1 s2), ck_p (j_okC w1 w2)]
  refine ok_some ⟨⟨hx, hz, hk, ?_, ?_, ?_, ?_, ?_⟩, pi_tr (pi_uI rfl) (pi_tr (pi_uI rfl) (pi_tr (pi_uI rfl) (pi_tr (pi_uI rfl) (pi_uI rfl))))⟩
  · rw [w_I3 (by decide), w_I3 (by decide), w_I3 (by decide), w_I3 (by decide), w_I1]
  · rw [w_I3 (by decide), w_I3 (by decide), w_I3 (by decide), w_I1]
  · rw [w_I3 (by decide), w_I3 (by decide), w_I1]
  · rw [w_I3 (by decide), w_I1]
  · rw [w_I1]
theorem f_X1_goes {h : AH} {x : Nat} {c : Ch} (hc : ChR h x c) (hP : ChP c) : p_X1_goes x h = some (bI (decide (c.1.2.2 = 1)), h) := by
  obtain ⟨a1, a2, a3, a4, a5, a6, a7, a8⟩ := hc
  have x0 := eq_false a1
  have hp := hP.2.2.2.1
  have hp2 := hP.2.2.2.2.1
  unfold p_X1_goes p_X1_goes_0 p_X1_goes_13
  simp (disch := omega) only [ck_t, nm_q, bR_s, j_add, j_sub, j_mul, j_nI, j_0, j_le, j_lt, j_eq, j_nat, j_ixe, bI_0, and_self, and_true, true_and, ne_eq, not_false_eq_true, not_true_eq_false, ite_true, ite_false, if_true, if_false, ck_p z_0, ck_p z_1, x0, a3, a6]
  by_cases e : c.1.2.2 = 1
  · rw [if_pos e, decide_eq_true e]; rfl
  · rw [if_neg e, decide_eq_false e]; rfl
def gw (Lt : Nat → Nat) (Wn : Nat → Int) : Nat → Nat → Bool
  | 0, _ => false
  | q + 1, l => if Wn q = 1 then (if l = Lt q then true else gw Lt Wn q l) else gw Lt Wn q l
def chl (Lt : Nat → Nat) (Sg Wn A B : Nat → Int) : Nat → List Ch
  | 0 => []
  | q + 1 => if Wn q = 0 then chl Lt Sg Wn A B q else chl Lt Sg Wn A B q ++ [((Lt q, Sg q, Wn q), A q, B q)]
def goL (cs : List Ch) (l : Nat) : Bool := cs.any (fun c => decide (c.1.1 = l) && decide (c.1.2.2 = 1))
theorem gw_goL (Lt : Nat → Nat) (Sg Wn A B : Nat → Int) (m l : Nat) : gw Lt Wn m l = goL (chl Lt Sg Wn A B m) l := by
  induction m with
  | zero => rfl
  | succ q ih =>
    have e1 : gw Lt Wn (q + 1) l = if Wn q = 1 then (if l = Lt q then true else gw Lt Wn q l) else gw Lt Wn q l := rfl
    have e2 : chl Lt Sg Wn A B (q + 1) = if Wn q = 0 then chl Lt Sg Wn A B q else chl Lt Sg Wn A B q ++ [((Lt q, Sg q, Wn q), A q, B q)] := rfl
    rw [e1, e2]
    by_cases c : Wn q = 1
    · rw [if_pos c, if_neg (show ¬ Wn q = 0 by omega)]
      unfold goL at ih ⊢
      rw [List.any_append, ← ih]
      by_cases d : l = Lt q
      · rw [if_pos d]
        simp [d, c]
      · rw [if_neg d]
        have d' : ¬ Lt q = l := fun z => d z.symm
        simp [d']
    · rw [if_neg c]
      by_cases d : Wn q = 0
      · rw [if_pos d]; exact ih
      · rw [if_neg d]
        unfold goL at ih ⊢
        rw [List.any_append, ← ih]
        simp [c]
theorem chl_len (Lt : Nat → Nat) (Sg Wn A B : Nat → Int) (m : Nat) : (chl Lt Sg Wn A B m).length ≤ m := by
  induction m with
  | zero => exact Nat.le_refl _
  | succ q ih =>
    unfold chl
    split
    · omega
    · rw [List.length_append, List.length_singleton]; omega
/-- each change has a cell of its own -/
def ndp (xs : List Nat) : Prop := ∀ i j, i < xs.length → j < xs.length → xs.getD i 0 = xs.getD j 0 → i = j
theorem ndp_app {xs : List Nat} {x : Nat} (h : ndp xs) (hx : ∀ y ∈ xs, y ≠ x) : ndp (xs ++ [x]) := by
  intro i j hi hj e
  rw [List.length_append, List.length_singleton] at hi hj
  by_cases c : i = xs.length
  · by_cases d : j = xs.length
    · omega
    · rw [c, gd_2, gd_1 (by omega)] at e
      exact absurd e.symm (hx _ (gd_mem (by omega)))
  · by_cases d : j = xs.length
    · rw [d, gd_2, gd_1 (by omega)] at e
      exact absurd e (hx _ (gd_mem (by omega)))
    · rw [gd_1 (by omega), gd_1 (by omega)] at e
      exact h i j (by omega) (by omega) e
theorem f_X6_changes_56 {b nb m l z0 : Nat} {Lt : Nat → Nat} {Sg Wn A B : Nat → Int} (hab : b + 3 < nb ∨ nb + 3 < b) : ∀ (k q n : Nat) (h : AH) (xs : List Nat), PlR h b m Lt Sg Wn → NbK h nb → (∀ q, q < m → aI h (nb + 2) (Lt q) = iI (A q) ∧ aI h (nb + 3) (Lt q) = iI (B q)) → Wf h → LsR h l xs → Al (ChR h) xs (chl Lt Sg Wn A B q) → ndp xs → z0 ≤ l → (aR h l 1 = aE h ∨ z0 ≤ aR h l 1) → b + 3 < z0 → nb + 3 < z0 → q + k = m → k < n → aZ h + 2 * k ≤ aC h → aU h + 6 * k + 4 * (1761 - lc h l) ≤ gS →
    Okp (p_X6_changes_56 n b nb l (iI q) h) (fun r h' => r = l ∧ ∃ ys, Wf h' ∧ LsR h' l ys ∧ Al (ChR h') ys (chl Lt Sg Wn A B m) ∧ ndp ys ∧ Prs (fun x => z0 ≤ x) h h' ∧ (aR h' l 1 = aE h' ∨ z0 ≤ aR h' l 1) ∧ aZ h' ≤ aZ h + 2 * k ∧ aU h' + 4 * lc h l ≤ aU h + 6 * k + 4 * lc h' l ∧ lc h l ≤ lc h' l) := by
  intro k
  induction k with
  | zero =>
    intro q n h xs hp hk hv hw hl hal hnd hz hza hb hnb hq hn hz1 hu
    obtain ⟨n, rfl⟩ : ∃ m, n = m + 1 := ⟨n - 1, by omega⟩
    have k0 := hp.1.2.1
    have hc := hp.2.1
    have hm := hp.2.2.1
    unfold p_X6_changes_56
    simp (disch := omega) only [ck_t, nm_q, bR_s, j_add, j_sub, j_mul, j_nI, j_0, j_le, j_lt, j_eq, j_nat, j_ixe, bI_0, and_self, and_true, true_and, ne_eq, not_false_eq_true, not_true_eq_false, ite_true, ite_false, if_true, if_false, ck_p z_0, ck_p z_1, k0, hc]
    rw [if_pos (by omega)]
    rw [show q = m by omega] at hal
    exact ok_some ⟨rfl, xs, hw, hl, hal, hnd, pr_rf, hza, by omega, by omega, Nat.le_refl _⟩
  | succ k ih =>
    intro q n h xs hp hk hv hw hl hal hnd hz hza hb hnb hq hn hz1 hu
    obtain ⟨n, rfl⟩ : ∃ m, n = m + 1 := ⟨n - 1, by omega⟩
    have hp' := hp
    obtain ⟨⟨a0, k0, k1, k2, k3, k4, k5, k6, k7, k8, k9, k10⟩, hc, hm, hqq⟩ := hp
    have g := hqq q (by omega)
    have hnz := hk.2.2.2.2.2.2.2.2.2.2.2
    have kn := hk.2.1
    have hlz := hl.2.2.1
    have hlen := hal.1
    have hcl := chl_len Lt Sg Wn A B q
    unfold p_X6_changes_56 p_X6_changes_126
    simp (disch := omega) only [ck_t, nm_q, bR_s, j_add, j_sub, j_mul, j_nI, j_0, j_le, j_lt, j_eq, j_nat, j_ixe, bI_0, and_self, and_true, true_and, ne_eq, not_false_eq_true, not_true_eq_false, ite_true, ite_false, if_true, if_false, ck_p z_0, ck_p z_1, k0, hc, k3, k8, k9, Int.toNat_natCast, g.2.2.2.2.2.1]
    rw [if_neg (by omega), ck_p (by omega)]
    by_cases c : Wn q = 0
    · rw [if_pos c]
      refine ok_to (ih (q + 1) n h xs hp' hk hv hw hl ?_ hnd hz hza hb hnb (by omega) (by omega) (by omega) (by omega)) ?_
      · unfold chl; rw [if_pos c]; exact hal
      · rintro r h' ⟨e, ys, y1, y2, y3, y4, y5, y6, y7, y8, y9⟩
        exact ⟨e, ys, y1, y2, y3, y4, y5, y6, by omega, by omega, y9⟩
    · rw [if_neg c]
      have p0 : Prs (fun x => aZ h ≤ x) h (uN h 3 6) := pr_uN
      have hk1 : NbK (uN h 3 6) nb := nbK_pr hk p0 (by omega)
      have v1 := hv q (by omega)
      have e1 := f_X5_aheadOf (h := uN h 3 6) (l := Lt q) (z := A q) hk1 g.2.1 (by rw [w_IN2 (by omega)]; exact v1.1)
      have e2 := f_X5_behindOf (h := uN h 3 6) (l := Lt q) (z := B q) hk1 g.2.1 (by rw [w_IN2 (by omega)]; exact v1.2)
      have kn1 : aK (uN h 3 6) nb = 7 := hk1.2.1
      have kb1 : aK (uN h 3 6) b = 8 := by rw [w_KN2 (by omega)]; exact k0
      have r1 : aR (uN h 3 6) b 1 = b + 2 := by rw [w_RN2 (by omega)]; exact k2
      have r2 : aR (uN h 3 6) b 2 = b + 3 := by rw [w_RN2 (by omega)]; exact k3
      have t1 : aK (uN h 3 6) (b + 2) = 21 := by rw [w_KN2 (by omega)]; exact k6
      have t2 : aN (uN h 3 6) (b + 2) = 150 := by rw [w_NN2 (by omega)]; exact k7
      have t3 : aK (uN h 3 6) (b + 3) = 21 := by rw [w_KN2 (by omega)]; exact k8
      have t4 : aN (uN h 3 6) (b + 3) = 150 := by rw [w_NN2 (by omega)]; exact k9
      have i1 : aI (uN h 3 6) (b + 2) q = iI (Sg q) := by rw [w_IN2 (by omega)]; exact g.2.2.1
      have i2 : aI (uN h 3 6) (b + 3) q = iI (Wn q) := by rw [w_IN2 (by omega)]; exact g.2.2.2.2.2.1
      simp (disch := omega) only [ck_t, nm_q, bR_s, j_add, j_sub, j_mul, j_nI, j_0, j_le, j_lt, j_eq, j_nat, j_ixe, bI_0, and_self, and_true, true_and, ne_eq, not_false_eq_true, not_true_eq_false, ite_true, ite_false, if_true, if_false, ck_p z_0, ck_p z_1, k1, k4, k5, Int.toNat_natCast, g.1]
      rw [ck_p (by omega), ck_p ⟨by omega, by omega⟩]
      simp (disch := omega) only [ck_t, nm_q, bR_s, j_add, j_sub, j_mul, j_nI, j_0, j_le, j_lt, j_eq, j_nat, j_ixe, bI_0, and_self, and_true, true_and, ne_eq, not_false_eq_true, not_true_eq_false, ite_true, ite_false, if_true, if_false, ck_p z_0, ck_p z_1, kb1, r1, r2, t1, t2, t3, t4, i1, i2, kn1, e1, e2, Int.toNat_natCast]
      rw [ck_p (by omega), ck_p (by omega), ck_p (by rw [w_KN1]; decide)]
      refine ok_bR (f_X1_init (by omega) (w_KN1 h 3 6) (by show aZ h < aZ h + 1; omega) g.2.2.2.1 g.2.2.2.2.1 g.2.2.2.2.2.2.1 g.2.2.2.2.2.2.2) ?_
      rintro _ h1 ⟨q1, q2⟩
      have p1 : Prs (fun x => aZ h ≤ x) h h1 := pr_tr p0 (pr_mono (pi_pr q2) fun x _ z => by omega)
      have hw1 : Wf h1 := wf_pi (wf_uN hw (by decide)) q2
      have hz2 : aZ h1 = aZ h + 1 := q2.2.2.2.2.1
      have hu2 : aU h1 = aU h + 6 := q2.2.2.2.2.2.1
      have hc2 : aC h1 = aC h := q2.2.2.2.2.2.2.2.1
      have har := hl.2.2.2.2.2.2.1
      have hl1 : LsR h1 l xs := ls_pr hl p1 (by omega) (by omega)
      have hlc1 : lc h1 l = lc h l := lc_pr hl p1 (by omega)
      have ha1 : aR h1 l = aR h l := pr_R p1 hlz (by omega)
      have hal1 : Al (ChR h1) xs (chl Lt Sg Wn A B q) := al_mono hal fun y e _ z => ch_pr z p1 (by have := z.2.1; omega)
      have kl1 := hl1.2.1
      simp only [kl1, ck_t]
      refine ok_bR (f_add (x := aZ h) hl1 hw1 ⟨by omega, by omega, by rw [q1.2.2.1]; decide, by rw [q1.2.2.1]; decide⟩ (by omega) (by omega) (by omega)) ?_
      rintro r h2 ⟨f1, f2, f3, f4, f5, f6, f7, f8⟩
      have hS : ∀ x, lS h1 l x → z0 ≤ x := by
        intro x z
        rcases z with z | z
        · omega
        · have hee : aE h1 = aE h := p1.2.1
          rw [ha1, hee] at z
          rcases hza with w | w
          · exact absurd (z.1.trans w) z.2
          · omega
      have p2 : Prs (fun x => z0 ≤ x) h h2 := pr_tr (pr_mono p1 fun x _ z => by omega) (pr_mono f4 fun x _ z => hS x z)
      have hp2 : PlR h2 b m Lt Sg Wn := plR_pr hp' p2 (fun x z1 z2 => by omega)
      have hk2 : NbK h2 nb := nbK_pr hk p2 (by omega)
      have hv2 : ∀ q, q < m → aI h2 (nb + 2) (Lt q) = iI (A q) ∧ aI h2 (nb + 3) (Lt q) = iI (B q) := by
        intro j hj
        rw [pr_I p2 (q := nb + 2) (by omega) (by omega), pr_I p2 (q := nb + 3) (by omega) (by omega)]
        exact hv j hj
      have no : ∀ x c, ChR h1 x c → ¬ lS h1 l x := by
        intro x c hx z
        have kx := hx.2.2.1
        rcases z with z | z
        · rw [z] at kx; omega
        · have := hl1.2.2.2.2.1; rw [← z.1] at this; omega
      have hal2 : Al (ChR h2) (xs ++ [aZ h]) (chl Lt Sg Wn A B (q + 1)) := by
        unfold chl
        rw [if_neg c]
        exact al_app (al_mono hal1 fun y e _ z => ch_pr z f4 (no y e z)) (ch_pr q1 f4 (no _ _ q1))
      have hl2 : lc h2 l ≤ 1761 := f2.2.2.2.2.2.2.2.2.1
      refine ok_to (ih (q + 1) n h2 (xs ++ [aZ h]) hp2 hk2 hv2 f3 f2 hal2 (ndp_app hnd fun y hy => by have := (hl.2.2.2.2.2.2.2.2.2.2.2 y hy).2.1; omega) hz ?_ hb hnb (by omega) (by omega) (by have := f4.2.2.1; omega) (by omega)) ?_
      · have hee : aE h2 = aE h := p2.2.1
        rw [hee]
        rcases f7 with w | w
        · rw [w, ha1]; exact hza
        · exact Or.inr (by omega)
      · rintro r h' ⟨e, ys, y1, y2, y3, y4, y5, y6, y7, y8, y9⟩
        exact ⟨e, ys, y1, y2, y3, y4, pr_trN p2 y5 (fun x _ z => z), y6, by omega, by omega, by omega⟩

