
/-! ===== deeds ===== -/
abbrev Dd : Type := Nat × Nat × Int
def ddo (R : Rw) (d : Dd) : Rw := if d.1 = 0 then rput R d.2.1 d.2.2 else if d.1 = 1 then rsetT R d.2.1 false else if d.1 = 2 then rsetT R d.2.1 true else rsetS R d.2.1 d.2.2
def dok (R : Rw) (d : Dd) : Prop := d.1 ≤ 3 ∧ (d.1 = 0 → d.2.1 ≤ rn R ∧ rn R < 150) ∧ (d.1 ≠ 0 → d.2.1 < rn R) ∧ 0 ≤ d.2.2 ∧ d.2.2 ≤ 65535
def DdR (h : AH) (x : Nat) (d : Dd) : Prop := x ≠ 0 ∧ x < aZ h ∧ aK h x = 4 ∧ aI h x 0 = iI d.1 ∧ aI h x 1 = iI d.2.1 ∧ aI h x 2 = iI d.2.2
def rpOk : List Dd → Rw → Rw → Prop
  | [], R, S => S = R
  | d :: ds, R, S => dok R d ∧ rpOk ds (ddo R d) S
theorem rpOk_app {ds : List Dd} {R S : Rw} {d : Dd} (h : rpOk ds R S) (hd : dok S d) : rpOk (ds ++ [d]) R (ddo S d) := by
  induction ds generalizing R with
  | nil =>
    have e : S = R := h
    subst e
    exact ⟨hd, rfl⟩
  | cons x xs ih => exact ⟨h.1, ih h.2⟩
/-- objects and what they say, in order -/
def Al {α : Type} (P : Nat → α → Prop) (xs : List Nat) (ds : List α) : Prop := xs.length = ds.length ∧ ∀ i d, ds[i]? = some d → P (xs.getD i 0) d
theorem al_mono {α : Type} {P Q : Nat → α → Prop} {xs : List Nat} {ds : List α} (h : Al P xs ds) (k : ∀ x d, x ∈ xs → P x d → Q x d) : Al Q xs ds := by
  refine ⟨h.1, fun i d hi => k _ _ (gd_mem ?_) (h.2 i d hi)⟩
  have := (List.getElem?_eq_some_iff.mp hi).1
  rw [h.1]; exact this
theorem al_app {α : Type} {P : Nat → α → Prop} {xs : List Nat} {ds : List α} {x : Nat} {d : α} (h : Al P xs ds) (hx : P x d) : Al P (xs ++ [x]) (ds ++ [d]) := by
  refine ⟨by rw [List.length_append, List.length_append, h.1]; rfl, fun i e hi => ?_⟩
  by_cases c : i < ds.length
  · rw [List.getElem?_append_left c] at hi
    rw [gd_1 (by rw [h.1]; exact c)]
    exact h.2 i e hi
  · have hlt := (List.getElem?_eq_some_iff.mp hi).1
    rw [List.length_append, List.length_singleton] at hlt
    have e1 : i = ds.length := by omega
    subst e1
    rw [List.getElem?_append_right (Nat.le_refl _), Nat.sub_self] at hi
    cases hi
    rw [← h.1, gd_2]
    exact hx
theorem dd_pr {S : Nat → Prop} {h h' : AH} {x : Nat} {d : Dd} (hd : DdR h x d) (p : Prs S h h') (hs : ∀ q, S q → aK h q ≠ 4) : DdR h' x d := by
  obtain ⟨a1, a2, a3, a4⟩ := hd
  have := p.1
  have hn : ¬ S x := fun z => hs x z a3
  unfold DdR
  rw [pr_K p a2, pr_I p a2 hn]
  exact ⟨a1, by omega, a3, a4⟩
theorem f_X2_doTo {h : AH} {x a : Nat} {R : Rw} {d : Dd} (hr : RowR h a R) (hd : DdR h x d) (hk : dok R d) : Okp (p_X2_doTo x a h) (fun _ h' => RowR h' a (ddo R d) ∧ Pi (rS a) h h') := by
  obtain ⟨d1, d2, d3⟩ := d
  obtain ⟨a1, a2, a3, a4, a5, a6⟩ := hd
  obtain ⟨b1, b2, b3, b4, b5⟩ := hk
  have ka : aK h a = 9 := hr.1.2.1
  have a0 := hr.1.1
  have x0 := eq_false a1
  unfold p_X2_doTo p_X2_doTo_0 p_X2_doTo_83 ddo
  dsimp only at a4 a5 a6 b1 b2 b3 b4 b5 ⊢
  simp (disch := omega) only [ck_t, nm_q, bR_s, j_add, j_sub, j_mul, j_nI, j_0, j_le, j_lt, j_eq, j_nat, j_ixe, bI_0, and_self, and_true, true_and, ne_eq, not_false_eq_true, not_true_eq_false, ite_true, ite_false, if_true, if_false, ck_p z_0, ck_p z_1, a0, x0, a3, ka, a4, a5, a6]
  by_cases c0 : d1 = 0
  · rw [if_pos (by omega), if_pos c0]
    exact ok_bR (f_X7_put hr (b2 c0).1 (b2 c0).2 b4 b5) (fun _ _ hr => ok_some hr)
  · rw [if_neg (by omega), if_neg c0]
    by_cases c1 : d1 = 1
    · rw [if_pos (by omega), if_pos c1]
      exact ok_bR (f_X7_setThere hr (b3 c0) false) (fun _ _ hr => ok_some hr)
    · rw [if_neg (by omega), if_neg c1]
      by_cases c2 : d1 = 2
      · rw [if_pos (by omega), if_pos c2]
        exact ok_bR (f_X7_setThere hr (b3 c0) true) (fun _ _ hr => ok_some hr)
      · rw [if_neg (by omega), if_neg c2]
        exact ok_bR (f_X7_setSign hr (b3 c0) b4 b5) (fun _ _ hr => ok_some hr)
theorem f_X2_init {h : AH} {x : Nat} {k w : Nat} {c : Int} (hx : x ≠ 0) (hk : aK h x = 4) (hz : x < aZ h) (c1 : 0 ≤ c) (c2 : c ≤ 65535) : Okp (p_X2_init x (iI k) (iI w) (iI c) h) (fun _ h' => DdR h' x (k, w, c) ∧ Pi (fun q => q = x) h h') := by
  have x0 := eq_false hx
  unfold p_X2_init p_X2_init_0
  simp (disch := omega) only [ck_t, nm_q, bR_s, j_add, j_sub, j_mul, j_nI, j_0, j_le, j_lt, j_eq, j_nat, j_ixe, bI_0, and_self, and_true, true_and, ne_eq, not_false_eq_true, not_true_eq_false, ite_true, ite_false, if_true, if_false, ck_p z_0, ck_p z_1, x0, hk, K_uI]
  rw [ck_p (j_okC c1 c2)]
  refine ok_some ⟨⟨hx, hz, hk, ?_, ?_, ?_⟩, pi_tr (pi_uI rfl) (pi_tr (pi_uI rfl) (pi_uI rfl))⟩
  · rw [w_I3 (by decide), w_I3 (by decide), w_I1]
  · rw [w_I3 (by decide), w_I1]
  · rw [w_I1]
/-! ===== a text ===== -/
abbrev Tx : Type := Rw × (Nat → Int) × List Dd × Int32 × Int × Int32 × Nat × (Nat → Int)
def xR (T : Tx) : Rw := T.1
def xC (T : Tx) : Nat → Int := T.2.1
def xD (T : Tx) : List Dd := T.2.2.1
def xV (T : Tx) : Int32 := T.2.2.2.1
def xL (T : Tx) : Int := T.2.2.2.2.1
def xW (T : Tx) : Int32 := T.2.2.2.2.2.1
def xN (T : Tx) : Nat := T.2.2.2.2.2.2.1
def xS (T : Tx) : Nat → Int := T.2.2.2.2.2.2.2
def TxK (h : AH) (t : Nat) : Prop := (t = 0) = False ∧ aK h t = 11 ∧ aR h t 1 = t + 1 ∧ aR h t 2 = t + 5 ∧ aR h t 7 = t + 6 ∧ aR h t 8 = t + 10 ∧ aR h t 9 = t + 11 ∧ aK h (t + 5) = 21 ∧ aN h (t + 5) = 150 ∧ aK h (t + 11) = 20 ∧ aN h (t + 11) = 5 ∧ t + 11 < aZ h ∧ RowK h (t + 6)
def TxI (h : AH) (t i : Nat) (T : Tx) : Prop := aI h t 0 = iI i ∧ aI h t 3 = xV T ∧ aI h t 4 = iI (xL T) ∧ aI h t 5 = xW T ∧ aI h t 6 = iI (xN T) ∧ xN T ≤ 150 ∧ (∀ j, j < xN T → aI h (t + 5) j = iI (xS T j) ∧ 0 ≤ xS T j ∧ xS T j ≤ 65535) ∧ (∀ j, j < 5 → aI h (t + 11) j = iI (xC T j)) ∧ -1 ≤ xL T ∧ xL T < 5
def TxP (T : Tx) : Prop := RwP (xR T) ∧ rpOk (xD T) r0 (xR T) ∧ ∀ j, j < 5 → -1 ≤ xC T j ∧ xC T j < rn (xR T)
def TxD (h : AH) (t : Nat) (T : Tx) : Prop := ∃ ds, LsR h (t + 10) ds ∧ Al (DdR h) ds (xD T)
def TxR (h : AH) (t i : Nat) (T : Tx) : Prop := TxK h t ∧ RowR h (t + 1) (xR T) ∧ TxI h t i T ∧ TxD h t T ∧ TxP T
/-- what a text's own methods write -/
def tS (h : AH) (t q : Nat) : Prop := (t ≤ q ∧ q ≤ t + 11) ∨ lS h (t + 10) q
theorem txK_pr {S : Nat → Prop} {h h' : AH} {t : Nat} (hk : TxK h t) (x : Prs S h h') (hs : ¬ S t) (hs2 : ¬ S (t + 6)) : TxK h' t := by
  obtain ⟨a0, k0, k1, k2, k3, k4, k5, k6, k7, k8, k9, k10, k11⟩ := hk
  have := x.1
  have e := pr_R x (q := t) (by omega) hs
  refine ⟨a0, ?_, ?_, ?_, ?_, ?_, ?_, ?_, ?_, ?_, ?_, by omega, rowK_pr k11 x hs2⟩
  · rw [pr_K x (by omega), k0]
  · rw [e, k1]
  · rw [e, k2]
  · rw [e, k3]
  · rw [e, k4]
  · rw [e, k5]
  · rw [pr_K x (by omega), k6]
  · rw [pr_N x (by omega), k7]
  · rw [pr_K x (by omega), k8]
  · rw [pr_N x (by omega), k9]
theorem txK_pi {S : Nat → Prop} {h h' : AH} {t : Nat} (hk : TxK h t) (x : Pi S h h') : TxK h' t := by
  have hr := rowK_pi hk.2.2.2.2.2.2.2.2.2.2.2.2 x
  obtain ⟨x1, x2, x3, x4, x5, x6, x7, x8, x9, x10⟩ := x
  unfold TxK at hk ⊢
  rw [x1, x2, x3, x5]
  exact ⟨hk.1, hk.2.1, hk.2.2.1, hk.2.2.2.1, hk.2.2.2.2.1, hk.2.2.2.2.2.1, hk.2.2.2.2.2.2.1, hk.2.2.2.2.2.2.2.1, hk.2.2.2.2.2.2.2.2.1, hk.2.2.2.2.2.2.2.2.2.1, hk.2.2.2.2.2.2.2.2.2.2.1, hk.2.2.2.2.2.2.2.2.2.2.2.1, hr⟩
theorem txD_pr {S : Nat → Prop} {h h' : AH} {t : Nat} {T : Tx} (hd : TxD h t T) (x : Prs S h h') (h1 : ¬ S (t + 10)) (h2 : ¬ S (aR h (t + 10) 1)) (h4 : ∀ q, S q → aK h q ≠ 4) : TxD h' t T := by
  obtain ⟨ds, l1, l2⟩ := hd
  exact ⟨ds, ls_pr l1 x h1 h2, al_mono l2 fun y d _ z => dd_pr z x h4⟩
theorem txI_pr {S : Nat → Prop} {h h' : AH} {t i : Nat} {T : Tx} (hk : TxK h t) (hi : TxI h t i T) (x : Prs S h h') (h1 : ¬ S t) (h2 : ¬ S (t + 5)) (h3 : ¬ S (t + 11)) : TxI h' t i T := by
  have hz := hk.2.2.2.2.2.2.2.2.2.2.2.1
  unfold TxI at hi ⊢
  rw [pr_I x (q := t) (by omega) h1, pr_I x (q := t + 5) (by omega) h2, pr_I x (q := t + 11) (by omega) h3]
  exact hi
theorem txR_pr {S : Nat → Prop} {h h' : AH} {t i : Nat} {T : Tx} (hT : TxR h t i T) (x : Prs S h h') (hs : ∀ q, t ≤ q → q ≤ t + 11 → ¬ S q) (h2 : ¬ S (aR h (t + 10) 1)) (h4 : ∀ q, S q → aK h q ≠ 4) : TxR h' t i T := by
  obtain ⟨b1, b2, b3, b4, b5⟩ := hT
  exact ⟨txK_pr b1 x (hs _ (by omega) (by omega)) (hs _ (by omega) (by omega)), rowR_pr b2 x (fun q z1 z2 => hs q (by omega) (by omega)), txI_pr b1 b3 x (hs _ (by omega) (by omega)) (hs _ (by omega) (by omega)) (hs _ (by omega) (by omega)), txD_pr b4 x (hs _ (by omega) (by omega)) h2 h4, b5⟩

