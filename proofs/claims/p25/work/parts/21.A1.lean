/-! ===== numbers: every int is iI of an integer ===== -/
theorem j_add (a b : Int) : iI a + iI b = iI (a + b) := (Int32.ofInt_add a b).symm
theorem j_sub (a b : Int) : iI a - iI b = iI (a - b) := (Int32.ofInt_sub a b).symm
theorem j_mul (a b : Int) : iI a * iI b = iI (a * b) := (Int32.ofInt_mul a b).symm
theorem j_nI (n : Nat) : nI n = iI (n : Int) := Int32.ofInt_eq_ofNat.symm
theorem j_0 : (0 : Int32) = iI 0 := by decide +kernel
theorem j_1 : (1 : Int32) = iI 1 := by decide +kernel
theorem j_toInt {a : Int} (h1 : -2147483648 ≤ a) (h2 : a < 2147483648) : (iI a).toInt = a := Int32.toInt_ofInt_of_le h1 h2
theorem j_le {a b : Int} (h1 : -2147483648 ≤ a) (h2 : a < 2147483648) (h3 : -2147483648 ≤ b) (h4 : b < 2147483648) : (iI a ≤ iI b) = (a ≤ b) := by
  rw [Int32.le_iff_toInt_le, j_toInt h1 h2, j_toInt h3 h4]
theorem j_lt {a b : Int} (h1 : -2147483648 ≤ a) (h2 : a < 2147483648) (h3 : -2147483648 ≤ b) (h4 : b < 2147483648) : (iI a < iI b) = (a < b) := by
  rw [Int32.lt_iff_toInt_lt, j_toInt h1 h2, j_toInt h3 h4]
theorem j_eq {a b : Int} (h1 : -2147483648 ≤ a) (h2 : a < 2147483648) (h3 : -2147483648 ≤ b) (h4 : b < 2147483648) : (iI a = iI b) = (a = b) := by
  rw [← Int32.toInt_inj, j_toInt h1 h2, j_toInt h3 h4]
theorem j_nat {a : Int} (h1 : -2147483648 ≤ a) (h2 : a < 2147483648) : (iI a).toNatClampNeg = a.toNat := by
  show (iI a).toInt.toNat = _
  rw [j_toInt h1 h2]
theorem j_all (x : Int32) : ∃ z : Int, x = iI z ∧ -2147483648 ≤ z ∧ z < 2147483648 := ⟨x.toInt, (Int32.ofInt_toInt x).symm, Int32.le_toInt x, Int32.toInt_lt x⟩
theorem j_ix {a : Int} {n : Nat} (h1 : 0 ≤ a) (h2 : a < n) (h3 : n < 2147483648) : ix (iI a) n := by
  refine ⟨?_, ?_⟩
  · rw [j_0, j_le (by decide) (by decide) (by omega) (by omega)]; exact h1
  · rw [j_nat (by omega) (by omega)]; omega
/-- a truth as the machine has it -/
def bI (b : Bool) : Int32 := iI (if b then 1 else 0)
theorem bI_t : bI true = iI 1 := rfl
theorem bI_f : bI false = iI 0 := rfl
theorem bI_0 (b : Bool) : (bI b = iI 0) = (b = false) := by cases b <;> simp <;> decide +kernel
theorem bI_z (b : Bool) : okZ (bI b) := by cases b <;> decide +kernel
theorem z_0 : okZ (iI 0) := by decide +kernel
theorem z_1 : okZ (iI 1) := by decide +kernel
theorem j_zb (b : Bool) : nZ (bI b) = bI b := by cases b <;> decide +kernel
theorem j_z0 : nZ (iI 0) = bI false := by decide +kernel
theorem j_z1 : nZ (iI 1) = bI true := by decide +kernel
theorem j_okC {a : Int} (h1 : 0 ≤ a) (h2 : a ≤ 65535) : okC (iI a) := by
  refine ⟨?_, ?_⟩
  · rw [j_0, j_le (by decide) (by decide) (by omega) (by omega)]; exact h1
  · rw [show (65535 : Int32) = iI 65535 from by decide +kernel, j_le (by omega) (by omega) (by decide) (by decide)]; exact h2
/-! ===== what a program answers ===== -/
def Okp {α : Type} (x : Option (α × AH)) (Q : α → AH → Prop) : Prop := ∃ (r : α) (h : AH), x = some (r, h) ∧ Q r h
theorem ok_ck {α : Type} {c : Prop} [Decidable c] {x : Option (α × AH)} {Q : α → AH → Prop} (hc : c) (h : Okp x Q) : Okp (ck c x) Q := by rw [ck_p hc]; exact h
theorem ok_nm {α β : Type} {a : β} {f : β → Option (α × AH)} {Q : α → AH → Prop} (h : Okp (f a) Q) : Okp (nm a f) Q := h
theorem ok_bR {α β : Type} {x : Option (α × AH)} {f : α → AH → Option (β × AH)} {R : α → AH → Prop} {Q : β → AH → Prop} (h : Okp x R) (k : ∀ r h1, R r h1 → Okp (f r h1) Q) : Okp (bR x f) Q := by
  obtain ⟨r, h1, e, hr⟩ := h
  subst e
  exact k r h1 hr
theorem ok_eq {α β : Type} {x : Option (α × AH)} {f : α → AH → Option (β × AH)} {r : α} {h1 : AH} {Q : β → AH → Prop} (h : x = some (r, h1)) (k : Okp (f r h1) Q) : Okp (bR x f) Q := by
  subst h
  exact k
theorem ok_some {α : Type} {r : α} {h : AH} {Q : α → AH → Prop} (hq : Q r h) : Okp (some (r, h)) Q := ⟨r, h, rfl, hq⟩
theorem ok_to {α : Type} {x : Option (α × AH)} {Q R : α → AH → Prop} (h : Okp x Q) (k : ∀ r h1, Q r h1 → R r h1) : Okp x R := by
  obtain ⟨r, h1, e, hr⟩ := h
  exact ⟨r, h1, e, k r h1 hr⟩
theorem bR_e {α β : Type} {x : Option (α × AH)} {f : α → AH → Option β} {r : α} {h1 : AH} (h : x = some (r, h1)) : bR x f = f r h1 := by subst h; rfl
theorem nm_q {α β : Type} (x : α) (f : α → β) : nm x f = f x := rfl
/-! ===== reads of writes ===== -/
theorem K_uI (h : AH) (a k : Nat) (v : Int32) : aK (uI h a k v) = aK h := rfl
theorem N_uI (h : AH) (a k : Nat) (v : Int32) : aN (uI h a k v) = aN h := rfl
theorem R_uI (h : AH) (a k : Nat) (v : Int32) : aR (uI h a k v) = aR h := rfl
theorem L_uI (h : AH) (a k : Nat) (v : Int32) : aL (uI h a k v) = aL h := rfl
theorem Z_uI (h : AH) (a k : Nat) (v : Int32) : aZ (uI h a k v) = aZ h := rfl
theorem U_uI (h : AH) (a k : Nat) (v : Int32) : aU (uI h a k v) = aU h := rfl
theorem E_uI (h : AH) (a k : Nat) (v : Int32) : aE (uI h a k v) = aE h := rfl
theorem C_uI (h : AH) (a k : Nat) (v : Int32) : aC (uI h a k v) = aC h := rfl
theorem M_uI (h : AH) (a k : Nat) (v : Int32) : aM (uI h a k v) = aM h := rfl
theorem I_uI (h : AH) (a k : Nat) (v : Int32) (b j : Nat) : aI (uI h a k v) b j = if b = a ∧ j = k then v else aI h b j := rfl
theorem K_uR (h : AH) (a k v : Nat) : aK (uR h a k v) = aK h := rfl
theorem N_uR (h : AH) (a k v : Nat) : aN (uR h a k v) = aN h := rfl
theorem I_uR (h : AH) (a k v : Nat) : aI (uR h a k v) = aI h := rfl
theorem L_uR (h : AH) (a k v : Nat) : aL (uR h a k v) = aL h := rfl
theorem Z_uR (h : AH) (a k v : Nat) : aZ (uR h a k v) = aZ h := rfl
theorem U_uR (h : AH) (a k v : Nat) : aU (uR h a k v) = aU h := rfl
theorem E_uR (h : AH) (a k v : Nat) : aE (uR h a k v) = aE h := rfl
theorem C_uR (h : AH) (a k v : Nat) : aC (uR h a k v) = aC h := rfl
theorem M_uR (h : AH) (a k v : Nat) : aM (uR h a k v) = aM h := rfl
theorem R_uR (h : AH) (a k v : Nat) (b j : Nat) : aR (uR h a k v) b j = if b = a ∧ j = k then v else aR h b j := rfl
theorem K_uN (h : AH) (K n b : Nat) : aK (uN h K n) b = if b = aZ h then K else aK h b := rfl
theorem N_uN (h : AH) (K n b : Nat) : aN (uN h K n) b = if b = aZ h then n else aN h b := rfl
theorem I_uN (h : AH) (K n b j : Nat) : aI (uN h K n) b j = if b = aZ h then 0 else aI h b j := rfl
theorem R_uN (h : AH) (K n b j : Nat) : aR (uN h K n) b j = if b = aZ h then 0 else aR h b j := rfl
theorem L_uN (h : AH) (K n b j : Nat) : aL (uN h K n) b j = if b = aZ h then 0 else aL h b j := rfl
theorem Z_uN (h : AH) (K n : Nat) : aZ (uN h K n) = aZ h + 1 := rfl
theorem U_uN (h : AH) (K n : Nat) : aU (uN h K n) = aU h + n := rfl
theorem E_uN (h : AH) (K n : Nat) : aE (uN h K n) = aE h := rfl
theorem C_uN (h : AH) (K n : Nat) : aC (uN h K n) = aC h := rfl
theorem M_uN (h : AH) (K n : Nat) : aM (uN h K n) = aM h := rfl
/-! ===== what a step leaves: all but the cells of S ===== -/
def Prs (S : Nat → Prop) (h h' : AH) : Prop := aZ h ≤ aZ h' ∧ aE h' = aE h ∧ aC h' = aC h ∧ aM h' = aM h ∧ (∀ q, q < aZ h → aK h' q = aK h q ∧ aN h' q = aN h q) ∧ ∀ q, q < aZ h → ¬ S q → aI h' q = aI h q ∧ aR h' q = aR h q ∧ aL h' q = aL h q
theorem pr_rf {S : Nat → Prop} {h : AH} : Prs S h h := ⟨Nat.le_refl _, rfl, rfl, rfl, fun _ _ => ⟨rfl, rfl⟩, fun _ _ _ => ⟨rfl, rfl, rfl⟩⟩
theorem pr_tr {S : Nat → Prop} {h h1 h2 : AH} (x : Prs S h h1) (y : Prs S h1 h2) : Prs S h h2 := by
  obtain ⟨x1, x2, x3, x4, x5, x6⟩ := x
  obtain ⟨y1, y2, y3, y4, y5, y6⟩ := y
  refine ⟨Nat.le_trans x1 y1, y2.trans x2, y3.trans x3, y4.trans x4, fun q hq => ?_, fun q hq hs => ?_⟩
  · have := x5 q hq; have := y5 q (Nat.lt_of_lt_of_le hq x1)
    exact ⟨this.1.trans (x5 q hq).1, this.2.trans (x5 q hq).2⟩
  · have a := x6 q hq hs; have b := y6 q (Nat.lt_of_lt_of_le hq x1) hs
    exact ⟨b.1.trans a.1, b.2.1.trans a.2.1, b.2.2.trans a.2.2⟩
/-- as above, where the second step may also write what is new -/
theorem pr_trN {S S2 : Nat → Prop} {h h1 h2 : AH} (x : Prs S h h1) (y : Prs S2 h1 h2) (hs2 : ∀ q, q < aZ h → S2 q → S q) : Prs S h h2 := by
  obtain ⟨x1, x2, x3, x4, x5, x6⟩ := x
  obtain ⟨y1, y2, y3, y4, y5, y6⟩ := y
  refine ⟨Nat.le_trans x1 y1, y2.trans x2, y3.trans x3, y4.trans x4, fun q hq => ?_, fun q hq hs => ?_⟩
  · have := x5 q hq; have := y5 q (Nat.lt_of_lt_of_le hq x1)
    exact ⟨this.1.trans (x5 q hq).1, this.2.trans (x5 q hq).2⟩
  · have a := x6 q hq hs; have b := y6 q (Nat.lt_of_lt_of_le hq x1) (fun z => hs (hs2 q hq z))
    exact ⟨b.1.trans a.1, b.2.1.trans a.2.1, b.2.2.trans a.2.2⟩
theorem pr_mono {S S2 : Nat → Prop} {h h1 : AH} (x : Prs S h h1) (hs : ∀ q, q < aZ h → S q → S2 q) : Prs S2 h h1 := ⟨x.1, x.2.1, x.2.2.1, x.2.2.2.1, x.2.2.2.2.1, fun q hq z => x.2.2.2.2.2 q hq fun w => z (hs q hq w)⟩
theorem pr_uI {S : Nat → Prop} {h : AH} {a k : Nat} {v : Int32} (ha : S a) : Prs S h (uI h a k v) := by
  refine ⟨Nat.le_refl _, rfl, rfl, rfl, fun _ _ => ⟨rfl, rfl⟩, fun q hq hs => ⟨?_, rfl, rfl⟩⟩
  funext j
  exact if_neg fun (z : q = a ∧ j = k) => hs (z.1 ▸ ha)
theorem pr_uR {S : Nat → Prop} {h : AH} {a k v : Nat} (ha : S a) : Prs S h (uR h a k v) := by
  refine ⟨Nat.le_refl _, rfl, rfl, rfl, fun _ _ => ⟨rfl, rfl⟩, fun q hq hs => ⟨rfl, ?_, rfl⟩⟩
  funext j
  exact if_neg fun (z : q = a ∧ j = k) => hs (z.1 ▸ ha)
theorem pr_uL {S : Nat → Prop} {h : AH} {a k : Nat} {v : Int64} (ha : S a) : Prs S h (uL h a k v) := by
  refine ⟨Nat.le_refl _, rfl, rfl, rfl, fun _ _ => ⟨rfl, rfl⟩, fun q hq hs => ⟨rfl, rfl, ?_⟩⟩
  funext j
  exact if_neg fun (z : q = a ∧ j = k) => hs (z.1 ▸ ha)
theorem pr_uN {S : Nat → Prop} {h : AH} {K n : Nat} : Prs S h (uN h K n) := by
  refine ⟨Nat.le_succ _, rfl, rfl, rfl, fun q hq => ⟨if_neg (Nat.ne_of_lt hq), if_neg (Nat.ne_of_lt hq)⟩, fun q hq _ => ⟨?_, ?_, ?_⟩⟩ <;> (funext j; exact if_neg (Nat.ne_of_lt hq))
theorem pr_K {S : Nat → Prop} {h h' : AH} (x : Prs S h h') {q : Nat} (hq : q < aZ h) : aK h' q = aK h q := (x.2.2.2.2.1 q hq).1
theorem pr_N {S : Nat → Prop} {h h' : AH} (x : Prs S h h') {q : Nat} (hq : q < aZ h) : aN h' q = aN h q := (x.2.2.2.2.1 q hq).2
theorem pr_I {S : Nat → Prop} {h h' : AH} (x : Prs S h h') {q : Nat} (hq : q < aZ h) (hs : ¬ S q) : aI h' q = aI h q := (x.2.2.2.2.2 q hq hs).1
theorem pr_R {S : Nat → Prop} {h h' : AH} (x : Prs S h h') {q : Nat} (hq : q < aZ h) (hs : ¬ S q) : aR h' q = aR h q := (x.2.2.2.2.2 q hq hs).2.1
theorem pr_L {S : Nat → Prop} {h h' : AH} (x : Prs S h h') {q : Nat} (hq : q < aZ h) (hs : ¬ S q) : aL h' q = aL h q := (x.2.2.2.2.2 q hq hs).2.2
/-! ===== counting and finding ===== -/
/-- how many ones hold below k -/
def qcn (f : Nat → Bool) : Nat → Nat
  | 0 => 0
  | k + 1 => qcn f k + (if f k then 1 else 0)
/-- the first one from i on, of k more -/
def qfd (f : Nat → Bool) : Nat → Nat → Nat
  | 0, i => i
  | k + 1, i => if f i then i else qfd f k (i + 1)
/-- the last one below k, and 1 more; 0 if there is none -/
def qpv (f : Nat → Bool) : Nat → Nat
  | 0 => 0
  | k + 1 => if f k then k + 1 else qpv f k
theorem qcn_s (f : Nat → Bool) (k : Nat) : qcn f (k + 1) = qcn f k + (if f k then 1 else 0) := rfl
theorem qcn_le (f : Nat → Bool) (k : Nat) : qcn f k ≤ k := by
  induction k with
  | zero => exact Nat.le_refl _
  | succ k ih => unfold qcn; split <;> omega
theorem qcn_mono (f : Nat → Bool) {i k : Nat} (h : i ≤ k) : qcn f i ≤ qcn f k := by
  induction k with
  | zero => rw [Nat.le_zero.mp h]; exact Nat.le_refl _
  | succ k ih =>
    rcases Nat.lt_or_ge i (k + 1) with h1 | h1
    · have := ih (by omega); rw [qcn_s]; omega
    · rw [show i = k + 1 by omega]; exact Nat.le_refl _
theorem qcn_lt (f : Nat → Bool) {i k : Nat} (h : i < k) (hf : f i = true) : qcn f i < qcn f k := by
  have h1 := qcn_mono f (i := i + 1) (k := k) h
  have h2 : qcn f (i + 1) = qcn f i + 1 := by show qcn f i + _ = _; rw [hf]; rfl
  omega
theorem qcn_eq {f g : Nat → Bool} {k : Nat} (h : ∀ i, i < k → f i = g i) : qcn f k = qcn g k := by
  induction k with
  | zero => rfl
  | succ k ih => unfold qcn; rw [ih fun i hi => h i (by omega), h k (by omega)]
theorem qcn_inj (f : Nat → Bool) {i j : Nat} (hi : f i = true) (hj : f j = true) (h : qcn f i = qcn f j) : i = j := by
  rcases Nat.lt_trichotomy i j with h1 | h1 | h1
  · have := qcn_lt f h1 hi; omega
  · exact h1
  · have := qcn_lt f h1 hj; omega
/-- the p-th one there is -/
theorem qcn_at (f : Nat → Bool) {p k : Nat} (h : p < qcn f k) : ∃ i, i < k ∧ f i = true ∧ qcn f i = p := by
  induction k with
  | zero => exact absurd h (Nat.not_lt_zero _)
  | succ k ih =>
    by_cases h1 : p < qcn f k
    · obtain ⟨i, h2, h3⟩ := ih h1; exact ⟨i, by omega, h3⟩
    · unfold qcn at h
      by_cases hf : f k = true
      · rw [hf] at h; simp at h; exact ⟨k, by omega, hf, by omega⟩
      · simp [hf] at h; omega
theorem qfd_ge (f : Nat → Bool) (k i : Nat) : i ≤ qfd f k i := by
  induction k generalizing i with
  | zero => exact Nat.le_refl _
  | succ k ih => unfold qfd; split; exact Nat.le_refl _; have := ih (i + 1); omega
theorem qfd_le (f : Nat → Bool) (k i : Nat) : qfd f k i ≤ i + k := by
  induction k generalizing i with
  | zero => exact Nat.le_refl _
  | succ k ih => unfold qfd; split; omega; have := ih (i + 1); omega
theorem qfd_no (f : Nat → Bool) (k i : Nat) {j : Nat} (h1 : i ≤ j) (h2 : j < qfd f k i) : f j = false := by
  induction k generalizing i with
  | zero => have : qfd f 0 i = i := rfl; omega
  | succ k ih =>
    unfold qfd at h2
    by_cases hf : f i = true
    · rw [if_pos hf] at h2; omega
    · rw [if_neg hf] at h2
      by_cases hj : j = i
      · subst hj; simpa using hf
      · exact ih (i + 1) (by omega) h2
theorem qfd_is (f : Nat → Bool) (k i : Nat) (h : qfd f k i < i + k) : f (qfd f k i) = true := by
  induction k generalizing i with
  | zero => have : qfd f 0 i = i := rfl; omega
  | succ k ih =>
    unfold qfd at h ⊢
    by_cases hf : f i = true
    · rw [if_pos hf]; exact hf
    · rw [if_neg hf] at h ⊢; exact ih (i + 1) (by omega)
theorem qfd_un {f : Nat → Bool} {k i j : Nat} (h1 : i ≤ j) (h2 : j ≤ i + k) (h3 : ∀ q, i ≤ q → q < j → f q = false) (h4 : j < i + k → f j = true) : qfd f k i = j := by
  have a := qfd_ge f k i; have b := qfd_le f k i
  rcases Nat.lt_trichotomy (qfd f k i) j with h | h | h
  · have e1 := qfd_is f k i (by omega)
    have e2 := h3 _ a h
    rw [e1] at e2; cases e2
  · exact h
  · have e1 := qfd_no f k i h1 h
    have e2 := h4 (by omega)
    rw [e1] at e2; cases e2
theorem qpv_le (f : Nat → Bool) (k : Nat) : qpv f k ≤ k := by
  induction k with
  | zero => exact Nat.le_refl _
  | succ k ih => unfold qpv; split <;> omega
theorem qpv_is (f : Nat → Bool) (k : Nat) (h : qpv f k ≠ 0) : f (qpv f k - 1) = true := by
  induction k with
  | zero => exact absurd rfl h
  | succ k ih =>
    unfold qpv at h ⊢
    by_cases hf : f k = true
    · rw [if_pos hf]; exact hf
    · rw [if_neg hf] at h ⊢; exact ih h
theorem qpv_no (f : Nat → Bool) (k : Nat) {j : Nat} (h1 : qpv f k ≤ j) (h2 : j < k) : f j = false := by
  induction k with
  | zero => omega
  | succ k ih =>
    unfold qpv at h1
    by_cases hf : f k = true
    · rw [if_pos hf] at h1; omega
    · rw [if_neg hf] at h1
      by_cases hj : j = k
      · subst hj; simpa using hf
      · exact ih h1 (by omega)
theorem qpv_un {f : Nat → Bool} {k j : Nat} (h1 : j ≤ k) (h2 : ∀ q, j ≤ q → q < k → f q = false) (h3 : j ≠ 0 → f (j - 1) = true) : qpv f k = j := by
  have a := qpv_le f k
  rcases Nat.lt_trichotomy (qpv f k) j with h | h | h
  · have e1 := h3 (by omega)
    have e2 := qpv_no f k (j := j - 1) (by omega) (by omega)
    rw [e1] at e2; cases e2
  · exact h
  · have e1 := qpv_is f k (by omega)
    have e2 := h2 (qpv f k - 1) (by omega) (by omega)
    rw [e1] at e2; cases e2
theorem qpv_eq {f g : Nat → Bool} {k : Nat} (h : ∀ i, i < k → f i = g i) : qpv f k = qpv g k := by
  induction k with
  | zero => rfl
  | succ k ih => unfold qpv; rw [ih fun i hi => h i (by omega), h k (by omega)]
theorem qfd_eq {f g : Nat → Bool} {k i : Nat} (h : ∀ j, i ≤ j → j < i + k → f j = g j) : qfd f k i = qfd g k i := by
  induction k generalizing i with
  | zero => rfl
  | succ k ih => unfold qfd; rw [ih fun j h1 h2 => h j (by omega) (by omega), h i (by omega) (by omega)]
theorem qcn_pv (f : Nat → Bool) (k : Nat) (h : qpv f k ≠ 0) : qcn f (qpv f k - 1) + 1 = qcn f k := by
  induction k with
  | zero => exact absurd rfl h
  | succ k ih =>
    unfold qpv at h ⊢
    by_cases hf : f k = true
    · rw [if_pos hf]
      show qcn f k + 1 = qcn f k + _
      rw [hf]; rfl
    · rw [if_neg hf] at h ⊢
      have := ih h
      show _ = qcn f k + _
      rw [this]; simp [hf]
theorem qcn_pv0 (f : Nat → Bool) (k : Nat) : (qpv f k = 0) = (qcn f k = 0) := by
  induction k with
  | zero => rfl
  | succ k ih =>
    unfold qpv qcn
    by_cases hf : f k = true
    · rw [if_pos hf, if_pos hf]; simp
    · rw [if_neg hf, if_neg hf, ih]; simp
theorem ck_t {α : Type} {x : Option α} : ck True x = x := if_pos trivial
theorem bR_s {α β : Type} {r : α} {h : AH} {f : α → AH → Option β} : bR (some (r, h)) f = f r h := rfl
theorem j_ixe {a : Int} {n : Nat} (h1 : -2147483648 ≤ a) (h2 : a < 2147483648) : ix (iI a) n = (0 ≤ a ∧ a.toNat < n) := by
  unfold ix
  rw [j_nat h1 h2, j_0, j_le (by decide) (by decide) h1 h2]
/-! ===== a step that writes ints alone ===== -/
def Pi (S : Nat → Prop) (h h' : AH) : Prop := aK h' = aK h ∧ aN h' = aN h ∧ aR h' = aR h ∧ aL h' = aL h ∧ aZ h' = aZ h ∧ aU h' = aU h ∧ aE h' = aE h ∧ aC h' = aC h ∧ aM h' = aM h ∧ ∀ q, ¬ S q → aI h' q = aI h q
theorem pi_rf {S : Nat → Prop} {h : AH} : Pi S h h := ⟨rfl, rfl, rfl, rfl, rfl, rfl, rfl, rfl, rfl, fun _ _ => rfl⟩
theorem pi_tr {S : Nat → Prop} {h h1 h2 : AH} (x : Pi S h h1) (y : Pi S h1 h2) : Pi S h h2 := by
  obtain ⟨x1, x2, x3, x4, x5, x6, x7, x8, x9, x10⟩ := x
  obtain ⟨y1, y2, y3, y4, y5, y6, y7, y8, y9, y10⟩ := y
  exact ⟨y1.trans x1, y2.trans x2, y3.trans x3, y4.trans x4, y5.trans x5, y6.trans x6, y7.trans x7, y8.trans x8, y9.trans x9, fun q hq => (y10 q hq).trans (x10 q hq)⟩
theorem pi_mono {S S2 : Nat → Prop} {h h1 : AH} (x : Pi S h h1) (hs : ∀ q, S q → S2 q) : Pi S2 h h1 := by
  obtain ⟨x1, x2, x3, x4, x5, x6, x7, x8, x9, x10⟩ := x
  exact ⟨x1, x2, x3, x4, x5, x6, x7, x8, x9, fun q hq => x10 q fun z => hq (hs q z)⟩
theorem pi_uI {S : Nat → Prop} {h : AH} {a k : Nat} {v : Int32} (ha : S a) : Pi S h (uI h a k v) := by
  refine ⟨rfl, rfl, rfl, rfl, rfl, rfl, rfl, rfl, rfl, fun q hq => ?_⟩
  funext j
  exact if_neg fun (z : q = a ∧ j = k) => hq (z.1 ▸ ha)
theorem pi_pr {S : Nat → Prop} {h h1 : AH} (x : Pi S h h1) : Prs S h h1 := by
  obtain ⟨x1, x2, x3, x4, x5, x6, x7, x8, x9, x10⟩ := x
  exact ⟨by omega, x7, x8, x9, fun q _ => ⟨by rw [x1], by rw [x2]⟩, fun q _ hq => ⟨x10 q hq, by rw [x3], by rw [x4]⟩⟩
theorem pi_I {S : Nat → Prop} {h h1 : AH} (x : Pi S h h1) {q : Nat} (hq : ¬ S q) : aI h1 q = aI h q := x.2.2.2.2.2.2.2.2.2 q hq
/-- reads of writes, one by one -/
theorem w_I1 (h : AH) (a k : Nat) (v : Int32) : aI (uI h a k v) a k = v := if_pos ⟨rfl, rfl⟩
theorem w_I2 {h : AH} {a k b j : Nat} {v : Int32} (hb : b ≠ a) : aI (uI h a k v) b j = aI h b j := if_neg fun (z : b = a ∧ j = k) => hb z.1
theorem w_I3 {h : AH} {a k b j : Nat} {v : Int32} (hb : j ≠ k) : aI (uI h a k v) b j = aI h b j := if_neg fun (z : b = a ∧ j = k) => hb z.2
theorem w_I4 {h : AH} {a k j : Nat} {v : Int32} (hb : j = k) : aI (uI h a k v) a j = v := if_pos ⟨rfl, hb⟩
theorem w_R1 (h : AH) (a k v : Nat) : aR (uR h a k v) a k = v := if_pos ⟨rfl, rfl⟩
theorem w_R2 {h : AH} {a k b j v : Nat} (hb : b ≠ a) : aR (uR h a k v) b j = aR h b j := if_neg fun (z : b = a ∧ j = k) => hb z.1
theorem w_R3 {h : AH} {a k b j v : Nat} (hb : j ≠ k) : aR (uR h a k v) b j = aR h b j := if_neg fun (z : b = a ∧ j = k) => hb z.2
theorem w_R4 {h : AH} {a k j v : Nat} (hb : j = k) : aR (uR h a k v) a j = v := if_pos ⟨rfl, hb⟩
theorem w_KN1 (h : AH) (K n : Nat) : aK (uN h K n) (aZ h) = K := if_pos rfl
theorem w_KN2 {h : AH} {K n b : Nat} (hb : b ≠ aZ h) : aK (uN h K n) b = aK h b := if_neg hb
theorem w_NN1 (h : AH) (K n : Nat) : aN (uN h K n) (aZ h) = n := if_pos rfl
theorem w_NN2 {h : AH} {K n b : Nat} (hb : b ≠ aZ h) : aN (uN h K n) b = aN h b := if_neg hb
theorem w_IN1 (h : AH) (K n j : Nat) : aI (uN h K n) (aZ h) j = 0 := if_pos rfl
theorem w_IN2 {h : AH} {K n b j : Nat} (hb : b ≠ aZ h) : aI (uN h K n) b j = aI h b j := if_neg hb
theorem w_RN1 (h : AH) (K n j : Nat) : aR (uN h K n) (aZ h) j = 0 := if_pos rfl
theorem w_RN2 {h : AH} {K n b j : Nat} (hb : b ≠ aZ h) : aR (uN h K n) b j = aR h b j := if_neg hb
theorem j_nC {a : Int} (h1 : 0 ≤ a) (h2 : a ≤ 65535) : nC (iI a) = iI a := by
  obtain ⟨n, rfl⟩ : ∃ n : Nat, a = n := ⟨a.toNat, by omega⟩
  unfold nC iI
  apply Int32.toBitVec_inj.mp
  apply BitVec.eq_of_toNat_eq
  simp [Int32.toBitVec, UInt32.toInt32, Int32.ofInt, BitVec.toNat_ofNat]
  omega
theorem j_shr {a : Int} (h1 : 0 ≤ a) (h2 : a < 2147483648) : iI a >>> (iI 1 &&& 31) = iI (a / 2) := by
  rw [show iI 1 &&& 31 = (1 : Int32) from by decide +kernel]
  apply Int32.toBitVec_inj.mp
  rw [Int32.toBitVec_shiftRight]
  have : (Int32.toBitVec 1).smod 32 = 1#32 := by decide
  rw [this]
  apply BitVec.eq_of_toInt_eq
  rw [BitVec.sshiftRight_eq', BitVec.toInt_sshiftRight]
  have e1 : (iI a).toBitVec.toInt = a := j_toInt (by omega) h2
  have e2 : (iI (a / 2)).toBitVec.toInt = a / 2 := j_toInt (by omega) (by omega)
  rw [e1, e2]
  simp [Int.shiftRight_eq_div_pow]
theorem gd_1 {xs : List Nat} {x i : Nat} (h : i < xs.length) : (xs ++ [x]).getD i 0 = xs.getD i 0 := by
  rw [List.getD_eq_getElem?_getD, List.getD_eq_getElem?_getD, List.getElem?_append_left h]
theorem gd_2 {xs : List Nat} {x : Nat} : (xs ++ [x]).getD xs.length 0 = x := by
  rw [List.getD_eq_getElem?_getD, List.getElem?_append_right (Nat.le_refl _), Nat.sub_self]; rfl
theorem gd_mem {xs : List Nat} {i : Nat} (h : i < xs.length) : xs.getD i 0 ∈ xs := by
  rw [List.getD_eq_getElem?_getD, List.getElem?_eq_getElem h]
  exact List.getElem_mem h
