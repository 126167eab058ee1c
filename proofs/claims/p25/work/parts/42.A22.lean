
/-! ===== the calls ===== -/
theorem ok_bX {α β : Type} {x : Option (Except Nat α × AH)} {d : β} {f : α → AH → Option (Except Nat β × AH)} {R : Except Nat α → AH → Prop} {Q : Except Nat β → AH → Prop} (h : Okp x R) (k : ∀ a h1, R (.ok a) h1 → Okp (f a h1) Q) (e : ∀ n h1, R (.error n) h1 → Q (.error n) h1) : Okp (bX d x f) Q := by
  obtain ⟨r, h1, ex, hr⟩ := h
  subst ex
  cases r with
  | ok a => exact k a h1 hr
  | error n => exact ⟨.error n, h1, rfl, e n h1 hr⟩
theorem bX_ok {α β : Type} {x : Option (Except Nat α × AH)} {d : β} {f : α → AH → Option (Except Nat β × AH)} {a : α} {h : AH} (e : x = some (.ok a, h)) : bX d x f = f a h := by subst e; rfl
theorem bX_er {α β : Type} {x : Option (Except Nat α × AH)} {d : β} {f : α → AH → Option (Except Nat β × AH)} {n : Nat} {h : AH} (e : x = some (.error n, h)) : bX d x f = some (.error n, h) := by subst e; rfl
/-- what the object's own steps may write -/
def cS (c : Nat) (h : AH) (q : Nat) : Prop := q < c + 59 ∨ aZ h ≤ q ∨ aK h q = 26 ∨ aK h q = 3 ∨ aK h q = 5 ∨ aK h q = 2 ∨ aK h q = 4 ∨ aK h q = 10 ∨ aK h q = 1
def Cst (c : Nat) (h : AH) (k n : Nat) (h' : AH) : Prop := Prs (cS c h) h h' ∧ aZ h' ≤ aZ h + k ∧ aU h' ≤ aU h + n
theorem cst_tr {c k n k2 n2 : Nat} {h h1 h2 : AH} (x : Cst c h k n h1) (y : Cst c h1 k2 n2 h2) : Cst c h (k + k2) (n + n2) h2 := by
  refine ⟨pr_trN x.1 y.1 ?_, by have := x.2.1; have := y.2.1; omega, by have := x.2.2; have := y.2.2; omega⟩
  intro q hq z
  unfold cS at z ⊢
  rw [pr_K x.1 hq] at z
  have := x.1.1
  omega
theorem cst_mono {c k n k2 n2 : Nat} {h h1 : AH} (x : Cst c h k n h1) (a : k ≤ k2) (b : n ≤ n2) : Cst c h k2 n2 h1 := ⟨x.1, by have := x.2.1; omega, by have := x.2.2; omega⟩
theorem cst_rf {c : Nat} {h : AH} : Cst c h 0 0 h := ⟨pr_rf, Nat.le_refl _, Nat.le_refl _⟩
theorem cst_tx {c i a b : Nat} {h h' : AH} {T T' : Tx} (hT : TxR h (tcc c i) i T) (hi : i < 3) (x : Tst h (tcc c i) i a b T' h') : Cst c h a (b + 7044) h' := by
  obtain ⟨x1, x2, x3, x4, x5, x6, x7⟩ := x
  have := xcap_le x1
  have et : tcc c i = c + 13 + 12 * i := rfl
  refine ⟨pr_mono x3 fun q _ z => ?_, x4, by omega⟩
  rcases z with z | z | z
  · exact Or.inl (by omega)
  · exact Or.inl (by omega)
  · obtain ⟨ds, l1, l2⟩ := hT.2.2.2.1
    exact Or.inr (Or.inr (Or.inl (by rw [z.1]; exact l1.2.2.2.2.1)))
theorem cst_hd {c j a b : Nat} {h h' : AH} {A A' : Hd} (hA : HdR (tcc c) h (hcc c j) A) (hj : j < 5) (x : Hst (tcc c) h (hcc c j) a b A' h') : Cst c h a (b + 7044) h' := by
  obtain ⟨x1, x2, x3, x4, x5, x6⟩ := x
  have hc : hcap h' (hcc c j) ≤ 1761 := by
    obtain ⟨-, -, -, -, -, -, -, xs, l1, -⟩ := x1
    exact l1.2.2.2.2.2.2.2.2.1
  have et : hcc c j = c + 49 + 2 * j := rfl
  refine ⟨pr_mono x3 fun q _ z => ?_, x4, by omega⟩
  rcases z with z | z | z
  · exact Or.inl (by omega)
  · exact Or.inl (by omega)
  · obtain ⟨-, -, -, -, -, -, -, xs, l1, -⟩ := hA
    exact Or.inr (Or.inr (Or.inl (by rw [z.1]; exact l1.2.2.2.2.1)))
theorem cst_new {c k n : Nat} {h h' : AH} (p : Prs (fun q => aZ h ≤ q) h h') (a : aZ h' ≤ aZ h + k) (b : aU h' ≤ aU h + n) : Cst c h k n h' := ⟨pr_mono p fun q _ z => Or.inr (Or.inl z), a, b⟩
/-- an exception's cell -/
theorem ck_ex {h : AH} {c : Nat} {S : Cs} (hC : CkR h c S) : CkR (uN h 0 6) c S ∧ Cst c h 1 6 (uN h 0 6) := by
  have p : Prs (fun q => aZ h ≤ q) h (uN h 0 6) := pr_uN
  exact ⟨ck_gen hC (wf_uN hC.2.1 (by decide)) p (fun q z => Or.inr z), cst_new p (Nat.le_refl _) (Nat.le_refl _)⟩
theorem ck_c0 {h : AH} {c : Nat} {S : Cs} (hC : CkR h c S) : (c = 0) = False ∧ aK h c = 12 ∧ aR h c 0 = c + 1 ∧ aR h c 1 = c + 2 ∧ aR h c 2 = c + 3 ∧ aR h c 3 = c + 4 ∧ aR h c 4 = c + 5 ∧ aR h c 5 = c + 9 := ⟨hC.1.1, hC.1.2.1, hC.1.2.2.1, hC.1.2.2.2.1, hC.1.2.2.2.2.1, hC.1.2.2.2.2.2.1, hC.1.2.2.2.2.2.2.1, hC.1.2.2.2.2.2.2.2.1⟩
theorem f_handAt {h : AH} {c : Nat} {S : Cs} (hC : CkR h c S) {z : Int} (z1 : 0 ≤ z) (z2 : z < 5) : p_X10_handAt c (iI z) h = some (.ok (hcc c z.toNat), h) := by
  obtain ⟨a0, a1, a2, a3, a4, a5, a6, a7, a8, a9, a10, a11, a12, a13, a14⟩ := hC.1
  have e := a13 z.toNat (by omega)
  have e0 : (hcc c z.toNat = 0) = False := eq_false (by unfold hcc; omega)
  unfold p_X10_handAt p_X10_handAt_0 p_X10_handAt_18 p_X10_handAt_19
  simp (disch := omega) only [ck_t, nm_q, bR_s, j_add, j_sub, j_mul, j_nI, j_0, j_le, j_lt, j_eq, j_nat, j_ixe, bI_0, and_self, and_true, true_and, ne_eq, not_false_eq_true, not_true_eq_false, ite_true, ite_false, if_true, if_false, ck_p z_0, ck_p z_1, a0, a1, a3, a11, a12, e, e0]
  rw [if_neg (by omega), if_neg (by omega), ck_p (by omega)]
theorem f_handAt_no {h : AH} {c : Nat} {S : Cs} (hC : CkR h c S) {z : Int} (r1 : -2147483648 ≤ z) (r2 : z < 2147483648) (z1 : ¬ (0 ≤ z ∧ z < 5)) (hz : aZ h + 1 ≤ aC h) (hu : aU h + 6 ≤ gS) : p_X10_handAt c (iI z) h = some (.error 1, uN h 0 6) := by
  have a0 := hC.1.1
  unfold p_X10_handAt p_X10_handAt_0 p_X10_handAt_18 p_X10_handAt_19
  simp (disch := omega) only [ck_t, nm_q, bR_s, j_add, j_sub, j_mul, j_nI, j_0, j_le, j_lt, j_eq, j_nat, j_ixe, bI_0, and_self, and_true, true_and, ne_eq, not_false_eq_true, not_true_eq_false, ite_true, ite_false, if_true, if_false, ck_p z_0, ck_p z_1, a0]
  by_cases c1 : z < 0
  · rw [if_pos c1, ck_p ⟨hz, hu⟩]
  · rw [if_neg c1, if_pos (by omega), ck_p ⟨hz, hu⟩]
theorem f_textAt {h : AH} {c : Nat} {S : Cs} (hC : CkR h c S) {z : Int} (z1 : 0 ≤ z) (z2 : z < 3) : p_X10_textAt c (iI z) h = some (.ok (tcc c z.toNat), h) := by
  obtain ⟨a0, a1, a2, a3, a4, a5, a6, a7, a8, a9, a10, a11, a12, a13, a14⟩ := hC.1
  have e := a10 z.toNat (by omega)
  have e0 : (tcc c z.toNat = 0) = False := eq_false (by unfold tcc; omega)
  unfold p_X10_textAt p_X10_textAt_0 p_X10_textAt_18 p_X10_textAt_19
  simp (disch := omega) only [ck_t, nm_q, bR_s, j_add, j_sub, j_mul, j_nI, j_0, j_le, j_lt, j_eq, j_nat, j_ixe, bI_0, and_self, and_true, true_and, ne_eq, not_false_eq_true, not_true_eq_false, ite_true, ite_false, if_true, if_false, ck_p z_0, ck_p z_1, a0, a1, a2, a8, a9, e, e0]
  rw [if_neg (by omega), if_neg (by omega), ck_p (by omega)]
theorem f_textAt_no {h : AH} {c : Nat} {S : Cs} (hC : CkR h c S) {z : Int} (r1 : -2147483648 ≤ z) (r2 : z < 2147483648) (z1 : ¬ (0 ≤ z ∧ z < 3)) (hz : aZ h + 1 ≤ aC h) (hu : aU h + 6 ≤ gS) : p_X10_textAt c (iI z) h = some (.error 1, uN h 0 6) := by
  have a0 := hC.1.1
  unfold p_X10_textAt p_X10_textAt_0 p_X10_textAt_18 p_X10_textAt_19
  simp (disch := omega) only [ck_t, nm_q, bR_s, j_add, j_sub, j_mul, j_nI, j_0, j_le, j_lt, j_eq, j_nat, j_ixe, bI_0, and_self, and_true, true_and, ne_eq, not_false_eq_true, not_true_eq_false, ite_true, ite_false, if_true, if_false, ck_p z_0, ck_p z_1, a0]
  by_cases c1 : z < 0
  · rw [if_pos c1, ck_p ⟨hz, hu⟩]
  · rw [if_neg c1, if_pos (by omega), ck_p ⟨hz, hu⟩]
def isLet (z : Int) : Bool := decide ((97 ≤ z ∧ z ≤ 122) ∨ (65 ≤ z ∧ z ≤ 90) ∨ (48 ≤ z ∧ z ≤ 57) ∨ z = 32 ∨ z = 47)
theorem f_canBeTyped {h : AH} {z : Int} (z1 : 0 ≤ z) (z2 : z ≤ 65535) : p_X10_canBeTyped (iI z) h = some (bI (isLet z), h) := by
  unfold p_X10_canBeTyped p_X10_canBeTyped_0 p_X10_canBeTyped_12 p_X10_canBeTyped_24 p_X10_canBeTyped_36 p_X10_canBeTyped_48 p_X10_canBeTyped_53 isLet
  simp (disch := omega) only [ck_t, nm_q, bR_s, j_add, j_sub, j_mul, j_nI, j_0, j_le, j_lt, j_eq, j_nat, j_ixe, bI_0, and_self, and_true, true_and, ne_eq, not_false_eq_true, not_true_eq_false, ite_true, ite_false, if_true, if_false, ck_p z_0, ck_p z_1]
  by_cases c : (97 ≤ z ∧ z ≤ 122) ∨ (65 ≤ z ∧ z ≤ 90) ∨ (48 ≤ z ∧ z ≤ 57) ∨ z = 32 ∨ z = 47
  · rw [decide_eq_true c, bI_t]
    repeat' (split <;> try rfl)
    all_goals omega
  · rw [decide_eq_false c, bI_f]
    repeat' (split <;> try rfl)
    all_goals omega
/-- the answer and the state behind it -/
abbrev Out : Type := Except Nat Int × Cs
def Ans (c : Nat) (h : AH) (o : Out) : Except Nat Int32 → AH → Prop := fun r h' => r = (match o.1 with | .ok v => .ok (iI v) | .error e => .error e) ∧ CkR h' c o.2 ∧ Cst c h 1000 14100 h'
theorem ans_ok {c : Nat} {h h' : AH} {v : Int} {S' : Cs} (hC : CkR h' c S') (hs : Cst c h 1000 14100 h') : Ans c h (.ok v, S') (.ok (iI v)) h' := ⟨rfl, hC, hs⟩
theorem ans_er {c : Nat} {h h' : AH} {e : Nat} {S' : Cs} (hC : CkR h' c S') (hs : Cst c h 1000 14100 h') : Ans c h (.error e, S') (.error e) h' := ⟨rfl, hC, hs⟩
theorem ans_ex {c k n : Nat} {h h1 : AH} {e : Nat} {S : Cs} (hC : CkR h1 c S) (hs : Cst c h k n h1) (hk : k ≤ 900) (hn : n ≤ 14000) : Ans c h (.error e, S) (.error e) (uN h1 0 6) := ⟨rfl, (ck_ex hC).1, cst_mono (cst_tr hs (ck_ex hC).2) (by omega) (by omega)⟩
/-- what a call may count on -/
def Rdy (h : AH) (S : Cs) : Prop := aZ h + 1000 ≤ aC h ∧ aU h + 15100 ≤ gS ∧ (∀ i, i < 3 → (xD (cX S i)).length ≤ 1173) ∧ ∀ j, j < 5 → (cH S j).2 ≤ 511
abbrev hOk (z : Int) : Prop := 0 ≤ z ∧ z < 5
abbrev tOk (z : Int) : Prop := 0 ≤ z ∧ z < 3
theorem t_kind {h : AH} {c : Nat} {S : Cs} (hC : CkR h c S) {i : Nat} (hi : i < 3) : aK h (tcc c i) = 11 ∧ aR h (tcc c i) 1 = tcc c i + 1 ∧ aK h (tcc c i + 1) = 9 ∧ (tcc c i = 0) = False := by
  have hT := hC.2.2.2.2.1 i hi
  exact ⟨hT.1.2.1, hT.1.2.2.1, hT.2.1.1.2.1, hT.1.1⟩
def tyM (S : Cs) (a b ch : Int) : Out :=
  if ¬ (hOk a ∧ tOk b) then (.error 1, S)
  else if isLet ch = false then (.error 2, S)
  else if 150 ≤ rn (xR (cX S b.toNat)) then (.error 3, S)
  else (.ok (cpl (xver (xdo (cX S b.toNat) (0, rpos (xR (cX S b.toNat)) (xC (cX S b.toNat) a.toNat), ch))) a.toNat),
    (cset (cX S) b.toNat (xver (xdo (cX S b.toNat) (0, rpos (xR (cX S b.toNat)) (xC (cX S b.toNat) a.toNat), ch))),
     cset (cH S) a.toNat ((cH S a.toNat).1.take (cH S a.toNat).2 ++ [(b.toNat, rn (xR (cX S b.toNat)), true)], (cH S a.toNat).2 + 1), cF S, cQ S, cN S))
theorem cpl_ver (T : Tx) (j : Nat) : cpl (xver T) j = cpl T j := rfl

