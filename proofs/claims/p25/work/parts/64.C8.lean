
/-! ===== the law's world: the class's state S, the law's four arrays, how many calls, how much room ===== -/
abbrev La : Type := (Nat → Int) × (Nat → Int) × (Nat → Int) × (Nat → Int)
def LwA (h : AH) (c : Nat) (A : La) : Prop := (aK h (c + 59) = 20 ∧ aN h (c + 59) = 3 ∧ aK h (c + 60) = 20 ∧ aN h (c + 60) = 5 ∧ aK h (c + 61) = 20 ∧ aN h (c + 61) = 60 ∧ aK h (c + 62) = 20 ∧ aN h (c + 62) = 60) ∧ (∀ i, i < 3 → aI h (c + 59) i = iI (A.1 i)) ∧ (∀ i, i < 5 → aI h (c + 60) i = iI (A.2.1 i)) ∧ (∀ i, i < 60 → aI h (c + 61) i = iI (A.2.2.1 i)) ∧ (∀ i, i < 60 → aI h (c + 62) i = iI (A.2.2.2 i))
def Wo (c : Nat) (S : Cs) (A : La) (n k : Nat) (h : AH) : Prop := CkR h c S ∧ LwA h c A ∧ IvS S n ∧ aZ h ≤ c + 63 + k ∧ aU h ≤ 5000 + 12 * k ∧ aC h = c + 600130
theorem lwA_cst {c a b : Nat} {h h' : AH} {A : La} (hz : c + 62 < aZ h) (hA : LwA h c A) (x : Cst c h a b h') : LwA h' c A := by
  obtain ⟨⟨k1, n1, k2, n2, k3, n3, k4, n4⟩, i1, i2, i3, i4⟩ := hA
  have s : ∀ q, c + 59 ≤ q → q ≤ c + 62 → aK h q = 20 → ¬ cS c h q := by
    intro q q1 q2 q3 z
    unfold cS at z
    rw [q3] at z
    omega
  have s1 := s (c + 59) (by omega) (by omega) k1
  have s2 := s (c + 60) (by omega) (by omega) k2
  have s3 := s (c + 61) (by omega) (by omega) k3
  have s4 := s (c + 62) (by omega) (by omega) k4
  refine ⟨⟨?_, ?_, ?_, ?_, ?_, ?_, ?_, ?_⟩, ?_, ?_, ?_, ?_⟩
  · rw [pr_K x.1 (by omega)]; exact k1
  · rw [pr_N x.1 (by omega)]; exact n1
  · rw [pr_K x.1 (by omega)]; exact k2
  · rw [pr_N x.1 (by omega)]; exact n2
  · rw [pr_K x.1 (by omega)]; exact k3
  · rw [pr_N x.1 (by omega)]; exact n3
  · rw [pr_K x.1 (by omega)]; exact k4
  · rw [pr_N x.1 (by omega)]; exact n4
  · rw [pr_I x.1 (by omega) s1]; exact i1
  · rw [pr_I x.1 (by omega) s2]; exact i2
  · rw [pr_I x.1 (by omega) s3]; exact i3
  · rw [pr_I x.1 (by omega) s4]; exact i4
section WO
variable {c n n' k d a b : Nat} {S S' : Cs} {A : La} {h h' : AH}
theorem wo_z (hW : Wo c S A n k h) : c + 62 < aZ h := hW.1.1.2.2.2.2.2.2.2.2.2.2.2.2.2.2
theorem wo_step (hW : Wo c S A n k h) (hC : CkR h' c S') (x : Cst c h a b h') (hI : IvS S' n') (h1 : a ≤ d) (h2 : b ≤ 12 * d) : Wo c S' A n' (k + d) h' := by
  have hz := wo_z hW
  obtain ⟨w1, w2, w3, w4, w5, w6⟩ := hW
  have z2 := x.2.1
  have u2 := x.2.2
  exact ⟨hC, lwA_cst hz w2 x, hI, by omega, by omega, by rw [x.1.2.2.1]; exact w6⟩
theorem wo_rdy (hW : Wo c S A n k h) (hn : n ≤ 511) (hk : k ≤ 599000) : Rdy h S := by
  have g0 : gS = 7301080 := rfl
  have w4 := hW.2.2.2.1
  have w5 := hW.2.2.2.2.1
  have w6 := hW.2.2.2.2.2
  exact ivS_rdy hW.2.2.1 (csG_of hW.1) hn (by omega) (by omega)
theorem wo_mono {m l : Nat} (hW : Wo c S A n k h) (h1 : n ≤ m) (h2 : k ≤ l) : Wo c S A m l h := ⟨hW.1, hW.2.1, ivS_mono hW.2.2.1 h1, by have := hW.2.2.2.1; omega, by have := hW.2.2.2.2.1; omega, hW.2.2.2.2.2⟩
end WO
/-! a wrapper's answer -/
def oc (o : Out) : Int := match o.1 with | .ok v => v | .error e => -100 - (e : Int)
theorem wr_o {c a b : Nat} {h : AH} {o : Out} {x : Option (Except Nat Int32 × AH)} {g : Nat → AH → Option (Int32 × AH)} (hx : Okp x (fun r h' => r = (match o.1 with | .ok v => .ok (iI v) | .error e => .error e) ∧ CkR h' c o.2 ∧ Cst c h a b h')) (hg : ∀ e h3, o.1 = .error e → g e h3 = some (iI (-100 - (e : Int)), h3)) : Okp (bC x (fun r2 h3 => some (r2, h3)) g) (fun r h' => r = iI (oc o) ∧ CkR h' c o.2 ∧ Cst c h a b h') := by
  obtain ⟨r, h1, ex, hr, hC, hs⟩ := hx
  subst ex
  obtain ⟨o1, o2⟩ := o
  cases o1 with
  | ok v => simp only at hr; subst hr; exact ⟨iI v, h1, rfl, rfl, hC, hs⟩
  | error e => simp only at hr; subst hr; exact ⟨_, h1, hg e h1 rfl, rfl, hC, hs⟩
theorem wr_r {c : Nat} {h : AH} {o : Out} {x : Option (Except Nat Int32 × AH)} {g : Nat → AH → Option (Int32 × AH)} (hx : Okp x (AnsR c h o)) (hg : ∀ e h3, o.1 = .error e → g e h3 = some (iI (-100 - (e : Int)), h3)) : Okp (bC x (fun r2 h3 => some (r2, h3)) g) (fun r h' => r = iI (oc o) ∧ CkR h' c o.2 ∧ Cst c h 1 6 h') := wr_o (c := c) (a := 1) (b := 6) (h := h) (o := o) hx hg
theorem wr_a {c : Nat} {h : AH} {o : Out} {x : Option (Except Nat Int32 × AH)} {g : Nat → AH → Option (Int32 × AH)} (hx : Okp x (Ans c h o)) (hg : ∀ e h3, o.1 = .error e → g e h3 = some (iI (-100 - (e : Int)), h3)) : Okp (bC x (fun r2 h3 => some (r2, h3)) g) (fun r h' => r = iI (oc o) ∧ CkR h' c o.2 ∧ Cst c h 1000 14100 h') := wr_o (c := c) (a := 1000) (b := 14100) (h := h) (o := o) hx hg
theorem wr_v {c : Nat} {h : AH} {S : Cs} {o : Except Nat Int32} {v : Int32} {x : Option (Except Nat Int32 × AH)} {g : Nat → AH → Option (Int32 × AH)} (hx : Okp x (AnsVR c h S o)) (ho : o = .ok v) : Okp (bC x (fun r2 h3 => some (r2, h3)) g) (fun r h' => r = v ∧ CkR h' c S ∧ Cst c h 1 6 h') := by
  obtain ⟨r, h1, ex, hr, hC, hs⟩ := hx
  subst ex hr ho
  exact ⟨v, h1, rfl, rfl, hC, hs⟩
/-! what reading shows, by numbers -/
def vLn (T : Tx) : Nat := qcn (rf (xR T)) (rn (xR T))
def vLe (T : Tx) (p : Nat) : Int := if p < vLn T then rs (xR T) (rsh (xR T) p) else -101
theorem rsel_lt {R : Rw} {p : Nat} : rsel R p (rn R) 0 < rn R ↔ p < qcn (rf R) (rn R) := by
  constructor
  · intro h
    have h1 := qfd_is (fun j => rf R j && decide ((qcn (rf R) j : Int) = p)) (rn R) 0 (by have : rsel R p (rn R) 0 = qfd (fun j => rf R j && decide ((qcn (rf R) j : Int) = p)) (rn R) 0 := rfl; omega)
    have e : rsel R p (rn R) 0 = qfd (fun j => rf R j && decide ((qcn (rf R) j : Int) = p)) (rn R) 0 := rfl
    rw [← e] at h1
    rw [Bool.and_eq_true] at h1
    have h2 := of_decide_eq_true h1.2
    have h3 := qcn_lt (rf R) h h1.1
    omega
  · intro h
    obtain ⟨i, h1, h2, h3⟩ := qcn_at _ h
    rw [← h3, rsel_cn h1 h2]
    exact h1
theorem leM_n {S : Cs} {b p : Nat} (hb : b < 3) : leM S b p = (if p < vLn (cX S b) then .ok (rs (xR (cX S b)) (rsh (xR (cX S b)) p)) else .error 1, S) := by
  unfold leM
  rw [if_neg (fun z => z ⟨by omega, by omega⟩)]
  simp only [Int.toNat_natCast]
  by_cases c : p < vLn (cX S b)
  · rw [if_pos (rsel_lt.mpr c), if_pos c]; rfl
  · rw [if_neg (fun z => c (rsel_lt.mp z)), if_neg c]
section GS
variable {c n k : Nat} {S : Cs} {A : La} {h : AH}
theorem g_place {a b : Nat} (hW : Wo c S A n k h) (hn : n ≤ 511) (hk : k ≤ 599000) (ha : a < 5) (hb : b < 3) : Okp (p_L_place c (iI a) (iI b) h) (fun r h' => r = iI (cpl (cX S b) a) ∧ Wo c S A n (k + 1) h') := by
  have hC := hW.1
  have q := q_place hC (wo_rdy hW hn hk) (a := a) (b := b) (by omega) (by omega) (by omega) (by omega)
  rw [show plM S a b = (.ok ((cpl (cX S b) a : Nat) : Int), S) by unfold plM; rw [if_neg (fun z => z ⟨⟨by omega, by omega⟩, by omega, by omega⟩)]; simp only [Int.toNat_natCast]] at q
  unfold p_L_place p_L_place_0
  refine ok_to (ok_ck (of_eq_false hC.1.1) (ok_ck hC.1.2.1 (wr_r q (fun e h3 he => by cases he)))) ?_
  rintro r h' ⟨e1, e2, e3⟩
  exact ⟨e1, wo_step hW e2 e3 hW.2.2.1 (by omega) (by omega)⟩
theorem g_length {b : Nat} (hW : Wo c S A n k h) (hn : n ≤ 511) (hk : k ≤ 599000) (hb : b < 3) : Okp (p_L_length c (iI b) h) (fun r h' => r = iI (vLn (cX S b)) ∧ Wo c S A n (k + 1) h') := by
  have hC := hW.1
  have q := q_length hC (wo_rdy hW hn hk) (b := b) (by omega) (by omega)
  rw [show lnM S b = (.ok ((vLn (cX S b) : Nat) : Int), S) by unfold lnM; rw [if_neg (fun z => z ⟨by omega, by omega⟩)]; simp only [Int.toNat_natCast]; rfl] at q
  unfold p_L_length p_L_length_0
  refine ok_to (ok_ck (of_eq_false hC.1.1) (ok_ck hC.1.2.1 (wr_r q (fun e h3 he => by cases he)))) ?_
  rintro r h' ⟨e1, e2, e3⟩
  exact ⟨e1, wo_step hW e2 e3 hW.2.2.1 (by omega) (by omega)⟩
theorem leM_er {S : Cs} {b p : Nat} {e : Nat} {x : Nat} {y : Int} (he : ((if p < x then .ok y else .error 1, S) : Out).1 = .error e) : e = 1 := by
  simp only at he
  split at he
  · cases he
  · cases he; rfl
theorem leM_oc {S : Cs} {b p : Nat} : oc ((if p < vLn (cX S b) then .ok (rs (xR (cX S b)) (rsh (xR (cX S b)) p)) else .error 1, S) : Out) = vLe (cX S b) p := by
  unfold oc vLe
  by_cases c : p < vLn (cX S b)
  · simp only [if_pos c]
  · simp only [if_neg c]; rfl
theorem g_letter {b p : Nat} (hW : Wo c S A n k h) (hn : n ≤ 511) (hk : k ≤ 599000) (hb : b < 3) (hp : p < 100000) : Okp (p_L_letter c (iI b) (iI p) h) (fun r h' => r = iI (vLe (cX S b) p) ∧ Wo c S A n (k + 1) h') := by
  have hC := hW.1
  have q := q_letter hC (wo_rdy hW hn hk) (b := b) (p := p) (by omega) (by omega) (by omega) (by omega)
  rw [leM_n hb] at q
  unfold p_L_letter p_L_letter_0
  refine ok_to (ok_ck (of_eq_false hC.1.1) (ok_ck hC.1.2.1 (wr_r q (fun e h3 he => ?_)))) ?_
  · have := leM_er (b := b) he; subst this; rfl
  rintro r h' ⟨e1, e2, e3⟩
  rw [leM_oc] at e1
  exact ⟨e1, wo_step hW e2 e3 hW.2.2.1 (by omega) (by omega)⟩
theorem g_anew {b p : Nat} (hW : Wo c S A n k h) (hn : n ≤ 511) (hk : k ≤ 599000) (hb : b < 3) (hp : p < 100000) : Okp (p_L_anew c (iI b) (iI p) h) (fun r h' => r = iI (vLe (cX S b) p) ∧ Wo c S A n (k + 1) h') := by
  have hC := hW.1
  have q := q_letterAnew hC (wo_rdy hW hn hk) (b := b) (p := p) (by omega) (by omega) (by omega) (by omega)
  rw [leM_n hb] at q
  unfold p_L_anew p_L_anew_0
  refine ok_to (ok_ck (of_eq_false hC.1.1) (ok_ck hC.1.2.1 (wr_r q (fun e h3 he => ?_)))) ?_
  · have := leM_er (b := b) he; subst this; rfl
  rintro r h' ⟨e1, e2, e3⟩
  rw [leM_oc] at e1
  exact ⟨e1, wo_step hW e2 e3 hW.2.2.1 (by omega) (by omega)⟩
theorem g_version {b : Nat} (hW : Wo c S A n k h) (hn : n ≤ 511) (hk : k ≤ 599000) (hb : b < 3) : Okp (p_L_version c (iI b) h) (fun r h' => r = xV (cX S b) ∧ Wo c S A n (k + 1) h') := by
  have hC := hW.1
  have q := q_version hC (wo_rdy hW hn hk) (b := b) (by omega) (by omega)
  unfold p_L_version p_L_version_0
  refine ok_to (ok_ck (of_eq_false hC.1.1) (ok_ck hC.1.2.1 (wr_v (v := xV (cX S b)) q (by unfold o_version; rw [if_neg (fun z => z ⟨by omega, by omega⟩)]; simp only [Int.toNat_natCast])))) ?_
  rintro r h' ⟨e1, e2, e3⟩
  exact ⟨e1, wo_step hW e2 e3 hW.2.2.1 (by omega) (by omega)⟩
theorem g_savedVersion {b : Nat} (hW : Wo c S A n k h) (hn : n ≤ 511) (hk : k ≤ 599000) (hb : b < 3) : Okp (p_L_savedVersion c (iI b) h) (fun r h' => r = xW (cX S b) ∧ Wo c S A n (k + 1) h') := by
  have hC := hW.1
  have q := q_savedVersion hC (wo_rdy hW hn hk) (b := b) (by omega) (by omega)
  unfold p_L_savedVersion p_L_savedVersion_0
  refine ok_to (ok_ck (of_eq_false hC.1.1) (ok_ck hC.1.2.1 (wr_v (v := xW (cX S b)) q (by unfold o_savedVersion; rw [if_neg (fun z => z ⟨by omega, by omega⟩)]; simp only [Int.toNat_natCast])))) ?_
  rintro r h' ⟨e1, e2, e3⟩
  exact ⟨e1, wo_step hW e2 e3 hW.2.2.1 (by omega) (by omega)⟩
theorem g_savedLength {b : Nat} (hW : Wo c S A n k h) (hn : n ≤ 511) (hk : k ≤ 599000) (hb : b < 3) : Okp (p_L_savedLength c (iI b) h) (fun r h' => r = iI (xN (cX S b)) ∧ Wo c S A n (k + 1) h') := by
  have hC := hW.1
  have q := q_savedLength hC (wo_rdy hW hn hk) (b := b) (by omega) (by omega)
  unfold p_L_savedLength p_L_savedLength_0
  refine ok_to (ok_ck (of_eq_false hC.1.1) (ok_ck hC.1.2.1 (wr_v (v := iI (xN (cX S b))) q (by unfold o_savedLength; rw [if_neg (fun z => z ⟨by omega, by omega⟩)]; simp only [Int.toNat_natCast])))) ?_
  rintro r h' ⟨e1, e2, e3⟩
  exact ⟨e1, wo_step hW e2 e3 hW.2.2.1 (by omega) (by omega)⟩
/-- behind the last saved letter there is none -/
theorem g_savedEnd {b : Nat} (hW : Wo c S A n k h) (hn : n ≤ 511) (hk : k ≤ 599000) (hb : b < 3) : Okp (p_L_savedLetter c (iI b) (iI (xN (cX S b))) h) (fun r h' => r = iI (-101) ∧ Wo c S A n (k + 1) h') := by
  have hC := hW.1
  have h150 := ((csG_of hC).1 b hb).2.2.1
  have q := q_savedLetter hC (wo_rdy hW hn hk) (b := b) (p := xN (cX S b)) (by omega) (by omega) (by omega) (by omega)
  rw [show slM S b (xN (cX S b)) = (.error 1, S) by unfold slM; rw [if_neg (fun z => z ⟨by omega, by omega⟩)]; simp only [Int.toNat_natCast]; rw [if_neg (by omega)]] at q
  unfold p_L_savedLetter p_L_savedLetter_0
  refine ok_to (ok_ck (of_eq_false hC.1.1) (ok_ck hC.1.2.1 (wr_r q (fun e h3 he => by cases he; rfl)))) ?_
  rintro r h' ⟨e1, e2, e3⟩
  exact ⟨e1, wo_step hW e2 e3 hW.2.2.1 (by omega) (by omega)⟩
def fm (S : Cs) (f : Nat) : Fm := fmD (cF S)[f]?
theorem fm_mem {S : Cs} {f : Nat} (hf : f < (cF S).length) : fm S f ∈ cF S := by
  unfold fm fmD
  rw [List.getElem?_eq_getElem hf]
  exact List.getElem_mem hf
theorem g_state {f : Nat} (hW : Wo c S A n k h) (hn : n ≤ 511) (hk : k ≤ 599000) (hf : f < (cF S).length) : Okp (p_L_state c (iI f) h) (fun r h' => r = iI (fS (fm S f)) ∧ Wo c S A n (k + 1) h') := by
  have hC := hW.1
  have h60 := (csG_of hC).2.2.2.2.1
  have q := q_state hC (wo_rdy hW hn hk) (z := f) (by omega) (by omega)
  rw [show fsM S f = (.ok (fS (fm S f)), S) by unfold fsM; rw [if_neg (fun z => z ⟨by omega, by omega⟩)]; simp only [Int.toNat_natCast]; rfl] at q
  unfold p_L_state p_L_state_0
  refine ok_to (ok_ck (of_eq_false hC.1.1) (ok_ck hC.1.2.1 (wr_r q (fun e h3 he => by cases he)))) ?_
  rintro r h' ⟨e1, e2, e3⟩
  exact ⟨e1, wo_step hW e2 e3 hW.2.2.1 (by omega) (by omega)⟩
def vSp (S : Cs) (F : Fm) : Int := if fS F = 0 then (spN S F : Int) else fW F
theorem g_spared {f : Nat} (hW : Wo c S A n k h) (hn : n ≤ 511) (hk : k ≤ 599000) (hf : f < (cF S).length) : Okp (p_L_spared c (iI f) h) (fun r h' => r = iI (vSp S (fm S f)) ∧ Wo c S A n (k + 1) h') := by
  have hC := hW.1
  have h60 := (csG_of hC).2.2.2.2.1
  have q := q_spared hC (wo_rdy hW hn hk) (z := f) (by omega) (by omega)
  rw [show spM S f = (.ok (vSp S (fm S f)), S) by unfold spM; rw [if_neg (fun z => z ⟨by omega, by omega⟩)]; simp only [Int.toNat_natCast]; rfl] at q
  unfold p_L_spared p_L_spared_0
  refine ok_to (ok_ck (of_eq_false hC.1.1) (ok_ck hC.1.2.1 (wr_r q (fun e h3 he => by cases he)))) ?_
  rintro r h' ⟨e1, e2, e3⟩
  exact ⟨e1, wo_step hW e2 e3 hW.2.2.1 (by omega) (by omega)⟩
/-! what is done -/
def tyT (T : Tx) (a : Nat) (ch : Int) : Tx := xver (xdo T (0, rpos (xR T) (xC T a), ch))
def rmb (S : Cs) (a : Nat) (x : Ac) : Nat → Hd := cset (cH S) a ((cH S a).1.take (cH S a).2 ++ [x], (cH S a).2 + 1)
def tyS (S : Cs) (a b : Nat) (ch : Int) : Cs := (cset (cX S) b (tyT (cX S b) a ch), rmb S a (b, rn (xR (cX S b)), true), cF S, cQ S, cN S)
theorem g_type {a b : Nat} {ch : Int} (hW : Wo c S A n k h) (hn : n ≤ 511) (hk : k ≤ 599000) (ha : a < 5) (hb : b < 3) (hl : isLet ch = true) (c1 : 0 ≤ ch) (c2 : ch ≤ 65535) (hf : rn (xR (cX S b)) < 150) : Okp (p_L_type c (iI a) (iI b) (iI ch) h) (fun r h' => r = iI (cpl (tyT (cX S b) a ch) a) ∧ Wo c (tyS S a b ch) A (n + 1) (k + 1200) h') := by
  have hC := hW.1
  have q := f_type hC (wo_rdy hW hn hk) (a := a) (b := b) (ch := ch) (by omega) (by omega) (by omega) (by omega) c1 c2
  have e : tyM S a b ch = (.ok ((cpl (tyT (cX S b) a ch) a : Nat) : Int), tyS S a b ch) := by
    unfold tyM
    rw [if_neg (fun z => z ⟨⟨by omega, by omega⟩, by omega, by omega⟩), if_neg (by rw [hl]; decide)]
    simp only [Int.toNat_natCast]
    rw [if_neg (by omega)]
    rfl
  have hI := iv_ty (a := a) (b := b) (ch := ch) hW.2.2.1 (csG_of hC)
  rw [e] at q hI
  unfold p_L_type p_L_type_0
  rw [j_nC c1 c2]
  refine ok_to (ok_ck (of_eq_false hC.1.1) (ok_ck hC.1.2.1 (wr_a q (fun e h3 he => by cases he)))) ?_
  rintro r h' ⟨e1, e2, e3⟩
  exact ⟨e1, wo_step hW e2 e3 hI (by omega) (by omega)⟩
def erS (S : Cs) (a b : Nat) : Cs := (cset (cX S) b (erT (cX S b) a), rmb S a (b, ro (xR (cX S b)) (era (cX S b) a - 1), false), cF S, cQ S, cN S)
theorem g_erase {a b : Nat} (hW : Wo c S A n k h) (hn : n ≤ 511) (hk : k ≤ 599000) (ha : a < 5) (hb : b < 3) (hl : era (cX S b) a ≠ 0) : Okp (p_L_erase c (iI a) (iI b) h) (fun r h' => r = iI (cpl (erT (cX S b) a) a) ∧ Wo c (erS S a b) A (n + 1) (k + 1200) h') := by
  have hC := hW.1
  have q := f_erase hC (wo_rdy hW hn hk) (a := a) (b := b) (by omega) (by omega) (by omega) (by omega)
  have e : erM S a b = (.ok ((cpl (erT (cX S b) a) a : Nat) : Int), erS S a b) := by
    unfold erM
    rw [if_neg (fun z => z ⟨⟨by omega, by omega⟩, by omega, by omega⟩)]
    simp only [Int.toNat_natCast]
    rw [if_neg hl]
    rfl
  have hI := iv_er (a := a) (b := b) hW.2.2.1 (csG_of hC)
  rw [e] at q hI
  unfold p_L_erase p_L_erase_0
  refine ok_to (ok_ck (of_eq_false hC.1.1) (ok_ck hC.1.2.1 (wr_a q (fun e h3 he => by cases he)))) ?_
  rintro r h' ⟨e1, e2, e3⟩
  exact ⟨e1, wo_step hW e2 e3 hI (by omega) (by omega)⟩
theorem g_erase0 {a b : Nat} (hW : Wo c S A n k h) (hn : n ≤ 511) (hk : k ≤ 599000) (ha : a < 5) (hb : b < 3) (hl : era (cX S b) a = 0) : Okp (p_L_erase c (iI a) (iI b) h) (fun r h' => r = iI (-103) ∧ Wo c S A (n + 1) (k + 1200) h') := by
  have hC := hW.1
  have q := f_erase hC (wo_rdy hW hn hk) (a := a) (b := b) (by omega) (by omega) (by omega) (by omega)
  have e : erM S a b = (.error 3, S) := by
    unfold erM
    rw [if_neg (fun z => z ⟨⟨by omega, by omega⟩, by omega, by omega⟩)]
    simp only [Int.toNat_natCast]
    rw [if_pos hl]
  rw [e] at q
  unfold p_L_erase p_L_erase_0
  refine ok_to (ok_ck (of_eq_false hC.1.1) (ok_ck hC.1.2.1 (wr_a q (fun e h3 he => by cases he; rfl)))) ?_
  rintro r h' ⟨e1, e2, e3⟩
  exact ⟨e1, wo_step hW e2 e3 (ivS_mono hW.2.2.1 (Nat.le_succ _)) (by omega) (by omega)⟩
def mvS (S : Cs) (a b p : Nat) : Cs := (cset (cX S) b (mvT (cX S b) a p), cH S, cF S, cQ S, cN S)
theorem g_moves {a b p : Nat} (hW : Wo c S A n k h) (hn : n ≤ 511) (hk : k ≤ 599000) (ha : a < 5) (hb : b < 3) (hp : p ≤ vLn (cX S b)) : Okp (p_L_moves c (iI a) (iI b) (iI p) h) (fun r h' => r = iI (cpl (cX S b) a) ∧ Wo c (mvS S a b p) A (n + 1) (k + 1200) h') := by
  have hC := hW.1
  have h150 := qcn_le (rf (xR (cX S b))) (rn (xR (cX S b)))
  have r150 := ((csG_of hC).1 b hb).1.1
  have ev : vLn (cX S b) = qcn (rf (xR (cX S b))) (rn (xR (cX S b))) := rfl
  have q := f_moveTo hC (wo_rdy hW hn hk) (a := a) (b := b) (p := p) (by omega) (by omega) (by omega) (by omega) (by omega) (by omega)
  have e : mvM S a b p = (.ok ((cpl (cX S b) a : Nat) : Int), mvS S a b p) := by
    unfold mvM
    rw [if_neg (fun z => z ⟨⟨by omega, by omega⟩, by omega, by omega⟩)]
    simp only [Int.toNat_natCast]
    rw [if_neg (by omega)]
    rfl
  have hI := iv_mv (a := a) (b := b) (p := p) hW.2.2.1
  rw [e] at q hI
  unfold p_L_moves p_L_moves_0
  refine ok_to (ok_ck (of_eq_false hC.1.1) (ok_ck hC.1.2.1 (wr_a q (fun e h3 he => by cases he)))) ?_
  rintro r h' ⟨e1, e2, e3⟩
  exact ⟨e1, wo_step hW e2 e3 hI (by omega) (by omega)⟩
theorem g_moves0 {a b p : Nat} (hW : Wo c S A n k h) (hn : n ≤ 511) (hk : k ≤ 599000) (ha : a < 5) (hb : b < 3) (hp : vLn (cX S b) < p) (hp2 : p < 100000) : Okp (p_L_moves c (iI a) (iI b) (iI p) h) (fun r h' => r = iI (-101) ∧ Wo c S A (n + 1) (k + 1200) h') := by
  have hC := hW.1
  have ev : vLn (cX S b) = qcn (rf (xR (cX S b))) (rn (xR (cX S b))) := rfl
  have q := f_moveTo hC (wo_rdy hW hn hk) (a := a) (b := b) (p := p) (by omega) (by omega) (by omega) (by omega) (by omega) (by omega)
  have e : mvM S a b p = (.error 1, S) := by
    unfold mvM
    rw [if_neg (fun z => z ⟨⟨by omega, by omega⟩, by omega, by omega⟩)]
    simp only [Int.toNat_natCast]
    rw [if_pos (by omega)]
  rw [e] at q
  unfold p_L_moves p_L_moves_0
  refine ok_to (ok_ck (of_eq_false hC.1.1) (ok_ck hC.1.2.1 (wr_a q (fun e h3 he => by cases he; rfl)))) ?_
  rintro r h' ⟨e1, e2, e3⟩
  exact ⟨e1, wo_step hW e2 e3 (ivS_mono hW.2.2.1 (Nat.le_succ _)) (by omega) (by omega)⟩
def unS (S : Cs) (a : Nat) (x : Ac) : Cs := (cset (cX S) x.1 (tuT (cX S x.1) x.2.1 (!x.2.2)), cset (cH S) a ((cH S a).1, (cH S a).2 - 1), cF S, cQ S, cN S)
def reS (S : Cs) (a : Nat) (x : Ac) : Cs := (cset (cX S) x.1 (tuT (cX S x.1) x.2.1 x.2.2), cset (cH S) a ((cH S a).1, (cH S a).2 + 1), cF S, cQ S, cN S)
theorem g_undo {a : Nat} {x : Ac} (hW : Wo c S A n k h) (hn : n ≤ 511) (hk : k ≤ 599000) (ha : a < 5) (h0 : (cH S a).2 ≠ 0) (hx : (cH S a).1[(cH S a).2 - 1]? = some x) : Okp (p_L_undo c (iI a) h) (fun r h' => r = iI x.1 ∧ Wo c (unS S a x) A (n + 1) (k + 1200) h') := by
  have hC := hW.1
  have q := f_undo hC (wo_rdy hW hn hk) hW.2.2.1.2.2.1 (a := a) (by omega) (by omega)
  have e : unM S a = (.ok ((x.1 : Nat) : Int), unS S a x) := by
    unfold unM
    rw [if_neg (fun z => z ⟨by omega, by omega⟩)]
    simp only [Int.toNat_natCast]
    rw [if_neg h0, hx]
    rfl
  have hI := iv_un (a := a) hW.2.2.1 (csG_of hC)
  rw [e] at q hI
  unfold p_L_undo p_L_undo_0
  refine ok_to (ok_ck (of_eq_false hC.1.1) (ok_ck hC.1.2.1 (wr_a q (fun e h3 he => by cases he)))) ?_
  rintro r h' ⟨e1, e2, e3⟩
  exact ⟨e1, wo_step hW e2 e3 hI (by omega) (by omega)⟩
theorem g_undo0 {a : Nat} (hW : Wo c S A n k h) (hn : n ≤ 511) (hk : k ≤ 599000) (ha : a < 5) (h0 : (cH S a).2 = 0) : Okp (p_L_undo c (iI a) h) (fun r h' => r = iI (-103) ∧ Wo c S A (n + 1) (k + 1200) h') := by
  have hC := hW.1
  have q := f_undo hC (wo_rdy hW hn hk) hW.2.2.1.2.2.1 (a := a) (by omega) (by omega)
  have e : unM S a = (.error 3, S) := by
    unfold unM
    rw [if_neg (fun z => z ⟨by omega, by omega⟩)]
    simp only [Int.toNat_natCast]
    rw [if_pos h0]
  rw [e] at q
  unfold p_L_undo p_L_undo_0
  refine ok_to (ok_ck (of_eq_false hC.1.1) (ok_ck hC.1.2.1 (wr_a q (fun e h3 he => by cases he; rfl)))) ?_
  rintro r h' ⟨e1, e2, e3⟩
  exact ⟨e1, wo_step hW e2 e3 (ivS_mono hW.2.2.1 (Nat.le_succ _)) (by omega) (by omega)⟩
theorem g_redo {a : Nat} {x : Ac} (hW : Wo c S A n k h) (hn : n ≤ 511) (hk : k ≤ 599000) (ha : a < 5) (h0 : (cH S a).2 ≠ (cH S a).1.length) (hx : (cH S a).1[(cH S a).2]? = some x) : Okp (p_L_redo c (iI a) h) (fun r h' => r = iI x.1 ∧ Wo c (reS S a x) A (n + 1) (k + 1200) h') := by
  have hC := hW.1
  have q := f_redo hC (wo_rdy hW hn hk) hW.2.2.1.2.2.1 (a := a) (by omega) (by omega)
  have e : reM S a = (.ok ((x.1 : Nat) : Int), reS S a x) := by
    unfold reM
    rw [if_neg (fun z => z ⟨by omega, by omega⟩)]
    simp only [Int.toNat_natCast]
    rw [if_neg h0, hx]
    rfl
  have hI := iv_re (a := a) hW.2.2.1 (csG_of hC)
  rw [e] at q hI
  unfold p_L_redo p_L_redo_0
  refine ok_to (ok_ck (of_eq_false hC.1.1) (ok_ck hC.1.2.1 (wr_a q (fun e h3 he => by cases he)))) ?_
  rintro r h' ⟨e1, e2, e3⟩
  exact ⟨e1, wo_step hW e2 e3 hI (by omega) (by omega)⟩
theorem g_redo0 {a : Nat} (hW : Wo c S A n k h) (hn : n ≤ 511) (hk : k ≤ 599000) (ha : a < 5) (h0 : (cH S a).2 = (cH S a).1.length) : Okp (p_L_redo c (iI a) h) (fun r h' => r = iI (-103) ∧ Wo c S A (n + 1) (k + 1200) h') := by
  have hC := hW.1
  have q := f_redo hC (wo_rdy hW hn hk) hW.2.2.1.2.2.1 (a := a) (by omega) (by omega)
  have e : reM S a = (.error 3, S) := by
    unfold reM
    rw [if_neg (fun z => z ⟨by omega, by omega⟩)]
    simp only [Int.toNat_natCast]
    rw [if_pos h0]
  rw [e] at q
  unfold p_L_redo p_L_redo_0
  refine ok_to (ok_ck (of_eq_false hC.1.1) (ok_ck hC.1.2.1 (wr_a q (fun e h3 he => by cases he; rfl)))) ?_
  rintro r h' ⟨e1, e2, e3⟩
  exact ⟨e1, wo_step hW e2 e3 (ivS_mono hW.2.2.1 (Nat.le_succ _)) (by omega) (by omega)⟩
def asS (S : Cs) (b : Nat) (kd nb : Int) : Cs := (cX S, cH S, cF S ++ [(b, 0, askC (xR (cX S b)) kd nb, 0)], cQ S, cN S)
theorem g_ask {b : Nat} {kd nb : Int} (hW : Wo c S A n k h) (hn : n ≤ 511) (hk : k ≤ 599000) (hb : b < 3) (ho : askOk kd nb = true) (k1 : 0 ≤ kd) (k2 : kd ≤ 3) (n1 : 0 ≤ nb) (n2 : nb ≤ 40) (hf : (cF S).length < 60) : Okp (p_L_ask c (iI b) (iI kd) (iI nb) h) (fun r h' => r = iI (cF S).length ∧ Wo c (asS S b kd nb) A (n + 1) (k + 1200) h') := by
  have hC := hW.1
  have q := f_ask hC (wo_rdy hW hn hk) (b := b) (kd := kd) (nb := nb) (by omega) (by omega) (by omega) (by omega) (by omega) (by omega)
  have e : asM S b kd nb = (.ok (((cF S).length : Nat) : Int), asS S b kd nb) := by
    unfold asM
    rw [if_neg (fun z => z ⟨by omega, by omega⟩), if_neg (by rw [ho]; decide), if_neg (by omega)]
    simp only [Int.toNat_natCast]
    rfl
  have hI := iv_as (b := b) (kd := kd) (nb := nb) hW.2.2.1 (csG_of hC)
  rw [e] at q hI
  unfold p_L_ask p_L_ask_0
  refine ok_to (ok_ck (of_eq_false hC.1.1) (ok_ck hC.1.2.1 (wr_a q (fun e h3 he => by cases he)))) ?_
  rintro r h' ⟨e1, e2, e3⟩
  exact ⟨e1, wo_step hW e2 e3 hI (by omega) (by omega)⟩
def coS (S : Cs) (f : Nat) : Cs := (cset (cX S) (fT (fm S f)) (coT S (fm S f)), cH S, (cF S).set f (fT (fm S f), 1, fC (fm S f), (spN S (fm S f) : Int)), cQ S, cN S)
theorem g_come {f : Nat} (hW : Wo c S A n k h) (hn : n ≤ 511) (hk : k ≤ 599000) (hf : f < (cF S).length) (h0 : fS (fm S f) = 0) : Okp (p_L_come c (iI f) h) (fun r h' => r = iI (((fC (fm S f)).length : Int) - spN S (fm S f)) ∧ Wo c (coS S f) A (n + 1) (k + 1200) h') := by
  have hC := hW.1
  have h60 := (csG_of hC).2.2.2.2.1
  have q := f_come hC (wo_rdy hW hn hk) (ivS_co hW.2.2.1 (csG_of hC) hn) (z := f) (by omega) (by omega)
  have e : coM S f = (.ok (((fC (fm S f)).length : Int) - spN S (fm S f)), coS S f) := by
    unfold coM
    rw [if_neg (fun z => z ⟨by omega, by omega⟩)]
    simp only [Int.toNat_natCast]
    rw [show fmD (cF S)[f]? = fm S f from rfl, if_pos h0]
    rfl
  have hI := iv_co (z := f) hW.2.2.1 (csG_of hC)
  rw [e] at q hI
  unfold p_L_come p_L_come_0
  refine ok_to (ok_ck (of_eq_false hC.1.1) (ok_ck hC.1.2.1 (wr_a q (fun e h3 he => by cases he)))) ?_
  rintro r h' ⟨e1, e2, e3⟩
  exact ⟨e1, wo_step hW e2 e3 hI (by omega) (by omega)⟩
theorem g_come0 {f : Nat} (hW : Wo c S A n k h) (hn : n ≤ 511) (hk : k ≤ 599000) (hf : f < (cF S).length) (h0 : fS (fm S f) ≠ 0) : Okp (p_L_come c (iI f) h) (fun r h' => r = iI (-103) ∧ Wo c S A (n + 1) (k + 1200) h') := by
  have hC := hW.1
  have h60 := (csG_of hC).2.2.2.2.1
  have q := f_come hC (wo_rdy hW hn hk) (ivS_co hW.2.2.1 (csG_of hC) hn) (z := f) (by omega) (by omega)
  have e : coM S f = (.error 3, S) := by
    unfold coM
    rw [if_neg (fun z => z ⟨by omega, by omega⟩)]
    simp only [Int.toNat_natCast]
    rw [show fmD (cF S)[f]? = fm S f from rfl, if_neg h0]
  rw [e] at q
  unfold p_L_come p_L_come_0
  refine ok_to (ok_ck (of_eq_false hC.1.1) (ok_ck hC.1.2.1 (wr_a q (fun e h3 he => by cases he; rfl)))) ?_
  rintro r h' ⟨e1, e2, e3⟩
  exact ⟨e1, wo_step hW e2 e3 (ivS_mono hW.2.2.1 (Nat.le_succ _)) (by omega) (by omega)⟩
def drS (S : Cs) (f : Nat) : Cs := (cX S, cH S, (cF S).set f (fT (fm S f), 2, fC (fm S f), ((fC (fm S f)).length : Int)), cQ S, cN S)
theorem g_drop {f : Nat} (hW : Wo c S A n k h) (hn : n ≤ 511) (hk : k ≤ 599000) (hf : f < (cF S).length) (h0 : fS (fm S f) = 0) : Okp (p_L_drop c (iI f) h) (fun r h' => r = iI (fC (fm S f)).length ∧ Wo c (drS S f) A (n + 1) (k + 1200) h') := by
  have hC := hW.1
  have h60 := (csG_of hC).2.2.2.2.1
  have q := f_drop hC (wo_rdy hW hn hk) (z := f) (by omega) (by omega)
  have e : drM S f = (.ok (((fC (fm S f)).length : Nat) : Int), drS S f) := by
    unfold drM
    rw [if_neg (fun z => z ⟨by omega, by omega⟩)]
    simp only [Int.toNat_natCast]
    rw [show fmD (cF S)[f]? = fm S f from rfl, if_pos h0]
    rfl
  have hI := iv_dr (z := f) hW.2.2.1
  rw [e] at q hI
  unfold p_L_drop p_L_drop_0
  refine ok_to (ok_ck (of_eq_false hC.1.1) (ok_ck hC.1.2.1 (wr_a q (fun e h3 he => by cases he)))) ?_
  rintro r h' ⟨e1, e2, e3⟩
  exact ⟨e1, wo_step hW e2 e3 hI (by omega) (by omega)⟩
theorem g_drop0 {f : Nat} (hW : Wo c S A n k h) (hn : n ≤ 511) (hk : k ≤ 599000) (hf : f < (cF S).length) (h0 : fS (fm S f) ≠ 0) : Okp (p_L_drop c (iI f) h) (fun r h' => r = iI (-103) ∧ Wo c S A (n + 1) (k + 1200) h') := by
  have hC := hW.1
  have h60 := (csG_of hC).2.2.2.2.1
  have q := f_drop hC (wo_rdy hW hn hk) (z := f) (by omega) (by omega)
  have e : drM S f = (.error 3, S) := by
    unfold drM
    rw [if_neg (fun z => z ⟨by omega, by omega⟩)]
    simp only [Int.toNat_natCast]
    rw [show fmD (cF S)[f]? = fm S f from rfl, if_neg h0]
  rw [e] at q
  unfold p_L_drop p_L_drop_0
  refine ok_to (ok_ck (of_eq_false hC.1.1) (ok_ck hC.1.2.1 (wr_a q (fun e h3 he => by cases he; rfl)))) ?_
  rintro r h' ⟨e1, e2, e3⟩
  exact ⟨e1, wo_step hW e2 e3 (ivS_mono hW.2.2.1 (Nat.le_succ _)) (by omega) (by omega)⟩
def loS (S : Cs) (a b : Nat) : Cs := (cset (cX S) b (loT (cX S b) a), cH S, cF S, cQ S, cN S)
theorem g_lock {a b : Nat} (hW : Wo c S A n k h) (hn : n ≤ 511) (hk : k ≤ 599000) (ha : a < 5) (hb : b < 3) (hf : isFree (cX S b) a = true) : Okp (p_L_lock c (iI a) (iI b) h) (fun r h' => r = iI (if xL (cX S b) = a then 0 else 1) ∧ Wo c (loS S a b) A (n + 1) (k + 1200) h') := by
  have hC := hW.1
  have q := f_lock hC (wo_rdy hW hn hk) (a := a) (b := b) (by omega) (by omega) (by omega) (by omega)
  have e : loM S a b = (.ok (if xL (cX S b) = a then 0 else 1), loS S a b) := by
    unfold loM
    rw [if_neg (fun z => z ⟨⟨by omega, by omega⟩, by omega, by omega⟩)]
    simp only [Int.toNat_natCast]
    rw [if_neg (by rw [hf]; decide)]
    rfl
  have hI := iv_lo (a := a) (b := b) hW.2.2.1
  rw [e] at q hI
  unfold p_L_lock p_L_lock_0
  obtain ⟨r, h', ex, e1, e2, e3⟩ := q
  refine ok_ck (of_eq_false hC.1.1) (ok_ck hC.1.2.1 ?_)
  rw [ex]
  simp only at e1
  subst e1
  have w := wo_step hW e2 e3 hI (d := 1200) (by omega) (by omega)
  by_cases d : xL (cX S b) = a
  · rw [if_pos d]
    exact ⟨iI 0, h', rfl, rfl, w⟩
  · rw [if_neg d]
    exact ⟨iI 1, h', rfl, rfl, w⟩
theorem g_lock0 {a b : Nat} (hW : Wo c S A n k h) (hn : n ≤ 511) (hk : k ≤ 599000) (ha : a < 5) (hb : b < 3) (hf : isFree (cX S b) a = false) : Okp (p_L_lock c (iI a) (iI b) h) (fun r h' => r = iI (-103) ∧ Wo c S A (n + 1) (k + 1200) h') := by
  have hC := hW.1
  have q := f_lock hC (wo_rdy hW hn hk) (a := a) (b := b) (by omega) (by omega) (by omega) (by omega)
  have e : loM S a b = (.error 3, S) := by
    unfold loM
    rw [if_neg (fun z => z ⟨⟨by omega, by omega⟩, by omega, by omega⟩)]
    simp only [Int.toNat_natCast]
    rw [if_pos hf]
  rw [e] at q
  unfold p_L_lock p_L_lock_0
  obtain ⟨r, h', ex, e1, e2, e3⟩ := q
  refine ok_ck (of_eq_false hC.1.1) (ok_ck hC.1.2.1 ?_)
  rw [ex]
  simp only at e1
  subst e1
  exact ⟨iI (-103), h', rfl, rfl, wo_step hW e2 e3 (ivS_mono hW.2.2.1 (Nat.le_succ _)) (by omega) (by omega)⟩
def svS (S : Cs) (a b : Nat) (z : Int) : Cs := (cX S, cH S, cF S, cQ S ++ [(cN S, a, b, z)], cN S + 1)
theorem g_save {a b : Nat} {z : Int} (hW : Wo c S A n k h) (hn : n ≤ 511) (hk : k ≤ 599000) (ha : a < 5) (hb : b < 3) (hq : (cQ S).length ≤ cN S) (hN : cN S < 60) (z1 : -1 ≤ z) (z2 : z < (cF S).length) (hz : z = -1 ∨ fT (fm S z.toNat) = b) : Okp (p_L_save c (iI a) (iI b) (iI z) h) (fun r h' => r = iI (cN S) ∧ Wo c (svS S a b z) A (n + 1) (k + 1200) h') := by
  have hC := hW.1
  have h60 := (csG_of hC).2.2.2.2.1
  have q := f_save hC (wo_rdy hW hn hk) (a := a) (b := b) (z := z) (by omega) (by omega) (by omega) (by omega) (by omega) (by omega) hq
  have e : svM S a b z = (.ok ((cN S : Nat) : Int), svS S a b z) := by
    unfold svM
    rw [if_neg (fun w => w ⟨⟨by omega, by omega⟩, ⟨by omega, by omega⟩, by unfold fOk; omega⟩)]
    simp only [Int.toNat_natCast]
    rw [if_neg (fun w => hz.elim (fun y => w.1 y) (fun y => w.2 y)), if_neg (by omega)]
    rfl
  have hI := iv_sv (a := a) (b := b) (z := z) hW.2.2.1
  rw [e] at q hI
  unfold p_L_save p_L_save_0
  refine ok_to (ok_ck (of_eq_false hC.1.1) (ok_ck hC.1.2.1 (wr_a q (fun e h3 he => by cases he)))) ?_
  rintro r h' ⟨e1, e2, e3⟩
  exact ⟨e1, wo_step hW e2 e3 hI (by omega) (by omega)⟩
theorem g_save0 {a b : Nat} {z : Int} (hW : Wo c S A n k h) (hn : n ≤ 511) (hk : k ≤ 599000) (ha : a < 5) (hb : b < 3) (hq : (cQ S).length ≤ cN S) (z1 : 0 ≤ z) (z2 : z < (cF S).length) (hz : fT (fm S z.toNat) ≠ b) : Okp (p_L_save c (iI a) (iI b) (iI z) h) (fun r h' => r = iI (-102) ∧ Wo c S A (n + 1) (k + 1200) h') := by
  have hC := hW.1
  have h60 := (csG_of hC).2.2.2.2.1
  have q := f_save hC (wo_rdy hW hn hk) (a := a) (b := b) (z := z) (by omega) (by omega) (by omega) (by omega) (by omega) (by omega) hq
  have e : svM S a b z = (.error 2, S) := by
    unfold svM
    rw [if_neg (fun w => w ⟨⟨by omega, by omega⟩, ⟨by omega, by omega⟩, by unfold fOk; omega⟩)]
    simp only [Int.toNat_natCast]
    rw [if_pos ⟨by omega, hz⟩]
  rw [e] at q
  unfold p_L_save p_L_save_0
  refine ok_to (ok_ck (of_eq_false hC.1.1) (ok_ck hC.1.2.1 (wr_a q (fun e h3 he => by cases he; rfl)))) ?_
  rintro r h' ⟨e1, e2, e3⟩
  exact ⟨e1, wo_step hW e2 e3 (ivS_mono hW.2.2.1 (Nat.le_succ _)) (by omega) (by omega)⟩
theorem g_write (hW : Wo c S A n k h) (hs : ∀ i, i < (cQ S).length → (sv S i).2.2.1 < 3) : Okp (p_X10_write c h) (fun r h' => r = iI (wrM S).1 ∧ Wo c (wrM S).2 A (n + 1) (k + 1200) h') := by
  refine ok_to (f_write hW.1) ?_
  rintro r h' ⟨e1, e2, e3⟩
  exact ⟨e1, wo_step hW e2 e3 (iv_wr hW.2.2.1 hs) (by omega) (by omega)⟩
theorem g_queued (hW : Wo c S A n k h) : p_X10_queued c h = some (iI (cQ S).length, h) := f_queued hW.1
end GS
