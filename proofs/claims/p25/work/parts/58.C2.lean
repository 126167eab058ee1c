theorem cmT_s (T : Tx) (cs : List Ch) (sp : Nat → Bool) (q : Nat) : cmT T cs sp (q + 1) = if sp q = true then cmT T cs sp q else if (crd cs q).1.2.2 = 1 then xgo (cmT T cs sp q) (crd cs q).1.1 else xdo (cmT T cs sp q) (3, (crd cs q).1.1, (crd cs q).1.2.2) := rfl
theorem wst_s (Sg : Nat → Int) (w : Int) (i : Nat) : wst Sg w (i + 1) = if Sg i = 47 then ((i : Int) + 1, -1) else if (i : Int) - (wst Sg w i).1 = w ∧ 0 ≤ (if Sg i = 32 then (i : Int) else (wst Sg w i).2) then ((if Sg i = 32 then (i : Int) else (wst Sg w i).2) + 1, -1) else ((wst Sg w i).1, if Sg i = 32 then (i : Int) else (wst Sg w i).2) := rfl
theorem wWr_or (Sg : Nat → Int) (w : Int) (m q : Nat) : (wWr Sg w m q = 0 ∧ ∀ i, i < m → (q : Int) ≠ wmk Sg w i) ∨ (wWr Sg w m q = 47 ∧ ∃ i, i < m ∧ (q : Int) = wmk Sg w i) := by
  induction m with
  | zero => exact Or.inl ⟨rfl, fun i hi => absurd hi (Nat.not_lt_zero _)⟩
  | succ m ih =>
    have e : wWr Sg w (m + 1) q = if (q : Int) = wmk Sg w m then 47 else wWr Sg w m q := rfl
    rw [e]
    by_cases c : (q : Int) = wmk Sg w m
    · rw [if_pos c]; exact Or.inr ⟨rfl, m, by omega, c⟩
    · rw [if_neg c]
      rcases ih with ⟨z1, z2⟩ | ⟨z1, i, z2, z3⟩
      · refine Or.inl ⟨z1, fun i hi => ?_⟩
        by_cases d : i = m
        · rw [d]; exact c
        · exact z2 i (by omega)
      · exact Or.inr ⟨z1, i, by omega, z3⟩

/-! ===== what holds behind n calls ===== -/
def soft (z : Int) : Bool := decide (z = 32 ∨ (97 ≤ z ∧ z ≤ 122))
def nth (R : Rw) : Nat := qcn (rt R) (rn R)
def nso (R : Rw) : Nat := qcn (fun l => soft (rs R l)) (rn R)
def phi (T : Tx) : Nat := (xD T).length + nth (xR T) + nso (xR T)
theorem qcn_set {f : Nat → Bool} {l k : Nat} {b : Bool} (hl : l < k) : qcn (fun x => if x = l then b else f x) k + (if f l then 1 else 0) = qcn f k + (if b then 1 else 0) := by
  induction k with
  | zero => omega
  | succ k ih =>
    rw [qcn_s, qcn_s]
    by_cases c : l < k
    · have := ih c
      have e : (if k = l then b else f k) = f k := if_neg (by omega)
      rw [e]; omega
    · have e : l = k := by omega
      subst e
      rw [if_pos (show l = l from rfl)]
      have : qcn (fun x => if x = l then b else f x) l = qcn f l := qcn_eq fun i hi => if_neg (by omega)
      rw [this]; omega
theorem qcn_out {f : Nat → Bool} {l k : Nat} {b : Bool} (hl : k ≤ l) : qcn (fun x => if x = l then b else f x) k = qcn f k := qcn_eq fun i hi => if_neg (by omega)
theorem nth_set {R : Rw} {l : Nat} {b : Bool} (hl : l < rn R) : nth (rsetT R l b) + (if rt R l then 1 else 0) = nth R + (if b then 1 else 0) := qcn_set hl
theorem xD_len (T : Tx) (d : Dd) : (xD (xdo T d)).length = (xD T).length + 1 := by
  show (xD T ++ [d]).length = _
  rw [List.length_append, List.length_singleton]
theorem phi_go {T : Tx} {l : Nat} (hl : l < rn (xR T)) (ht : rt (xR T) l = true) : phi (xgo T l) = phi T := by
  have h1 := nth_set (b := false) hl
  rw [ht] at h1
  have h2 : (xD (xgo T l)).length = (xD T).length + 1 := by
    show (xD T ++ [(1, l, 0)]).length = _
    rw [List.length_append, List.length_singleton]
  have h3 : nso (xR (xgo T l)) = nso (xR T) := rfl
  have h4 : nth (xR (xgo T l)) = nth (rsetT (xR T) l false) := rfl
  unfold phi
  rw [h2, h3, h4]
  simp only [if_true, Bool.false_eq_true, if_false] at h1
  omega
theorem phi_back {T : Tx} {l : Nat} (hl : l < rn (xR T)) (ht : rt (xR T) l = false) : phi (xdo T (2, l, 0)) = phi T + 2 := by
  have h1 := nth_set (b := true) hl
  rw [ht] at h1
  have h2 := xD_len T (2, l, 0)
  have h3 : nso (xR (xdo T (2, l, 0))) = nso (xR T) := rfl
  have h4 : nth (xR (xdo T (2, l, 0))) = nth (rsetT (xR T) l true) := rfl
  unfold phi
  rw [h2, h3, h4]
  simp only [if_true, Bool.false_eq_true, if_false] at h1
  omega
theorem phi_become {T : Tx} {l : Nat} {c : Int} (hl : l < rn (xR T)) (h1 : soft (rs (xR T) l) = true) (h2 : soft c = false) : phi (xdo T (3, l, c)) = phi T := by
  have h3 := qcn_set (f := fun x => soft (rs (xR T) x)) (l := l) (k := rn (xR T)) (b := false) hl
  have h4 := xD_len T (3, l, c)
  have h5 : nth (xR (xdo T (3, l, c))) = nth (xR T) := rfl
  have h6 : nso (xR (xdo T (3, l, c))) = qcn (fun x => if x = l then false else soft (rs (xR T) x)) (rn (xR T)) := by
    show qcn (fun x => soft (if x = l then c else rs (xR T) x)) (rn (xR T)) = _
    refine qcn_eq fun i _ => ?_
    by_cases d : i = l
    · rw [if_pos d, if_pos d]; exact h2
    · rw [if_neg d, if_neg d]
  unfold phi
  rw [h4, h5, h6]
  rw [h1] at h3
  simp only [if_true, Bool.false_eq_true, if_false] at h3
  have : nso (xR T) = qcn (fun x => soft (rs (xR T) x)) (rn (xR T)) := rfl
  omega
theorem phi_type {T : Tx} {s : Nat} {c : Int} : phi (xdo T (0, s, c)) ≤ phi T + 3 := by
  have h2 := xD_len T (0, s, c)
  have h3 : nth (xR (xdo T (0, s, c))) = nth (xR T) + 1 := by
    show qcn (fun l => if l = rn (xR T) then true else rt (xR T) l) (rn (xR T) + 1) = qcn (rt (xR T)) (rn (xR T)) + 1
    rw [qcn_s, qcn_out (Nat.le_refl _), if_pos (show rn (xR T) = rn (xR T) from rfl), if_pos (show true = true from rfl)]
  have h4 : nso (xR (xdo T (0, s, c))) ≤ nso (xR T) + 1 := by
    show qcn (fun l => soft (if l = rn (xR T) then c else rs (xR T) l)) (rn (xR T) + 1) ≤ qcn (fun l => soft (rs (xR T) l)) (rn (xR T)) + 1
    rw [qcn_s]
    have : qcn (fun l => soft (if l = rn (xR T) then c else rs (xR T) l)) (rn (xR T)) = qcn (fun l => soft (rs (xR T) l)) (rn (xR T)) := qcn_eq fun i hi => by rw [if_neg (by omega)]
    rw [this, if_pos (show rn (xR T) = rn (xR T) from rfl)]
    split <;> omega
  unfold phi
  rw [h2, h3]
  omega
def FmN (cs : List Ch) : Prop := (∀ i j, i < cs.length → j < cs.length → (crd cs i).1.1 = (crd cs j).1.1 → i = j) ∧ ∀ k ∈ cs, k.1.2.2 ≠ 1 → soft k.1.2.1 = true ∧ soft k.1.2.2 = false
def IvS (S : Cs) (n : Nat) : Prop := (∀ t, t < 3 → phi (cX S t) ≤ 2 * n + rn (xR (cX S t))) ∧ (∀ a, a < 5 → (cH S a).1.length ≤ n) ∧ AcP S ∧ ∀ F ∈ cF S, FmN (fC F)
theorem ivS_mono {S : Cs} {n m : Nat} (h : IvS S n) (hm : n ≤ m) : IvS S m := ⟨fun t ht => by have := h.1 t ht; omega, fun a ha => by have := h.2.1 a ha; omega, h.2.2.1, h.2.2.2⟩
theorem cmT_at (T : Tx) (cs : List Ch) (sp : Nat → Bool) (l : Nat) : ∀ q, (∀ k, k < q → (crd cs k).1.1 ≠ l) → rt (xR (cmT T cs sp q)) l = rt (xR T) l ∧ rs (xR (cmT T cs sp q)) l = rs (xR T) l := by
  intro q
  induction q with
  | zero => intro _; exact ⟨rfl, rfl⟩
  | succ q ih =>
    intro h
    have h1 := ih fun k hk => h k (by omega)
    have h2 := h q (by omega)
    rw [cmT_s]
    by_cases c : sp q = true
    · rw [if_pos c]; exact h1
    · rw [if_neg c]
      by_cases c2 : (crd cs q).1.2.2 = 1
      · rw [if_pos c2]
        refine ⟨?_, h1.2⟩
        show (if l = (crd cs q).1.1 then false else rt (xR (cmT T cs sp q)) l) = _
        rw [if_neg (fun z => h2 z.symm)]; exact h1.1
      · rw [if_neg c2]
        refine ⟨h1.1, ?_⟩
        show (if l = (crd cs q).1.1 then (crd cs q).1.2.2 else rs (xR (cmT T cs sp q)) l) = _
        rw [if_neg (fun z => h2 z.symm)]; exact h1.2
theorem phi_cmT {T : Tx} {cs : List Ch} (hN : FmN cs) (hlt : ∀ k ∈ cs, k.1.1 < rn (xR T)) : ∀ q, q ≤ cs.length → phi (cmT T cs (sprA T cs) q) = phi T := by
  intro q
  induction q with
  | zero => intro _; rfl
  | succ q ih =>
    intro hq
    have h1 := ih (by omega)
    have hm := crd_mem (cs := cs) (q := q) (by omega)
    have hl := hlt _ hm
    have hn := (cmT_n T cs (sprA T cs) q).1
    rw [cmT_s]
    by_cases c : sprA T cs q = true
    · rw [if_pos c]; exact h1
    · rw [if_neg c]
      have hat := cmT_at T cs (sprA T cs) (crd cs q).1.1 q fun k hk e => by have := hN.1 k q (by omega) (by omega) e; omega
      have c' : sprA T cs q = false := by simpa using c
      unfold sprA spr sprB at c'
      rw [Bool.or_eq_false_iff, Bool.or_eq_false_iff] at c'
      have ht : rt (xR T) (crd cs q).1.1 = true := by have := c'.1; simpa using this
      have hs : rs (xR T) (crd cs q).1.1 = (crd cs q).1.2.1 := by
        have := of_decide_eq_false c'.2.1
        exact Classical.not_not.mp this
      by_cases c2 : (crd cs q).1.2.2 = 1
      · rw [if_pos c2, phi_go (by omega) (hat.1.trans ht)]; exact h1
      · rw [if_neg c2]
        have hsf := hN.2 _ hm c2
        rw [phi_become (by omega) (by rw [hat.2, hs]; exact hsf.1) hsf.2]; exact h1
/-- what the class's lemmas ask -/
theorem ivS_co {S : Cs} {n : Nat} (hI : IvS S n) (hG : CsG S) (hn : n ≤ 511) : CoP S := by
  intro F hF
  have g := hG.2.2.1 F hF
  have ht := g.1.1
  have h1 := phi_cmT (hI.2.2.2 F hF) (T := cX S (fT F)) (fun k hk => g.2.2.2.2.2.2 k hk) (fC F).length (Nat.le_refl _)
  have h2 := (cmT_n (cX S (fT F)) (fC F) (sprA (cX S (fT F)) (fC F)) (fC F).length).2
  have h3 := hI.1 _ ht
  have h4 := (hG.1 _ ht).1.1
  unfold phi at h1 h3
  have e : spN S F = qcn (sprA (cX S (fT F)) (fC F)) (fC F).length := rfl
  have h5 := qcn_le (sprA (cX S (fT F)) (fC F)) (fC F).length
  rw [e]
  omega
theorem ivS_rdy {h : AH} {S : Cs} {n : Nat} (hI : IvS S n) (hG : CsG S) (hn : n ≤ 511) (hz : aZ h + 1000 ≤ aC h) (hu : aU h + 15100 ≤ gS) : Rdy h S := by
  refine ⟨hz, hu, fun t ht => ?_, fun a ha => ?_⟩
  · have h3 := hI.1 _ ht
    have h4 := (hG.1 _ ht).1.1
    unfold phi at h3
    omega
  · have := hI.2.1 a ha
    have := (hG.2.1 a ha).1
    omega
/-! ===== each call keeps it ===== -/
theorem iv_tx {S : Cs} {n t : Nat} {T : Tx} (hI : IvS S n) (hp : phi T ≤ 2 * (n + 1) + rn (xR T)) (hr : rn (xR (cX S t)) ≤ rn (xR T)) : (∀ t2, t2 < 3 → phi (cset (cX S) t T t2) ≤ 2 * (n + 1) + rn (xR (cset (cX S) t T t2))) ∧ (∀ t2, rn (xR (cX S t2)) ≤ rn (xR (cset (cX S) t T t2))) := by
  refine ⟨fun t2 ht2 => ?_, fun t2 => ?_⟩
  · unfold cset
    by_cases d : t2 = t
    · rw [if_pos d]; exact hp
    · rw [if_neg d]; have := hI.1 t2 ht2; omega
  · unfold cset
    by_cases d : t2 = t
    · rw [if_pos d, d]; exact hr
    · rw [if_neg d]; exact Nat.le_refl _
theorem iv_ac {S : Cs} {X : Nat → Tx} (hP : AcP S) (hr : ∀ t2, rn (xR (cX S t2)) ≤ rn (xR (X t2))) : ∀ j, j < 5 → ∀ x ∈ (cH S j).1, x.1 < 3 ∧ x.2.1 < rn (xR (X x.1)) := fun j hj x hx => by
  have := hP j hj x hx
  have := hr x.1
  exact ⟨(hP j hj x hx).1, by omega⟩
/-- a text's own step, the hands as they were -/
theorem iv_T {S : Cs} {n t : Nat} {T : Tx} {Fs : List Fm} {Q : List Sv} {N : Nat} (hI : IvS S n) (hp : phi T ≤ 2 * (n + 1) + rn (xR T)) (hr : rn (xR (cX S t)) ≤ rn (xR T)) (hF : ∀ F ∈ Fs, FmN (fC F)) : IvS (cset (cX S) t T, cH S, Fs, Q, N) (n + 1) := by
  have h := iv_tx hI hp hr
  exact ⟨h.1, fun a ha => by have : (cH S a).1.length ≤ n := hI.2.1 a ha; show (cH S a).1.length ≤ n + 1; omega, iv_ac (S := S) hI.2.2.1 h.2, hF⟩
/-- a text's own step, and an act more -/
theorem iv_TA {S : Cs} {n t a : Nat} {T : Tx} {x : Ac} (hI : IvS S n) (hG : CsG S) (ha : a < 5) (hp : phi T ≤ 2 * (n + 1) + rn (xR T)) (hr : rn (xR (cX S t)) ≤ rn (xR T)) (hx : x.1 < 3 ∧ x.2.1 < rn (xR (cset (cX S) t T x.1))) : IvS (cset (cX S) t T, cset (cH S) a ((cH S a).1.take (cH S a).2 ++ [x], (cH S a).2 + 1), cF S, cQ S, cN S) (n + 1) := by
  have h := iv_tx hI hp hr
  have hac := iv_ac hI.2.2.1 h.2
  refine ⟨h.1, fun j hj => ?_, fun j hj y hy => ?_, hI.2.2.2⟩
  · show (cset (cH S) a ((cH S a).1.take (cH S a).2 ++ [x], (cH S a).2 + 1) j).1.length ≤ n + 1
    unfold cset
    by_cases d : j = a
    · rw [if_pos d]
      show ((cH S a).1.take (cH S a).2 ++ [x]).length ≤ n + 1
      rw [List.length_append, List.length_take, List.length_singleton]
      have := hI.2.1 a ha
      omega
    · rw [if_neg d]
      have := hI.2.1 j hj
      omega
  · have hy' : y ∈ (cset (cH S) a ((cH S a).1.take (cH S a).2 ++ [x], (cH S a).2 + 1) j).1 := hy
    unfold cset at hy'
    by_cases d : j = a
    · rw [if_pos d] at hy'
      rcases List.mem_append.mp hy' with z | z
      · exact hac a ha y (List.mem_of_mem_take z)
      · rw [List.mem_singleton.mp z]; exact hx
    · rw [if_neg d] at hy'
      exact hac j hj y hy'
/-- a text's own step, and a hand's step -/
theorem iv_TH {S : Cs} {n t a st : Nat} {T : Tx} (hI : IvS S n) (ha : a < 5) (hp : phi T ≤ 2 * (n + 1) + rn (xR T)) (hr : rn (xR (cX S t)) ≤ rn (xR T)) : IvS (cset (cX S) t T, cset (cH S) a ((cH S a).1, st), cF S, cQ S, cN S) (n + 1) := by
  have h := iv_tx hI hp hr
  have hac := iv_ac hI.2.2.1 h.2
  refine ⟨h.1, fun j hj => ?_, fun j hj y hy => ?_, hI.2.2.2⟩
  · show (cset (cH S) a ((cH S a).1, st) j).1.length ≤ n + 1
    unfold cset
    by_cases d : j = a
    · rw [if_pos d]
      have := hI.2.1 a ha
      show (cH S a).1.length ≤ n + 1
      omega
    · rw [if_neg d]
      have := hI.2.1 j hj
      omega
  · have hy' : y ∈ (cset (cH S) a ((cH S a).1, st) j).1 := hy
    unfold cset at hy'
    by_cases d : j = a
    · rw [if_pos d] at hy'
      exact hac a ha y hy'
    · rw [if_neg d] at hy'
      exact hac j hj y hy'
theorem phi_tu {T : Tx} {l : Nat} {b : Bool} (hl : l < rn (xR T)) : phi (tuT T l b) ≤ phi T + 2 := by
  unfold tuT
  by_cases c : rt (xR T) l = b
  · rw [if_pos c]; omega
  · rw [if_neg c]
    cases b
    · rw [if_neg (show ¬ (false = true) by decide)]
      have : phi (xver (xgo T l)) = phi (xgo T l) := rfl
      rw [this, phi_go hl (by simpa using c)]; omega
    · rw [if_pos (show true = true from rfl)]
      have : phi (xver (xdo T (2, l, 0))) = phi (xdo T (2, l, 0)) := rfl
      rw [this, phi_back hl (by simpa using c)]; omega
theorem iv_ty {S : Cs} {n : Nat} {a b ch : Int} (hI : IvS S n) (hG : CsG S) : IvS (tyM S a b ch).2 (n + 1) := by
  unfold tyM
  by_cases hb : hOk a ∧ tOk b
  · rw [if_neg (show ¬ ¬ (hOk a ∧ tOk b) from fun z => z hb)]
    by_cases c1 : isLet ch = false
    · rw [if_pos c1]; exact ivS_mono hI (Nat.le_succ _)
    · rw [if_neg c1]
      by_cases c2 : 150 ≤ rn (xR (cX S b.toNat))
      · rw [if_pos c2]; exact ivS_mono hI (Nat.le_succ _)
      · rw [if_neg c2]
        have hb3 : b.toNat < 3 := by have := hb.2.1; have := hb.2.2; omega
        have ha5 : a.toNat < 5 := by have := hb.1.1; have := hb.1.2; omega
        have h1 := hI.1 _ hb3
        have h2 := phi_type (T := cX S b.toNat) (s := rpos (xR (cX S b.toNat)) (xC (cX S b.toNat) a.toNat)) (c := ch)
        have e1 : rn (xR (xver (xdo (cX S b.toNat) (0, rpos (xR (cX S b.toNat)) (xC (cX S b.toNat) a.toNat), ch)))) = rn (xR (cX S b.toNat)) + 1 := rfl
        have e2 : phi (xver (xdo (cX S b.toNat) (0, rpos (xR (cX S b.toNat)) (xC (cX S b.toNat) a.toNat), ch))) = phi (xdo (cX S b.toNat) (0, rpos (xR (cX S b.toNat)) (xC (cX S b.toNat) a.toNat), ch)) := rfl
        refine iv_TA hI hG ha5 (by omega) (by omega) ⟨hb3, ?_⟩
        show rn (xR (cX S b.toNat)) < rn (xR (if b.toNat = b.toNat then _ else _))
        rw [if_pos rfl, e1]; omega
  · rw [if_pos hb]; exact ivS_mono hI (Nat.le_succ _)
theorem iv_er {S : Cs} {n : Nat} {a b : Int} (hI : IvS S n) (hG : CsG S) : IvS (erM S a b).2 (n + 1) := by
  unfold erM
  by_cases hb : hOk a ∧ tOk b
  · rw [if_neg (show ¬ ¬ (hOk a ∧ tOk b) from fun z => z hb)]
    by_cases c1 : era (cX S b.toNat) a.toNat = 0
    · rw [if_pos c1]; exact ivS_mono hI (Nat.le_succ _)
    · rw [if_neg c1]
      have hb3 : b.toNat < 3 := by have := hb.2.1; have := hb.2.2; omega
      have ha5 : a.toNat < 5 := by have := hb.1.1; have := hb.1.2; omega
      have h1 := hI.1 _ hb3
      have hle := qpv_le (rf (xR (cX S b.toNat))) (rpos (xR (cX S b.toNat)) (xC (cX S b.toNat) a.toNat))
      have hp := rpos_le (xR (cX S b.toNat)) (xC (cX S b.toNat) a.toNat)
      have hera : era (cX S b.toNat) a.toNat = qpv (rf (xR (cX S b.toNat))) (rpos (xR (cX S b.toNat)) (xC (cX S b.toNat) a.toNat)) := rfl
      have his := qpv_is (rf (xR (cX S b.toNat))) (rpos (xR (cX S b.toNat)) (xC (cX S b.toNat) a.toNat)) (by rw [← hera]; exact c1)
      rw [← hera] at his
      have hl := ((hG.1 _ hb3).1.2.1 (era (cX S b.toNat) a.toNat - 1) (by omega)).1
      have h2 := phi_go hl his
      have e2 : phi (erT (cX S b.toNat) a.toNat) = phi (xgo (cX S b.toNat) (ro (xR (cX S b.toNat)) (era (cX S b.toNat) a.toNat - 1))) := rfl
      have e1 : rn (xR (erT (cX S b.toNat) a.toNat)) = rn (xR (cX S b.toNat)) := rfl
      refine iv_TA hI hG ha5 (by omega) (by omega) ⟨hb3, ?_⟩
      show ro (xR (cX S b.toNat)) (era (cX S b.toNat) a.toNat - 1) < rn (xR (if b.toNat = b.toNat then _ else _))
      rw [if_pos rfl, e1]; exact hl
  · rw [if_pos hb]; exact ivS_mono hI (Nat.le_succ _)
theorem iv_un {S : Cs} {n : Nat} {a : Int} (hI : IvS S n) (hG : CsG S) : IvS (unM S a).2 (n + 1) := by
  unfold unM
  by_cases ha : hOk a
  · rw [if_neg (show ¬ ¬ hOk a from fun z => z ha)]
    by_cases c1 : (cH S a.toNat).2 = 0
    · rw [if_pos c1]; exact ivS_mono hI (Nat.le_succ _)
    · rw [if_neg c1]
      have ha5 : a.toNat < 5 := by have := ha.1; have := ha.2; omega
      have gA := hG.2.1 _ ha5
      have hlt : (cH S a.toNat).2 - 1 < (cH S a.toNat).1.length := by omega
      have hx := hI.2.2.1 _ ha5 _ (List.getElem_mem hlt)
      rw [List.getElem?_eq_getElem hlt]
      generalize (cH S a.toNat).1[(cH S a.toNat).2 - 1] = x at hx
      have h1 := hI.1 _ hx.1
      have h2 := phi_tu (b := !x.2.2) hx.2
      have e1 := tuT_n (cX S x.1) x.2.1 (!x.2.2)
      exact iv_TH (t := x.1) (T := tuT (cX S x.1) x.2.1 (!x.2.2)) hI ha5 (by omega) (by omega)
  · rw [if_pos ha]; exact ivS_mono hI (Nat.le_succ _)
theorem iv_re {S : Cs} {n : Nat} {a : Int} (hI : IvS S n) (hG : CsG S) : IvS (reM S a).2 (n + 1) := by
  unfold reM
  by_cases ha : hOk a
  · rw [if_neg (show ¬ ¬ hOk a from fun z => z ha)]
    by_cases c1 : (cH S a.toNat).2 = (cH S a.toNat).1.length
    · rw [if_pos c1]; exact ivS_mono hI (Nat.le_succ _)
    · rw [if_neg c1]
      have ha5 : a.toNat < 5 := by have := ha.1; have := ha.2; omega
      have gA := hG.2.1 _ ha5
      have hlt : (cH S a.toNat).2 < (cH S a.toNat).1.length := by omega
      have hx := hI.2.2.1 _ ha5 _ (List.getElem_mem hlt)
      rw [List.getElem?_eq_getElem hlt]
      generalize (cH S a.toNat).1[(cH S a.toNat).2] = x at hx
      have h1 := hI.1 _ hx.1
      have h2 := phi_tu (b := x.2.2) hx.2
      have e1 := tuT_n (cX S x.1) x.2.1 x.2.2
      exact iv_TH (t := x.1) (T := tuT (cX S x.1) x.2.1 x.2.2) hI ha5 (by omega) (by omega)
  · rw [if_pos ha]; exact ivS_mono hI (Nat.le_succ _)
theorem iv_mv {S : Cs} {n : Nat} {a b p : Int} (hI : IvS S n) : IvS (mvM S a b p).2 (n + 1) := by
  unfold mvM
  by_cases hb : hOk a ∧ tOk b
  · rw [if_neg (show ¬ ¬ (hOk a ∧ tOk b) from fun z => z hb)]
    have hb3 : b.toNat < 3 := by have := hb.2.1; have := hb.2.2; omega
    have h1 := hI.1 _ hb3
    split
    · exact ivS_mono hI (Nat.le_succ _)
    · have e2 : phi (mvT (cX S b.toNat) a.toNat p) = phi (cX S b.toNat) := rfl
      have e1 : rn (xR (mvT (cX S b.toNat) a.toNat p)) = rn (xR (cX S b.toNat)) := rfl
      exact iv_T hI (by omega) (by omega) hI.2.2.2
  · rw [if_pos hb]; exact ivS_mono hI (Nat.le_succ _)
theorem iv_lo {S : Cs} {n : Nat} {a b : Int} (hI : IvS S n) : IvS (loM S a b).2 (n + 1) := by
  unfold loM
  by_cases hb : hOk a ∧ tOk b
  · rw [if_neg (show ¬ ¬ (hOk a ∧ tOk b) from fun z => z hb)]
    have hb3 : b.toNat < 3 := by have := hb.2.1; have := hb.2.2; omega
    have h1 := hI.1 _ hb3
    by_cases c : isFree (cX S b.toNat) a.toNat = false
    · rw [if_pos c]; exact ivS_mono hI (Nat.le_succ _)
    · rw [if_neg c]
      have e2 : phi (loT (cX S b.toNat) a.toNat) = phi (cX S b.toNat) := rfl
      have e1 : rn (xR (loT (cX S b.toNat) a.toNat)) = rn (xR (cX S b.toNat)) := rfl
      exact iv_T hI (by omega) (by omega) hI.2.2.2
  · rw [if_pos hb]; exact ivS_mono hI (Nat.le_succ _)
theorem iv_co {S : Cs} {n : Nat} {z : Int} (hI : IvS S n) (hG : CsG S) : IvS (coM S z).2 (n + 1) := by
  unfold coM
  by_cases hb : fOk S z
  · rw [if_neg (show ¬ ¬ fOk S z from fun w => w hb)]
    have hlt : z.toNat < (cF S).length := by have := hb.1; have := hb.2; omega
    have hm := List.getElem_mem hlt
    rw [List.getElem?_eq_getElem hlt]
    generalize (cF S)[z.toNat] = F at hm
    show IvS (if fS F = 0 then ((.ok (((fC F).length : Int) - (spN S F : Int)), (cset (cX S) (fT F) (coT S F), cH S, (cF S).set z.toNat (fT F, 1, fC F, (spN S F : Int)), cQ S, cN S)) : Out) else (.error 3, S)).2 (n + 1)
    by_cases c : fS F = 0
    · rw [if_pos c]
      have g := hG.2.2.1 F hm
      have h1 := hI.1 _ g.1.1
      have h2 := phi_cmT (hI.2.2.2 F hm) (T := cX S (fT F)) (fun k hk => g.2.2.2.2.2.2 k hk) (fC F).length (Nat.le_refl _)
      have e1 := coT_n S F
      have e2 : phi (coT S F) = phi (cX S (fT F)) := by
        unfold coT
        split
        · exact h2
        · exact h2
      refine iv_T hI (by omega) (by omega) fun G hG' => ?_
      rcases List.mem_or_eq_of_mem_set hG' with w | w
      · exact hI.2.2.2 G w
      · rw [w]; exact hI.2.2.2 F hm
    · rw [if_neg c]; exact ivS_mono hI (Nat.le_succ _)
  · rw [if_pos hb]; exact ivS_mono hI (Nat.le_succ _)
theorem iv_dr {S : Cs} {n : Nat} {z : Int} (hI : IvS S n) : IvS (drM S z).2 (n + 1) := by
  unfold drM
  by_cases hb : fOk S z
  · rw [if_neg (show ¬ ¬ fOk S z from fun w => w hb)]
    have hlt : z.toNat < (cF S).length := by have := hb.1; have := hb.2; omega
    have hm := List.getElem_mem hlt
    rw [List.getElem?_eq_getElem hlt]
    generalize (cF S)[z.toNat] = F at hm
    show IvS (if fS F = 0 then ((.ok ((fC F).length : Int), (cX S, cH S, (cF S).set z.toNat (fT F, 2, fC F, ((fC F).length : Int)), cQ S, cN S)) : Out) else (.error 3, S)).2 (n + 1)
    by_cases c : fS F = 0
    · rw [if_pos c]
      have h := ivS_mono hI (Nat.le_succ n)
      refine ⟨h.1, h.2.1, h.2.2.1, fun G hG' => ?_⟩
      rcases List.mem_or_eq_of_mem_set hG' with w | w
      · exact hI.2.2.2 G w
      · rw [w]; exact hI.2.2.2 F hm
    · rw [if_neg c]; exact ivS_mono hI (Nat.le_succ _)
  · rw [if_pos hb]; exact ivS_mono hI (Nat.le_succ _)
theorem iv_sv {S : Cs} {n : Nat} {a b z : Int} (hI : IvS S n) : IvS (svM S a b z).2 (n + 1) := by
  have h := ivS_mono hI (Nat.le_succ n)
  unfold svM
  split
  · exact h
  · split
    · exact h
    · split
      · exact h
      · exact ⟨h.1, h.2.1, h.2.2.1, h.2.2.2⟩
theorem iv_wr {S : Cs} {n : Nat} (hI : IvS S n) (hQ : ∀ i, i < (cQ S).length → (sv S i).2.2.1 < 3) : IvS (wrM S).2 (n + 1) := by
  unfold wrM wrR
  split
  · rename_i hlt
    have h1 := hI.1 _ (hQ _ hlt)
    have e2 : phi (xkeep (cX S (sv S (qfd (wok S) (cQ S).length 0)).2.2.1)) = phi (cX S (sv S (qfd (wok S) (cQ S).length 0)).2.2.1) := rfl
    have e1 : rn (xR (xkeep (cX S (sv S (qfd (wok S) (cQ S).length 0)).2.2.1))) = rn (xR (cX S (sv S (qfd (wok S) (cQ S).length 0)).2.2.1)) := rfl
    exact iv_T hI (by omega) (by omega) hI.2.2.2
  · exact ivS_mono hI (Nat.le_succ _)

