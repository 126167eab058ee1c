
/-! ===== what a text shows, before and behind an act ===== -/
def shk (R : Rw) : Nat → List Nat
  | 0 => []
  | i + 1 => if rf R i = true then shk R i ++ [ro R i] else shk R i
theorem shk_s (R : Rw) (i : Nat) : shk R (i + 1) = if rf R i = true then shk R i ++ [ro R i] else shk R i := rfl
theorem shk_len (R : Rw) (k : Nat) : (shk R k).length = qcn (rf R) k := by
  induction k with
  | zero => rfl
  | succ k ih =>
    rw [shk_s, qcn_s]
    by_cases c : rf R k = true
    · rw [if_pos c, if_pos c, List.length_append, List.length_singleton, ih]
    · rw [if_neg c, if_neg c, ih]; rfl
theorem shk_at {R : Rw} {k i : Nat} (hi : i < k) (hf : rf R i = true) : (shk R k)[qcn (rf R) i]? = some (ro R i) := by
  induction k with
  | zero => omega
  | succ k ih =>
    rw [shk_s]
    by_cases d : i = k
    · subst d
      rw [if_pos hf, List.getElem?_append_right (by rw [shk_len]; exact Nat.le_refl _), shk_len, Nat.sub_self]
      rfl
    · have h1 := ih (by omega)
      have h2 := qcn_lt (rf R) (i := i) (k := k) (by omega) hf
      by_cases c : rf R k = true
      · rw [if_pos c, List.getElem?_append_left (by rw [shk_len]; exact h2)]; exact h1
      · rw [if_neg c]; exact h1
theorem shk_rsh {R : Rw} {p : Nat} (hp : p < qcn (rf R) (rn R)) : (shk R (rn R))[p]? = some (rsh R p) := by
  obtain ⟨i, h1, h2, h3, h4⟩ := rsh_in hp
  rw [h2, ← h4]
  exact shk_at h1 h3
theorem shk_mem {R : Rw} {k l : Nat} (h : l ∈ shk R k) : ∃ i, i < k ∧ l = ro R i ∧ rf R i = true := by
  induction k with
  | zero => cases h
  | succ k ih =>
    rw [shk_s] at h
    by_cases c : rf R k = true
    · rw [if_pos c] at h
      rcases List.mem_append.mp h with z | z
      · obtain ⟨i, h1, h2⟩ := ih z
        exact ⟨i, by omega, h2⟩
      · exact ⟨k, by omega, List.mem_singleton.mp z, c⟩
    · rw [if_neg c] at h
      obtain ⟨i, h1, h2⟩ := ih h
      exact ⟨i, by omega, h2⟩
/-- two texts that show the same -/
def SameL (T T' : Tx) : Prop := vLn T = vLn T' ∧ ∀ p, p < vLn T → vLe T p = vLe T' p
theorem sameL_R {T T' : Tx} (h : xR T = xR T') : SameL T T' := by
  unfold SameL vLe vLn
  rw [h]
  exact ⟨rfl, fun _ _ => rfl⟩
theorem sameL_sh {T T' : Tx} (h1 : shk (xR T) (rn (xR T)) = shk (xR T') (rn (xR T'))) (h2 : ∀ l ∈ shk (xR T') (rn (xR T')), rs (xR T) l = rs (xR T') l) : SameL T T' := by
  have e : vLn T = vLn T' := by
    unfold vLn
    rw [← shk_len, ← shk_len, h1]
  refine ⟨e, fun p hp => ?_⟩
  have hp' : p < vLn T' := by omega
  unfold vLe
  rw [if_pos hp, if_pos hp']
  have a1 := shk_rsh (R := xR T) hp
  have a2 := shk_rsh (R := xR T') hp'
  rw [h1, a2] at a1
  have a3 : rsh (xR T') p = rsh (xR T) p := Option.some.inj a1
  rw [← a3]
  exact h2 _ (List.mem_of_getElem? a2)
/-! typing -/
section TY
variable {R : Rw} {s : Nat} {ch : Int}
theorem ro_put (i : Nat) : ro (rput R s ch) i = if i < s then ro R i else if i = s then rn R else ro R (i - 1) := rfl
theorem rt_put (l : Nat) : rt (rput R s ch) l = if l = rn R then true else rt R l := rfl
theorem rf_put1 (hro : ∀ i, i < rn R → ro R i < rn R) (hs : s ≤ rn R) {i : Nat} (hi : i < s) : rf (rput R s ch) i = rf R i := by
  have := hro i (by omega)
  unfold rf
  rw [ro_put, if_pos hi, rt_put, if_neg (by omega)]
theorem rf_put2 : rf (rput R s ch) s = true := by
  unfold rf
  rw [ro_put, if_neg (Nat.lt_irrefl _), if_pos rfl, rt_put, if_pos rfl]
theorem rf_put3 (hro : ∀ i, i < rn R → ro R i < rn R) {i : Nat} (h1 : s ≤ i) (h2 : i < rn R) : rf (rput R s ch) (i + 1) = rf R i := by
  have := hro i h2
  unfold rf
  rw [ro_put, if_neg (by omega), if_neg (by omega), Nat.add_sub_cancel, rt_put, if_neg (by omega)]
theorem qcn_put1 (hro : ∀ i, i < rn R → ro R i < rn R) (hs : s ≤ rn R) {k : Nat} (hk : k ≤ s) : qcn (rf (rput R s ch)) k = qcn (rf R) k := qcn_eq fun _ hi => rf_put1 hro hs (by omega)
theorem qcn_put2 (hro : ∀ i, i < rn R → ro R i < rn R) (hs : s ≤ rn R) : ∀ k, s ≤ k → k ≤ rn R → qcn (rf (rput R s ch)) (k + 1) = qcn (rf R) k + 1 := by
  intro k
  induction k with
  | zero =>
    intro h1 _
    have e : s = 0 := by omega
    subst e
    rw [qcn_s, rf_put2]; rfl
  | succ k ih =>
    intro h1 h2
    by_cases d : s = k + 1
    · subst d
      rw [qcn_s, rf_put2, qcn_put1 hro hs (Nat.le_refl _)]; rfl
    · rw [qcn_s, ih (by omega) (by omega), rf_put3 hro (by omega) (by omega), qcn_s]
      omega
theorem rpos_put {z : Int} (hz : z < rn R) (hs : s = rpos R z) : rpos (rput R s ch) z = s + 1 := by
  have hle := rpos_le R z
  have en : rn (rput R s ch) = rn R + 1 := rfl
  have es : s = qfd (fun j => decide ((ro R j : Int) = z)) (rn R) 0 := hs
  show qfd (fun j => decide ((ro (rput R s ch) j : Int) = z)) (rn (rput R s ch)) 0 = s + 1
  refine qfd_un (Nat.zero_le _) (by rw [en]; omega) (fun q _ hq => ?_) (fun h => ?_)
  · show decide ((ro (rput R s ch) q : Int) = z) = false
    rw [ro_put]
    by_cases d : q < s
    · rw [if_pos d]
      exact qfd_no (fun j => decide ((ro R j : Int) = z)) (rn R) 0 (Nat.zero_le _) (by rw [← es]; exact d)
    · rw [if_neg d, if_pos (by omega)]
      exact decide_eq_false (by omega)
  · rw [en] at h
    have h1 := qfd_is (fun j => decide ((ro R j : Int) = z)) (rn R) 0 (by rw [← es]; omega)
    rw [← es] at h1
    show decide ((ro (rput R s ch) (s + 1) : Int) = z) = true
    rw [ro_put, if_neg (by omega), if_neg (by omega), Nat.add_sub_cancel]
    exact h1
theorem shk_unput (hro : ∀ i, i < rn R → ro R i < rn R) (hs : s ≤ rn R) : shk (rsetT (rput R s ch) (rn R) false) (rn R + 1) = shk R (rn R) := by
  have e1 : ∀ i, i < s → rf (rsetT (rput R s ch) (rn R) false) i = rf R i ∧ ro (rsetT (rput R s ch) (rn R) false) i = ro R i := by
    intro i hi
    have := hro i (by omega)
    have eo : ro (rsetT (rput R s ch) (rn R) false) i = ro R i := by show ro (rput R s ch) i = _; rw [ro_put, if_pos hi]
    refine ⟨?_, eo⟩
    unfold rf
    rw [eo]
    show (if ro R i = rn R then false else rt (rput R s ch) (ro R i)) = _
    rw [if_neg (by omega), rt_put, if_neg (by omega)]
  have e2 : rf (rsetT (rput R s ch) (rn R) false) s = false := by
    have eo : ro (rsetT (rput R s ch) (rn R) false) s = rn R := by show ro (rput R s ch) s = _; rw [ro_put, if_neg (Nat.lt_irrefl _), if_pos rfl]
    unfold rf
    rw [eo]
    exact if_pos rfl
  have e3 : ∀ i, s ≤ i → i < rn R → rf (rsetT (rput R s ch) (rn R) false) (i + 1) = rf R i ∧ ro (rsetT (rput R s ch) (rn R) false) (i + 1) = ro R i := by
    intro i h1 h2
    have := hro i h2
    have eo : ro (rsetT (rput R s ch) (rn R) false) (i + 1) = ro R i := by show ro (rput R s ch) (i + 1) = _; rw [ro_put, if_neg (by omega), if_neg (by omega), Nat.add_sub_cancel]
    refine ⟨?_, eo⟩
    unfold rf
    rw [eo]
    show (if ro R i = rn R then false else rt (rput R s ch) (ro R i)) = _
    rw [if_neg (by omega), rt_put, if_neg (by omega)]
  have a : ∀ k, k ≤ s → shk (rsetT (rput R s ch) (rn R) false) k = shk R k := by
    intro k
    induction k with
    | zero => intro _; rfl
    | succ k ih =>
      intro hk
      rw [shk_s, shk_s, (e1 k (by omega)).1, (e1 k (by omega)).2, ih (by omega)]
  have b : ∀ k, s ≤ k → k ≤ rn R → shk (rsetT (rput R s ch) (rn R) false) (k + 1) = shk R k := by
    intro k
    induction k with
    | zero =>
      intro h1 _
      have e : s = 0 := by omega
      rw [shk_s]
      rw [e] at e2
      rw [if_neg (by rw [e] at *; rw [e2]; decide), a 0 (Nat.zero_le _)]
    | succ k ih =>
      intro h1 h2
      by_cases d : s = k + 1
      · rw [shk_s, ← d, e2, if_neg (by decide), a s (Nat.le_refl _)]
      · rw [shk_s, (e3 k (by omega) (by omega)).1, (e3 k (by omega) (by omega)).2, ih (by omega) (by omega), shk_s]
  exact b (rn R) hs (Nat.le_refl _)
end TY
theorem rsetT_back {R : Rw} {l : Nat} {b : Bool} (h : rt R l = b) : rsetT (rsetT R l (!b)) l b = R := by
  unfold rsetT
  refine Prod.ext rfl (Prod.ext rfl (Prod.ext rfl ?_))
  funext x
  show (if x = l then b else if x = l then !b else rt R x) = rt R x
  by_cases d : x = l
  · rw [if_pos d, d, h]
  · rw [if_neg d, if_neg d]
/-- typing: what is told and shown -/
theorem ty_facts {T : Tx} {a : Nat} {ch : Int} (hG : TxG T) (ha : a < 5) : cpl (tyT T a ch) a = cpl T a + 1 ∧ vLn (tyT T a ch) = vLn T + 1 ∧ vLe (tyT T a ch) (cpl T a) = ch ∧ xV (tyT T a ch) = xV T + iI 1 := by
  have hro : ∀ i, i < rn (xR T) → ro (xR T) i < rn (xR T) := fun i hi => (hG.1.2.1 i hi).1
  have hs := rpos_le (xR T) (xC T a)
  have hz := (hG.2.1 a ha).2
  have eR : xR (tyT T a ch) = rput (xR T) (rpos (xR T) (xC T a)) ch := rfl
  have eC : xC (tyT T a ch) a = xC T a := rfl
  have e1 : vLn (tyT T a ch) = vLn T + 1 := by
    unfold vLn
    rw [eR]
    exact qcn_put2 hro hs (rn (xR T)) hs (Nat.le_refl _)
  have hle : cpl T a ≤ vLn T := qcn_mono _ hs
  refine ⟨?_, e1, ?_, rfl⟩
  · unfold cpl
    rw [eR, eC, rpos_put hz rfl]
    exact qcn_put2 hro hs _ (Nat.le_refl _) hs
  · unfold vLe
    rw [if_pos (by omega), eR]
    have h1 : rsel (rput (xR T) (rpos (xR T) (xC T a)) ch) (cpl T a) (rn (rput (xR T) (rpos (xR T) (xC T a)) ch)) 0 = rpos (xR T) (xC T a) := by
      have := rsel_cn (R := rput (xR T) (rpos (xR T) (xC T a)) ch) (i := rpos (xR T) (xC T a)) (by show _ < rn (xR T) + 1; omega) rf_put2
      rw [qcn_put1 hro hs (Nat.le_refl _)] at this
      exact this
    unfold rsh
    rw [h1, ro_put, if_neg (Nat.lt_irrefl _), if_pos rfl]
    exact if_pos rfl
theorem tuT_go {T : Tx} {l : Nat} (h : rt (xR T) l = true) : tuT T l false = xver (xgo T l) := by
  unfold tuT
  rw [if_neg (by rw [h]; decide), if_neg (by decide)]
theorem tuT_back {T : Tx} {l : Nat} (h : rt (xR T) l = false) : tuT T l true = xver (xdo T (2, l, 0)) := by
  unfold tuT
  rw [if_neg (by rw [h]; decide), if_pos rfl]
/-- typed, undone, redone -/
theorem ty_undo {T : Tx} {a : Nat} {ch : Int} (hG : TxG T) (ha : a < 5) : SameL (tuT (tyT T a ch) (rn (xR T)) false) T ∧ xV (tuT (tyT T a ch) (rn (xR T)) false) = xV T + iI 1 + iI 1 ∧ vLe (tuT (tuT (tyT T a ch) (rn (xR T)) false) (rn (xR T)) true) (cpl T a) = ch ∧ xV (tuT (tuT (tyT T a ch) (rn (xR T)) false) (rn (xR T)) true) = xV T + iI 1 + iI 1 + iI 1 := by
  have hro : ∀ i, i < rn (xR T) → ro (xR T) i < rn (xR T) := fun i hi => (hG.1.2.1 i hi).1
  have hs := rpos_le (xR T) (xC T a)
  have eR : xR (tyT T a ch) = rput (xR T) (rpos (xR T) (xC T a)) ch := rfl
  have t1 : rt (xR (tyT T a ch)) (rn (xR T)) = true := if_pos rfl
  have e2 := tuT_go t1
  have eR2 : xR (tuT (tyT T a ch) (rn (xR T)) false) = rsetT (xR (tyT T a ch)) (rn (xR T)) false := by rw [e2]; rfl
  have t2 : rt (xR (tuT (tyT T a ch) (rn (xR T)) false)) (rn (xR T)) = false := by rw [eR2]; exact if_pos rfl
  have e3 := tuT_back t2
  have v2 : xV (tuT (tyT T a ch) (rn (xR T)) false) = xV T + iI 1 + iI 1 := by rw [e2]; rfl
  have eR3 : xR (tuT (tuT (tyT T a ch) (rn (xR T)) false) (rn (xR T)) true) = xR (tyT T a ch) := by
    rw [e3]
    show rsetT (xR (tuT (tyT T a ch) (rn (xR T)) false)) (rn (xR T)) true = _
    rw [eR2]
    exact rsetT_back (b := true) t1
  refine ⟨?_, v2, ?_, ?_⟩
  · have en : rn (xR (tuT (tyT T a ch) (rn (xR T)) false)) = rn (xR T) + 1 := by rw [eR2]; rfl
    refine sameL_sh ?_ (fun l hl => ?_)
    · rw [en, eR2, eR]
      exact shk_unput hro hs
    · obtain ⟨i, h1, h2, -⟩ := shk_mem hl
      have := hro i h1
      rw [eR2, eR]
      show (if l = rn (xR T) then ch else rs (xR T) l) = _
      rw [if_neg (by omega)]
  · have := (ty_facts (ch := ch) hG ha).2.2.1
    unfold vLe vLn at this ⊢
    rw [eR3]; exact this
  · rw [e3]
    show xV (tuT (tyT T a ch) (rn (xR T)) false) + iI 1 = _
    rw [v2]
/-! erasing -/
theorem rf_off {R : Rw} (hG : RwG R) {i l : Nat} (hi : i < rn R) (hl : l = ro R i) {b : Bool} : ∀ j, j < rn R → rf (rsetT R l b) j = if j = i then b else rf R j := by
  intro j hj
  show (if ro R j = l then b else rt R (ro R j)) = _
  by_cases d : j = i
  · rw [if_pos d, if_pos (by rw [d, hl])]
  · rw [if_neg d, if_neg (fun z => d (hG.2.2.1 j i hj hi (by rw [z, hl])))]; rfl
theorem qcn_off {R : Rw} (hG : RwG R) {i l k : Nat} (hi : i < rn R) (hl : l = ro R i) (hk : k ≤ rn R) {b : Bool} : qcn (rf (rsetT R l b)) k = qcn (fun x => if x = i then b else rf R x) k := qcn_eq fun j hj => rf_off hG hi hl j (by omega)
theorem er_facts {T : Tx} {a : Nat} (hG : TxG T) (ha : a < 5) (h0 : era T a ≠ 0) : era T a - 1 < rn (xR T) ∧ rt (xR T) (ro (xR T) (era T a - 1)) = true ∧ xC T a ≠ ro (xR T) (era T a - 1) ∧ cpl (erT T a) a + 1 = cpl T a ∧ vLn (erT T a) + 1 = vLn T ∧ xV (erT T a) = xV T + iI 1 := by
  have hs := rpos_le (xR T) (xC T a)
  have hee : era T a = qpv (rf (xR T)) (rpos (xR T) (xC T a)) := rfl
  have hle := qpv_le (rf (xR T)) (rpos (xR T) (xC T a))
  have his := qpv_is (rf (xR T)) (rpos (xR T) (xC T a)) (by rw [← hee]; exact h0)
  rw [← hee] at hle his
  have hi : era T a - 1 < rn (xR T) := by omega
  have hne : xC T a ≠ ro (xR T) (era T a - 1) := by
    intro z
    have h1 := rpos_ro hG.1.2.2 hi
    rw [← z] at h1
    omega
  have eR : xR (erT T a) = rsetT (xR T) (ro (xR T) (era T a - 1)) false := rfl
  have eC : xC (erT T a) a = xC T a := if_neg hne
  have q1 := fun k (hk : k ≤ rn (xR T)) => qcn_off (b := false) hG.1 hi rfl hk
  refine ⟨hi, his, hne, ?_, ?_, rfl⟩
  · unfold cpl
    rw [eC, eR]
    show qcn (rf (rsetT (xR T) (ro (xR T) (era T a - 1)) false)) (rpos (xR T) (xC T a)) + 1 = _
    rw [q1 _ hs]
    have := qcn_set (f := rf (xR T)) (l := era T a - 1) (k := rpos (xR T) (xC T a)) (b := false) (by omega)
    rw [his] at this
    simpa using this
  · unfold vLn
    rw [eR]
    show qcn (rf (rsetT (xR T) (ro (xR T) (era T a - 1)) false)) (rn (xR T)) + 1 = _
    rw [q1 _ (Nat.le_refl _)]
    have := qcn_set (f := rf (xR T)) (l := era T a - 1) (k := rn (xR T)) (b := false) hi
    rw [his] at this
    simpa using this
theorem er_undo {T : Tx} {a l : Nat} (hG : TxG T) (ha : a < 5) (h0 : era T a ≠ 0) (hl : l = ro (xR T) (era T a - 1)) : xR (tuT (erT T a) l true) = xR T ∧ cpl (tuT (erT T a) l true) a = cpl T a ∧ xV (tuT (erT T a) l true) = xV T + iI 1 + iI 1 ∧ vLn (tuT (tuT (erT T a) l true) l false) = vLn (erT T a) ∧ xV (tuT (tuT (erT T a) l true) l false) = xV T + iI 1 + iI 1 + iI 1 := by
  obtain ⟨f1, f2, f3, f4, f5, f6⟩ := er_facts hG ha h0
  rw [← hl] at f2 f3
  have eR : xR (erT T a) = rsetT (xR T) l false := by rw [hl]; rfl
  have t1 : rt (xR (erT T a)) l = false := by rw [eR]; exact if_pos rfl
  have e2 := tuT_back t1
  have eR2 : xR (tuT (erT T a) l true) = xR T := by
    rw [e2]
    show rsetT (xR (erT T a)) l true = _
    rw [eR]
    exact rsetT_back (b := true) f2
  have eC2 : xC (tuT (erT T a) l true) a = xC T a := by
    rw [e2]
    show xC (erT T a) a = _
    show (if xC T a = ((ro (xR T) (era T a - 1) : Nat) : Int) then _ else xC T a) = _
    rw [← hl, if_neg f3]
  have t2 : rt (xR (tuT (erT T a) l true)) l = true := by rw [eR2]; exact f2
  have e3 := tuT_go t2
  have v2 : xV (tuT (erT T a) l true) = xV T + iI 1 + iI 1 := by rw [e2]; rfl
  refine ⟨eR2, ?_, v2, ?_, ?_⟩
  · unfold cpl
    rw [eR2, eC2]
  · have : xR (tuT (tuT (erT T a) l true) l false) = xR (erT T a) := by
      rw [e3]
      show rsetT (xR (tuT (erT T a) l true)) l false = _
      rw [eR2, eR]
    unfold vLn
    rw [this]
  · rw [e3]
    show xV (tuT (erT T a) l true) + iI 1 = _
    rw [v2]
theorem er_none {T : Tx} {a : Nat} : (era T a = 0) = (cpl T a = 0) := qcn_pv0 _ _
/-! moving -/
theorem mv_place {T : Tx} {a p : Nat} (hG : TxG T) (hp : p ≤ vLn T) : cpl (mvT T a p) a = p := by
  have eC : xC (mvT T a p) a = rl (xR T) (rsel (xR T) p (rn (xR T)) 0) := if_pos rfl
  have eR : xR (mvT T a p) = xR T := rfl
  unfold cpl
  rw [eC, eR]
  by_cases c : p < vLn T
  · obtain ⟨i, h1, h2, h3⟩ := qcn_at _ c
    rw [← h3, rsel_cn h1 h2]
    have : rl (xR T) i = ro (xR T) i := if_pos h1
    rw [this, rpos_ro hG.1.2.2 h1]
  · have h1 : ¬ rsel (xR T) p (rn (xR T)) 0 < rn (xR T) := fun z => c (rsel_lt.mp z)
    have : rl (xR T) (rsel (xR T) p (rn (xR T)) 0) = -1 := if_neg h1
    rw [this]
    have h2 : rpos (xR T) (-1) = rn (xR T) := by
      refine qfd_un (Nat.zero_le _) (by omega) (fun q _ _ => decide_eq_false (by omega)) (fun z => by omega)
    rw [h2]
    have : vLn T = qcn (rf (xR T)) (rn (xR T)) := rfl
    omega
theorem cpl_rg {T : Tx} {a : Nat} : cpl T a ≤ vLn T := qcn_mono _ (rpos_le _ _)
theorem vLn_le {T : Tx} : vLn T ≤ rn (xR T) := qcn_le _ _
theorem tu_v (T : Tx) (l : Nat) (b : Bool) : (xV (tuT T l b) = xV T ∨ xV (tuT T l b) = xV T + iI 1) ∧ xW (tuT T l b) = xW T := by
  unfold tuT
  split
  · exact ⟨Or.inl rfl, rfl⟩
  · split
    · exact ⟨Or.inr rfl, rfl⟩
    · exact ⟨Or.inr rfl, rfl⟩
