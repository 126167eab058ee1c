
/-! ===== what a format does to a text ===== -/
theorem cm_ro (T : Tx) (cs : List Ch) (sp : Nat → Bool) (q : Nat) : ro (xR (cmT T cs sp q)) = ro (xR T) ∧ xV (cmT T cs sp q) = xV T ∧ xW (cmT T cs sp q) = xW T := by
  induction q with
  | zero => exact ⟨rfl, rfl, rfl⟩
  | succ q ih =>
    rw [cmT_s]
    by_cases c : sp q = true
    · rw [if_pos c]; exact ih
    · rw [if_neg c]
      by_cases d : (crd cs q).1.2.2 = 1
      · rw [if_pos d]; exact ih
      · rw [if_neg d]; exact ih
def Dst (cs : List Ch) : Prop := ∀ i j, i < cs.length → j < cs.length → (crd cs i).1.1 = (crd cs j).1.1 → i = j
theorem cm_at {T : Tx} {cs : List Ch} {sp : Nat → Bool} (hN : Dst cs) {x : Nat} (hx : sp x = false) : ∀ q, x < q → q ≤ cs.length → rt (xR (cmT T cs sp q)) (crd cs x).1.1 = (if (crd cs x).1.2.2 = 1 then false else rt (xR T) (crd cs x).1.1) ∧ rs (xR (cmT T cs sp q)) (crd cs x).1.1 = (if (crd cs x).1.2.2 = 1 then rs (xR T) (crd cs x).1.1 else (crd cs x).1.2.2) := by
  intro q
  induction q with
  | zero => intro h; omega
  | succ q ih =>
    intro h1 h2
    by_cases e : x = q
    · subst e
      have hat := cmT_at T cs sp (crd cs x).1.1 x fun k hk e => by have := hN k x (by omega) (by omega) e; omega
      rw [cmT_s, if_neg (by rw [hx]; decide)]
      by_cases d : (crd cs x).1.2.2 = 1
      · rw [if_pos d, if_pos d, if_pos d]
        exact ⟨if_pos rfl, hat.2⟩
      · rw [if_neg d, if_neg d, if_neg d]
        exact ⟨hat.1, if_pos rfl⟩
    · have hi := ih (by omega) (by omega)
      have hne : (crd cs x).1.1 ≠ (crd cs q).1.1 := fun z => e (hN x q (by omega) (by omega) z)
      rw [cmT_s]
      by_cases c : sp q = true
      · rw [if_pos c]; exact hi
      · rw [if_neg c]
        by_cases d : (crd cs q).1.2.2 = 1
        · rw [if_pos d]
          refine ⟨?_, hi.2⟩
          rw [← hi.1]
          exact if_neg hne
        · rw [if_neg d]
          refine ⟨hi.1, ?_⟩
          rw [← hi.2]
          exact if_neg hne
/-! how many letters go -/
def gcn (cs : List Ch) (sp : Nat → Bool) : Nat → Nat := qcn (fun x => !sp x && decide ((crd cs x).1.2.2 = 1))
theorem rf_off2 {R : Rw} {i l : Nat} (hl : l = ro R i) (hinj : ∀ j, j < rn R → ro R j = ro R i → j = i) {b : Bool} : ∀ j, j < rn R → rf (rsetT R l b) j = if j = i then b else rf R j := by
  intro j hj
  show (if ro R j = l then b else rt R (ro R j)) = _
  by_cases d : j = i
  · rw [if_pos d, if_pos (by rw [d, hl])]
  · rw [if_neg d, if_neg (fun z => d (hinj j hj (by rw [z, hl])))]; rfl
theorem cm_len {T : Tx} {cs : List Ch} (hG : RwG (xR T)) (hN : Dst cs) (hlt : ∀ k ∈ cs, k.1.1 < rn (xR T)) : ∀ q, q ≤ cs.length → vLn (cmT T cs (sprA T cs) q) + gcn cs (sprA T cs) q = vLn T := by
  intro q
  induction q with
  | zero => intro _; rfl
  | succ q ih =>
    intro hq
    have h1 := ih (by omega)
    have hm := crd_mem (cs := cs) (q := q) (by omega)
    have hl := hlt _ hm
    have hn := (cmT_n T cs (sprA T cs) q).1
    have ho := (cm_ro T cs (sprA T cs) q).1
    have eg : gcn cs (sprA T cs) (q + 1) = gcn cs (sprA T cs) q + (if (!sprA T cs q && decide ((crd cs q).1.2.2 = 1)) = true then 1 else 0) := rfl
    rw [cmT_s, eg]
    by_cases c : sprA T cs q = true
    · rw [if_pos c, c, if_neg (by simp)]; exact h1
    · have c' : sprA T cs q = false := by simpa using c
      rw [if_neg c, c']
      by_cases d : (crd cs q).1.2.2 = 1
      · rw [if_pos d, if_pos (by rw [decide_eq_true d]; rfl)]
        have hat := cmT_at T cs (sprA T cs) (crd cs q).1.1 q fun k hk e => by have := hN k q (by omega) (by omega) e; omega
        have ht : rt (xR T) (crd cs q).1.1 = true := by
          unfold sprA spr sprB at c'
          rw [Bool.or_eq_false_iff, Bool.or_eq_false_iff] at c'
          have := c'.1; simpa using this
        obtain ⟨i, i1, i2⟩ := hG.2.2.2 _ hl
        have e1 : vLn (xgo (cmT T cs (sprA T cs) q) (crd cs q).1.1) = qcn (fun x => if x = i then false else rf (xR (cmT T cs (sprA T cs) q)) x) (rn (xR (cmT T cs (sprA T cs) q))) := by
          refine qcn_eq fun j hj => rf_off2 (by rw [ho]; exact i2.symm) (fun j hj z => ?_) j hj
          rw [ho] at z
          exact hG.2.2.1 j i (by omega) i1 z
        have hfi : rf (xR (cmT T cs (sprA T cs) q)) i = true := by
          unfold rf
          rw [ho, i2, hat.1]; exact ht
        have e2 := qcn_set (f := rf (xR (cmT T cs (sprA T cs) q))) (l := i) (k := rn (xR (cmT T cs (sprA T cs) q))) (b := false) (by omega)
        rw [hfi, if_pos (show true = true from rfl), if_neg (show ¬ false = true by decide)] at e2
        have e3 : vLn (cmT T cs (sprA T cs) q) = qcn (rf (xR (cmT T cs (sprA T cs) q))) (rn (xR (cmT T cs (sprA T cs) q))) := rfl
        rw [e1]
        omega
      · rw [if_neg d, if_neg (by rw [decide_eq_false d]; decide)]
        exact h1
theorem gcn_all {cs : List Ch} {sp : Nat → Bool} (h : ∀ k ∈ cs, k.1.2.2 = 1) : ∀ q, q ≤ cs.length → gcn cs sp q + qcn sp q = q := by
  intro q
  induction q with
  | zero => intro _; rfl
  | succ q ih =>
    intro hq
    have h1 := ih (by omega)
    have h2 := h _ (crd_mem (cs := cs) (q := q) (by omega))
    have eg : gcn cs sp (q + 1) = gcn cs sp q + (if (!sp q && decide ((crd cs q).1.2.2 = 1)) = true then 1 else 0) := rfl
    rw [eg, qcn_s, decide_eq_true h2]
    cases sp q <;> simp <;> omega
theorem gcn_none {cs : List Ch} {sp : Nat → Bool} (h : ∀ k ∈ cs, k.1.2.2 ≠ 1) : ∀ q, q ≤ cs.length → gcn cs sp q = 0 := by
  intro q
  induction q with
  | zero => intro _; rfl
  | succ q ih =>
    intro hq
    have h1 := ih (by omega)
    have h2 := h _ (crd_mem (cs := cs) (q := q) (by omega))
    have eg : gcn cs sp (q + 1) = gcn cs sp q + (if (!sp q && decide ((crd cs q).1.2.2 = 1)) = true then 1 else 0) := rfl
    rw [eg, decide_eq_false h2, h1, Bool.and_false]
    rfl
/-- a format that comes: length and version -/
theorem co_facts {S : Cs} {F : Fm} (hG : RwG (xR (cX S (fT F)))) (hN : Dst (fC F)) (hlt : ∀ k ∈ fC F, k.1.1 < rn (xR (cX S (fT F)))) : spN S F ≤ (fC F).length ∧ ((∀ k ∈ fC F, k.1.2.2 = 1) → vLn (coT S F) + ((fC F).length - spN S F) = vLn (cX S (fT F))) ∧ ((∀ k ∈ fC F, k.1.2.2 ≠ 1) → vLn (coT S F) = vLn (cX S (fT F))) ∧ xV (coT S F) = (if spN S F < (fC F).length then xV (cX S (fT F)) + iI 1 else xV (cX S (fT F))) ∧ xW (coT S F) = xW (cX S (fT F)) := by
  have es : spN S F = qcn (sprA (cX S (fT F)) (fC F)) (fC F).length := rfl
  have hle := qcn_le (sprA (cX S (fT F)) (fC F)) (fC F).length
  have hc := cm_len (T := cX S (fT F)) hG hN hlt (fC F).length (Nat.le_refl _)
  have ho := cm_ro (cX S (fT F)) (fC F) (sprA (cX S (fT F)) (fC F)) (fC F).length
  have ev : vLn (coT S F) = vLn (cmT (cX S (fT F)) (fC F) (sprA (cX S (fT F)) (fC F)) (fC F).length) := by
    unfold coT
    split <;> rfl
  refine ⟨by omega, fun h => ?_, fun h => ?_, ?_, ?_⟩
  · have := gcn_all (sp := sprA (cX S (fT F)) (fC F)) h (fC F).length (Nat.le_refl _)
    rw [ev]; omega
  · have := gcn_none (sp := sprA (cX S (fT F)) (fC F)) h (fC F).length (Nat.le_refl _)
    rw [ev]; omega
  · unfold coT
    rw [es]
    by_cases d : qcn (sprA (cX S (fT F)) (fC F)) (fC F).length < (fC F).length
    · rw [if_pos d, if_pos d]
      show xV (cmT _ _ _ _) + iI 1 = _
      rw [ho.2.1]
    · rw [if_neg d, if_neg d]; exact ho.2.1
  · unfold coT
    split
    · exact ho.2.2
    · exact ho.2.2
/-! what is asked -/
theorem chl_in {Lt : Nat → Nat} {Sg Wn A B : Nat → Int} {m q : Nat} (hq : q < m) (hw : Wn q ≠ 0) : ((Lt q, Sg q, Wn q), A q, B q) ∈ chl Lt Sg Wn A B m := by
  induction m with
  | zero => omega
  | succ m ih =>
    have e : chl Lt Sg Wn A B (m + 1) = if Wn m = 0 then chl Lt Sg Wn A B m else chl Lt Sg Wn A B m ++ [((Lt m, Sg m, Wn m), A m, B m)] := rfl
    rw [e]
    by_cases d : q = m
    · subst d
      rw [if_neg hw]
      exact List.mem_append_right _ (List.mem_singleton.mpr rfl)
    · have := ih (by omega)
      split
      · exact this
      · exact List.mem_append_left _ this
/-- the signs shown, and what is wanted of them -/
def sgn (T : Tx) (q : Nat) : Int := rs (xR T) (rsh (xR T) q)
def wn (T : Tx) (kd nb : Int) : Nat → Int := wAll kd nb (sgn T) (vLn T)
theorem sgn_vLe {T : Tx} {q : Nat} (hq : q < vLn T) : vLe T q = sgn T q := if_pos hq
def askd (T : Tx) (kd nb : Int) : List Ch := askC (xR T) kd nb
theorem askd_eq (T : Tx) (kd nb : Int) : askd T kd nb = chl (rsh (xR T)) (sgn T) (wn T kd nb) (chA (xR T) (gw (rsh (xR T)) (wn T kd nb) (vLn T)) (rsh (xR T))) (chB (xR T) (gw (rsh (xR T)) (wn T kd nb) (vLn T)) (rsh (xR T))) (vLn T) := rfl
theorem askd_mem {T : Tx} {kd nb : Int} {k : Ch} (h : k ∈ askd T kd nb) : ∃ q, q < vLn T ∧ wn T kd nb q ≠ 0 ∧ k.1.1 = rsh (xR T) q ∧ k.1.2.1 = sgn T q ∧ k.1.2.2 = wn T kd nb q ∧ k.2.1 = chA (xR T) (gw (rsh (xR T)) (wn T kd nb) (vLn T)) (rsh (xR T)) q ∧ k.2.2 = chB (xR T) (gw (rsh (xR T)) (wn T kd nb) (vLn T)) (rsh (xR T)) q := by
  rw [askd_eq] at h
  obtain ⟨q, h1, h2, h3⟩ := chl_mem h
  subst h3
  exact ⟨q, h1, h2, rfl, rfl, rfl, rfl, rfl⟩
theorem wn_01 {T : Tx} {kd nb : Int} (h : kd = 0 ∨ kd = 1) (q : Nat) : wn T kd nb q = 0 ∨ wn T kd nb q = 1 := by
  unfold wn wAll
  rcases h with h | h
  · rw [if_pos h]
    unfold wSp
    split
    · exact Or.inr rfl
    · exact Or.inl rfl
  · rw [if_neg (by omega), if_pos h]
    unfold wEn
    split
    · exact Or.inr rfl
    · exact Or.inl rfl
theorem wn_23 {T : Tx} {kd nb : Int} (h : kd = 2 ∨ kd = 3) (q : Nat) : wn T kd nb q ≠ 1 := by
  unfold wn wAll
  rcases h with h | h
  · rw [if_neg (by omega), if_neg (by omega), if_pos h]
    unfold wCa
    split
    · rename_i z; omega
    · omega
  · rw [if_neg (by omega), if_neg (by omega), if_neg (by omega)]
    rcases wWr_or (sgn T) nb (vLn T) q with ⟨z1, -⟩ | ⟨z1, -⟩ <;> rw [z1] <;> decide
theorem askd_01 {T : Tx} {kd nb : Int} (h : kd = 0 ∨ kd = 1) : ∀ k ∈ askd T kd nb, k.1.2.2 = 1 := by
  intro k hk
  obtain ⟨q, h1, h2, -, -, h5, -⟩ := askd_mem hk
  rcases wn_01 (T := T) (nb := nb) h q with z | z
  · exact absurd z h2
  · rw [h5, z]
theorem askd_23 {T : Tx} {kd nb : Int} (h : kd = 2 ∨ kd = 3) : ∀ k ∈ askd T kd nb, k.1.2.2 ≠ 1 := by
  intro k hk
  obtain ⟨q, h1, h2, -, -, h5, -⟩ := askd_mem hk
  rw [h5]
  exact wn_23 h q
theorem askd_dst {T : Tx} {kd nb : Int} (hG : RwG (xR T)) : Dst (askd T kd nb) := (fmN_ask hG kd nb).1
theorem askd_lt {T : Tx} {kd nb : Int} (hG : RwG (xR T)) : ∀ k ∈ askd T kd nb, k.1.1 < rn (xR T) := by
  intro k hk
  obtain ⟨q, h1, -, h3, -⟩ := askd_mem hk
  obtain ⟨i, i1, i2, -⟩ := rsh_in (R := xR T) h1
  rw [h3, i2]
  exact (hG.2.1 i i1).1
/-- as it stands when asked, a format spares but the letters that go and have a cursor -/
theorem askd_spr {T : Tx} {kd nb : Int} {q : Nat} (hq : q < (askd T kd nb).length) (hw : (crd (askd T kd nb) q).1.2.2 ≠ 1) : sprA T (askd T kd nb) q = false := by
  obtain ⟨p, h1, h2, h3, h4, h5, h6, h7⟩ := askd_mem (crd_mem hq)
  obtain ⟨i, i1, i2, i3, -⟩ := rsh_in (R := xR T) h1
  have hg : gw (rsh (xR T)) (wn T kd nb) (vLn T) = goL (askd T kd nb) := by
    funext l
    rw [askd_eq]
    exact gw_goL _ _ _ _ _ _ _
  have ht : rt (xR T) (crd (askd T kd nb) q).1.1 = true := by rw [h3, i2]; exact i3
  unfold sprA spr sprB
  rw [ht, h6, h7, hg]
  unfold chA chB
  rw [h3, h4]
  unfold sgn
  rw [decide_eq_false hw]
  simp
theorem askd_sp0 {T : Tx} {kd nb : Int} (h : kd = 2 ∨ kd = 3) : qcn (sprA T (askd T kd nb)) (askd T kd nb).length = 0 := by
  have : ∀ q, q ≤ (askd T kd nb).length → qcn (sprA T (askd T kd nb)) q = 0 := by
    intro q
    induction q with
    | zero => intro _; rfl
    | succ q ih =>
      intro hq
      rw [qcn_s, ih (by omega), askd_spr (by omega) (askd_23 h _ (crd_mem (by omega)))]
      rfl
  exact this _ (Nat.le_refl _)
