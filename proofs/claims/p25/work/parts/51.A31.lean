
/-! ===== a format is asked for ===== -/
def askOk (kd nb : Int) : Bool := if kd = 3 then decide (5 ≤ nb ∧ nb ≤ 40) else decide (0 ≤ kd ∧ kd ≤ 2 ∧ nb = 0)
theorem f_canBeAsked {h : AH} {kd nb : Int} (k1 : -2147483648 ≤ kd) (k2 : kd < 2147483648) (n1 : -2147483648 ≤ nb) (n2 : nb < 2147483648) : p_X10_canBeAsked (iI kd) (iI nb) h = some (bI (askOk kd nb), h) := by
  unfold p_X10_canBeAsked p_X10_canBeAsked_0 p_X10_canBeAsked_20 p_X10_canBeAsked_21 p_X10_canBeAsked_36 p_X10_canBeAsked_44 p_X10_canBeAsked_45 askOk
  simp (disch := omega) only [ck_t, nm_q, bR_s, j_add, j_sub, j_mul, j_nI, j_0, j_le, j_lt, j_eq, j_nat, j_ixe, bI_0, and_self, and_true, true_and, ne_eq, not_false_eq_true, not_true_eq_false, ite_true, ite_false, if_true, if_false, ck_p z_0, ck_p z_1]
  by_cases c : kd = 3
  · rw [if_pos c, if_pos c]
    by_cases d : 5 ≤ nb ∧ nb ≤ 40
    · rw [decide_eq_true d, if_neg (by omega), if_neg (by omega)]; rfl
    · rw [decide_eq_false d]
      by_cases e : nb < 5
      · rw [if_pos e]; rfl
      · rw [if_neg e, if_pos (by omega)]; rfl
  · rw [if_neg c, if_neg c]
    by_cases d : 0 ≤ kd ∧ kd ≤ 2 ∧ nb = 0
    · rw [decide_eq_true d]
      by_cases e0 : kd = 0
      · rw [if_pos e0, if_pos d.2.2]; rfl
      · rw [if_neg e0]
        by_cases e1 : kd = 1
        · rw [if_pos e1, if_pos d.2.2]; rfl
        · rw [if_neg e1, if_pos (by omega), if_pos d.2.2]; rfl
    · rw [decide_eq_false d]
      by_cases e0 : kd = 0
      · rw [if_pos e0, if_neg (by omega)]; rfl
      · rw [if_neg e0]
        by_cases e1 : kd = 1
        · rw [if_pos e1, if_neg (by omega)]; rfl
        · rw [if_neg e1]
          by_cases e2 : kd = 2
          · rw [if_pos e2, if_neg (by omega)]; rfl
          · rw [if_neg e2]; rfl
/-- the changes that a kind wants of a text -/
def askC (R : Rw) (kd nb : Int) : List Ch := chl (rsh R) (fun q => rs R (rsh R q)) (wAll kd nb (fun q => rs R (rsh R q)) (qcn (rf R) (rn R))) (chA R (gw (rsh R) (wAll kd nb (fun q => rs R (rsh R q)) (qcn (rf R) (rn R))) (qcn (rf R) (rn R))) (rsh R)) (chB R (gw (rsh R) (wAll kd nb (fun q => rs R (rsh R q)) (qcn (rf R) (rn R))) (qcn (rf R) (rn R))) (rsh R)) (qcn (rf R) (rn R))
theorem rsh_in {R : Rw} {q : Nat} (hq : q < qcn (rf R) (rn R)) : ∃ i, i < rn R ∧ rsh R q = ro R i ∧ rf R i = true ∧ qcn (rf R) i = q := by
  obtain ⟨i, h1, h2, h3⟩ := qcn_at _ hq
  refine ⟨i, h1, ?_, h2, h3⟩
  unfold rsh
  rw [← h3, rsel_cn h1 h2]
theorem chl_mem {Lt : Nat → Nat} {Sg Wn A B : Nat → Int} {m : Nat} {k : Ch} (h : k ∈ chl Lt Sg Wn A B m) : ∃ q, q < m ∧ Wn q ≠ 0 ∧ k = ((Lt q, Sg q, Wn q), A q, B q) := by
  induction m with
  | zero => exact nomatch h
  | succ m ih =>
    have e : chl Lt Sg Wn A B (m + 1) = if Wn m = 0 then chl Lt Sg Wn A B m else chl Lt Sg Wn A B m ++ [((Lt m, Sg m, Wn m), A m, B m)] := rfl
    rw [e] at h
    by_cases c : Wn m = 0
    · rw [if_pos c] at h
      obtain ⟨q, h1, h2, h3⟩ := ih h
      exact ⟨q, by omega, h2, h3⟩
    · rw [if_neg c] at h
      rcases List.mem_append.mp h with z | z
      · obtain ⟨q, h1, h2, h3⟩ := ih z
        exact ⟨q, by omega, h2, h3⟩
      · exact ⟨m, by omega, c, List.mem_singleton.mp z⟩

