
/-! ===== a format's changes are of letters of their own ===== -/
theorem crd_app1 {cs : List Ch} {k : Ch} {i : Nat} (hi : i < cs.length) : crd (cs ++ [k]) i = crd cs i := by
  unfold crd
  rw [List.getD_eq_getElem?_getD, List.getD_eq_getElem?_getD, List.getElem?_append_left hi]
theorem crd_app2 {cs : List Ch} {k : Ch} : crd (cs ++ [k]) cs.length = k := by
  unfold crd
  rw [List.getD_eq_getElem?_getD, List.getElem?_append_right (Nat.le_refl _), Nat.sub_self]; rfl
theorem chl_inj {Lt : Nat → Nat} {Sg Wn A B : Nat → Int} : ∀ m, (∀ i j, i < m → j < m → Lt i = Lt j → i = j) → ∀ i j, i < (chl Lt Sg Wn A B m).length → j < (chl Lt Sg Wn A B m).length → (crd (chl Lt Sg Wn A B m) i).1.1 = (crd (chl Lt Sg Wn A B m) j).1.1 → i = j := by
  intro m
  induction m with
  | zero => intro _ i j hi; exact absurd hi (Nat.not_lt_zero _)
  | succ m ih =>
    intro hL
    have h1 := ih fun i j hi hj => hL i j (by omega) (by omega)
    have e : chl Lt Sg Wn A B (m + 1) = if Wn m = 0 then chl Lt Sg Wn A B m else chl Lt Sg Wn A B m ++ [((Lt m, Sg m, Wn m), A m, B m)] := rfl
    rw [e]
    by_cases c : Wn m = 0
    · rw [if_pos c]; exact h1
    · rw [if_neg c]
      have old : ∀ i, i < (chl Lt Sg Wn A B m).length → (crd (chl Lt Sg Wn A B m) i).1.1 ≠ Lt m := by
        intro i hi ec
        obtain ⟨q, q1, q2, q3⟩ := chl_mem (crd_mem hi)
        rw [q3] at ec
        have := hL q m (by omega) (by omega) ec
        omega
      intro i j hi hj he
      rw [List.length_append, List.length_singleton] at hi hj
      by_cases ci : i < (chl Lt Sg Wn A B m).length
      · rw [crd_app1 ci] at he
        by_cases cj : j < (chl Lt Sg Wn A B m).length
        · rw [crd_app1 cj] at he; exact h1 i j ci cj he
        · rw [show j = (chl Lt Sg Wn A B m).length by omega, crd_app2] at he
          exact absurd he (old i ci)
      · by_cases cj : j < (chl Lt Sg Wn A B m).length
        · rw [crd_app1 cj, show i = (chl Lt Sg Wn A B m).length by omega, crd_app2] at he
          exact absurd he.symm (old j cj)
        · omega
theorem rsh_inj {R : Rw} (hG : RwG R) {i j : Nat} (hi : i < qcn (rf R) (rn R)) (hj : j < qcn (rf R) (rn R)) (e : rsh R i = rsh R j) : i = j := by
  obtain ⟨a, a1, a2, a3, a4⟩ := rsh_in hi
  obtain ⟨b, b1, b2, b3, b4⟩ := rsh_in hj
  rw [a2, b2] at e
  have := hG.2.2.1 a b a1 b1 e
  rw [← a4, ← b4, this]
/-- what is marked is a space -/
theorem wst_sp (Sg : Nat → Int) (w : Int) (i : Nat) : (wst Sg w i).2 = -1 ∨ (0 ≤ (wst Sg w i).2 ∧ Sg (wst Sg w i).2.toNat = 32) := by
  induction i with
  | zero => exact Or.inl rfl
  | succ i ih =>
    rw [wst_s]
    by_cases c1 : Sg i = 47
    · rw [if_pos c1]; exact Or.inl rfl
    · rw [if_neg c1]
      by_cases c2 : (i : Int) - (wst Sg w i).1 = w ∧ 0 ≤ (if Sg i = 32 then (i : Int) else (wst Sg w i).2)
      · rw [if_pos c2]; exact Or.inl rfl
      · rw [if_neg c2]
        by_cases c3 : Sg i = 32
        · simp only [if_pos c3]; exact Or.inr ⟨by omega, c3⟩
        · simp only [if_neg c3]; exact ih
theorem wmk_sp (Sg : Nat → Int) (w : Int) {i q : Nat} (h : (q : Int) = wmk Sg w i) : Sg q = 32 := by
  unfold wmk at h
  split at h
  · omega
  · split at h
    · split at h
      · rename_i c
        have : q = i := by omega
        rw [this]; exact c
      · rcases wst_sp Sg w i with z | z
        · omega
        · rw [← h] at z; exact z.2
    · omega
theorem wAll_so {kd nb : Int} {Sg : Nat → Int} {m q : Nat} (hw : wAll kd nb Sg m q ≠ 0) (h1 : wAll kd nb Sg m q ≠ 1) : soft (Sg q) = true ∧ soft (wAll kd nb Sg m q) = false := by
  unfold wAll at hw h1 ⊢
  by_cases c0 : kd = 0
  · simp only [if_pos c0] at hw h1
    unfold wSp at hw h1
    split at hw
    · rename_i c; rw [if_pos c] at h1; exact absurd rfl h1
    · exact absurd rfl hw
  · simp only [if_neg c0] at hw h1 ⊢
    by_cases c1 : kd = 1
    · simp only [if_pos c1] at hw h1
      unfold wEn at hw h1
      split at hw
      · rename_i c; rw [if_pos c] at h1; exact absurd rfl h1
      · exact absurd rfl hw
    · simp only [if_neg c1] at hw h1 ⊢
      by_cases c2 : kd = 2
      · simp only [if_pos c2] at hw h1 ⊢
        unfold wCa at hw h1 ⊢
        split at hw
        · rename_i c
          rw [if_pos c]
          unfold soft
          exact ⟨decide_eq_true (by omega), decide_eq_false (by omega)⟩
        · exact absurd rfl hw
      · simp only [if_neg c2] at hw h1 ⊢
        rcases wWr_or Sg nb m q with ⟨z1, z2⟩ | ⟨z1, i, z2, z3⟩
        · exact absurd z1 hw
        · rw [z1, wmk_sp Sg nb z3]
          exact ⟨rfl, rfl⟩
theorem fmN_ask {R : Rw} (hG : RwG R) (kd nb : Int) : FmN (askC R kd nb) := by
  refine ⟨chl_inj _ fun i j hi hj e => rsh_inj hG hi hj e, fun k hk hw => ?_⟩
  obtain ⟨q, h1, h2, h3⟩ := chl_mem hk
  subst h3
  exact wAll_so h2 hw
theorem iv_as {S : Cs} {n : Nat} {b kd nb : Int} (hI : IvS S n) (hG : CsG S) : IvS (asM S b kd nb).2 (n + 1) := by
  have h := ivS_mono hI (Nat.le_succ n)
  unfold asM
  by_cases hb : tOk b
  · rw [if_neg (show ¬ ¬ tOk b from fun z => z hb)]
    have hb3 : b.toNat < 3 := by have := hb.1; have := hb.2; omega
    split
    · exact h
    · split
      · exact h
      · refine ⟨h.1, h.2.1, h.2.2.1, fun F hF => ?_⟩
        rcases List.mem_append.mp hF with z | z
        · exact hI.2.2.2 F z
        · rw [List.mem_singleton.mp z]
          exact fmN_ask (hG.1 _ hb3).1 kd nb
  · rw [if_pos hb]; exact h
/-- the beginning -/
def T0 : Tx := (r0, fun _ => -1, [], 0, -1, iI (-1), 0, fun _ => 0)
def S0 : Cs := (fun _ => T0, fun _ => ([], 0), [], [], 0)
theorem iv_0 : IvS S0 0 := ⟨fun t _ => Nat.le_refl 0, fun a _ => Nat.le_refl 0, fun j _ x hx => (by cases hx), fun F hF => (by cases hF)⟩

