
/-! ===== a format that comes at once, and spares nothing, leaves a text clean ===== -/
section CLN
variable {T : Tx} {kd nb : Int}
/-- the text when all that was asked is done -/
def dnT (T : Tx) (kd nb : Int) : Tx := cmT T (askd T kd nb) (sprA T (askd T kd nb)) (askd T kd nb).length
theorem dn_ch (hG : RwG (xR T)) (h0 : qcn (sprA T (askd T kd nb)) (askd T kd nb).length = 0) {q : Nat} (hq : q < vLn T) (hw : wn T kd nb q ≠ 0) : rt (xR (dnT T kd nb)) (rsh (xR T) q) = (if wn T kd nb q = 1 then false else rt (xR T) (rsh (xR T) q)) ∧ rs (xR (dnT T kd nb)) (rsh (xR T) q) = (if wn T kd nb q = 1 then rs (xR T) (rsh (xR T) q) else wn T kd nb q) := by
  have hm := chl_in (Lt := rsh (xR T)) (Sg := sgn T) (A := chA (xR T) (gw (rsh (xR T)) (wn T kd nb) (vLn T)) (rsh (xR T))) (B := chB (xR T) (gw (rsh (xR T)) (wn T kd nb) (vLn T)) (rsh (xR T))) hq hw
  rw [← askd_eq] at hm
  obtain ⟨x, hx, ex⟩ := List.getElem_of_mem hm
  have ec : crd (askd T kd nb) x = ((rsh (xR T) q, sgn T q, wn T kd nb q), chA (xR T) (gw (rsh (xR T)) (wn T kd nb) (vLn T)) (rsh (xR T)) q, chB (xR T) (gw (rsh (xR T)) (wn T kd nb) (vLn T)) (rsh (xR T)) q) := by
    have := crd_at hx
    rw [List.getElem?_eq_getElem hx, ex] at this
    exact (Option.some.inj this).symm
  have hs : sprA T (askd T kd nb) x = false := by
    cases hc : sprA T (askd T kd nb) x with
    | false => rfl
    | true =>
      have := qcn_lt (sprA T (askd T kd nb)) hx hc
      omega
  have := cm_at (T := T) (askd_dst hG) hs (askd T kd nb).length hx (Nat.le_refl _)
  rw [ec] at this
  exact this
theorem dn_no {l : Nat} (h : ∀ k ∈ askd T kd nb, k.1.1 ≠ l) : rt (xR (dnT T kd nb)) l = rt (xR T) l ∧ rs (xR (dnT T kd nb)) l = rs (xR T) l := cmT_at T _ _ l _ fun k hk => h _ (crd_mem hk)
theorem dn_keep (hG : RwG (xR T)) {q : Nat} (hq : q < vLn T) (hw : wn T kd nb q = 0) : rt (xR (dnT T kd nb)) (rsh (xR T) q) = rt (xR T) (rsh (xR T) q) ∧ rs (xR (dnT T kd nb)) (rsh (xR T) q) = sgn T q := by
  refine dn_no fun k hk e => ?_
  obtain ⟨p, h1, h2, h3, -⟩ := askd_mem hk
  rw [h3] at e
  have := rsh_inj hG h1 hq e
  rw [this] at h2
  exact h2 hw
theorem dn_ro : ro (xR (dnT T kd nb)) = ro (xR T) := (cm_ro _ _ _ _).1
theorem dn_rn : rn (xR (dnT T kd nb)) = rn (xR T) := (cmT_n _ _ _ _).1
/-- kinds that change letters: the places stay -/
theorem dn_23 (hG : RwG (xR T)) (h0 : qcn (sprA T (askd T kd nb)) (askd T kd nb).length = 0) (hk : kd = 2 ∨ kd = 3) : vLn (dnT T kd nb) = vLn T ∧ ∀ q, q < vLn T → vLe (dnT T kd nb) q = if wn T kd nb q = 0 then sgn T q else wn T kd nb q := by
  have hrt : ∀ l, l < rn (xR T) → rt (xR (dnT T kd nb)) l = rt (xR T) l := by
    intro l hl
    by_cases c : ∃ k ∈ askd T kd nb, k.1.1 = l
    · obtain ⟨k, hk1, hk2⟩ := c
      obtain ⟨p, h1, h2, h3, -⟩ := askd_mem hk1
      have := (dn_ch hG h0 h1 h2).1
      rw [if_neg (wn_23 hk p)] at this
      rw [← hk2, h3]; exact this
    · exact (dn_no fun k hk1 z => c ⟨k, hk1, z⟩).1
  have hrf : ∀ i, i < rn (xR T) → rf (xR (dnT T kd nb)) i = rf (xR T) i := by
    intro i hi
    unfold rf
    rw [dn_ro, hrt _ (hG.2.1 i hi).1]
  have ev : vLn (dnT T kd nb) = vLn T := by
    unfold vLn
    rw [dn_rn]
    exact qcn_eq hrf
  refine ⟨ev, fun q hq => ?_⟩
  have er : rsh (xR (dnT T kd nb)) q = rsh (xR T) q := by
    obtain ⟨i, i1, i2, i3, i4⟩ := rsh_in (R := xR T) hq
    have e1 : rf (xR (dnT T kd nb)) i = true := by rw [hrf i i1]; exact i3
    have e2 : qcn (rf (xR (dnT T kd nb))) i = q := by rw [← i4]; exact qcn_eq fun j hj => hrf j (by omega)
    have e3 := rsel_cn (R := xR (dnT T kd nb)) (i := i) (by rw [dn_rn]; exact i1) e1
    rw [e2] at e3
    unfold rsh
    rw [e3, dn_ro]
    have e4 := rsel_cn i1 i3
    rw [i4] at e4
    rw [e4]
  unfold vLe
  rw [if_pos (by omega), er]
  by_cases c : wn T kd nb q = 0
  · rw [if_pos c]; exact (dn_keep hG hq c).2
  · rw [if_neg c, (dn_ch hG h0 hq c).2, if_neg (wn_23 hk q)]
/-- kinds that let letters go: what is kept, in its order -/
def kp (T : Tx) (kd nb : Int) (q : Nat) : Bool := decide (wn T kd nb q = 0)
theorem dn_01 (hG : RwG (xR T)) (h0 : qcn (sprA T (askd T kd nb)) (askd T kd nb).length = 0) (hk : kd = 0 ∨ kd = 1) : vLn (dnT T kd nb) = qcn (kp T kd nb) (vLn T) ∧ ∀ q, q < vLn T → kp T kd nb q = true → vLe (dnT T kd nb) (qcn (kp T kd nb) q) = sgn T q := by
  have hrf : ∀ i, i < rn (xR T) → rf (xR (dnT T kd nb)) i = (rf (xR T) i && kp T kd nb (qcn (rf (xR T)) i)) := by
    intro i hi
    by_cases c : rf (xR T) i = true
    · have hq : qcn (rf (xR T)) i < vLn T := qcn_lt (rf (xR T)) hi c
      have er : rsh (xR T) (qcn (rf (xR T)) i) = ro (xR T) i := by unfold rsh; rw [rsel_cn hi c]
      have e0 : rf (xR (dnT T kd nb)) i = rt (xR (dnT T kd nb)) (rsh (xR T) (qcn (rf (xR T)) i)) := by unfold rf at *; rw [dn_ro, er]
      rw [c, Bool.true_and, e0]
      unfold kp
      by_cases d : wn T kd nb (qcn (rf (xR T)) i) = 0
      · rw [decide_eq_true d, (dn_keep hG hq d).1, er]; exact c
      · rw [decide_eq_false d, (dn_ch hG h0 hq d).1]
        rcases wn_01 (T := T) (nb := nb) hk (qcn (rf (xR T)) i) with z | z
        · exact absurd z d
        · rw [if_pos z]
    · have c' : rf (xR T) i = false := by simpa using c
      rw [c', Bool.false_and]
      have := (dn_no (T := T) (kd := kd) (nb := nb) (l := ro (xR T) i) fun k hk1 e => by
        obtain ⟨p, h1, h2, h3, -⟩ := askd_mem hk1
        obtain ⟨j, j1, j2, j3, -⟩ := rsh_in (R := xR T) h1
        rw [h3, j2] at e
        have := hG.2.2.1 j i j1 hi e
        rw [this] at j3
        exact c j3).1
      unfold rf at *
      rw [dn_ro, this]; exact c'
  have hqc : ∀ i, i ≤ rn (xR T) → qcn (rf (xR (dnT T kd nb))) i = qcn (kp T kd nb) (qcn (rf (xR T)) i) := by
    intro i
    induction i with
    | zero => intro _; rfl
    | succ i ih =>
      intro hi
      rw [qcn_s, qcn_s, ih (by omega), hrf i (by omega)]
      by_cases c : rf (xR T) i = true
      · rw [c, Bool.true_and, if_pos rfl, qcn_s]
      · have c' : rf (xR T) i = false := by simpa using c
        rw [c', Bool.false_and]
        simp
  have ev : vLn (dnT T kd nb) = qcn (kp T kd nb) (vLn T) := by
    unfold vLn
    rw [dn_rn]
    exact hqc _ (Nat.le_refl _)
  refine ⟨ev, fun q hq hkq => ?_⟩
  obtain ⟨i, i1, i2, i3, i4⟩ := rsh_in (R := xR T) hq
  have f1 : rf (xR (dnT T kd nb)) i = true := by rw [hrf i i1, i3, i4, hkq]; rfl
  have f2 : qcn (rf (xR (dnT T kd nb))) i = qcn (kp T kd nb) q := by rw [hqc i (by omega), i4]
  have f3 := rsel_cn (R := xR (dnT T kd nb)) (i := i) (by rw [dn_rn]; exact i1) f1
  rw [f2] at f3
  have f4 := qcn_lt (kp T kd nb) hq hkq
  unfold vLe
  rw [if_pos (by omega)]
  have er : rsh (xR (dnT T kd nb)) (qcn (kp T kd nb) q) = rsh (xR T) q := by
    show ro (xR (dnT T kd nb)) (rsel (xR (dnT T kd nb)) ((qcn (kp T kd nb) q : Nat) : Int) (rn (xR (dnT T kd nb))) 0) = _
    rw [f3, dn_ro, i2]
  rw [er]
  exact (dn_keep hG hq (of_decide_eq_true hkq)).2
theorem wn_0 (h : kd = 0) (q : Nat) : wn T kd nb q = wSp (sgn T) q := by
  unfold wn wAll; rw [if_pos h]
theorem wn_1 (h : kd = 1) (q : Nat) : wn T kd nb q = wEn (sgn T) (vLn T) q := by
  unfold wn wAll; rw [if_neg (by omega), if_pos h]
theorem wn_2 (h : kd = 2) (q : Nat) : wn T kd nb q = wCa (sgn T) q := by
  unfold wn wAll; rw [if_neg (by omega), if_neg (by omega), if_pos h]
theorem wn_3 (h : kd = 3) (q : Nat) : wn T kd nb q = wWr (sgn T) nb (vLn T) q := by
  unfold wn wAll; rw [if_neg (by omega), if_neg (by omega), if_neg (by omega)]
theorem kp_at {f : Nat → Bool} {m k : Nat} (hk : k < qcn f m) : ∃ q, q < m ∧ f q = true ∧ qcn f q = k := qcn_at f hk
theorem clean_0 (hG : RwG (xR T)) (h0 : qcn (sprA T (askd T kd nb)) (askd T kd nb).length = 0) (h : kd = 0) : CleanP (vLe (dnT T kd nb)) (vLn (dnT T kd nb)) kd nb := by
  obtain ⟨e1, e2⟩ := dn_01 hG h0 (Or.inl h)
  intro k hk
  refine ⟨?_, by omega, by omega, by omega⟩
  rintro ⟨-, z1, z2⟩
  unfold ltf at z1
  unfold bff at z2
  by_cases c : k = vLn (dnT T kd nb)
  · rw [if_pos c] at z1; omega
  · rw [if_neg c] at z1
    by_cases d : k = 0
    · rw [if_pos d] at z2; omega
    · rw [if_neg d] at z2
      obtain ⟨q, q1, q2, q3⟩ := kp_at (f := kp T kd nb) (m := vLn T) (k := k) (by omega)
      have f1 := e2 q q1 q2
      rw [q3, z1] at f1
      have w1 := of_decide_eq_true q2
      rw [wn_0 h] at w1
      have q0 : q ≠ 0 := by
        intro z
        rw [z] at q3
        exact d q3.symm
      have n1 : sgn T (q - 1) ≠ 32 := by
        intro z
        unfold wSp at w1
        rw [if_pos ⟨by omega, f1.symm, z⟩] at w1
        omega
      have k1 : kp T kd nb (q - 1) = true := by
        unfold kp
        refine decide_eq_true ?_
        rw [wn_0 h]
        unfold wSp
        rw [if_neg (fun z => n1 z.2.1)]
      have q4 : qcn (kp T kd nb) q = qcn (kp T kd nb) (q - 1) + 1 := by
        have := qcn_s (kp T kd nb) (q - 1)
        rw [show q - 1 + 1 = q by omega, k1] at this
        simpa using this
      have f2 := e2 (q - 1) (by omega) k1
      rw [show qcn (kp T kd nb) (q - 1) = k - 1 by omega, z2] at f2
      exact n1 f2.symm
theorem clean_1 (hG : RwG (xR T)) (h0 : qcn (sprA T (askd T kd nb)) (askd T kd nb).length = 0) (h : kd = 1) : CleanP (vLe (dnT T kd nb)) (vLn (dnT T kd nb)) kd nb := by
  obtain ⟨e1, e2⟩ := dn_01 hG h0 (Or.inr h)
  intro k hk
  refine ⟨by omega, ?_, by omega, by omega⟩
  rintro ⟨-, z1, z2⟩
  unfold bff at z2
  by_cases d : k = 0
  · rw [if_pos d] at z2; omega
  · rw [if_neg d] at z2
    obtain ⟨q, q1, q2, q3⟩ := kp_at (f := kp T kd nb) (m := vLn T) (k := k - 1) (by omega)
    have f1 := e2 q q1 q2
    rw [q3, z2] at f1
    have w1 := of_decide_eq_true q2
    rw [wn_1 h] at w1
    have o1 : osf (sgn T) (vLn T) q = false := by
      cases ho : osf (sgn T) (vLn T) q with
      | false => rfl
      | true =>
        unfold wEn at w1
        rw [if_pos ⟨f1.symm, ho⟩] at w1
        omega
    have o2 := osf_s (sgn T) q1
    rw [if_pos f1.symm, o1] at o2
    have q5 : q + 1 < vLn T := by
      rcases Nat.lt_or_ge (q + 1) (vLn T) with z | z
      · exact z
      · rw [show q + 1 = vLn T by omega, osf_end] at o2
        exact absurd o2 (by decide)
    have k1 : kp T kd nb (q + 1) = true := by
      unfold kp
      refine decide_eq_true ?_
      rw [wn_1 h]
      unfold wEn
      rw [if_neg (fun z => by rw [← o2] at z; exact absurd z.2 (by decide))]
    have q4 : qcn (kp T kd nb) (q + 1) = k := by
      rw [qcn_s, q3, q2]
      simp only [if_true]
      omega
    have f2 := e2 (q + 1) q5 k1
    rw [q4] at f2
    have f3 := qcn_lt (kp T kd nb) q5 k1
    unfold ltf at z1
    rw [if_neg (by omega), f2] at z1
    have o3 := osf_s (sgn T) q5
    rw [if_neg (by omega), ← o2, decide_eq_true z1] at o3
    exact absurd o3 (by decide)
theorem clean_2 (hG : RwG (xR T)) (h0 : qcn (sprA T (askd T kd nb)) (askd T kd nb).length = 0) (h : kd = 2) : CleanP (vLe (dnT T kd nb)) (vLn (dnT T kd nb)) kd nb := by
  obtain ⟨e1, e2⟩ := dn_23 hG h0 (Or.inl h)
  intro k hk
  refine ⟨by omega, by omega, ?_, by omega⟩
  rintro ⟨-, c0, z2, z3, z4⟩
  have c : k ≠ vLn (dnT T kd nb) := fun z => c0 (by rw [z])
  unfold ltf at z3 z4
  unfold bff at z2
  rw [if_neg c] at z3 z4
  rw [e2 k (by omega)] at z3 z4
  have w := wn_2 (T := T) (nb := nb) h k
  unfold wCa at w
  by_cases a : (k = 0 ∨ sgn T (k - 1) = 47) ∧ 97 ≤ sgn T k ∧ sgn T k ≤ 122
  · rw [if_pos a] at w
    rw [if_neg (by omega)] at z3 z4
    omega
  · rw [if_neg a] at w
    rw [if_pos w] at z3 z4
    by_cases d : k = 0
    · exact a ⟨Or.inl d, z3, z4⟩
    · rw [if_neg d, e2 (k - 1) (by omega)] at z2
      have w' := wn_2 (T := T) (nb := nb) h (k - 1)
      unfold wCa at w'
      by_cases a' : (k - 1 = 0 ∨ sgn T (k - 1 - 1) = 47) ∧ 97 ≤ sgn T (k - 1) ∧ sgn T (k - 1) ≤ 122
      · rw [if_pos a'] at w'
        rw [if_neg (by omega)] at z2
        omega
      · rw [if_neg a'] at w'
        rw [if_pos w'] at z2
        exact a ⟨Or.inr z2, z3, z4⟩
/-! lines -/
theorem wmk_le (Sg : Nat → Int) (w : Int) (i : Nat) : wmk Sg w i ≤ i := by
  have := wst_rg Sg w i
  unfold wmk
  split
  · omega
  · split
    · split <;> omega
    · omega
theorem wmk_ge (Sg : Nat → Int) (w : Int) (i : Nat) (h : 0 ≤ wmk Sg w i) : (i : Int) - (wst Sg w i).1 = w := by
  unfold wmk at h
  split at h
  · omega
  · split at h
    · rename_i z; exact z
    · omega
/-- the line that is being looked at, at i -/
theorem wst_iv (Sg : Nat → Int) (w : Int) (i : Nat) : (∀ q : Nat, (wst Sg w i).1 ≤ q → q < i → Sg q ≠ 47 ∧ ∀ j, j < i → wmk Sg w j ≠ q) ∧ ((∀ q : Nat, (wst Sg w i).1 ≤ q → (wst Sg w i).2 < q → q < i → Sg q ≠ 32) ∧ ((wst Sg w i).2 = -1 ∨ (wst Sg w i).1 ≤ (wst Sg w i).2)) ∧ ((wst Sg w i).1 = 0 ∨ Sg ((wst Sg w i).1 - 1).toNat = 47 ∨ ∃ j, j < i ∧ wmk Sg w j = (wst Sg w i).1 - 1) := by
  induction i with
  | zero => exact ⟨fun q _ h => by omega, ⟨fun q _ _ h => by omega, Or.inl rfl⟩, Or.inl rfl⟩
  | succ i ih =>
    have rg := wst_rg Sg w i
    obtain ⟨b, ⟨c1, c2⟩, e⟩ := ih
    have em : wmk Sg w i = if Sg i = 47 then -1 else if (i : Int) - (wst Sg w i).1 = w then (if Sg i = 32 then (i : Int) else (wst Sg w i).2) else -1 := rfl
    rw [wst_s]
    generalize (wst Sg w i).1 = s at *
    generalize (wst Sg w i).2 = p at *
    by_cases d1 : Sg i = 47
    · rw [if_pos d1]
      refine ⟨fun q h1 h2 => ?_, ⟨fun q h1 _ h2 => ?_, Or.inl rfl⟩, Or.inr (Or.inl ?_)⟩
      · have h1 : (i : Int) + 1 ≤ q := h1
        omega
      · have h1 : (i : Int) + 1 ≤ q := h1
        omega
      · show Sg ((i : Int) + 1 - 1).toNat = 47
        rw [show ((i : Int) + 1 - 1).toNat = i by omega]; exact d1
    · rw [if_neg d1]
      rw [if_neg d1] at em
      have mk : ∀ j, j < i → wmk Sg w j ≠ i := fun j hj z => by have := wmk_le Sg w j; omega
      by_cases d2 : (i : Int) - s = w ∧ 0 ≤ (if Sg i = 32 then (i : Int) else p)
      · rw [if_pos d2]
        rw [if_pos d2.1] at em
        obtain ⟨p', ep⟩ : ∃ p', p' = (if Sg i = 32 then (i : Int) else p) := ⟨_, rfl⟩
        rw [← ep] at em d2 ⊢
        have pl : s ≤ p' ∧ p' ≤ i := by
          rw [ep]
          by_cases d3 : Sg i = 32
          · rw [if_pos d3]; omega
          · rw [if_neg d3] at ep ⊢; omega
        refine ⟨fun q h1 h2 => ⟨?_, fun j hj => ?_⟩, ⟨fun q h1 _ h2 => ?_, Or.inl rfl⟩, Or.inr (Or.inr ⟨i, by omega, ?_⟩)⟩
        · have h1 : p' + 1 ≤ q := h1
          by_cases d4 : q = i
          · rw [d4]; exact d1
          · exact (b q (by omega) (by omega)).1
        · have h1 : p' + 1 ≤ q := h1
          by_cases d5 : j = i
          · rw [d5, em]; omega
          · by_cases d4 : q = i
            · rw [d4]; exact mk j (by omega)
            · exact (b q (by omega) (by omega)).2 j (by omega)
        · have h1 : p' + 1 ≤ q := h1
          by_cases d3 : Sg i = 32
          · rw [if_pos d3] at ep; omega
          · rw [if_neg d3] at ep
            by_cases d4 : q = i
            · rw [d4]; exact d3
            · exact c1 q (by omega) (by omega) (by omega)
        · rw [em]
          show p' = p' + 1 - 1
          omega
      · rw [if_neg d2]
        have mi : wmk Sg w i = -1 := by
          rw [em]
          by_cases d3 : (i : Int) - s = w
          · rw [if_pos d3]
            by_cases d4 : Sg i = 32
            · exfalso; rw [if_pos d4] at d2; omega
            · rw [if_neg d4]; rw [if_neg d4] at d2; omega
          · rw [if_neg d3]
        refine ⟨fun q h1 h2 => ⟨?_, fun j hj => ?_⟩, ⟨fun q h1 h1' h2 => ?_, ?_⟩, ?_⟩
        · by_cases d4 : q = i
          · rw [d4]; exact d1
          · exact (b q h1 (by omega)).1
        · by_cases d5 : j = i
          · rw [d5, mi]; omega
          · by_cases d4 : q = i
            · rw [d4]; exact mk j (by omega)
            · exact (b q h1 (by omega)).2 j (by omega)
        · have h1' : (if Sg i = 32 then (i : Int) else p) < q := h1'
          by_cases d3 : Sg i = 32
          · rw [if_pos d3] at h1'; omega
          · rw [if_neg d3] at h1'
            by_cases d4 : q = i
            · rw [d4]; exact d3
            · exact c1 q h1 h1' (by omega)
        · show (if Sg i = 32 then (i : Int) else p) = -1 ∨ s ≤ (if Sg i = 32 then (i : Int) else p)
          by_cases d3 : Sg i = 32
          · rw [if_pos d3]; exact Or.inr (by omega)
          · rw [if_neg d3]; exact c2
        · rcases e with e | e | ⟨j, j1, j2⟩
          · exact Or.inl e
          · exact Or.inr (Or.inl e)
          · exact Or.inr (Or.inr ⟨j, by omega, j2⟩)
/-- the text behind wrapping -/
def nw (Sg : Nat → Int) (w : Int) (m q : Nat) : Int := if wWr Sg w m q = 0 then Sg q else wWr Sg w m q
theorem nw_mark {Sg : Nat → Int} {w : Int} {m q j : Nat} (hj : j < m) (h : wmk Sg w j = q) : nw Sg w m q = 47 := by
  unfold nw
  rcases wWr_or Sg w m q with ⟨-, z⟩ | ⟨z, -⟩
  · exact absurd h.symm (z j hj)
  · rw [z]; rfl
theorem nw_47 {Sg : Nat → Int} {w : Int} {m q : Nat} (h : Sg q = 47) : nw Sg w m q = 47 := by
  unfold nw
  rcases wWr_or Sg w m q with ⟨z, -⟩ | ⟨z, -⟩
  · rw [if_pos z]; exact h
  · rw [z]; rfl
theorem nw_of47 {Sg : Nat → Int} {w : Int} {m q : Nat} (h : nw Sg w m q = 47) : Sg q = 47 ∨ ∃ j, j < m ∧ wmk Sg w j = q := by
  unfold nw at h
  rcases wWr_or Sg w m q with ⟨z, -⟩ | ⟨z, j, j1, j2⟩
  · rw [if_pos z] at h; exact Or.inl h
  · exact Or.inr ⟨j, j1, j2.symm⟩
theorem nw_32 {Sg : Nat → Int} {w : Int} {m q : Nat} (h : nw Sg w m q = 32) : Sg q = 32 := by
  unfold nw at h
  rcases wWr_or Sg w m q with ⟨z, -⟩ | ⟨z, -⟩
  · rw [if_pos z] at h; exact h
  · rw [z, if_neg (by decide)] at h; exact absurd h (by decide)
/-- a long line has no space among its first ones -/
theorem nw_line {Sg : Nat → Int} {w : Int} {m s e : Nat} (hw : 0 ≤ w) (he : e ≤ m) (hs : s = 0 ∨ nw Sg w m (s - 1) = 47) (hn : ∀ q, s ≤ q → q < e → nw Sg w m q ≠ 47) (hl : w < (e : Int) - s) : ∀ q, s ≤ q → (q : Int) ≤ s + w → nw Sg w m q ≠ 32 := by
  obtain ⟨i, hi⟩ : ∃ i : Nat, (i : Int) = s + w := ⟨s + w.toNat, by omega⟩
  have rg := wst_rg Sg w i
  obtain ⟨b, ⟨c1, c2⟩, e0⟩ := wst_iv Sg w i
  have es : (wst Sg w i).1 = s := by
    rcases Int.lt_trichotomy (wst Sg w i).1 s with z | z | z
    · exfalso
      rcases hs with hs | hs
      · omega
      · rcases nw_of47 hs with y | ⟨j, j1, j2⟩
        · exact (b (s - 1) (by omega) (by omega)).1 y
        · by_cases d : j < i
          · exact (b (s - 1) (by omega) (by omega)).2 j d j2
          · have h1 := wmk_ge Sg w j (by omega)
            have h2 := (wst_iv Sg w j).2.1.2
            have h3 := wst_rg Sg w j
            have h4 : (wst Sg w j).1 ≤ wmk Sg w j := by
              unfold wmk
              unfold wmk at j2
              by_cases d1 : Sg j = 47
              · rw [if_pos d1] at j2; omega
              · rw [if_neg d1] at j2 ⊢
                rw [if_pos h1] at j2 ⊢
                by_cases d2 : Sg j = 32
                · rw [if_pos d2]; omega
                · rw [if_neg d2] at j2 ⊢; omega
            omega
    · exact z
    · exfalso
      rcases e0 with y | y | ⟨j, j1, j2⟩
      · omega
      · have := hn ((wst Sg w i).1 - 1).toNat (by omega) (by omega)
        exact this (nw_47 y)
      · have := hn ((wst Sg w i).1 - 1).toNat (by omega) (by omega)
        exact this (nw_mark (j := j) (by omega) (by omega))
  have n47 : Sg i ≠ 47 := fun z => hn i (by omega) (by omega) (nw_47 z)
  have em : wmk Sg w i = if Sg i = 32 then (i : Int) else (wst Sg w i).2 := by
    unfold wmk
    rw [if_neg n47, if_pos (by omega)]
  have neg : wmk Sg w i < 0 := by
    rcases Int.lt_or_le (wmk Sg w i) 0 with z | z
    · exact z
    · exfalso
      have h1 := wmk_le Sg w i
      have h2 : (s : Int) ≤ wmk Sg w i := by
        rw [em]
        by_cases d : Sg i = 32
        · rw [if_pos d]; omega
        · rw [em, if_neg d] at z
          rw [if_neg d]; omega
      exact hn (wmk Sg w i).toNat (by omega) (by omega) (nw_mark (j := i) (by omega) (by omega))
  intro q q1 q2 z
  have z' := nw_32 z
  by_cases d : Sg i = 32
  · rw [em, if_pos d] at neg; omega
  · rw [em, if_neg d] at neg
    by_cases d2 : q = i
    · rw [d2] at z'; exact d z'
    · exact c1 q (by omega) (by omega) (by omega) z'
/-- the counters of isClean -/
theorem cnt_iv {f : Nat → Int} {m : Nat} {nb : Int} : ∀ k, k ≤ m → ∃ s : Nat, (s : Int) = k - crw f m k ∧ (s = 0 ∨ f (s - 1) = 47) ∧ (∀ q, s ≤ q → q < k → f q ≠ 47) ∧ (csp f m nb k ≠ 0 → ∃ q : Nat, s ≤ q ∧ q < k ∧ (q : Int) - s ≤ nb ∧ f q = 32) := by
  intro k
  induction k with
  | zero => intro _; exact ⟨0, rfl, Or.inl rfl, fun q _ h => by omega, fun h => absurd rfl h⟩
  | succ k ih =>
    intro hk
    obtain ⟨s, s1, s2, s3, s4⟩ := ih (by omega)
    have el : ltf f m k = f k := if_neg (by omega)
    have e1 : crw f m (k + 1) = if ltf f m k = 47 then 0 else crw f m k + 1 := rfl
    have e2 : csp f m nb (k + 1) = if ltf f m k = 47 then 0 else csp f m nb k + (if ltf f m k = 32 ∧ crw f m k ≤ nb then 1 else 0) := rfl
    rw [e1, e2, el]
    by_cases d : f k = 47
    · rw [if_pos d, if_pos d]
      exact ⟨k + 1, by omega, Or.inr d, fun q h1 h2 => by omega, fun h => absurd rfl h⟩
    · rw [if_neg d, if_neg d]
      refine ⟨s, by omega, s2, fun q h1 h2 => ?_, fun h => ?_⟩
      · by_cases d2 : q = k
        · rw [d2]; exact d
        · exact s3 q h1 (by omega)
      · by_cases d3 : f k = 32 ∧ crw f m k ≤ nb
        · have := crw_rg f m k
          exact ⟨k, by omega, by omega, by omega, d3.1⟩
        · rw [if_neg d3] at h
          obtain ⟨q, q1, q2, q3⟩ := s4 (by omega)
          exact ⟨q, q1, by omega, q3⟩
theorem clean_3 (hG : RwG (xR T)) (h0 : qcn (sprA T (askd T kd nb)) (askd T kd nb).length = 0) (h : kd = 3) (hnb : 0 ≤ nb) : CleanP (vLe (dnT T kd nb)) (vLn (dnT T kd nb)) kd nb := by
  obtain ⟨e1, e2⟩ := dn_23 hG h0 (Or.inr h)
  have ef : ∀ q, q < vLn T → vLe (dnT T kd nb) q = nw (sgn T) nb (vLn T) q := by
    intro q hq
    rw [e2 q hq, wn_3 h]; rfl
  intro k hk
  refine ⟨by omega, by omega, by omega, ?_⟩
  rintro ⟨-, z1, z2, z3⟩
  obtain ⟨s, s1, s2, s3, s4⟩ := cnt_iv (f := vLe (dnT T kd nb)) (m := vLn (dnT T kd nb)) (nb := nb) k hk
  obtain ⟨q, q1, q2, q3, q4⟩ := s4 z3
  have cr := crw_rg (vLe (dnT T kd nb)) (vLn (dnT T kd nb)) k
  have := nw_line (Sg := sgn T) (w := nb) (m := vLn T) (s := s) (e := k) hnb (by omega) (s2.elim Or.inl fun z => ?_) (fun q h1 h2 => by rw [← ef q (by omega)]; exact s3 q h1 h2) (by omega) q q1 (by omega)
  · rw [← ef q (by omega)] at this
    exact this q4
  · by_cases d : s = 0
    · exact Or.inl d
    · right
      rw [← ef (s - 1) (by omega)]; exact z
theorem clean_all (hG : RwG (xR T)) (h0 : qcn (sprA T (askd T kd nb)) (askd T kd nb).length = 0) (k1 : 0 ≤ kd) (k2 : kd ≤ 3) (hnb : 0 ≤ nb) : CleanP (vLe (dnT T kd nb)) (vLn (dnT T kd nb)) kd nb := by
  rcases (show kd = 0 ∨ kd = 1 ∨ kd = 2 ∨ kd = 3 by omega) with h | h | h | h
  · exact clean_0 hG h0 h
  · exact clean_1 hG h0 h
  · exact clean_2 hG h0 h
  · exact clean_3 hG h0 h hnb
end CLN
