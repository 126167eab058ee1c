
/-! ===== looks, fits, isClean ===== -/
theorem lg_same (x : Int64) : lg_cmp x x = 0 := by
  unfold lg_cmp
  simp
theorem one_ne : ¬ (iI 1 = (0 : Int32)) := by decide +kernel
def lks (f : Nat → Int) : Nat → Nat → Int64 → Int64
  | 0, _, s => s
  | k + 1, i, s => lks f k (i + 1) (if iI 32 ≤ iI (f i) then ((s * (131 : Int64)) + (iI (f i)).toInt64) - ((s * (131 : Int64)) + (iI (f i)).toInt64) / (1000000007 : Int64) * (1000000007 : Int64) else (-1 : Int64))
theorem lks_eq {f g : Nat → Int} : ∀ (k i : Nat) (s : Int64), (∀ p, i ≤ p → p < i + k → f p = g p) → lks f k i s = lks g k i s := by
  intro k
  induction k with
  | zero => intro i s _; rfl
  | succ k ih =>
    intro i s h
    show lks f k (i + 1) _ = lks g k (i + 1) _
    rw [h i (Nat.le_refl _) (by omega)]
    exact ih _ _ fun p h1 h2 => h p (by omega) (by omega)
def vLk (T : Tx) : Int64 := lks (vLe T) (vLn T) 0 (iI (vLn T)).toInt64
theorem sameL_lk {T T' : Tx} (h : SameL T T') : vLk T = vLk T' := by
  unfold vLk
  rw [← h.1]
  exact lks_eq _ _ _ fun p _ hp => h.2 p (by omega)
section LF
variable {c n k : Nat} {S : Cs} {A : La} {h : AH}
theorem vLn_150 {b : Nat} (hW : Wo c S A n k h) (hb : b < 3) : vLn (cX S b) ≤ 150 := Nat.le_trans vLn_le ((csG_of hW.1).1 b hb).1.1
theorem vLe_rg {b p : Nat} (hW : Wo c S A n k h) (hb : b < 3) (hp : p < vLn (cX S b)) : 0 ≤ vLe (cX S b) p ∧ vLe (cX S b) p ≤ 65535 := by
  have hG := ((csG_of hW.1).1 b hb).1
  obtain ⟨i, h1, h2, h3, h4⟩ := rsh_in (R := xR (cX S b)) hp
  have h5 := (hG.2.1 i h1).1
  have h6 := (hG.2.1 _ h5).2
  unfold vLe
  rw [if_pos hp, h2]
  exact h6
theorem g_looks_12 {b : Nat} (hb : b < 3) (hn : n ≤ 511) : ∀ (j i m : Nat) (h : AH) (s : Int64) (kk : Nat), i + j = vLn (cX S b) → j < m → Wo c S A n kk h → kk + j ≤ 599000 → Okp (p_L_looks_12 m c (iI b) (iI (vLn (cX S b))) s (iI i) h) (fun r h' => r = lks (vLe (cX S b)) j i s ∧ Wo c S A n (kk + j) h') := by
  intro j
  induction j with
  | zero =>
    intro i m h s kk hi hm hW hk
    have h150 := vLn_150 hW hb
    obtain ⟨m, rfl⟩ : ∃ q, m = q + 1 := ⟨m - 1, by omega⟩
    unfold p_L_looks_12
    rw [if_pos (by rw [j_le (by omega) (by omega) (by omega) (by omega)]; omega)]
    exact ok_some ⟨rfl, hW⟩
  | succ j ih =>
    intro i m h s kk hi hm hW hk
    have h150 := vLn_150 hW hb
    obtain ⟨m, rfl⟩ : ∃ q, m = q + 1 := ⟨m - 1, by omega⟩
    unfold p_L_looks_12
    rw [if_neg (by rw [j_le (by omega) (by omega) (by omega) (by omega)]; omega)]
    refine ok_bR (g_letter hW hn (by omega) hb (p := i) (by omega)) ?_
    rintro r h1 ⟨rfl, hW1⟩
    have nx : ∀ s', Okp (p_L_looks_53 (p_L_looks_12 m) c (iI b) (iI (vLn (cX S b))) (iI i) s' h1) (fun r h' => r = lks (vLe (cX S b)) j (i + 1) s' ∧ Wo c S A n (kk + (j + 1)) h') := by
      intro s'
      unfold p_L_looks_53
      rw [nm_q, j_add]
      have := ih (i + 1) m h1 s' (kk + 1) (by omega) (by omega) hW1 (by omega)
      rw [show kk + (j + 1) = kk + 1 + j by omega]
      exact this
    show Okp _ (fun r h' => r = lks (vLe (cX S b)) j (i + 1) (if iI 32 ≤ iI (vLe (cX S b) i) then _ else _) ∧ Wo c S A n (kk + (j + 1)) h')
    by_cases d : iI 32 ≤ iI (vLe (cX S b) i)
    · rw [if_pos d, if_pos d]; exact nx _
    · rw [if_neg d, if_neg d]; exact nx _
theorem g_looks {b : Nat} (hW : Wo c S A n k h) (hn : n ≤ 511) (hk : k ≤ 598000) (hb : b < 3) : Okp (p_L_looks c (iI b) h) (fun r h' => r = vLk (cX S b) ∧ Wo c S A n (k + 151) h') := by
  have h150 := vLn_150 hW hb
  unfold p_L_looks p_L_looks_0
  refine ok_ck (of_eq_false hW.1.1.1) ?_
  refine ok_bR (g_length hW hn (by omega) hb) ?_
  rintro r h1 ⟨rfl, hW1⟩
  rw [nm_q, nm_q]
  refine ok_to (g_looks_12 hb hn (vLn (cX S b)) 0 FU h1 _ (k + 1) (by omega) (by unfold FU; omega) hW1 (by omega)) ?_
  rintro r h' ⟨e, w⟩
  exact ⟨e, wo_mono w (Nat.le_refl _) (by omega)⟩
theorem g_fits_95 {b : Nat} (hb : b < 3) (hn : n ≤ 511) : ∀ (j i m : Nat) (h : AH) (kk : Nat), i + j = 5 → j < m → Wo c S A n kk h → kk + j ≤ 599000 → Okp (p_L_fits_95 m c (iI b) (iI (vLn (cX S b))) (iI 1) (iI i) h) (fun r h' => r = iI 1 ∧ Wo c S A n (kk + j) h') := by
  intro j
  induction j with
  | zero =>
    intro i m h kk hi hm hW hk
    obtain ⟨m, rfl⟩ : ∃ q, m = q + 1 := ⟨m - 1, by omega⟩
    unfold p_L_fits_95
    rw [if_pos (by rw [j_le (by omega) (by omega) (by omega) (by omega)]; omega)]
    unfold p_L_fits_139
    rw [ck_p z_1]
    exact ok_some ⟨rfl, hW⟩
  | succ j ih =>
    intro i m h kk hi hm hW hk
    have h150 := vLn_150 hW hb
    have hle := cpl_rg (T := cX S b) (a := i)
    obtain ⟨m, rfl⟩ : ∃ q, m = q + 1 := ⟨m - 1, by omega⟩
    unfold p_L_fits_95
    rw [if_neg (by rw [j_le (by omega) (by omega) (by omega) (by omega)]; omega), if_neg one_ne]
    refine ok_bR (g_place hW hn (by omega) (by omega) hb) ?_
    rintro r h1 ⟨rfl, hW1⟩
    rw [if_neg (by rw [j_lt0 (by omega) (by omega)]; omega), if_neg (by rw [j_lt (by omega) (by omega) (by omega) (by omega)]; omega)]
    unfold p_L_fits_131
    rw [nm_q, j_add]
    have := ih (i + 1) m h1 (kk + 1) (by omega) (by omega) hW1 (by omega)
    rw [show kk + (j + 1) = kk + 1 + j by omega]
    exact this
theorem g_fits_51 {b : Nat} (hb : b < 3) (hn : n ≤ 511) : ∀ (j i m : Nat) (h : AH) (kk : Nat), vLn (cX S b) ≤ i + j → i < 1000 → j < m → Wo c S A n kk h → kk + 2 * j + 5 ≤ 599000 → Okp (p_L_fits_51 m c (iI b) (iI (vLn (cX S b))) (iI 1) (iI i) h) (fun r h' => r = iI 1 ∧ Wo c S A n (kk + 2 * j + 5) h') := by
  intro j
  have fin : ∀ (j i m : Nat) (h : AH) (kk : Nat), Wo c S A n kk h → kk + 2 * j + 5 ≤ 599000 → Okp (p_L_fits_92 c (iI b) (iI (vLn (cX S b))) (iI 1) h) (fun r h' => r = iI 1 ∧ Wo c S A n (kk + 2 * j + 5) h') := by
    intro j i m h kk hW hk
    unfold p_L_fits_92
    rw [nm_q]
    refine ok_to (g_fits_95 hb hn 5 0 FU h kk (by omega) (by unfold FU; omega) hW (by omega)) ?_
    rintro r h' ⟨e, w⟩
    exact ⟨e, wo_mono w (Nat.le_refl _) (by omega)⟩
  induction j with
  | zero =>
    intro i m h kk hi hi2 hm hW hk
    have h150 := vLn_150 hW hb
    obtain ⟨m, rfl⟩ : ∃ q, m = q + 1 := ⟨m - 1, by omega⟩
    unfold p_L_fits_51
    rw [if_pos (by rw [j_le (by omega) (by omega) (by omega) (by omega)]; omega)]
    exact fin 0 i m h kk hW hk
  | succ j ih =>
    intro i m h kk hi hi2 hm hW hk
    have h150 := vLn_150 hW hb
    obtain ⟨m, rfl⟩ : ∃ q, m = q + 1 := ⟨m - 1, by omega⟩
    unfold p_L_fits_51
    by_cases d : vLn (cX S b) ≤ i
    · rw [if_pos (by rw [j_le (by omega) (by omega) (by omega) (by omega)]; omega)]
      exact fin (j + 1) i m h kk hW hk
    · rw [if_neg (by rw [j_le (by omega) (by omega) (by omega) (by omega)]; omega), if_neg one_ne]
      refine ok_bR (g_letter hW hn (by omega) hb (p := i) (by omega)) ?_
      rintro r h1 ⟨rfl, hW1⟩
      refine ok_bR (g_anew hW1 hn (by omega) hb (p := i) (by omega)) ?_
      rintro r h2 ⟨rfl, hW2⟩
      rw [if_pos rfl]
      unfold p_L_fits_84
      rw [nm_q, j_add]
      refine ok_to (ih (i + 5) m h2 (kk + 1 + 1) (by omega) (by omega) (by omega) hW2 (by omega)) ?_
      rintro r h' ⟨e, w⟩
      exact ⟨e, wo_mono w (Nat.le_refl _) (by omega)⟩
theorem vLe_end {T : Tx} : vLe T (vLn T) = -101 := if_neg (Nat.lt_irrefl _)
theorem j_div {a b : Int} (a1 : 0 ≤ a) (a2 : a < 2147483648) (b1 : 0 < b) (b2 : b < 2147483648) : iI a / iI b = iI (a / b) := by
  have ha := j_toInt (a := a) (by omega) a2
  have hb := j_toInt (a := b) (by omega) b2
  have h1 : (iI a / iI b).toInt = (a / b) := by
    rw [Int32.toInt_div, ha, hb, Int.tdiv_eq_ediv_of_nonneg a1]
    have h2 : 0 ≤ a / b := Int.ediv_nonneg a1 (by omega)
    have h3 : a / b ≤ a := Int.ediv_le_self _ a1
    rw [Int.bmod_eq_of_le (by omega) (by omega)]
  rw [← h1]
  exact (Int32.ofInt_toInt _).symm
theorem j_rem {a b : Int} (a1 : 0 ≤ a) (a2 : a < 2147483648) (b1 : 0 < b) (b2 : b < 2147483648) : iI a - iI a / iI b * iI b = iI (a % b) := by
  rw [j_div a1 a2 b1 b2, j_mul, j_sub]
  congr 1
  have := Int.emod_def a b
  rw [this, Int.mul_comm]
theorem g_fits {b i : Nat} (hW : Wo c S A n k h) (hn : n ≤ 511) (hk : k ≤ 598000) (hb : b < 3) (hi : i < 1000) : Okp (p_L_fits c (iI b) (iI i) h) (fun r h' => r = iI 1 ∧ Wo c S A n (k + 400) h') := by
  have h150 := vLn_150 hW hb
  unfold p_L_fits p_L_fits_0
  refine ok_ck (of_eq_false hW.1.1.1) ?_
  refine ok_bR (g_length hW hn (by omega) hb) ?_
  rintro r h1 ⟨rfl, hW1⟩
  rw [if_neg (by rw [j_lt0 (by omega) (by omega)]; omega), if_neg (by rw [j_lt (by omega) (by omega) (by omega) (by omega)]; omega)]
  refine ok_bR (g_letter hW1 hn (by omega) hb (by omega)) ?_
  rintro r h2 ⟨rfl, hW2⟩
  rw [vLe_end, if_pos rfl]
  refine ok_bR (g_anew hW2 hn (by omega) hb (by omega)) ?_
  rintro r h3 ⟨rfl, hW3⟩
  rw [vLe_end, if_pos rfl]
  unfold p_L_fits_44
  rw [nm_q, j_rem (by omega) (by omega) (by omega) (by omega)]
  have e : ((i : Int) % 5) = ((i % 5 : Nat) : Int) := by omega
  rw [e]
  refine ok_to (g_fits_51 hb hn (vLn (cX S b)) (i % 5) FU h3 (k + 1 + 1 + 1) (by omega) (by omega) (by unfold FU; omega) hW3 (by omega)) ?_
  rintro r h' ⟨e, w⟩
  exact ⟨e, wo_mono w (Nat.le_refl _) (by omega)⟩
/-! isClean -/
section CL
variable {K : Nat → Int32 → Int32 → Int32 → Int32 → Int32 → Int32 → Int32 → Int32 → AH → Option (Int32 × AH)} {v1 : Int32} {kd nb m row sp j lt bf : Int}
theorem st71 (k1 : 0 ≤ kd) (k2 : kd ≤ 3) (l1 : 0 ≤ lt) (l2 : lt ≤ 65535) (b1 : 0 ≤ bf) (b2 : bf ≤ 65535) {v3 v4 v5 v6 v8 : Int32} (c0 : ¬ (kd = 0 ∧ lt = 32 ∧ bf = 32)) : p_L_isClean_71 K c v1 (iI kd) v3 v4 v5 v6 v8 (iI lt) (iI bf) h = p_L_isClean_96 K c v1 (iI kd) v3 v4 v5 v6 v8 (iI lt) (iI bf) (iI 1) h := by
  unfold p_L_isClean_71 p_L_isClean_91
  simp (disch := omega) only [j_0, j_eq]
  repeat' split
  all_goals first | rfl | (exfalso; omega)
theorem st96 (k1 : 0 ≤ kd) (k2 : kd ≤ 3) (l1 : 0 ≤ lt) (l2 : lt ≤ 65535) (b1 : 0 ≤ bf) (b2 : bf ≤ 65535) {v3 v4 v5 v6 v8 : Int32} (c0 : ¬ (kd = 1 ∧ lt = 47 ∧ bf = 32)) : p_L_isClean_96 K c v1 (iI kd) v3 v4 v5 v6 v8 (iI lt) (iI bf) (iI 1) h = p_L_isClean_127 K c v1 (iI kd) v3 v4 v5 v6 v8 (iI lt) (iI bf) (iI 1) h := by
  unfold p_L_isClean_96 p_L_isClean_122 p_L_isClean_126
  rw [if_neg one_ne]
  simp (disch := omega) only [j_eq]
  repeat' split
  all_goals first | rfl | (exfalso; omega)
theorem st127 (k1 : 0 ≤ kd) (k2 : kd ≤ 3) (l1 : 0 ≤ lt) (l2 : lt ≤ 65535) (b1 : 0 ≤ bf) (b2 : bf ≤ 65535) (j1 : 0 ≤ j) (j2 : j ≤ 1000) (m1 : 0 ≤ m) (m2 : m ≤ 1000) {v3 v5 v6 : Int32} (c0 : ¬ (kd = 2 ∧ j ≠ m ∧ bf = 47 ∧ 97 ≤ lt ∧ lt ≤ 122)) : p_L_isClean_127 K c v1 (iI kd) v3 (iI m) v5 v6 (iI j) (iI lt) (iI bf) (iI 1) h = p_L_isClean_172 K c v1 (iI kd) v3 (iI m) v5 v6 (iI j) (iI lt) (iI 1) h := by
  unfold p_L_isClean_127 p_L_isClean_167 p_L_isClean_171
  rw [if_neg one_ne]
  simp (disch := omega) only [j_eq, j_lt, j_le]
  repeat' split
  all_goals first | rfl | (exfalso; omega)
theorem st172 (k1 : 0 ≤ kd) (k2 : kd ≤ 3) (l1 : 0 ≤ lt) (l2 : lt ≤ 65535) (n1 : 0 ≤ nb) (n2 : nb ≤ 1000) (r1 : 0 ≤ row) (r2 : row ≤ 1000) (s1 : 0 ≤ sp) (s2 : sp ≤ 1000) {v4 v8 : Int32} (c0 : ¬ (kd = 3 ∧ lt = 47 ∧ nb < row ∧ sp ≠ 0)) : p_L_isClean_172 K c v1 (iI kd) (iI nb) v4 (iI row) (iI sp) v8 (iI lt) (iI 1) h = p_L_isClean_207 K c v1 (iI kd) (iI nb) v4 (iI row) (iI sp) v8 (iI lt) (iI 1) h := by
  unfold p_L_isClean_172 p_L_isClean_202 p_L_isClean_206
  rw [if_neg one_ne]
  simp (disch := omega) only [j_0, j_eq, j_lt, j_le]
  repeat' split
  all_goals first | rfl | (exfalso; omega)
theorem st207 (l1 : 0 ≤ lt) (l2 : lt ≤ 65535) (n1 : 0 ≤ nb) (n2 : nb ≤ 1000) (r1 : 0 ≤ row) (r2 : row ≤ 1000) {v2 v4 s0 : Int32} : p_L_isClean_207 K c v1 v2 (iI nb) v4 (iI row) (iI sp) (iI j) (iI lt) s0 h = K c v1 v2 (iI nb) v4 (iI (if lt = 47 then 0 else row + 1)) (iI (if lt = 47 then 0 else sp + (if lt = 32 ∧ row ≤ nb then 1 else 0))) s0 (iI (j + 1)) h := by
  have fin : ∀ z : Int, p_L_isClean_229 K c v1 v2 (iI nb) v4 (iI row) s0 (iI j) (iI lt) (iI sp) (iI z) h = K c v1 v2 (iI nb) v4 (iI (if lt = 47 then 0 else row + 1)) (iI (if lt = 47 then 0 else sp + z)) s0 (iI (j + 1)) h := by
    intro z
    unfold p_L_isClean_229 p_L_isClean_247 p_L_isClean_262
    simp (disch := omega) only [nm_q, j_add, j_eq]
    by_cases d : lt = 47
    · simp only [if_pos d]
    · simp only [if_neg d]
  unfold p_L_isClean_207 p_L_isClean_228
  simp (disch := omega) only [j_eq, j_lt]
  by_cases d : lt = 32
  · rw [if_pos d]
    by_cases d2 : nb < row
    · rw [if_pos d2, fin, if_neg (c := lt = 32 ∧ row ≤ nb) (by omega)]
    · rw [if_neg d2, fin, if_pos (c := lt = 32 ∧ row ≤ nb) (by omega)]
  · rw [if_neg d, fin, if_neg (c := lt = 32 ∧ row ≤ nb) (by omega)]
end CL
def ltf (f : Nat → Int) (m k : Nat) : Int := if k = m then 47 else f k
def bff (f : Nat → Int) (k : Nat) : Int := if k = 0 then 47 else f (k - 1)
def crw (f : Nat → Int) (m : Nat) : Nat → Int
  | 0 => 0
  | k + 1 => if ltf f m k = 47 then 0 else crw f m k + 1
def csp (f : Nat → Int) (m : Nat) (nb : Int) : Nat → Int
  | 0 => 0
  | k + 1 => if ltf f m k = 47 then 0 else csp f m nb k + (if ltf f m k = 32 ∧ crw f m k ≤ nb then 1 else 0)
theorem crw_rg (f : Nat → Int) (m k : Nat) : 0 ≤ crw f m k ∧ crw f m k ≤ k := by
  induction k with
  | zero => exact ⟨Int.le_refl 0, Int.le_refl 0⟩
  | succ k ih =>
    show 0 ≤ (if ltf f m k = 47 then 0 else crw f m k + 1) ∧ (if ltf f m k = 47 then 0 else crw f m k + 1) ≤ ((k + 1 : Nat) : Int)
    split <;> omega
theorem csp_rg (f : Nat → Int) (m : Nat) (nb : Int) (k : Nat) : 0 ≤ csp f m nb k ∧ csp f m nb k ≤ k := by
  induction k with
  | zero => exact ⟨Int.le_refl 0, Int.le_refl 0⟩
  | succ k ih =>
    show 0 ≤ (if ltf f m k = 47 then 0 else csp f m nb k + (if ltf f m k = 32 ∧ crw f m k ≤ nb then 1 else 0)) ∧ (if ltf f m k = 47 then 0 else csp f m nb k + (if ltf f m k = 32 ∧ crw f m k ≤ nb then 1 else 0)) ≤ ((k + 1 : Nat) : Int)
    split
    · omega
    · split <;> omega
def CleanP (f : Nat → Int) (m : Nat) (kd nb : Int) : Prop := ∀ k, k ≤ m → ¬ (kd = 0 ∧ ltf f m k = 32 ∧ bff f k = 32) ∧ ¬ (kd = 1 ∧ ltf f m k = 47 ∧ bff f k = 32) ∧ ¬ (kd = 2 ∧ (k : Int) ≠ m ∧ bff f k = 47 ∧ 97 ≤ ltf f m k ∧ ltf f m k ≤ 122) ∧ ¬ (kd = 3 ∧ ltf f m k = 47 ∧ nb < crw f m k ∧ csp f m nb k ≠ 0)
theorem g_clean_19 {b : Nat} {kd nb : Int} (hb : b < 3) (hn : n ≤ 511) (k1 : 0 ≤ kd) (k2 : kd ≤ 3) (n1 : 0 ≤ nb) (n2 : nb ≤ 1000) (hP : CleanP (vLe (cX S b)) (vLn (cX S b)) kd nb) : ∀ (j i m : Nat) (h : AH) (kk : Nat), i + j = vLn (cX S b) + 1 → j < m → Wo c S A n kk h → kk + 2 * j ≤ 599000 → Okp (p_L_isClean_19 m c (iI b) (iI kd) (iI nb) (iI (vLn (cX S b))) (iI (crw (vLe (cX S b)) (vLn (cX S b)) i)) (iI (csp (vLe (cX S b)) (vLn (cX S b)) nb i)) (iI 1) (iI i) h) (fun r h' => r = iI 1 ∧ Wo c S A n (kk + 2 * j) h') := by
  intro j
  induction j with
  | zero =>
    intro i m h kk hi hm hW hk
    have h150 := vLn_150 hW hb
    obtain ⟨m, rfl⟩ : ∃ q, m = q + 1 := ⟨m - 1, by omega⟩
    unfold p_L_isClean_19
    rw [if_pos (by rw [j_lt (by omega) (by omega) (by omega) (by omega)]; omega)]
    unfold p_L_isClean_270
    rw [ck_p z_1]
    exact ok_some ⟨rfl, hW⟩
  | succ j ih =>
    intro i m h kk hi hm hW hk
    have h150 := vLn_150 hW hb
    obtain ⟨m, rfl⟩ : ∃ q, m = q + 1 := ⟨m - 1, by omega⟩
    have cr := crw_rg (vLe (cX S b)) (vLn (cX S b)) i
    have cs := csp_rg (vLe (cX S b)) (vLn (cX S b)) nb i
    obtain ⟨p0, p1, p2, p3⟩ := hP i (by omega)
    have l12 : 0 ≤ ltf (vLe (cX S b)) (vLn (cX S b)) i ∧ ltf (vLe (cX S b)) (vLn (cX S b)) i ≤ 65535 := by
      unfold ltf
      by_cases d : i = vLn (cX S b)
      · rw [if_pos d]; omega
      · rw [if_neg d]; exact vLe_rg hW hb (by omega)
    have b12 : 0 ≤ bff (vLe (cX S b)) i ∧ bff (vLe (cX S b)) i ≤ 65535 := by
      unfold bff
      by_cases d : i = 0
      · rw [if_pos d]; omega
      · rw [if_neg d]; exact vLe_rg hW hb (by omega)
    have fin : ∀ (h1 : AH) (q : Nat), Wo c S A n q h1 → q ≤ kk + 2 → Okp (p_L_isClean_71 (p_L_isClean_19 m) c (iI b) (iI kd) (iI nb) (iI (vLn (cX S b))) (iI (crw (vLe (cX S b)) (vLn (cX S b)) i)) (iI (csp (vLe (cX S b)) (vLn (cX S b)) nb i)) (iI i) (iI (ltf (vLe (cX S b)) (vLn (cX S b)) i)) (iI (bff (vLe (cX S b)) i)) h1) (fun r h' => r = iI 1 ∧ Wo c S A n (kk + 2 * (j + 1)) h') := by
      intro h1 q hW1 hq
      rw [st71 k1 k2 l12.1 l12.2 b12.1 b12.2 p0, st96 k1 k2 l12.1 l12.2 b12.1 b12.2 p1, st127 k1 k2 l12.1 l12.2 b12.1 b12.2 (by omega) (by omega) (by omega) (by omega) p2, st172 k1 k2 l12.1 l12.2 n1 n2 cr.1 (by omega) cs.1 (by omega) p3, st207 l12.1 l12.2 n1 n2 cr.1 (by omega)]
      refine ok_to (ih (i + 1) m h1 (kk + 2) (by omega) (by omega) (wo_mono hW1 (Nat.le_refl _) hq) (by omega)) ?_
      rintro r h' ⟨e, w⟩
      exact ⟨e, wo_mono w (Nat.le_refl _) (by omega)⟩
    have mid : ∀ (h1 : AH) (q : Nat), Wo c S A n q h1 → q ≤ kk + 1 → Okp (p_L_isClean_50 (p_L_isClean_19 m) c (iI b) (iI kd) (iI nb) (iI (vLn (cX S b))) (iI (crw (vLe (cX S b)) (vLn (cX S b)) i)) (iI (csp (vLe (cX S b)) (vLn (cX S b)) nb i)) (iI i) (iI (ltf (vLe (cX S b)) (vLn (cX S b)) i)) h1) (fun r h' => r = iI 1 ∧ Wo c S A n (kk + 2 * (j + 1)) h') := by
      intro h1 q hW1 hq
      unfold p_L_isClean_50
      have fin' := fun h2 q2 => fin h2 q2
      unfold bff at fin'
      by_cases d : i = 0
      · rw [if_pos (by rw [j_0, j_eq (by omega) (by omega) (by omega) (by omega)]; omega)]
        have f2 := fin' h1 q hW1 (by omega)
        rw [if_pos d] at f2
        exact f2
      · rw [if_neg (by rw [j_0, j_eq (by omega) (by omega) (by omega) (by omega)]; omega), j_sub, show ((i : Int) - 1) = ((i - 1 : Nat) : Int) by omega]
        refine ok_bR (g_letter hW1 hn (by omega) hb (p := i - 1) (by omega)) ?_
        rintro r h2 ⟨rfl, hW2⟩
        have f2 := fin' h2 (q + 1) hW2 (by omega)
        rw [if_neg d] at f2
        exact f2
    unfold p_L_isClean_19
    rw [if_neg (by rw [j_lt (by omega) (by omega) (by omega) (by omega)]; omega), if_neg one_ne]
    have mid' := fun h2 q2 => mid h2 q2
    unfold ltf at mid'
    by_cases d : i = vLn (cX S b)
    · rw [if_pos (by rw [j_eq (by omega) (by omega) (by omega) (by omega)]; omega)]
      have f2 := mid' h kk hW (by omega)
      rw [if_pos d] at f2
      exact f2
    · rw [if_neg (by rw [j_eq (by omega) (by omega) (by omega) (by omega)]; omega)]
      refine ok_bR (g_letter hW hn (by omega) hb (p := i) (by omega)) ?_
      rintro r h2 ⟨rfl, hW2⟩
      have f2 := mid' h2 (kk + 1) hW2 (by omega)
      rw [if_neg d] at f2
      exact f2
theorem g_clean {b : Nat} {kd nb : Int} (hW : Wo c S A n k h) (hn : n ≤ 511) (hk : k ≤ 598000) (hb : b < 3) (k1 : 0 ≤ kd) (k2 : kd ≤ 3) (n1 : 0 ≤ nb) (n2 : nb ≤ 1000) (hP : CleanP (vLe (cX S b)) (vLn (cX S b)) kd nb) : Okp (p_L_isClean c (iI b) (iI kd) (iI nb) h) (fun r h' => r = iI 1 ∧ Wo c S A n (k + 310) h') := by
  have h150 := vLn_150 hW hb
  unfold p_L_isClean p_L_isClean_0
  refine ok_ck (of_eq_false hW.1.1.1) ?_
  refine ok_bR (g_length hW hn (by omega) hb) ?_
  rintro r h1 ⟨rfl, hW1⟩
  simp only [nm_q]
  refine ok_to (g_clean_19 hb hn k1 k2 n1 n2 hP (vLn (cX S b) + 1) 0 FU h1 (k + 1) (by omega) (by unfold FU; omega) hW1 (by omega)) ?_
  rintro r h' ⟨e, w⟩
  exact ⟨e, wo_mono w (Nat.le_refl _) (by omega)⟩
end LF
