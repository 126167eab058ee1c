
/-! ===== lock, write, queued ===== -/
theorem err_lo {S : Cs} {a b : Int} {e : Nat} (h : (loM S a b).1 = .error e) : e = 1 ∨ e = 3 := by
  unfold loM at h
  repeat' split at h
  all_goals first | (injection h with h; omega) | (cases h)
theorem val_lo {S : Cs} {a b v : Int} (h : (loM S a b).1 = .ok v) : v = 0 ∨ v = 1 := by
  unfold loM at h
  by_cases c1 : ¬ (hOk a ∧ tOk b)
  · rw [if_pos c1] at h; cases h
  · rw [if_neg c1] at h
    by_cases c2 : isFree (cX S b.toNat) a.toNat = false
    · rw [if_pos c2] at h; cases h
    · rw [if_neg c2] at h
      injection h with h
      by_cases c3 : xL (cX S b.toNat) = (a.toNat : Int)
      · rw [if_pos c3] at h; omega
      · rw [if_neg c3] at h; omega
/-- an answer behind both calls: where all stands -/
theorem law_in {β : Type} {c i : Nat} {h h5 h11 : AH} {S S' : Cs} {o : Except Nat β} {cd : Nat → Int} {val : β → Int64} {r4 : Int32} (hi : i ≤ 511) (hL : LwI c i S h) (hW : WrO cd c h S S' o val r4 h5) (hM : MdR h11 (c + 59) S') (hp : Pw (mdW (c + 59)) h5 h11) (hI : IvS S' (i + 1)) : LwI c (i + 1) S' h11 := by
  obtain ⟨w1, w2, w3, w4, w5, w6, w7, w8, w9⟩ := hW
  refine ⟨ck_mod w2 w3.1 hp, hM, by rw [hp.1]; exact w5, by rw [hp.2.1]; exact w6, hI, ?_, ?_⟩
  · have z := hp.2.2.2.2.1
    have y := hp.2.2.2.2.2.2.2.1
    have := hL.2.2.2.2.2.1
    omega
  · have z := hp.2.2.2.2.2.1
    have := hL.2.2.2.2.2.2
    omega
def lkv (v : Int) : Int64 := if v = 0 then 0 else 1
theorem wr_lock {c i : Nat} {h : AH} {S : Cs} {o : Out} {x : Option (Except Nat Int32 × AH)} {g : Nat → AH → Option (Int32 × AH)} (hL : LwI c i S h) (hx : Okp x (Ans c h o)) (hv : ∀ v, o.1 = .ok v → v = 0 ∨ v = 1) (hg : ∀ e h3, o.1 = .error e → g e h3 = some (iI (cd2 e), h3)) : Okp (bC x (fun r2 h3 => if r2 = 0 then p_L_lock_16 (c + 88) (iI 0) 0 h3 else p_L_lock_16 (c + 88) (iI 0) 1 h3) g) (WrO cd2 c h S o.2 o.1 lkv) := by
  obtain ⟨r, h3, e, z1, z2, z3⟩ := hx
  subst e
  have hz : c + 88 < aZ h := hL.1.1.2.2.2.2.2.2.2.2.2.2.2.2.2.2
  have hl := cst_long hz hL.2.2.1 hL.2.2.2.1 z3
  have hM := md_cls hL.2.1 z3.1
  have hc : aC h3 = aC h := z3.1.2.2.1
  have ha := z3.2.1
  have hb := z3.2.2
  cases ho : o.1 with
  | ok v =>
    rw [ho] at z1
    have e1 : r = .ok (iI v) := z1
    subst e1
    have hv2 := hv v ho
    have lk : ∀ s : Int64, Okp (p_L_lock_16 (c + 88) (iI 0) s h3) (fun r h' => r = iI 0 ∧ h' = uL h3 (c + 88) 0 s) := by
      intro s
      unfold p_L_lock_16
      refine ok_ck ⟨hl.1, by rw [hl.2]; exact ix_0⟩ (ok_nm (ok_some ?_))
      rw [tn_0]
      exact ⟨rfl, rfl⟩
    show Okp (if iI v = 0 then p_L_lock_16 (c + 88) (iI 0) 0 h3 else p_L_lock_16 (c + 88) (iI 0) 1 h3) _
    rw [ifc (show (iI v = (0 : Int32)) = (v = 0) by rw [j_0, j_eq (by omega) (by omega) (by decide) (by decide)])]
    by_cases c0 : v = 0
    · rw [if_pos c0]
      refine ok_to (lk 0) ?_
      rintro r h' ⟨y1, y2⟩
      subst y1 y2
      exact ⟨rfl, ck_uL z2, md_uL hM, fun w ew => by cases ew; rw [w_L1]; exact (show lkv v = 0 from if_pos c0).symm, hl.1, hl.2, ha, hb, hc⟩
    · rw [if_neg c0]
      refine ok_to (lk 1) ?_
      rintro r h' ⟨y1, y2⟩
      subst y1 y2
      exact ⟨rfl, ck_uL z2, md_uL hM, fun w ew => by cases ew; rw [w_L1]; exact (show lkv v = 1 from if_neg c0).symm, hl.1, hl.2, ha, hb, hc⟩
  | error e =>
    rw [ho] at z1
    have e1 : r = .error e := z1
    subst e1
    show Okp (g e h3) _
    rw [hg e h3 ho]
    exact ok_some ⟨rfl, z2, hM, fun w ew => (by cases ew), hl.1, hl.2, ha, hb, hc⟩
theorem blk_lock {xs : Nat → Int32} {L : Nat} {k : Nat → Nat → Nat → Int32 → AH → Option (Int32 × AH)} {c i : Nat} {S : Cs} {h : AH} {Q : Int32 → AH → Prop} (hi : i ≤ 511) (hx : 4 * i + 4 ≤ L) (hL2 : L ≤ 2048) (hL : LwI c i S h) (hK : ∀ S' h', LwI c (i + 1) S' h' → Okp (k c (c + 59) (c + 88) (iI (4 * (i : Int)) + iI 4) h') Q) : Okp (p_L_law_1102 xs L k c (c + 59) (c + 88) (iI (4 * (i : Int))) h) Q := by
  have hG := csG_of hL.1
  have hr := ivS_rdy (h := h) hL.2.2.2.2.1 hG hi (by have := hL.2.2.2.2.2.1; omega) (by have := hL.2.2.2.2.2.2; omega)
  have x1 : ix (iI (4 * (i : Int)) + iI 1) L := by rw [j_add]; exact j_ix (by omega) (by omega) (by omega)
  obtain ⟨a, e1, a1, a2⟩ := j_all (xs (iI (4 * (i : Int)) + iI 1).toNatClampNeg)
  have x2 : ix (iI (4 * (i : Int)) + iI 2) L := by rw [j_add]; exact j_ix (by omega) (by omega) (by omega)
  obtain ⟨b, e2, b1, b2⟩ := j_all (xs (iI (4 * (i : Int)) + iI 2).toNatClampNeg)
  unfold p_L_law_1102 p_L_lock p_L_lock_0
  simp only [ck_p x1, ck_p x2, e1, e2]
  refine ok_bR (ok_ck (of_eq_false hL.1.1.1) (ok_ck (by omega) (ok_ck hL.1.1.2.1 (wr_lock hL (f_lock hL.1 hr a1 a2 b1 b2) (fun v hv => val_lo hv) (fun e h3 he => ?_))))) ?_
  · rcases err_lo he with e0 | e0 <;> subst e0 <;> rfl
  rintro r4 h5 hW
  have hM5 := hW.2.2.1
  refine ok_ck hM5.1.1.2.1 (ok_bR (g_lock hM5 hG a1 a2 b1 b2) ?_)
  rintro r8 h11 hA
  have hL' := law_in hi hL hW hA.2.2.1 hA.2.2.2 (iv_lo hL.2.2.2.2.1)
  have hk : Okp (p_L_law_1174 xs L k c (c + 59) (c + 88) (iI (4 * (i : Int))) h11) Q := by unfold p_L_law_1174 p_L_law_1463; exact hK _ _ hL'
  refine ok_ck hL'.2.1.1.1.2.1 (ok_eq (g_thrown hL'.2.1.1) ?_)
  have ht := oc_man hA
  have w1 := hW.1
  have w4 := hW.2.2.2.1
  have hvv := fun v => val_lo (S := S) (a := a) (b := b) (v := v)
  have hee := fun e => err_lo (S := S) (a := a) (b := b) (e := e)
  have h21 := hA.2.1
  have hpL : aL h11 = aL h5 := hA.2.2.2.2.2.2.1
  subst w1
  rw [ht, if_pos rfl]
  unfold p_L_law_1168
  cases ho : (loM S a b).1 with
  | ok v =>
    have hv2 := hvv v ho
    rw [ho] at w4 h21
    rw [if_pos (show iI (oc cd2 (.ok v : Except Nat Int)) = 0 from j_0.symm)]
    refine ok_ck ⟨hL'.2.2.1, by rw [hL'.2.2.2.1]; exact ix_0⟩ ?_
    rw [tn_0, hpL, w4 v rfl, h21 v rfl, ifc (show (iI v = (0 : Int32)) = (v = 0) by rw [j_0, j_eq (by omega) (by omega) (by decide) (by decide)])]
    by_cases c0 : v = 0
    · rw [if_pos c0, show lkv v = 0 from if_pos c0, lg_same, if_pos rfl]; exact hk
    · rw [if_neg c0, show lkv v = 1 from if_neg c0, lg_same, if_pos rfl]; exact hk
  | error e =>
    rw [← ho, if_neg (cd_n0 cd2_ok (fun e he => (hee e he).elim Or.inl (fun z => Or.inr (Or.inr z))) ho)]
    exact hk
theorem blk_write {xs : Nat → Int32} {L : Nat} {k : Nat → Nat → Nat → Int32 → AH → Option (Int32 × AH)} {c i : Nat} {S : Cs} {h : AH} {Q : Int32 → AH → Prop} (hi : i ≤ 511) (hx : 4 * i + 4 ≤ L) (hL2 : L ≤ 2048) (hL : LwI c i S h) (hK : ∀ S' h', LwI c (i + 1) S' h' → Okp (k c (c + 59) (c + 88) (iI (4 * (i : Int)) + iI 4) h') Q) : Okp (p_L_law_1257 xs L k c (c + 59) (c + 88) (iI (4 * (i : Int))) h) Q := by
  have hG := csG_of hL.1
  have hz : c + 88 < aZ h := hL.1.1.2.2.2.2.2.2.2.2.2.2.2.2.2.2
  unfold p_L_law_1257 p_L_law_1463
  refine ok_ck hL.1.1.2.1 (ok_bR (f_write hL.1) ?_)
  rintro r2 h3 ⟨z1, z2, z3⟩
  have hl := cst_long hz hL.2.2.1 hL.2.2.2.1 z3
  have hM := md_cls hL.2.1 z3.1
  have hc : aC h3 = aC h := z3.1.2.2.1
  have ha := z3.2.1
  have hb := z3.2.2
  refine ok_ck hM.1.1.2.1 (ok_bR (g_write hM hG) ?_)
  rintro r5 h6 ⟨y1, y2, y3⟩
  subst z1 y1
  rw [if_pos rfl]
  have hQ3 : ∀ i, i < (cQ S).length → (sv S i).2.2.1 < 3 := by
    obtain ⟨fs, qs, f1, f2, f3, f4, f5, f6, f7⟩ := hL.1.2.2.2.2.2.2.1
    exact fun i hi => (f6.2 i _ (sv_at hi)).2.2.2.2.2.2.2.2.2.1
  have hW : WrO (β := Int) cdI c h S (wrM S).2 (.ok 0) (fun _ => aL h3 (c + 88) 0) (iI 0) h3 := ⟨rfl, z2, hM, fun v _ => rfl, hl.1, hl.2, ha, hb, hc⟩
  have hL' := law_in hi hL hW y2 y3 (iv_wr hL.2.2.2.2.1 hQ3)
  exact hK _ _ hL'
theorem blk_queued {xs : Nat → Int32} {L : Nat} {k : Nat → Nat → Nat → Int32 → AH → Option (Int32 × AH)} {c i : Nat} {S : Cs} {h : AH} {Q : Int32 → AH → Prop} (hi : i ≤ 511) (hx : 4 * i + 4 ≤ L) (hL2 : L ≤ 2048) (hL : LwI c i S h) (hK : ∀ S' h', LwI c (i + 1) S' h' → Okp (k c (c + 59) (c + 88) (iI (4 * (i : Int)) + iI 4) h') Q) : Okp (p_L_law_1270 xs L k c (c + 59) (c + 88) (iI (4 * (i : Int))) h) Q := by
  have hG := csG_of hL.1
  unfold p_L_law_1270 p_L_law_1463
  refine ok_ck hL.1.1.2.1 (ok_eq (f_queued hL.1) ?_)
  refine ok_ck hL.2.1.1.1.2.1 (ok_bR (g_queued hL.2.1 hG) ?_)
  rintro r5 h6 ⟨y1, y2, y3⟩
  subst y1
  rw [if_pos rfl]
  have hW : WrO (β := Int) cdI c h S S (.ok 0) (fun _ => aL h (c + 88) 0) (iI 0) h := ⟨rfl, hL.1, hL.2.1, fun v _ => rfl, hL.2.2.1, hL.2.2.2.1, by omega, by omega, rfl⟩
  have hL' := law_in hi hL hW y2 y3 (ivS_mono hL.2.2.2.2.1 (Nat.le_succ _))
  exact hK _ _ hL'
theorem lwI_next {c i : Nat} {S : Cs} {h : AH} (hL : LwI c i S h) : LwI c (i + 1) S h := ⟨hL.1, hL.2.1, hL.2.2.1, hL.2.2.2.1, ivS_mono hL.2.2.2.2.1 (Nat.le_succ _), by have := hL.2.2.2.2.2.1; omega, by have := hL.2.2.2.2.2.2; omega⟩
/-! ===== the law's loop ===== -/
theorem law_loop {xs : Nat → Int32} {L c : Nat} (hL2 : L ≤ 2048) : ∀ (k i n : Nat) (h : AH) (S : Cs), LwI c i S h → i + k = 512 → k < n → Okp (p_L_law_23 xs L n c (c + 59) (c + 88) (iI (4 * (i : Int))) h) (fun r _ => r = iI 1) := by
  intro k
  induction k with
  | zero =>
    intro i n h S hL hik hn
    obtain ⟨n, rfl⟩ : ∃ m, n = m + 1 := ⟨n - 1, by omega⟩
    unfold p_L_law_23
    rw [j_nI, j_sub, ifc (j_lt (by omega) (by omega) (by omega) (by omega)), if_pos (by omega)]
    exact ok_some rfl
  | succ k ih =>
    intro i n h S hL hik hn
    obtain ⟨n, rfl⟩ : ∃ m, n = m + 1 := ⟨n - 1, by omega⟩
    have hi : i ≤ 511 := by omega
    have hK : ∀ S' h', LwI c (i + 1) S' h' → Okp (p_L_law_23 xs L n c (c + 59) (c + 88) (iI (4 * (i : Int)) + iI 4) h') (fun r _ => r = iI 1) := by
      intro S' h' z
      rw [j_add, show (4 * (i : Int) + 4) = 4 * ((i + 1 : Nat) : Int) by omega]
      exact ih (i + 1) n h' S' z (by omega) (by omega)
    unfold p_L_law_23
    rw [j_nI, j_sub, ifc (j_lt (by omega) (by omega) (by omega) (by omega))]
    by_cases d : (L : Int) - 4 < 4 * (i : Int)
    · rw [if_pos d]; exact ok_some rfl
    · rw [if_neg d]
      have hx : 4 * i + 4 ≤ L := by omega
      refine ok_ck (j_ix (by omega) (by omega) (by omega)) ?_
      by_cases c0 : ((xs (iI (4 * (i : Int))).toNatClampNeg) &&& (iI 31)) = iI 0
      · rw [if_pos c0]; exact blk_type hi hx hL2 hL hK
      rw [if_neg c0]
      by_cases c1 : ((xs (iI (4 * (i : Int))).toNatClampNeg) &&& (iI 31)) = iI 1
      · rw [if_pos c1]; exact blk_erase hi hx hL2 hL hK
      rw [if_neg c1]
      by_cases c2 : ((xs (iI (4 * (i : Int))).toNatClampNeg) &&& (iI 31)) = iI 2
      · rw [if_pos c2]; exact blk_moveTo hi hx hL2 hL hK
      rw [if_neg c2]
      by_cases c3 : ((xs (iI (4 * (i : Int))).toNatClampNeg) &&& (iI 31)) = iI 3
      · rw [if_pos c3]; exact blk_undo hi hx hL2 hL hK
      rw [if_neg c3]
      by_cases c4 : ((xs (iI (4 * (i : Int))).toNatClampNeg) &&& (iI 31)) = iI 4
      · rw [if_pos c4]; exact blk_redo hi hx hL2 hL hK
      rw [if_neg c4]
      by_cases c5 : ((xs (iI (4 * (i : Int))).toNatClampNeg) &&& (iI 31)) = iI 5
      · rw [if_pos c5]; exact blk_place hi hx hL2 hL hK
      rw [if_neg c5]
      by_cases c6 : ((xs (iI (4 * (i : Int))).toNatClampNeg) &&& (iI 31)) = iI 6
      · rw [if_pos c6]; exact blk_length hi hx hL2 hL hK
      rw [if_neg c6]
      by_cases c7 : ((xs (iI (4 * (i : Int))).toNatClampNeg) &&& (iI 31)) = iI 7
      · rw [if_pos c7]; exact blk_letter hi hx hL2 hL hK
      rw [if_neg c7]
      by_cases c8 : ((xs (iI (4 * (i : Int))).toNatClampNeg) &&& (iI 31)) = iI 8
      · rw [if_pos c8]; exact blk_letterAnew hi hx hL2 hL hK
      rw [if_neg c8]
      by_cases c9 : ((xs (iI (4 * (i : Int))).toNatClampNeg) &&& (iI 31)) = iI 9
      · rw [if_pos c9]; exact blk_version hi hx hL2 hL hK
      rw [if_neg c9]
      by_cases c10 : ((xs (iI (4 * (i : Int))).toNatClampNeg) &&& (iI 31)) = iI 10
      · rw [if_pos c10]; exact blk_ask hi hx hL2 hL hK
      rw [if_neg c10]
      by_cases c11 : ((xs (iI (4 * (i : Int))).toNatClampNeg) &&& (iI 31)) = iI 11
      · rw [if_pos c11]; exact blk_come hi hx hL2 hL hK
      rw [if_neg c11]
      by_cases c12 : ((xs (iI (4 * (i : Int))).toNatClampNeg) &&& (iI 31)) = iI 12
      · rw [if_pos c12]; exact blk_drop hi hx hL2 hL hK
      rw [if_neg c12]
      by_cases c13 : ((xs (iI (4 * (i : Int))).toNatClampNeg) &&& (iI 31)) = iI 13
      · rw [if_pos c13]; exact blk_state hi hx hL2 hL hK
      rw [if_neg c13]
      by_cases c14 : ((xs (iI (4 * (i : Int))).toNatClampNeg) &&& (iI 31)) = iI 14
      · rw [if_pos c14]; exact blk_spared hi hx hL2 hL hK
      rw [if_neg c14]
      by_cases c15 : ((xs (iI (4 * (i : Int))).toNatClampNeg) &&& (iI 31)) = iI 15
      · rw [if_pos c15]; exact blk_lock hi hx hL2 hL hK
      rw [if_neg c15]
      by_cases c16 : ((xs (iI (4 * (i : Int))).toNatClampNeg) &&& (iI 31)) = iI 16
      · rw [if_pos c16]; exact blk_save hi hx hL2 hL hK
      rw [if_neg c16]
      by_cases c17 : ((xs (iI (4 * (i : Int))).toNatClampNeg) &&& (iI 31)) = iI 17
      · rw [if_pos c17]; exact blk_write hi hx hL2 hL hK
      rw [if_neg c17]
      by_cases c18 : ((xs (iI (4 * (i : Int))).toNatClampNeg) &&& (iI 31)) = iI 18
      · rw [if_pos c18]; exact blk_queued hi hx hL2 hL hK
      rw [if_neg c18]
      by_cases c19 : ((xs (iI (4 * (i : Int))).toNatClampNeg) &&& (iI 31)) = iI 19
      · rw [if_pos c19]; exact blk_savedVersion hi hx hL2 hL hK
      rw [if_neg c19]
      by_cases c20 : ((xs (iI (4 * (i : Int))).toNatClampNeg) &&& (iI 31)) = iI 20
      · rw [if_pos c20]; exact blk_savedLength hi hx hL2 hL hK
      rw [if_neg c20]
      by_cases c21 : ((xs (iI (4 * (i : Int))).toNatClampNeg) &&& (iI 31)) = iI 21
      · rw [if_pos c21]; exact blk_savedLetter hi hx hL2 hL hK
      rw [if_neg c21]
      unfold p_L_law_1463
      exact hK _ _ (lwI_next hL)

