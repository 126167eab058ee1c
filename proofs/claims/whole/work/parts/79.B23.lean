
/-! ===== a call of the law ===== -/
def LwI (c i : Nat) (S : Cs) (h : AH) : Prop := CkR h c S ∧ MdR h (c + 59) S ∧ aK h (c + 88) = 23 ∧ aN h (c + 88) = 1 ∧ IvS S i ∧ aZ h + 1000 * (512 - i) ≤ aC h ∧ aU h + 14100 * (512 - i) + 1000 ≤ gS
def oc {β : Type} (cd : Nat → Int) (x : Except Nat β) : Int := match x with | .ok _ => 0 | .error e => cd e
def WrO {β : Type} (cd : Nat → Int) (c : Nat) (h : AH) (S S' : Cs) (o : Except Nat β) (val : β → Int64) : Int32 → AH → Prop := fun r h' => r = iI (oc cd o) ∧ CkR h' c S' ∧ MdR h' (c + 59) S ∧ (∀ v, o = .ok v → aL h' (c + 88) 0 = val v) ∧ aK h' (c + 88) = 23 ∧ aN h' (c + 88) = 1 ∧ aZ h' ≤ aZ h + 1000 ∧ aU h' ≤ aU h + 14100 ∧ aC h' = aC h
theorem cst_long {c k n : Nat} {h h' : AH} (hz : c + 88 < aZ h) (k1 : aK h (c + 88) = 23) (k2 : aN h (c + 88) = 1) (x : Cst c h k n h') : aK h' (c + 88) = 23 ∧ aN h' (c + 88) = 1 := ⟨by rw [pr_K x.1 hz]; exact k1, by rw [pr_N x.1 hz]; exact k2⟩
theorem ix_0 : ix (iI 0) 1 := by decide +kernel
theorem tn_0 : (iI 0).toNatClampNeg = 0 := by decide +kernel
theorem w_L1 (h : AH) (a k : Nat) (v : Int64) : aL (uL h a k v) a k = v := if_pos ⟨rfl, rfl⟩
theorem wr_std {c i : Nat} {h : AH} {S : Cs} {o : Out} {cd : Nat → Int} {x : Option (Except Nat Int32 × AH)} {g : Nat → AH → Option (Int32 × AH)} (hL : LwI c i S h) (hx : Okp x (Ans c h o)) (hg : ∀ e h3, o.1 = .error e → g e h3 = some (iI (cd e), h3)) : Okp (bC x (fun r2 h3 => ck (aK h3 (c + 88) = 23 ∧ ix (iI 0) (aN h3 (c + 88))) <| nm (uL h3 (c + 88) (iI 0).toNatClampNeg (r2.toInt64)) fun h7 => some (iI 0, h7)) g) (WrO cd c h S o.2 o.1 (fun v => (iI v).toInt64)) := by
  obtain ⟨r, h3, e, z1, z2, z3⟩ := hx
  subst e
  have hz : c + 88 < aZ h := hL.1.1.2.2.2.2.2.2.2.2.2.2.2.2.2.2
  have hl := cst_long hz hL.2.2.1 hL.2.2.2.1 z3
  have hM := md_cls hL.2.1 z3.1
  have hc : aC h3 = aC h := z3.1.2.2.1
  have ha := z3.2.1
  have hb := z3.2.2
  cases ho : o.1 with
  | ok v =>
    rw [ho] at z1
    have e1 : r = .ok (iI v) := z1
    subst e1
    show Okp (ck (aK h3 (c + 88) = 23 ∧ ix (iI 0) (aN h3 (c + 88))) <| nm (uL h3 (c + 88) (iI 0).toNatClampNeg ((iI v).toInt64)) fun h7 => some (iI 0, h7)) _
    refine ok_ck ⟨hl.1, by rw [hl.2]; exact ix_0⟩ (ok_nm (ok_some ?_))
    rw [tn_0]
    exact ⟨rfl, ck_uL z2, md_uL hM, fun w ew => by cases ew; exact w_L1 _ _ _ _, hl.1, hl.2, ha, hb, hc⟩
  | error e =>
    rw [ho] at z1
    have e1 : r = .error e := z1
    subst e1
    show Okp (g e h3) _
    rw [hg e h3 ho]
    exact ok_some ⟨rfl, z2, hM, fun w ew => (by cases ew), hl.1, hl.2, ha, hb, hc⟩
theorem wr_stdV {c i : Nat} {h : AH} {S : Cs} {o : Except Nat Int32} {cd : Nat → Int} {x : Option (Except Nat Int32 × AH)} {g : Nat → AH → Option (Int32 × AH)} (hL : LwI c i S h) (hx : Okp x (AnsV c h S o)) (hg : ∀ e h3, o = .error e → g e h3 = some (iI (cd e), h3)) : Okp (bC x (fun r2 h3 => ck (aK h3 (c + 88) = 23 ∧ ix (iI 0) (aN h3 (c + 88))) <| nm (uL h3 (c + 88) (iI 0).toNatClampNeg (r2.toInt64)) fun h7 => some (iI 0, h7)) g) (WrO cd c h S S o (fun v => v.toInt64)) := by
  obtain ⟨r, h3, e, z1, z2, z3⟩ := hx
  subst e
  subst z1
  have hz : c + 88 < aZ h := hL.1.1.2.2.2.2.2.2.2.2.2.2.2.2.2.2
  have hl := cst_long hz hL.2.2.1 hL.2.2.2.1 z3
  have hM := md_cls hL.2.1 z3.1
  have hc : aC h3 = aC h := z3.1.2.2.1
  have ha := z3.2.1
  have hb := z3.2.2
  cases r with
  | ok v =>
    show Okp (ck (aK h3 (c + 88) = 23 ∧ ix (iI 0) (aN h3 (c + 88))) <| nm (uL h3 (c + 88) (iI 0).toNatClampNeg (v.toInt64)) fun h7 => some (iI 0, h7)) _
    refine ok_ck ⟨hl.1, by rw [hl.2]; exact ix_0⟩ (ok_nm (ok_some ?_))
    rw [tn_0]
    exact ⟨rfl, ck_uL z2, md_uL hM, fun w ew => by cases ew; exact w_L1 _ _ _ _, hl.1, hl.2, ha, hb, hc⟩
  | error e =>
    show Okp (g e h3) _
    rw [hg e h3 rfl]
    exact ok_some ⟨rfl, z2, hM, fun w ew => (by cases ew), hl.1, hl.2, ha, hb, hc⟩
theorem lg_same (x : Int64) : lg_cmp x x = 0 := by
  unfold lg_cmp
  rw [if_neg (Int64.lt_irrefl), if_pos rfl]
theorem cd_n0 {β : Type} {cd : Nat → Int} (hcd : ∀ e, e = 1 ∨ e = 2 ∨ e = 3 → cd e = 1 ∨ cd e = 2 ∨ cd e = 3) {o : Except Nat β} (he : ∀ e, o = .error e → e = 1 ∨ e = 2 ∨ e = 3) {e : Nat} (h : o = .error e) : ¬ iI (oc cd o) = 0 := by
  subst h
  have := hcd e (he e rfl)
  show ¬ iI (cd e) = 0
  rw [j_0, j_eq (by omega) (by omega) (by decide) (by decide)]
  omega
/-- what the law does behind both calls -/
theorem law_fin {β : Type} {c i : Nat} {h h5 h11 : AH} {S S' : Cs} {o : Except Nat β} {cd : Nat → Int} {val : β → Int64} {r4 r10 : Int32} {K : AH → Option (Int32 × AH)} {Q : Int32 → AH → Prop} (hi : i ≤ 511) (hL : LwI c i S h) (hW : WrO cd c h S S' o val r4 h5) (ht : aI h11 (c + 59) 31 = iI (oc cd o)) (hv : ∀ v, o = .ok v → r10.toInt64 = val v) (hM : MdR h11 (c + 59) S') (hp : Pw (mdW (c + 59)) h5 h11) (hI : IvS S' (i + 1)) (hn0 : ∀ e, o = .error e → ¬ iI (oc cd o) = 0) (hK : ∀ h', LwI c (i + 1) S' h' → Okp (K h') Q) :
    Okp (ck (aK h11 (c + 59) = 13) <| bR (p_X11_thrown (c + 59) h11) fun r13 h14 => if r13 = r4 then if r4 = 0 then ck (aK h14 (c + 88) = 23 ∧ ix (iI 0) (aN h14 (c + 88))) <| if (lg_cmp (aL h14 (c + 88) (iI 0).toNatClampNeg) (r10.toInt64)) = 0 then K h14 else some ((iI 0), h14) else K h14 else some ((iI 0), h14)) Q := by
  obtain ⟨w1, w2, w3, w4, w5, w6, w7, w8, w9⟩ := hW
  have hL' : LwI c (i + 1) S' h11 := by
    refine ⟨ck_mod w2 w3.1 hp, hM, by rw [hp.1]; exact w5, by rw [hp.2.1]; exact w6, hI, ?_, ?_⟩
    · have z := hp.2.2.2.2.1
      have y := hp.2.2.2.2.2.2.2.1
      have := hL.2.2.2.2.2.1
      omega
    · have z := hp.2.2.2.2.2.1
      have := hL.2.2.2.2.2.2
      omega
  refine ok_ck hM.1.1.2.1 (ok_eq (g_thrown hM.1) ?_)
  subst w1
  rw [ht, if_pos rfl]
  cases ho : o with
  | ok v =>
    subst ho
    rw [if_pos (show iI (oc cd (.ok v : Except Nat β)) = 0 from j_0.symm)]
    refine ok_ck ⟨hL'.2.2.1, by rw [hL'.2.2.2.1]; exact ix_0⟩ ?_
    rw [tn_0, hp.2.2.2.1, w4 v rfl, hv v rfl, lg_same, if_pos rfl]
    exact hK h11 hL'
  | error e =>
    rw [← ho, if_neg (hn0 e ho)]
    exact hK h11 hL'
theorem oc_man {cd : Nat → Int} {m : Nat} {h : AH} {o : Out} {r : Int32} {h' : AH} (x : MAn cd m h o r h') : aI h' m 31 = iI (oc cd o.1) := by
  have y := x.1
  cases ho : o.1 with
  | ok v => rw [ho] at y; exact y
  | error e => rw [ho] at y; exact y
theorem nC_all (x : Int32) : ∃ ch : Int, nC x = iI ch ∧ 0 ≤ ch ∧ ch ≤ 65535 := by
  have e : (x.toUInt32 % 65536).toNat = x.toUInt32.toNat % 65536 := by rw [UInt32.toNat_mod]; rfl
  refine ⟨((x.toUInt32 % 65536).toNat : Nat), ?_, by omega, by omega⟩
  unfold nC iI
  generalize x.toUInt32 % 65536 = n
  apply Int32.toBitVec_inj.mp
  rw [UInt32.toBitVec_toInt32, Int32.toBitVec_ofInt, BitVec.ofInt_natCast]
  apply BitVec.eq_of_toNat_eq
  rw [BitVec.toNat_ofNat]
  exact (Nat.mod_eq_of_lt n.toNat_lt).symm
theorem cdI_ok : ∀ e, e = 1 ∨ e = 2 ∨ e = 3 → cdI e = 1 ∨ cdI e = 2 ∨ cdI e = 3 := by
  intro e h
  unfold cdI
  omega
theorem cd2_ok : ∀ e, e = 1 ∨ e = 2 ∨ e = 3 → cd2 e = 1 ∨ cd2 e = 2 ∨ cd2 e = 3 := by
  intro e h
  unfold cd2
  split <;> omega

