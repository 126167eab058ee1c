/-! java/util/AbstractCollection.<init>()V -/
def p_Jxa1e45_init_da8c8_0  (v0 : Nat) (h : AH) : Option (Unit × AH) :=
  ck (v0 ≠ 0) <|
  some ((), h)
set_option maxHeartbeats 4000000 in
set_option maxRecDepth 100000 in
theorem s_Jxa1e45_init_da8c8_0 {p : Program} {l : Launch} {e : Env} {s : State} {m : MethodId} {args : Array Value} {below : List Frame} {meth : Method} {c : Code} {G : GG} {hs : AH} {r : Unit} {h' : AH} (C : Cx G hs p s m args meth c cJxa1e45_init_da8c8 1 RJxa1e45 (.code yJxa1e45_init_da8c8 cJxa1e45_init_da8c8 1 none :: MW) none "<init>")   {v0 : Nat} {h : AH} {H : Heap} {locs : List Loc} {cells slots : Nat} {ls : Array Slot} (hR : Rp G h H) (hL : ∀ q ∈ locs, gB G ≤ q.base) (hl : zl ls 1 [(0, zr v0)]) (hp : p_Jxa1e45_init_da8c8_0  v0 h = some (r, h')) : W p l e (gR G hs 1 40) s m args below meth c H locs cells slots (MQ below (Qcc G (none) h') args s (gC G - aZ hs) (gS - aU hs) (fun q => gB G ≤ q)) (F0 m 0 ls []) := by
  obtain ⟨hx, hb, hml, hown, hts, hT, hK, rs, hlk, hret, hnm⟩ := id C
  have hm : ∀ w ∈ MW, w.before args s = true := fun w hw => hts w (hT w hw)
  unfold p_Jxa1e45_init_da8c8_0 at hp
  refine z_aload_n hx hb dJxa1e45_init_da8c8_0 rfl (zl_at hl 0 rfl) ?_
  obtain ⟨k1, hp⟩ := ck_i hp
  refine r_objInit C k1 (hm _ mw_50) (hm _ mw_33) (hm _ mw_34) (zl_size hl) dJxa1e45_init_da8c8_1 (by decide) (by simp [zr_cat, in_cat]) ?_
  cases hp
  exact r_vret C hR hL dJxa1e45_init_da8c8_4
def p_Jxa1e45_init_da8c8 (v0 : Nat) (h : AH) : Option (Unit × AH) := ck (v0 ≠ 0) <| p_Jxa1e45_init_da8c8_0 v0 h
theorem c_Jxa1e45_init_da8c8 (l : Launch) (G : GG) (v0 : Nat) (h : AH) (r : Unit) (h' : AH) (hp : p_Jxa1e45_init_da8c8 v0 h = some (r, h')) : Ct l yJxa1e45_init_da8c8 (.code yJxa1e45_init_da8c8 cJxa1e45_init_da8c8 1 none :: MW) G 1 40 [.ref (v0 - 1)] h (none) h' := by
  obtain ⟨hz0, hp⟩ := ck_i hp
  refine Ct.of (by decide +kernel) (Nat.le_of_ble_eq_true rfl) ?_
  intro p e s m args below meth c C hR ls hl
  have hl : zl ls 1 [(0, zr v0)] := ⟨by rw [zr_p hz0]; exact hl, by simp [zr_cat, in_cat]⟩
  exact s_Jxa1e45_init_da8c8_0 C hR (fun _ hq => nomatch hq) hl hp
/-! java/util/AbstractList.<init>()V -/
def p_Jxc12de_init_da8c8_0  (v0 : Nat) (h : AH) : Option (Unit × AH) :=
  ck (aK h v0 ≠ 0) <|
  bR (p_Jxa1e45_init_da8c8 v0 h) fun r2 h3 =>
  ck (aK h3 v0 = 1) <|
  nm (uI h3 v0 0 (iI 0)) fun h5 =>
  some ((), h5)
set_option maxHeartbeats 4000000 in
set_option maxRecDepth 100000 in
theorem s_Jxc12de_init_da8c8_0 {p : Program} {l : Launch} {e : Env} {s : State} {m : MethodId} {args : Array Value} {below : List Frame} {meth : Method} {c : Code} {G : GG} {hs : AH} {r : Unit} {h' : AH} (C : Cx G hs p s m args meth c cJxc12de_init_da8c8 1 RJxc12de (.code yJxc12de_init_da8c8 cJxc12de_init_da8c8 1 none :: MW) none "<init>")   {v0 : Nat} {h : AH} {H : Heap} {locs : List Loc} {cells slots : Nat} {ls : Array Slot} (hR : Rp G h H) (hL : ∀ q ∈ locs, gB G ≤ q.base) (hl : zl ls 1 [(0, zr v0)]) (hp : p_Jxc12de_init_da8c8_0  v0 h = some (r, h')) : W p l e (gR G hs 2 60) s m args below meth c H locs cells slots (MQ below (Qcc G (none) h') args s (gC G - aZ hs) (gS - aU hs) (fun q => gB G ≤ q)) (F0 m 0 ls []) := by
  obtain ⟨hx, hb, hml, hown, hts, hT, hK, rs, hlk, hret, hnm⟩ := id C
  have hm : ∀ w ∈ MW, w.before args s = true := fun w hw => hts w (hT w hw)
  unfold p_Jxc12de_init_da8c8_0 at hp
  refine z_aload_n hx hb dJxc12de_init_da8c8_0 rfl (zl_at hl 0 rfl) ?_
  obtain ⟨k1, hp⟩ := ck_i hp
  obtain ⟨r2, h3, er2, hp⟩ := bR_i hp
  refine r_callI (n := 0) (As := []) (rest := []) C (c_Jxa1e45_init_da8c8 l G v0 h r2 h3 er2) hR hL k1 mw_47 mw_48 mw_2 mw_49 rfl (by decide +kernel) (by decide) rfl (zl_size hl) rfl (by simp [zr_cat, in_cat]) dJxc12de_init_da8c8_1 (st2 := []) rfl (fun H locs cells slots hR hL => ?_)
  refine z_aload_n hx hb dJxc12de_init_da8c8_4 rfl (zl_at hl 0 rfl) ?_
  refine lv_iconst (v := iI 0) hx hb dJxc12de_init_da8c8_5 rfl ?_
  obtain ⟨k4, hp⟩ := ck_i hp
  refine r_putI (ci := 0) (C := RJx4a65c) (T := TJx4a65c) (N := 3) hx hb hm ii_Jx4a65c tyJx4a65c_ok nmJx4a65c hown hK hR hL rfl k4 0 (by decide) (hm _ mw_55) (fun _ h9 => h9) (Or.inl rfl) rfl rfl (fun _ _ _ => rfl) dJxc12de_init_da8c8_6 (fun H locs hR hL => ?_)
  obtain ⟨h5, hp, hR⟩ := nm_h hp hR
  cases hp
  exact r_vret C hR hL dJxc12de_init_da8c8_9
def p_Jxc12de_init_da8c8 (v0 : Nat) (h : AH) : Option (Unit × AH) := ck (v0 ≠ 0) <| p_Jxc12de_init_da8c8_0 v0 h
theorem c_Jxc12de_init_da8c8 (l : Launch) (G : GG) (v0 : Nat) (h : AH) (r : Unit) (h' : AH) (hp : p_Jxc12de_init_da8c8 v0 h = some (r, h')) : Ct l yJxc12de_init_da8c8 (.code yJxc12de_init_da8c8 cJxc12de_init_da8c8 1 none :: MW) G 2 60 [.ref (v0 - 1)] h (none) h' := by
  obtain ⟨hz0, hp⟩ := ck_i hp
  refine Ct.of (by decide +kernel) (Nat.le_of_ble_eq_true rfl) ?_
  intro p e s m args below meth c C hR ls hl
  have hl : zl ls 1 [(0, zr v0)] := ⟨by rw [zr_p hz0]; exact hl, by simp [zr_cat, in_cat]⟩
  exact s_Jxc12de_init_da8c8_0 C hR (fun _ hq => nomatch hq) hl hp
/-! java/util/ArrayList.<init>()V -/
def p_Jx4a65c_init_da8c8_0  (v0 : Nat) (h : AH) : Option (Unit × AH) :=
  ck (aK h v0 ≠ 0) <|
  bR (p_Jxc12de_init_da8c8 v0 h) fun r2 h3 =>
  ck (aK h3 v0 = 1) <|
  nm (uR h3 v0 1 (aE h3)) fun h5 =>
  some ((), h5)
set_option maxHeartbeats 4000000 in
set_option maxRecDepth 100000 in
theorem s_Jx4a65c_init_da8c8_0 {p : Program} {l : Launch} {e : Env} {s : State} {m : MethodId} {args : Array Value} {below : List Frame} {meth : Method} {c : Code} {G : GG} {hs : AH} {r : Unit} {h' : AH} (C : Cx G hs p s m args meth c cJx4a65c_init_da8c8 1 RJx4a65c (.code yJx4a65c_init_da8c8 cJx4a65c_init_da8c8 1 none :: MW) none "<init>")   {v0 : Nat} {h : AH} {H : Heap} {locs : List Loc} {cells slots : Nat} {ls : Array Slot} (hR : Rp G h H) (hL : ∀ q ∈ locs, gB G ≤ q.base) (hl : zl ls 1 [(0, zr v0)]) (hp : p_Jx4a65c_init_da8c8_0  v0 h = some (r, h')) : W p l e (gR G hs 3 80) s m args below meth c H locs cells slots (MQ below (Qcc G (none) h') args s (gC G - aZ hs) (gS - aU hs) (fun q => gB G ≤ q)) (F0 m 0 ls []) := by
  obtain ⟨hx, hb, hml, hown, hts, hT, hK, rs, hlk, hret, hnm⟩ := id C
  have hm : ∀ w ∈ MW, w.before args s = true := fun w hw => hts w (hT w hw)
  unfold p_Jx4a65c_init_da8c8_0 at hp
  refine z_aload_n hx hb dJx4a65c_init_da8c8_0 rfl (zl_at hl 0 rfl) ?_
  obtain ⟨k1, hp⟩ := ck_i hp
  obtain ⟨r2, h3, er2, hp⟩ := bR_i hp
  refine r_callI (n := 0) (As := []) (rest := []) C (c_Jxc12de_init_da8c8 l G v0 h r2 h3 er2) hR hL k1 mw_44 mw_45 mw_3 mw_46 rfl (by decide +kernel) (by decide) rfl (zl_size hl) rfl (by simp [zr_cat, in_cat]) dJx4a65c_init_da8c8_1 (st2 := []) rfl (fun H locs cells slots hR hL => ?_)
  refine z_aload_n hx hb dJx4a65c_init_da8c8_4 rfl (zl_at hl 0 rfl) ?_
  refine r_gets C hR (hm _ mw_51) dJx4a65c_init_da8c8_5 ?_
  obtain ⟨k4, hp⟩ := ck_i hp
  refine r_putR (ci := 0) (C := RJx4a65c) (T := TJx4a65c) (N := 3) hx hb hm ii_Jx4a65c tyJx4a65c_ok nmJx4a65c hown hK hR hL rfl k4 1 (by decide) (hm _ mw_53) (fun _ h9 => h9) (Or.inl rfl) (zr_fitsA _ _) (fun _ _ _ => rfl) dJx4a65c_init_da8c8_8 (fun H locs hR hL => ?_)
  obtain ⟨h5, hp, hR⟩ := nm_h hp hR
  cases hp
  exact r_vret C hR hL dJx4a65c_init_da8c8_11
def p_Jx4a65c_init_da8c8 (v0 : Nat) (h : AH) : Option (Unit × AH) := ck (v0 ≠ 0) <| p_Jx4a65c_init_da8c8_0 v0 h
theorem c_Jx4a65c_init_da8c8 (l : Launch) (G : GG) (v0 : Nat) (h : AH) (r : Unit) (h' : AH) (hp : p_Jx4a65c_init_da8c8 v0 h = some (r, h')) : Ct l yJx4a65c_init_da8c8 (.code yJx4a65c_init_da8c8 cJx4a65c_init_da8c8 1 none :: MW) G 3 80 [.ref (v0 - 1)] h (none) h' := by
  obtain ⟨hz0, hp⟩ := ck_i hp
  refine Ct.of (by decide +kernel) (Nat.le_of_ble_eq_true rfl) ?_
  intro p e s m args below meth c C hR ls hl
  have hl : zl ls 1 [(0, zr v0)] := ⟨by rw [zr_p hz0]; exact hl, by simp [zr_cat, in_cat]⟩
  exact s_Jx4a65c_init_da8c8_0 C hR (fun _ hq => nomatch hq) hl hp
/-! jdk/internal/util/ArraysSupport.newLength(III)I -/
def p_J8_newLength_cabcc_21  (v0 : Int32) (v1 : Int32) (h : AH) : Option (Int32 × AH) :=
  none
set_option maxHeartbeats 4000000 in
set_option maxRecDepth 100000 in
theorem s_J8_newLength_cabcc_21 {p : Program} {l : Launch} {e : Env} {s : State} {m : MethodId} {args : Array Value} {below : List Frame} {meth : Method} {c : Code} {G : GG} {hs : AH} {r : Int32} {h' : AH} (C : Cx G hs p s m args meth c cJ8_newLength_cabcc 4 RJ8 (.code yJ8_newLength_cabcc cJ8_newLength_cabcc 4 (some .int) :: MW) (some .int) "newLength")   {v0 : Int32} {v1 : Int32} {h : AH} {H : Heap} {locs : List Loc} {cells slots : Nat} {ls : Array Slot} (hR : Rp G h H) (hL : ∀ q ∈ locs, gB G ≤ q.base) (hl : zl ls 4 [(0, .int v0), (1, .int v1)]) (hp : p_J8_newLength_cabcc_21  v0 v1 h = some (r, h')) : W p l e (gR G hs 2 62) s m args below meth c H locs cells slots (MQ below (Qcc G (some (.int r)) h') args s (gC G - aZ hs) (gS - aU hs) (fun q => gB G ≤ q)) (F0 m 21 ls []) := by
  obtain ⟨hx, hb, hml, hown, hts, hT, hK, rs, hlk, hret, hnm⟩ := id C
  have hm : ∀ w ∈ MW, w.before args s = true := fun w hw => hts w (hT w hw)
  unfold p_J8_newLength_cabcc_21 at hp
  refine lv_iload_n hx hb dJ8_newLength_cabcc_21 rfl (zl_at hl 0 rfl) ?_
  refine lv_iload_n hx hb dJ8_newLength_cabcc_22 rfl (zl_at hl 1 rfl) ?_
  exact absurd hp (by simp)
def p_J8_newLength_cabcc_0  (v0 : Int32) (v1 : Int32) (v2 : Int32) (h : AH) : Option (Int32 × AH) :=
  nm ((v0 + (if v1 < v2 then v2 else v1))) fun (x1 : Int32) =>
  if x1 ≤ (iI 0) then
    p_J8_newLength_cabcc_21  v0 v1 h
  else
    if (2147483639 : Int32) < x1 then
      p_J8_newLength_cabcc_21  v0 v1 h
    else
      some (x1, h)
set_option maxHeartbeats 4000000 in
set_option maxRecDepth 100000 in
theorem s_J8_newLength_cabcc_0 {p : Program} {l : Launch} {e : Env} {s : State} {m : MethodId} {args : Array Value} {below : List Frame} {meth : Method} {c : Code} {G : GG} {hs : AH} {r : Int32} {h' : AH} (C : Cx G hs p s m args meth c cJ8_newLength_cabcc 4 RJ8 (.code yJ8_newLength_cabcc cJ8_newLength_cabcc 4 (some .int) :: MW) (some .int) "newLength")   {v0 : Int32} {v1 : Int32} {v2 : Int32} {h : AH} {H : Heap} {locs : List Loc} {cells slots : Nat} {ls : Array Slot} (hR : Rp G h H) (hL : ∀ q ∈ locs, gB G ≤ q.base) (hl : zl ls 4 [(0, .int v0), (1, .int v1), (2, .int v2)]) (hp : p_J8_newLength_cabcc_0  v0 v1 v2 h = some (r, h')) : W p l e (gR G hs 2 62) s m args below meth c H locs cells slots (MQ below (Qcc G (some (.int r)) h') args s (gC G - aZ hs) (gS - aU hs) (fun q => gB G ≤ q)) (F0 m 0 ls []) := by
  obtain ⟨hx, hb, hml, hown, hts, hT, hK, rs, hlk, hret, hnm⟩ := id C
  have hm : ∀ w ∈ MW, w.before args s = true := fun w hw => hts w (hT w hw)
  unfold p_J8_newLength_cabcc_0 at hp
  refine lv_iload_n hx hb dJ8_newLength_cabcc_0 rfl (zl_at hl 0 rfl) ?_
  refine lv_iload_n hx hb dJ8_newLength_cabcc_1 rfl (zl_at hl 1 rfl) ?_
  refine lv_iload_n hx hb dJ8_newLength_cabcc_2 rfl (zl_at hl 2 rfl) ?_
  refine r_mmax C hR (hm _ mw_504) (hm _ mw_505) (hm _ mw_20) (hm _ mw_506) (zl_size hl) (by decide) (by simp [zr_cat, in_cat]) dJ8_newLength_cabcc_3 (fun cells slots => ?_)
  refine lv_iadd hx hb dJ8_newLength_cabcc_6 ?_
  refine lv_topi (fun x1 ex1 => ?_)
  replace hp := nm_i hp ex1
  refine z_istore_n (lv' := [(3, .int x1), (0, .int v0), (1, .int v1), (2, .int v2)]) hx hb dJ8_newLength_cabcc_7 rfl hl (by decide) rfl (fun ls hl => ?_)
  refine lv_iconst (v := iI 0) hx hb dJ8_newLength_cabcc_8 rfl ?_
  refine lv_iload_n hx hb dJ8_newLength_cabcc_9 rfl (zl_at hl 0 rfl) ?_
  refine lv_icmp_ge (tgt := 21) hx hb dJ8_newLength_cabcc_10 (by decide) (fun c2 => ?_) (fun c2 => ?_)
  · replace hp := ite_p hp c2
    exact s_J8_newLength_cabcc_21 C  hR hL (zl_sub hl [1, 2] rfl) hp
  · replace hp := ite_n hp c2
    refine lv_iload_n hx hb dJ8_newLength_cabcc_13 rfl (zl_at hl 0 rfl) ?_
    refine lv_ldc (v := 2147483639) hx hb hown (hm _ mw_507) dJ8_newLength_cabcc_14 ?_
    refine lv_icmp_gt (tgt := 21) hx hb dJ8_newLength_cabcc_16 (by decide) (fun c3 => ?_) (fun c3 => ?_)
    · replace hp := ite_p hp c3
      exact s_J8_newLength_cabcc_21 C  hR hL (zl_sub hl [1, 2] rfl) hp
    · replace hp := ite_n hp c3
      refine lv_iload_n hx hb dJ8_newLength_cabcc_19 rfl (zl_at hl 0 rfl) ?_
      cases hp
      exact r_zret C hR hL rfl dJ8_newLength_cabcc_20
def p_J8_newLength_cabcc (v0 : Int32) (v1 : Int32) (v2 : Int32) (h : AH) : Option (Int32 × AH) := p_J8_newLength_cabcc_0 v0 v1 v2 h
theorem c_J8_newLength_cabcc (l : Launch) (G : GG) (v0 : Int32) (v1 : Int32) (v2 : Int32) (h : AH) (r : Int32) (h' : AH) (hp : p_J8_newLength_cabcc v0 v1 v2 h = some (r, h')) : Ct l yJ8_newLength_cabcc (.code yJ8_newLength_cabcc cJ8_newLength_cabcc 4 (some .int) :: MW) G 2 62 [.int v0, .int v1, .int v2] h (some (.int r)) h' := by
  refine Ct.of (by decide +kernel) (Nat.le_of_ble_eq_true rfl) ?_
  intro p e s m args below meth c C hR ls hl
  have hl : zl ls 4 [(0, .int v0), (1, .int v1), (2, .int v2)] := ⟨hl, by simp [zr_cat, in_cat]⟩
  exact s_J8_newLength_cabcc_0 C hR (fun _ hq => nomatch hq) hl hp
/-! java/util/Arrays.copyOf([Ljava/lang/Object;ILjava/lang/Class;)[Ljava/lang/Object; -/
def p_J7_copyOf_6403c_0  (v0 : Nat) (v1 : Int32) (v2 : Nat) (h : AH) : Option (Nat × AH) :=
  if v2 = (aM h) then
    ck ((0 ≤ v1 ∧ v1.toNatClampNeg ≤ 100000) ∧ aZ h + 1 ≤ aC h ∧ aU h + v1.toNatClampNeg ≤ gS) <|
    nm (uN h 26 v1.toNatClampNeg) fun h4 =>
    nm ((aZ h)) fun (x5 : Nat) =>
    ck (aK h4 v0 = 26) <|
    ck ((0 ≤ (iI 0) ∧ 0 ≤ (iI 0) ∧ 0 ≤ (if v1 < (nI (aN h4 v0)) then v1 else (nI (aN h4 v0)))) ∧ okCp h4 26 v0 (iI 0).toNatClampNeg x5 (iI 0).toNatClampNeg (if v1 < (nI (aN h4 v0)) then v1 else (nI (aN h4 v0))).toNatClampNeg) <|
    ck (okEl h4 v0 (iI 0).toNatClampNeg (if v1 < (nI (aN h4 v0)) then v1 else (nI (aN h4 v0))).toNatClampNeg) <|
    nm (uCR h4 v0 (iI 0).toNatClampNeg x5 (iI 0).toNatClampNeg (if v1 < (nI (aN h4 v0)) then v1 else (nI (aN h4 v0))).toNatClampNeg) fun h10 =>
    some (x5, h10)
  else
    none
set_option maxHeartbeats 4000000 in
set_option maxRecDepth 100000 in
theorem s_J7_copyOf_6403c_0 {p : Program} {l : Launch} {e : Env} {s : State} {m : MethodId} {args : Array Value} {below : List Frame} {meth : Method} {c : Code} {G : GG} {hs : AH} {r : Nat} {h' : AH} (C : Cx G hs p s m args meth c cJ7_copyOf_6403c 4 RJ7 (.code yJ7_copyOf_6403c cJ7_copyOf_6403c 4 (some (.array (.object "java/lang/Object"))) :: MW) (some (.array (.object "java/lang/Object"))) "copyOf")   {v0 : Nat} {v1 : Int32} {v2 : Nat} {h : AH} {H : Heap} {locs : List Loc} {cells slots : Nat} {ls : Array Slot} (hR : Rp G h H) (hL : ∀ q ∈ locs, gB G ≤ q.base) (hl : zl ls 4 [(0, zr v0), (1, .int v1), (2, zr v2)]) (hp : p_J7_copyOf_6403c_0  v0 v1 v2 h = some (r, h')) : W p l e (gR G hs 1 40) s m args below meth c H locs cells slots (MQ below (Qcc G (some (zr r)) h') args s (gC G - aZ hs) (gS - aU hs) (fun q => gB G ≤ q)) (F0 m 0 ls []) := by
  obtain ⟨hx, hb, hml, hown, hts, hT, hK, rs, hlk, hret, hnm⟩ := id C
  have hm : ∀ w ∈ MW, w.before args s = true := fun w hw => hts w (hT w hw)
  unfold p_J7_copyOf_6403c_0 at hp
  refine z_aload_n hx hb dJ7_copyOf_6403c_0 rfl (zl_at hl 2 rfl) ?_
  refine r_ldcM C hR (hm _ mw_536) dJ7_copyOf_6403c_1 ?_
  refine z_acmp_ne (tgt := 13) hx hb dJ7_copyOf_6403c_3 (by decide) (fun c1 => ?_) (fun c1 => ?_)
  · replace hp := ite_n hp c1
    refine z_aload_n hx hb dJ7_copyOf_6403c_13 rfl (zl_at hl 2 rfl) ?_
    exact absurd hp (by simp)
  · replace hp := ite_p hp c1
    refine lv_iload_n hx hb dJ7_copyOf_6403c_6 rfl (zl_at hl 1 rfl) ?_
    obtain ⟨k2, hp⟩ := ck_i hp
    refine r_anew (t := 6) (by decide) rfl C hK.2.2.2.2.2.2.2.2.1 hR mw_538 k2.1 k2.2 dJ7_copyOf_6403c_7 (fun H cells slots hR => ?_)
    obtain ⟨h4, hp, hR⟩ := nm_h hp hR
    refine lv_goto (tgt := 24) hx hb dJ7_copyOf_6403c_10 (by decide) ?_
    refine lv_topz (fun x5 ex5 => ?_)
    replace hp := nm_i hp ex5
    refine z_astore_n (lv' := [(3, zr x5), (0, zr v0), (1, .int v1), (2, zr v2)]) hx hb dJ7_copyOf_6403c_24 rfl hl (by decide) rfl (fun ls hl => ?_)
    refine z_aload_n hx hb dJ7_copyOf_6403c_25 rfl (zl_at hl 1 rfl) ?_
    refine lv_iconst (v := iI 0) hx hb dJ7_copyOf_6403c_26 rfl ?_
    refine z_aload_n hx hb dJ7_copyOf_6403c_27 rfl (zl_at hl 0 rfl) ?_
    refine lv_iconst (v := iI 0) hx hb dJ7_copyOf_6403c_28 rfl ?_
    refine z_aload_n hx hb dJ7_copyOf_6403c_29 rfl (zl_at hl 1 rfl) ?_
    obtain ⟨k6, hp⟩ := ck_i hp
    refine r_alen (t := 6) (by decide) hx hb hK hR k6 dJ7_copyOf_6403c_30 ?_
    refine lv_iload_n hx hb dJ7_copyOf_6403c_31 rfl (zl_at hl 2 rfl) ?_
    refine r_mmin C hR (hm _ mw_539) (hm _ mw_540) (hm _ mw_20) (hm _ mw_541) (zl_size hl) (by decide) (by simp [zr_cat, in_cat]) dJ7_copyOf_6403c_32 (fun cells slots => ?_)
    obtain ⟨k7, hp⟩ := ck_i hp
    obtain ⟨k9, hp⟩ := ck_i hp
    refine r_copyR C hR hL k7 k9 (hm _ mw_542) (hm _ mw_266) (hm _ mw_265) (hm _ mw_18) (zl_size hl) (by decide) (by simp [zr_cat, in_cat]) (by decide +kernel) dJ7_copyOf_6403c_35 (fun H locs hR hL => ?_)
    obtain ⟨h10, hp, hR⟩ := nm_h hp hR
    refine z_aload_n hx hb dJ7_copyOf_6403c_38 rfl (zl_at hl 0 rfl) ?_
    cases hp
    exact r_aret (by first | exact Or.inl ⟨_, rfl⟩ | exact Or.inr ⟨_, rfl⟩) C hR hL dJ7_copyOf_6403c_39
def p_J7_copyOf_6403c (v0 : Nat) (v1 : Int32) (v2 : Nat) (h : AH) : Option (Nat × AH) := ck (v0 ≠ 0) <| ck (v2 ≠ 0) <| p_J7_copyOf_6403c_0 v0 v1 v2 h
theorem c_J7_copyOf_6403c (l : Launch) (G : GG) (v0 : Nat) (v1 : Int32) (v2 : Nat) (h : AH) (r : Nat) (h' : AH) (hp : p_J7_copyOf_6403c v0 v1 v2 h = some (r, h')) : Ct l yJ7_copyOf_6403c (.code yJ7_copyOf_6403c cJ7_copyOf_6403c 4 (some (.array (.object "java/lang/Object"))) :: MW) G 1 40 [zr v0, .int v1, zr v2] h (some (zr r)) h' := by
  obtain ⟨hz0, hp⟩ := ck_i hp
  obtain ⟨hz2, hp⟩ := ck_i hp
  rw [show zr v0 = .ref (v0 - 1) from zr_p hz0]
  rw [show zr v2 = .ref (v2 - 1) from zr_p hz2]
  refine Ct.of (by decide +kernel) (Nat.le_of_ble_eq_true rfl) ?_
  intro p e s m args below meth c C hR ls hl
  have hl : zl ls 4 [(0, zr v0), (1, .int v1), (2, zr v2)] := ⟨by rw [zr_p hz0, zr_p hz2]; exact hl, by simp [zr_cat, in_cat]⟩
  exact s_J7_copyOf_6403c_0 C hR (fun _ hq => nomatch hq) hl hp
/-! java/util/Arrays.copyOf([Ljava/lang/Object;I)[Ljava/lang/Object; -/
def p_J7_copyOf_1904c_0  (v0 : Nat) (v1 : Int32) (h : AH) : Option (Nat × AH) :=
  ck (aK h v0 = 26) <|
  bR (p_J7_copyOf_6403c v0 v1 (aM h) h) fun r2 h3 =>
  some (r2, h3)
set_option maxHeartbeats 4000000 in
set_option maxRecDepth 100000 in
theorem s_J7_copyOf_1904c_0 {p : Program} {l : Launch} {e : Env} {s : State} {m : MethodId} {args : Array Value} {below : List Frame} {meth : Method} {c : Code} {G : GG} {hs : AH} {r : Nat} {h' : AH} (C : Cx G hs p s m args meth c cJ7_copyOf_1904c 2 RJ7 (.code yJ7_copyOf_1904c cJ7_copyOf_1904c 2 (some (.array (.object "java/lang/Object"))) :: MW) (some (.array (.object "java/lang/Object"))) "copyOf")   {v0 : Nat} {v1 : Int32} {h : AH} {H : Heap} {locs : List Loc} {cells slots : Nat} {ls : Array Slot} (hR : Rp G h H) (hL : ∀ q ∈ locs, gB G ≤ q.base) (hl : zl ls 2 [(0, zr v0), (1, .int v1)]) (hp : p_J7_copyOf_1904c_0  v0 v1 h = some (r, h')) : W p l e (gR G hs 2 63) s m args below meth c H locs cells slots (MQ below (Qcc G (some (zr r)) h') args s (gC G - aZ hs) (gS - aU hs) (fun q => gB G ≤ q)) (F0 m 0 ls []) := by
  obtain ⟨hx, hb, hml, hown, hts, hT, hK, rs, hlk, hret, hnm⟩ := id C
  have hm : ∀ w ∈ MW, w.before args s = true := fun w hw => hts w (hT w hw)
  unfold p_J7_copyOf_1904c_0 at hp
  refine z_aload_n hx hb dJ7_copyOf_1904c_0 rfl (zl_at hl 0 rfl) ?_
  refine lv_iload_n hx hb dJ7_copyOf_1904c_1 rfl (zl_at hl 1 rfl) ?_
  refine z_aload_n hx hb dJ7_copyOf_1904c_2 rfl (zl_at hl 0 rfl) ?_
  obtain ⟨k1, hp⟩ := ck_i hp
  refine r_getC C hR k1 (hm _ mw_514) (hm _ mw_1010) (hm _ mw_515) (hm _ mw_532) (zl_size hl) (by decide) (by simp [zr_cat, in_cat]) dJ7_copyOf_1904c_3 ?_
  obtain ⟨r2, h3, er2, hp⟩ := bR_i hp
  refine r_callS (n := 3) (As := [zr v0, .int v1, zr (aM h)]) (rest := []) C (c_J7_copyOf_6403c l G v0 v1 (aM h) h r2 h3 er2) hR hL mw_533 mw_534 mw_21 mw_535 (by decide +kernel) (by decide) rfl (zl_size hl) rfl (by simp [zr_cat, in_cat]) dJ7_copyOf_1904c_6 (st2 := [zr r2]) rfl (fun H locs cells slots hR hL => ?_)
  cases hp
  exact r_aret (by first | exact Or.inl ⟨_, rfl⟩ | exact Or.inr ⟨_, rfl⟩) C hR hL dJ7_copyOf_1904c_9
def p_J7_copyOf_1904c (v0 : Nat) (v1 : Int32) (h : AH) : Option (Nat × AH) := ck (v0 ≠ 0) <| p_J7_copyOf_1904c_0 v0 v1 h
theorem c_J7_copyOf_1904c (l : Launch) (G : GG) (v0 : Nat) (v1 : Int32) (h : AH) (r : Nat) (h' : AH) (hp : p_J7_copyOf_1904c v0 v1 h = some (r, h')) : Ct l yJ7_copyOf_1904c (.code yJ7_copyOf_1904c cJ7_copyOf_1904c 2 (some (.array (.object "java/lang/Object"))) :: MW) G 2 63 [zr v0, .int v1] h (some (zr r)) h' := by
  obtain ⟨hz0, hp⟩ := ck_i hp
  rw [show zr v0 = .ref (v0 - 1) from zr_p hz0]
  refine Ct.of (by decide +kernel) (Nat.le_of_ble_eq_true rfl) ?_
  intro p e s m args below meth c C hR ls hl
  have hl : zl ls 2 [(0, zr v0), (1, .int v1)] := ⟨by rw [zr_p hz0]; exact hl, by simp [zr_cat, in_cat]⟩
  exact s_J7_copyOf_1904c_0 C hR (fun _ hq => nomatch hq) hl hp
/-! java/util/ArrayList.grow(I)[Ljava/lang/Object; -/
def p_Jx4a65c_grow_92f84_20  (v0 : Nat) (v1 : Int32) (v2 : Int32) (h : AH) : Option (Nat × AH) :=
  bR (p_J8_newLength_cabcc v2 (v1 - v2) (v2 >>> ((iI 1) &&& 31)) h) fun r1 h2 =>
  ck (aK h2 v0 = 1) <|
  bR (p_J7_copyOf_1904c (aR h2 v0 1) r1 h2) fun r4 h5 =>
  ck (aK h5 v0 = 1) <|
  nm (uR h5 v0 1 r4) fun h7 =>
  some (r4, h7)
set_option maxHeartbeats 4000000 in
set_option maxRecDepth 100000 in
theorem s_Jx4a65c_grow_92f84_20 {p : Program} {l : Launch} {e : Env} {s : State} {m : MethodId} {args : Array Value} {below : List Frame} {meth : Method} {c : Code} {G : GG} {hs : AH} {r : Nat} {h' : AH} (C : Cx G hs p s m args meth c cJx4a65c_grow_92f84 4 RJx4a65c (.code yJx4a65c_grow_92f84 cJx4a65c_grow_92f84 4 (some (.array (.object "java/lang/Object"))) :: MW) (some (.array (.object "java/lang/Object"))) "grow")   {v0 : Nat} {v1 : Int32} {v2 : Int32} {h : AH} {H : Heap} {locs : List Loc} {cells slots : Nat} {ls : Array Slot} (hR : Rp G h H) (hL : ∀ q ∈ locs, gB G ≤ q.base) (hl : zl ls 4 [(0, zr v0), (1, .int v1), (2, .int v2)]) (hp : p_Jx4a65c_grow_92f84_20  v0 v1 v2 h = some (r, h')) : W p l e (gR G hs 3 85) s m args below meth c H locs cells slots (MQ below (Qcc G (some (zr r)) h') args s (gC G - aZ hs) (gS - aU hs) (fun q => gB G ≤ q)) (F0 m 20 ls []) := by
  obtain ⟨hx, hb, hml, hown, hts, hT, hK, rs, hlk, hret, hnm⟩ := id C
  have hm : ∀ w ∈ MW, w.before args s = true := fun w hw => hts w (hT w hw)
  unfold p_Jx4a65c_grow_92f84_20 at hp
  refine lv_iload_n hx hb dJx4a65c_grow_92f84_20 rfl (zl_at hl 2 rfl) ?_
  refine lv_iload_n hx hb dJx4a65c_grow_92f84_21 rfl (zl_at hl 1 rfl) ?_
  refine lv_iload_n hx hb dJx4a65c_grow_92f84_22 rfl (zl_at hl 2 rfl) ?_
  refine lv_isub hx hb dJx4a65c_grow_92f84_23 ?_
  refine lv_iload_n hx hb dJx4a65c_grow_92f84_24 rfl (zl_at hl 2 rfl) ?_
  refine lv_iconst (v := iI 1) hx hb dJx4a65c_grow_92f84_25 rfl ?_
  refine lv_ishr hx hb dJx4a65c_grow_92f84_26 ?_
  obtain ⟨r1, h2, er1, hp⟩ := bR_i hp
  refine r_callS (n := 3) (As := [.int v2, .int (v1 - v2), .int (v2 >>> ((iI 1) &&& 31))]) (rest := []) C (c_J8_newLength_cabcc l G v2 (v1 - v2) (v2 >>> ((iI 1) &&& 31)) h r1 h2 er1) hR hL mw_501 mw_502 mw_19 mw_503 (by decide +kernel) (by decide) rfl (zl_size hl) rfl (by simp [zr_cat, in_cat]) dJx4a65c_grow_92f84_27 (st2 := [.int r1]) rfl (fun H locs cells slots hR hL => ?_)
  refine z_istore_n (lv' := [(3, .int r1), (0, zr v0), (1, .int v1), (2, .int v2)]) hx hb dJx4a65c_grow_92f84_30 rfl hl (by decide) rfl (fun ls hl => ?_)
  refine z_aload_n hx hb dJx4a65c_grow_92f84_31 rfl (zl_at hl 1 rfl) ?_
  refine z_aload_n hx hb dJx4a65c_grow_92f84_32 rfl (zl_at hl 1 rfl) ?_
  obtain ⟨k3, hp⟩ := ck_i hp
  refine r_get (ci := 0) (C := RJx4a65c) (T := TJx4a65c) (N := 3) (v := zr (aR h2 v0 1)) hx hb hm ii_Jx4a65c hown hK hR rfl k3 1 (by decide) (hm _ mw_53) (fun _ h9 => h9) rfl dJx4a65c_grow_92f84_33 ?_
  refine lv_iload_n hx hb dJx4a65c_grow_92f84_36 rfl (zl_at hl 0 rfl) ?_
  obtain ⟨r4, h5, er4, hp⟩ := bR_i hp
  refine r_callS (n := 2) (As := [zr (aR h2 v0 1), .int r1]) (rest := [zr v0]) C (c_J7_copyOf_1904c l G (aR h2 v0 1) r1 h2 r4 h5 er4) hR hL mw_511 mw_512 mw_21 mw_513 (by decide +kernel) (by decide) rfl (zl_size hl) rfl (by simp [zr_cat, in_cat]) dJx4a65c_grow_92f84_37 (st2 := [zr r4, zr v0]) rfl (fun H locs cells slots hR hL => ?_)
  refine lv_dup_x1 hx hb dJx4a65c_grow_92f84_40 (zr_cat _) (zr_cat _) ?_
  obtain ⟨k6, hp⟩ := ck_i hp
  refine r_putR (ci := 0) (C := RJx4a65c) (T := TJx4a65c) (N := 3) hx hb hm ii_Jx4a65c tyJx4a65c_ok nmJx4a65c hown hK hR hL rfl k6 1 (by decide) (hm _ mw_53) (fun _ h9 => h9) (Or.inl rfl) (zr_fitsA _ _) (fun _ _ _ => rfl) dJx4a65c_grow_92f84_41 (fun H locs hR hL => ?_)
  obtain ⟨h7, hp, hR⟩ := nm_h hp hR
  cases hp
  exact r_aret (by first | exact Or.inl ⟨_, rfl⟩ | exact Or.inr ⟨_, rfl⟩) C hR hL dJx4a65c_grow_92f84_44
def p_Jx4a65c_grow_92f84_0  (v0 : Nat) (v1 : Int32) (h : AH) : Option (Nat × AH) :=
  ck (aK h v0 = 1) <|
  ck (aK h (aR h v0 1) = 26) <|
  nm ((nI (aN h (aR h v0 1)))) fun (x3 : Int32) =>
  if 0 < x3 then
    p_Jx4a65c_grow_92f84_20  v0 v1 x3 h
  else
    ck (aK h v0 = 1) <|
    if (aR h v0 1) = (aE h) then
      ck ((0 ≤ (if (iI 10) < v1 then v1 else (iI 10)) ∧ (if (iI 10) < v1 then v1 else (iI 10)).toNatClampNeg ≤ 100000) ∧ aZ h + 1 ≤ aC h ∧ aU h + (if (iI 10) < v1 then v1 else (iI 10)).toNatClampNeg ≤ gS) <|
      nm (uN h 26 (if (iI 10) < v1 then v1 else (iI 10)).toNatClampNeg) fun h9 =>
      ck (aK h9 v0 = 1) <|
      nm (uR h9 v0 1 (aZ h)) fun h11 =>
      some ((aZ h), h11)
    else
      p_Jx4a65c_grow_92f84_20  v0 v1 x3 h
set_option maxHeartbeats 4000000 in
set_option maxRecDepth 100000 in
theorem s_Jx4a65c_grow_92f84_0 {p : Program} {l : Launch} {e : Env} {s : State} {m : MethodId} {args : Array Value} {below : List Frame} {meth : Method} {c : Code} {G : GG} {hs : AH} {r : Nat} {h' : AH} (C : Cx G hs p s m args meth c cJx4a65c_grow_92f84 4 RJx4a65c (.code yJx4a65c_grow_92f84 cJx4a65c_grow_92f84 4 (some (.array (.object "java/lang/Object"))) :: MW) (some (.array (.object "java/lang/Object"))) "grow")   {v0 : Nat} {v1 : Int32} {h : AH} {H : Heap} {locs : List Loc} {cells slots : Nat} {ls : Array Slot} (hR : Rp G h H) (hL : ∀ q ∈ locs, gB G ≤ q.base) (hl : zl ls 4 [(0, zr v0), (1, .int v1)]) (hp : p_Jx4a65c_grow_92f84_0  v0 v1 h = some (r, h')) : W p l e (gR G hs 3 85) s m args below meth c H locs cells slots (MQ below (Qcc G (some (zr r)) h') args s (gC G - aZ hs) (gS - aU hs) (fun q => gB G ≤ q)) (F0 m 0 ls []) := by
  obtain ⟨hx, hb, hml, hown, hts, hT, hK, rs, hlk, hret, hnm⟩ := id C
  have hm : ∀ w ∈ MW, w.before args s = true := fun w hw => hts w (hT w hw)
  unfold p_Jx4a65c_grow_92f84_0 at hp
  refine z_aload_n hx hb dJx4a65c_grow_92f84_0 rfl (zl_at hl 0 rfl) ?_
  obtain ⟨k1, hp⟩ := ck_i hp
  refine r_get (ci := 0) (C := RJx4a65c) (T := TJx4a65c) (N := 3) (v := zr (aR h v0 1)) hx hb hm ii_Jx4a65c hown hK hR rfl k1 1 (by decide) (hm _ mw_53) (fun _ h9 => h9) rfl dJx4a65c_grow_92f84_1 ?_
  obtain ⟨k2, hp⟩ := ck_i hp
  refine r_alen (t := 6) (by decide) hx hb hK hR k2 dJx4a65c_grow_92f84_4 ?_
  refine lv_topi (fun x3 ex3 => ?_)
  replace hp := nm_i hp ex3
  refine z_istore_n (lv' := [(2, .int x3), (0, zr v0), (1, .int v1)]) hx hb dJx4a65c_grow_92f84_5 rfl hl (by decide) rfl (fun ls hl => ?_)
  refine lv_iload_n hx hb dJx4a65c_grow_92f84_6 rfl (zl_at hl 0 rfl) ?_
  refine lv_if_gt (tgt := 20) hx hb dJx4a65c_grow_92f84_7 (by decide) (fun c4 => ?_) (fun c4 => ?_)
  · replace hp := ite_p hp c4
    exact s_Jx4a65c_grow_92f84_20 C  hR hL (zl_sub hl [1, 2, 0] rfl) hp
  · replace hp := ite_n hp c4
    refine z_aload_n hx hb dJx4a65c_grow_92f84_10 rfl (zl_at hl 1 rfl) ?_
    obtain ⟨k5, hp⟩ := ck_i hp
    refine r_get (ci := 0) (C := RJx4a65c) (T := TJx4a65c) (N := 3) (v := zr (aR h v0 1)) hx hb hm ii_Jx4a65c hown hK hR rfl k5 1 (by decide) (hm _ mw_53) (fun _ h9 => h9) rfl dJx4a65c_grow_92f84_11 ?_
    refine r_gets C hR (hm _ mw_51) dJx4a65c_grow_92f84_14 ?_
    refine z_acmp_eq (tgt := 45) hx hb dJx4a65c_grow_92f84_17 (by decide) (fun c6 => ?_) (fun c6 => ?_)
    · replace hp := ite_p hp c6
      refine z_aload_n hx hb dJx4a65c_grow_92f84_45 rfl (zl_at hl 1 rfl) ?_
      refine lv_bipush (v := iI 10) hx hb dJx4a65c_grow_92f84_46 (by decide +kernel) ?_
      refine lv_iload_n hx hb dJx4a65c_grow_92f84_48 rfl (zl_at hl 2 rfl) ?_
      refine r_mmax C hR (hm _ mw_543) (hm _ mw_505) (hm _ mw_20) (hm _ mw_506) (zl_size hl) (by decide) (by simp [zr_cat, in_cat]) dJx4a65c_grow_92f84_49 (fun cells slots => ?_)
      obtain ⟨k7, hp⟩ := ck_i hp
      refine r_anew (t := 6) (by decide) rfl C hK.2.2.2.2.2.2.2.2.1 hR mw_544 k7.1 k7.2 dJx4a65c_grow_92f84_52 (fun H cells slots hR => ?_)
      obtain ⟨h9, hp, hR⟩ := nm_h hp hR
      refine lv_dup_x1 hx hb dJx4a65c_grow_92f84_55 (zr_cat _) (zr_cat _) ?_
      obtain ⟨k10, hp⟩ := ck_i hp
      refine r_putR (ci := 0) (C := RJx4a65c) (T := TJx4a65c) (N := 3) hx hb hm ii_Jx4a65c tyJx4a65c_ok nmJx4a65c hown hK hR hL rfl k10 1 (by decide) (hm _ mw_53) (fun _ h9 => h9) (Or.inl rfl) (zr_fitsA _ _) (fun _ _ _ => rfl) dJx4a65c_grow_92f84_56 (fun H locs hR hL => ?_)
      obtain ⟨h11, hp, hR⟩ := nm_h hp hR
      cases hp
      exact r_aret (by first | exact Or.inl ⟨_, rfl⟩ | exact Or.inr ⟨_, rfl⟩) C hR hL dJx4a65c_grow_92f84_59
    · replace hp := ite_n hp c6
      exact s_Jx4a65c_grow_92f84_20 C  hR hL (zl_sub hl [1, 2, 0] rfl) hp
def p_Jx4a65c_grow_92f84 (v0 : Nat) (v1 : Int32) (h : AH) : Option (Nat × AH) := ck (v0 ≠ 0) <| p_Jx4a65c_grow_92f84_0 v0 v1 h
theorem c_Jx4a65c_grow_92f84 (l : Launch) (G : GG) (v0 : Nat) (v1 : Int32) (h : AH) (r : Nat) (h' : AH) (hp : p_Jx4a65c_grow_92f84 v0 v1 h = some (r, h')) : Ct l yJx4a65c_grow_92f84 (.code yJx4a65c_grow_92f84 cJx4a65c_grow_92f84 4 (some (.array (.object "java/lang/Object"))) :: MW) G 3 85 [.ref (v0 - 1), .int v1] h (some (zr r)) h' := by
  obtain ⟨hz0, hp⟩ := ck_i hp
  refine Ct.of (by decide +kernel) (Nat.le_of_ble_eq_true rfl) ?_
  intro p e s m args below meth c C hR ls hl
  have hl : zl ls 4 [(0, zr v0), (1, .int v1)] := ⟨by rw [zr_p hz0]; exact hl, by simp [zr_cat, in_cat]⟩
  exact s_Jx4a65c_grow_92f84_0 C hR (fun _ hq => nomatch hq) hl hp
/-! java/util/ArrayList.grow()[Ljava/lang/Object; -/
def p_Jx4a65c_grow_d5877_0  (v0 : Nat) (h : AH) : Option (Nat × AH) :=
  ck (aK h v0 = 1) <|
  ck (aK h v0 = 1) <|
  bR (p_Jx4a65c_grow_92f84 v0 ((aI h v0 2) + (iI 1)) h) fun r3 h4 =>
  some (r3, h4)
set_option maxHeartbeats 4000000 in
set_option maxRecDepth 100000 in
theorem s_Jx4a65c_grow_d5877_0 {p : Program} {l : Launch} {e : Env} {s : State} {m : MethodId} {args : Array Value} {below : List Frame} {meth : Method} {c : Code} {G : GG} {hs : AH} {r : Nat} {h' : AH} (C : Cx G hs p s m args meth c cJx4a65c_grow_d5877 1 RJx4a65c (.code yJx4a65c_grow_d5877 cJx4a65c_grow_d5877 1 (some (.array (.object "java/lang/Object"))) :: MW) (some (.array (.object "java/lang/Object"))) "grow")   {v0 : Nat} {h : AH} {H : Heap} {locs : List Loc} {cells slots : Nat} {ls : Array Slot} (hR : Rp G h H) (hL : ∀ q ∈ locs, gB G ≤ q.base) (hl : zl ls 1 [(0, zr v0)]) (hp : p_Jx4a65c_grow_d5877_0  v0 h = some (r, h')) : W p l e (gR G hs 4 108) s m args below meth c H locs cells slots (MQ below (Qcc G (some (zr r)) h') args s (gC G - aZ hs) (gS - aU hs) (fun q => gB G ≤ q)) (F0 m 0 ls []) := by
  obtain ⟨hx, hb, hml, hown, hts, hT, hK, rs, hlk, hret, hnm⟩ := id C
  have hm : ∀ w ∈ MW, w.before args s = true := fun w hw => hts w (hT w hw)
  unfold p_Jx4a65c_grow_d5877_0 at hp
  refine z_aload_n hx hb dJx4a65c_grow_d5877_0 rfl (zl_at hl 0 rfl) ?_
  refine z_aload_n hx hb dJx4a65c_grow_d5877_1 rfl (zl_at hl 0 rfl) ?_
  obtain ⟨k1, hp⟩ := ck_i hp
  refine r_get (ci := 0) (C := RJx4a65c) (T := TJx4a65c) (N := 3) (v := .int (aI h v0 2)) hx hb hm ii_Jx4a65c hown hK hR rfl k1 2 (by decide) (hm _ mw_54) (fun _ h9 => h9) rfl dJx4a65c_grow_d5877_2 ?_
  refine lv_iconst (v := iI 1) hx hb dJx4a65c_grow_d5877_5 rfl ?_
  refine lv_iadd hx hb dJx4a65c_grow_d5877_6 ?_
  obtain ⟨k2, hp⟩ := ck_i hp
  obtain ⟨r3, h4, er3, hp⟩ := bR_i hp
  refine r_callV (ci := 0) (r := (RJx4a65c, TJx4a65c, 3)) (n := 1) (As := [.int ((aI h v0 2) + (iI 1))]) (rest := []) C (c_Jx4a65c_grow_92f84 l G v0 ((aI h v0 2) + (iI 1)) h r3 h4 er3) hR hL rfl k2 mw_497 mw_499 mp_9 mw_4 mw_500 (by decide +kernel) (by decide) rfl (zl_size hl) rfl (by simp [zr_cat, in_cat]) dJx4a65c_grow_d5877_7 (st2 := [zr r3]) rfl (fun H locs cells slots hR hL => ?_)
  cases hp
  exact r_aret (by first | exact Or.inl ⟨_, rfl⟩ | exact Or.inr ⟨_, rfl⟩) C hR hL dJx4a65c_grow_d5877_10
def p_Jx4a65c_grow_d5877 (v0 : Nat) (h : AH) : Option (Nat × AH) := ck (v0 ≠ 0) <| p_Jx4a65c_grow_d5877_0 v0 h
theorem c_Jx4a65c_grow_d5877 (l : Launch) (G : GG) (v0 : Nat) (h : AH) (r : Nat) (h' : AH) (hp : p_Jx4a65c_grow_d5877 v0 h = some (r, h')) : Ct l yJx4a65c_grow_d5877 (.code yJx4a65c_grow_d5877 cJx4a65c_grow_d5877 1 (some (.array (.object "java/lang/Object"))) :: MW) G 4 108 [.ref (v0 - 1)] h (some (zr r)) h' := by
  obtain ⟨hz0, hp⟩ := ck_i hp
  refine Ct.of (by decide +kernel) (Nat.le_of_ble_eq_true rfl) ?_
  intro p e s m args below meth c C hR ls hl
  have hl : zl ls 1 [(0, zr v0)] := ⟨by rw [zr_p hz0]; exact hl, by simp [zr_cat, in_cat]⟩
  exact s_Jx4a65c_grow_d5877_0 C hR (fun _ hq => nomatch hq) hl hp
/-! java/util/ArrayList.size()I -/
def p_Jx4a65c_size_8abf5_0  (v0 : Nat) (h : AH) : Option (Int32 × AH) :=
  ck (aK h v0 = 1) <|
  some ((aI h v0 2), h)
set_option maxHeartbeats 4000000 in
set_option maxRecDepth 100000 in
theorem s_Jx4a65c_size_8abf5_0 {p : Program} {l : Launch} {e : Env} {s : State} {m : MethodId} {args : Array Value} {below : List Frame} {meth : Method} {c : Code} {G : GG} {hs : AH} {r : Int32} {h' : AH} (C : Cx G hs p s m args meth c cJx4a65c_size_8abf5 1 RJx4a65c (.code yJx4a65c_size_8abf5 cJx4a65c_size_8abf5 1 (some .int) :: MW) (some .int) "size")   {v0 : Nat} {h : AH} {H : Heap} {locs : List Loc} {cells slots : Nat} {ls : Array Slot} (hR : Rp G h H) (hL : ∀ q ∈ locs, gB G ≤ q.base) (hl : zl ls 1 [(0, zr v0)]) (hp : p_Jx4a65c_size_8abf5_0  v0 h = some (r, h')) : W p l e (gR G hs 1 40) s m args below meth c H locs cells slots (MQ below (Qcc G (some (.int r)) h') args s (gC G - aZ hs) (gS - aU hs) (fun q => gB G ≤ q)) (F0 m 0 ls []) := by
  obtain ⟨hx, hb, hml, hown, hts, hT, hK, rs, hlk, hret, hnm⟩ := id C
  have hm : ∀ w ∈ MW, w.before args s = true := fun w hw => hts w (hT w hw)
  unfold p_Jx4a65c_size_8abf5_0 at hp
  refine z_aload_n hx hb dJx4a65c_size_8abf5_0 rfl (zl_at hl 0 rfl) ?_
  obtain ⟨k1, hp⟩ := ck_i hp
  refine r_get (ci := 0) (C := RJx4a65c) (T := TJx4a65c) (N := 3) (v := .int (aI h v0 2)) hx hb hm ii_Jx4a65c hown hK hR rfl k1 2 (by decide) (hm _ mw_54) (fun _ h9 => h9) rfl dJx4a65c_size_8abf5_1 ?_
  cases hp
  exact r_zret C hR hL rfl dJx4a65c_size_8abf5_4
def p_Jx4a65c_size_8abf5 (v0 : Nat) (h : AH) : Option (Int32 × AH) := ck (v0 ≠ 0) <| p_Jx4a65c_size_8abf5_0 v0 h
theorem c_Jx4a65c_size_8abf5 (l : Launch) (G : GG) (v0 : Nat) (h : AH) (r : Int32) (h' : AH) (hp : p_Jx4a65c_size_8abf5 v0 h = some (r, h')) : Ct l yJx4a65c_size_8abf5 (.code yJx4a65c_size_8abf5 cJx4a65c_size_8abf5 1 (some .int) :: MW) G 1 40 [.ref (v0 - 1)] h (some (.int r)) h' := by
  obtain ⟨hz0, hp⟩ := ck_i hp
  refine Ct.of (by decide +kernel) (Nat.le_of_ble_eq_true rfl) ?_
  intro p e s m args below meth c C hR ls hl
  have hl : zl ls 1 [(0, zr v0)] := ⟨by rw [zr_p hz0]; exact hl, by simp [zr_cat, in_cat]⟩
  exact s_Jx4a65c_size_8abf5_0 C hR (fun _ hq => nomatch hq) hl hp
/-! java/util/ArrayList.elementData(I)Ljava/lang/Object; -/
def p_Jx4a65c_elementData_915e3_0  (v0 : Nat) (v1 : Int32) (h : AH) : Option (Nat × AH) :=
  ck (aK h v0 = 1) <|
  ck (aK h (aR h v0 1) = 26 ∧ ix v1 (aN h (aR h v0 1))) <|
  some ((aR h (aR h v0 1) v1.toNatClampNeg), h)
set_option maxHeartbeats 4000000 in
set_option maxRecDepth 100000 in
theorem s_Jx4a65c_elementData_915e3_0 {p : Program} {l : Launch} {e : Env} {s : State} {m : MethodId} {args : Array Value} {below : List Frame} {meth : Method} {c : Code} {G : GG} {hs : AH} {r : Nat} {h' : AH} (C : Cx G hs p s m args meth c cJx4a65c_elementData_915e3 2 RJx4a65c (.code yJx4a65c_elementData_915e3 cJx4a65c_elementData_915e3 2 (some (.object "java/lang/Object")) :: MW) (some (.object "java/lang/Object")) "elementData")   {v0 : Nat} {v1 : Int32} {h : AH} {H : Heap} {locs : List Loc} {cells slots : Nat} {ls : Array Slot} (hR : Rp G h H) (hL : ∀ q ∈ locs, gB G ≤ q.base) (hl : zl ls 2 [(0, zr v0), (1, .int v1)]) (hp : p_Jx4a65c_elementData_915e3_0  v0 v1 h = some (r, h')) : W p l e (gR G hs 1 40) s m args below meth c H locs cells slots (MQ below (Qcc G (some (zr r)) h') args s (gC G - aZ hs) (gS - aU hs) (fun q => gB G ≤ q)) (F0 m 0 ls []) := by
  obtain ⟨hx, hb, hml, hown, hts, hT, hK, rs, hlk, hret, hnm⟩ := id C
  have hm : ∀ w ∈ MW, w.before args s = true := fun w hw => hts w (hT w hw)
  unfold p_Jx4a65c_elementData_915e3_0 at hp
  refine z_aload_n hx hb dJx4a65c_elementData_915e3_0 rfl (zl_at hl 0 rfl) ?_
  obtain ⟨k1, hp⟩ := ck_i hp
  refine r_get (ci := 0) (C := RJx4a65c) (T := TJx4a65c) (N := 3) (v := zr (aR h v0 1)) hx hb hm ii_Jx4a65c hown hK hR rfl k1 1 (by decide) (hm _ mw_53) (fun _ h9 => h9) rfl dJx4a65c_elementData_915e3_1 ?_
  refine lv_iload_n hx hb dJx4a65c_elementData_915e3_4 rfl (zl_at hl 1 rfl) ?_
  obtain ⟨k2, hp⟩ := ck_i hp
  refine r_aald (t := 6) (by decide) rfl (fun _ _ _ => rfl) hx hb hK hR k2.1 k2.2 dJx4a65c_elementData_915e3_5 ?_
  cases hp
  exact r_aret (by first | exact Or.inl ⟨_, rfl⟩ | exact Or.inr ⟨_, rfl⟩) C hR hL dJx4a65c_elementData_915e3_6
def p_Jx4a65c_elementData_915e3 (v0 : Nat) (v1 : Int32) (h : AH) : Option (Nat × AH) := ck (v0 ≠ 0) <| p_Jx4a65c_elementData_915e3_0 v0 v1 h
theorem c_Jx4a65c_elementData_915e3 (l : Launch) (G : GG) (v0 : Nat) (v1 : Int32) (h : AH) (r : Nat) (h' : AH) (hp : p_Jx4a65c_elementData_915e3 v0 v1 h = some (r, h')) : Ct l yJx4a65c_elementData_915e3 (.code yJx4a65c_elementData_915e3 cJx4a65c_elementData_915e3 2 (some (.object "java/lang/Object")) :: MW) G 1 40 [.ref (v0 - 1), .int v1] h (some (zr r)) h' := by
  obtain ⟨hz0, hp⟩ := ck_i hp
  refine Ct.of (by decide +kernel) (Nat.le_of_ble_eq_true rfl) ?_
  intro p e s m args below meth c C hR ls hl
  have hl : zl ls 2 [(0, zr v0), (1, .int v1)] := ⟨by rw [zr_p hz0]; exact hl, by simp [zr_cat, in_cat]⟩
  exact s_Jx4a65c_elementData_915e3_0 C hR (fun _ hq => nomatch hq) hl hp
/-! jdk/internal/util/Preconditions.checkIndex(IILjava/util/function/BiFunction;)I -/
def p_J3_checkIndex_8e157_9  (v0 : Int32) (v1 : Int32) (v2 : Nat) (h : AH) : Option (Int32 × AH) :=
  none
set_option maxHeartbeats 4000000 in
set_option maxRecDepth 100000 in
theorem s_J3_checkIndex_8e157_9 {p : Program} {l : Launch} {e : Env} {s : State} {m : MethodId} {args : Array Value} {below : List Frame} {meth : Method} {c : Code} {G : GG} {hs : AH} {r : Int32} {h' : AH} (C : Cx G hs p s m args meth c cJ3_checkIndex_8e157 3 RJ3 (.code yJ3_checkIndex_8e157 cJ3_checkIndex_8e157 3 (some .int) :: MW) (some .int) "checkIndex")   {v0 : Int32} {v1 : Int32} {v2 : Nat} {h : AH} {H : Heap} {locs : List Loc} {cells slots : Nat} {ls : Array Slot} (hR : Rp G h H) (hL : ∀ q ∈ locs, gB G ≤ q.base) (hl : zl ls 3 [(0, .int v0), (1, .int v1), (2, zr v2)]) (hp : p_J3_checkIndex_8e157_9  v0 v1 v2 h = some (r, h')) : W p l e (gR G hs 1 40) s m args below meth c H locs cells slots (MQ below (Qcc G (some (.int r)) h') args s (gC G - aZ hs) (gS - aU hs) (fun q => gB G ≤ q)) (F0 m 9 ls []) := by
  obtain ⟨hx, hb, hml, hown, hts, hT, hK, rs, hlk, hret, hnm⟩ := id C
  have hm : ∀ w ∈ MW, w.before args s = true := fun w hw => hts w (hT w hw)
  unfold p_J3_checkIndex_8e157_9 at hp
  refine z_aload_n hx hb dJ3_checkIndex_8e157_9 rfl (zl_at hl 2 rfl) ?_
  refine lv_iload_n hx hb dJ3_checkIndex_8e157_10 rfl (zl_at hl 0 rfl) ?_
  refine lv_iload_n hx hb dJ3_checkIndex_8e157_11 rfl (zl_at hl 1 rfl) ?_
  exact absurd hp (by simp)
def p_J3_checkIndex_8e157_0  (v0 : Int32) (v1 : Int32) (v2 : Nat) (h : AH) : Option (Int32 × AH) :=
  if v0 < 0 then
    p_J3_checkIndex_8e157_9  v0 v1 v2 h
  else
    if v0 < v1 then
      some (v0, h)
    else
      p_J3_checkIndex_8e157_9  v0 v1 v2 h
set_option maxHeartbeats 4000000 in
set_option maxRecDepth 100000 in
theorem s_J3_checkIndex_8e157_0 {p : Program} {l : Launch} {e : Env} {s : State} {m : MethodId} {args : Array Value} {below : List Frame} {meth : Method} {c : Code} {G : GG} {hs : AH} {r : Int32} {h' : AH} (C : Cx G hs p s m args meth c cJ3_checkIndex_8e157 3 RJ3 (.code yJ3_checkIndex_8e157 cJ3_checkIndex_8e157 3 (some .int) :: MW) (some .int) "checkIndex")   {v0 : Int32} {v1 : Int32} {v2 : Nat} {h : AH} {H : Heap} {locs : List Loc} {cells slots : Nat} {ls : Array Slot} (hR : Rp G h H) (hL : ∀ q ∈ locs, gB G ≤ q.base) (hl : zl ls 3 [(0, .int v0), (1, .int v1), (2, zr v2)]) (hp : p_J3_checkIndex_8e157_0  v0 v1 v2 h = some (r, h')) : W p l e (gR G hs 1 40) s m args below meth c H locs cells slots (MQ below (Qcc G (some (.int r)) h') args s (gC G - aZ hs) (gS - aU hs) (fun q => gB G ≤ q)) (F0 m 0 ls []) := by
  obtain ⟨hx, hb, hml, hown, hts, hT, hK, rs, hlk, hret, hnm⟩ := id C
  have hm : ∀ w ∈ MW, w.before args s = true := fun w hw => hts w (hT w hw)
  unfold p_J3_checkIndex_8e157_0 at hp
  refine lv_iload_n hx hb dJ3_checkIndex_8e157_0 rfl (zl_at hl 0 rfl) ?_
  refine lv_if_lt (tgt := 9) hx hb dJ3_checkIndex_8e157_1 (by decide) (fun c1 => ?_) (fun c1 => ?_)
  · replace hp := ite_p hp c1
    exact s_J3_checkIndex_8e157_9 C  hR hL (zl_sub hl [0, 1, 2] rfl) hp
  · replace hp := ite_n hp c1
    refine lv_iload_n hx hb dJ3_checkIndex_8e157_4 rfl (zl_at hl 0 rfl) ?_
    refine lv_iload_n hx hb dJ3_checkIndex_8e157_5 rfl (zl_at hl 1 rfl) ?_
    refine lv_icmp_lt (tgt := 16) hx hb dJ3_checkIndex_8e157_6 (by decide) (fun c2 => ?_) (fun c2 => ?_)
    · replace hp := ite_p hp c2
      refine lv_iload_n hx hb dJ3_checkIndex_8e157_16 rfl (zl_at hl 0 rfl) ?_
      cases hp
      exact r_zret C hR hL rfl dJ3_checkIndex_8e157_17
    · replace hp := ite_n hp c2
      exact s_J3_checkIndex_8e157_9 C  hR hL (zl_sub hl [0, 1, 2] rfl) hp
def p_J3_checkIndex_8e157 (v0 : Int32) (v1 : Int32) (v2 : Nat) (h : AH) : Option (Int32 × AH) := p_J3_checkIndex_8e157_0 v0 v1 v2 h
theorem c_J3_checkIndex_8e157 (l : Launch) (G : GG) (v0 : Int32) (v1 : Int32) (v2 : Nat) (h : AH) (r : Int32) (h' : AH) (hp : p_J3_checkIndex_8e157 v0 v1 v2 h = some (r, h')) : Ct l yJ3_checkIndex_8e157 (.code yJ3_checkIndex_8e157 cJ3_checkIndex_8e157 3 (some .int) :: MW) G 1 40 [.int v0, .int v1, zr v2] h (some (.int r)) h' := by
  by_cases hz2 : v2 = 0
  · subst hz2
    rw [zr_0]
    refine Ct.of (by decide +kernel) (Nat.le_of_ble_eq_true rfl) ?_
    intro p e s m args below meth c C hR ls hl
    have hl : zl ls 3 [(0, .int v0), (1, .int v1), (2, zr 0)] := ⟨by rw [zr_0]; exact hl, by simp [zr_cat, in_cat]⟩
    exact s_J3_checkIndex_8e157_0 C hR (fun _ hq => nomatch hq) hl hp
  · rw [show zr v2 = .ref (v2 - 1) from zr_p hz2]
    refine Ct.of (by decide +kernel) (Nat.le_of_ble_eq_true rfl) ?_
    intro p e s m args below meth c C hR ls hl
    have hl : zl ls 3 [(0, .int v0), (1, .int v1), (2, zr v2)] := ⟨by rw [zr_p hz2]; exact hl, by simp [zr_cat, in_cat]⟩
    exact s_J3_checkIndex_8e157_0 C hR (fun _ hq => nomatch hq) hl hp
/-! java/util/Objects.checkIndex(II)I -/
def p_J15_checkIndex_7cf53_0  (v0 : Int32) (v1 : Int32) (h : AH) : Option (Int32 × AH) :=
  bR (p_J3_checkIndex_8e157 v0 v1 0 h) fun r1 h2 =>
  some (r1, h2)
set_option maxHeartbeats 4000000 in
set_option maxRecDepth 100000 in
theorem s_J15_checkIndex_7cf53_0 {p : Program} {l : Launch} {e : Env} {s : State} {m : MethodId} {args : Array Value} {below : List Frame} {meth : Method} {c : Code} {G : GG} {hs : AH} {r : Int32} {h' : AH} (C : Cx G hs p s m args meth c cJ15_checkIndex_7cf53 2 RJ15 (.code yJ15_checkIndex_7cf53 cJ15_checkIndex_7cf53 2 (some .int) :: MW) (some .int) "checkIndex")   {v0 : Int32} {v1 : Int32} {h : AH} {H : Heap} {locs : List Loc} {cells slots : Nat} {ls : Array Slot} (hR : Rp G h H) (hL : ∀ q ∈ locs, gB G ≤ q.base) (hl : zl ls 2 [(0, .int v0), (1, .int v1)]) (hp : p_J15_checkIndex_7cf53_0  v0 v1 h = some (r, h')) : W p l e (gR G hs 2 62) s m args below meth c H locs cells slots (MQ below (Qcc G (some (.int r)) h') args s (gC G - aZ hs) (gS - aU hs) (fun q => gB G ≤ q)) (F0 m 0 ls []) := by
  obtain ⟨hx, hb, hml, hown, hts, hT, hK, rs, hlk, hret, hnm⟩ := id C
  have hm : ∀ w ∈ MW, w.before args s = true := fun w hw => hts w (hT w hw)
  unfold p_J15_checkIndex_7cf53_0 at hp
  refine lv_iload_n hx hb dJ15_checkIndex_7cf53_0 rfl (zl_at hl 0 rfl) ?_
  refine lv_iload_n hx hb dJ15_checkIndex_7cf53_1 rfl (zl_at hl 1 rfl) ?_
  refine z_null hx hb dJ15_checkIndex_7cf53_2 ?_
  obtain ⟨r1, h2, er1, hp⟩ := bR_i hp
  refine r_callS (n := 3) (As := [.int v0, .int v1, zr 0]) (rest := []) C (c_J3_checkIndex_8e157 l G v0 v1 0 h r1 h2 er1) hR hL mw_231 mw_232 mw_23 mw_233 (by decide +kernel) (by decide) rfl (zl_size hl) rfl (by simp [zr_cat, in_cat]) dJ15_checkIndex_7cf53_3 (st2 := [.int r1]) rfl (fun H locs cells slots hR hL => ?_)
  cases hp
  exact r_zret C hR hL rfl dJ15_checkIndex_7cf53_6
def p_J15_checkIndex_7cf53 (v0 : Int32) (v1 : Int32) (h : AH) : Option (Int32 × AH) := p_J15_checkIndex_7cf53_0 v0 v1 h
theorem c_J15_checkIndex_7cf53 (l : Launch) (G : GG) (v0 : Int32) (v1 : Int32) (h : AH) (r : Int32) (h' : AH) (hp : p_J15_checkIndex_7cf53 v0 v1 h = some (r, h')) : Ct l yJ15_checkIndex_7cf53 (.code yJ15_checkIndex_7cf53 cJ15_checkIndex_7cf53 2 (some .int) :: MW) G 2 62 [.int v0, .int v1] h (some (.int r)) h' := by
  refine Ct.of (by decide +kernel) (Nat.le_of_ble_eq_true rfl) ?_
  intro p e s m args below meth c C hR ls hl
  have hl : zl ls 2 [(0, .int v0), (1, .int v1)] := ⟨hl, by simp [zr_cat, in_cat]⟩
  exact s_J15_checkIndex_7cf53_0 C hR (fun _ hq => nomatch hq) hl hp
/-! java/util/ArrayList.get(I)Ljava/lang/Object; -/
def p_Jx4a65c_get_915e3_0  (v0 : Nat) (v1 : Int32) (h : AH) : Option (Nat × AH) :=
  ck (aK h v0 = 1) <|
  bR (p_J15_checkIndex_7cf53 v1 (aI h v0 2) h) fun r2 h3 =>
  ck (aK h3 v0 = 1) <|
  bR (p_Jx4a65c_elementData_915e3 v0 v1 h3) fun r5 h6 =>
  some (r5, h6)
set_option maxHeartbeats 4000000 in
set_option maxRecDepth 100000 in
theorem s_Jx4a65c_get_915e3_0 {p : Program} {l : Launch} {e : Env} {s : State} {m : MethodId} {args : Array Value} {below : List Frame} {meth : Method} {c : Code} {G : GG} {hs : AH} {r : Nat} {h' : AH} (C : Cx G hs p s m args meth c cJx4a65c_get_915e3 2 RJx4a65c (.code yJx4a65c_get_915e3 cJx4a65c_get_915e3 2 (some (.object "java/lang/Object")) :: MW) (some (.object "java/lang/Object")) "get")   {v0 : Nat} {v1 : Int32} {h : AH} {H : Heap} {locs : List Loc} {cells slots : Nat} {ls : Array Slot} (hR : Rp G h H) (hL : ∀ q ∈ locs, gB G ≤ q.base) (hl : zl ls 2 [(0, zr v0), (1, .int v1)]) (hp : p_Jx4a65c_get_915e3_0  v0 v1 h = some (r, h')) : W p l e (gR G hs 3 83) s m args below meth c H locs cells slots (MQ below (Qcc G (some (zr r)) h') args s (gC G - aZ hs) (gS - aU hs) (fun q => gB G ≤ q)) (F0 m 0 ls []) := by
  obtain ⟨hx, hb, hml, hown, hts, hT, hK, rs, hlk, hret, hnm⟩ := id C
  have hm : ∀ w ∈ MW, w.before args s = true := fun w hw => hts w (hT w hw)
  unfold p_Jx4a65c_get_915e3_0 at hp
  refine lv_iload_n hx hb dJx4a65c_get_915e3_0 rfl (zl_at hl 1 rfl) ?_
  refine z_aload_n hx hb dJx4a65c_get_915e3_1 rfl (zl_at hl 0 rfl) ?_
  obtain ⟨k1, hp⟩ := ck_i hp
  refine r_get (ci := 0) (C := RJx4a65c) (T := TJx4a65c) (N := 3) (v := .int (aI h v0 2)) hx hb hm ii_Jx4a65c hown hK hR rfl k1 2 (by decide) (hm _ mw_54) (fun _ h9 => h9) rfl dJx4a65c_get_915e3_2 ?_
  obtain ⟨r2, h3, er2, hp⟩ := bR_i hp
  refine r_callS (n := 2) (As := [.int v1, .int (aI h v0 2)]) (rest := []) C (c_J15_checkIndex_7cf53 l G v1 (aI h v0 2) h r2 h3 er2) hR hL mw_228 mw_229 mw_22 mw_230 (by decide +kernel) (by decide) rfl (zl_size hl) rfl (by simp [zr_cat, in_cat]) dJx4a65c_get_915e3_5 (st2 := [.int r2]) rfl (fun H locs cells slots hR hL => ?_)
  refine lv_pop hx hb dJx4a65c_get_915e3_8 rfl ?_
  refine z_aload_n hx hb dJx4a65c_get_915e3_9 rfl (zl_at hl 0 rfl) ?_
  refine lv_iload_n hx hb dJx4a65c_get_915e3_10 rfl (zl_at hl 1 rfl) ?_
  obtain ⟨k4, hp⟩ := ck_i hp
  obtain ⟨r5, h6, er5, hp⟩ := bR_i hp
  refine r_callV (ci := 0) (r := (RJx4a65c, TJx4a65c, 3)) (n := 1) (As := [.int v1]) (rest := []) C (c_Jx4a65c_elementData_915e3 l G v0 v1 h3 r5 h6 er5) hR hL rfl k4 mw_234 mw_235 mw_236 mw_4 mw_237 (by decide +kernel) (by decide) rfl (zl_size hl) rfl (by simp [zr_cat, in_cat]) dJx4a65c_get_915e3_11 (st2 := [zr r5]) rfl (fun H locs cells slots hR hL => ?_)
  cases hp
  exact r_aret (by first | exact Or.inl ⟨_, rfl⟩ | exact Or.inr ⟨_, rfl⟩) C hR hL dJx4a65c_get_915e3_14
def p_Jx4a65c_get_915e3 (v0 : Nat) (v1 : Int32) (h : AH) : Option (Nat × AH) := ck (v0 ≠ 0) <| p_Jx4a65c_get_915e3_0 v0 v1 h
theorem c_Jx4a65c_get_915e3 (l : Launch) (G : GG) (v0 : Nat) (v1 : Int32) (h : AH) (r : Nat) (h' : AH) (hp : p_Jx4a65c_get_915e3 v0 v1 h = some (r, h')) : Ct l yJx4a65c_get_915e3 (.code yJx4a65c_get_915e3 cJx4a65c_get_915e3 2 (some (.object "java/lang/Object")) :: MW) G 3 83 [.ref (v0 - 1), .int v1] h (some (zr r)) h' := by
  obtain ⟨hz0, hp⟩ := ck_i hp
  refine Ct.of (by decide +kernel) (Nat.le_of_ble_eq_true rfl) ?_
  intro p e s m args below meth c C hR ls hl
  have hl : zl ls 2 [(0, zr v0), (1, .int v1)] := ⟨by rw [zr_p hz0]; exact hl, by simp [zr_cat, in_cat]⟩
  exact s_Jx4a65c_get_915e3_0 C hR (fun _ hq => nomatch hq) hl hp
/-! java/util/ArrayList.add(Ljava/lang/Object;[Ljava/lang/Object;I)V -/
def p_Jx4a65c_add_72be8_11  (v0 : Nat) (v1 : Nat) (v2 : Nat) (v3 : Int32) (h : AH) : Option (Unit × AH) :=
  ck (aK h v2 = 26 ∧ ix v3 (aN h v2)) <|
  ck (1 ≤ aK h v1 ∧ aK h v1 ≤ 12) <|
  nm (uR h v2 v3.toNatClampNeg v1) fun h4 =>
  ck (aK h4 v0 = 1) <|
  nm (uI h4 v0 2 (v3 + (iI 1))) fun h6 =>
  some ((), h6)
set_option maxHeartbeats 4000000 in
set_option maxRecDepth 100000 in
theorem s_Jx4a65c_add_72be8_11 {p : Program} {l : Launch} {e : Env} {s : State} {m : MethodId} {args : Array Value} {below : List Frame} {meth : Method} {c : Code} {G : GG} {hs : AH} {r : Unit} {h' : AH} (C : Cx G hs p s m args meth c cJx4a65c_add_72be8 4 RJx4a65c (.code yJx4a65c_add_72be8 cJx4a65c_add_72be8 4 none :: MW) none "add")   {v0 : Nat} {v1 : Nat} {v2 : Nat} {v3 : Int32} {h : AH} {H : Heap} {locs : List Loc} {cells slots : Nat} {ls : Array Slot} (hR : Rp G h H) (hL : ∀ q ∈ locs, gB G ≤ q.base) (hl : zl ls 4 [(0, zr v0), (1, zr v1), (2, zr v2), (3, .int v3)]) (hp : p_Jx4a65c_add_72be8_11  v0 v1 v2 v3 h = some (r, h')) : W p l e (gR G hs 5 128) s m args below meth c H locs cells slots (MQ below (Qcc G (none) h') args s (gC G - aZ hs) (gS - aU hs) (fun q => gB G ≤ q)) (F0 m 11 ls []) := by
  obtain ⟨hx, hb, hml, hown, hts, hT, hK, rs, hlk, hret, hnm⟩ := id C
  have hm : ∀ w ∈ MW, w.before args s = true := fun w hw => hts w (hT w hw)
  unfold p_Jx4a65c_add_72be8_11 at hp
  refine z_aload_n hx hb dJx4a65c_add_72be8_11 rfl (zl_at hl 2 rfl) ?_
  refine lv_iload_n hx hb dJx4a65c_add_72be8_12 rfl (zl_at hl 3 rfl) ?_
  refine z_aload_n hx hb dJx4a65c_add_72be8_13 rfl (zl_at hl 1 rfl) ?_
  obtain ⟨k1, hp⟩ := ck_i hp
  obtain ⟨k3, hp⟩ := ck_i hp
  refine r_aastO hx hb hK hR hL k3 k1.1 k1.2 dJx4a65c_add_72be8_14 (fun H locs hR hL => ?_)
  obtain ⟨h4, hp, hR⟩ := nm_h hp hR
  refine z_aload_n hx hb dJx4a65c_add_72be8_15 rfl (zl_at hl 0 rfl) ?_
  refine lv_iload_n hx hb dJx4a65c_add_72be8_16 rfl (zl_at hl 3 rfl) ?_
  refine lv_iconst (v := iI 1) hx hb dJx4a65c_add_72be8_17 rfl ?_
  refine lv_iadd hx hb dJx4a65c_add_72be8_18 ?_
  obtain ⟨k5, hp⟩ := ck_i hp
  refine r_putI (ci := 0) (C := RJx4a65c) (T := TJx4a65c) (N := 3) hx hb hm ii_Jx4a65c tyJx4a65c_ok nmJx4a65c hown hK hR hL rfl k5 2 (by decide) (hm _ mw_54) (fun _ h9 => h9) (Or.inl rfl) rfl rfl (fun _ _ _ => rfl) dJx4a65c_add_72be8_19 (fun H locs hR hL => ?_)
  obtain ⟨h6, hp, hR⟩ := nm_h hp hR
  cases hp
  exact r_vret C hR hL dJx4a65c_add_72be8_22
def p_Jx4a65c_add_72be8_0  (v0 : Nat) (v1 : Nat) (v2 : Nat) (v3 : Int32) (h : AH) : Option (Unit × AH) :=
  ck (aK h v2 = 26) <|
  if v3 = (nI (aN h v2)) then
    ck (aK h v0 = 1) <|
    bR (p_Jx4a65c_grow_d5877 v0 h) fun r4 h5 =>
    p_Jx4a65c_add_72be8_11  v0 v1 r4 v3 h5
  else
    p_Jx4a65c_add_72be8_11  v0 v1 v2 v3 h
set_option maxHeartbeats 4000000 in
set_option maxRecDepth 100000 in
theorem s_Jx4a65c_add_72be8_0 {p : Program} {l : Launch} {e : Env} {s : State} {m : MethodId} {args : Array Value} {below : List Frame} {meth : Method} {c : Code} {G : GG} {hs : AH} {r : Unit} {h' : AH} (C : Cx G hs p s m args meth c cJx4a65c_add_72be8 4 RJx4a65c (.code yJx4a65c_add_72be8 cJx4a65c_add_72be8 4 none :: MW) none "add")   {v0 : Nat} {v1 : Nat} {v2 : Nat} {v3 : Int32} {h : AH} {H : Heap} {locs : List Loc} {cells slots : Nat} {ls : Array Slot} (hR : Rp G h H) (hL : ∀ q ∈ locs, gB G ≤ q.base) (hl : zl ls 4 [(0, zr v0), (1, zr v1), (2, zr v2), (3, .int v3)]) (hp : p_Jx4a65c_add_72be8_0  v0 v1 v2 v3 h = some (r, h')) : W p l e (gR G hs 5 128) s m args below meth c H locs cells slots (MQ below (Qcc G (none) h') args s (gC G - aZ hs) (gS - aU hs) (fun q => gB G ≤ q)) (F0 m 0 ls []) := by
  obtain ⟨hx, hb, hml, hown, hts, hT, hK, rs, hlk, hret, hnm⟩ := id C
  have hm : ∀ w ∈ MW, w.before args s = true := fun w hw => hts w (hT w hw)
  unfold p_Jx4a65c_add_72be8_0 at hp
  refine lv_iload_n hx hb dJx4a65c_add_72be8_0 rfl (zl_at hl 3 rfl) ?_
  refine z_aload_n hx hb dJx4a65c_add_72be8_1 rfl (zl_at hl 2 rfl) ?_
  obtain ⟨k1, hp⟩ := ck_i hp
  refine r_alen (t := 6) (by decide) hx hb hK hR k1 dJx4a65c_add_72be8_2 ?_
  refine lv_icmp_ne (tgt := 11) hx hb dJx4a65c_add_72be8_3 (by decide) (fun c2 => ?_) (fun c2 => ?_)
  · replace hp := ite_n hp c2
    exact s_Jx4a65c_add_72be8_11 C  hR hL (zl_sub hl [0, 1, 2, 3] rfl) hp
  · replace hp := ite_p hp c2
    refine z_aload_n hx hb dJx4a65c_add_72be8_6 rfl (zl_at hl 0 rfl) ?_
    obtain ⟨k3, hp⟩ := ck_i hp
    obtain ⟨r4, h5, er4, hp⟩ := bR_i hp
    refine r_callV (ci := 0) (r := (RJx4a65c, TJx4a65c, 3)) (n := 0) (As := []) (rest := []) C (c_Jx4a65c_grow_d5877 l G v0 h r4 h5 er4) hR hL rfl k3 mw_493 mw_495 mp_8 mw_4 mw_496 (by decide +kernel) (by decide) rfl (zl_size hl) rfl (by simp [zr_cat, in_cat]) dJx4a65c_add_72be8_7 (st2 := [zr r4]) rfl (fun H locs cells slots hR hL => ?_)
    refine z_astore_n (lv' := [(2, zr r4), (0, zr v0), (1, zr v1), (3, .int v3)]) hx hb dJx4a65c_add_72be8_10 rfl hl (by decide) rfl (fun ls hl => ?_)
    exact s_Jx4a65c_add_72be8_11 C  hR hL (zl_sub hl [1, 2, 0, 3] rfl) hp
def p_Jx4a65c_add_72be8 (v0 : Nat) (v1 : Nat) (v2 : Nat) (v3 : Int32) (h : AH) : Option (Unit × AH) := ck (v0 ≠ 0) <| ck (v1 ≠ 0) <| ck (v2 ≠ 0) <| p_Jx4a65c_add_72be8_0 v0 v1 v2 v3 h
theorem c_Jx4a65c_add_72be8 (l : Launch) (G : GG) (v0 : Nat) (v1 : Nat) (v2 : Nat) (v3 : Int32) (h : AH) (r : Unit) (h' : AH) (hp : p_Jx4a65c_add_72be8 v0 v1 v2 v3 h = some (r, h')) : Ct l yJx4a65c_add_72be8 (.code yJx4a65c_add_72be8 cJx4a65c_add_72be8 4 none :: MW) G 5 128 [.ref (v0 - 1), zr v1, zr v2, .int v3] h (none) h' := by
  obtain ⟨hz0, hp⟩ := ck_i hp
  obtain ⟨hz1, hp⟩ := ck_i hp
  obtain ⟨hz2, hp⟩ := ck_i hp
  rw [show zr v1 = .ref (v1 - 1) from zr_p hz1]
  rw [show zr v2 = .ref (v2 - 1) from zr_p hz2]
  refine Ct.of (by decide +kernel) (Nat.le_of_ble_eq_true rfl) ?_
  intro p e s m args below meth c C hR ls hl
  have hl : zl ls 4 [(0, zr v0), (1, zr v1), (2, zr v2), (3, .int v3)] := ⟨by rw [zr_p hz0, zr_p hz1, zr_p hz2]; exact hl, by simp [zr_cat, in_cat]⟩
  exact s_Jx4a65c_add_72be8_0 C hR (fun _ hq => nomatch hq) hl hp
/-! java/util/ArrayList.add(Ljava/lang/Object;)Z -/
def p_Jx4a65c_add_9ea2d_0  (v0 : Nat) (v1 : Nat) (h : AH) : Option (Int32 × AH) :=
  ck (aK h v0 = 1) <|
  ck (aK h v0 = 1) <|
  nm (uI h v0 0 ((aI h v0 0) + (iI 1))) fun h3 =>
  ck (aK h3 v0 = 1) <|
  ck (aK h3 v0 = 1) <|
  ck (aK h3 v0 = 1) <|
  bR (p_Jx4a65c_add_72be8 v0 v1 (aR h3 v0 1) (aI h3 v0 2) h3) fun r7 h8 =>
  some ((iI 1), h8)
set_option maxHeartbeats 4000000 in
set_option maxRecDepth 100000 in
theorem s_Jx4a65c_add_9ea2d_0 {p : Program} {l : Launch} {e : Env} {s : State} {m : MethodId} {args : Array Value} {below : List Frame} {meth : Method} {c : Code} {G : GG} {hs : AH} {r : Int32} {h' : AH} (C : Cx G hs p s m args meth c cJx4a65c_add_9ea2d 2 RJx4a65c (.code yJx4a65c_add_9ea2d cJx4a65c_add_9ea2d 2 (some .boolean) :: MW) (some .boolean) "add")   {v0 : Nat} {v1 : Nat} {h : AH} {H : Heap} {locs : List Loc} {cells slots : Nat} {ls : Array Slot} (hR : Rp G h H) (hL : ∀ q ∈ locs, gB G ≤ q.base) (hl : zl ls 2 [(0, zr v0), (1, zr v1)]) (hp : p_Jx4a65c_add_9ea2d_0  v0 v1 h = some (r, h')) : W p l e (gR G hs 6 151) s m args below meth c H locs cells slots (MQ below (Qcc G (some (.int r)) h') args s (gC G - aZ hs) (gS - aU hs) (fun q => gB G ≤ q)) (F0 m 0 ls []) := by
  obtain ⟨hx, hb, hml, hown, hts, hT, hK, rs, hlk, hret, hnm⟩ := id C
  have hm : ∀ w ∈ MW, w.before args s = true := fun w hw => hts w (hT w hw)
  unfold p_Jx4a65c_add_9ea2d_0 at hp
  refine z_aload_n hx hb dJx4a65c_add_9ea2d_0 rfl (zl_at hl 0 rfl) ?_
  refine lv_dup hx hb dJx4a65c_add_9ea2d_1 (zr_cat _) ?_
  obtain ⟨k1, hp⟩ := ck_i hp
  refine r_get (ci := 0) (C := RJx4a65c) (T := TJx4a65c) (N := 3) (v := .int (aI h v0 0)) hx hb hm ii_Jx4a65c hown hK hR rfl k1 0 (by decide) (hm _ mw_56) (fun x9 h9 => u_same (hm _ mw_57) x9 h9) rfl dJx4a65c_add_9ea2d_2 ?_
  refine lv_iconst (v := iI 1) hx hb dJx4a65c_add_9ea2d_5 rfl ?_
  refine lv_iadd hx hb dJx4a65c_add_9ea2d_6 ?_
  obtain ⟨k2, hp⟩ := ck_i hp
  refine r_putI (ci := 0) (C := RJx4a65c) (T := TJx4a65c) (N := 3) hx hb hm ii_Jx4a65c tyJx4a65c_ok nmJx4a65c hown hK hR hL rfl k2 0 (by decide) (hm _ mw_56) (fun x9 h9 => u_same (hm _ mw_57) x9 h9) (Or.inl rfl) rfl rfl (fun _ _ _ => rfl) dJx4a65c_add_9ea2d_7 (fun H locs hR hL => ?_)
  obtain ⟨h3, hp, hR⟩ := nm_h hp hR
  refine z_aload_n hx hb dJx4a65c_add_9ea2d_10 rfl (zl_at hl 0 rfl) ?_
  refine z_aload_n hx hb dJx4a65c_add_9ea2d_11 rfl (zl_at hl 1 rfl) ?_
  refine z_aload_n hx hb dJx4a65c_add_9ea2d_12 rfl (zl_at hl 0 rfl) ?_
  obtain ⟨k4, hp⟩ := ck_i hp
  refine r_get (ci := 0) (C := RJx4a65c) (T := TJx4a65c) (N := 3) (v := zr (aR h3 v0 1)) hx hb hm ii_Jx4a65c hown hK hR rfl k4 1 (by decide) (hm _ mw_53) (fun _ h9 => h9) rfl dJx4a65c_add_9ea2d_13 ?_
  refine z_aload_n hx hb dJx4a65c_add_9ea2d_16 rfl (zl_at hl 0 rfl) ?_
  obtain ⟨k5, hp⟩ := ck_i hp
  refine r_get (ci := 0) (C := RJx4a65c) (T := TJx4a65c) (N := 3) (v := .int (aI h3 v0 2)) hx hb hm ii_Jx4a65c hown hK hR rfl k5 2 (by decide) (hm _ mw_54) (fun _ h9 => h9) rfl dJx4a65c_add_9ea2d_17 ?_
  obtain ⟨k6, hp⟩ := ck_i hp
  obtain ⟨r7, h8, er7, hp⟩ := bR_i hp
  refine r_callV (ci := 0) (r := (RJx4a65c, TJx4a65c, 3)) (n := 3) (As := [zr v1, zr (aR h3 v0 1), .int (aI h3 v0 2)]) (rest := []) C (c_Jx4a65c_add_72be8 l G v0 v1 (aR h3 v0 1) (aI h3 v0 2) h3 r7 h8 er7) hR hL rfl k6 mw_489 mw_491 mp_7 mw_4 mw_492 (by decide +kernel) (by decide) rfl (zl_size hl) rfl (by simp [zr_cat, in_cat]) dJx4a65c_add_9ea2d_20 (st2 := []) rfl (fun H locs cells slots hR hL => ?_)
  refine lv_iconst (v := iI 1) hx hb dJx4a65c_add_9ea2d_23 rfl ?_
  cases hp
  exact r_zret C hR hL (by decide +kernel) dJx4a65c_add_9ea2d_24
def p_Jx4a65c_add_9ea2d (v0 : Nat) (v1 : Nat) (h : AH) : Option (Int32 × AH) := ck (v0 ≠ 0) <| ck (v1 ≠ 0) <| p_Jx4a65c_add_9ea2d_0 v0 v1 h
theorem c_Jx4a65c_add_9ea2d (l : Launch) (G : GG) (v0 : Nat) (v1 : Nat) (h : AH) (r : Int32) (h' : AH) (hp : p_Jx4a65c_add_9ea2d v0 v1 h = some (r, h')) : Ct l yJx4a65c_add_9ea2d (.code yJx4a65c_add_9ea2d cJx4a65c_add_9ea2d 2 (some .boolean) :: MW) G 6 151 [.ref (v0 - 1), zr v1] h (some (.int r)) h' := by
  obtain ⟨hz0, hp⟩ := ck_i hp
  obtain ⟨hz1, hp⟩ := ck_i hp
  rw [show zr v1 = .ref (v1 - 1) from zr_p hz1]
  refine Ct.of (by decide +kernel) (Nat.le_of_ble_eq_true rfl) ?_
  intro p e s m args below meth c C hR ls hl
  have hl : zl ls 2 [(0, zr v0), (1, zr v1)] := ⟨by rw [zr_p hz0, zr_p hz1]; exact hl, by simp [zr_cat, in_cat]⟩
  exact s_Jx4a65c_add_9ea2d_0 C hR (fun _ hq => nomatch hq) hl hp
/-! java/util/ArrayList.fastRemove([Ljava/lang/Object;I)V -/
def p_Jx4a65c_fastRemove_b59b0_34  (v0 : Nat) (v1 : Nat) (v3 : Int32) (h : AH) : Option (Unit × AH) :=
  ck (aK h v0 = 1) <|
  nm (uI h v0 2 v3) fun h2 =>
  ck (aK h2 v1 = 26 ∧ ix v3 (aN h2 v1)) <|
  nm (uR h2 v1 v3.toNatClampNeg 0) fun h5 =>
  some ((), h5)
set_option maxHeartbeats 4000000 in
set_option maxRecDepth 100000 in
theorem s_Jx4a65c_fastRemove_b59b0_34 {p : Program} {l : Launch} {e : Env} {s : State} {m : MethodId} {args : Array Value} {below : List Frame} {meth : Method} {c : Code} {G : GG} {hs : AH} {r : Unit} {h' : AH} (C : Cx G hs p s m args meth c cJx4a65c_fastRemove_b59b0 4 RJx4a65c (.code yJx4a65c_fastRemove_b59b0 cJx4a65c_fastRemove_b59b0 4 none :: MW) none "fastRemove")   {v0 : Nat} {v1 : Nat} {v3 : Int32} {h : AH} {H : Heap} {locs : List Loc} {cells slots : Nat} {ls : Array Slot} (hR : Rp G h H) (hL : ∀ q ∈ locs, gB G ≤ q.base) (hl : zl ls 4 [(0, zr v0), (1, zr v1), (3, .int v3)]) (hp : p_Jx4a65c_fastRemove_b59b0_34  v0 v1 v3 h = some (r, h')) : W p l e (gR G hs 1 40) s m args below meth c H locs cells slots (MQ below (Qcc G (none) h') args s (gC G - aZ hs) (gS - aU hs) (fun q => gB G ≤ q)) (F0 m 34 ls []) := by
  obtain ⟨hx, hb, hml, hown, hts, hT, hK, rs, hlk, hret, hnm⟩ := id C
  have hm : ∀ w ∈ MW, w.before args s = true := fun w hw => hts w (hT w hw)
  unfold p_Jx4a65c_fastRemove_b59b0_34 at hp
  refine z_aload_n hx hb dJx4a65c_fastRemove_b59b0_34 rfl (zl_at hl 1 rfl) ?_
  refine z_aload_n hx hb dJx4a65c_fastRemove_b59b0_35 rfl (zl_at hl 0 rfl) ?_
  refine lv_iload_n hx hb dJx4a65c_fastRemove_b59b0_36 rfl (zl_at hl 2 rfl) ?_
  refine lv_dup_x1 hx hb dJx4a65c_fastRemove_b59b0_37 rfl (zr_cat _) ?_
  obtain ⟨k1, hp⟩ := ck_i hp
  refine r_putI (ci := 0) (C := RJx4a65c) (T := TJx4a65c) (N := 3) hx hb hm ii_Jx4a65c tyJx4a65c_ok nmJx4a65c hown hK hR hL rfl k1 2 (by decide) (hm _ mw_54) (fun _ h9 => h9) (Or.inl rfl) rfl rfl (fun _ _ _ => rfl) dJx4a65c_fastRemove_b59b0_38 (fun H locs hR hL => ?_)
  obtain ⟨h2, hp, hR⟩ := nm_h hp hR
  refine z_null hx hb dJx4a65c_fastRemove_b59b0_41 ?_
  obtain ⟨k3, hp⟩ := ck_i hp
  refine r_aastN (t := 6) (by decide) rfl hx hb hK hR hL k3.1 k3.2 dJx4a65c_fastRemove_b59b0_42 (fun H locs hR hL => ?_)
  obtain ⟨h5, hp, hR⟩ := nm_h hp hR
  cases hp
  exact r_vret C hR hL dJx4a65c_fastRemove_b59b0_43
def p_Jx4a65c_fastRemove_b59b0_0  (v0 : Nat) (v1 : Nat) (v2 : Int32) (h : AH) : Option (Unit × AH) :=
  ck (aK h v0 = 1) <|
  ck (aK h v0 = 1) <|
  nm (uI h v0 0 ((aI h v0 0) + (iI 1))) fun h3 =>
  ck (aK h3 v0 = 1) <|
  nm (((aI h3 v0 2) - (iI 1))) fun (x5 : Int32) =>
  if ((aI h3 v0 2) - (iI 1)) ≤ v2 then
    p_Jx4a65c_fastRemove_b59b0_34  v0 v1 x5 h3
  else
    ck ((0 ≤ (v2 + (iI 1)) ∧ 0 ≤ v2 ∧ 0 ≤ (x5 - v2)) ∧ okCp h3 26 v1 (v2 + (iI 1)).toNatClampNeg v1 v2.toNatClampNeg (x5 - v2).toNatClampNeg) <|
    ck (okEl h3 v1 (v2 + (iI 1)).toNatClampNeg (x5 - v2).toNatClampNeg) <|
    nm (uCR h3 v1 (v2 + (iI 1)).toNatClampNeg v1 v2.toNatClampNeg (x5 - v2).toNatClampNeg) fun h10 =>
    p_Jx4a65c_fastRemove_b59b0_34  v0 v1 x5 h10
set_option maxHeartbeats 4000000 in
set_option maxRecDepth 100000 in
theorem s_Jx4a65c_fastRemove_b59b0_0 {p : Program} {l : Launch} {e : Env} {s : State} {m : MethodId} {args : Array Value} {below : List Frame} {meth : Method} {c : Code} {G : GG} {hs : AH} {r : Unit} {h' : AH} (C : Cx G hs p s m args meth c cJx4a65c_fastRemove_b59b0 4 RJx4a65c (.code yJx4a65c_fastRemove_b59b0 cJx4a65c_fastRemove_b59b0 4 none :: MW) none "fastRemove")   {v0 : Nat} {v1 : Nat} {v2 : Int32} {h : AH} {H : Heap} {locs : List Loc} {cells slots : Nat} {ls : Array Slot} (hR : Rp G h H) (hL : ∀ q ∈ locs, gB G ≤ q.base) (hl : zl ls 4 [(0, zr v0), (1, zr v1), (2, .int v2)]) (hp : p_Jx4a65c_fastRemove_b59b0_0  v0 v1 v2 h = some (r, h')) : W p l e (gR G hs 1 40) s m args below meth c H locs cells slots (MQ below (Qcc G (none) h') args s (gC G - aZ hs) (gS - aU hs) (fun q => gB G ≤ q)) (F0 m 0 ls []) := by
  obtain ⟨hx, hb, hml, hown, hts, hT, hK, rs, hlk, hret, hnm⟩ := id C
  have hm : ∀ w ∈ MW, w.before args s = true := fun w hw => hts w (hT w hw)
  unfold p_Jx4a65c_fastRemove_b59b0_0 at hp
  refine z_aload_n hx hb dJx4a65c_fastRemove_b59b0_0 rfl (zl_at hl 0 rfl) ?_
  refine lv_dup hx hb dJx4a65c_fastRemove_b59b0_1 (zr_cat _) ?_
  obtain ⟨k1, hp⟩ := ck_i hp
  refine r_get (ci := 0) (C := RJx4a65c) (T := TJx4a65c) (N := 3) (v := .int (aI h v0 0)) hx hb hm ii_Jx4a65c hown hK hR rfl k1 0 (by decide) (hm _ mw_56) (fun x9 h9 => u_same (hm _ mw_57) x9 h9) rfl dJx4a65c_fastRemove_b59b0_2 ?_
  refine lv_iconst (v := iI 1) hx hb dJx4a65c_fastRemove_b59b0_5 rfl ?_
  refine lv_iadd hx hb dJx4a65c_fastRemove_b59b0_6 ?_
  obtain ⟨k2, hp⟩ := ck_i hp
  refine r_putI (ci := 0) (C := RJx4a65c) (T := TJx4a65c) (N := 3) hx hb hm ii_Jx4a65c tyJx4a65c_ok nmJx4a65c hown hK hR hL rfl k2 0 (by decide) (hm _ mw_56) (fun x9 h9 => u_same (hm _ mw_57) x9 h9) (Or.inl rfl) rfl rfl (fun _ _ _ => rfl) dJx4a65c_fastRemove_b59b0_7 (fun H locs hR hL => ?_)
  obtain ⟨h3, hp, hR⟩ := nm_h hp hR
  refine z_aload_n hx hb dJx4a65c_fastRemove_b59b0_10 rfl (zl_at hl 0 rfl) ?_
  obtain ⟨k4, hp⟩ := ck_i hp
  refine r_get (ci := 0) (C := RJx4a65c) (T := TJx4a65c) (N := 3) (v := .int (aI h3 v0 2)) hx hb hm ii_Jx4a65c hown hK hR rfl k4 2 (by decide) (hm _ mw_54) (fun _ h9 => h9) rfl dJx4a65c_fastRemove_b59b0_11 ?_
  refine lv_iconst (v := iI 1) hx hb dJx4a65c_fastRemove_b59b0_14 rfl ?_
  refine lv_isub hx hb dJx4a65c_fastRemove_b59b0_15 ?_
  refine lv_dup hx hb dJx4a65c_fastRemove_b59b0_16 rfl ?_
  refine lv_topi (fun x5 ex5 => ?_)
  replace hp := nm_i hp ex5
  refine z_istore_n (lv' := [(3, .int x5), (0, zr v0), (1, zr v1), (2, .int v2)]) hx hb dJx4a65c_fastRemove_b59b0_17 rfl hl (by decide) rfl (fun ls hl => ?_)
  refine lv_iload_n hx hb dJx4a65c_fastRemove_b59b0_18 rfl (zl_at hl 3 rfl) ?_
  refine lv_icmp_le (tgt := 34) hx hb dJx4a65c_fastRemove_b59b0_19 (by decide) (fun c6 => ?_) (fun c6 => ?_)
  · replace hp := ite_p hp c6
    exact s_Jx4a65c_fastRemove_b59b0_34 C  hR hL (zl_sub hl [1, 2, 0] rfl) hp
  · replace hp := ite_n hp c6
    refine z_aload_n hx hb dJx4a65c_fastRemove_b59b0_22 rfl (zl_at hl 2 rfl) ?_
    refine lv_iload_n hx hb dJx4a65c_fastRemove_b59b0_23 rfl (zl_at hl 3 rfl) ?_
    refine lv_iconst (v := iI 1) hx hb dJx4a65c_fastRemove_b59b0_24 rfl ?_
    refine lv_iadd hx hb dJx4a65c_fastRemove_b59b0_25 ?_
    refine z_aload_n hx hb dJx4a65c_fastRemove_b59b0_26 rfl (zl_at hl 2 rfl) ?_
    refine lv_iload_n hx hb dJx4a65c_fastRemove_b59b0_27 rfl (zl_at hl 3 rfl) ?_
    refine lv_iload_n hx hb dJx4a65c_fastRemove_b59b0_28 rfl (zl_at hl 0 rfl) ?_
    refine lv_iload_n hx hb dJx4a65c_fastRemove_b59b0_29 rfl (zl_at hl 3 rfl) ?_
    refine lv_isub hx hb dJx4a65c_fastRemove_b59b0_30 ?_
    obtain ⟨k7, hp⟩ := ck_i hp
    obtain ⟨k9, hp⟩ := ck_i hp
    refine r_copyR C hR hL k7 k9 (hm _ mw_264) (hm _ mw_266) (hm _ mw_265) (hm _ mw_18) (zl_size hl) (by decide) (by simp [zr_cat, in_cat]) (by decide +kernel) dJx4a65c_fastRemove_b59b0_31 (fun H locs hR hL => ?_)
    obtain ⟨h10, hp, hR⟩ := nm_h hp hR
    exact s_Jx4a65c_fastRemove_b59b0_34 C  hR hL (zl_sub hl [1, 2, 0] rfl) hp
def p_Jx4a65c_fastRemove_b59b0 (v0 : Nat) (v1 : Nat) (v2 : Int32) (h : AH) : Option (Unit × AH) := ck (v0 ≠ 0) <| ck (v1 ≠ 0) <| p_Jx4a65c_fastRemove_b59b0_0 v0 v1 v2 h
theorem c_Jx4a65c_fastRemove_b59b0 (l : Launch) (G : GG) (v0 : Nat) (v1 : Nat) (v2 : Int32) (h : AH) (r : Unit) (h' : AH) (hp : p_Jx4a65c_fastRemove_b59b0 v0 v1 v2 h = some (r, h')) : Ct l yJx4a65c_fastRemove_b59b0 (.code yJx4a65c_fastRemove_b59b0 cJx4a65c_fastRemove_b59b0 4 none :: MW) G 1 40 [.ref (v0 - 1), zr v1, .int v2] h (none) h' := by
  obtain ⟨hz0, hp⟩ := ck_i hp
  obtain ⟨hz1, hp⟩ := ck_i hp
  rw [show zr v1 = .ref (v1 - 1) from zr_p hz1]
  refine Ct.of (by decide +kernel) (Nat.le_of_ble_eq_true rfl) ?_
  intro p e s m args below meth c C hR ls hl
  have hl : zl ls 4 [(0, zr v0), (1, zr v1), (2, .int v2)] := ⟨by rw [zr_p hz0, zr_p hz1]; exact hl, by simp [zr_cat, in_cat]⟩
  exact s_Jx4a65c_fastRemove_b59b0_0 C hR (fun _ hq => nomatch hq) hl hp
/-! java/util/ArrayList.remove(I)Ljava/lang/Object; -/
def p_Jx4a65c_remove_915e3_0  (v0 : Nat) (v1 : Int32) (h : AH) : Option (Nat × AH) :=
  ck (aK h v0 = 1) <|
  bR (p_J15_checkIndex_7cf53 v1 (aI h v0 2) h) fun r2 h3 =>
  ck (aK h3 v0 = 1) <|
  nm ((aR h3 v0 1)) fun (x5 : Nat) =>
  ck (aK h3 x5 = 26 ∧ ix v1 (aN h3 x5)) <|
  nm ((aR h3 x5 v1.toNatClampNeg)) fun (x8 : Nat) =>
  ck (aK h3 v0 = 1) <|
  bR (p_Jx4a65c_fastRemove_b59b0 v0 x5 v1 h3) fun r10 h11 =>
  some (x8, h11)
set_option maxHeartbeats 4000000 in
set_option maxRecDepth 100000 in
theorem s_Jx4a65c_remove_915e3_0 {p : Program} {l : Launch} {e : Env} {s : State} {m : MethodId} {args : Array Value} {below : List Frame} {meth : Method} {c : Code} {G : GG} {hs : AH} {r : Nat} {h' : AH} (C : Cx G hs p s m args meth c cJx4a65c_remove_915e3 4 RJx4a65c (.code yJx4a65c_remove_915e3 cJx4a65c_remove_915e3 4 (some (.object "java/lang/Object")) :: MW) (some (.object "java/lang/Object")) "remove")   {v0 : Nat} {v1 : Int32} {h : AH} {H : Heap} {locs : List Loc} {cells slots : Nat} {ls : Array Slot} (hR : Rp G h H) (hL : ∀ q ∈ locs, gB G ≤ q.base) (hl : zl ls 4 [(0, zr v0), (1, .int v1)]) (hp : p_Jx4a65c_remove_915e3_0  v0 v1 h = some (r, h')) : W p l e (gR G hs 3 83) s m args below meth c H locs cells slots (MQ below (Qcc G (some (zr r)) h') args s (gC G - aZ hs) (gS - aU hs) (fun q => gB G ≤ q)) (F0 m 0 ls []) := by
  obtain ⟨hx, hb, hml, hown, hts, hT, hK, rs, hlk, hret, hnm⟩ := id C
  have hm : ∀ w ∈ MW, w.before args s = true := fun w hw => hts w (hT w hw)
  unfold p_Jx4a65c_remove_915e3_0 at hp
  refine lv_iload_n hx hb dJx4a65c_remove_915e3_0 rfl (zl_at hl 1 rfl) ?_
  refine z_aload_n hx hb dJx4a65c_remove_915e3_1 rfl (zl_at hl 0 rfl) ?_
  obtain ⟨k1, hp⟩ := ck_i hp
  refine r_get (ci := 0) (C := RJx4a65c) (T := TJx4a65c) (N := 3) (v := .int (aI h v0 2)) hx hb hm ii_Jx4a65c hown hK hR rfl k1 2 (by decide) (hm _ mw_54) (fun _ h9 => h9) rfl dJx4a65c_remove_915e3_2 ?_
  obtain ⟨r2, h3, er2, hp⟩ := bR_i hp
  refine r_callS (n := 2) (As := [.int v1, .int (aI h v0 2)]) (rest := []) C (c_J15_checkIndex_7cf53 l G v1 (aI h v0 2) h r2 h3 er2) hR hL mw_228 mw_229 mw_22 mw_230 (by decide +kernel) (by decide) rfl (zl_size hl) rfl (by simp [zr_cat, in_cat]) dJx4a65c_remove_915e3_5 (st2 := [.int r2]) rfl (fun H locs cells slots hR hL => ?_)
  refine lv_pop hx hb dJx4a65c_remove_915e3_8 rfl ?_
  refine z_aload_n hx hb dJx4a65c_remove_915e3_9 rfl (zl_at hl 0 rfl) ?_
  obtain ⟨k4, hp⟩ := ck_i hp
  refine r_get (ci := 0) (C := RJx4a65c) (T := TJx4a65c) (N := 3) (v := zr (aR h3 v0 1)) hx hb hm ii_Jx4a65c hown hK hR rfl k4 1 (by decide) (hm _ mw_53) (fun _ h9 => h9) rfl dJx4a65c_remove_915e3_10 ?_
  refine lv_topz (fun x5 ex5 => ?_)
  replace hp := nm_i hp ex5
  refine z_astore_n (lv' := [(2, zr x5), (0, zr v0), (1, .int v1)]) hx hb dJx4a65c_remove_915e3_13 rfl hl (by decide) rfl (fun ls hl => ?_)
  refine z_aload_n hx hb dJx4a65c_remove_915e3_14 rfl (zl_at hl 0 rfl) ?_
  refine lv_iload_n hx hb dJx4a65c_remove_915e3_15 rfl (zl_at hl 2 rfl) ?_
  obtain ⟨k6, hp⟩ := ck_i hp
  refine r_aald (t := 6) (by decide) rfl (fun _ _ _ => rfl) hx hb hK hR k6.1 k6.2 dJx4a65c_remove_915e3_16 ?_
  refine lv_topz (fun x8 ex8 => ?_)
  replace hp := nm_i hp ex8
  refine z_astore_n (lv' := [(3, zr x8), (2, zr x5), (0, zr v0), (1, .int v1)]) hx hb dJx4a65c_remove_915e3_17 rfl hl (by decide) rfl (fun ls hl => ?_)
  refine z_aload_n hx hb dJx4a65c_remove_915e3_18 rfl (zl_at hl 2 rfl) ?_
  refine z_aload_n hx hb dJx4a65c_remove_915e3_19 rfl (zl_at hl 1 rfl) ?_
  refine lv_iload_n hx hb dJx4a65c_remove_915e3_20 rfl (zl_at hl 3 rfl) ?_
  obtain ⟨k9, hp⟩ := ck_i hp
  obtain ⟨r10, h11, er10, hp⟩ := bR_i hp
  refine r_callV (ci := 0) (r := (RJx4a65c, TJx4a65c, 3)) (n := 2) (As := [zr x5, .int v1]) (rest := []) C (c_Jx4a65c_fastRemove_b59b0 l G v0 x5 v1 h3 r10 h11 er10) hR hL rfl k9 mw_260 mw_262 mp_1 mw_4 mw_263 (by decide +kernel) (by decide) rfl (zl_size hl) rfl (by simp [zr_cat, in_cat]) dJx4a65c_remove_915e3_21 (st2 := []) rfl (fun H locs cells slots hR hL => ?_)
  refine z_aload_n hx hb dJx4a65c_remove_915e3_24 rfl (zl_at hl 0 rfl) ?_
  cases hp
  exact r_aret (by first | exact Or.inl ⟨_, rfl⟩ | exact Or.inr ⟨_, rfl⟩) C hR hL dJx4a65c_remove_915e3_25
def p_Jx4a65c_remove_915e3 (v0 : Nat) (v1 : Int32) (h : AH) : Option (Nat × AH) := ck (v0 ≠ 0) <| p_Jx4a65c_remove_915e3_0 v0 v1 h
theorem c_Jx4a65c_remove_915e3 (l : Launch) (G : GG) (v0 : Nat) (v1 : Int32) (h : AH) (r : Nat) (h' : AH) (hp : p_Jx4a65c_remove_915e3 v0 v1 h = some (r, h')) : Ct l yJx4a65c_remove_915e3 (.code yJx4a65c_remove_915e3 cJx4a65c_remove_915e3 4 (some (.object "java/lang/Object")) :: MW) G 3 83 [.ref (v0 - 1), .int v1] h (some (zr r)) h' := by
  obtain ⟨hz0, hp⟩ := ck_i hp
  refine Ct.of (by decide +kernel) (Nat.le_of_ble_eq_true rfl) ?_
  intro p e s m args below meth c C hR ls hl
  have hl : zl ls 4 [(0, zr v0), (1, .int v1)] := ⟨by rw [zr_p hz0]; exact hl, by simp [zr_cat, in_cat]⟩
  exact s_Jx4a65c_remove_915e3_0 C hR (fun _ hq => nomatch hq) hl hp
