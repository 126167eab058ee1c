/-! CursorKeep$Row.<init>()V -/
def p_X7_init_0  (v0 : Nat) (h : AH) : Option (Unit × AH) :=
  ck (v0 ≠ 0) <|
  ck ((0 ≤ (iI 150) ∧ (iI 150).toNatClampNeg ≤ 100000) ∧ aZ h + 1 ≤ aC h ∧ aU h + (iI 150).toNatClampNeg ≤ gS) <|
  nm (uN h 20 (iI 150).toNatClampNeg) fun h4 =>
  ck (aK h4 v0 = 9) <|
  nm (uR h4 v0 0 (aZ h)) fun h6 =>
  ck ((0 ≤ (iI 150) ∧ (iI 150).toNatClampNeg ≤ 100000) ∧ aZ h6 + 1 ≤ aC h6 ∧ aU h6 + (iI 150).toNatClampNeg ≤ gS) <|
  nm (uN h6 21 (iI 150).toNatClampNeg) fun h9 =>
  ck (aK h9 v0 = 9) <|
  nm (uR h9 v0 1 (aZ h6)) fun h11 =>
  ck ((0 ≤ (iI 150) ∧ (iI 150).toNatClampNeg ≤ 100000) ∧ aZ h11 + 1 ≤ aC h11 ∧ aU h11 + (iI 150).toNatClampNeg ≤ gS) <|
  nm (uN h11 22 (iI 150).toNatClampNeg) fun h14 =>
  ck (aK h14 v0 = 9) <|
  nm (uR h14 v0 2 (aZ h11)) fun h16 =>
  some ((), h16)
set_option maxHeartbeats 4000000 in
set_option maxRecDepth 100000 in
theorem s_X7_init_0 {p : Program} {l : Launch} {e : Env} {s : State} {m : MethodId} {args : Array Value} {below : List Frame} {meth : Method} {c : Code} {G : GG} {hs : AH} {r : Unit} {h' : AH} (C : Cx G hs p s m args meth c cX7_init 1 RX7 (.code yX7_init cX7_init 1 none :: MW) none "<init>")   {v0 : Nat} {h : AH} {H : Heap} {locs : List Loc} {cells slots : Nat} {ls : Array Slot} (hR : Rp G h H) (hL : ∀ q ∈ locs, gB G ≤ q.base) (hl : zl ls 1 [(0, zr v0)]) (hp : p_X7_init_0  v0 h = some (r, h')) : W p l e (gR G hs 1 40) s m args below meth c H locs cells slots (MQ below (Qcc G (none) h') args s (gC G - aZ hs) (gS - aU hs) (fun q => gB G ≤ q)) (F0 m 0 ls []) := by
  obtain ⟨hx, hb, hml, hown, hts, hT, hK, rs, hlk, hret, hnm⟩ := id C
  have hm : ∀ w ∈ MW, w.before args s = true := fun w hw => hts w (hT w hw)
  unfold p_X7_init_0 at hp
  refine z_aload_n hx hb dX7_init_0 rfl (zl_at hl 0 rfl) ?_
  obtain ⟨k1, hp⟩ := ck_i hp
  refine r_objInit C k1 (hm _ mw_113) (hm _ mw_33) (hm _ mw_34) (zl_size hl) dX7_init_1 (by decide) (by simp [zr_cat, in_cat]) ?_
  refine z_aload_n hx hb dX7_init_4 rfl (zl_at hl 0 rfl) ?_
  refine lv_sipush (v := iI 150) hx hb dX7_init_5 (by decide +kernel) ?_
  obtain ⟨k2, hp⟩ := ck_i hp
  refine r_newa (t := 0) (by decide) rfl (fun _ h9 => nomatch (show FieldType.int = _ from h9)) rfl C hR mw_84 k2.1 k2.2 dX7_init_8 (fun H cells slots hR => ?_)
  obtain ⟨h4, hp, hR⟩ := nm_h hp hR
  obtain ⟨k5, hp⟩ := ck_i hp
  refine r_putR (ci := 8) (C := RX7) (T := TX7) (N := 4) hx hb hm ii_X7 tyX7_ok nmX7 hown hK hR hL rfl k5 0 (by decide) (hm _ mw_114) (fun _ h9 => h9) (Or.inr ⟨rfl, hnm, rfl⟩) (zr_fitsA _ _) (fun _ _ _ => rfl) dX7_init_10 (fun H locs hR hL => ?_)
  obtain ⟨h6, hp, hR⟩ := nm_h hp hR
  refine z_aload_n hx hb dX7_init_13 rfl (zl_at hl 0 rfl) ?_
  refine lv_sipush (v := iI 150) hx hb dX7_init_14 (by decide +kernel) ?_
  obtain ⟨k7, hp⟩ := ck_i hp
  refine r_newa (t := 1) (by decide) rfl (fun _ h9 => nomatch (show FieldType.char = _ from h9)) rfl C hR mw_85 k7.1 k7.2 dX7_init_17 (fun H cells slots hR => ?_)
  obtain ⟨h9, hp, hR⟩ := nm_h hp hR
  obtain ⟨k10, hp⟩ := ck_i hp
  refine r_putR (ci := 8) (C := RX7) (T := TX7) (N := 4) hx hb hm ii_X7 tyX7_ok nmX7 hown hK hR hL rfl k10 1 (by decide) (hm _ mw_115) (fun _ h9 => h9) (Or.inr ⟨rfl, hnm, rfl⟩) (zr_fitsA _ _) (fun _ _ _ => rfl) dX7_init_19 (fun H locs hR hL => ?_)
  obtain ⟨h11, hp, hR⟩ := nm_h hp hR
  refine z_aload_n hx hb dX7_init_22 rfl (zl_at hl 0 rfl) ?_
  refine lv_sipush (v := iI 150) hx hb dX7_init_23 (by decide +kernel) ?_
  obtain ⟨k12, hp⟩ := ck_i hp
  refine r_newa (t := 2) (by decide) rfl (fun _ h9 => nomatch (show FieldType.boolean = _ from h9)) rfl C hR mw_102 k12.1 k12.2 dX7_init_26 (fun H cells slots hR => ?_)
  obtain ⟨h14, hp, hR⟩ := nm_h hp hR
  obtain ⟨k15, hp⟩ := ck_i hp
  refine r_putR (ci := 8) (C := RX7) (T := TX7) (N := 4) hx hb hm ii_X7 tyX7_ok nmX7 hown hK hR hL rfl k15 2 (by decide) (hm _ mw_116) (fun _ h9 => h9) (Or.inr ⟨rfl, hnm, rfl⟩) (zr_fitsA _ _) (fun _ _ _ => rfl) dX7_init_28 (fun H locs hR hL => ?_)
  obtain ⟨h16, hp, hR⟩ := nm_h hp hR
  cases hp
  exact r_vret C hR hL dX7_init_31
def p_X7_init (v0 : Nat) (h : AH) : Option (Unit × AH) := ck (v0 ≠ 0) <| p_X7_init_0 v0 h
theorem c_X7_init (l : Launch) (G : GG) (v0 : Nat) (h : AH) (r : Unit) (h' : AH) (hp : p_X7_init v0 h = some (r, h')) : Ct l yX7_init (.code yX7_init cX7_init 1 none :: MW) G 1 40 [.ref (v0 - 1)] h (none) h' := by
  obtain ⟨hz0, hp⟩ := ck_i hp
  refine Ct.of (by decide +kernel) (Nat.le_of_ble_eq_true rfl) ?_
  intro p e s m args below meth c C hR ls hl
  have hl : zl ls 1 [(0, zr v0)] := ⟨by rw [zr_p hz0]; exact hl, by simp [zr_cat, in_cat]⟩
  exact s_X7_init_0 C hR (fun _ hq => nomatch hq) hl hp
/-! CursorKeep$Row.empty()V -/
def p_X7_empty_0  (v0 : Nat) (h : AH) : Option (Unit × AH) :=
  ck (aK h v0 = 9) <|
  nm (uI h v0 3 (iI 0)) fun h2 =>
  some ((), h2)
set_option maxHeartbeats 4000000 in
set_option maxRecDepth 100000 in
theorem s_X7_empty_0 {p : Program} {l : Launch} {e : Env} {s : State} {m : MethodId} {args : Array Value} {below : List Frame} {meth : Method} {c : Code} {G : GG} {hs : AH} {r : Unit} {h' : AH} (C : Cx G hs p s m args meth c cX7_empty 1 RX7 (.code yX7_empty cX7_empty 1 none :: MW) none "empty")   {v0 : Nat} {h : AH} {H : Heap} {locs : List Loc} {cells slots : Nat} {ls : Array Slot} (hR : Rp G h H) (hL : ∀ q ∈ locs, gB G ≤ q.base) (hl : zl ls 1 [(0, zr v0)]) (hp : p_X7_empty_0  v0 h = some (r, h')) : W p l e (gR G hs 1 40) s m args below meth c H locs cells slots (MQ below (Qcc G (none) h') args s (gC G - aZ hs) (gS - aU hs) (fun q => gB G ≤ q)) (F0 m 0 ls []) := by
  obtain ⟨hx, hb, hml, hown, hts, hT, hK, rs, hlk, hret, hnm⟩ := id C
  have hm : ∀ w ∈ MW, w.before args s = true := fun w hw => hts w (hT w hw)
  unfold p_X7_empty_0 at hp
  refine z_aload_n hx hb dX7_empty_0 rfl (zl_at hl 0 rfl) ?_
  refine lv_iconst (v := iI 0) hx hb dX7_empty_1 rfl ?_
  obtain ⟨k1, hp⟩ := ck_i hp
  refine r_putI (ci := 8) (C := RX7) (T := TX7) (N := 4) hx hb hm ii_X7 tyX7_ok nmX7 hown hK hR hL rfl k1 3 (by decide) (hm _ mw_117) (fun _ h9 => h9) (Or.inl rfl) rfl rfl (fun _ _ _ => rfl) dX7_empty_2 (fun H locs hR hL => ?_)
  obtain ⟨h2, hp, hR⟩ := nm_h hp hR
  cases hp
  exact r_vret C hR hL dX7_empty_5
def p_X7_empty (v0 : Nat) (h : AH) : Option (Unit × AH) := ck (v0 ≠ 0) <| p_X7_empty_0 v0 h
theorem c_X7_empty (l : Launch) (G : GG) (v0 : Nat) (h : AH) (r : Unit) (h' : AH) (hp : p_X7_empty v0 h = some (r, h')) : Ct l yX7_empty (.code yX7_empty cX7_empty 1 none :: MW) G 1 40 [.ref (v0 - 1)] h (none) h' := by
  obtain ⟨hz0, hp⟩ := ck_i hp
  refine Ct.of (by decide +kernel) (Nat.le_of_ble_eq_true rfl) ?_
  intro p e s m args below meth c C hR ls hl
  have hl : zl ls 1 [(0, zr v0)] := ⟨by rw [zr_p hz0]; exact hl, by simp [zr_cat, in_cat]⟩
  exact s_X7_empty_0 C hR (fun _ hq => nomatch hq) hl hp
/-! CursorKeep$Row.count()I -/
def p_X7_count_0  (v0 : Nat) (h : AH) : Option (Int32 × AH) :=
  ck (aK h v0 = 9) <|
  some ((aI h v0 3), h)
set_option maxHeartbeats 4000000 in
set_option maxRecDepth 100000 in
theorem s_X7_count_0 {p : Program} {l : Launch} {e : Env} {s : State} {m : MethodId} {args : Array Value} {below : List Frame} {meth : Method} {c : Code} {G : GG} {hs : AH} {r : Int32} {h' : AH} (C : Cx G hs p s m args meth c cX7_count 1 RX7 (.code yX7_count cX7_count 1 (some .int) :: MW) (some .int) "count")   {v0 : Nat} {h : AH} {H : Heap} {locs : List Loc} {cells slots : Nat} {ls : Array Slot} (hR : Rp G h H) (hL : ∀ q ∈ locs, gB G ≤ q.base) (hl : zl ls 1 [(0, zr v0)]) (hp : p_X7_count_0  v0 h = some (r, h')) : W p l e (gR G hs 1 40) s m args below meth c H locs cells slots (MQ below (Qcc G (some (.int r)) h') args s (gC G - aZ hs) (gS - aU hs) (fun q => gB G ≤ q)) (F0 m 0 ls []) := by
  obtain ⟨hx, hb, hml, hown, hts, hT, hK, rs, hlk, hret, hnm⟩ := id C
  have hm : ∀ w ∈ MW, w.before args s = true := fun w hw => hts w (hT w hw)
  unfold p_X7_count_0 at hp
  refine z_aload_n hx hb dX7_count_0 rfl (zl_at hl 0 rfl) ?_
  obtain ⟨k1, hp⟩ := ck_i hp
  refine r_get (ci := 8) (C := RX7) (T := TX7) (N := 4) (v := .int (aI h v0 3)) hx hb hm ii_X7 hown hK hR rfl k1 3 (by decide) (hm _ mw_117) (fun _ h9 => h9) rfl dX7_count_1 ?_
  cases hp
  exact r_zret C hR hL rfl dX7_count_4
def p_X7_count (v0 : Nat) (h : AH) : Option (Int32 × AH) := ck (v0 ≠ 0) <| p_X7_count_0 v0 h
theorem c_X7_count (l : Launch) (G : GG) (v0 : Nat) (h : AH) (r : Int32) (h' : AH) (hp : p_X7_count v0 h = some (r, h')) : Ct l yX7_count (.code yX7_count cX7_count 1 (some .int) :: MW) G 1 40 [.ref (v0 - 1)] h (some (.int r)) h' := by
  obtain ⟨hz0, hp⟩ := ck_i hp
  refine Ct.of (by decide +kernel) (Nat.le_of_ble_eq_true rfl) ?_
  intro p e s m args below meth c C hR ls hl
  have hl : zl ls 1 [(0, zr v0)] := ⟨by rw [zr_p hz0]; exact hl, by simp [zr_cat, in_cat]⟩
  exact s_X7_count_0 C hR (fun _ hq => nomatch hq) hl hp
/-! CursorKeep$Row.isFull()Z -/
def p_X7_isFull_15  (s0 : Int32) (h : AH) : Option (Int32 × AH) :=
  ck (okZ s0) <|
  some (s0, h)
set_option maxHeartbeats 4000000 in
set_option maxRecDepth 100000 in
theorem s_X7_isFull_15 {p : Program} {l : Launch} {e : Env} {s : State} {m : MethodId} {args : Array Value} {below : List Frame} {meth : Method} {c : Code} {G : GG} {hs : AH} {r : Int32} {h' : AH} (C : Cx G hs p s m args meth c cX7_isFull 1 RX7 (.code yX7_isFull cX7_isFull 1 (some .boolean) :: MW) (some .boolean) "isFull")   {s0 : Int32} {h : AH} {H : Heap} {locs : List Loc} {cells slots : Nat} {ls : Array Slot} (hR : Rp G h H) (hL : ∀ q ∈ locs, gB G ≤ q.base) (hl : zl ls 1 []) (hp : p_X7_isFull_15  s0 h = some (r, h')) : W p l e (gR G hs 1 40) s m args below meth c H locs cells slots (MQ below (Qcc G (some (.int r)) h') args s (gC G - aZ hs) (gS - aU hs) (fun q => gB G ≤ q)) (F0 m 15 ls [.int s0]) := by
  obtain ⟨hx, hb, hml, hown, hts, hT, hK, rs, hlk, hret, hnm⟩ := id C
  have hm : ∀ w ∈ MW, w.before args s = true := fun w hw => hts w (hT w hw)
  unfold p_X7_isFull_15 at hp
  obtain ⟨k1, hp⟩ := ck_i hp
  cases hp
  exact r_zret C hR hL (okZ_n k1) dX7_isFull_15
def p_X7_isFull_0  (v0 : Nat) (h : AH) : Option (Int32 × AH) :=
  ck (aK h v0 = 9) <|
  if (aI h v0 3) < (iI 150) then
    p_X7_isFull_15  (iI 0) h
  else
    p_X7_isFull_15  (iI 1) h
set_option maxHeartbeats 4000000 in
set_option maxRecDepth 100000 in
theorem s_X7_isFull_0 {p : Program} {l : Launch} {e : Env} {s : State} {m : MethodId} {args : Array Value} {below : List Frame} {meth : Method} {c : Code} {G : GG} {hs : AH} {r : Int32} {h' : AH} (C : Cx G hs p s m args meth c cX7_isFull 1 RX7 (.code yX7_isFull cX7_isFull 1 (some .boolean) :: MW) (some .boolean) "isFull")   {v0 : Nat} {h : AH} {H : Heap} {locs : List Loc} {cells slots : Nat} {ls : Array Slot} (hR : Rp G h H) (hL : ∀ q ∈ locs, gB G ≤ q.base) (hl : zl ls 1 [(0, zr v0)]) (hp : p_X7_isFull_0  v0 h = some (r, h')) : W p l e (gR G hs 1 40) s m args below meth c H locs cells slots (MQ below (Qcc G (some (.int r)) h') args s (gC G - aZ hs) (gS - aU hs) (fun q => gB G ≤ q)) (F0 m 0 ls []) := by
  obtain ⟨hx, hb, hml, hown, hts, hT, hK, rs, hlk, hret, hnm⟩ := id C
  have hm : ∀ w ∈ MW, w.before args s = true := fun w hw => hts w (hT w hw)
  unfold p_X7_isFull_0 at hp
  refine z_aload_n hx hb dX7_isFull_0 rfl (zl_at hl 0 rfl) ?_
  obtain ⟨k1, hp⟩ := ck_i hp
  refine r_get (ci := 8) (C := RX7) (T := TX7) (N := 4) (v := .int (aI h v0 3)) hx hb hm ii_X7 hown hK hR rfl k1 3 (by decide) (hm _ mw_117) (fun _ h9 => h9) rfl dX7_isFull_1 ?_
  refine lv_sipush (v := iI 150) hx hb dX7_isFull_4 (by decide +kernel) ?_
  refine lv_icmp_lt (tgt := 14) hx hb dX7_isFull_7 (by decide) (fun c2 => ?_) (fun c2 => ?_)
  · replace hp := ite_p hp c2
    refine lv_iconst (v := iI 0) hx hb dX7_isFull_14 rfl ?_
    exact s_X7_isFull_15 C  hR hL (zl_sub hl [] rfl) hp
  · replace hp := ite_n hp c2
    refine lv_iconst (v := iI 1) hx hb dX7_isFull_10 rfl ?_
    refine lv_goto (tgt := 15) hx hb dX7_isFull_11 (by decide) ?_
    exact s_X7_isFull_15 C  hR hL (zl_sub hl [] rfl) hp
def p_X7_isFull (v0 : Nat) (h : AH) : Option (Int32 × AH) := ck (v0 ≠ 0) <| p_X7_isFull_0 v0 h
theorem c_X7_isFull (l : Launch) (G : GG) (v0 : Nat) (h : AH) (r : Int32) (h' : AH) (hp : p_X7_isFull v0 h = some (r, h')) : Ct l yX7_isFull (.code yX7_isFull cX7_isFull 1 (some .boolean) :: MW) G 1 40 [.ref (v0 - 1)] h (some (.int r)) h' := by
  obtain ⟨hz0, hp⟩ := ck_i hp
  refine Ct.of (by decide +kernel) (Nat.le_of_ble_eq_true rfl) ?_
  intro p e s m args below meth c C hR ls hl
  have hl : zl ls 1 [(0, zr v0)] := ⟨by rw [zr_p hz0]; exact hl, by simp [zr_cat, in_cat]⟩
  exact s_X7_isFull_0 C hR (fun _ hq => nomatch hq) hl hp
/-! CursorKeep$Row.has(I)Z -/
def p_X7_has_17  (s0 : Int32) (h : AH) : Option (Int32 × AH) :=
  ck (okZ s0) <|
  some (s0, h)
set_option maxHeartbeats 4000000 in
set_option maxRecDepth 100000 in
theorem s_X7_has_17 {p : Program} {l : Launch} {e : Env} {s : State} {m : MethodId} {args : Array Value} {below : List Frame} {meth : Method} {c : Code} {G : GG} {hs : AH} {r : Int32} {h' : AH} (C : Cx G hs p s m args meth c cX7_has 2 RX7 (.code yX7_has cX7_has 2 (some .boolean) :: MW) (some .boolean) "has")   {s0 : Int32} {h : AH} {H : Heap} {locs : List Loc} {cells slots : Nat} {ls : Array Slot} (hR : Rp G h H) (hL : ∀ q ∈ locs, gB G ≤ q.base) (hl : zl ls 2 []) (hp : p_X7_has_17  s0 h = some (r, h')) : W p l e (gR G hs 1 40) s m args below meth c H locs cells slots (MQ below (Qcc G (some (.int r)) h') args s (gC G - aZ hs) (gS - aU hs) (fun q => gB G ≤ q)) (F0 m 17 ls [.int s0]) := by
  obtain ⟨hx, hb, hml, hown, hts, hT, hK, rs, hlk, hret, hnm⟩ := id C
  have hm : ∀ w ∈ MW, w.before args s = true := fun w hw => hts w (hT w hw)
  unfold p_X7_has_17 at hp
  obtain ⟨k1, hp⟩ := ck_i hp
  cases hp
  exact r_zret C hR hL (okZ_n k1) dX7_has_17
def p_X7_has_16   (h : AH) : Option (Int32 × AH) :=
  p_X7_has_17  (iI 0) h
set_option maxHeartbeats 4000000 in
set_option maxRecDepth 100000 in
theorem s_X7_has_16 {p : Program} {l : Launch} {e : Env} {s : State} {m : MethodId} {args : Array Value} {below : List Frame} {meth : Method} {c : Code} {G : GG} {hs : AH} {r : Int32} {h' : AH} (C : Cx G hs p s m args meth c cX7_has 2 RX7 (.code yX7_has cX7_has 2 (some .boolean) :: MW) (some .boolean) "has")    {h : AH} {H : Heap} {locs : List Loc} {cells slots : Nat} {ls : Array Slot} (hR : Rp G h H) (hL : ∀ q ∈ locs, gB G ≤ q.base) (hl : zl ls 2 []) (hp : p_X7_has_16   h = some (r, h')) : W p l e (gR G hs 1 40) s m args below meth c H locs cells slots (MQ below (Qcc G (some (.int r)) h') args s (gC G - aZ hs) (gS - aU hs) (fun q => gB G ≤ q)) (F0 m 16 ls []) := by
  obtain ⟨hx, hb, hml, hown, hts, hT, hK, rs, hlk, hret, hnm⟩ := id C
  have hm : ∀ w ∈ MW, w.before args s = true := fun w hw => hts w (hT w hw)
  unfold p_X7_has_16 at hp
  refine lv_iconst (v := iI 0) hx hb dX7_has_16 rfl ?_
  exact s_X7_has_17 C  hR hL (zl_sub hl [] rfl) hp
def p_X7_has_0  (v0 : Nat) (v1 : Int32) (h : AH) : Option (Int32 × AH) :=
  if v1 < 0 then
    p_X7_has_16   h
  else
    ck (aK h v0 = 9) <|
    if (aI h v0 3) ≤ v1 then
      p_X7_has_16   h
    else
      p_X7_has_17  (iI 1) h
set_option maxHeartbeats 4000000 in
set_option maxRecDepth 100000 in
theorem s_X7_has_0 {p : Program} {l : Launch} {e : Env} {s : State} {m : MethodId} {args : Array Value} {below : List Frame} {meth : Method} {c : Code} {G : GG} {hs : AH} {r : Int32} {h' : AH} (C : Cx G hs p s m args meth c cX7_has 2 RX7 (.code yX7_has cX7_has 2 (some .boolean) :: MW) (some .boolean) "has")   {v0 : Nat} {v1 : Int32} {h : AH} {H : Heap} {locs : List Loc} {cells slots : Nat} {ls : Array Slot} (hR : Rp G h H) (hL : ∀ q ∈ locs, gB G ≤ q.base) (hl : zl ls 2 [(0, zr v0), (1, .int v1)]) (hp : p_X7_has_0  v0 v1 h = some (r, h')) : W p l e (gR G hs 1 40) s m args below meth c H locs cells slots (MQ below (Qcc G (some (.int r)) h') args s (gC G - aZ hs) (gS - aU hs) (fun q => gB G ≤ q)) (F0 m 0 ls []) := by
  obtain ⟨hx, hb, hml, hown, hts, hT, hK, rs, hlk, hret, hnm⟩ := id C
  have hm : ∀ w ∈ MW, w.before args s = true := fun w hw => hts w (hT w hw)
  unfold p_X7_has_0 at hp
  refine lv_iload_n hx hb dX7_has_0 rfl (zl_at hl 1 rfl) ?_
  refine lv_if_lt (tgt := 16) hx hb dX7_has_1 (by decide) (fun c1 => ?_) (fun c1 => ?_)
  · replace hp := ite_p hp c1
    exact s_X7_has_16 C  hR hL (zl_sub hl [] rfl) hp
  · replace hp := ite_n hp c1
    refine lv_iload_n hx hb dX7_has_4 rfl (zl_at hl 1 rfl) ?_
    refine z_aload_n hx hb dX7_has_5 rfl (zl_at hl 0 rfl) ?_
    obtain ⟨k2, hp⟩ := ck_i hp
    refine r_get (ci := 8) (C := RX7) (T := TX7) (N := 4) (v := .int (aI h v0 3)) hx hb hm ii_X7 hown hK hR rfl k2 3 (by decide) (hm _ mw_117) (fun _ h9 => h9) rfl dX7_has_6 ?_
    refine lv_icmp_ge (tgt := 16) hx hb dX7_has_9 (by decide) (fun c3 => ?_) (fun c3 => ?_)
    · replace hp := ite_p hp c3
      exact s_X7_has_16 C  hR hL (zl_sub hl [] rfl) hp
    · replace hp := ite_n hp c3
      refine lv_iconst (v := iI 1) hx hb dX7_has_12 rfl ?_
      refine lv_goto (tgt := 17) hx hb dX7_has_13 (by decide) ?_
      exact s_X7_has_17 C  hR hL (zl_sub hl [] rfl) hp
def p_X7_has (v0 : Nat) (v1 : Int32) (h : AH) : Option (Int32 × AH) := ck (v0 ≠ 0) <| p_X7_has_0 v0 v1 h
theorem c_X7_has (l : Launch) (G : GG) (v0 : Nat) (v1 : Int32) (h : AH) (r : Int32) (h' : AH) (hp : p_X7_has v0 v1 h = some (r, h')) : Ct l yX7_has (.code yX7_has cX7_has 2 (some .boolean) :: MW) G 1 40 [.ref (v0 - 1), .int v1] h (some (.int r)) h' := by
  obtain ⟨hz0, hp⟩ := ck_i hp
  refine Ct.of (by decide +kernel) (Nat.le_of_ble_eq_true rfl) ?_
  intro p e s m args below meth c C hR ls hl
  have hl : zl ls 2 [(0, zr v0), (1, .int v1)] := ⟨by rw [zr_p hz0]; exact hl, by simp [zr_cat, in_cat]⟩
  exact s_X7_has_0 C hR (fun _ hq => nomatch hq) hl hp
/-! CursorKeep$Row.shows(I)Z -/
def p_X7_shows_22  (s0 : Int32) (h : AH) : Option (Int32 × AH) :=
  ck (okZ s0) <|
  some (s0, h)
set_option maxHeartbeats 4000000 in
set_option maxRecDepth 100000 in
theorem s_X7_shows_22 {p : Program} {l : Launch} {e : Env} {s : State} {m : MethodId} {args : Array Value} {below : List Frame} {meth : Method} {c : Code} {G : GG} {hs : AH} {r : Int32} {h' : AH} (C : Cx G hs p s m args meth c cX7_shows 2 RX7 (.code yX7_shows cX7_shows 2 (some .boolean) :: MW) (some .boolean) "shows")   {s0 : Int32} {h : AH} {H : Heap} {locs : List Loc} {cells slots : Nat} {ls : Array Slot} (hR : Rp G h H) (hL : ∀ q ∈ locs, gB G ≤ q.base) (hl : zl ls 2 []) (hp : p_X7_shows_22  s0 h = some (r, h')) : W p l e (gR G hs 2 61) s m args below meth c H locs cells slots (MQ below (Qcc G (some (.int r)) h') args s (gC G - aZ hs) (gS - aU hs) (fun q => gB G ≤ q)) (F0 m 22 ls [.int s0]) := by
  obtain ⟨hx, hb, hml, hown, hts, hT, hK, rs, hlk, hret, hnm⟩ := id C
  have hm : ∀ w ∈ MW, w.before args s = true := fun w hw => hts w (hT w hw)
  unfold p_X7_shows_22 at hp
  obtain ⟨k1, hp⟩ := ck_i hp
  cases hp
  exact r_zret C hR hL (okZ_n k1) dX7_shows_22
def p_X7_shows_21   (h : AH) : Option (Int32 × AH) :=
  p_X7_shows_22  (iI 0) h
set_option maxHeartbeats 4000000 in
set_option maxRecDepth 100000 in
theorem s_X7_shows_21 {p : Program} {l : Launch} {e : Env} {s : State} {m : MethodId} {args : Array Value} {below : List Frame} {meth : Method} {c : Code} {G : GG} {hs : AH} {r : Int32} {h' : AH} (C : Cx G hs p s m args meth c cX7_shows 2 RX7 (.code yX7_shows cX7_shows 2 (some .boolean) :: MW) (some .boolean) "shows")    {h : AH} {H : Heap} {locs : List Loc} {cells slots : Nat} {ls : Array Slot} (hR : Rp G h H) (hL : ∀ q ∈ locs, gB G ≤ q.base) (hl : zl ls 2 []) (hp : p_X7_shows_21   h = some (r, h')) : W p l e (gR G hs 2 61) s m args below meth c H locs cells slots (MQ below (Qcc G (some (.int r)) h') args s (gC G - aZ hs) (gS - aU hs) (fun q => gB G ≤ q)) (F0 m 21 ls []) := by
  obtain ⟨hx, hb, hml, hown, hts, hT, hK, rs, hlk, hret, hnm⟩ := id C
  have hm : ∀ w ∈ MW, w.before args s = true := fun w hw => hts w (hT w hw)
  unfold p_X7_shows_21 at hp
  refine lv_iconst (v := iI 0) hx hb dX7_shows_21 rfl ?_
  exact s_X7_shows_22 C  hR hL (zl_sub hl [] rfl) hp
def p_X7_shows_0  (v0 : Nat) (v1 : Int32) (h : AH) : Option (Int32 × AH) :=
  ck (aK h v0 = 9) <|
  bR (p_X7_has v0 v1 h) fun r2 h3 =>
  if r2 = 0 then
    p_X7_shows_21   h3
  else
    ck (aK h3 v0 = 9) <|
    ck (aK h3 (aR h3 v0 2) = 22 ∧ ix v1 (aN h3 (aR h3 v0 2))) <|
    if (aI h3 (aR h3 v0 2) v1.toNatClampNeg) = 0 then
      p_X7_shows_21   h3
    else
      p_X7_shows_22  (iI 1) h3
set_option maxHeartbeats 4000000 in
set_option maxRecDepth 100000 in
theorem s_X7_shows_0 {p : Program} {l : Launch} {e : Env} {s : State} {m : MethodId} {args : Array Value} {below : List Frame} {meth : Method} {c : Code} {G : GG} {hs : AH} {r : Int32} {h' : AH} (C : Cx G hs p s m args meth c cX7_shows 2 RX7 (.code yX7_shows cX7_shows 2 (some .boolean) :: MW) (some .boolean) "shows")   {v0 : Nat} {v1 : Int32} {h : AH} {H : Heap} {locs : List Loc} {cells slots : Nat} {ls : Array Slot} (hR : Rp G h H) (hL : ∀ q ∈ locs, gB G ≤ q.base) (hl : zl ls 2 [(0, zr v0), (1, .int v1)]) (hp : p_X7_shows_0  v0 v1 h = some (r, h')) : W p l e (gR G hs 2 61) s m args below meth c H locs cells slots (MQ below (Qcc G (some (.int r)) h') args s (gC G - aZ hs) (gS - aU hs) (fun q => gB G ≤ q)) (F0 m 0 ls []) := by
  obtain ⟨hx, hb, hml, hown, hts, hT, hK, rs, hlk, hret, hnm⟩ := id C
  have hm : ∀ w ∈ MW, w.before args s = true := fun w hw => hts w (hT w hw)
  unfold p_X7_shows_0 at hp
  refine z_aload_n hx hb dX7_shows_0 rfl (zl_at hl 0 rfl) ?_
  refine lv_iload_n hx hb dX7_shows_1 rfl (zl_at hl 1 rfl) ?_
  obtain ⟨k1, hp⟩ := ck_i hp
  obtain ⟨r2, h3, er2, hp⟩ := bR_i hp
  refine r_callV (ci := 8) (r := (RX7, TX7, 4)) (n := 1) (As := [.int v1]) (rest := []) C (c_X7_has l G v0 v1 h r2 h3 er2) hR hL rfl k1 mw_283 mw_284 mw_285 mw_8 mw_286 (by decide +kernel) (by decide) rfl (zl_size hl) rfl (by simp [zr_cat, in_cat]) dX7_shows_2 (st2 := [.int r2]) rfl (fun H locs cells slots hR hL => ?_)
  refine lv_if_eq (tgt := 21) hx hb dX7_shows_5 (by decide) (fun c4 => ?_) (fun c4 => ?_)
  · replace hp := ite_p hp c4
    exact s_X7_shows_21 C  hR hL (zl_sub hl [] rfl) hp
  · replace hp := ite_n hp c4
    refine z_aload_n hx hb dX7_shows_8 rfl (zl_at hl 0 rfl) ?_
    obtain ⟨k5, hp⟩ := ck_i hp
    refine r_get (ci := 8) (C := RX7) (T := TX7) (N := 4) (v := zr (aR h3 v0 2)) hx hb hm ii_X7 hown hK hR rfl k5 2 (by decide) (hm _ mw_116) (fun _ h9 => h9) rfl dX7_shows_9 ?_
    refine lv_iload_n hx hb dX7_shows_12 rfl (zl_at hl 1 rfl) ?_
    obtain ⟨k6, hp⟩ := ck_i hp
    refine r_zald hx hb hK hR k6.1 k6.2 dX7_shows_13 ?_
    refine lv_if_eq (tgt := 21) hx hb dX7_shows_14 (by decide) (fun c8 => ?_) (fun c8 => ?_)
    · replace hp := ite_p hp c8
      exact s_X7_shows_21 C  hR hL (zl_sub hl [] rfl) hp
    · replace hp := ite_n hp c8
      refine lv_iconst (v := iI 1) hx hb dX7_shows_17 rfl ?_
      refine lv_goto (tgt := 22) hx hb dX7_shows_18 (by decide) ?_
      exact s_X7_shows_22 C  hR hL (zl_sub hl [] rfl) hp
def p_X7_shows (v0 : Nat) (v1 : Int32) (h : AH) : Option (Int32 × AH) := ck (v0 ≠ 0) <| p_X7_shows_0 v0 v1 h
theorem c_X7_shows (l : Launch) (G : GG) (v0 : Nat) (v1 : Int32) (h : AH) (r : Int32) (h' : AH) (hp : p_X7_shows v0 v1 h = some (r, h')) : Ct l yX7_shows (.code yX7_shows cX7_shows 2 (some .boolean) :: MW) G 2 61 [.ref (v0 - 1), .int v1] h (some (.int r)) h' := by
  obtain ⟨hz0, hp⟩ := ck_i hp
  refine Ct.of (by decide +kernel) (Nat.le_of_ble_eq_true rfl) ?_
  intro p e s m args below meth c C hR ls hl
  have hl : zl ls 2 [(0, zr v0), (1, .int v1)] := ⟨by rw [zr_p hz0]; exact hl, by simp [zr_cat, in_cat]⟩
  exact s_X7_shows_0 C hR (fun _ hq => nomatch hq) hl hp
/-! CursorKeep$Row.signOf(I)C -/
def p_X7_signOf_18  (s0 : Int32) (h : AH) : Option (Int32 × AH) :=
  ck (okC s0) <|
  some (s0, h)
set_option maxHeartbeats 4000000 in
set_option maxRecDepth 100000 in
theorem s_X7_signOf_18 {p : Program} {l : Launch} {e : Env} {s : State} {m : MethodId} {args : Array Value} {below : List Frame} {meth : Method} {c : Code} {G : GG} {hs : AH} {r : Int32} {h' : AH} (C : Cx G hs p s m args meth c cX7_signOf 2 RX7 (.code yX7_signOf cX7_signOf 2 (some .char) :: MW) (some .char) "signOf")   {s0 : Int32} {h : AH} {H : Heap} {locs : List Loc} {cells slots : Nat} {ls : Array Slot} (hR : Rp G h H) (hL : ∀ q ∈ locs, gB G ≤ q.base) (hl : zl ls 2 []) (hp : p_X7_signOf_18  s0 h = some (r, h')) : W p l e (gR G hs 2 61) s m args below meth c H locs cells slots (MQ below (Qcc G (some (.int r)) h') args s (gC G - aZ hs) (gS - aU hs) (fun q => gB G ≤ q)) (F0 m 18 ls [.int s0]) := by
  obtain ⟨hx, hb, hml, hown, hts, hT, hK, rs, hlk, hret, hnm⟩ := id C
  have hm : ∀ w ∈ MW, w.before args s = true := fun w hw => hts w (hT w hw)
  unfold p_X7_signOf_18 at hp
  obtain ⟨k1, hp⟩ := ck_i hp
  cases hp
  exact r_zret C hR hL (okC_n k1) dX7_signOf_18
def p_X7_signOf_0  (v0 : Nat) (v1 : Int32) (h : AH) : Option (Int32 × AH) :=
  ck (aK h v0 = 9) <|
  bR (p_X7_has v0 v1 h) fun r2 h3 =>
  if r2 = 0 then
    p_X7_signOf_18  (iI 0) h3
  else
    ck (aK h3 v0 = 9) <|
    ck (aK h3 (aR h3 v0 1) = 21 ∧ ix v1 (aN h3 (aR h3 v0 1))) <|
    p_X7_signOf_18  (aI h3 (aR h3 v0 1) v1.toNatClampNeg) h3
set_option maxHeartbeats 4000000 in
set_option maxRecDepth 100000 in
theorem s_X7_signOf_0 {p : Program} {l : Launch} {e : Env} {s : State} {m : MethodId} {args : Array Value} {below : List Frame} {meth : Method} {c : Code} {G : GG} {hs : AH} {r : Int32} {h' : AH} (C : Cx G hs p s m args meth c cX7_signOf 2 RX7 (.code yX7_signOf cX7_signOf 2 (some .char) :: MW) (some .char) "signOf")   {v0 : Nat} {v1 : Int32} {h : AH} {H : Heap} {locs : List Loc} {cells slots : Nat} {ls : Array Slot} (hR : Rp G h H) (hL : ∀ q ∈ locs, gB G ≤ q.base) (hl : zl ls 2 [(0, zr v0), (1, .int v1)]) (hp : p_X7_signOf_0  v0 v1 h = some (r, h')) : W p l e (gR G hs 2 61) s m args below meth c H locs cells slots (MQ below (Qcc G (some (.int r)) h') args s (gC G - aZ hs) (gS - aU hs) (fun q => gB G ≤ q)) (F0 m 0 ls []) := by
  obtain ⟨hx, hb, hml, hown, hts, hT, hK, rs, hlk, hret, hnm⟩ := id C
  have hm : ∀ w ∈ MW, w.before args s = true := fun w hw => hts w (hT w hw)
  unfold p_X7_signOf_0 at hp
  refine z_aload_n hx hb dX7_signOf_0 rfl (zl_at hl 0 rfl) ?_
  refine lv_iload_n hx hb dX7_signOf_1 rfl (zl_at hl 1 rfl) ?_
  obtain ⟨k1, hp⟩ := ck_i hp
  obtain ⟨r2, h3, er2, hp⟩ := bR_i hp
  refine r_callV (ci := 8) (r := (RX7, TX7, 4)) (n := 1) (As := [.int v1]) (rest := []) C (c_X7_has l G v0 v1 h r2 h3 er2) hR hL rfl k1 mw_283 mw_284 mw_285 mw_8 mw_286 (by decide +kernel) (by decide) rfl (zl_size hl) rfl (by simp [zr_cat, in_cat]) dX7_signOf_2 (st2 := [.int r2]) rfl (fun H locs cells slots hR hL => ?_)
  refine lv_if_eq (tgt := 17) hx hb dX7_signOf_5 (by decide) (fun c4 => ?_) (fun c4 => ?_)
  · replace hp := ite_p hp c4
    refine lv_iconst (v := iI 0) hx hb dX7_signOf_17 rfl ?_
    exact s_X7_signOf_18 C  hR hL (zl_sub hl [] rfl) hp
  · replace hp := ite_n hp c4
    refine z_aload_n hx hb dX7_signOf_8 rfl (zl_at hl 0 rfl) ?_
    obtain ⟨k5, hp⟩ := ck_i hp
    refine r_get (ci := 8) (C := RX7) (T := TX7) (N := 4) (v := zr (aR h3 v0 1)) hx hb hm ii_X7 hown hK hR rfl k5 1 (by decide) (hm _ mw_115) (fun _ h9 => h9) rfl dX7_signOf_9 ?_
    refine lv_iload_n hx hb dX7_signOf_12 rfl (zl_at hl 1 rfl) ?_
    obtain ⟨k6, hp⟩ := ck_i hp
    refine r_cald hx hb hK hR k6.1 k6.2 dX7_signOf_13 ?_
    refine lv_goto (tgt := 18) hx hb dX7_signOf_14 (by decide) ?_
    exact s_X7_signOf_18 C  hR hL (zl_sub hl [] rfl) hp
def p_X7_signOf (v0 : Nat) (v1 : Int32) (h : AH) : Option (Int32 × AH) := ck (v0 ≠ 0) <| p_X7_signOf_0 v0 v1 h
theorem c_X7_signOf (l : Launch) (G : GG) (v0 : Nat) (v1 : Int32) (h : AH) (r : Int32) (h' : AH) (hp : p_X7_signOf v0 v1 h = some (r, h')) : Ct l yX7_signOf (.code yX7_signOf cX7_signOf 2 (some .char) :: MW) G 2 61 [.ref (v0 - 1), .int v1] h (some (.int r)) h' := by
  obtain ⟨hz0, hp⟩ := ck_i hp
  refine Ct.of (by decide +kernel) (Nat.le_of_ble_eq_true rfl) ?_
  intro p e s m args below meth c C hR ls hl
  have hl : zl ls 2 [(0, zr v0), (1, .int v1)] := ⟨by rw [zr_p hz0]; exact hl, by simp [zr_cat, in_cat]⟩
  exact s_X7_signOf_0 C hR (fun _ hq => nomatch hq) hl hp
/-! CursorKeep$Row.letterAt(I)I -/
def p_X7_letterAt_22  (s0 : Int32) (h : AH) : Option (Int32 × AH) :=
  some (s0, h)
set_option maxHeartbeats 4000000 in
set_option maxRecDepth 100000 in
theorem s_X7_letterAt_22 {p : Program} {l : Launch} {e : Env} {s : State} {m : MethodId} {args : Array Value} {below : List Frame} {meth : Method} {c : Code} {G : GG} {hs : AH} {r : Int32} {h' : AH} (C : Cx G hs p s m args meth c cX7_letterAt 2 RX7 (.code yX7_letterAt cX7_letterAt 2 (some .int) :: MW) (some .int) "letterAt")   {s0 : Int32} {h : AH} {H : Heap} {locs : List Loc} {cells slots : Nat} {ls : Array Slot} (hR : Rp G h H) (hL : ∀ q ∈ locs, gB G ≤ q.base) (hl : zl ls 2 []) (hp : p_X7_letterAt_22  s0 h = some (r, h')) : W p l e (gR G hs 1 40) s m args below meth c H locs cells slots (MQ below (Qcc G (some (.int r)) h') args s (gC G - aZ hs) (gS - aU hs) (fun q => gB G ≤ q)) (F0 m 22 ls [.int s0]) := by
  obtain ⟨hx, hb, hml, hown, hts, hT, hK, rs, hlk, hret, hnm⟩ := id C
  have hm : ∀ w ∈ MW, w.before args s = true := fun w hw => hts w (hT w hw)
  unfold p_X7_letterAt_22 at hp
  cases hp
  exact r_zret C hR hL rfl dX7_letterAt_22
def p_X7_letterAt_21   (h : AH) : Option (Int32 × AH) :=
  p_X7_letterAt_22  (iI (-1)) h
set_option maxHeartbeats 4000000 in
set_option maxRecDepth 100000 in
theorem s_X7_letterAt_21 {p : Program} {l : Launch} {e : Env} {s : State} {m : MethodId} {args : Array Value} {below : List Frame} {meth : Method} {c : Code} {G : GG} {hs : AH} {r : Int32} {h' : AH} (C : Cx G hs p s m args meth c cX7_letterAt 2 RX7 (.code yX7_letterAt cX7_letterAt 2 (some .int) :: MW) (some .int) "letterAt")    {h : AH} {H : Heap} {locs : List Loc} {cells slots : Nat} {ls : Array Slot} (hR : Rp G h H) (hL : ∀ q ∈ locs, gB G ≤ q.base) (hl : zl ls 2 []) (hp : p_X7_letterAt_21   h = some (r, h')) : W p l e (gR G hs 1 40) s m args below meth c H locs cells slots (MQ below (Qcc G (some (.int r)) h') args s (gC G - aZ hs) (gS - aU hs) (fun q => gB G ≤ q)) (F0 m 21 ls []) := by
  obtain ⟨hx, hb, hml, hown, hts, hT, hK, rs, hlk, hret, hnm⟩ := id C
  have hm : ∀ w ∈ MW, w.before args s = true := fun w hw => hts w (hT w hw)
  unfold p_X7_letterAt_21 at hp
  refine lv_iconst (v := iI (-1)) hx hb dX7_letterAt_21 rfl ?_
  exact s_X7_letterAt_22 C  hR hL (zl_sub hl [] rfl) hp
def p_X7_letterAt_0  (v0 : Nat) (v1 : Int32) (h : AH) : Option (Int32 × AH) :=
  if v1 < 0 then
    p_X7_letterAt_21   h
  else
    ck (aK h v0 = 9) <|
    if (aI h v0 3) ≤ v1 then
      p_X7_letterAt_21   h
    else
      ck (aK h v0 = 9) <|
      ck (aK h (aR h v0 0) = 20 ∧ ix v1 (aN h (aR h v0 0))) <|
      p_X7_letterAt_22  (aI h (aR h v0 0) v1.toNatClampNeg) h
set_option maxHeartbeats 4000000 in
set_option maxRecDepth 100000 in
theorem s_X7_letterAt_0 {p : Program} {l : Launch} {e : Env} {s : State} {m : MethodId} {args : Array Value} {below : List Frame} {meth : Method} {c : Code} {G : GG} {hs : AH} {r : Int32} {h' : AH} (C : Cx G hs p s m args meth c cX7_letterAt 2 RX7 (.code yX7_letterAt cX7_letterAt 2 (some .int) :: MW) (some .int) "letterAt")   {v0 : Nat} {v1 : Int32} {h : AH} {H : Heap} {locs : List Loc} {cells slots : Nat} {ls : Array Slot} (hR : Rp G h H) (hL : ∀ q ∈ locs, gB G ≤ q.base) (hl : zl ls 2 [(0, zr v0), (1, .int v1)]) (hp : p_X7_letterAt_0  v0 v1 h = some (r, h')) : W p l e (gR G hs 1 40) s m args below meth c H locs cells slots (MQ below (Qcc G (some (.int r)) h') args s (gC G - aZ hs) (gS - aU hs) (fun q => gB G ≤ q)) (F0 m 0 ls []) := by
  obtain ⟨hx, hb, hml, hown, hts, hT, hK, rs, hlk, hret, hnm⟩ := id C
  have hm : ∀ w ∈ MW, w.before args s = true := fun w hw => hts w (hT w hw)
  unfold p_X7_letterAt_0 at hp
  refine lv_iload_n hx hb dX7_letterAt_0 rfl (zl_at hl 1 rfl) ?_
  refine lv_if_lt (tgt := 21) hx hb dX7_letterAt_1 (by decide) (fun c1 => ?_) (fun c1 => ?_)
  · replace hp := ite_p hp c1
    exact s_X7_letterAt_21 C  hR hL (zl_sub hl [] rfl) hp
  · replace hp := ite_n hp c1
    refine lv_iload_n hx hb dX7_letterAt_4 rfl (zl_at hl 1 rfl) ?_
    refine z_aload_n hx hb dX7_letterAt_5 rfl (zl_at hl 0 rfl) ?_
    obtain ⟨k2, hp⟩ := ck_i hp
    refine r_get (ci := 8) (C := RX7) (T := TX7) (N := 4) (v := .int (aI h v0 3)) hx hb hm ii_X7 hown hK hR rfl k2 3 (by decide) (hm _ mw_117) (fun _ h9 => h9) rfl dX7_letterAt_6 ?_
    refine lv_icmp_ge (tgt := 21) hx hb dX7_letterAt_9 (by decide) (fun c3 => ?_) (fun c3 => ?_)
    · replace hp := ite_p hp c3
      exact s_X7_letterAt_21 C  hR hL (zl_sub hl [] rfl) hp
    · replace hp := ite_n hp c3
      refine z_aload_n hx hb dX7_letterAt_12 rfl (zl_at hl 0 rfl) ?_
      obtain ⟨k4, hp⟩ := ck_i hp
      refine r_get (ci := 8) (C := RX7) (T := TX7) (N := 4) (v := zr (aR h v0 0)) hx hb hm ii_X7 hown hK hR rfl k4 0 (by decide) (hm _ mw_114) (fun _ h9 => h9) rfl dX7_letterAt_13 ?_
      refine lv_iload_n hx hb dX7_letterAt_16 rfl (zl_at hl 1 rfl) ?_
      obtain ⟨k5, hp⟩ := ck_i hp
      refine r_iald hx hb hK hR k5.1 k5.2 dX7_letterAt_17 ?_
      refine lv_goto (tgt := 22) hx hb dX7_letterAt_18 (by decide) ?_
      exact s_X7_letterAt_22 C  hR hL (zl_sub hl [] rfl) hp
def p_X7_letterAt (v0 : Nat) (v1 : Int32) (h : AH) : Option (Int32 × AH) := ck (v0 ≠ 0) <| p_X7_letterAt_0 v0 v1 h
theorem c_X7_letterAt (l : Launch) (G : GG) (v0 : Nat) (v1 : Int32) (h : AH) (r : Int32) (h' : AH) (hp : p_X7_letterAt v0 v1 h = some (r, h')) : Ct l yX7_letterAt (.code yX7_letterAt cX7_letterAt 2 (some .int) :: MW) G 1 40 [.ref (v0 - 1), .int v1] h (some (.int r)) h' := by
  obtain ⟨hz0, hp⟩ := ck_i hp
  refine Ct.of (by decide +kernel) (Nat.le_of_ble_eq_true rfl) ?_
  intro p e s m args below meth c C hR ls hl
  have hl : zl ls 2 [(0, zr v0), (1, .int v1)] := ⟨by rw [zr_p hz0]; exact hl, by simp [zr_cat, in_cat]⟩
  exact s_X7_letterAt_0 C hR (fun _ hq => nomatch hq) hl hp
/-! CursorKeep$Row.spotOf(I)I -/
def p_X7_spotOf_2  : Nat → Nat → Int32 → Int32 → AH → Option (Int32 × AH)
  | 0, _, _, _, _ => none
  | n + 1, v0, v1, v2, h =>
    ck (aK h v0 = 9) <|
    if (aI h v0 3) ≤ v2 then
      ck (aK h v0 = 9) <|
      some ((aI h v0 3), h)
    else
      ck (aK h v0 = 9) <|
      ck (aK h (aR h v0 0) = 20 ∧ ix v2 (aN h (aR h v0 0))) <|
      if (aI h (aR h v0 0) v2.toNatClampNeg) = v1 then
        some (v2, h)
      else
        nm (v2 + iI 1) fun (x8 : Int32) =>
        p_X7_spotOf_2  n v0 v1 x8 h
set_option maxHeartbeats 4000000 in
set_option maxRecDepth 100000 in
theorem s_X7_spotOf_2 {p : Program} {l : Launch} {e : Env} {s : State} {m : MethodId} {args : Array Value} {below : List Frame} {meth : Method} {c : Code} {G : GG} {hs : AH} {r : Int32} {h' : AH} (C : Cx G hs p s m args meth c cX7_spotOf 3 RX7 (.code yX7_spotOf cX7_spotOf 3 (some .int) :: MW) (some .int) "spotOf")   : ∀ (n : Nat) (v0 : Nat) (v1 : Int32) (v2 : Int32) (h : AH) (H : Heap) (locs : List Loc) (cells slots : Nat) (ls : Array Slot) (hR : Rp G h H) (hL : ∀ q ∈ locs, gB G ≤ q.base) (hl : zl ls 3 [(0, zr v0), (1, .int v1), (2, .int v2)]) (hp : p_X7_spotOf_2  n v0 v1 v2 h = some (r, h')), W p l e (gR G hs 1 40) s m args below meth c H locs cells slots (MQ below (Qcc G (some (.int r)) h') args s (gC G - aZ hs) (gS - aU hs) (fun q => gB G ≤ q)) (F0 m 2 ls []) := by
  obtain ⟨hx, hb, hml, hown, hts, hT, hK, rs, hlk, hret, hnm⟩ := id C
  have hm : ∀ w ∈ MW, w.before args s = true := fun w hw => hts w (hT w hw)
  intro n
  induction n with
  | zero =>
    intro v0 v1 v2 h H locs cells slots ls hR hL hl hp
    exact absurd (show none = some (r, h') from hp) (by simp)
  | succ n ih =>
    intro v0 v1 v2 h H locs cells slots ls hR hL hl hp
    rw [p_X7_spotOf_2.eq_2] at hp
    refine lv_iload_n hx hb dX7_spotOf_2 rfl (zl_at hl 2 rfl) ?_
    refine z_aload_n hx hb dX7_spotOf_3 rfl (zl_at hl 0 rfl) ?_
    obtain ⟨k1, hp⟩ := ck_i hp
    refine r_get (ci := 8) (C := RX7) (T := TX7) (N := 4) (v := .int (aI h v0 3)) hx hb hm ii_X7 hown hK hR rfl k1 3 (by decide) (hm _ mw_117) (fun _ h9 => h9) rfl dX7_spotOf_4 ?_
    refine lv_icmp_ge (tgt := 28) hx hb dX7_spotOf_7 (by decide) (fun c2 => ?_) (fun c2 => ?_)
    · replace hp := ite_p hp c2
      refine z_aload_n hx hb dX7_spotOf_28 rfl (zl_at hl 0 rfl) ?_
      obtain ⟨k3, hp⟩ := ck_i hp
      refine r_get (ci := 8) (C := RX7) (T := TX7) (N := 4) (v := .int (aI h v0 3)) hx hb hm ii_X7 hown hK hR rfl k3 3 (by decide) (hm _ mw_117) (fun _ h9 => h9) rfl dX7_spotOf_29 ?_
      cases hp
      exact r_zret C hR hL rfl dX7_spotOf_32
    · replace hp := ite_n hp c2
      refine z_aload_n hx hb dX7_spotOf_10 rfl (zl_at hl 0 rfl) ?_
      obtain ⟨k4, hp⟩ := ck_i hp
      refine r_get (ci := 8) (C := RX7) (T := TX7) (N := 4) (v := zr (aR h v0 0)) hx hb hm ii_X7 hown hK hR rfl k4 0 (by decide) (hm _ mw_114) (fun _ h9 => h9) rfl dX7_spotOf_11 ?_
      refine lv_iload_n hx hb dX7_spotOf_14 rfl (zl_at hl 2 rfl) ?_
      obtain ⟨k5, hp⟩ := ck_i hp
      refine r_iald hx hb hK hR k5.1 k5.2 dX7_spotOf_15 ?_
      refine lv_iload_n hx hb dX7_spotOf_16 rfl (zl_at hl 1 rfl) ?_
      refine lv_icmp_ne (tgt := 22) hx hb dX7_spotOf_17 (by decide) (fun c7 => ?_) (fun c7 => ?_)
      · replace hp := ite_n hp c7
        obtain ⟨x8, ex8⟩ : ∃ y : Int32, y = v2 + iI 1 := ⟨_, rfl⟩
        replace hp := nm_i hp ex8
        refine z_iinc (v := x8) (lv' := [(2, .int x8), (0, zr v0), (1, .int v1)]) hx hb dX7_spotOf_22 hl (k := 2) rfl ex8 (by decide) rfl (fun ls hl => ?_)
        refine lv_goto (tgt := 2) hx hb dX7_spotOf_25 (by decide) ?_
        exact ih _ _ _ _ _ _ _ _ _ hR hL (zl_sub hl [1, 2, 0] rfl) hp
      · replace hp := ite_p hp c7
        refine lv_iload_n hx hb dX7_spotOf_20 rfl (zl_at hl 2 rfl) ?_
        cases hp
        exact r_zret C hR hL rfl dX7_spotOf_21
def p_X7_spotOf_0  (v0 : Nat) (v1 : Int32) (h : AH) : Option (Int32 × AH) :=
  nm ((iI 0)) fun (x1 : Int32) =>
  p_X7_spotOf_2  FU v0 v1 x1 h
set_option maxHeartbeats 4000000 in
set_option maxRecDepth 100000 in
theorem s_X7_spotOf_0 {p : Program} {l : Launch} {e : Env} {s : State} {m : MethodId} {args : Array Value} {below : List Frame} {meth : Method} {c : Code} {G : GG} {hs : AH} {r : Int32} {h' : AH} (C : Cx G hs p s m args meth c cX7_spotOf 3 RX7 (.code yX7_spotOf cX7_spotOf 3 (some .int) :: MW) (some .int) "spotOf")   {v0 : Nat} {v1 : Int32} {h : AH} {H : Heap} {locs : List Loc} {cells slots : Nat} {ls : Array Slot} (hR : Rp G h H) (hL : ∀ q ∈ locs, gB G ≤ q.base) (hl : zl ls 3 [(0, zr v0), (1, .int v1)]) (hp : p_X7_spotOf_0  v0 v1 h = some (r, h')) : W p l e (gR G hs 1 40) s m args below meth c H locs cells slots (MQ below (Qcc G (some (.int r)) h') args s (gC G - aZ hs) (gS - aU hs) (fun q => gB G ≤ q)) (F0 m 0 ls []) := by
  obtain ⟨hx, hb, hml, hown, hts, hT, hK, rs, hlk, hret, hnm⟩ := id C
  have hm : ∀ w ∈ MW, w.before args s = true := fun w hw => hts w (hT w hw)
  unfold p_X7_spotOf_0 at hp
  refine lv_iconst (v := iI 0) hx hb dX7_spotOf_0 rfl ?_
  refine lv_topi (fun x1 ex1 => ?_)
  replace hp := nm_i hp ex1
  refine z_istore_n (lv' := [(2, .int x1), (0, zr v0), (1, .int v1)]) hx hb dX7_spotOf_1 rfl hl (by decide) rfl (fun ls hl => ?_)
  exact s_X7_spotOf_2 C  _ _ _ _ _ _ _ _ _ _ hR hL (zl_sub hl [1, 2, 0] rfl) hp
def p_X7_spotOf (v0 : Nat) (v1 : Int32) (h : AH) : Option (Int32 × AH) := ck (v0 ≠ 0) <| p_X7_spotOf_0 v0 v1 h
theorem c_X7_spotOf (l : Launch) (G : GG) (v0 : Nat) (v1 : Int32) (h : AH) (r : Int32) (h' : AH) (hp : p_X7_spotOf v0 v1 h = some (r, h')) : Ct l yX7_spotOf (.code yX7_spotOf cX7_spotOf 3 (some .int) :: MW) G 1 40 [.ref (v0 - 1), .int v1] h (some (.int r)) h' := by
  obtain ⟨hz0, hp⟩ := ck_i hp
  refine Ct.of (by decide +kernel) (Nat.le_of_ble_eq_true rfl) ?_
  intro p e s m args below meth c C hR ls hl
  have hl : zl ls 3 [(0, zr v0), (1, .int v1)] := ⟨by rw [zr_p hz0]; exact hl, by simp [zr_cat, in_cat]⟩
  exact s_X7_spotOf_0 C hR (fun _ hq => nomatch hq) hl hp
/-! CursorKeep$Row.nearestShownAhead(I)I -/
def p_X7_nearestShownAhead_4  : Nat → Nat → Int32 → AH → Option (Int32 × AH)
  | 0, _, _, _ => none
  | n + 1, v0, v2, h =>
    if v2 < 0 then
      some ((iI (-1)), h)
    else
      ck (aK h v0 = 9) <|
      bR (p_X7_letterAt v0 v2 h) fun r3 h4 =>
      ck (aK h4 v0 = 9) <|
      bR (p_X7_shows v0 r3 h4) fun r6 h7 =>
      if r6 = 0 then
        nm (v2 + iI (-1)) fun (x9 : Int32) =>
        p_X7_nearestShownAhead_4  n v0 x9 h7
      else
        ck (aK h7 v0 = 9) <|
        bR (p_X7_letterAt v0 v2 h7) fun r11 h12 =>
        some (r11, h12)
set_option maxHeartbeats 4000000 in
set_option maxRecDepth 100000 in
theorem s_X7_nearestShownAhead_4 {p : Program} {l : Launch} {e : Env} {s : State} {m : MethodId} {args : Array Value} {below : List Frame} {meth : Method} {c : Code} {G : GG} {hs : AH} {r : Int32} {h' : AH} (C : Cx G hs p s m args meth c cX7_nearestShownAhead 3 RX7 (.code yX7_nearestShownAhead cX7_nearestShownAhead 3 (some .int) :: MW) (some .int) "nearestShownAhead")   : ∀ (n : Nat) (v0 : Nat) (v2 : Int32) (h : AH) (H : Heap) (locs : List Loc) (cells slots : Nat) (ls : Array Slot) (hR : Rp G h H) (hL : ∀ q ∈ locs, gB G ≤ q.base) (hl : zl ls 3 [(0, zr v0), (2, .int v2)]) (hp : p_X7_nearestShownAhead_4  n v0 v2 h = some (r, h')), W p l e (gR G hs 3 82) s m args below meth c H locs cells slots (MQ below (Qcc G (some (.int r)) h') args s (gC G - aZ hs) (gS - aU hs) (fun q => gB G ≤ q)) (F0 m 4 ls []) := by
  obtain ⟨hx, hb, hml, hown, hts, hT, hK, rs, hlk, hret, hnm⟩ := id C
  have hm : ∀ w ∈ MW, w.before args s = true := fun w hw => hts w (hT w hw)
  intro n
  induction n with
  | zero =>
    intro v0 v2 h H locs cells slots ls hR hL hl hp
    exact absurd (show none = some (r, h') from hp) (by simp)
  | succ n ih =>
    intro v0 v2 h H locs cells slots ls hR hL hl hp
    rw [p_X7_nearestShownAhead_4.eq_2] at hp
    refine lv_iload_n hx hb dX7_nearestShownAhead_4 rfl (zl_at hl 1 rfl) ?_
    refine lv_if_lt (tgt := 32) hx hb dX7_nearestShownAhead_5 (by decide) (fun c1 => ?_) (fun c1 => ?_)
    · replace hp := ite_p hp c1
      refine lv_iconst (v := iI (-1)) hx hb dX7_nearestShownAhead_32 rfl ?_
      cases hp
      exact r_zret C hR hL rfl dX7_nearestShownAhead_33
    · replace hp := ite_n hp c1
      refine z_aload_n hx hb dX7_nearestShownAhead_8 rfl (zl_at hl 0 rfl) ?_
      refine z_aload_n hx hb dX7_nearestShownAhead_9 rfl (zl_at hl 0 rfl) ?_
      refine lv_iload_n hx hb dX7_nearestShownAhead_10 rfl (zl_at hl 1 rfl) ?_
      obtain ⟨k2, hp⟩ := ck_i hp
      obtain ⟨r3, h4, er3, hp⟩ := bR_i hp
      refine r_callV (ci := 8) (r := (RX7, TX7, 4)) (n := 1) (As := [.int v2]) (rest := [zr v0]) C (c_X7_letterAt l G v0 v2 h r3 h4 er3) hR hL rfl k2 mw_580 mw_276 mw_277 mw_8 mw_278 (by decide +kernel) (by decide) rfl (zl_size hl) rfl (by simp [zr_cat, in_cat]) dX7_nearestShownAhead_11 (st2 := [.int r3, zr v0]) rfl (fun H locs cells slots hR hL => ?_)
      obtain ⟨k5, hp⟩ := ck_i hp
      obtain ⟨r6, h7, er6, hp⟩ := bR_i hp
      refine r_callV (ci := 8) (r := (RX7, TX7, 4)) (n := 1) (As := [.int r3]) (rest := []) C (c_X7_shows l G v0 r3 h4 r6 h7 er6) hR hL rfl k5 mw_581 mw_280 mw_281 mw_8 mw_282 (by decide +kernel) (by decide) rfl (zl_size hl) rfl (by simp [zr_cat, in_cat]) dX7_nearestShownAhead_14 (st2 := [.int r6]) rfl (fun H locs cells slots hR hL => ?_)
      refine lv_if_eq (tgt := 26) hx hb dX7_nearestShownAhead_17 (by decide) (fun c8 => ?_) (fun c8 => ?_)
      · replace hp := ite_p hp c8
        obtain ⟨x9, ex9⟩ : ∃ y : Int32, y = v2 + iI (-1) := ⟨_, rfl⟩
        replace hp := nm_i hp ex9
        refine z_iinc (v := x9) (lv' := [(2, .int x9), (0, zr v0)]) hx hb dX7_nearestShownAhead_26 hl (k := 1) rfl ex9 (by decide) rfl (fun ls hl => ?_)
        refine lv_goto (tgt := 4) hx hb dX7_nearestShownAhead_29 (by decide) ?_
        exact ih _ _ _ _ _ _ _ _ hR hL (zl_sub hl [1, 0] rfl) hp
      · replace hp := ite_n hp c8
        refine z_aload_n hx hb dX7_nearestShownAhead_20 rfl (zl_at hl 0 rfl) ?_
        refine lv_iload_n hx hb dX7_nearestShownAhead_21 rfl (zl_at hl 1 rfl) ?_
        obtain ⟨k10, hp⟩ := ck_i hp
        obtain ⟨r11, h12, er11, hp⟩ := bR_i hp
        refine r_callV (ci := 8) (r := (RX7, TX7, 4)) (n := 1) (As := [.int v2]) (rest := []) C (c_X7_letterAt l G v0 v2 h7 r11 h12 er11) hR hL rfl k10 mw_580 mw_276 mw_277 mw_8 mw_278 (by decide +kernel) (by decide) rfl (zl_size hl) rfl (by simp [zr_cat, in_cat]) dX7_nearestShownAhead_22 (st2 := [.int r11]) rfl (fun H locs cells slots hR hL => ?_)
        cases hp
        exact r_zret C hR hL rfl dX7_nearestShownAhead_25
def p_X7_nearestShownAhead_0  (v0 : Nat) (v1 : Int32) (h : AH) : Option (Int32 × AH) :=
  nm ((v1 - (iI 1))) fun (x1 : Int32) =>
  p_X7_nearestShownAhead_4  FU v0 x1 h
set_option maxHeartbeats 4000000 in
set_option maxRecDepth 100000 in
theorem s_X7_nearestShownAhead_0 {p : Program} {l : Launch} {e : Env} {s : State} {m : MethodId} {args : Array Value} {below : List Frame} {meth : Method} {c : Code} {G : GG} {hs : AH} {r : Int32} {h' : AH} (C : Cx G hs p s m args meth c cX7_nearestShownAhead 3 RX7 (.code yX7_nearestShownAhead cX7_nearestShownAhead 3 (some .int) :: MW) (some .int) "nearestShownAhead")   {v0 : Nat} {v1 : Int32} {h : AH} {H : Heap} {locs : List Loc} {cells slots : Nat} {ls : Array Slot} (hR : Rp G h H) (hL : ∀ q ∈ locs, gB G ≤ q.base) (hl : zl ls 3 [(0, zr v0), (1, .int v1)]) (hp : p_X7_nearestShownAhead_0  v0 v1 h = some (r, h')) : W p l e (gR G hs 3 82) s m args below meth c H locs cells slots (MQ below (Qcc G (some (.int r)) h') args s (gC G - aZ hs) (gS - aU hs) (fun q => gB G ≤ q)) (F0 m 0 ls []) := by
  obtain ⟨hx, hb, hml, hown, hts, hT, hK, rs, hlk, hret, hnm⟩ := id C
  have hm : ∀ w ∈ MW, w.before args s = true := fun w hw => hts w (hT w hw)
  unfold p_X7_nearestShownAhead_0 at hp
  refine lv_iload_n hx hb dX7_nearestShownAhead_0 rfl (zl_at hl 1 rfl) ?_
  refine lv_iconst (v := iI 1) hx hb dX7_nearestShownAhead_1 rfl ?_
  refine lv_isub hx hb dX7_nearestShownAhead_2 ?_
  refine lv_topi (fun x1 ex1 => ?_)
  replace hp := nm_i hp ex1
  refine z_istore_n (lv' := [(2, .int x1), (0, zr v0), (1, .int v1)]) hx hb dX7_nearestShownAhead_3 rfl hl (by decide) rfl (fun ls hl => ?_)
  exact s_X7_nearestShownAhead_4 C  _ _ _ _ _ _ _ _ _ hR hL (zl_sub hl [1, 0] rfl) hp
def p_X7_nearestShownAhead (v0 : Nat) (v1 : Int32) (h : AH) : Option (Int32 × AH) := ck (v0 ≠ 0) <| p_X7_nearestShownAhead_0 v0 v1 h
theorem c_X7_nearestShownAhead (l : Launch) (G : GG) (v0 : Nat) (v1 : Int32) (h : AH) (r : Int32) (h' : AH) (hp : p_X7_nearestShownAhead v0 v1 h = some (r, h')) : Ct l yX7_nearestShownAhead (.code yX7_nearestShownAhead cX7_nearestShownAhead 3 (some .int) :: MW) G 3 82 [.ref (v0 - 1), .int v1] h (some (.int r)) h' := by
  obtain ⟨hz0, hp⟩ := ck_i hp
  refine Ct.of (by decide +kernel) (Nat.le_of_ble_eq_true rfl) ?_
  intro p e s m args below meth c C hR ls hl
  have hl : zl ls 3 [(0, zr v0), (1, .int v1)] := ⟨by rw [zr_p hz0]; exact hl, by simp [zr_cat, in_cat]⟩
  exact s_X7_nearestShownAhead_0 C hR (fun _ hq => nomatch hq) hl hp
/-! CursorKeep$Row.nearestShownFrom(I)I -/
def p_X7_nearestShownFrom_2  : Nat → Nat → Int32 → AH → Option (Int32 × AH)
  | 0, _, _, _ => none
  | n + 1, v0, v2, h =>
    ck (aK h v0 = 9) <|
    if (aI h v0 3) ≤ v2 then
      some ((iI (-1)), h)
    else
      ck (aK h v0 = 9) <|
      bR (p_X7_letterAt v0 v2 h) fun r4 h5 =>
      ck (aK h5 v0 = 9) <|
      bR (p_X7_shows v0 r4 h5) fun r7 h8 =>
      if r7 = 0 then
        nm (v2 + iI 1) fun (x10 : Int32) =>
        p_X7_nearestShownFrom_2  n v0 x10 h8
      else
        ck (aK h8 v0 = 9) <|
        bR (p_X7_letterAt v0 v2 h8) fun r12 h13 =>
        some (r12, h13)
set_option maxHeartbeats 4000000 in
set_option maxRecDepth 100000 in
theorem s_X7_nearestShownFrom_2 {p : Program} {l : Launch} {e : Env} {s : State} {m : MethodId} {args : Array Value} {below : List Frame} {meth : Method} {c : Code} {G : GG} {hs : AH} {r : Int32} {h' : AH} (C : Cx G hs p s m args meth c cX7_nearestShownFrom 3 RX7 (.code yX7_nearestShownFrom cX7_nearestShownFrom 3 (some .int) :: MW) (some .int) "nearestShownFrom")   : ∀ (n : Nat) (v0 : Nat) (v2 : Int32) (h : AH) (H : Heap) (locs : List Loc) (cells slots : Nat) (ls : Array Slot) (hR : Rp G h H) (hL : ∀ q ∈ locs, gB G ≤ q.base) (hl : zl ls 3 [(0, zr v0), (2, .int v2)]) (hp : p_X7_nearestShownFrom_2  n v0 v2 h = some (r, h')), W p l e (gR G hs 3 82) s m args below meth c H locs cells slots (MQ below (Qcc G (some (.int r)) h') args s (gC G - aZ hs) (gS - aU hs) (fun q => gB G ≤ q)) (F0 m 2 ls []) := by
  obtain ⟨hx, hb, hml, hown, hts, hT, hK, rs, hlk, hret, hnm⟩ := id C
  have hm : ∀ w ∈ MW, w.before args s = true := fun w hw => hts w (hT w hw)
  intro n
  induction n with
  | zero =>
    intro v0 v2 h H locs cells slots ls hR hL hl hp
    exact absurd (show none = some (r, h') from hp) (by simp)
  | succ n ih =>
    intro v0 v2 h H locs cells slots ls hR hL hl hp
    rw [p_X7_nearestShownFrom_2.eq_2] at hp
    refine lv_iload_n hx hb dX7_nearestShownFrom_2 rfl (zl_at hl 1 rfl) ?_
    refine z_aload_n hx hb dX7_nearestShownFrom_3 rfl (zl_at hl 0 rfl) ?_
    obtain ⟨k1, hp⟩ := ck_i hp
    refine r_get (ci := 8) (C := RX7) (T := TX7) (N := 4) (v := .int (aI h v0 3)) hx hb hm ii_X7 hown hK hR rfl k1 3 (by decide) (hm _ mw_117) (fun _ h9 => h9) rfl dX7_nearestShownFrom_4 ?_
    refine lv_icmp_ge (tgt := 34) hx hb dX7_nearestShownFrom_7 (by decide) (fun c2 => ?_) (fun c2 => ?_)
    · replace hp := ite_p hp c2
      refine lv_iconst (v := iI (-1)) hx hb dX7_nearestShownFrom_34 rfl ?_
      cases hp
      exact r_zret C hR hL rfl dX7_nearestShownFrom_35
    · replace hp := ite_n hp c2
      refine z_aload_n hx hb dX7_nearestShownFrom_10 rfl (zl_at hl 0 rfl) ?_
      refine z_aload_n hx hb dX7_nearestShownFrom_11 rfl (zl_at hl 0 rfl) ?_
      refine lv_iload_n hx hb dX7_nearestShownFrom_12 rfl (zl_at hl 1 rfl) ?_
      obtain ⟨k3, hp⟩ := ck_i hp
      obtain ⟨r4, h5, er4, hp⟩ := bR_i hp
      refine r_callV (ci := 8) (r := (RX7, TX7, 4)) (n := 1) (As := [.int v2]) (rest := [zr v0]) C (c_X7_letterAt l G v0 v2 h r4 h5 er4) hR hL rfl k3 mw_580 mw_276 mw_277 mw_8 mw_278 (by decide +kernel) (by decide) rfl (zl_size hl) rfl (by simp [zr_cat, in_cat]) dX7_nearestShownFrom_13 (st2 := [.int r4, zr v0]) rfl (fun H locs cells slots hR hL => ?_)
      obtain ⟨k6, hp⟩ := ck_i hp
      obtain ⟨r7, h8, er7, hp⟩ := bR_i hp
      refine r_callV (ci := 8) (r := (RX7, TX7, 4)) (n := 1) (As := [.int r4]) (rest := []) C (c_X7_shows l G v0 r4 h5 r7 h8 er7) hR hL rfl k6 mw_581 mw_280 mw_281 mw_8 mw_282 (by decide +kernel) (by decide) rfl (zl_size hl) rfl (by simp [zr_cat, in_cat]) dX7_nearestShownFrom_16 (st2 := [.int r7]) rfl (fun H locs cells slots hR hL => ?_)
      refine lv_if_eq (tgt := 28) hx hb dX7_nearestShownFrom_19 (by decide) (fun c9 => ?_) (fun c9 => ?_)
      · replace hp := ite_p hp c9
        obtain ⟨x10, ex10⟩ : ∃ y : Int32, y = v2 + iI 1 := ⟨_, rfl⟩
        replace hp := nm_i hp ex10
        refine z_iinc (v := x10) (lv' := [(2, .int x10), (0, zr v0)]) hx hb dX7_nearestShownFrom_28 hl (k := 1) rfl ex10 (by decide) rfl (fun ls hl => ?_)
        refine lv_goto (tgt := 2) hx hb dX7_nearestShownFrom_31 (by decide) ?_
        exact ih _ _ _ _ _ _ _ _ hR hL (zl_sub hl [1, 0] rfl) hp
      · replace hp := ite_n hp c9
        refine z_aload_n hx hb dX7_nearestShownFrom_22 rfl (zl_at hl 0 rfl) ?_
        refine lv_iload_n hx hb dX7_nearestShownFrom_23 rfl (zl_at hl 1 rfl) ?_
        obtain ⟨k11, hp⟩ := ck_i hp
        obtain ⟨r12, h13, er12, hp⟩ := bR_i hp
        refine r_callV (ci := 8) (r := (RX7, TX7, 4)) (n := 1) (As := [.int v2]) (rest := []) C (c_X7_letterAt l G v0 v2 h8 r12 h13 er12) hR hL rfl k11 mw_580 mw_276 mw_277 mw_8 mw_278 (by decide +kernel) (by decide) rfl (zl_size hl) rfl (by simp [zr_cat, in_cat]) dX7_nearestShownFrom_24 (st2 := [.int r12]) rfl (fun H locs cells slots hR hL => ?_)
        cases hp
        exact r_zret C hR hL rfl dX7_nearestShownFrom_27
def p_X7_nearestShownFrom_0  (v0 : Nat) (v1 : Int32) (h : AH) : Option (Int32 × AH) :=
  p_X7_nearestShownFrom_2  FU v0 v1 h
set_option maxHeartbeats 4000000 in
set_option maxRecDepth 100000 in
theorem s_X7_nearestShownFrom_0 {p : Program} {l : Launch} {e : Env} {s : State} {m : MethodId} {args : Array Value} {below : List Frame} {meth : Method} {c : Code} {G : GG} {hs : AH} {r : Int32} {h' : AH} (C : Cx G hs p s m args meth c cX7_nearestShownFrom 3 RX7 (.code yX7_nearestShownFrom cX7_nearestShownFrom 3 (some .int) :: MW) (some .int) "nearestShownFrom")   {v0 : Nat} {v1 : Int32} {h : AH} {H : Heap} {locs : List Loc} {cells slots : Nat} {ls : Array Slot} (hR : Rp G h H) (hL : ∀ q ∈ locs, gB G ≤ q.base) (hl : zl ls 3 [(0, zr v0), (1, .int v1)]) (hp : p_X7_nearestShownFrom_0  v0 v1 h = some (r, h')) : W p l e (gR G hs 3 82) s m args below meth c H locs cells slots (MQ below (Qcc G (some (.int r)) h') args s (gC G - aZ hs) (gS - aU hs) (fun q => gB G ≤ q)) (F0 m 0 ls []) := by
  obtain ⟨hx, hb, hml, hown, hts, hT, hK, rs, hlk, hret, hnm⟩ := id C
  have hm : ∀ w ∈ MW, w.before args s = true := fun w hw => hts w (hT w hw)
  unfold p_X7_nearestShownFrom_0 at hp
  refine lv_iload_n hx hb dX7_nearestShownFrom_0 rfl (zl_at hl 1 rfl) ?_
  refine z_istore_n (lv' := [(2, .int v1), (0, zr v0), (1, .int v1)]) hx hb dX7_nearestShownFrom_1 rfl hl (by decide) rfl (fun ls hl => ?_)
  exact s_X7_nearestShownFrom_2 C  _ _ _ _ _ _ _ _ _ hR hL (zl_sub hl [1, 0] rfl) hp
def p_X7_nearestShownFrom (v0 : Nat) (v1 : Int32) (h : AH) : Option (Int32 × AH) := ck (v0 ≠ 0) <| p_X7_nearestShownFrom_0 v0 v1 h
theorem c_X7_nearestShownFrom (l : Launch) (G : GG) (v0 : Nat) (v1 : Int32) (h : AH) (r : Int32) (h' : AH) (hp : p_X7_nearestShownFrom v0 v1 h = some (r, h')) : Ct l yX7_nearestShownFrom (.code yX7_nearestShownFrom cX7_nearestShownFrom 3 (some .int) :: MW) G 3 82 [.ref (v0 - 1), .int v1] h (some (.int r)) h' := by
  obtain ⟨hz0, hp⟩ := ck_i hp
  refine Ct.of (by decide +kernel) (Nat.le_of_ble_eq_true rfl) ?_
  intro p e s m args below meth c C hR ls hl
  have hl : zl ls 3 [(0, zr v0), (1, .int v1)] := ⟨by rw [zr_p hz0]; exact hl, by simp [zr_cat, in_cat]⟩
  exact s_X7_nearestShownFrom_0 C hR (fun _ hq => nomatch hq) hl hp
/-! CursorKeep$Row.shownCountAhead(I)I -/
def p_X7_shownCountAhead_24 (k4 : Nat → Int32 → Int32 → Int32 → AH → Option (Int32 × AH)) (v0 : Nat) (v1 : Int32) (v2 : Int32) (v3 : Int32) (h : AH) : Option (Int32 × AH) :=
  nm (v3 + iI 1) fun (x1 : Int32) =>
  k4 v0 v1 v2 x1 h
set_option maxHeartbeats 4000000 in
set_option maxRecDepth 100000 in
theorem s_X7_shownCountAhead_24 {p : Program} {l : Launch} {e : Env} {s : State} {m : MethodId} {args : Array Value} {below : List Frame} {meth : Method} {c : Code} {G : GG} {hs : AH} {r : Int32} {h' : AH} (C : Cx G hs p s m args meth c cX7_shownCountAhead 4 RX7 (.code yX7_shownCountAhead cX7_shownCountAhead 4 (some .int) :: MW) (some .int) "shownCountAhead") {k4 : Nat → Int32 → Int32 → Int32 → AH → Option (Int32 × AH)} (hk4 : ∀ {v0 : Nat} {v1 : Int32} {v2 : Int32} {v3 : Int32} {h : AH} {H : Heap} {locs : List Loc} {cells slots : Nat} {ls : Array Slot}, Rp G h H → (∀ q ∈ locs, gB G ≤ q.base) → zl ls 4 [(0, zr v0), (1, .int v1), (2, .int v2), (3, .int v3)] → k4 v0 v1 v2 v3 h = some (r, h') → W p l e (gR G hs 3 82) s m args below meth c H locs cells slots (MQ below (Qcc G (some (.int r)) h') args s (gC G - aZ hs) (gS - aU hs) (fun q => gB G ≤ q)) (F0 m 4 ls [])) {v0 : Nat} {v1 : Int32} {v2 : Int32} {v3 : Int32} {h : AH} {H : Heap} {locs : List Loc} {cells slots : Nat} {ls : Array Slot} (hR : Rp G h H) (hL : ∀ q ∈ locs, gB G ≤ q.base) (hl : zl ls 4 [(0, zr v0), (1, .int v1), (2, .int v2), (3, .int v3)]) (hp : p_X7_shownCountAhead_24 k4 v0 v1 v2 v3 h = some (r, h')) : W p l e (gR G hs 3 82) s m args below meth c H locs cells slots (MQ below (Qcc G (some (.int r)) h') args s (gC G - aZ hs) (gS - aU hs) (fun q => gB G ≤ q)) (F0 m 24 ls []) := by
  obtain ⟨hx, hb, hml, hown, hts, hT, hK, rs, hlk, hret, hnm⟩ := id C
  have hm : ∀ w ∈ MW, w.before args s = true := fun w hw => hts w (hT w hw)
  unfold p_X7_shownCountAhead_24 at hp
  obtain ⟨x1, ex1⟩ : ∃ y : Int32, y = v3 + iI 1 := ⟨_, rfl⟩
  replace hp := nm_i hp ex1
  refine z_iinc (v := x1) (lv' := [(3, .int x1), (0, zr v0), (1, .int v1), (2, .int v2)]) hx hb dX7_shownCountAhead_24 hl (k := 3) rfl ex1 (by decide) rfl (fun ls hl => ?_)
  refine lv_goto (tgt := 4) hx hb dX7_shownCountAhead_27 (by decide) ?_
  exact hk4 hR hL (zl_sub hl [1, 2, 3, 0] rfl) hp
def p_X7_shownCountAhead_4  : Nat → Nat → Int32 → Int32 → Int32 → AH → Option (Int32 × AH)
  | 0, _, _, _, _, _ => none
  | n + 1, v0, v1, v2, v3, h =>
    if v1 ≤ v3 then
      some (v2, h)
    else
      ck (aK h v0 = 9) <|
      bR (p_X7_letterAt v0 v3 h) fun r3 h4 =>
      ck (aK h4 v0 = 9) <|
      bR (p_X7_shows v0 r3 h4) fun r6 h7 =>
      if r6 = 0 then
        p_X7_shownCountAhead_24 (p_X7_shownCountAhead_4  n) v0 v1 v2 v3 h7
      else
        nm (v2 + iI 1) fun (x9 : Int32) =>
        p_X7_shownCountAhead_24 (p_X7_shownCountAhead_4  n) v0 v1 x9 v3 h7
set_option maxHeartbeats 4000000 in
set_option maxRecDepth 100000 in
theorem s_X7_shownCountAhead_4 {p : Program} {l : Launch} {e : Env} {s : State} {m : MethodId} {args : Array Value} {below : List Frame} {meth : Method} {c : Code} {G : GG} {hs : AH} {r : Int32} {h' : AH} (C : Cx G hs p s m args meth c cX7_shownCountAhead 4 RX7 (.code yX7_shownCountAhead cX7_shownCountAhead 4 (some .int) :: MW) (some .int) "shownCountAhead")   : ∀ (n : Nat) (v0 : Nat) (v1 : Int32) (v2 : Int32) (v3 : Int32) (h : AH) (H : Heap) (locs : List Loc) (cells slots : Nat) (ls : Array Slot) (hR : Rp G h H) (hL : ∀ q ∈ locs, gB G ≤ q.base) (hl : zl ls 4 [(0, zr v0), (1, .int v1), (2, .int v2), (3, .int v3)]) (hp : p_X7_shownCountAhead_4  n v0 v1 v2 v3 h = some (r, h')), W p l e (gR G hs 3 82) s m args below meth c H locs cells slots (MQ below (Qcc G (some (.int r)) h') args s (gC G - aZ hs) (gS - aU hs) (fun q => gB G ≤ q)) (F0 m 4 ls []) := by
  obtain ⟨hx, hb, hml, hown, hts, hT, hK, rs, hlk, hret, hnm⟩ := id C
  have hm : ∀ w ∈ MW, w.before args s = true := fun w hw => hts w (hT w hw)
  intro n
  induction n with
  | zero =>
    intro v0 v1 v2 v3 h H locs cells slots ls hR hL hl hp
    exact absurd (show none = some (r, h') from hp) (by simp)
  | succ n ih =>
    intro v0 v1 v2 v3 h H locs cells slots ls hR hL hl hp
    rw [p_X7_shownCountAhead_4.eq_2] at hp
    refine lv_iload_n hx hb dX7_shownCountAhead_4 rfl (zl_at hl 3 rfl) ?_
    refine lv_iload_n hx hb dX7_shownCountAhead_5 rfl (zl_at hl 1 rfl) ?_
    refine lv_icmp_ge (tgt := 30) hx hb dX7_shownCountAhead_6 (by decide) (fun c1 => ?_) (fun c1 => ?_)
    · replace hp := ite_p hp c1
      refine lv_iload_n hx hb dX7_shownCountAhead_30 rfl (zl_at hl 2 rfl) ?_
      cases hp
      exact r_zret C hR hL rfl dX7_shownCountAhead_31
    · replace hp := ite_n hp c1
      refine z_aload_n hx hb dX7_shownCountAhead_9 rfl (zl_at hl 0 rfl) ?_
      refine z_aload_n hx hb dX7_shownCountAhead_10 rfl (zl_at hl 0 rfl) ?_
      refine lv_iload_n hx hb dX7_shownCountAhead_11 rfl (zl_at hl 3 rfl) ?_
      obtain ⟨k2, hp⟩ := ck_i hp
      obtain ⟨r3, h4, er3, hp⟩ := bR_i hp
      refine r_callV (ci := 8) (r := (RX7, TX7, 4)) (n := 1) (As := [.int v3]) (rest := [zr v0]) C (c_X7_letterAt l G v0 v3 h r3 h4 er3) hR hL rfl k2 mw_580 mw_276 mw_277 mw_8 mw_278 (by decide +kernel) (by decide) rfl (zl_size hl) rfl (by simp [zr_cat, in_cat]) dX7_shownCountAhead_12 (st2 := [.int r3, zr v0]) rfl (fun H locs cells slots hR hL => ?_)
      obtain ⟨k5, hp⟩ := ck_i hp
      obtain ⟨r6, h7, er6, hp⟩ := bR_i hp
      refine r_callV (ci := 8) (r := (RX7, TX7, 4)) (n := 1) (As := [.int r3]) (rest := []) C (c_X7_shows l G v0 r3 h4 r6 h7 er6) hR hL rfl k5 mw_581 mw_280 mw_281 mw_8 mw_282 (by decide +kernel) (by decide) rfl (zl_size hl) rfl (by simp [zr_cat, in_cat]) dX7_shownCountAhead_15 (st2 := [.int r6]) rfl (fun H locs cells slots hR hL => ?_)
      refine lv_if_eq (tgt := 24) hx hb dX7_shownCountAhead_18 (by decide) (fun c8 => ?_) (fun c8 => ?_)
      · replace hp := ite_p hp c8
        exact s_X7_shownCountAhead_24 C (fun hR hL hl hp => ih _ _ _ _ _ _ _ _ _ _ hR hL hl hp) hR hL (zl_sub hl [0, 1, 2, 3] rfl) hp
      · replace hp := ite_n hp c8
        obtain ⟨x9, ex9⟩ : ∃ y : Int32, y = v2 + iI 1 := ⟨_, rfl⟩
        replace hp := nm_i hp ex9
        refine z_iinc (v := x9) (lv' := [(2, .int x9), (0, zr v0), (1, .int v1), (3, .int v3)]) hx hb dX7_shownCountAhead_21 hl (k := 2) rfl ex9 (by decide) rfl (fun ls hl => ?_)
        exact s_X7_shownCountAhead_24 C (fun hR hL hl hp => ih _ _ _ _ _ _ _ _ _ _ hR hL hl hp) hR hL (zl_sub hl [1, 2, 0, 3] rfl) hp
def p_X7_shownCountAhead_0  (v0 : Nat) (v1 : Int32) (h : AH) : Option (Int32 × AH) :=
  nm ((iI 0)) fun (x1 : Int32) =>
  nm ((iI 0)) fun (x2 : Int32) =>
  p_X7_shownCountAhead_4  FU v0 v1 x1 x2 h
set_option maxHeartbeats 4000000 in
set_option maxRecDepth 100000 in
theorem s_X7_shownCountAhead_0 {p : Program} {l : Launch} {e : Env} {s : State} {m : MethodId} {args : Array Value} {below : List Frame} {meth : Method} {c : Code} {G : GG} {hs : AH} {r : Int32} {h' : AH} (C : Cx G hs p s m args meth c cX7_shownCountAhead 4 RX7 (.code yX7_shownCountAhead cX7_shownCountAhead 4 (some .int) :: MW) (some .int) "shownCountAhead")   {v0 : Nat} {v1 : Int32} {h : AH} {H : Heap} {locs : List Loc} {cells slots : Nat} {ls : Array Slot} (hR : Rp G h H) (hL : ∀ q ∈ locs, gB G ≤ q.base) (hl : zl ls 4 [(0, zr v0), (1, .int v1)]) (hp : p_X7_shownCountAhead_0  v0 v1 h = some (r, h')) : W p l e (gR G hs 3 82) s m args below meth c H locs cells slots (MQ below (Qcc G (some (.int r)) h') args s (gC G - aZ hs) (gS - aU hs) (fun q => gB G ≤ q)) (F0 m 0 ls []) := by
  obtain ⟨hx, hb, hml, hown, hts, hT, hK, rs, hlk, hret, hnm⟩ := id C
  have hm : ∀ w ∈ MW, w.before args s = true := fun w hw => hts w (hT w hw)
  unfold p_X7_shownCountAhead_0 at hp
  refine lv_iconst (v := iI 0) hx hb dX7_shownCountAhead_0 rfl ?_
  refine lv_topi (fun x1 ex1 => ?_)
  replace hp := nm_i hp ex1
  refine z_istore_n (lv' := [(2, .int x1), (0, zr v0), (1, .int v1)]) hx hb dX7_shownCountAhead_1 rfl hl (by decide) rfl (fun ls hl => ?_)
  refine lv_iconst (v := iI 0) hx hb dX7_shownCountAhead_2 rfl ?_
  refine lv_topi (fun x2 ex2 => ?_)
  replace hp := nm_i hp ex2
  refine z_istore_n (lv' := [(3, .int x2), (2, .int x1), (0, zr v0), (1, .int v1)]) hx hb dX7_shownCountAhead_3 rfl hl (by decide) rfl (fun ls hl => ?_)
  exact s_X7_shownCountAhead_4 C  _ _ _ _ _ _ _ _ _ _ _ hR hL (zl_sub hl [2, 3, 1, 0] rfl) hp
def p_X7_shownCountAhead (v0 : Nat) (v1 : Int32) (h : AH) : Option (Int32 × AH) := ck (v0 ≠ 0) <| p_X7_shownCountAhead_0 v0 v1 h
theorem c_X7_shownCountAhead (l : Launch) (G : GG) (v0 : Nat) (v1 : Int32) (h : AH) (r : Int32) (h' : AH) (hp : p_X7_shownCountAhead v0 v1 h = some (r, h')) : Ct l yX7_shownCountAhead (.code yX7_shownCountAhead cX7_shownCountAhead 4 (some .int) :: MW) G 3 82 [.ref (v0 - 1), .int v1] h (some (.int r)) h' := by
  obtain ⟨hz0, hp⟩ := ck_i hp
  refine Ct.of (by decide +kernel) (Nat.le_of_ble_eq_true rfl) ?_
  intro p e s m args below meth c C hR ls hl
  have hl : zl ls 4 [(0, zr v0), (1, .int v1)] := ⟨by rw [zr_p hz0]; exact hl, by simp [zr_cat, in_cat]⟩
  exact s_X7_shownCountAhead_0 C hR (fun _ hq => nomatch hq) hl hp
/-! CursorKeep$Row.shownCount()I -/
def p_X7_shownCount_0  (v0 : Nat) (h : AH) : Option (Int32 × AH) :=
  ck (aK h v0 = 9) <|
  ck (aK h v0 = 9) <|
  bR (p_X7_shownCountAhead v0 (aI h v0 3) h) fun r3 h4 =>
  some (r3, h4)
set_option maxHeartbeats 4000000 in
set_option maxRecDepth 100000 in
theorem s_X7_shownCount_0 {p : Program} {l : Launch} {e : Env} {s : State} {m : MethodId} {args : Array Value} {below : List Frame} {meth : Method} {c : Code} {G : GG} {hs : AH} {r : Int32} {h' : AH} (C : Cx G hs p s m args meth c cX7_shownCount 1 RX7 (.code yX7_shownCount cX7_shownCount 1 (some .int) :: MW) (some .int) "shownCount")   {v0 : Nat} {h : AH} {H : Heap} {locs : List Loc} {cells slots : Nat} {ls : Array Slot} (hR : Rp G h H) (hL : ∀ q ∈ locs, gB G ≤ q.base) (hl : zl ls 1 [(0, zr v0)]) (hp : p_X7_shownCount_0  v0 h = some (r, h')) : W p l e (gR G hs 4 105) s m args below meth c H locs cells slots (MQ below (Qcc G (some (.int r)) h') args s (gC G - aZ hs) (gS - aU hs) (fun q => gB G ≤ q)) (F0 m 0 ls []) := by
  obtain ⟨hx, hb, hml, hown, hts, hT, hK, rs, hlk, hret, hnm⟩ := id C
  have hm : ∀ w ∈ MW, w.before args s = true := fun w hw => hts w (hT w hw)
  unfold p_X7_shownCount_0 at hp
  refine z_aload_n hx hb dX7_shownCount_0 rfl (zl_at hl 0 rfl) ?_
  refine z_aload_n hx hb dX7_shownCount_1 rfl (zl_at hl 0 rfl) ?_
  obtain ⟨k1, hp⟩ := ck_i hp
  refine r_get (ci := 8) (C := RX7) (T := TX7) (N := 4) (v := .int (aI h v0 3)) hx hb hm ii_X7 hown hK hR rfl k1 3 (by decide) (hm _ mw_117) (fun _ h9 => h9) rfl dX7_shownCount_2 ?_
  obtain ⟨k2, hp⟩ := ck_i hp
  obtain ⟨r3, h4, er3, hp⟩ := bR_i hp
  refine r_callV (ci := 8) (r := (RX7, TX7, 4)) (n := 1) (As := [.int (aI h v0 3)]) (rest := []) C (c_X7_shownCountAhead l G v0 (aI h v0 3) h r3 h4 er3) hR hL rfl k2 mw_621 mw_577 mw_578 mw_8 mw_579 (by decide +kernel) (by decide) rfl (zl_size hl) rfl (by simp [zr_cat, in_cat]) dX7_shownCount_5 (st2 := [.int r3]) rfl (fun H locs cells slots hR hL => ?_)
  cases hp
  exact r_zret C hR hL rfl dX7_shownCount_8
def p_X7_shownCount (v0 : Nat) (h : AH) : Option (Int32 × AH) := ck (v0 ≠ 0) <| p_X7_shownCount_0 v0 h
theorem c_X7_shownCount (l : Launch) (G : GG) (v0 : Nat) (h : AH) (r : Int32) (h' : AH) (hp : p_X7_shownCount v0 h = some (r, h')) : Ct l yX7_shownCount (.code yX7_shownCount cX7_shownCount 1 (some .int) :: MW) G 4 105 [.ref (v0 - 1)] h (some (.int r)) h' := by
  obtain ⟨hz0, hp⟩ := ck_i hp
  refine Ct.of (by decide +kernel) (Nat.le_of_ble_eq_true rfl) ?_
  intro p e s m args below meth c C hR ls hl
  have hl : zl ls 1 [(0, zr v0)] := ⟨by rw [zr_p hz0]; exact hl, by simp [zr_cat, in_cat]⟩
  exact s_X7_shownCount_0 C hR (fun _ hq => nomatch hq) hl hp
/-! CursorKeep$Row.shownLetter(I)I -/
def p_X7_shownLetter_40 (k4 : Nat → Int32 → Int32 → Int32 → AH → Option (Int32 × AH)) (v0 : Nat) (v1 : Int32) (v2 : Int32) (v3 : Int32) (h : AH) : Option (Int32 × AH) :=
  nm (v3 + iI 1) fun (x1 : Int32) =>
  k4 v0 v1 v2 x1 h
set_option maxHeartbeats 4000000 in
set_option maxRecDepth 100000 in
theorem s_X7_shownLetter_40 {p : Program} {l : Launch} {e : Env} {s : State} {m : MethodId} {args : Array Value} {below : List Frame} {meth : Method} {c : Code} {G : GG} {hs : AH} {r : Int32} {h' : AH} (C : Cx G hs p s m args meth c cX7_shownLetter 4 RX7 (.code yX7_shownLetter cX7_shownLetter 4 (some .int) :: MW) (some .int) "shownLetter") {k4 : Nat → Int32 → Int32 → Int32 → AH → Option (Int32 × AH)} (hk4 : ∀ {v0 : Nat} {v1 : Int32} {v2 : Int32} {v3 : Int32} {h : AH} {H : Heap} {locs : List Loc} {cells slots : Nat} {ls : Array Slot}, Rp G h H → (∀ q ∈ locs, gB G ≤ q.base) → zl ls 4 [(0, zr v0), (1, .int v1), (2, .int v2), (3, .int v3)] → k4 v0 v1 v2 v3 h = some (r, h') → W p l e (gR G hs 3 82) s m args below meth c H locs cells slots (MQ below (Qcc G (some (.int r)) h') args s (gC G - aZ hs) (gS - aU hs) (fun q => gB G ≤ q)) (F0 m 4 ls [])) {v0 : Nat} {v1 : Int32} {v2 : Int32} {v3 : Int32} {h : AH} {H : Heap} {locs : List Loc} {cells slots : Nat} {ls : Array Slot} (hR : Rp G h H) (hL : ∀ q ∈ locs, gB G ≤ q.base) (hl : zl ls 4 [(0, zr v0), (1, .int v1), (2, .int v2), (3, .int v3)]) (hp : p_X7_shownLetter_40 k4 v0 v1 v2 v3 h = some (r, h')) : W p l e (gR G hs 3 82) s m args below meth c H locs cells slots (MQ below (Qcc G (some (.int r)) h') args s (gC G - aZ hs) (gS - aU hs) (fun q => gB G ≤ q)) (F0 m 40 ls []) := by
  obtain ⟨hx, hb, hml, hown, hts, hT, hK, rs, hlk, hret, hnm⟩ := id C
  have hm : ∀ w ∈ MW, w.before args s = true := fun w hw => hts w (hT w hw)
  unfold p_X7_shownLetter_40 at hp
  obtain ⟨x1, ex1⟩ : ∃ y : Int32, y = v3 + iI 1 := ⟨_, rfl⟩
  replace hp := nm_i hp ex1
  refine z_iinc (v := x1) (lv' := [(3, .int x1), (0, zr v0), (1, .int v1), (2, .int v2)]) hx hb dX7_shownLetter_40 hl (k := 3) rfl ex1 (by decide) rfl (fun ls hl => ?_)
  refine lv_goto (tgt := 4) hx hb dX7_shownLetter_43 (by decide) ?_
  exact hk4 hR hL (zl_sub hl [1, 2, 3, 0] rfl) hp
def p_X7_shownLetter_4  : Nat → Nat → Int32 → Int32 → Int32 → AH → Option (Int32 × AH)
  | 0, _, _, _, _, _ => none
  | n + 1, v0, v1, v2, v3, h =>
    ck (aK h v0 = 9) <|
    if (aI h v0 3) ≤ v3 then
      some ((iI (-1)), h)
    else
      ck (aK h v0 = 9) <|
      ck (aK h (aR h v0 0) = 20 ∧ ix v3 (aN h (aR h v0 0))) <|
      ck (aK h v0 = 9) <|
      bR (p_X7_shows v0 (aI h (aR h v0 0) v3.toNatClampNeg) h) fun r7 h8 =>
      if r7 = 0 then
        p_X7_shownLetter_40 (p_X7_shownLetter_4  n) v0 v1 v2 v3 h8
      else
        if v2 = v1 then
          ck (aK h8 v0 = 9) <|
          ck (aK h8 (aR h8 v0 0) = 20 ∧ ix v3 (aN h8 (aR h8 v0 0))) <|
          some ((aI h8 (aR h8 v0 0) v3.toNatClampNeg), h8)
        else
          nm (v2 + iI 1) fun (x11 : Int32) =>
          p_X7_shownLetter_40 (p_X7_shownLetter_4  n) v0 v1 x11 v3 h8
set_option maxHeartbeats 4000000 in
set_option maxRecDepth 100000 in
theorem s_X7_shownLetter_4 {p : Program} {l : Launch} {e : Env} {s : State} {m : MethodId} {args : Array Value} {below : List Frame} {meth : Method} {c : Code} {G : GG} {hs : AH} {r : Int32} {h' : AH} (C : Cx G hs p s m args meth c cX7_shownLetter 4 RX7 (.code yX7_shownLetter cX7_shownLetter 4 (some .int) :: MW) (some .int) "shownLetter")   : ∀ (n : Nat) (v0 : Nat) (v1 : Int32) (v2 : Int32) (v3 : Int32) (h : AH) (H : Heap) (locs : List Loc) (cells slots : Nat) (ls : Array Slot) (hR : Rp G h H) (hL : ∀ q ∈ locs, gB G ≤ q.base) (hl : zl ls 4 [(0, zr v0), (1, .int v1), (2, .int v2), (3, .int v3)]) (hp : p_X7_shownLetter_4  n v0 v1 v2 v3 h = some (r, h')), W p l e (gR G hs 3 82) s m args below meth c H locs cells slots (MQ below (Qcc G (some (.int r)) h') args s (gC G - aZ hs) (gS - aU hs) (fun q => gB G ≤ q)) (F0 m 4 ls []) := by
  obtain ⟨hx, hb, hml, hown, hts, hT, hK, rs, hlk, hret, hnm⟩ := id C
  have hm : ∀ w ∈ MW, w.before args s = true := fun w hw => hts w (hT w hw)
  intro n
  induction n with
  | zero =>
    intro v0 v1 v2 v3 h H locs cells slots ls hR hL hl hp
    exact absurd (show none = some (r, h') from hp) (by simp)
  | succ n ih =>
    intro v0 v1 v2 v3 h H locs cells slots ls hR hL hl hp
    rw [p_X7_shownLetter_4.eq_2] at hp
    refine lv_iload_n hx hb dX7_shownLetter_4 rfl (zl_at hl 3 rfl) ?_
    refine z_aload_n hx hb dX7_shownLetter_5 rfl (zl_at hl 0 rfl) ?_
    obtain ⟨k1, hp⟩ := ck_i hp
    refine r_get (ci := 8) (C := RX7) (T := TX7) (N := 4) (v := .int (aI h v0 3)) hx hb hm ii_X7 hown hK hR rfl k1 3 (by decide) (hm _ mw_117) (fun _ h9 => h9) rfl dX7_shownLetter_6 ?_
    refine lv_icmp_ge (tgt := 46) hx hb dX7_shownLetter_9 (by decide) (fun c2 => ?_) (fun c2 => ?_)
    · replace hp := ite_p hp c2
      refine lv_iconst (v := iI (-1)) hx hb dX7_shownLetter_46 rfl ?_
      cases hp
      exact r_zret C hR hL rfl dX7_shownLetter_47
    · replace hp := ite_n hp c2
      refine z_aload_n hx hb dX7_shownLetter_12 rfl (zl_at hl 0 rfl) ?_
      refine z_aload_n hx hb dX7_shownLetter_13 rfl (zl_at hl 0 rfl) ?_
      obtain ⟨k3, hp⟩ := ck_i hp
      refine r_get (ci := 8) (C := RX7) (T := TX7) (N := 4) (v := zr (aR h v0 0)) hx hb hm ii_X7 hown hK hR rfl k3 0 (by decide) (hm _ mw_114) (fun _ h9 => h9) rfl dX7_shownLetter_14 ?_
      refine lv_iload_n hx hb dX7_shownLetter_17 rfl (zl_at hl 3 rfl) ?_
      obtain ⟨k4, hp⟩ := ck_i hp
      refine r_iald hx hb hK hR k4.1 k4.2 dX7_shownLetter_18 ?_
      obtain ⟨k6, hp⟩ := ck_i hp
      obtain ⟨r7, h8, er7, hp⟩ := bR_i hp
      refine r_callV (ci := 8) (r := (RX7, TX7, 4)) (n := 1) (As := [.int (aI h (aR h v0 0) v3.toNatClampNeg)]) (rest := []) C (c_X7_shows l G v0 (aI h (aR h v0 0) v3.toNatClampNeg) h r7 h8 er7) hR hL rfl k6 mw_581 mw_280 mw_281 mw_8 mw_282 (by decide +kernel) (by decide) rfl (zl_size hl) rfl (by simp [zr_cat, in_cat]) dX7_shownLetter_19 (st2 := [.int r7]) rfl (fun H locs cells slots hR hL => ?_)
      refine lv_if_eq (tgt := 40) hx hb dX7_shownLetter_22 (by decide) (fun c9 => ?_) (fun c9 => ?_)
      · replace hp := ite_p hp c9
        exact s_X7_shownLetter_40 C (fun hR hL hl hp => ih _ _ _ _ _ _ _ _ _ _ hR hL hl hp) hR hL (zl_sub hl [0, 1, 2, 3] rfl) hp
      · replace hp := ite_n hp c9
        refine lv_iload_n hx hb dX7_shownLetter_25 rfl (zl_at hl 2 rfl) ?_
        refine lv_iload_n hx hb dX7_shownLetter_26 rfl (zl_at hl 1 rfl) ?_
        refine lv_icmp_ne (tgt := 37) hx hb dX7_shownLetter_27 (by decide) (fun c10 => ?_) (fun c10 => ?_)
        · replace hp := ite_n hp c10
          obtain ⟨x11, ex11⟩ : ∃ y : Int32, y = v2 + iI 1 := ⟨_, rfl⟩
          replace hp := nm_i hp ex11
          refine z_iinc (v := x11) (lv' := [(2, .int x11), (0, zr v0), (1, .int v1), (3, .int v3)]) hx hb dX7_shownLetter_37 hl (k := 2) rfl ex11 (by decide) rfl (fun ls hl => ?_)
          exact s_X7_shownLetter_40 C (fun hR hL hl hp => ih _ _ _ _ _ _ _ _ _ _ hR hL hl hp) hR hL (zl_sub hl [1, 2, 0, 3] rfl) hp
        · replace hp := ite_p hp c10
          refine z_aload_n hx hb dX7_shownLetter_30 rfl (zl_at hl 0 rfl) ?_
          obtain ⟨k12, hp⟩ := ck_i hp
          refine r_get (ci := 8) (C := RX7) (T := TX7) (N := 4) (v := zr (aR h8 v0 0)) hx hb hm ii_X7 hown hK hR rfl k12 0 (by decide) (hm _ mw_114) (fun _ h9 => h9) rfl dX7_shownLetter_31 ?_
          refine lv_iload_n hx hb dX7_shownLetter_34 rfl (zl_at hl 3 rfl) ?_
          obtain ⟨k13, hp⟩ := ck_i hp
          refine r_iald hx hb hK hR k13.1 k13.2 dX7_shownLetter_35 ?_
          cases hp
          exact r_zret C hR hL rfl dX7_shownLetter_36
def p_X7_shownLetter_0  (v0 : Nat) (v1 : Int32) (h : AH) : Option (Int32 × AH) :=
  nm ((iI 0)) fun (x1 : Int32) =>
  nm ((iI 0)) fun (x2 : Int32) =>
  p_X7_shownLetter_4  FU v0 v1 x1 x2 h
set_option maxHeartbeats 4000000 in
set_option maxRecDepth 100000 in
theorem s_X7_shownLetter_0 {p : Program} {l : Launch} {e : Env} {s : State} {m : MethodId} {args : Array Value} {below : List Frame} {meth : Method} {c : Code} {G : GG} {hs : AH} {r : Int32} {h' : AH} (C : Cx G hs p s m args meth c cX7_shownLetter 4 RX7 (.code yX7_shownLetter cX7_shownLetter 4 (some .int) :: MW) (some .int) "shownLetter")   {v0 : Nat} {v1 : Int32} {h : AH} {H : Heap} {locs : List Loc} {cells slots : Nat} {ls : Array Slot} (hR : Rp G h H) (hL : ∀ q ∈ locs, gB G ≤ q.base) (hl : zl ls 4 [(0, zr v0), (1, .int v1)]) (hp : p_X7_shownLetter_0  v0 v1 h = some (r, h')) : W p l e (gR G hs 3 82) s m args below meth c H locs cells slots (MQ below (Qcc G (some (.int r)) h') args s (gC G - aZ hs) (gS - aU hs) (fun q => gB G ≤ q)) (F0 m 0 ls []) := by
  obtain ⟨hx, hb, hml, hown, hts, hT, hK, rs, hlk, hret, hnm⟩ := id C
  have hm : ∀ w ∈ MW, w.before args s = true := fun w hw => hts w (hT w hw)
  unfold p_X7_shownLetter_0 at hp
  refine lv_iconst (v := iI 0) hx hb dX7_shownLetter_0 rfl ?_
  refine lv_topi (fun x1 ex1 => ?_)
  replace hp := nm_i hp ex1
  refine z_istore_n (lv' := [(2, .int x1), (0, zr v0), (1, .int v1)]) hx hb dX7_shownLetter_1 rfl hl (by decide) rfl (fun ls hl => ?_)
  refine lv_iconst (v := iI 0) hx hb dX7_shownLetter_2 rfl ?_
  refine lv_topi (fun x2 ex2 => ?_)
  replace hp := nm_i hp ex2
  refine z_istore_n (lv' := [(3, .int x2), (2, .int x1), (0, zr v0), (1, .int v1)]) hx hb dX7_shownLetter_3 rfl hl (by decide) rfl (fun ls hl => ?_)
  exact s_X7_shownLetter_4 C  _ _ _ _ _ _ _ _ _ _ _ hR hL (zl_sub hl [2, 3, 1, 0] rfl) hp
def p_X7_shownLetter (v0 : Nat) (v1 : Int32) (h : AH) : Option (Int32 × AH) := ck (v0 ≠ 0) <| p_X7_shownLetter_0 v0 v1 h
theorem c_X7_shownLetter (l : Launch) (G : GG) (v0 : Nat) (v1 : Int32) (h : AH) (r : Int32) (h' : AH) (hp : p_X7_shownLetter v0 v1 h = some (r, h')) : Ct l yX7_shownLetter (.code yX7_shownLetter cX7_shownLetter 4 (some .int) :: MW) G 3 82 [.ref (v0 - 1), .int v1] h (some (.int r)) h' := by
  obtain ⟨hz0, hp⟩ := ck_i hp
  refine Ct.of (by decide +kernel) (Nat.le_of_ble_eq_true rfl) ?_
  intro p e s m args below meth c C hR ls hl
  have hl : zl ls 4 [(0, zr v0), (1, .int v1)] := ⟨by rw [zr_p hz0]; exact hl, by simp [zr_cat, in_cat]⟩
  exact s_X7_shownLetter_0 C hR (fun _ hq => nomatch hq) hl hp
/-! CursorKeep$Row.put(IC)V -/
def p_X7_put_19   (h : AH) : Option (Unit × AH) :=
  some ((), h)
set_option maxHeartbeats 4000000 in
set_option maxRecDepth 100000 in
theorem s_X7_put_19 {p : Program} {l : Launch} {e : Env} {s : State} {m : MethodId} {args : Array Value} {below : List Frame} {meth : Method} {c : Code} {G : GG} {hs : AH} {r : Unit} {h' : AH} (C : Cx G hs p s m args meth c cX7_put 3 RX7 (.code yX7_put cX7_put 3 none :: MW) none "put")    {h : AH} {H : Heap} {locs : List Loc} {cells slots : Nat} {ls : Array Slot} (hR : Rp G h H) (hL : ∀ q ∈ locs, gB G ≤ q.base) (hl : zl ls 3 []) (hp : p_X7_put_19   h = some (r, h')) : W p l e (gR G hs 2 60) s m args below meth c H locs cells slots (MQ below (Qcc G (none) h') args s (gC G - aZ hs) (gS - aU hs) (fun q => gB G ≤ q)) (F0 m 19 ls []) := by
  obtain ⟨hx, hb, hml, hown, hts, hT, hK, rs, hlk, hret, hnm⟩ := id C
  have hm : ∀ w ∈ MW, w.before args s = true := fun w hw => hts w (hT w hw)
  unfold p_X7_put_19 at hp
  cases hp
  exact r_vret C hR hL dX7_put_19
def p_X7_put_0  (v0 : Nat) (v1 : Int32) (v2 : Int32) (h : AH) : Option (Unit × AH) :=
  ck (aK h v0 = 9) <|
  bR (p_X7_isFull v0 h) fun r2 h3 =>
  if r2 = 0 then
    if v1 < 0 then
      p_X7_put_19   h3
    else
      ck (aK h3 v0 = 9) <|
      if v1 ≤ (aI h3 v0 3) then
        ck (aK h3 v0 = 9) <|
        ck (aK h3 v0 = 9) <|
        ck (aK h3 v0 = 9) <|
        ck ((0 ≤ v1 ∧ 0 ≤ (v1 + (iI 1)) ∧ 0 ≤ ((aI h3 v0 3) - v1)) ∧ okCp h3 20 (aR h3 v0 0) v1.toNatClampNeg (aR h3 v0 0) (v1 + (iI 1)).toNatClampNeg ((aI h3 v0 3) - v1).toNatClampNeg) <|
        nm (uCI h3 (aR h3 v0 0) v1.toNatClampNeg (aR h3 v0 0) (v1 + (iI 1)).toNatClampNeg ((aI h3 v0 3) - v1).toNatClampNeg) fun h13 =>
        ck (aK h13 v0 = 9) <|
        ck (aK h13 v0 = 9) <|
        ck (aK h13 (aR h13 v0 0) = 20 ∧ ix v1 (aN h13 (aR h13 v0 0))) <|
        nm (uI h13 (aR h13 v0 0) v1.toNatClampNeg (aI h13 v0 3)) fun h18 =>
        ck (aK h18 v0 = 9) <|
        ck (aK h18 v0 = 9) <|
        ck (aK h18 (aR h18 v0 1) = 21 ∧ ix (aI h18 v0 3) (aN h18 (aR h18 v0 1))) <|
        nm (uI h18 (aR h18 v0 1) (aI h18 v0 3).toNatClampNeg (nC v2)) fun h23 =>
        ck (aK h23 v0 = 9) <|
        ck (aK h23 v0 = 9) <|
        ck (aK h23 (aR h23 v0 2) = 22 ∧ ix (aI h23 v0 3) (aN h23 (aR h23 v0 2))) <|
        nm (uI h23 (aR h23 v0 2) (aI h23 v0 3).toNatClampNeg (nZ (iI 1))) fun h28 =>
        ck (aK h28 v0 = 9) <|
        ck (aK h28 v0 = 9) <|
        nm (uI h28 v0 3 ((aI h28 v0 3) + (iI 1))) fun h31 =>
        some ((), h31)
      else
        p_X7_put_19   h3
  else
    p_X7_put_19   h3
set_option maxHeartbeats 4000000 in
set_option maxRecDepth 100000 in
theorem s_X7_put_0 {p : Program} {l : Launch} {e : Env} {s : State} {m : MethodId} {args : Array Value} {below : List Frame} {meth : Method} {c : Code} {G : GG} {hs : AH} {r : Unit} {h' : AH} (C : Cx G hs p s m args meth c cX7_put 3 RX7 (.code yX7_put cX7_put 3 none :: MW) none "put")   {v0 : Nat} {v1 : Int32} {v2 : Int32} {h : AH} {H : Heap} {locs : List Loc} {cells slots : Nat} {ls : Array Slot} (hR : Rp G h H) (hL : ∀ q ∈ locs, gB G ≤ q.base) (hl : zl ls 3 [(0, zr v0), (1, .int v1), (2, .int v2)]) (hp : p_X7_put_0  v0 v1 v2 h = some (r, h')) : W p l e (gR G hs 2 60) s m args below meth c H locs cells slots (MQ below (Qcc G (none) h') args s (gC G - aZ hs) (gS - aU hs) (fun q => gB G ≤ q)) (F0 m 0 ls []) := by
  obtain ⟨hx, hb, hml, hown, hts, hT, hK, rs, hlk, hret, hnm⟩ := id C
  have hm : ∀ w ∈ MW, w.before args s = true := fun w hw => hts w (hT w hw)
  unfold p_X7_put_0 at hp
  refine z_aload_n hx hb dX7_put_0 rfl (zl_at hl 0 rfl) ?_
  obtain ⟨k1, hp⟩ := ck_i hp
  obtain ⟨r2, h3, er2, hp⟩ := bR_i hp
  refine r_callV (ci := 8) (r := (RX7, TX7, 4)) (n := 0) (As := []) (rest := []) C (c_X7_isFull l G v0 h r2 h3 er2) hR hL rfl k1 mw_468 mw_407 mw_408 mw_8 mw_409 (by decide +kernel) (by decide) rfl (zl_size hl) rfl (by simp [zr_cat, in_cat]) dX7_put_1 (st2 := [.int r2]) rfl (fun H locs cells slots hR hL => ?_)
  refine lv_if_ne (tgt := 19) hx hb dX7_put_4 (by decide) (fun c4 => ?_) (fun c4 => ?_)
  · replace hp := ite_n hp c4
    exact s_X7_put_19 C  hR hL (zl_sub hl [] rfl) hp
  · replace hp := ite_p hp c4
    refine lv_iload_n hx hb dX7_put_7 rfl (zl_at hl 1 rfl) ?_
    refine lv_if_lt (tgt := 19) hx hb dX7_put_8 (by decide) (fun c5 => ?_) (fun c5 => ?_)
    · replace hp := ite_p hp c5
      exact s_X7_put_19 C  hR hL (zl_sub hl [] rfl) hp
    · replace hp := ite_n hp c5
      refine lv_iload_n hx hb dX7_put_11 rfl (zl_at hl 1 rfl) ?_
      refine z_aload_n hx hb dX7_put_12 rfl (zl_at hl 0 rfl) ?_
      obtain ⟨k6, hp⟩ := ck_i hp
      refine r_get (ci := 8) (C := RX7) (T := TX7) (N := 4) (v := .int (aI h3 v0 3)) hx hb hm ii_X7 hown hK hR rfl k6 3 (by decide) (hm _ mw_117) (fun _ h9 => h9) rfl dX7_put_13 ?_
      refine lv_icmp_le (tgt := 20) hx hb dX7_put_16 (by decide) (fun c7 => ?_) (fun c7 => ?_)
      · replace hp := ite_p hp c7
        refine z_aload_n hx hb dX7_put_20 rfl (zl_at hl 0 rfl) ?_
        obtain ⟨k8, hp⟩ := ck_i hp
        refine r_get (ci := 8) (C := RX7) (T := TX7) (N := 4) (v := zr (aR h3 v0 0)) hx hb hm ii_X7 hown hK hR rfl k8 0 (by decide) (hm _ mw_114) (fun _ h9 => h9) rfl dX7_put_21 ?_
        refine lv_iload_n hx hb dX7_put_24 rfl (zl_at hl 1 rfl) ?_
        refine z_aload_n hx hb dX7_put_25 rfl (zl_at hl 0 rfl) ?_
        obtain ⟨k9, hp⟩ := ck_i hp
        refine r_get (ci := 8) (C := RX7) (T := TX7) (N := 4) (v := zr (aR h3 v0 0)) hx hb hm ii_X7 hown hK hR rfl k9 0 (by decide) (hm _ mw_114) (fun _ h9 => h9) rfl dX7_put_26 ?_
        refine lv_iload_n hx hb dX7_put_29 rfl (zl_at hl 1 rfl) ?_
        refine lv_iconst (v := iI 1) hx hb dX7_put_30 rfl ?_
        refine lv_iadd hx hb dX7_put_31 ?_
        refine z_aload_n hx hb dX7_put_32 rfl (zl_at hl 0 rfl) ?_
        obtain ⟨k10, hp⟩ := ck_i hp
        refine r_get (ci := 8) (C := RX7) (T := TX7) (N := 4) (v := .int (aI h3 v0 3)) hx hb hm ii_X7 hown hK hR rfl k10 3 (by decide) (hm _ mw_117) (fun _ h9 => h9) rfl dX7_put_33 ?_
        refine lv_iload_n hx hb dX7_put_36 rfl (zl_at hl 1 rfl) ?_
        refine lv_isub hx hb dX7_put_37 ?_
        obtain ⟨k11, hp⟩ := ck_i hp
        refine r_copyI C hR hL k11 (hm _ mw_469) (hm _ mw_266) (hm _ mw_265) (hm _ mw_18) (zl_size hl) (by decide) (by simp [zr_cat, in_cat]) (by decide +kernel) dX7_put_38 (fun H locs hR hL => ?_)
        obtain ⟨h13, hp, hR⟩ := nm_h hp hR
        refine z_aload_n hx hb dX7_put_41 rfl (zl_at hl 0 rfl) ?_
        obtain ⟨k14, hp⟩ := ck_i hp
        refine r_get (ci := 8) (C := RX7) (T := TX7) (N := 4) (v := zr (aR h13 v0 0)) hx hb hm ii_X7 hown hK hR rfl k14 0 (by decide) (hm _ mw_114) (fun _ h9 => h9) rfl dX7_put_42 ?_
        refine lv_iload_n hx hb dX7_put_45 rfl (zl_at hl 1 rfl) ?_
        refine z_aload_n hx hb dX7_put_46 rfl (zl_at hl 0 rfl) ?_
        obtain ⟨k15, hp⟩ := ck_i hp
        refine r_get (ci := 8) (C := RX7) (T := TX7) (N := 4) (v := .int (aI h13 v0 3)) hx hb hm ii_X7 hown hK hR rfl k15 3 (by decide) (hm _ mw_117) (fun _ h9 => h9) rfl dX7_put_47 ?_
        obtain ⟨k16, hp⟩ := ck_i hp
        refine r_iast hx hb hK hR hL k16.1 k16.2 dX7_put_50 (fun H locs hR hL => ?_)
        obtain ⟨h18, hp, hR⟩ := nm_h hp hR
        refine z_aload_n hx hb dX7_put_51 rfl (zl_at hl 0 rfl) ?_
        obtain ⟨k19, hp⟩ := ck_i hp
        refine r_get (ci := 8) (C := RX7) (T := TX7) (N := 4) (v := zr (aR h18 v0 1)) hx hb hm ii_X7 hown hK hR rfl k19 1 (by decide) (hm _ mw_115) (fun _ h9 => h9) rfl dX7_put_52 ?_
        refine z_aload_n hx hb dX7_put_55 rfl (zl_at hl 0 rfl) ?_
        obtain ⟨k20, hp⟩ := ck_i hp
        refine r_get (ci := 8) (C := RX7) (T := TX7) (N := 4) (v := .int (aI h18 v0 3)) hx hb hm ii_X7 hown hK hR rfl k20 3 (by decide) (hm _ mw_117) (fun _ h9 => h9) rfl dX7_put_56 ?_
        refine lv_iload_n hx hb dX7_put_59 rfl (zl_at hl 2 rfl) ?_
        obtain ⟨k21, hp⟩ := ck_i hp
        refine r_cast hx hb hK hR hL k21.1 k21.2 dX7_put_60 (fun H locs hR hL => ?_)
        obtain ⟨h23, hp, hR⟩ := nm_h hp hR
        refine z_aload_n hx hb dX7_put_61 rfl (zl_at hl 0 rfl) ?_
        obtain ⟨k24, hp⟩ := ck_i hp
        refine r_get (ci := 8) (C := RX7) (T := TX7) (N := 4) (v := zr (aR h23 v0 2)) hx hb hm ii_X7 hown hK hR rfl k24 2 (by decide) (hm _ mw_116) (fun _ h9 => h9) rfl dX7_put_62 ?_
        refine z_aload_n hx hb dX7_put_65 rfl (zl_at hl 0 rfl) ?_
        obtain ⟨k25, hp⟩ := ck_i hp
        refine r_get (ci := 8) (C := RX7) (T := TX7) (N := 4) (v := .int (aI h23 v0 3)) hx hb hm ii_X7 hown hK hR rfl k25 3 (by decide) (hm _ mw_117) (fun _ h9 => h9) rfl dX7_put_66 ?_
        refine lv_iconst (v := iI 1) hx hb dX7_put_69 rfl ?_
        obtain ⟨k26, hp⟩ := ck_i hp
        refine r_zast hx hb hK hR hL k26.1 k26.2 dX7_put_70 (fun H locs hR hL => ?_)
        obtain ⟨h28, hp, hR⟩ := nm_h hp hR
        refine z_aload_n hx hb dX7_put_71 rfl (zl_at hl 0 rfl) ?_
        refine lv_dup hx hb dX7_put_72 (zr_cat _) ?_
        obtain ⟨k29, hp⟩ := ck_i hp
        refine r_get (ci := 8) (C := RX7) (T := TX7) (N := 4) (v := .int (aI h28 v0 3)) hx hb hm ii_X7 hown hK hR rfl k29 3 (by decide) (hm _ mw_117) (fun _ h9 => h9) rfl dX7_put_73 ?_
        refine lv_iconst (v := iI 1) hx hb dX7_put_76 rfl ?_
        refine lv_iadd hx hb dX7_put_77 ?_
        obtain ⟨k30, hp⟩ := ck_i hp
        refine r_putI (ci := 8) (C := RX7) (T := TX7) (N := 4) hx hb hm ii_X7 tyX7_ok nmX7 hown hK hR hL rfl k30 3 (by decide) (hm _ mw_117) (fun _ h9 => h9) (Or.inl rfl) rfl rfl (fun _ _ _ => rfl) dX7_put_78 (fun H locs hR hL => ?_)
        obtain ⟨h31, hp, hR⟩ := nm_h hp hR
        cases hp
        exact r_vret C hR hL dX7_put_81
      · replace hp := ite_n hp c7
        exact s_X7_put_19 C  hR hL (zl_sub hl [] rfl) hp
def p_X7_put (v0 : Nat) (v1 : Int32) (v2 : Int32) (h : AH) : Option (Unit × AH) := ck (v0 ≠ 0) <| p_X7_put_0 v0 v1 v2 h
theorem c_X7_put (l : Launch) (G : GG) (v0 : Nat) (v1 : Int32) (v2 : Int32) (h : AH) (r : Unit) (h' : AH) (hp : p_X7_put v0 v1 v2 h = some (r, h')) : Ct l yX7_put (.code yX7_put cX7_put 3 none :: MW) G 2 60 [.ref (v0 - 1), .int v1, .int v2] h (none) h' := by
  obtain ⟨hz0, hp⟩ := ck_i hp
  refine Ct.of (by decide +kernel) (Nat.le_of_ble_eq_true rfl) ?_
  intro p e s m args below meth c C hR ls hl
  have hl : zl ls 3 [(0, zr v0), (1, .int v1), (2, .int v2)] := ⟨by rw [zr_p hz0]; exact hl, by simp [zr_cat, in_cat]⟩
  exact s_X7_put_0 C hR (fun _ hq => nomatch hq) hl hp
/-! CursorKeep$Row.setThere(IZ)V -/
def p_X7_setThere_15   (h : AH) : Option (Unit × AH) :=
  some ((), h)
set_option maxHeartbeats 4000000 in
set_option maxRecDepth 100000 in
theorem s_X7_setThere_15 {p : Program} {l : Launch} {e : Env} {s : State} {m : MethodId} {args : Array Value} {below : List Frame} {meth : Method} {c : Code} {G : GG} {hs : AH} {r : Unit} {h' : AH} (C : Cx G hs p s m args meth c cX7_setThere 3 RX7 (.code yX7_setThere cX7_setThere 3 none :: MW) none "setThere")    {h : AH} {H : Heap} {locs : List Loc} {cells slots : Nat} {ls : Array Slot} (hR : Rp G h H) (hL : ∀ q ∈ locs, gB G ≤ q.base) (hl : zl ls 3 []) (hp : p_X7_setThere_15   h = some (r, h')) : W p l e (gR G hs 2 61) s m args below meth c H locs cells slots (MQ below (Qcc G (none) h') args s (gC G - aZ hs) (gS - aU hs) (fun q => gB G ≤ q)) (F0 m 15 ls []) := by
  obtain ⟨hx, hb, hml, hown, hts, hT, hK, rs, hlk, hret, hnm⟩ := id C
  have hm : ∀ w ∈ MW, w.before args s = true := fun w hw => hts w (hT w hw)
  unfold p_X7_setThere_15 at hp
  cases hp
  exact r_vret C hR hL dX7_setThere_15
def p_X7_setThere_0  (v0 : Nat) (v1 : Int32) (v2 : Int32) (h : AH) : Option (Unit × AH) :=
  ck (aK h v0 = 9) <|
  bR (p_X7_has v0 v1 h) fun r2 h3 =>
  if r2 = 0 then
    p_X7_setThere_15   h3
  else
    ck (aK h3 v0 = 9) <|
    ck (aK h3 (aR h3 v0 2) = 22 ∧ ix v1 (aN h3 (aR h3 v0 2))) <|
    nm (uI h3 (aR h3 v0 2) v1.toNatClampNeg (nZ v2)) fun h8 =>
    p_X7_setThere_15   h8
set_option maxHeartbeats 4000000 in
set_option maxRecDepth 100000 in
theorem s_X7_setThere_0 {p : Program} {l : Launch} {e : Env} {s : State} {m : MethodId} {args : Array Value} {below : List Frame} {meth : Method} {c : Code} {G : GG} {hs : AH} {r : Unit} {h' : AH} (C : Cx G hs p s m args meth c cX7_setThere 3 RX7 (.code yX7_setThere cX7_setThere 3 none :: MW) none "setThere")   {v0 : Nat} {v1 : Int32} {v2 : Int32} {h : AH} {H : Heap} {locs : List Loc} {cells slots : Nat} {ls : Array Slot} (hR : Rp G h H) (hL : ∀ q ∈ locs, gB G ≤ q.base) (hl : zl ls 3 [(0, zr v0), (1, .int v1), (2, .int v2)]) (hp : p_X7_setThere_0  v0 v1 v2 h = some (r, h')) : W p l e (gR G hs 2 61) s m args below meth c H locs cells slots (MQ below (Qcc G (none) h') args s (gC G - aZ hs) (gS - aU hs) (fun q => gB G ≤ q)) (F0 m 0 ls []) := by
  obtain ⟨hx, hb, hml, hown, hts, hT, hK, rs, hlk, hret, hnm⟩ := id C
  have hm : ∀ w ∈ MW, w.before args s = true := fun w hw => hts w (hT w hw)
  unfold p_X7_setThere_0 at hp
  refine z_aload_n hx hb dX7_setThere_0 rfl (zl_at hl 0 rfl) ?_
  refine lv_iload_n hx hb dX7_setThere_1 rfl (zl_at hl 1 rfl) ?_
  obtain ⟨k1, hp⟩ := ck_i hp
  obtain ⟨r2, h3, er2, hp⟩ := bR_i hp
  refine r_callV (ci := 8) (r := (RX7, TX7, 4)) (n := 1) (As := [.int v1]) (rest := []) C (c_X7_has l G v0 v1 h r2 h3 er2) hR hL rfl k1 mw_283 mw_284 mw_285 mw_8 mw_286 (by decide +kernel) (by decide) rfl (zl_size hl) rfl (by simp [zr_cat, in_cat]) dX7_setThere_2 (st2 := [.int r2]) rfl (fun H locs cells slots hR hL => ?_)
  refine lv_if_eq (tgt := 15) hx hb dX7_setThere_5 (by decide) (fun c4 => ?_) (fun c4 => ?_)
  · replace hp := ite_p hp c4
    exact s_X7_setThere_15 C  hR hL (zl_sub hl [] rfl) hp
  · replace hp := ite_n hp c4
    refine z_aload_n hx hb dX7_setThere_8 rfl (zl_at hl 0 rfl) ?_
    obtain ⟨k5, hp⟩ := ck_i hp
    refine r_get (ci := 8) (C := RX7) (T := TX7) (N := 4) (v := zr (aR h3 v0 2)) hx hb hm ii_X7 hown hK hR rfl k5 2 (by decide) (hm _ mw_116) (fun _ h9 => h9) rfl dX7_setThere_9 ?_
    refine lv_iload_n hx hb dX7_setThere_12 rfl (zl_at hl 1 rfl) ?_
    refine lv_iload_n hx hb dX7_setThere_13 rfl (zl_at hl 2 rfl) ?_
    obtain ⟨k6, hp⟩ := ck_i hp
    refine r_zast hx hb hK hR hL k6.1 k6.2 dX7_setThere_14 (fun H locs hR hL => ?_)
    obtain ⟨h8, hp, hR⟩ := nm_h hp hR
    exact s_X7_setThere_15 C  hR hL (zl_sub hl [] rfl) hp
def p_X7_setThere (v0 : Nat) (v1 : Int32) (v2 : Int32) (h : AH) : Option (Unit × AH) := ck (v0 ≠ 0) <| p_X7_setThere_0 v0 v1 v2 h
theorem c_X7_setThere (l : Launch) (G : GG) (v0 : Nat) (v1 : Int32) (v2 : Int32) (h : AH) (r : Unit) (h' : AH) (hp : p_X7_setThere v0 v1 v2 h = some (r, h')) : Ct l yX7_setThere (.code yX7_setThere cX7_setThere 3 none :: MW) G 2 61 [.ref (v0 - 1), .int v1, .int v2] h (none) h' := by
  obtain ⟨hz0, hp⟩ := ck_i hp
  refine Ct.of (by decide +kernel) (Nat.le_of_ble_eq_true rfl) ?_
  intro p e s m args below meth c C hR ls hl
  have hl : zl ls 3 [(0, zr v0), (1, .int v1), (2, .int v2)] := ⟨by rw [zr_p hz0]; exact hl, by simp [zr_cat, in_cat]⟩
  exact s_X7_setThere_0 C hR (fun _ hq => nomatch hq) hl hp
/-! CursorKeep$Row.setSign(IC)V -/
def p_X7_setSign_15   (h : AH) : Option (Unit × AH) :=
  some ((), h)
set_option maxHeartbeats 4000000 in
set_option maxRecDepth 100000 in
theorem s_X7_setSign_15 {p : Program} {l : Launch} {e : Env} {s : State} {m : MethodId} {args : Array Value} {below : List Frame} {meth : Method} {c : Code} {G : GG} {hs : AH} {r : Unit} {h' : AH} (C : Cx G hs p s m args meth c cX7_setSign 3 RX7 (.code yX7_setSign cX7_setSign 3 none :: MW) none "setSign")    {h : AH} {H : Heap} {locs : List Loc} {cells slots : Nat} {ls : Array Slot} (hR : Rp G h H) (hL : ∀ q ∈ locs, gB G ≤ q.base) (hl : zl ls 3 []) (hp : p_X7_setSign_15   h = some (r, h')) : W p l e (gR G hs 2 61) s m args below meth c H locs cells slots (MQ below (Qcc G (none) h') args s (gC G - aZ hs) (gS - aU hs) (fun q => gB G ≤ q)) (F0 m 15 ls []) := by
  obtain ⟨hx, hb, hml, hown, hts, hT, hK, rs, hlk, hret, hnm⟩ := id C
  have hm : ∀ w ∈ MW, w.before args s = true := fun w hw => hts w (hT w hw)
  unfold p_X7_setSign_15 at hp
  cases hp
  exact r_vret C hR hL dX7_setSign_15
def p_X7_setSign_0  (v0 : Nat) (v1 : Int32) (v2 : Int32) (h : AH) : Option (Unit × AH) :=
  ck (aK h v0 = 9) <|
  bR (p_X7_has v0 v1 h) fun r2 h3 =>
  if r2 = 0 then
    p_X7_setSign_15   h3
  else
    ck (aK h3 v0 = 9) <|
    ck (aK h3 (aR h3 v0 1) = 21 ∧ ix v1 (aN h3 (aR h3 v0 1))) <|
    nm (uI h3 (aR h3 v0 1) v1.toNatClampNeg (nC v2)) fun h8 =>
    p_X7_setSign_15   h8
set_option maxHeartbeats 4000000 in
set_option maxRecDepth 100000 in
theorem s_X7_setSign_0 {p : Program} {l : Launch} {e : Env} {s : State} {m : MethodId} {args : Array Value} {below : List Frame} {meth : Method} {c : Code} {G : GG} {hs : AH} {r : Unit} {h' : AH} (C : Cx G hs p s m args meth c cX7_setSign 3 RX7 (.code yX7_setSign cX7_setSign 3 none :: MW) none "setSign")   {v0 : Nat} {v1 : Int32} {v2 : Int32} {h : AH} {H : Heap} {locs : List Loc} {cells slots : Nat} {ls : Array Slot} (hR : Rp G h H) (hL : ∀ q ∈ locs, gB G ≤ q.base) (hl : zl ls 3 [(0, zr v0), (1, .int v1), (2, .int v2)]) (hp : p_X7_setSign_0  v0 v1 v2 h = some (r, h')) : W p l e (gR G hs 2 61) s m args below meth c H locs cells slots (MQ below (Qcc G (none) h') args s (gC G - aZ hs) (gS - aU hs) (fun q => gB G ≤ q)) (F0 m 0 ls []) := by
  obtain ⟨hx, hb, hml, hown, hts, hT, hK, rs, hlk, hret, hnm⟩ := id C
  have hm : ∀ w ∈ MW, w.before args s = true := fun w hw => hts w (hT w hw)
  unfold p_X7_setSign_0 at hp
  refine z_aload_n hx hb dX7_setSign_0 rfl (zl_at hl 0 rfl) ?_
  refine lv_iload_n hx hb dX7_setSign_1 rfl (zl_at hl 1 rfl) ?_
  obtain ⟨k1, hp⟩ := ck_i hp
  obtain ⟨r2, h3, er2, hp⟩ := bR_i hp
  refine r_callV (ci := 8) (r := (RX7, TX7, 4)) (n := 1) (As := [.int v1]) (rest := []) C (c_X7_has l G v0 v1 h r2 h3 er2) hR hL rfl k1 mw_283 mw_284 mw_285 mw_8 mw_286 (by decide +kernel) (by decide) rfl (zl_size hl) rfl (by simp [zr_cat, in_cat]) dX7_setSign_2 (st2 := [.int r2]) rfl (fun H locs cells slots hR hL => ?_)
  refine lv_if_eq (tgt := 15) hx hb dX7_setSign_5 (by decide) (fun c4 => ?_) (fun c4 => ?_)
  · replace hp := ite_p hp c4
    exact s_X7_setSign_15 C  hR hL (zl_sub hl [] rfl) hp
  · replace hp := ite_n hp c4
    refine z_aload_n hx hb dX7_setSign_8 rfl (zl_at hl 0 rfl) ?_
    obtain ⟨k5, hp⟩ := ck_i hp
    refine r_get (ci := 8) (C := RX7) (T := TX7) (N := 4) (v := zr (aR h3 v0 1)) hx hb hm ii_X7 hown hK hR rfl k5 1 (by decide) (hm _ mw_115) (fun _ h9 => h9) rfl dX7_setSign_9 ?_
    refine lv_iload_n hx hb dX7_setSign_12 rfl (zl_at hl 1 rfl) ?_
    refine lv_iload_n hx hb dX7_setSign_13 rfl (zl_at hl 2 rfl) ?_
    obtain ⟨k6, hp⟩ := ck_i hp
    refine r_cast hx hb hK hR hL k6.1 k6.2 dX7_setSign_14 (fun H locs hR hL => ?_)
    obtain ⟨h8, hp, hR⟩ := nm_h hp hR
    exact s_X7_setSign_15 C  hR hL (zl_sub hl [] rfl) hp
def p_X7_setSign (v0 : Nat) (v1 : Int32) (v2 : Int32) (h : AH) : Option (Unit × AH) := ck (v0 ≠ 0) <| p_X7_setSign_0 v0 v1 v2 h
theorem c_X7_setSign (l : Launch) (G : GG) (v0 : Nat) (v1 : Int32) (v2 : Int32) (h : AH) (r : Unit) (h' : AH) (hp : p_X7_setSign v0 v1 v2 h = some (r, h')) : Ct l yX7_setSign (.code yX7_setSign cX7_setSign 3 none :: MW) G 2 61 [.ref (v0 - 1), .int v1, .int v2] h (none) h' := by
  obtain ⟨hz0, hp⟩ := ck_i hp
  refine Ct.of (by decide +kernel) (Nat.le_of_ble_eq_true rfl) ?_
  intro p e s m args below meth c C hR ls hl
  have hl : zl ls 3 [(0, zr v0), (1, .int v1), (2, .int v2)] := ⟨by rw [zr_p hz0]; exact hl, by simp [zr_cat, in_cat]⟩
  exact s_X7_setSign_0 C hR (fun _ hq => nomatch hq) hl hp
