/-! CursorKeep$Act.<init>(LCursorKeep$Text;IZ)V -/
def p_X0_init_0  (v0 : Nat) (v1 : Nat) (v2 : Int32) (v3 : Int32) (h : AH) : Option (Unit × AH) :=
  ck (v0 ≠ 0) <|
  ck (aK h v0 = 2) <|
  nm (uR h v0 0 v1) fun h3 =>
  ck (aK h3 v0 = 2) <|
  nm (uI h3 v0 1 v2) fun h5 =>
  ck (aK h5 v0 = 2) <|
  ck (okZ v3) <|
  nm (uI h5 v0 2 v3) fun h8 =>
  some ((), h8)
set_option maxHeartbeats 4000000 in
set_option maxRecDepth 100000 in
theorem s_X0_init_0 {p : Program} {l : Launch} {e : Env} {s : State} {m : MethodId} {args : Array Value} {below : List Frame} {meth : Method} {c : Code} {G : GG} {hs : AH} {r : Unit} {h' : AH} (C : Cx G hs p s m args meth c cX0_init 4 RX0 (.code yX0_init cX0_init 4 none :: MW) none "<init>")   {v0 : Nat} {v1 : Nat} {v2 : Int32} {v3 : Int32} {h : AH} {H : Heap} {locs : List Loc} {cells slots : Nat} {ls : Array Slot} (hR : Rp G h H) (hL : ∀ q ∈ locs, gB G ≤ q.base) (hl : zl ls 4 [(0, zr v0), (1, zr v1), (2, .int v2), (3, .int v3)]) (hp : p_X0_init_0  v0 v1 v2 v3 h = some (r, h')) : W p l e (gR G hs 1 40) s m args below meth c H locs cells slots (MQ below (Qcc G (none) h') args s (gC G - aZ hs) (gS - aU hs) (fun q => gB G ≤ q)) (F0 m 0 ls []) := by
  obtain ⟨hx, hb, hml, hown, hts, hT, hK, rs, hlk, hret, hnm⟩ := id C
  have hm : ∀ w ∈ MW, w.before args s = true := fun w hw => hts w (hT w hw)
  unfold p_X0_init_0 at hp
  refine z_aload_n hx hb dX0_init_0 rfl (zl_at hl 0 rfl) ?_
  obtain ⟨k1, hp⟩ := ck_i hp
  refine r_objInit C k1 (hm _ mw_548) (hm _ mw_33) (hm _ mw_34) (zl_size hl) dX0_init_1 (by decide) (by simp [zr_cat, in_cat]) ?_
  refine z_aload_n hx hb dX0_init_4 rfl (zl_at hl 0 rfl) ?_
  refine z_aload_n hx hb dX0_init_5 rfl (zl_at hl 1 rfl) ?_
  obtain ⟨k2, hp⟩ := ck_i hp
  refine r_putR (ci := 1) (C := RX0) (T := TX0) (N := 3) hx hb hm ii_X0 tyX0_ok nmX0 hown hK hR hL rfl k2 0 (by decide) (hm _ mw_549) (fun _ h9 => h9) (Or.inr ⟨rfl, hnm, rfl⟩) (zr_fitsO _ _) (fun _ _ _ => rfl) dX0_init_6 (fun H locs hR hL => ?_)
  obtain ⟨h3, hp, hR⟩ := nm_h hp hR
  refine z_aload_n hx hb dX0_init_9 rfl (zl_at hl 0 rfl) ?_
  refine lv_iload_n hx hb dX0_init_10 rfl (zl_at hl 2 rfl) ?_
  obtain ⟨k4, hp⟩ := ck_i hp
  refine r_putI (ci := 1) (C := RX0) (T := TX0) (N := 3) hx hb hm ii_X0 tyX0_ok nmX0 hown hK hR hL rfl k4 1 (by decide) (hm _ mw_551) (fun _ h9 => h9) (Or.inr ⟨rfl, hnm, rfl⟩) rfl rfl (fun _ _ _ => rfl) dX0_init_11 (fun H locs hR hL => ?_)
  obtain ⟨h5, hp, hR⟩ := nm_h hp hR
  refine z_aload_n hx hb dX0_init_14 rfl (zl_at hl 0 rfl) ?_
  refine lv_iload_n hx hb dX0_init_15 rfl (zl_at hl 3 rfl) ?_
  obtain ⟨k6, hp⟩ := ck_i hp
  obtain ⟨k7, hp⟩ := ck_i hp
  refine r_putI (ci := 1) (C := RX0) (T := TX0) (N := 3) hx hb hm ii_X0 tyX0_ok nmX0 hown hK hR hL rfl k6 2 (by decide) (hm _ mw_553) (fun _ h9 => h9) (Or.inr ⟨rfl, hnm, rfl⟩) (okZ_n k7) (okZ_f k7) (fun _ _ _ => rfl) dX0_init_16 (fun H locs hR hL => ?_)
  obtain ⟨h8, hp, hR⟩ := nm_h hp hR
  cases hp
  exact r_vret C hR hL dX0_init_19
def p_X0_init (v0 : Nat) (v1 : Nat) (v2 : Int32) (v3 : Int32) (h : AH) : Option (Unit × AH) := ck (v0 ≠ 0) <| ck (v1 ≠ 0) <| p_X0_init_0 v0 v1 v2 v3 h
theorem c_X0_init (l : Launch) (G : GG) (v0 : Nat) (v1 : Nat) (v2 : Int32) (v3 : Int32) (h : AH) (r : Unit) (h' : AH) (hp : p_X0_init v0 v1 v2 v3 h = some (r, h')) : Ct l yX0_init (.code yX0_init cX0_init 4 none :: MW) G 1 40 [.ref (v0 - 1), zr v1, .int v2, .int v3] h (none) h' := by
  obtain ⟨hz0, hp⟩ := ck_i hp
  obtain ⟨hz1, hp⟩ := ck_i hp
  rw [show zr v1 = .ref (v1 - 1) from zr_p hz1]
  refine Ct.of (by decide +kernel) (Nat.le_of_ble_eq_true rfl) ?_
  intro p e s m args below meth c C hR ls hl
  have hl : zl ls 4 [(0, zr v0), (1, zr v1), (2, .int v2), (3, .int v3)] := ⟨by rw [zr_p hz0, zr_p hz1]; exact hl, by simp [zr_cat, in_cat]⟩
  exact s_X0_init_0 C hR (fun _ hq => nomatch hq) hl hp
/-! CursorKeep$Change.<init>(ICCII)V -/
def p_X1_init_0  (v0 : Nat) (v1 : Int32) (v2 : Int32) (v3 : Int32) (v4 : Int32) (v5 : Int32) (h : AH) : Option (Unit × AH) :=
  ck (v0 ≠ 0) <|
  ck (aK h v0 = 3) <|
  nm (uI h v0 0 v1) fun h3 =>
  ck (aK h3 v0 = 3) <|
  ck (okC v2) <|
  nm (uI h3 v0 1 v2) fun h6 =>
  ck (aK h6 v0 = 3) <|
  ck (okC v3) <|
  nm (uI h6 v0 2 v3) fun h9 =>
  ck (aK h9 v0 = 3) <|
  nm (uI h9 v0 3 v4) fun h11 =>
  ck (aK h11 v0 = 3) <|
  nm (uI h11 v0 4 v5) fun h13 =>
  some ((), h13)
set_option maxHeartbeats 4000000 in
set_option maxRecDepth 100000 in
theorem s_X1_init_0 {p : Program} {l : Launch} {e : Env} {s : State} {m : MethodId} {args : Array Value} {below : List Frame} {meth : Method} {c : Code} {G : GG} {hs : AH} {r : Unit} {h' : AH} (C : Cx G hs p s m args meth c cX1_init 6 RX1 (.code yX1_init cX1_init 6 none :: MW) none "<init>")   {v0 : Nat} {v1 : Int32} {v2 : Int32} {v3 : Int32} {v4 : Int32} {v5 : Int32} {h : AH} {H : Heap} {locs : List Loc} {cells slots : Nat} {ls : Array Slot} (hR : Rp G h H) (hL : ∀ q ∈ locs, gB G ≤ q.base) (hl : zl ls 6 [(0, zr v0), (1, .int v1), (2, .int v2), (3, .int v3), (4, .int v4), (5, .int v5)]) (hp : p_X1_init_0  v0 v1 v2 v3 v4 v5 h = some (r, h')) : W p l e (gR G hs 1 40) s m args below meth c H locs cells slots (MQ below (Qcc G (none) h') args s (gC G - aZ hs) (gS - aU hs) (fun q => gB G ≤ q)) (F0 m 0 ls []) := by
  obtain ⟨hx, hb, hml, hown, hts, hT, hK, rs, hlk, hret, hnm⟩ := id C
  have hm : ∀ w ∈ MW, w.before args s = true := fun w hw => hts w (hT w hw)
  unfold p_X1_init_0 at hp
  refine z_aload_n hx hb dX1_init_0 rfl (zl_at hl 0 rfl) ?_
  obtain ⟨k1, hp⟩ := ck_i hp
  refine r_objInit C k1 (hm _ mw_773) (hm _ mw_33) (hm _ mw_34) (zl_size hl) dX1_init_1 (by decide) (by simp [zr_cat, in_cat]) ?_
  refine z_aload_n hx hb dX1_init_4 rfl (zl_at hl 0 rfl) ?_
  refine lv_iload_n hx hb dX1_init_5 rfl (zl_at hl 1 rfl) ?_
  obtain ⟨k2, hp⟩ := ck_i hp
  refine r_putI (ci := 2) (C := RX1) (T := TX1) (N := 6) hx hb hm ii_X1 tyX1_ok nmX1 hown hK hR hL rfl k2 0 (by decide) (hm _ mw_774) (fun _ h9 => h9) (Or.inr ⟨rfl, hnm, rfl⟩) rfl rfl (fun _ _ _ => rfl) dX1_init_6 (fun H locs hR hL => ?_)
  obtain ⟨h3, hp, hR⟩ := nm_h hp hR
  refine z_aload_n hx hb dX1_init_9 rfl (zl_at hl 0 rfl) ?_
  refine lv_iload_n hx hb dX1_init_10 rfl (zl_at hl 2 rfl) ?_
  obtain ⟨k4, hp⟩ := ck_i hp
  obtain ⟨k5, hp⟩ := ck_i hp
  refine r_putI (ci := 2) (C := RX1) (T := TX1) (N := 6) hx hb hm ii_X1 tyX1_ok nmX1 hown hK hR hL rfl k4 1 (by decide) (hm _ mw_776) (fun _ h9 => h9) (Or.inr ⟨rfl, hnm, rfl⟩) (okC_n k5) (okC_f k5) (fun _ _ _ => rfl) dX1_init_11 (fun H locs hR hL => ?_)
  obtain ⟨h6, hp, hR⟩ := nm_h hp hR
  refine z_aload_n hx hb dX1_init_14 rfl (zl_at hl 0 rfl) ?_
  refine lv_iload_n hx hb dX1_init_15 rfl (zl_at hl 3 rfl) ?_
  obtain ⟨k7, hp⟩ := ck_i hp
  obtain ⟨k8, hp⟩ := ck_i hp
  refine r_putI (ci := 2) (C := RX1) (T := TX1) (N := 6) hx hb hm ii_X1 tyX1_ok nmX1 hown hK hR hL rfl k7 2 (by decide) (hm _ mw_778) (fun _ h9 => h9) (Or.inr ⟨rfl, hnm, rfl⟩) (okC_n k8) (okC_f k8) (fun _ _ _ => rfl) dX1_init_16 (fun H locs hR hL => ?_)
  obtain ⟨h9, hp, hR⟩ := nm_h hp hR
  refine z_aload_n hx hb dX1_init_19 rfl (zl_at hl 0 rfl) ?_
  refine lv_iload hx hb dX1_init_20 (zl_at hl 4 rfl) ?_
  obtain ⟨k10, hp⟩ := ck_i hp
  refine r_putI (ci := 2) (C := RX1) (T := TX1) (N := 6) hx hb hm ii_X1 tyX1_ok nmX1 hown hK hR hL rfl k10 3 (by decide) (hm _ mw_780) (fun _ h9 => h9) (Or.inr ⟨rfl, hnm, rfl⟩) rfl rfl (fun _ _ _ => rfl) dX1_init_22 (fun H locs hR hL => ?_)
  obtain ⟨h11, hp, hR⟩ := nm_h hp hR
  refine z_aload_n hx hb dX1_init_25 rfl (zl_at hl 0 rfl) ?_
  refine lv_iload hx hb dX1_init_26 (zl_at hl 5 rfl) ?_
  obtain ⟨k12, hp⟩ := ck_i hp
  refine r_putI (ci := 2) (C := RX1) (T := TX1) (N := 6) hx hb hm ii_X1 tyX1_ok nmX1 hown hK hR hL rfl k12 4 (by decide) (hm _ mw_782) (fun _ h9 => h9) (Or.inr ⟨rfl, hnm, rfl⟩) rfl rfl (fun _ _ _ => rfl) dX1_init_28 (fun H locs hR hL => ?_)
  obtain ⟨h13, hp, hR⟩ := nm_h hp hR
  cases hp
  exact r_vret C hR hL dX1_init_31
def p_X1_init (v0 : Nat) (v1 : Int32) (v2 : Int32) (v3 : Int32) (v4 : Int32) (v5 : Int32) (h : AH) : Option (Unit × AH) := ck (v0 ≠ 0) <| p_X1_init_0 v0 v1 v2 v3 v4 v5 h
theorem c_X1_init (l : Launch) (G : GG) (v0 : Nat) (v1 : Int32) (v2 : Int32) (v3 : Int32) (v4 : Int32) (v5 : Int32) (h : AH) (r : Unit) (h' : AH) (hp : p_X1_init v0 v1 v2 v3 v4 v5 h = some (r, h')) : Ct l yX1_init (.code yX1_init cX1_init 6 none :: MW) G 1 40 [.ref (v0 - 1), .int v1, .int v2, .int v3, .int v4, .int v5] h (none) h' := by
  obtain ⟨hz0, hp⟩ := ck_i hp
  refine Ct.of (by decide +kernel) (Nat.le_of_ble_eq_true rfl) ?_
  intro p e s m args below meth c C hR ls hl
  have hl : zl ls 6 [(0, zr v0), (1, .int v1), (2, .int v2), (3, .int v3), (4, .int v4), (5, .int v5)] := ⟨by rw [zr_p hz0]; exact hl, by simp [zr_cat, in_cat]⟩
  exact s_X1_init_0 C hR (fun _ hq => nomatch hq) hl hp
/-! CursorKeep$Change.goes()Z -/
def p_X1_goes_13  (s0 : Int32) (h : AH) : Option (Int32 × AH) :=
  ck (okZ s0) <|
  some (s0, h)
set_option maxHeartbeats 4000000 in
set_option maxRecDepth 100000 in
theorem s_X1_goes_13 {p : Program} {l : Launch} {e : Env} {s : State} {m : MethodId} {args : Array Value} {below : List Frame} {meth : Method} {c : Code} {G : GG} {hs : AH} {r : Int32} {h' : AH} (C : Cx G hs p s m args meth c cX1_goes 1 RX1 (.code yX1_goes cX1_goes 1 (some .boolean) :: MW) (some .boolean) "goes")   {s0 : Int32} {h : AH} {H : Heap} {locs : List Loc} {cells slots : Nat} {ls : Array Slot} (hR : Rp G h H) (hL : ∀ q ∈ locs, gB G ≤ q.base) (hl : zl ls 1 []) (hp : p_X1_goes_13  s0 h = some (r, h')) : W p l e (gR G hs 1 40) s m args below meth c H locs cells slots (MQ below (Qcc G (some (.int r)) h') args s (gC G - aZ hs) (gS - aU hs) (fun q => gB G ≤ q)) (F0 m 13 ls [.int s0]) := by
  obtain ⟨hx, hb, hml, hown, hts, hT, hK, rs, hlk, hret, hnm⟩ := id C
  have hm : ∀ w ∈ MW, w.before args s = true := fun w hw => hts w (hT w hw)
  unfold p_X1_goes_13 at hp
  obtain ⟨k1, hp⟩ := ck_i hp
  cases hp
  exact r_zret C hR hL (okZ_n k1) dX1_goes_13
def p_X1_goes_0  (v0 : Nat) (h : AH) : Option (Int32 × AH) :=
  ck (aK h v0 = 3) <|
  if (aI h v0 2) = (iI 1) then
    p_X1_goes_13  (iI 1) h
  else
    p_X1_goes_13  (iI 0) h
set_option maxHeartbeats 4000000 in
set_option maxRecDepth 100000 in
theorem s_X1_goes_0 {p : Program} {l : Launch} {e : Env} {s : State} {m : MethodId} {args : Array Value} {below : List Frame} {meth : Method} {c : Code} {G : GG} {hs : AH} {r : Int32} {h' : AH} (C : Cx G hs p s m args meth c cX1_goes 1 RX1 (.code yX1_goes cX1_goes 1 (some .boolean) :: MW) (some .boolean) "goes")   {v0 : Nat} {h : AH} {H : Heap} {locs : List Loc} {cells slots : Nat} {ls : Array Slot} (hR : Rp G h H) (hL : ∀ q ∈ locs, gB G ≤ q.base) (hl : zl ls 1 [(0, zr v0)]) (hp : p_X1_goes_0  v0 h = some (r, h')) : W p l e (gR G hs 1 40) s m args below meth c H locs cells slots (MQ below (Qcc G (some (.int r)) h') args s (gC G - aZ hs) (gS - aU hs) (fun q => gB G ≤ q)) (F0 m 0 ls []) := by
  obtain ⟨hx, hb, hml, hown, hts, hT, hK, rs, hlk, hret, hnm⟩ := id C
  have hm : ∀ w ∈ MW, w.before args s = true := fun w hw => hts w (hT w hw)
  unfold p_X1_goes_0 at hp
  refine z_aload_n hx hb dX1_goes_0 rfl (zl_at hl 0 rfl) ?_
  obtain ⟨k1, hp⟩ := ck_i hp
  refine r_get (ci := 2) (C := RX1) (T := TX1) (N := 6) (v := .int (aI h v0 2)) hx hb hm ii_X1 hown hK hR rfl k1 2 (by decide) (hm _ mw_778) (fun _ h9 => h9) rfl dX1_goes_1 ?_
  refine lv_iconst (v := iI 1) hx hb dX1_goes_4 rfl ?_
  refine lv_icmp_ne (tgt := 12) hx hb dX1_goes_5 (by decide) (fun c2 => ?_) (fun c2 => ?_)
  · replace hp := ite_n hp c2
    refine lv_iconst (v := iI 0) hx hb dX1_goes_12 rfl ?_
    exact s_X1_goes_13 C  hR hL (zl_sub hl [] rfl) hp
  · replace hp := ite_p hp c2
    refine lv_iconst (v := iI 1) hx hb dX1_goes_8 rfl ?_
    refine lv_goto (tgt := 13) hx hb dX1_goes_9 (by decide) ?_
    exact s_X1_goes_13 C  hR hL (zl_sub hl [] rfl) hp
def p_X1_goes (v0 : Nat) (h : AH) : Option (Int32 × AH) := ck (v0 ≠ 0) <| p_X1_goes_0 v0 h
theorem c_X1_goes (l : Launch) (G : GG) (v0 : Nat) (h : AH) (r : Int32) (h' : AH) (hp : p_X1_goes v0 h = some (r, h')) : Ct l yX1_goes (.code yX1_goes cX1_goes 1 (some .boolean) :: MW) G 1 40 [.ref (v0 - 1)] h (some (.int r)) h' := by
  obtain ⟨hz0, hp⟩ := ck_i hp
  refine Ct.of (by decide +kernel) (Nat.le_of_ble_eq_true rfl) ?_
  intro p e s m args below meth c C hR ls hl
  have hl : zl ls 1 [(0, zr v0)] := ⟨by rw [zr_p hz0]; exact hl, by simp [zr_cat, in_cat]⟩
  exact s_X1_goes_0 C hR (fun _ hq => nomatch hq) hl hp
/-! CursorKeep$Deed.<init>(IIC)V -/
def p_X2_init_0  (v0 : Nat) (v1 : Int32) (v2 : Int32) (v3 : Int32) (h : AH) : Option (Unit × AH) :=
  ck (v0 ≠ 0) <|
  ck (aK h v0 = 4) <|
  nm (uI h v0 0 v1) fun h3 =>
  ck (aK h3 v0 = 4) <|
  nm (uI h3 v0 1 v2) fun h5 =>
  ck (aK h5 v0 = 4) <|
  ck (okC v3) <|
  nm (uI h5 v0 2 v3) fun h8 =>
  some ((), h8)
set_option maxHeartbeats 4000000 in
set_option maxRecDepth 100000 in
theorem s_X2_init_0 {p : Program} {l : Launch} {e : Env} {s : State} {m : MethodId} {args : Array Value} {below : List Frame} {meth : Method} {c : Code} {G : GG} {hs : AH} {r : Unit} {h' : AH} (C : Cx G hs p s m args meth c cX2_init 4 RX2 (.code yX2_init cX2_init 4 none :: MW) none "<init>")   {v0 : Nat} {v1 : Int32} {v2 : Int32} {v3 : Int32} {h : AH} {H : Heap} {locs : List Loc} {cells slots : Nat} {ls : Array Slot} (hR : Rp G h H) (hL : ∀ q ∈ locs, gB G ≤ q.base) (hl : zl ls 4 [(0, zr v0), (1, .int v1), (2, .int v2), (3, .int v3)]) (hp : p_X2_init_0  v0 v1 v2 v3 h = some (r, h')) : W p l e (gR G hs 1 40) s m args below meth c H locs cells slots (MQ below (Qcc G (none) h') args s (gC G - aZ hs) (gS - aU hs) (fun q => gB G ≤ q)) (F0 m 0 ls []) := by
  obtain ⟨hx, hb, hml, hown, hts, hT, hK, rs, hlk, hret, hnm⟩ := id C
  have hm : ∀ w ∈ MW, w.before args s = true := fun w hw => hts w (hT w hw)
  unfold p_X2_init_0 at hp
  refine z_aload_n hx hb dX2_init_0 rfl (zl_at hl 0 rfl) ?_
  obtain ⟨k1, hp⟩ := ck_i hp
  refine r_objInit C k1 (hm _ mw_445) (hm _ mw_33) (hm _ mw_34) (zl_size hl) dX2_init_1 (by decide) (by simp [zr_cat, in_cat]) ?_
  refine z_aload_n hx hb dX2_init_4 rfl (zl_at hl 0 rfl) ?_
  refine lv_iload_n hx hb dX2_init_5 rfl (zl_at hl 1 rfl) ?_
  obtain ⟨k2, hp⟩ := ck_i hp
  refine r_putI (ci := 3) (C := RX2) (T := TX2) (N := 3) hx hb hm ii_X2 tyX2_ok nmX2 hown hK hR hL rfl k2 0 (by decide) (hm _ mw_446) (fun _ h9 => h9) (Or.inr ⟨rfl, hnm, rfl⟩) rfl rfl (fun _ _ _ => rfl) dX2_init_6 (fun H locs hR hL => ?_)
  obtain ⟨h3, hp, hR⟩ := nm_h hp hR
  refine z_aload_n hx hb dX2_init_9 rfl (zl_at hl 0 rfl) ?_
  refine lv_iload_n hx hb dX2_init_10 rfl (zl_at hl 2 rfl) ?_
  obtain ⟨k4, hp⟩ := ck_i hp
  refine r_putI (ci := 3) (C := RX2) (T := TX2) (N := 3) hx hb hm ii_X2 tyX2_ok nmX2 hown hK hR hL rfl k4 1 (by decide) (hm _ mw_447) (fun _ h9 => h9) (Or.inr ⟨rfl, hnm, rfl⟩) rfl rfl (fun _ _ _ => rfl) dX2_init_11 (fun H locs hR hL => ?_)
  obtain ⟨h5, hp, hR⟩ := nm_h hp hR
  refine z_aload_n hx hb dX2_init_14 rfl (zl_at hl 0 rfl) ?_
  refine lv_iload_n hx hb dX2_init_15 rfl (zl_at hl 3 rfl) ?_
  obtain ⟨k6, hp⟩ := ck_i hp
  obtain ⟨k7, hp⟩ := ck_i hp
  refine r_putI (ci := 3) (C := RX2) (T := TX2) (N := 3) hx hb hm ii_X2 tyX2_ok nmX2 hown hK hR hL rfl k6 2 (by decide) (hm _ mw_448) (fun _ h9 => h9) (Or.inr ⟨rfl, hnm, rfl⟩) (okC_n k7) (okC_f k7) (fun _ _ _ => rfl) dX2_init_16 (fun H locs hR hL => ?_)
  obtain ⟨h8, hp, hR⟩ := nm_h hp hR
  cases hp
  exact r_vret C hR hL dX2_init_19
def p_X2_init (v0 : Nat) (v1 : Int32) (v2 : Int32) (v3 : Int32) (h : AH) : Option (Unit × AH) := ck (v0 ≠ 0) <| p_X2_init_0 v0 v1 v2 v3 h
theorem c_X2_init (l : Launch) (G : GG) (v0 : Nat) (v1 : Int32) (v2 : Int32) (v3 : Int32) (h : AH) (r : Unit) (h' : AH) (hp : p_X2_init v0 v1 v2 v3 h = some (r, h')) : Ct l yX2_init (.code yX2_init cX2_init 4 none :: MW) G 1 40 [.ref (v0 - 1), .int v1, .int v2, .int v3] h (none) h' := by
  obtain ⟨hz0, hp⟩ := ck_i hp
  refine Ct.of (by decide +kernel) (Nat.le_of_ble_eq_true rfl) ?_
  intro p e s m args below meth c C hR ls hl
  have hl : zl ls 4 [(0, zr v0), (1, .int v1), (2, .int v2), (3, .int v3)] := ⟨by rw [zr_p hz0]; exact hl, by simp [zr_cat, in_cat]⟩
  exact s_X2_init_0 C hR (fun _ hq => nomatch hq) hl hp
/-! CursorKeep$Deed.doTo(LCursorKeep$Row;)V -/
def p_X2_doTo_83   (h : AH) : Option (Unit × AH) :=
  some ((), h)
set_option maxHeartbeats 4000000 in
set_option maxRecDepth 100000 in
theorem s_X2_doTo_83 {p : Program} {l : Launch} {e : Env} {s : State} {m : MethodId} {args : Array Value} {below : List Frame} {meth : Method} {c : Code} {G : GG} {hs : AH} {r : Unit} {h' : AH} (C : Cx G hs p s m args meth c cX2_doTo 2 RX2 (.code yX2_doTo cX2_doTo 2 none :: MW) none "doTo")    {h : AH} {H : Heap} {locs : List Loc} {cells slots : Nat} {ls : Array Slot} (hR : Rp G h H) (hL : ∀ q ∈ locs, gB G ≤ q.base) (hl : zl ls 2 []) (hp : p_X2_doTo_83   h = some (r, h')) : W p l e (gR G hs 3 83) s m args below meth c H locs cells slots (MQ below (Qcc G (none) h') args s (gC G - aZ hs) (gS - aU hs) (fun q => gB G ≤ q)) (F0 m 83 ls []) := by
  obtain ⟨hx, hb, hml, hown, hts, hT, hK, rs, hlk, hret, hnm⟩ := id C
  have hm : ∀ w ∈ MW, w.before args s = true := fun w hw => hts w (hT w hw)
  unfold p_X2_doTo_83 at hp
  cases hp
  exact r_vret C hR hL dX2_doTo_83
def p_X2_doTo_0  (v0 : Nat) (v1 : Nat) (h : AH) : Option (Unit × AH) :=
  ck (aK h v0 = 4) <|
  if (aI h v0 0) = iI 0 then
    ck (aK h v0 = 4) <|
    ck (aK h v0 = 4) <|
    ck (aK h v1 = 9) <|
    bR (p_X7_put v1 (aI h v0 1) (aI h v0 2) h) fun r6 h7 =>
    p_X2_doTo_83   h7
  else
    if (aI h v0 0) = iI 1 then
      ck (aK h v0 = 4) <|
      ck (aK h v1 = 9) <|
      bR (p_X7_setThere v1 (aI h v0 1) (iI 0) h) fun r11 h12 =>
      p_X2_doTo_83   h12
    else
      if (aI h v0 0) = iI 2 then
        ck (aK h v0 = 4) <|
        ck (aK h v1 = 9) <|
        bR (p_X7_setThere v1 (aI h v0 1) (iI 1) h) fun r16 h17 =>
        p_X2_doTo_83   h17
      else
        ck (aK h v0 = 4) <|
        ck (aK h v0 = 4) <|
        ck (aK h v1 = 9) <|
        bR (p_X7_setSign v1 (aI h v0 1) (aI h v0 2) h) fun r21 h22 =>
        p_X2_doTo_83   h22
set_option maxHeartbeats 4000000 in
set_option maxRecDepth 100000 in
theorem s_X2_doTo_0 {p : Program} {l : Launch} {e : Env} {s : State} {m : MethodId} {args : Array Value} {below : List Frame} {meth : Method} {c : Code} {G : GG} {hs : AH} {r : Unit} {h' : AH} (C : Cx G hs p s m args meth c cX2_doTo 2 RX2 (.code yX2_doTo cX2_doTo 2 none :: MW) none "doTo")   {v0 : Nat} {v1 : Nat} {h : AH} {H : Heap} {locs : List Loc} {cells slots : Nat} {ls : Array Slot} (hR : Rp G h H) (hL : ∀ q ∈ locs, gB G ≤ q.base) (hl : zl ls 2 [(0, zr v0), (1, zr v1)]) (hp : p_X2_doTo_0  v0 v1 h = some (r, h')) : W p l e (gR G hs 3 83) s m args below meth c H locs cells slots (MQ below (Qcc G (none) h') args s (gC G - aZ hs) (gS - aU hs) (fun q => gB G ≤ q)) (F0 m 0 ls []) := by
  obtain ⟨hx, hb, hml, hown, hts, hT, hK, rs, hlk, hret, hnm⟩ := id C
  have hm : ∀ w ∈ MW, w.before args s = true := fun w hw => hts w (hT w hw)
  unfold p_X2_doTo_0 at hp
  refine z_aload_n hx hb dX2_doTo_0 rfl (zl_at hl 0 rfl) ?_
  obtain ⟨k1, hp⟩ := ck_i hp
  refine r_get (ci := 3) (C := RX2) (T := TX2) (N := 3) (v := .int (aI h v0 0)) hx hb hm ii_X2 hown hK hR rfl k1 0 (by decide) (hm _ mw_446) (fun _ h9 => h9) rfl dX2_doTo_1 ?_
  obtain ⟨x_, ex_⟩ : ∃ y : Int32, y = (aI h v0 0) := ⟨_, rfl⟩
  by_cases c2 : (aI h v0 0) = iI 0
  · replace hp := ite_p hp c2
    refine lv_tableIn (off := 28) (tgt := 32) hx hb dX2_doTo_4 (by rw [c2]; decide +kernel) (by rw [c2]; decide +kernel) (by rw [c2]; decide +kernel) (by decide) ?_
    refine z_aload_n hx hb dX2_doTo_32 rfl (zl_at hl 1 rfl) ?_
    refine z_aload_n hx hb dX2_doTo_33 rfl (zl_at hl 0 rfl) ?_
    obtain ⟨k3, hp⟩ := ck_i hp
    refine r_get (ci := 3) (C := RX2) (T := TX2) (N := 3) (v := .int (aI h v0 1)) hx hb hm ii_X2 hown hK hR rfl k3 1 (by decide) (hm _ mw_447) (fun _ h9 => h9) rfl dX2_doTo_34 ?_
    refine z_aload_n hx hb dX2_doTo_37 rfl (zl_at hl 0 rfl) ?_
    obtain ⟨k4, hp⟩ := ck_i hp
    refine r_get (ci := 3) (C := RX2) (T := TX2) (N := 3) (v := .int (aI h v0 2)) hx hb hm ii_X2 hown hK hR rfl k4 2 (by decide) (hm _ mw_448) (fun _ h9 => h9) rfl dX2_doTo_38 ?_
    obtain ⟨k5, hp⟩ := ck_i hp
    obtain ⟨r6, h7, er6, hp⟩ := bR_i hp
    refine r_callV (ci := 8) (r := (RX7, TX7, 4)) (n := 2) (As := [.int (aI h v0 1), .int (aI h v0 2)]) (rest := []) C (c_X7_put l G v1 (aI h v0 1) (aI h v0 2) h r6 h7 er6) hR hL rfl k5 mw_464 mw_465 mw_466 mw_8 mw_467 (by decide +kernel) (by decide) rfl (zl_size hl) rfl (by simp [zr_cat, in_cat]) dX2_doTo_41 (st2 := []) rfl (fun H locs cells slots hR hL => ?_)
    refine lv_goto (tgt := 83) hx hb dX2_doTo_44 (by decide) ?_
    exact s_X2_doTo_83 C  hR hL (zl_sub hl [] rfl) hp
  replace hp := ite_n hp c2
  by_cases c8 : (aI h v0 0) = iI 1
  · replace hp := ite_p hp c8
    refine lv_tableIn (off := 43) (tgt := 47) hx hb dX2_doTo_4 (by rw [c8]; decide +kernel) (by rw [c8]; decide +kernel) (by rw [c8]; decide +kernel) (by decide) ?_
    refine z_aload_n hx hb dX2_doTo_47 rfl (zl_at hl 1 rfl) ?_
    refine z_aload_n hx hb dX2_doTo_48 rfl (zl_at hl 0 rfl) ?_
    obtain ⟨k9, hp⟩ := ck_i hp
    refine r_get (ci := 3) (C := RX2) (T := TX2) (N := 3) (v := .int (aI h v0 1)) hx hb hm ii_X2 hown hK hR rfl k9 1 (by decide) (hm _ mw_447) (fun _ h9 => h9) rfl dX2_doTo_49 ?_
    refine lv_iconst (v := iI 0) hx hb dX2_doTo_52 rfl ?_
    obtain ⟨k10, hp⟩ := ck_i hp
    obtain ⟨r11, h12, er11, hp⟩ := bR_i hp
    refine r_callV (ci := 8) (r := (RX7, TX7, 4)) (n := 2) (As := [.int (aI h v0 1), .int (iI 0)]) (rest := []) C (c_X7_setThere l G v1 (aI h v0 1) (iI 0) h r11 h12 er11) hR hL rfl k10 mw_470 mw_471 mw_472 mw_8 mw_473 (by decide +kernel) (by decide) rfl (zl_size hl) rfl (by simp [zr_cat, in_cat]) dX2_doTo_53 (st2 := []) rfl (fun H locs cells slots hR hL => ?_)
    refine lv_goto (tgt := 83) hx hb dX2_doTo_56 (by decide) ?_
    exact s_X2_doTo_83 C  hR hL (zl_sub hl [] rfl) hp
  replace hp := ite_n hp c8
  by_cases c13 : (aI h v0 0) = iI 2
  · replace hp := ite_p hp c13
    refine lv_tableIn (off := 55) (tgt := 59) hx hb dX2_doTo_4 (by rw [c13]; decide +kernel) (by rw [c13]; decide +kernel) (by rw [c13]; decide +kernel) (by decide) ?_
    refine z_aload_n hx hb dX2_doTo_59 rfl (zl_at hl 1 rfl) ?_
    refine z_aload_n hx hb dX2_doTo_60 rfl (zl_at hl 0 rfl) ?_
    obtain ⟨k14, hp⟩ := ck_i hp
    refine r_get (ci := 3) (C := RX2) (T := TX2) (N := 3) (v := .int (aI h v0 1)) hx hb hm ii_X2 hown hK hR rfl k14 1 (by decide) (hm _ mw_447) (fun _ h9 => h9) rfl dX2_doTo_61 ?_
    refine lv_iconst (v := iI 1) hx hb dX2_doTo_64 rfl ?_
    obtain ⟨k15, hp⟩ := ck_i hp
    obtain ⟨r16, h17, er16, hp⟩ := bR_i hp
    refine r_callV (ci := 8) (r := (RX7, TX7, 4)) (n := 2) (As := [.int (aI h v0 1), .int (iI 1)]) (rest := []) C (c_X7_setThere l G v1 (aI h v0 1) (iI 1) h r16 h17 er16) hR hL rfl k15 mw_470 mw_471 mw_472 mw_8 mw_473 (by decide +kernel) (by decide) rfl (zl_size hl) rfl (by simp [zr_cat, in_cat]) dX2_doTo_65 (st2 := []) rfl (fun H locs cells slots hR hL => ?_)
    refine lv_goto (tgt := 83) hx hb dX2_doTo_68 (by decide) ?_
    exact s_X2_doTo_83 C  hR hL (zl_sub hl [] rfl) hp
  replace hp := ite_n hp c13
  refine lv_tableOut (tgt := 71) hx hb dX2_doTo_4 (by have := lv_neT (a := 0) c2 (by decide +kernel); have := lv_neT (a := 1) c8 (by decide +kernel); have := lv_neT (a := 2) c13 (by decide +kernel); omega) (by decide) ?_
  refine z_aload_n hx hb dX2_doTo_71 rfl (zl_at hl 1 rfl) ?_
  refine z_aload_n hx hb dX2_doTo_72 rfl (zl_at hl 0 rfl) ?_
  obtain ⟨k18, hp⟩ := ck_i hp
  refine r_get (ci := 3) (C := RX2) (T := TX2) (N := 3) (v := .int (aI h v0 1)) hx hb hm ii_X2 hown hK hR rfl k18 1 (by decide) (hm _ mw_447) (fun _ h9 => h9) rfl dX2_doTo_73 ?_
  refine z_aload_n hx hb dX2_doTo_76 rfl (zl_at hl 0 rfl) ?_
  obtain ⟨k19, hp⟩ := ck_i hp
  refine r_get (ci := 3) (C := RX2) (T := TX2) (N := 3) (v := .int (aI h v0 2)) hx hb hm ii_X2 hown hK hR rfl k19 2 (by decide) (hm _ mw_448) (fun _ h9 => h9) rfl dX2_doTo_77 ?_
  obtain ⟨k20, hp⟩ := ck_i hp
  obtain ⟨r21, h22, er21, hp⟩ := bR_i hp
  refine r_callV (ci := 8) (r := (RX7, TX7, 4)) (n := 2) (As := [.int (aI h v0 1), .int (aI h v0 2)]) (rest := []) C (c_X7_setSign l G v1 (aI h v0 1) (aI h v0 2) h r21 h22 er21) hR hL rfl k20 mw_474 mw_475 mw_476 mw_8 mw_477 (by decide +kernel) (by decide) rfl (zl_size hl) rfl (by simp [zr_cat, in_cat]) dX2_doTo_80 (st2 := []) rfl (fun H locs cells slots hR hL => ?_)
  exact s_X2_doTo_83 C  hR hL (zl_sub hl [] rfl) hp
def p_X2_doTo (v0 : Nat) (v1 : Nat) (h : AH) : Option (Unit × AH) := ck (v0 ≠ 0) <| ck (v1 ≠ 0) <| p_X2_doTo_0 v0 v1 h
theorem c_X2_doTo (l : Launch) (G : GG) (v0 : Nat) (v1 : Nat) (h : AH) (r : Unit) (h' : AH) (hp : p_X2_doTo v0 v1 h = some (r, h')) : Ct l yX2_doTo (.code yX2_doTo cX2_doTo 2 none :: MW) G 3 83 [.ref (v0 - 1), zr v1] h (none) h' := by
  obtain ⟨hz0, hp⟩ := ck_i hp
  obtain ⟨hz1, hp⟩ := ck_i hp
  rw [show zr v1 = .ref (v1 - 1) from zr_p hz1]
  refine Ct.of (by decide +kernel) (Nat.le_of_ble_eq_true rfl) ?_
  intro p e s m args below meth c C hR ls hl
  have hl : zl ls 2 [(0, zr v0), (1, zr v1)] := ⟨by rw [zr_p hz0, zr_p hz1]; exact hl, by simp [zr_cat, in_cat]⟩
  exact s_X2_doTo_0 C hR (fun _ hq => nomatch hq) hl hp
/-! CursorKeep$Hand.<init>()V -/
def p_X4_init_0  (v0 : Nat) (h : AH) : Option (Unit × AH) :=
  ck (v0 ≠ 0) <|
  ck (aZ h + 1 ≤ aC h ∧ aU h + 3 ≤ gS) <|
  nm (uN h 1 3) fun h3 =>
  ck (aK h3 (aZ h) ≠ 0) <|
  bR (p_Jx4a65c_init_da8c8 (aZ h) h3) fun r5 h6 =>
  ck (aK h6 v0 = 6) <|
  nm (uR h6 v0 0 (aZ h)) fun h8 =>
  some ((), h8)
set_option maxHeartbeats 4000000 in
set_option maxRecDepth 100000 in
theorem s_X4_init_0 {p : Program} {l : Launch} {e : Env} {s : State} {m : MethodId} {args : Array Value} {below : List Frame} {meth : Method} {c : Code} {G : GG} {hs : AH} {r : Unit} {h' : AH} (C : Cx G hs p s m args meth c cX4_init 1 RX4 (.code yX4_init cX4_init 1 none :: MW) none "<init>")   {v0 : Nat} {h : AH} {H : Heap} {locs : List Loc} {cells slots : Nat} {ls : Array Slot} (hR : Rp G h H) (hL : ∀ q ∈ locs, gB G ≤ q.base) (hl : zl ls 1 [(0, zr v0)]) (hp : p_X4_init_0  v0 h = some (r, h')) : W p l e (gR G hs 4 100) s m args below meth c H locs cells slots (MQ below (Qcc G (none) h') args s (gC G - aZ hs) (gS - aU hs) (fun q => gB G ≤ q)) (F0 m 0 ls []) := by
  obtain ⟨hx, hb, hml, hown, hts, hT, hK, rs, hlk, hret, hnm⟩ := id C
  have hm : ∀ w ∈ MW, w.before args s = true := fun w hw => hts w (hT w hw)
  unfold p_X4_init_0 at hp
  refine z_aload_n hx hb dX4_init_0 rfl (zl_at hl 0 rfl) ?_
  obtain ⟨k1, hp⟩ := ck_i hp
  refine r_objInit C k1 (hm _ mw_173) (hm _ mw_33) (hm _ mw_34) (zl_size hl) dX4_init_1 (by decide) (by simp [zr_cat, in_cat]) ?_
  refine z_aload_n hx hb dX4_init_4 rfl (zl_at hl 0 rfl) ?_
  obtain ⟨k2, hp⟩ := ck_i hp
  refine r_new (ci := 0) (C := RJx4a65c) (T := TJx4a65c) (N := 3) (ty0 := tyJx4a65c) C hR hL rfl ii_Jx4a65c tyJx4a65c_ok (fun _ => rfl) (by decide +kernel) mw_174 mw_40 mw_4 k2 dX4_init_5 (fun H cells slots hR => ?_)
  obtain ⟨h3, hp, hR⟩ := nm_h hp hR
  refine lv_dup hx hb dX4_init_8 (zr_cat _) ?_
  obtain ⟨k4, hp⟩ := ck_i hp
  obtain ⟨r5, h6, er5, hp⟩ := bR_i hp
  refine r_callI (n := 0) (As := []) (rest := [zr (aZ h), zr v0]) C (c_Jx4a65c_init_da8c8 l G (aZ h) h3 r5 h6 er5) hR hL k4 mw_175 mw_42 mw_4 mw_43 rfl (by decide +kernel) (by decide) rfl (zl_size hl) rfl (by simp [zr_cat, in_cat]) dX4_init_9 (st2 := [zr (aZ h), zr v0]) rfl (fun H locs cells slots hR hL => ?_)
  obtain ⟨k7, hp⟩ := ck_i hp
  refine r_putR (ci := 5) (C := RX4) (T := TX4) (N := 2) hx hb hm ii_X4 tyX4_ok nmX4 hown hK hR hL rfl k7 0 (by decide) (hm _ mw_176) (fun _ h9 => h9) (Or.inr ⟨rfl, hnm, rfl⟩) (zr_fitsO _ _) (fun _ _ _ => rfl) dX4_init_12 (fun H locs hR hL => ?_)
  obtain ⟨h8, hp, hR⟩ := nm_h hp hR
  cases hp
  exact r_vret C hR hL dX4_init_15
def p_X4_init (v0 : Nat) (h : AH) : Option (Unit × AH) := ck (v0 ≠ 0) <| p_X4_init_0 v0 h
theorem c_X4_init (l : Launch) (G : GG) (v0 : Nat) (h : AH) (r : Unit) (h' : AH) (hp : p_X4_init v0 h = some (r, h')) : Ct l yX4_init (.code yX4_init cX4_init 1 none :: MW) G 4 100 [.ref (v0 - 1)] h (none) h' := by
  obtain ⟨hz0, hp⟩ := ck_i hp
  refine Ct.of (by decide +kernel) (Nat.le_of_ble_eq_true rfl) ?_
  intro p e s m args below meth c C hR ls hl
  have hl : zl ls 1 [(0, zr v0)] := ⟨by rw [zr_p hz0]; exact hl, by simp [zr_cat, in_cat]⟩
  exact s_X4_init_0 C hR (fun _ hq => nomatch hq) hl hp
/-! CursorKeep$Hand.remember(LCursorKeep$Act;)V -/
def p_X4_remember_63  (v0 : Nat) (h : AH) : Option (Unit × AH) :=
  ck (aK h v0 = 6) <|
  ck (aK h (aR h v0 0) = 1) <|
  bR (p_Jx4a65c_size_8abf5 (aR h v0 0) h) fun r3 h4 =>
  ck (aK h4 v0 = 6) <|
  nm (uI h4 v0 1 r3) fun h6 =>
  some ((), h6)
set_option maxHeartbeats 4000000 in
set_option maxRecDepth 100000 in
theorem s_X4_remember_63 {p : Program} {l : Launch} {e : Env} {s : State} {m : MethodId} {args : Array Value} {below : List Frame} {meth : Method} {c : Code} {G : GG} {hs : AH} {r : Unit} {h' : AH} (C : Cx G hs p s m args meth c cX4_remember 3 RX4 (.code yX4_remember cX4_remember 3 none :: MW) none "remember")   {v0 : Nat} {h : AH} {H : Heap} {locs : List Loc} {cells slots : Nat} {ls : Array Slot} (hR : Rp G h H) (hL : ∀ q ∈ locs, gB G ≤ q.base) (hl : zl ls 3 [(0, zr v0)]) (hp : p_X4_remember_63  v0 h = some (r, h')) : W p l e (gR G hs 7 172) s m args below meth c H locs cells slots (MQ below (Qcc G (none) h') args s (gC G - aZ hs) (gS - aU hs) (fun q => gB G ≤ q)) (F0 m 63 ls []) := by
  obtain ⟨hx, hb, hml, hown, hts, hT, hK, rs, hlk, hret, hnm⟩ := id C
  have hm : ∀ w ∈ MW, w.before args s = true := fun w hw => hts w (hT w hw)
  unfold p_X4_remember_63 at hp
  refine z_aload_n hx hb dX4_remember_63 rfl (zl_at hl 0 rfl) ?_
  refine z_aload_n hx hb dX4_remember_64 rfl (zl_at hl 0 rfl) ?_
  obtain ⟨k1, hp⟩ := ck_i hp
  refine r_get (ci := 5) (C := RX4) (T := TX4) (N := 2) (v := zr (aR h v0 0)) hx hb hm ii_X4 hown hK hR rfl k1 0 (by decide) (hm _ mw_176) (fun _ h9 => h9) rfl dX4_remember_65 ?_
  obtain ⟨k2, hp⟩ := ck_i hp
  obtain ⟨r3, h4, er3, hp⟩ := bR_i hp
  refine r_callF (ci := 0) (r := (RJx4a65c, TJx4a65c, 3)) (x := ⟨"java/util/List", "size", "()I"⟩) (n := 0) (As := []) (rest := [zr v0]) C (c_Jx4a65c_size_8abf5 l G (aR h v0 0) h r3 h4 er3) hR hL rfl k2 mw_567 mw_214 mw_216 mw_4 mw_218 (fw_size hK) (by decide +kernel) (by decide) rfl (zl_size hl) rfl (by simp [zr_cat, in_cat]) dX4_remember_68 (st2 := [.int r3, zr v0]) rfl (fun H locs cells slots hR hL => ?_)
  obtain ⟨k5, hp⟩ := ck_i hp
  refine r_putI (ci := 5) (C := RX4) (T := TX4) (N := 2) hx hb hm ii_X4 tyX4_ok nmX4 hown hK hR hL rfl k5 1 (by decide) (hm _ mw_177) (fun _ h9 => h9) (Or.inl rfl) rfl rfl (fun _ _ _ => rfl) dX4_remember_73 (fun H locs hR hL => ?_)
  obtain ⟨h6, hp, hR⟩ := nm_h hp hR
  cases hp
  exact r_vret C hR hL dX4_remember_76
def p_X4_remember_12  : Nat → Nat → Nat → Int32 → AH → Option (Unit × AH)
  | 0, _, _, _, _ => none
  | n + 1, v0, v1, v2, h =>
    ck (aK h v0 = 6) <|
    if v2 < (aI h v0 1) then
      ck (aK h v0 = 6) <|
      ck (aK h (aR h v0 0) = 1) <|
      bR (p_Jx4a65c_size_8abf5 (aR h v0 0) h) fun r5 h6 =>
      if (iI 512) ≤ r5 then
        p_X4_remember_63  v0 h6
      else
        ck (aK h6 v0 = 6) <|
        ck (aK h6 (aR h6 v0 0) = 1) <|
        bR (p_Jx4a65c_add_9ea2d (aR h6 v0 0) v1 h6) fun r10 h11 =>
        p_X4_remember_63  v0 h11
    else
      ck (aK h v0 = 6) <|
      ck (aK h (aR h v0 0) = 1) <|
      bR (p_Jx4a65c_remove_915e3 (aR h v0 0) v2 h) fun r14 h15 =>
      nm (v2 + iI (-1)) fun (x16 : Int32) =>
      p_X4_remember_12  n v0 v1 x16 h15
set_option maxHeartbeats 4000000 in
set_option maxRecDepth 100000 in
theorem s_X4_remember_12 {p : Program} {l : Launch} {e : Env} {s : State} {m : MethodId} {args : Array Value} {below : List Frame} {meth : Method} {c : Code} {G : GG} {hs : AH} {r : Unit} {h' : AH} (C : Cx G hs p s m args meth c cX4_remember 3 RX4 (.code yX4_remember cX4_remember 3 none :: MW) none "remember")   : ∀ (n : Nat) (v0 : Nat) (v1 : Nat) (v2 : Int32) (h : AH) (H : Heap) (locs : List Loc) (cells slots : Nat) (ls : Array Slot) (hR : Rp G h H) (hL : ∀ q ∈ locs, gB G ≤ q.base) (hl : zl ls 3 [(0, zr v0), (1, zr v1), (2, .int v2)]) (hp : p_X4_remember_12  n v0 v1 v2 h = some (r, h')), W p l e (gR G hs 7 172) s m args below meth c H locs cells slots (MQ below (Qcc G (none) h') args s (gC G - aZ hs) (gS - aU hs) (fun q => gB G ≤ q)) (F0 m 12 ls []) := by
  obtain ⟨hx, hb, hml, hown, hts, hT, hK, rs, hlk, hret, hnm⟩ := id C
  have hm : ∀ w ∈ MW, w.before args s = true := fun w hw => hts w (hT w hw)
  intro n
  induction n with
  | zero =>
    intro v0 v1 v2 h H locs cells slots ls hR hL hl hp
    exact absurd (show none = some (r, h') from hp) (by simp)
  | succ n ih =>
    intro v0 v1 v2 h H locs cells slots ls hR hL hl hp
    rw [p_X4_remember_12.eq_2] at hp
    refine lv_iload_n hx hb dX4_remember_12 rfl (zl_at hl 2 rfl) ?_
    refine z_aload_n hx hb dX4_remember_13 rfl (zl_at hl 0 rfl) ?_
    obtain ⟨k1, hp⟩ := ck_i hp
    refine r_get (ci := 5) (C := RX4) (T := TX4) (N := 2) (v := .int (aI h v0 1)) hx hb hm ii_X4 hown hK hR rfl k1 1 (by decide) (hm _ mw_177) (fun _ h9 => h9) rfl dX4_remember_14 ?_
    refine lv_icmp_lt (tgt := 37) hx hb dX4_remember_17 (by decide) (fun c2 => ?_) (fun c2 => ?_)
    · replace hp := ite_p hp c2
      refine z_aload_n hx hb dX4_remember_37 rfl (zl_at hl 0 rfl) ?_
      obtain ⟨k3, hp⟩ := ck_i hp
      refine r_get (ci := 5) (C := RX4) (T := TX4) (N := 2) (v := zr (aR h v0 0)) hx hb hm ii_X4 hown hK hR rfl k3 0 (by decide) (hm _ mw_176) (fun _ h9 => h9) rfl dX4_remember_38 ?_
      obtain ⟨k4, hp⟩ := ck_i hp
      obtain ⟨r5, h6, er5, hp⟩ := bR_i hp
      refine r_callF (ci := 0) (r := (RJx4a65c, TJx4a65c, 3)) (x := ⟨"java/util/List", "size", "()I"⟩) (n := 0) (As := []) (rest := []) C (c_Jx4a65c_size_8abf5 l G (aR h v0 0) h r5 h6 er5) hR hL rfl k4 mw_567 mw_214 mw_216 mw_4 mw_218 (fw_size hK) (by decide +kernel) (by decide) rfl (zl_size hl) rfl (by simp [zr_cat, in_cat]) dX4_remember_41 (st2 := [.int r5]) rfl (fun H locs cells slots hR hL => ?_)
      refine lv_sipush (v := iI 512) hx hb dX4_remember_46 (by decide +kernel) ?_
      refine lv_icmp_ge (tgt := 63) hx hb dX4_remember_49 (by decide) (fun c7 => ?_) (fun c7 => ?_)
      · replace hp := ite_p hp c7
        exact s_X4_remember_63 C  hR hL (zl_sub hl [0] rfl) hp
      · replace hp := ite_n hp c7
        refine z_aload_n hx hb dX4_remember_52 rfl (zl_at hl 0 rfl) ?_
        obtain ⟨k8, hp⟩ := ck_i hp
        refine r_get (ci := 5) (C := RX4) (T := TX4) (N := 2) (v := zr (aR h6 v0 0)) hx hb hm ii_X4 hown hK hR rfl k8 0 (by decide) (hm _ mw_176) (fun _ h9 => h9) rfl dX4_remember_53 ?_
        refine z_aload_n hx hb dX4_remember_56 rfl (zl_at hl 1 rfl) ?_
        obtain ⟨k9, hp⟩ := ck_i hp
        obtain ⟨r10, h11, er10, hp⟩ := bR_i hp
        refine r_callF (ci := 0) (r := (RJx4a65c, TJx4a65c, 3)) (x := ⟨"java/util/List", "add", "(Ljava/lang/Object;)Z"⟩) (n := 1) (As := [zr v1]) (rest := []) C (c_Jx4a65c_add_9ea2d l G (aR h6 v0 0) v1 h6 r10 h11 er10) hR hL rfl k9 mw_571 mw_484 mw_486 mw_4 mw_488 (fw_add hK) (by decide +kernel) (by decide) rfl (zl_size hl) rfl (by simp [zr_cat, in_cat]) dX4_remember_57 (st2 := [.int r10]) rfl (fun H locs cells slots hR hL => ?_)
        refine lv_pop hx hb dX4_remember_62 rfl ?_
        exact s_X4_remember_63 C  hR hL (zl_sub hl [0] rfl) hp
    · replace hp := ite_n hp c2
      refine z_aload_n hx hb dX4_remember_20 rfl (zl_at hl 0 rfl) ?_
      obtain ⟨k12, hp⟩ := ck_i hp
      refine r_get (ci := 5) (C := RX4) (T := TX4) (N := 2) (v := zr (aR h v0 0)) hx hb hm ii_X4 hown hK hR rfl k12 0 (by decide) (hm _ mw_176) (fun _ h9 => h9) rfl dX4_remember_21 ?_
      refine lv_iload_n hx hb dX4_remember_24 rfl (zl_at hl 2 rfl) ?_
      obtain ⟨k13, hp⟩ := ck_i hp
      obtain ⟨r14, h15, er14, hp⟩ := bR_i hp
      refine r_callF (ci := 0) (r := (RJx4a65c, TJx4a65c, 3)) (x := ⟨"java/util/List", "remove", "(I)Ljava/lang/Object;"⟩) (n := 1) (As := [.int v2]) (rest := []) C (c_Jx4a65c_remove_915e3 l G (aR h v0 0) v2 h r14 h15 er14) hR hL rfl k13 mw_569 mw_255 mw_257 mw_4 mw_259 (fw_remove hK) (by decide +kernel) (by decide) rfl (zl_size hl) rfl (by simp [zr_cat, in_cat]) dX4_remember_25 (st2 := [zr r14]) rfl (fun H locs cells slots hR hL => ?_)
      refine lv_pop hx hb dX4_remember_30 (zr_cat _) ?_
      obtain ⟨x16, ex16⟩ : ∃ y : Int32, y = v2 + iI (-1) := ⟨_, rfl⟩
      replace hp := nm_i hp ex16
      refine z_iinc (v := x16) (lv' := [(2, .int x16), (0, zr v0), (1, zr v1)]) hx hb dX4_remember_31 hl (k := 2) rfl ex16 (by decide) rfl (fun ls hl => ?_)
      refine lv_goto (tgt := 12) hx hb dX4_remember_34 (by decide) ?_
      exact ih _ _ _ _ _ _ _ _ _ hR hL (zl_sub hl [1, 2, 0] rfl) hp
def p_X4_remember_0  (v0 : Nat) (v1 : Nat) (h : AH) : Option (Unit × AH) :=
  ck (aK h v0 = 6) <|
  ck (aK h (aR h v0 0) = 1) <|
  bR (p_Jx4a65c_size_8abf5 (aR h v0 0) h) fun r3 h4 =>
  nm ((r3 - (iI 1))) fun (x5 : Int32) =>
  p_X4_remember_12  FU v0 v1 x5 h4
set_option maxHeartbeats 4000000 in
set_option maxRecDepth 100000 in
theorem s_X4_remember_0 {p : Program} {l : Launch} {e : Env} {s : State} {m : MethodId} {args : Array Value} {below : List Frame} {meth : Method} {c : Code} {G : GG} {hs : AH} {r : Unit} {h' : AH} (C : Cx G hs p s m args meth c cX4_remember 3 RX4 (.code yX4_remember cX4_remember 3 none :: MW) none "remember")   {v0 : Nat} {v1 : Nat} {h : AH} {H : Heap} {locs : List Loc} {cells slots : Nat} {ls : Array Slot} (hR : Rp G h H) (hL : ∀ q ∈ locs, gB G ≤ q.base) (hl : zl ls 3 [(0, zr v0), (1, zr v1)]) (hp : p_X4_remember_0  v0 v1 h = some (r, h')) : W p l e (gR G hs 7 172) s m args below meth c H locs cells slots (MQ below (Qcc G (none) h') args s (gC G - aZ hs) (gS - aU hs) (fun q => gB G ≤ q)) (F0 m 0 ls []) := by
  obtain ⟨hx, hb, hml, hown, hts, hT, hK, rs, hlk, hret, hnm⟩ := id C
  have hm : ∀ w ∈ MW, w.before args s = true := fun w hw => hts w (hT w hw)
  unfold p_X4_remember_0 at hp
  refine z_aload_n hx hb dX4_remember_0 rfl (zl_at hl 0 rfl) ?_
  obtain ⟨k1, hp⟩ := ck_i hp
  refine r_get (ci := 5) (C := RX4) (T := TX4) (N := 2) (v := zr (aR h v0 0)) hx hb hm ii_X4 hown hK hR rfl k1 0 (by decide) (hm _ mw_176) (fun _ h9 => h9) rfl dX4_remember_1 ?_
  obtain ⟨k2, hp⟩ := ck_i hp
  obtain ⟨r3, h4, er3, hp⟩ := bR_i hp
  refine r_callF (ci := 0) (r := (RJx4a65c, TJx4a65c, 3)) (x := ⟨"java/util/List", "size", "()I"⟩) (n := 0) (As := []) (rest := []) C (c_Jx4a65c_size_8abf5 l G (aR h v0 0) h r3 h4 er3) hR hL rfl k2 mw_567 mw_214 mw_216 mw_4 mw_218 (fw_size hK) (by decide +kernel) (by decide) rfl (zl_size hl) rfl (by simp [zr_cat, in_cat]) dX4_remember_4 (st2 := [.int r3]) rfl (fun H locs cells slots hR hL => ?_)
  refine lv_iconst (v := iI 1) hx hb dX4_remember_9 rfl ?_
  refine lv_isub hx hb dX4_remember_10 ?_
  refine lv_topi (fun x5 ex5 => ?_)
  replace hp := nm_i hp ex5
  refine z_istore_n (lv' := [(2, .int x5), (0, zr v0), (1, zr v1)]) hx hb dX4_remember_11 rfl hl (by decide) rfl (fun ls hl => ?_)
  exact s_X4_remember_12 C  _ _ _ _ _ _ _ _ _ _ hR hL (zl_sub hl [1, 2, 0] rfl) hp
def p_X4_remember (v0 : Nat) (v1 : Nat) (h : AH) : Option (Unit × AH) := ck (v0 ≠ 0) <| ck (v1 ≠ 0) <| p_X4_remember_0 v0 v1 h
theorem c_X4_remember (l : Launch) (G : GG) (v0 : Nat) (v1 : Nat) (h : AH) (r : Unit) (h' : AH) (hp : p_X4_remember v0 v1 h = some (r, h')) : Ct l yX4_remember (.code yX4_remember cX4_remember 3 none :: MW) G 7 172 [.ref (v0 - 1), zr v1] h (none) h' := by
  obtain ⟨hz0, hp⟩ := ck_i hp
  obtain ⟨hz1, hp⟩ := ck_i hp
  rw [show zr v1 = .ref (v1 - 1) from zr_p hz1]
  refine Ct.of (by decide +kernel) (Nat.le_of_ble_eq_true rfl) ?_
  intro p e s m args below meth c C hR ls hl
  have hl : zl ls 3 [(0, zr v0), (1, zr v1)] := ⟨by rw [zr_p hz0, zr_p hz1]; exact hl, by simp [zr_cat, in_cat]⟩
  exact s_X4_remember_0 C hR (fun _ hq => nomatch hq) hl hp
/-! CursorKeep$Hand.stepBack()LCursorKeep$Act; -/
def p_X4_stepBack_23   (h : AH) : Option (Nat × AH) :=
  some (0, h)
set_option maxHeartbeats 4000000 in
set_option maxRecDepth 100000 in
theorem s_X4_stepBack_23 {p : Program} {l : Launch} {e : Env} {s : State} {m : MethodId} {args : Array Value} {below : List Frame} {meth : Method} {c : Code} {G : GG} {hs : AH} {r : Nat} {h' : AH} (C : Cx G hs p s m args meth c cX4_stepBack 1 RX4 (.code yX4_stepBack cX4_stepBack 1 (some (.object "CursorKeep$Act")) :: MW) (some (.object "CursorKeep$Act")) "stepBack")    {h : AH} {H : Heap} {locs : List Loc} {cells slots : Nat} {ls : Array Slot} (hR : Rp G h H) (hL : ∀ q ∈ locs, gB G ≤ q.base) (hl : zl ls 1 []) (hp : p_X4_stepBack_23   h = some (r, h')) : W p l e (gR G hs 4 104) s m args below meth c H locs cells slots (MQ below (Qcc G (some (zr r)) h') args s (gC G - aZ hs) (gS - aU hs) (fun q => gB G ≤ q)) (F0 m 23 ls []) := by
  obtain ⟨hx, hb, hml, hown, hts, hT, hK, rs, hlk, hret, hnm⟩ := id C
  have hm : ∀ w ∈ MW, w.before args s = true := fun w hw => hts w (hT w hw)
  unfold p_X4_stepBack_23 at hp
  refine z_null hx hb dX4_stepBack_23 ?_
  cases hp
  exact r_aret (by first | exact Or.inl ⟨_, rfl⟩ | exact Or.inr ⟨_, rfl⟩) C hR hL dX4_stepBack_24
def p_X4_stepBack_0  (v0 : Nat) (h : AH) : Option (Nat × AH) :=
  ck (aK h v0 = 6) <|
  if (aI h v0 1) ≤ 0 then
    p_X4_stepBack_23   h
  else
    ck (aK h v0 = 6) <|
    ck (aK h v0 = 6) <|
    ck (aK h (aR h v0 0) = 1) <|
    bR (p_Jx4a65c_size_8abf5 (aR h v0 0) h) fun r6 h7 =>
    if (aI h v0 1) ≤ r6 then
      ck (aK h7 v0 = 6) <|
      ck (aK h7 v0 = 6) <|
      nm (uI h7 v0 1 ((aI h7 v0 1) - (iI 1))) fun h11 =>
      ck (aK h11 v0 = 6) <|
      ck (aK h11 v0 = 6) <|
      ck (aK h11 (aR h11 v0 0) = 1) <|
      bR (p_Jx4a65c_get_915e3 (aR h11 v0 0) (aI h11 v0 1) h11) fun r15 h16 =>
      ck (aK h16 r15 = 2) <|
      some (r15, h16)
    else
      p_X4_stepBack_23   h7
set_option maxHeartbeats 4000000 in
set_option maxRecDepth 100000 in
theorem s_X4_stepBack_0 {p : Program} {l : Launch} {e : Env} {s : State} {m : MethodId} {args : Array Value} {below : List Frame} {meth : Method} {c : Code} {G : GG} {hs : AH} {r : Nat} {h' : AH} (C : Cx G hs p s m args meth c cX4_stepBack 1 RX4 (.code yX4_stepBack cX4_stepBack 1 (some (.object "CursorKeep$Act")) :: MW) (some (.object "CursorKeep$Act")) "stepBack")   {v0 : Nat} {h : AH} {H : Heap} {locs : List Loc} {cells slots : Nat} {ls : Array Slot} (hR : Rp G h H) (hL : ∀ q ∈ locs, gB G ≤ q.base) (hl : zl ls 1 [(0, zr v0)]) (hp : p_X4_stepBack_0  v0 h = some (r, h')) : W p l e (gR G hs 4 104) s m args below meth c H locs cells slots (MQ below (Qcc G (some (zr r)) h') args s (gC G - aZ hs) (gS - aU hs) (fun q => gB G ≤ q)) (F0 m 0 ls []) := by
  obtain ⟨hx, hb, hml, hown, hts, hT, hK, rs, hlk, hret, hnm⟩ := id C
  have hm : ∀ w ∈ MW, w.before args s = true := fun w hw => hts w (hT w hw)
  unfold p_X4_stepBack_0 at hp
  refine z_aload_n hx hb dX4_stepBack_0 rfl (zl_at hl 0 rfl) ?_
  obtain ⟨k1, hp⟩ := ck_i hp
  refine r_get (ci := 5) (C := RX4) (T := TX4) (N := 2) (v := .int (aI h v0 1)) hx hb hm ii_X4 hown hK hR rfl k1 1 (by decide) (hm _ mw_177) (fun _ h9 => h9) rfl dX4_stepBack_1 ?_
  refine lv_if_le (tgt := 23) hx hb dX4_stepBack_4 (by decide) (fun c2 => ?_) (fun c2 => ?_)
  · replace hp := ite_p hp c2
    exact s_X4_stepBack_23 C  hR hL (zl_sub hl [] rfl) hp
  · replace hp := ite_n hp c2
    refine z_aload_n hx hb dX4_stepBack_7 rfl (zl_at hl 0 rfl) ?_
    obtain ⟨k3, hp⟩ := ck_i hp
    refine r_get (ci := 5) (C := RX4) (T := TX4) (N := 2) (v := .int (aI h v0 1)) hx hb hm ii_X4 hown hK hR rfl k3 1 (by decide) (hm _ mw_177) (fun _ h9 => h9) rfl dX4_stepBack_8 ?_
    refine z_aload_n hx hb dX4_stepBack_11 rfl (zl_at hl 0 rfl) ?_
    obtain ⟨k4, hp⟩ := ck_i hp
    refine r_get (ci := 5) (C := RX4) (T := TX4) (N := 2) (v := zr (aR h v0 0)) hx hb hm ii_X4 hown hK hR rfl k4 0 (by decide) (hm _ mw_176) (fun _ h9 => h9) rfl dX4_stepBack_12 ?_
    obtain ⟨k5, hp⟩ := ck_i hp
    obtain ⟨r6, h7, er6, hp⟩ := bR_i hp
    refine r_callF (ci := 0) (r := (RJx4a65c, TJx4a65c, 3)) (x := ⟨"java/util/List", "size", "()I"⟩) (n := 0) (As := []) (rest := [.int (aI h v0 1)]) C (c_Jx4a65c_size_8abf5 l G (aR h v0 0) h r6 h7 er6) hR hL rfl k5 mw_567 mw_214 mw_216 mw_4 mw_218 (fw_size hK) (by decide +kernel) (by decide) rfl (zl_size hl) rfl (by simp [zr_cat, in_cat]) dX4_stepBack_15 (st2 := [.int r6, .int (aI h v0 1)]) rfl (fun H locs cells slots hR hL => ?_)
    refine lv_icmp_le (tgt := 25) hx hb dX4_stepBack_20 (by decide) (fun c8 => ?_) (fun c8 => ?_)
    · replace hp := ite_p hp c8
      refine z_aload_n hx hb dX4_stepBack_25 rfl (zl_at hl 0 rfl) ?_
      refine lv_dup hx hb dX4_stepBack_26 (zr_cat _) ?_
      obtain ⟨k9, hp⟩ := ck_i hp
      refine r_get (ci := 5) (C := RX4) (T := TX4) (N := 2) (v := .int (aI h7 v0 1)) hx hb hm ii_X4 hown hK hR rfl k9 1 (by decide) (hm _ mw_177) (fun _ h9 => h9) rfl dX4_stepBack_27 ?_
      refine lv_iconst (v := iI 1) hx hb dX4_stepBack_30 rfl ?_
      refine lv_isub hx hb dX4_stepBack_31 ?_
      obtain ⟨k10, hp⟩ := ck_i hp
      refine r_putI (ci := 5) (C := RX4) (T := TX4) (N := 2) hx hb hm ii_X4 tyX4_ok nmX4 hown hK hR hL rfl k10 1 (by decide) (hm _ mw_177) (fun _ h9 => h9) (Or.inl rfl) rfl rfl (fun _ _ _ => rfl) dX4_stepBack_32 (fun H locs hR hL => ?_)
      obtain ⟨h11, hp, hR⟩ := nm_h hp hR
      refine z_aload_n hx hb dX4_stepBack_35 rfl (zl_at hl 0 rfl) ?_
      obtain ⟨k12, hp⟩ := ck_i hp
      refine r_get (ci := 5) (C := RX4) (T := TX4) (N := 2) (v := zr (aR h11 v0 0)) hx hb hm ii_X4 hown hK hR rfl k12 0 (by decide) (hm _ mw_176) (fun _ h9 => h9) rfl dX4_stepBack_36 ?_
      refine z_aload_n hx hb dX4_stepBack_39 rfl (zl_at hl 0 rfl) ?_
      obtain ⟨k13, hp⟩ := ck_i hp
      refine r_get (ci := 5) (C := RX4) (T := TX4) (N := 2) (v := .int (aI h11 v0 1)) hx hb hm ii_X4 hown hK hR rfl k13 1 (by decide) (hm _ mw_177) (fun _ h9 => h9) rfl dX4_stepBack_40 ?_
      obtain ⟨k14, hp⟩ := ck_i hp
      obtain ⟨r15, h16, er15, hp⟩ := bR_i hp
      refine r_callF (ci := 0) (r := (RJx4a65c, TJx4a65c, 3)) (x := ⟨"java/util/List", "get", "(I)Ljava/lang/Object;"⟩) (n := 1) (As := [.int (aI h11 v0 1)]) (rest := []) C (c_Jx4a65c_get_915e3 l G (aR h11 v0 0) (aI h11 v0 1) h11 r15 h16 er15) hR hL rfl k14 mw_643 mw_223 mw_225 mw_4 mw_227 (fw_get hK) (by decide +kernel) (by decide) rfl (zl_size hl) rfl (by simp [zr_cat, in_cat]) dX4_stepBack_43 (st2 := [zr r15]) rfl (fun H locs cells slots hR hL => ?_)
      obtain ⟨k17, hp⟩ := ck_i hp
      refine r_castC (ci := 1) (r := (RX0, TX0, 3)) hx hb hown (hm _ mw_644) hK hR rfl k17 dX4_stepBack_48 ?_
      cases hp
      exact r_aret (by first | exact Or.inl ⟨_, rfl⟩ | exact Or.inr ⟨_, rfl⟩) C hR hL dX4_stepBack_51
    · replace hp := ite_n hp c8
      exact s_X4_stepBack_23 C  hR hL (zl_sub hl [] rfl) hp
def p_X4_stepBack (v0 : Nat) (h : AH) : Option (Nat × AH) := ck (v0 ≠ 0) <| p_X4_stepBack_0 v0 h
theorem c_X4_stepBack (l : Launch) (G : GG) (v0 : Nat) (h : AH) (r : Nat) (h' : AH) (hp : p_X4_stepBack v0 h = some (r, h')) : Ct l yX4_stepBack (.code yX4_stepBack cX4_stepBack 1 (some (.object "CursorKeep$Act")) :: MW) G 4 104 [.ref (v0 - 1)] h (some (zr r)) h' := by
  obtain ⟨hz0, hp⟩ := ck_i hp
  refine Ct.of (by decide +kernel) (Nat.le_of_ble_eq_true rfl) ?_
  intro p e s m args below meth c C hR ls hl
  have hl : zl ls 1 [(0, zr v0)] := ⟨by rw [zr_p hz0]; exact hl, by simp [zr_cat, in_cat]⟩
  exact s_X4_stepBack_0 C hR (fun _ hq => nomatch hq) hl hp
/-! CursorKeep$Hand.stepForth()LCursorKeep$Act; -/
def p_X4_stepForth_23   (h : AH) : Option (Nat × AH) :=
  some (0, h)
set_option maxHeartbeats 4000000 in
set_option maxRecDepth 100000 in
theorem s_X4_stepForth_23 {p : Program} {l : Launch} {e : Env} {s : State} {m : MethodId} {args : Array Value} {below : List Frame} {meth : Method} {c : Code} {G : GG} {hs : AH} {r : Nat} {h' : AH} (C : Cx G hs p s m args meth c cX4_stepForth 1 RX4 (.code yX4_stepForth cX4_stepForth 1 (some (.object "CursorKeep$Act")) :: MW) (some (.object "CursorKeep$Act")) "stepForth")    {h : AH} {H : Heap} {locs : List Loc} {cells slots : Nat} {ls : Array Slot} (hR : Rp G h H) (hL : ∀ q ∈ locs, gB G ≤ q.base) (hl : zl ls 1 []) (hp : p_X4_stepForth_23   h = some (r, h')) : W p l e (gR G hs 4 104) s m args below meth c H locs cells slots (MQ below (Qcc G (some (zr r)) h') args s (gC G - aZ hs) (gS - aU hs) (fun q => gB G ≤ q)) (F0 m 23 ls []) := by
  obtain ⟨hx, hb, hml, hown, hts, hT, hK, rs, hlk, hret, hnm⟩ := id C
  have hm : ∀ w ∈ MW, w.before args s = true := fun w hw => hts w (hT w hw)
  unfold p_X4_stepForth_23 at hp
  refine z_null hx hb dX4_stepForth_23 ?_
  cases hp
  exact r_aret (by first | exact Or.inl ⟨_, rfl⟩ | exact Or.inr ⟨_, rfl⟩) C hR hL dX4_stepForth_24
def p_X4_stepForth_0  (v0 : Nat) (h : AH) : Option (Nat × AH) :=
  ck (aK h v0 = 6) <|
  if (aI h v0 1) < 0 then
    p_X4_stepForth_23   h
  else
    ck (aK h v0 = 6) <|
    ck (aK h v0 = 6) <|
    ck (aK h (aR h v0 0) = 1) <|
    bR (p_Jx4a65c_size_8abf5 (aR h v0 0) h) fun r6 h7 =>
    if (aI h v0 1) < r6 then
      ck (aK h7 v0 = 6) <|
      ck (aK h7 v0 = 6) <|
      nm (uI h7 v0 1 ((aI h7 v0 1) + (iI 1))) fun h11 =>
      ck (aK h11 v0 = 6) <|
      ck (aK h11 v0 = 6) <|
      ck (aK h11 (aR h11 v0 0) = 1) <|
      bR (p_Jx4a65c_get_915e3 (aR h11 v0 0) ((aI h11 v0 1) - (iI 1)) h11) fun r15 h16 =>
      ck (aK h16 r15 = 2) <|
      some (r15, h16)
    else
      p_X4_stepForth_23   h7
set_option maxHeartbeats 4000000 in
set_option maxRecDepth 100000 in
theorem s_X4_stepForth_0 {p : Program} {l : Launch} {e : Env} {s : State} {m : MethodId} {args : Array Value} {below : List Frame} {meth : Method} {c : Code} {G : GG} {hs : AH} {r : Nat} {h' : AH} (C : Cx G hs p s m args meth c cX4_stepForth 1 RX4 (.code yX4_stepForth cX4_stepForth 1 (some (.object "CursorKeep$Act")) :: MW) (some (.object "CursorKeep$Act")) "stepForth")   {v0 : Nat} {h : AH} {H : Heap} {locs : List Loc} {cells slots : Nat} {ls : Array Slot} (hR : Rp G h H) (hL : ∀ q ∈ locs, gB G ≤ q.base) (hl : zl ls 1 [(0, zr v0)]) (hp : p_X4_stepForth_0  v0 h = some (r, h')) : W p l e (gR G hs 4 104) s m args below meth c H locs cells slots (MQ below (Qcc G (some (zr r)) h') args s (gC G - aZ hs) (gS - aU hs) (fun q => gB G ≤ q)) (F0 m 0 ls []) := by
  obtain ⟨hx, hb, hml, hown, hts, hT, hK, rs, hlk, hret, hnm⟩ := id C
  have hm : ∀ w ∈ MW, w.before args s = true := fun w hw => hts w (hT w hw)
  unfold p_X4_stepForth_0 at hp
  refine z_aload_n hx hb dX4_stepForth_0 rfl (zl_at hl 0 rfl) ?_
  obtain ⟨k1, hp⟩ := ck_i hp
  refine r_get (ci := 5) (C := RX4) (T := TX4) (N := 2) (v := .int (aI h v0 1)) hx hb hm ii_X4 hown hK hR rfl k1 1 (by decide) (hm _ mw_177) (fun _ h9 => h9) rfl dX4_stepForth_1 ?_
  refine lv_if_lt (tgt := 23) hx hb dX4_stepForth_4 (by decide) (fun c2 => ?_) (fun c2 => ?_)
  · replace hp := ite_p hp c2
    exact s_X4_stepForth_23 C  hR hL (zl_sub hl [] rfl) hp
  · replace hp := ite_n hp c2
    refine z_aload_n hx hb dX4_stepForth_7 rfl (zl_at hl 0 rfl) ?_
    obtain ⟨k3, hp⟩ := ck_i hp
    refine r_get (ci := 5) (C := RX4) (T := TX4) (N := 2) (v := .int (aI h v0 1)) hx hb hm ii_X4 hown hK hR rfl k3 1 (by decide) (hm _ mw_177) (fun _ h9 => h9) rfl dX4_stepForth_8 ?_
    refine z_aload_n hx hb dX4_stepForth_11 rfl (zl_at hl 0 rfl) ?_
    obtain ⟨k4, hp⟩ := ck_i hp
    refine r_get (ci := 5) (C := RX4) (T := TX4) (N := 2) (v := zr (aR h v0 0)) hx hb hm ii_X4 hown hK hR rfl k4 0 (by decide) (hm _ mw_176) (fun _ h9 => h9) rfl dX4_stepForth_12 ?_
    obtain ⟨k5, hp⟩ := ck_i hp
    obtain ⟨r6, h7, er6, hp⟩ := bR_i hp
    refine r_callF (ci := 0) (r := (RJx4a65c, TJx4a65c, 3)) (x := ⟨"java/util/List", "size", "()I"⟩) (n := 0) (As := []) (rest := [.int (aI h v0 1)]) C (c_Jx4a65c_size_8abf5 l G (aR h v0 0) h r6 h7 er6) hR hL rfl k5 mw_567 mw_214 mw_216 mw_4 mw_218 (fw_size hK) (by decide +kernel) (by decide) rfl (zl_size hl) rfl (by simp [zr_cat, in_cat]) dX4_stepForth_15 (st2 := [.int r6, .int (aI h v0 1)]) rfl (fun H locs cells slots hR hL => ?_)
    refine lv_icmp_lt (tgt := 25) hx hb dX4_stepForth_20 (by decide) (fun c8 => ?_) (fun c8 => ?_)
    · replace hp := ite_p hp c8
      refine z_aload_n hx hb dX4_stepForth_25 rfl (zl_at hl 0 rfl) ?_
      refine lv_dup hx hb dX4_stepForth_26 (zr_cat _) ?_
      obtain ⟨k9, hp⟩ := ck_i hp
      refine r_get (ci := 5) (C := RX4) (T := TX4) (N := 2) (v := .int (aI h7 v0 1)) hx hb hm ii_X4 hown hK hR rfl k9 1 (by decide) (hm _ mw_177) (fun _ h9 => h9) rfl dX4_stepForth_27 ?_
      refine lv_iconst (v := iI 1) hx hb dX4_stepForth_30 rfl ?_
      refine lv_iadd hx hb dX4_stepForth_31 ?_
      obtain ⟨k10, hp⟩ := ck_i hp
      refine r_putI (ci := 5) (C := RX4) (T := TX4) (N := 2) hx hb hm ii_X4 tyX4_ok nmX4 hown hK hR hL rfl k10 1 (by decide) (hm _ mw_177) (fun _ h9 => h9) (Or.inl rfl) rfl rfl (fun _ _ _ => rfl) dX4_stepForth_32 (fun H locs hR hL => ?_)
      obtain ⟨h11, hp, hR⟩ := nm_h hp hR
      refine z_aload_n hx hb dX4_stepForth_35 rfl (zl_at hl 0 rfl) ?_
      obtain ⟨k12, hp⟩ := ck_i hp
      refine r_get (ci := 5) (C := RX4) (T := TX4) (N := 2) (v := zr (aR h11 v0 0)) hx hb hm ii_X4 hown hK hR rfl k12 0 (by decide) (hm _ mw_176) (fun _ h9 => h9) rfl dX4_stepForth_36 ?_
      refine z_aload_n hx hb dX4_stepForth_39 rfl (zl_at hl 0 rfl) ?_
      obtain ⟨k13, hp⟩ := ck_i hp
      refine r_get (ci := 5) (C := RX4) (T := TX4) (N := 2) (v := .int (aI h11 v0 1)) hx hb hm ii_X4 hown hK hR rfl k13 1 (by decide) (hm _ mw_177) (fun _ h9 => h9) rfl dX4_stepForth_40 ?_
      refine lv_iconst (v := iI 1) hx hb dX4_stepForth_43 rfl ?_
      refine lv_isub hx hb dX4_stepForth_44 ?_
      obtain ⟨k14, hp⟩ := ck_i hp
      obtain ⟨r15, h16, er15, hp⟩ := bR_i hp
      refine r_callF (ci := 0) (r := (RJx4a65c, TJx4a65c, 3)) (x := ⟨"java/util/List", "get", "(I)Ljava/lang/Object;"⟩) (n := 1) (As := [.int ((aI h11 v0 1) - (iI 1))]) (rest := []) C (c_Jx4a65c_get_915e3 l G (aR h11 v0 0) ((aI h11 v0 1) - (iI 1)) h11 r15 h16 er15) hR hL rfl k14 mw_643 mw_223 mw_225 mw_4 mw_227 (fw_get hK) (by decide +kernel) (by decide) rfl (zl_size hl) rfl (by simp [zr_cat, in_cat]) dX4_stepForth_45 (st2 := [zr r15]) rfl (fun H locs cells slots hR hL => ?_)
      obtain ⟨k17, hp⟩ := ck_i hp
      refine r_castC (ci := 1) (r := (RX0, TX0, 3)) hx hb hown (hm _ mw_644) hK hR rfl k17 dX4_stepForth_50 ?_
      cases hp
      exact r_aret (by first | exact Or.inl ⟨_, rfl⟩ | exact Or.inr ⟨_, rfl⟩) C hR hL dX4_stepForth_53
    · replace hp := ite_n hp c8
      exact s_X4_stepForth_23 C  hR hL (zl_sub hl [] rfl) hp
def p_X4_stepForth (v0 : Nat) (h : AH) : Option (Nat × AH) := ck (v0 ≠ 0) <| p_X4_stepForth_0 v0 h
theorem c_X4_stepForth (l : Launch) (G : GG) (v0 : Nat) (h : AH) (r : Nat) (h' : AH) (hp : p_X4_stepForth v0 h = some (r, h')) : Ct l yX4_stepForth (.code yX4_stepForth cX4_stepForth 1 (some (.object "CursorKeep$Act")) :: MW) G 4 104 [.ref (v0 - 1)] h (some (zr r)) h' := by
  obtain ⟨hz0, hp⟩ := ck_i hp
  refine Ct.of (by decide +kernel) (Nat.le_of_ble_eq_true rfl) ?_
  intro p e s m args below meth c C hR ls hl
  have hl : zl ls 1 [(0, zr v0)] := ⟨by rw [zr_p hz0]; exact hl, by simp [zr_cat, in_cat]⟩
  exact s_X4_stepForth_0 C hR (fun _ hq => nomatch hq) hl hp
/-! CursorKeep$Neighbours.<init>()V -/
def p_X5_init_0  (v0 : Nat) (h : AH) : Option (Unit × AH) :=
  ck (v0 ≠ 0) <|
  ck ((0 ≤ (iI 150) ∧ (iI 150).toNatClampNeg ≤ 100000) ∧ aZ h + 1 ≤ aC h ∧ aU h + (iI 150).toNatClampNeg ≤ gS) <|
  nm (uN h 22 (iI 150).toNatClampNeg) fun h4 =>
  ck (aK h4 v0 = 7) <|
  nm (uR h4 v0 0 (aZ h)) fun h6 =>
  ck ((0 ≤ (iI 150) ∧ (iI 150).toNatClampNeg ≤ 100000) ∧ aZ h6 + 1 ≤ aC h6 ∧ aU h6 + (iI 150).toNatClampNeg ≤ gS) <|
  nm (uN h6 20 (iI 150).toNatClampNeg) fun h9 =>
  ck (aK h9 v0 = 7) <|
  nm (uR h9 v0 1 (aZ h6)) fun h11 =>
  ck ((0 ≤ (iI 150) ∧ (iI 150).toNatClampNeg ≤ 100000) ∧ aZ h11 + 1 ≤ aC h11 ∧ aU h11 + (iI 150).toNatClampNeg ≤ gS) <|
  nm (uN h11 20 (iI 150).toNatClampNeg) fun h14 =>
  ck (aK h14 v0 = 7) <|
  nm (uR h14 v0 2 (aZ h11)) fun h16 =>
  some ((), h16)
set_option maxHeartbeats 4000000 in
set_option maxRecDepth 100000 in
theorem s_X5_init_0 {p : Program} {l : Launch} {e : Env} {s : State} {m : MethodId} {args : Array Value} {below : List Frame} {meth : Method} {c : Code} {G : GG} {hs : AH} {r : Unit} {h' : AH} (C : Cx G hs p s m args meth c cX5_init 1 RX5 (.code yX5_init cX5_init 1 none :: MW) none "<init>")   {v0 : Nat} {h : AH} {H : Heap} {locs : List Loc} {cells slots : Nat} {ls : Array Slot} (hR : Rp G h H) (hL : ∀ q ∈ locs, gB G ≤ q.base) (hl : zl ls 1 [(0, zr v0)]) (hp : p_X5_init_0  v0 h = some (r, h')) : W p l e (gR G hs 1 40) s m args below meth c H locs cells slots (MQ below (Qcc G (none) h') args s (gC G - aZ hs) (gS - aU hs) (fun q => gB G ≤ q)) (F0 m 0 ls []) := by
  obtain ⟨hx, hb, hml, hown, hts, hT, hK, rs, hlk, hret, hnm⟩ := id C
  have hm : ∀ w ∈ MW, w.before args s = true := fun w hw => hts w (hT w hw)
  unfold p_X5_init_0 at hp
  refine z_aload_n hx hb dX5_init_0 rfl (zl_at hl 0 rfl) ?_
  obtain ⟨k1, hp⟩ := ck_i hp
  refine r_objInit C k1 (hm _ mw_91) (hm _ mw_33) (hm _ mw_34) (zl_size hl) dX5_init_1 (by decide) (by simp [zr_cat, in_cat]) ?_
  refine z_aload_n hx hb dX5_init_4 rfl (zl_at hl 0 rfl) ?_
  refine lv_sipush (v := iI 150) hx hb dX5_init_5 (by decide +kernel) ?_
  obtain ⟨k2, hp⟩ := ck_i hp
  refine r_newa (t := 2) (by decide) rfl (fun _ h9 => nomatch (show FieldType.boolean = _ from h9)) rfl C hR mw_102 k2.1 k2.2 dX5_init_8 (fun H cells slots hR => ?_)
  obtain ⟨h4, hp, hR⟩ := nm_h hp hR
  obtain ⟨k5, hp⟩ := ck_i hp
  refine r_putR (ci := 6) (C := RX5) (T := TX5) (N := 3) hx hb hm ii_X5 tyX5_ok nmX5 hown hK hR hL rfl k5 0 (by decide) (hm _ mw_92) (fun _ h9 => h9) (Or.inr ⟨rfl, hnm, rfl⟩) (zr_fitsA _ _) (fun _ _ _ => rfl) dX5_init_10 (fun H locs hR hL => ?_)
  obtain ⟨h6, hp, hR⟩ := nm_h hp hR
  refine z_aload_n hx hb dX5_init_13 rfl (zl_at hl 0 rfl) ?_
  refine lv_sipush (v := iI 150) hx hb dX5_init_14 (by decide +kernel) ?_
  obtain ⟨k7, hp⟩ := ck_i hp
  refine r_newa (t := 0) (by decide) rfl (fun _ h9 => nomatch (show FieldType.int = _ from h9)) rfl C hR mw_84 k7.1 k7.2 dX5_init_17 (fun H cells slots hR => ?_)
  obtain ⟨h9, hp, hR⟩ := nm_h hp hR
  obtain ⟨k10, hp⟩ := ck_i hp
  refine r_putR (ci := 6) (C := RX5) (T := TX5) (N := 3) hx hb hm ii_X5 tyX5_ok nmX5 hown hK hR hL rfl k10 1 (by decide) (hm _ mw_93) (fun _ h9 => h9) (Or.inr ⟨rfl, hnm, rfl⟩) (zr_fitsA _ _) (fun _ _ _ => rfl) dX5_init_19 (fun H locs hR hL => ?_)
  obtain ⟨h11, hp, hR⟩ := nm_h hp hR
  refine z_aload_n hx hb dX5_init_22 rfl (zl_at hl 0 rfl) ?_
  refine lv_sipush (v := iI 150) hx hb dX5_init_23 (by decide +kernel) ?_
  obtain ⟨k12, hp⟩ := ck_i hp
  refine r_newa (t := 0) (by decide) rfl (fun _ h9 => nomatch (show FieldType.int = _ from h9)) rfl C hR mw_84 k12.1 k12.2 dX5_init_26 (fun H cells slots hR => ?_)
  obtain ⟨h14, hp, hR⟩ := nm_h hp hR
  obtain ⟨k15, hp⟩ := ck_i hp
  refine r_putR (ci := 6) (C := RX5) (T := TX5) (N := 3) hx hb hm ii_X5 tyX5_ok nmX5 hown hK hR hL rfl k15 2 (by decide) (hm _ mw_94) (fun _ h9 => h9) (Or.inr ⟨rfl, hnm, rfl⟩) (zr_fitsA _ _) (fun _ _ _ => rfl) dX5_init_28 (fun H locs hR hL => ?_)
  obtain ⟨h16, hp, hR⟩ := nm_h hp hR
  cases hp
  exact r_vret C hR hL dX5_init_31
def p_X5_init (v0 : Nat) (h : AH) : Option (Unit × AH) := ck (v0 ≠ 0) <| p_X5_init_0 v0 h
theorem c_X5_init (l : Launch) (G : GG) (v0 : Nat) (h : AH) (r : Unit) (h' : AH) (hp : p_X5_init v0 h = some (r, h')) : Ct l yX5_init (.code yX5_init cX5_init 1 none :: MW) G 1 40 [.ref (v0 - 1)] h (none) h' := by
  obtain ⟨hz0, hp⟩ := ck_i hp
  refine Ct.of (by decide +kernel) (Nat.le_of_ble_eq_true rfl) ?_
  intro p e s m args below meth c C hR ls hl
  have hl : zl ls 1 [(0, zr v0)] := ⟨by rw [zr_p hz0]; exact hl, by simp [zr_cat, in_cat]⟩
  exact s_X5_init_0 C hR (fun _ hq => nomatch hq) hl hp
/-! CursorKeep$Neighbours.forgetGoing()V -/
def p_X5_forgetGoing_2  : Nat → Nat → Int32 → AH → Option (Unit × AH)
  | 0, _, _, _ => none
  | n + 1, v0, v1, h =>
    if (iI 150) ≤ v1 then
      some ((), h)
    else
      ck (aK h v0 = 7) <|
      ck (aK h (aR h v0 0) = 22 ∧ ix v1 (aN h (aR h v0 0))) <|
      nm (uI h (aR h v0 0) v1.toNatClampNeg (nZ (iI 0))) fun h5 =>
      nm (v1 + iI 1) fun (x6 : Int32) =>
      p_X5_forgetGoing_2  n v0 x6 h5
set_option maxHeartbeats 4000000 in
set_option maxRecDepth 100000 in
theorem s_X5_forgetGoing_2 {p : Program} {l : Launch} {e : Env} {s : State} {m : MethodId} {args : Array Value} {below : List Frame} {meth : Method} {c : Code} {G : GG} {hs : AH} {r : Unit} {h' : AH} (C : Cx G hs p s m args meth c cX5_forgetGoing 2 RX5 (.code yX5_forgetGoing cX5_forgetGoing 2 none :: MW) none "forgetGoing")   : ∀ (n : Nat) (v0 : Nat) (v1 : Int32) (h : AH) (H : Heap) (locs : List Loc) (cells slots : Nat) (ls : Array Slot) (hR : Rp G h H) (hL : ∀ q ∈ locs, gB G ≤ q.base) (hl : zl ls 2 [(0, zr v0), (1, .int v1)]) (hp : p_X5_forgetGoing_2  n v0 v1 h = some (r, h')), W p l e (gR G hs 1 40) s m args below meth c H locs cells slots (MQ below (Qcc G (none) h') args s (gC G - aZ hs) (gS - aU hs) (fun q => gB G ≤ q)) (F0 m 2 ls []) := by
  obtain ⟨hx, hb, hml, hown, hts, hT, hK, rs, hlk, hret, hnm⟩ := id C
  have hm : ∀ w ∈ MW, w.before args s = true := fun w hw => hts w (hT w hw)
  intro n
  induction n with
  | zero =>
    intro v0 v1 h H locs cells slots ls hR hL hl hp
    exact absurd (show none = some (r, h') from hp) (by simp)
  | succ n ih =>
    intro v0 v1 h H locs cells slots ls hR hL hl hp
    rw [p_X5_forgetGoing_2.eq_2] at hp
    refine lv_iload_n hx hb dX5_forgetGoing_2 rfl (zl_at hl 1 rfl) ?_
    refine lv_sipush (v := iI 150) hx hb dX5_forgetGoing_3 (by decide +kernel) ?_
    refine lv_icmp_ge (tgt := 22) hx hb dX5_forgetGoing_6 (by decide) (fun c1 => ?_) (fun c1 => ?_)
    · replace hp := ite_p hp c1
      cases hp
      exact r_vret C hR hL dX5_forgetGoing_22
    · replace hp := ite_n hp c1
      refine z_aload_n hx hb dX5_forgetGoing_9 rfl (zl_at hl 0 rfl) ?_
      obtain ⟨k2, hp⟩ := ck_i hp
      refine r_get (ci := 6) (C := RX5) (T := TX5) (N := 3) (v := zr (aR h v0 0)) hx hb hm ii_X5 hown hK hR rfl k2 0 (by decide) (hm _ mw_92) (fun _ h9 => h9) rfl dX5_forgetGoing_10 ?_
      refine lv_iload_n hx hb dX5_forgetGoing_13 rfl (zl_at hl 1 rfl) ?_
      refine lv_iconst (v := iI 0) hx hb dX5_forgetGoing_14 rfl ?_
      obtain ⟨k3, hp⟩ := ck_i hp
      refine r_zast hx hb hK hR hL k3.1 k3.2 dX5_forgetGoing_15 (fun H locs hR hL => ?_)
      obtain ⟨h5, hp, hR⟩ := nm_h hp hR
      obtain ⟨x6, ex6⟩ : ∃ y : Int32, y = v1 + iI 1 := ⟨_, rfl⟩
      replace hp := nm_i hp ex6
      refine z_iinc (v := x6) (lv' := [(1, .int x6), (0, zr v0)]) hx hb dX5_forgetGoing_16 hl (k := 1) rfl ex6 (by decide) rfl (fun ls hl => ?_)
      refine lv_goto (tgt := 2) hx hb dX5_forgetGoing_19 (by decide) ?_
      exact ih _ _ _ _ _ _ _ _ hR hL (zl_sub hl [1, 0] rfl) hp
def p_X5_forgetGoing_0  (v0 : Nat) (h : AH) : Option (Unit × AH) :=
  nm ((iI 0)) fun (x1 : Int32) =>
  p_X5_forgetGoing_2  FU v0 x1 h
set_option maxHeartbeats 4000000 in
set_option maxRecDepth 100000 in
theorem s_X5_forgetGoing_0 {p : Program} {l : Launch} {e : Env} {s : State} {m : MethodId} {args : Array Value} {below : List Frame} {meth : Method} {c : Code} {G : GG} {hs : AH} {r : Unit} {h' : AH} (C : Cx G hs p s m args meth c cX5_forgetGoing 2 RX5 (.code yX5_forgetGoing cX5_forgetGoing 2 none :: MW) none "forgetGoing")   {v0 : Nat} {h : AH} {H : Heap} {locs : List Loc} {cells slots : Nat} {ls : Array Slot} (hR : Rp G h H) (hL : ∀ q ∈ locs, gB G ≤ q.base) (hl : zl ls 2 [(0, zr v0)]) (hp : p_X5_forgetGoing_0  v0 h = some (r, h')) : W p l e (gR G hs 1 40) s m args below meth c H locs cells slots (MQ below (Qcc G (none) h') args s (gC G - aZ hs) (gS - aU hs) (fun q => gB G ≤ q)) (F0 m 0 ls []) := by
  obtain ⟨hx, hb, hml, hown, hts, hT, hK, rs, hlk, hret, hnm⟩ := id C
  have hm : ∀ w ∈ MW, w.before args s = true := fun w hw => hts w (hT w hw)
  unfold p_X5_forgetGoing_0 at hp
  refine lv_iconst (v := iI 0) hx hb dX5_forgetGoing_0 rfl ?_
  refine lv_topi (fun x1 ex1 => ?_)
  replace hp := nm_i hp ex1
  refine z_istore_n (lv' := [(1, .int x1), (0, zr v0)]) hx hb dX5_forgetGoing_1 rfl hl (by decide) rfl (fun ls hl => ?_)
  exact s_X5_forgetGoing_2 C  _ _ _ _ _ _ _ _ _ hR hL (zl_sub hl [1, 0] rfl) hp
def p_X5_forgetGoing (v0 : Nat) (h : AH) : Option (Unit × AH) := ck (v0 ≠ 0) <| p_X5_forgetGoing_0 v0 h
theorem c_X5_forgetGoing (l : Launch) (G : GG) (v0 : Nat) (h : AH) (r : Unit) (h' : AH) (hp : p_X5_forgetGoing v0 h = some (r, h')) : Ct l yX5_forgetGoing (.code yX5_forgetGoing cX5_forgetGoing 2 none :: MW) G 1 40 [.ref (v0 - 1)] h (none) h' := by
  obtain ⟨hz0, hp⟩ := ck_i hp
  refine Ct.of (by decide +kernel) (Nat.le_of_ble_eq_true rfl) ?_
  intro p e s m args below meth c C hR ls hl
  have hl : zl ls 2 [(0, zr v0)] := ⟨by rw [zr_p hz0]; exact hl, by simp [zr_cat, in_cat]⟩
  exact s_X5_forgetGoing_0 C hR (fun _ hq => nomatch hq) hl hp
/-! CursorKeep$Neighbours.isLetter(I)Z -/
def p_X5_isLetter_16  (s0 : Int32) (h : AH) : Option (Int32 × AH) :=
  ck (okZ s0) <|
  some (s0, h)
set_option maxHeartbeats 4000000 in
set_option maxRecDepth 100000 in
theorem s_X5_isLetter_16 {p : Program} {l : Launch} {e : Env} {s : State} {m : MethodId} {args : Array Value} {below : List Frame} {meth : Method} {c : Code} {G : GG} {hs : AH} {r : Int32} {h' : AH} (C : Cx G hs p s m args meth c cX5_isLetter 1 RX5 (.code yX5_isLetter cX5_isLetter 1 (some .boolean) :: MW) (some .boolean) "isLetter")   {s0 : Int32} {h : AH} {H : Heap} {locs : List Loc} {cells slots : Nat} {ls : Array Slot} (hR : Rp G h H) (hL : ∀ q ∈ locs, gB G ≤ q.base) (hl : zl ls 1 []) (hp : p_X5_isLetter_16  s0 h = some (r, h')) : W p l e (gR G hs 1 40) s m args below meth c H locs cells slots (MQ below (Qcc G (some (.int r)) h') args s (gC G - aZ hs) (gS - aU hs) (fun q => gB G ≤ q)) (F0 m 16 ls [.int s0]) := by
  obtain ⟨hx, hb, hml, hown, hts, hT, hK, rs, hlk, hret, hnm⟩ := id C
  have hm : ∀ w ∈ MW, w.before args s = true := fun w hw => hts w (hT w hw)
  unfold p_X5_isLetter_16 at hp
  obtain ⟨k1, hp⟩ := ck_i hp
  cases hp
  exact r_zret C hR hL (okZ_n k1) dX5_isLetter_16
def p_X5_isLetter_15   (h : AH) : Option (Int32 × AH) :=
  p_X5_isLetter_16  (iI 0) h
set_option maxHeartbeats 4000000 in
set_option maxRecDepth 100000 in
theorem s_X5_isLetter_15 {p : Program} {l : Launch} {e : Env} {s : State} {m : MethodId} {args : Array Value} {below : List Frame} {meth : Method} {c : Code} {G : GG} {hs : AH} {r : Int32} {h' : AH} (C : Cx G hs p s m args meth c cX5_isLetter 1 RX5 (.code yX5_isLetter cX5_isLetter 1 (some .boolean) :: MW) (some .boolean) "isLetter")    {h : AH} {H : Heap} {locs : List Loc} {cells slots : Nat} {ls : Array Slot} (hR : Rp G h H) (hL : ∀ q ∈ locs, gB G ≤ q.base) (hl : zl ls 1 []) (hp : p_X5_isLetter_15   h = some (r, h')) : W p l e (gR G hs 1 40) s m args below meth c H locs cells slots (MQ below (Qcc G (some (.int r)) h') args s (gC G - aZ hs) (gS - aU hs) (fun q => gB G ≤ q)) (F0 m 15 ls []) := by
  obtain ⟨hx, hb, hml, hown, hts, hT, hK, rs, hlk, hret, hnm⟩ := id C
  have hm : ∀ w ∈ MW, w.before args s = true := fun w hw => hts w (hT w hw)
  unfold p_X5_isLetter_15 at hp
  refine lv_iconst (v := iI 0) hx hb dX5_isLetter_15 rfl ?_
  exact s_X5_isLetter_16 C  hR hL (zl_sub hl [] rfl) hp
def p_X5_isLetter_0  (v0 : Int32) (h : AH) : Option (Int32 × AH) :=
  if v0 < 0 then
    p_X5_isLetter_15   h
  else
    if (iI 150) ≤ v0 then
      p_X5_isLetter_15   h
    else
      p_X5_isLetter_16  (iI 1) h
set_option maxHeartbeats 4000000 in
set_option maxRecDepth 100000 in
theorem s_X5_isLetter_0 {p : Program} {l : Launch} {e : Env} {s : State} {m : MethodId} {args : Array Value} {below : List Frame} {meth : Method} {c : Code} {G : GG} {hs : AH} {r : Int32} {h' : AH} (C : Cx G hs p s m args meth c cX5_isLetter 1 RX5 (.code yX5_isLetter cX5_isLetter 1 (some .boolean) :: MW) (some .boolean) "isLetter")   {v0 : Int32} {h : AH} {H : Heap} {locs : List Loc} {cells slots : Nat} {ls : Array Slot} (hR : Rp G h H) (hL : ∀ q ∈ locs, gB G ≤ q.base) (hl : zl ls 1 [(0, .int v0)]) (hp : p_X5_isLetter_0  v0 h = some (r, h')) : W p l e (gR G hs 1 40) s m args below meth c H locs cells slots (MQ below (Qcc G (some (.int r)) h') args s (gC G - aZ hs) (gS - aU hs) (fun q => gB G ≤ q)) (F0 m 0 ls []) := by
  obtain ⟨hx, hb, hml, hown, hts, hT, hK, rs, hlk, hret, hnm⟩ := id C
  have hm : ∀ w ∈ MW, w.before args s = true := fun w hw => hts w (hT w hw)
  unfold p_X5_isLetter_0 at hp
  refine lv_iload_n hx hb dX5_isLetter_0 rfl (zl_at hl 0 rfl) ?_
  refine lv_if_lt (tgt := 15) hx hb dX5_isLetter_1 (by decide) (fun c1 => ?_) (fun c1 => ?_)
  · replace hp := ite_p hp c1
    exact s_X5_isLetter_15 C  hR hL (zl_sub hl [] rfl) hp
  · replace hp := ite_n hp c1
    refine lv_iload_n hx hb dX5_isLetter_4 rfl (zl_at hl 0 rfl) ?_
    refine lv_sipush (v := iI 150) hx hb dX5_isLetter_5 (by decide +kernel) ?_
    refine lv_icmp_ge (tgt := 15) hx hb dX5_isLetter_8 (by decide) (fun c2 => ?_) (fun c2 => ?_)
    · replace hp := ite_p hp c2
      exact s_X5_isLetter_15 C  hR hL (zl_sub hl [] rfl) hp
    · replace hp := ite_n hp c2
      refine lv_iconst (v := iI 1) hx hb dX5_isLetter_11 rfl ?_
      refine lv_goto (tgt := 16) hx hb dX5_isLetter_12 (by decide) ?_
      exact s_X5_isLetter_16 C  hR hL (zl_sub hl [] rfl) hp
def p_X5_isLetter (v0 : Int32) (h : AH) : Option (Int32 × AH) := p_X5_isLetter_0 v0 h
theorem c_X5_isLetter (l : Launch) (G : GG) (v0 : Int32) (h : AH) (r : Int32) (h' : AH) (hp : p_X5_isLetter v0 h = some (r, h')) : Ct l yX5_isLetter (.code yX5_isLetter cX5_isLetter 1 (some .boolean) :: MW) G 1 40 [.int v0] h (some (.int r)) h' := by
  refine Ct.of (by decide +kernel) (Nat.le_of_ble_eq_true rfl) ?_
  intro p e s m args below meth c C hR ls hl
  have hl : zl ls 1 [(0, .int v0)] := ⟨hl, by simp [zr_cat, in_cat]⟩
  exact s_X5_isLetter_0 C hR (fun _ hq => nomatch hq) hl hp
/-! CursorKeep$Neighbours.markGoing(I)V -/
def p_X5_markGoing_14   (h : AH) : Option (Unit × AH) :=
  some ((), h)
set_option maxHeartbeats 4000000 in
set_option maxRecDepth 100000 in
theorem s_X5_markGoing_14 {p : Program} {l : Launch} {e : Env} {s : State} {m : MethodId} {args : Array Value} {below : List Frame} {meth : Method} {c : Code} {G : GG} {hs : AH} {r : Unit} {h' : AH} (C : Cx G hs p s m args meth c cX5_markGoing 2 RX5 (.code yX5_markGoing cX5_markGoing 2 none :: MW) none "markGoing")    {h : AH} {H : Heap} {locs : List Loc} {cells slots : Nat} {ls : Array Slot} (hR : Rp G h H) (hL : ∀ q ∈ locs, gB G ≤ q.base) (hl : zl ls 2 []) (hp : p_X5_markGoing_14   h = some (r, h')) : W p l e (gR G hs 2 60) s m args below meth c H locs cells slots (MQ below (Qcc G (none) h') args s (gC G - aZ hs) (gS - aU hs) (fun q => gB G ≤ q)) (F0 m 14 ls []) := by
  obtain ⟨hx, hb, hml, hown, hts, hT, hK, rs, hlk, hret, hnm⟩ := id C
  have hm : ∀ w ∈ MW, w.before args s = true := fun w hw => hts w (hT w hw)
  unfold p_X5_markGoing_14 at hp
  cases hp
  exact r_vret C hR hL dX5_markGoing_14
def p_X5_markGoing_0  (v0 : Nat) (v1 : Int32) (h : AH) : Option (Unit × AH) :=
  bR (p_X5_isLetter v1 h) fun r1 h2 =>
  if r1 = 0 then
    p_X5_markGoing_14   h2
  else
    ck (aK h2 v0 = 7) <|
    ck (aK h2 (aR h2 v0 0) = 22 ∧ ix v1 (aN h2 (aR h2 v0 0))) <|
    nm (uI h2 (aR h2 v0 0) v1.toNatClampNeg (nZ (iI 1))) fun h7 =>
    p_X5_markGoing_14   h7
set_option maxHeartbeats 4000000 in
set_option maxRecDepth 100000 in
theorem s_X5_markGoing_0 {p : Program} {l : Launch} {e : Env} {s : State} {m : MethodId} {args : Array Value} {below : List Frame} {meth : Method} {c : Code} {G : GG} {hs : AH} {r : Unit} {h' : AH} (C : Cx G hs p s m args meth c cX5_markGoing 2 RX5 (.code yX5_markGoing cX5_markGoing 2 none :: MW) none "markGoing")   {v0 : Nat} {v1 : Int32} {h : AH} {H : Heap} {locs : List Loc} {cells slots : Nat} {ls : Array Slot} (hR : Rp G h H) (hL : ∀ q ∈ locs, gB G ≤ q.base) (hl : zl ls 2 [(0, zr v0), (1, .int v1)]) (hp : p_X5_markGoing_0  v0 v1 h = some (r, h')) : W p l e (gR G hs 2 60) s m args below meth c H locs cells slots (MQ below (Qcc G (none) h') args s (gC G - aZ hs) (gS - aU hs) (fun q => gB G ≤ q)) (F0 m 0 ls []) := by
  obtain ⟨hx, hb, hml, hown, hts, hT, hK, rs, hlk, hret, hnm⟩ := id C
  have hm : ∀ w ∈ MW, w.before args s = true := fun w hw => hts w (hT w hw)
  unfold p_X5_markGoing_0 at hp
  refine lv_iload_n hx hb dX5_markGoing_0 rfl (zl_at hl 1 rfl) ?_
  obtain ⟨r1, h2, er1, hp⟩ := bR_i hp
  refine r_callS (n := 1) (As := [.int v1]) (rest := []) C (c_X5_isLetter l G v1 h r1 h2 er1) hR hL mw_744 mw_745 mw_6 mw_746 (by decide +kernel) (by decide) rfl (zl_size hl) rfl (by simp [zr_cat, in_cat]) dX5_markGoing_1 (st2 := [.int r1]) rfl (fun H locs cells slots hR hL => ?_)
  refine lv_if_eq (tgt := 14) hx hb dX5_markGoing_4 (by decide) (fun c3 => ?_) (fun c3 => ?_)
  · replace hp := ite_p hp c3
    exact s_X5_markGoing_14 C  hR hL (zl_sub hl [] rfl) hp
  · replace hp := ite_n hp c3
    refine z_aload_n hx hb dX5_markGoing_7 rfl (zl_at hl 0 rfl) ?_
    obtain ⟨k4, hp⟩ := ck_i hp
    refine r_get (ci := 6) (C := RX5) (T := TX5) (N := 3) (v := zr (aR h2 v0 0)) hx hb hm ii_X5 hown hK hR rfl k4 0 (by decide) (hm _ mw_92) (fun _ h9 => h9) rfl dX5_markGoing_8 ?_
    refine lv_iload_n hx hb dX5_markGoing_11 rfl (zl_at hl 1 rfl) ?_
    refine lv_iconst (v := iI 1) hx hb dX5_markGoing_12 rfl ?_
    obtain ⟨k5, hp⟩ := ck_i hp
    refine r_zast hx hb hK hR hL k5.1 k5.2 dX5_markGoing_13 (fun H locs hR hL => ?_)
    obtain ⟨h7, hp, hR⟩ := nm_h hp hR
    exact s_X5_markGoing_14 C  hR hL (zl_sub hl [] rfl) hp
def p_X5_markGoing (v0 : Nat) (v1 : Int32) (h : AH) : Option (Unit × AH) := ck (v0 ≠ 0) <| p_X5_markGoing_0 v0 v1 h
theorem c_X5_markGoing (l : Launch) (G : GG) (v0 : Nat) (v1 : Int32) (h : AH) (r : Unit) (h' : AH) (hp : p_X5_markGoing v0 v1 h = some (r, h')) : Ct l yX5_markGoing (.code yX5_markGoing cX5_markGoing 2 none :: MW) G 2 60 [.ref (v0 - 1), .int v1] h (none) h' := by
  obtain ⟨hz0, hp⟩ := ck_i hp
  refine Ct.of (by decide +kernel) (Nat.le_of_ble_eq_true rfl) ?_
  intro p e s m args below meth c C hR ls hl
  have hl : zl ls 2 [(0, zr v0), (1, .int v1)] := ⟨by rw [zr_p hz0]; exact hl, by simp [zr_cat, in_cat]⟩
  exact s_X5_markGoing_0 C hR (fun _ hq => nomatch hq) hl hp
/-! CursorKeep$Neighbours.pass(LCursorKeep$Row;II[I)I -/
def p_X5_pass_14  (v3 : Int32) (h : AH) : Option (Int32 × AH) :=
  some (v3, h)
set_option maxHeartbeats 4000000 in
set_option maxRecDepth 100000 in
theorem s_X5_pass_14 {p : Program} {l : Launch} {e : Env} {s : State} {m : MethodId} {args : Array Value} {below : List Frame} {meth : Method} {c : Code} {G : GG} {hs : AH} {r : Int32} {h' : AH} (C : Cx G hs p s m args meth c cX5_pass 5 RX5 (.code yX5_pass cX5_pass 5 (some .int) :: MW) (some .int) "pass")   {v3 : Int32} {h : AH} {H : Heap} {locs : List Loc} {cells slots : Nat} {ls : Array Slot} (hR : Rp G h H) (hL : ∀ q ∈ locs, gB G ≤ q.base) (hl : zl ls 5 [(3, .int v3)]) (hp : p_X5_pass_14  v3 h = some (r, h')) : W p l e (gR G hs 3 82) s m args below meth c H locs cells slots (MQ below (Qcc G (some (.int r)) h') args s (gC G - aZ hs) (gS - aU hs) (fun q => gB G ≤ q)) (F0 m 14 ls []) := by
  obtain ⟨hx, hb, hml, hown, hts, hT, hK, rs, hlk, hret, hnm⟩ := id C
  have hm : ∀ w ∈ MW, w.before args s = true := fun w hw => hts w (hT w hw)
  unfold p_X5_pass_14 at hp
  refine lv_iload_n hx hb dX5_pass_14 rfl (zl_at hl 0 rfl) ?_
  cases hp
  exact r_zret C hR hL rfl dX5_pass_15
def p_X5_pass_43  (s0 : Int32) (h : AH) : Option (Int32 × AH) :=
  some (s0, h)
set_option maxHeartbeats 4000000 in
set_option maxRecDepth 100000 in
theorem s_X5_pass_43 {p : Program} {l : Launch} {e : Env} {s : State} {m : MethodId} {args : Array Value} {below : List Frame} {meth : Method} {c : Code} {G : GG} {hs : AH} {r : Int32} {h' : AH} (C : Cx G hs p s m args meth c cX5_pass 5 RX5 (.code yX5_pass cX5_pass 5 (some .int) :: MW) (some .int) "pass")   {s0 : Int32} {h : AH} {H : Heap} {locs : List Loc} {cells slots : Nat} {ls : Array Slot} (hR : Rp G h H) (hL : ∀ q ∈ locs, gB G ≤ q.base) (hl : zl ls 5 []) (hp : p_X5_pass_43  s0 h = some (r, h')) : W p l e (gR G hs 3 82) s m args below meth c H locs cells slots (MQ below (Qcc G (some (.int r)) h') args s (gC G - aZ hs) (gS - aU hs) (fun q => gB G ≤ q)) (F0 m 43 ls [.int s0]) := by
  obtain ⟨hx, hb, hml, hown, hts, hT, hK, rs, hlk, hret, hnm⟩ := id C
  have hm : ∀ w ∈ MW, w.before args s = true := fun w hw => hts w (hT w hw)
  unfold p_X5_pass_43 at hp
  cases hp
  exact r_zret C hR hL rfl dX5_pass_43
def p_X5_pass_42  (v3 : Int32) (h : AH) : Option (Int32 × AH) :=
  p_X5_pass_43  v3 h
set_option maxHeartbeats 4000000 in
set_option maxRecDepth 100000 in
theorem s_X5_pass_42 {p : Program} {l : Launch} {e : Env} {s : State} {m : MethodId} {args : Array Value} {below : List Frame} {meth : Method} {c : Code} {G : GG} {hs : AH} {r : Int32} {h' : AH} (C : Cx G hs p s m args meth c cX5_pass 5 RX5 (.code yX5_pass cX5_pass 5 (some .int) :: MW) (some .int) "pass")   {v3 : Int32} {h : AH} {H : Heap} {locs : List Loc} {cells slots : Nat} {ls : Array Slot} (hR : Rp G h H) (hL : ∀ q ∈ locs, gB G ≤ q.base) (hl : zl ls 5 [(3, .int v3)]) (hp : p_X5_pass_42  v3 h = some (r, h')) : W p l e (gR G hs 3 82) s m args below meth c H locs cells slots (MQ below (Qcc G (some (.int r)) h') args s (gC G - aZ hs) (gS - aU hs) (fun q => gB G ≤ q)) (F0 m 42 ls []) := by
  obtain ⟨hx, hb, hml, hown, hts, hT, hK, rs, hlk, hret, hnm⟩ := id C
  have hm : ∀ w ∈ MW, w.before args s = true := fun w hw => hts w (hT w hw)
  unfold p_X5_pass_42 at hp
  refine lv_iload_n hx hb dX5_pass_42 rfl (zl_at hl 0 rfl) ?_
  exact s_X5_pass_43 C  hR hL (zl_sub hl [] rfl) hp
def p_X5_pass_0  (v0 : Nat) (v1 : Nat) (v2 : Int32) (v3 : Int32) (v4 : Nat) (h : AH) : Option (Int32 × AH) :=
  bR (p_X5_isLetter v2 h) fun r1 h2 =>
  if r1 = 0 then
    p_X5_pass_14  v3 h2
  else
    ck (aK h2 v4 = 20) <|
    if v2 < (nI (aN h2 v4)) then
      ck (aK h2 v4 = 20 ∧ ix v2 (aN h2 v4)) <|
      nm (uI h2 v4 v2.toNatClampNeg v3) fun h8 =>
      ck (aK h8 v1 = 9) <|
      bR (p_X7_shows v1 v2 h8) fun r10 h11 =>
      if r10 = 0 then
        p_X5_pass_42  v3 h11
      else
        ck (aK h11 v0 = 7) <|
        ck (aK h11 (aR h11 v0 0) = 22 ∧ ix v2 (aN h11 (aR h11 v0 0))) <|
        if (aI h11 (aR h11 v0 0) v2.toNatClampNeg) = 0 then
          p_X5_pass_43  v2 h11
        else
          p_X5_pass_42  v3 h11
    else
      p_X5_pass_14  v3 h2
set_option maxHeartbeats 4000000 in
set_option maxRecDepth 100000 in
theorem s_X5_pass_0 {p : Program} {l : Launch} {e : Env} {s : State} {m : MethodId} {args : Array Value} {below : List Frame} {meth : Method} {c : Code} {G : GG} {hs : AH} {r : Int32} {h' : AH} (C : Cx G hs p s m args meth c cX5_pass 5 RX5 (.code yX5_pass cX5_pass 5 (some .int) :: MW) (some .int) "pass")   {v0 : Nat} {v1 : Nat} {v2 : Int32} {v3 : Int32} {v4 : Nat} {h : AH} {H : Heap} {locs : List Loc} {cells slots : Nat} {ls : Array Slot} (hR : Rp G h H) (hL : ∀ q ∈ locs, gB G ≤ q.base) (hl : zl ls 5 [(0, zr v0), (1, zr v1), (2, .int v2), (3, .int v3), (4, zr v4)]) (hp : p_X5_pass_0  v0 v1 v2 v3 v4 h = some (r, h')) : W p l e (gR G hs 3 82) s m args below meth c H locs cells slots (MQ below (Qcc G (some (.int r)) h') args s (gC G - aZ hs) (gS - aU hs) (fun q => gB G ≤ q)) (F0 m 0 ls []) := by
  obtain ⟨hx, hb, hml, hown, hts, hT, hK, rs, hlk, hret, hnm⟩ := id C
  have hm : ∀ w ∈ MW, w.before args s = true := fun w hw => hts w (hT w hw)
  unfold p_X5_pass_0 at hp
  refine lv_iload_n hx hb dX5_pass_0 rfl (zl_at hl 2 rfl) ?_
  obtain ⟨r1, h2, er1, hp⟩ := bR_i hp
  refine r_callS (n := 1) (As := [.int v2]) (rest := []) C (c_X5_isLetter l G v2 h r1 h2 er1) hR hL mw_744 mw_745 mw_6 mw_746 (by decide +kernel) (by decide) rfl (zl_size hl) rfl (by simp [zr_cat, in_cat]) dX5_pass_1 (st2 := [.int r1]) rfl (fun H locs cells slots hR hL => ?_)
  refine lv_if_eq (tgt := 14) hx hb dX5_pass_4 (by decide) (fun c3 => ?_) (fun c3 => ?_)
  · replace hp := ite_p hp c3
    exact s_X5_pass_14 C  hR hL (zl_sub hl [3] rfl) hp
  · replace hp := ite_n hp c3
    refine lv_iload_n hx hb dX5_pass_7 rfl (zl_at hl 2 rfl) ?_
    refine z_aload hx hb dX5_pass_8 (zl_at hl 4 rfl) ?_
    obtain ⟨k4, hp⟩ := ck_i hp
    refine r_alen (t := 0) (by decide) hx hb hK hR k4 dX5_pass_10 ?_
    refine lv_icmp_lt (tgt := 16) hx hb dX5_pass_11 (by decide) (fun c5 => ?_) (fun c5 => ?_)
    · replace hp := ite_p hp c5
      refine z_aload hx hb dX5_pass_16 (zl_at hl 4 rfl) ?_
      refine lv_iload_n hx hb dX5_pass_18 rfl (zl_at hl 2 rfl) ?_
      refine lv_iload_n hx hb dX5_pass_19 rfl (zl_at hl 3 rfl) ?_
      obtain ⟨k6, hp⟩ := ck_i hp
      refine r_iast hx hb hK hR hL k6.1 k6.2 dX5_pass_20 (fun H locs hR hL => ?_)
      obtain ⟨h8, hp, hR⟩ := nm_h hp hR
      refine z_aload_n hx hb dX5_pass_21 rfl (zl_at hl 1 rfl) ?_
      refine lv_iload_n hx hb dX5_pass_22 rfl (zl_at hl 2 rfl) ?_
      obtain ⟨k9, hp⟩ := ck_i hp
      obtain ⟨r10, h11, er10, hp⟩ := bR_i hp
      refine r_callV (ci := 8) (r := (RX7, TX7, 4)) (n := 1) (As := [.int v2]) (rest := []) C (c_X7_shows l G v1 v2 h8 r10 h11 er10) hR hL rfl k9 mw_757 mw_280 mw_281 mw_8 mw_282 (by decide +kernel) (by decide) rfl (zl_size hl) rfl (by simp [zr_cat, in_cat]) dX5_pass_23 (st2 := [.int r10]) rfl (fun H locs cells slots hR hL => ?_)
      refine lv_if_eq (tgt := 42) hx hb dX5_pass_26 (by decide) (fun c12 => ?_) (fun c12 => ?_)
      · replace hp := ite_p hp c12
        exact s_X5_pass_42 C  hR hL (zl_sub hl [3] rfl) hp
      · replace hp := ite_n hp c12
        refine z_aload_n hx hb dX5_pass_29 rfl (zl_at hl 0 rfl) ?_
        obtain ⟨k13, hp⟩ := ck_i hp
        refine r_get (ci := 6) (C := RX5) (T := TX5) (N := 3) (v := zr (aR h11 v0 0)) hx hb hm ii_X5 hown hK hR rfl k13 0 (by decide) (hm _ mw_92) (fun _ h9 => h9) rfl dX5_pass_30 ?_
        refine lv_iload_n hx hb dX5_pass_33 rfl (zl_at hl 2 rfl) ?_
        obtain ⟨k14, hp⟩ := ck_i hp
        refine r_zald hx hb hK hR k14.1 k14.2 dX5_pass_34 ?_
        refine lv_if_ne (tgt := 42) hx hb dX5_pass_35 (by decide) (fun c16 => ?_) (fun c16 => ?_)
        · replace hp := ite_n hp c16
          exact s_X5_pass_42 C  hR hL (zl_sub hl [3] rfl) hp
        · replace hp := ite_p hp c16
          refine lv_iload_n hx hb dX5_pass_38 rfl (zl_at hl 2 rfl) ?_
          refine lv_goto (tgt := 43) hx hb dX5_pass_39 (by decide) ?_
          exact s_X5_pass_43 C  hR hL (zl_sub hl [] rfl) hp
    · replace hp := ite_n hp c5
      exact s_X5_pass_14 C  hR hL (zl_sub hl [3] rfl) hp
def p_X5_pass (v0 : Nat) (v1 : Nat) (v2 : Int32) (v3 : Int32) (v4 : Nat) (h : AH) : Option (Int32 × AH) := ck (v0 ≠ 0) <| ck (v1 ≠ 0) <| ck (v4 ≠ 0) <| p_X5_pass_0 v0 v1 v2 v3 v4 h
theorem c_X5_pass (l : Launch) (G : GG) (v0 : Nat) (v1 : Nat) (v2 : Int32) (v3 : Int32) (v4 : Nat) (h : AH) (r : Int32) (h' : AH) (hp : p_X5_pass v0 v1 v2 v3 v4 h = some (r, h')) : Ct l yX5_pass (.code yX5_pass cX5_pass 5 (some .int) :: MW) G 3 82 [.ref (v0 - 1), zr v1, .int v2, .int v3, zr v4] h (some (.int r)) h' := by
  obtain ⟨hz0, hp⟩ := ck_i hp
  obtain ⟨hz1, hp⟩ := ck_i hp
  obtain ⟨hz4, hp⟩ := ck_i hp
  rw [show zr v1 = .ref (v1 - 1) from zr_p hz1]
  rw [show zr v4 = .ref (v4 - 1) from zr_p hz4]
  refine Ct.of (by decide +kernel) (Nat.le_of_ble_eq_true rfl) ?_
  intro p e s m args below meth c C hR ls hl
  have hl : zl ls 5 [(0, zr v0), (1, zr v1), (2, .int v2), (3, .int v3), (4, zr v4)] := ⟨by rw [zr_p hz0, zr_p hz1, zr_p hz4]; exact hl, by simp [zr_cat, in_cat]⟩
  exact s_X5_pass_0 C hR (fun _ hq => nomatch hq) hl hp
/-! CursorKeep$Neighbours.find(LCursorKeep$Row;)V -/
def p_X5_find_43  : Nat → Nat → Nat → Int32 → Int32 → AH → Option (Unit × AH)
  | 0, _, _, _, _, _ => none
  | n + 1, v0, v1, v2, v3, h =>
    if v3 < 0 then
      some ((), h)
    else
      ck (aK h v1 = 9) <|
      bR (p_X7_letterAt v1 v3 h) fun r3 h4 =>
      ck (aK h4 v0 = 7) <|
      ck (aK h4 v0 = 7) <|
      bR (p_X5_pass v0 v1 r3 v2 (aR h4 v0 2) h4) fun r7 h8 =>
      nm (v3 + iI (-1)) fun (x9 : Int32) =>
      p_X5_find_43  n v0 v1 r7 x9 h8
set_option maxHeartbeats 4000000 in
set_option maxRecDepth 100000 in
theorem s_X5_find_43 {p : Program} {l : Launch} {e : Env} {s : State} {m : MethodId} {args : Array Value} {below : List Frame} {meth : Method} {c : Code} {G : GG} {hs : AH} {r : Unit} {h' : AH} (C : Cx G hs p s m args meth c cX5_find 4 RX5 (.code yX5_find cX5_find 4 none :: MW) none "find")   : ∀ (n : Nat) (v0 : Nat) (v1 : Nat) (v2 : Int32) (v3 : Int32) (h : AH) (H : Heap) (locs : List Loc) (cells slots : Nat) (ls : Array Slot) (hR : Rp G h H) (hL : ∀ q ∈ locs, gB G ≤ q.base) (hl : zl ls 4 [(0, zr v0), (1, zr v1), (2, .int v2), (3, .int v3)]) (hp : p_X5_find_43  n v0 v1 v2 v3 h = some (r, h')), W p l e (gR G hs 4 106) s m args below meth c H locs cells slots (MQ below (Qcc G (none) h') args s (gC G - aZ hs) (gS - aU hs) (fun q => gB G ≤ q)) (F0 m 43 ls []) := by
  obtain ⟨hx, hb, hml, hown, hts, hT, hK, rs, hlk, hret, hnm⟩ := id C
  have hm : ∀ w ∈ MW, w.before args s = true := fun w hw => hts w (hT w hw)
  intro n
  induction n with
  | zero =>
    intro v0 v1 v2 v3 h H locs cells slots ls hR hL hl hp
    exact absurd (show none = some (r, h') from hp) (by simp)
  | succ n ih =>
    intro v0 v1 v2 v3 h H locs cells slots ls hR hL hl hp
    rw [p_X5_find_43.eq_2] at hp
    refine lv_iload_n hx hb dX5_find_43 rfl (zl_at hl 3 rfl) ?_
    refine lv_if_lt (tgt := 69) hx hb dX5_find_44 (by decide) (fun c1 => ?_) (fun c1 => ?_)
    · replace hp := ite_p hp c1
      cases hp
      exact r_vret C hR hL dX5_find_69
    · replace hp := ite_n hp c1
      refine z_aload_n hx hb dX5_find_47 rfl (zl_at hl 0 rfl) ?_
      refine z_aload_n hx hb dX5_find_48 rfl (zl_at hl 1 rfl) ?_
      refine z_aload_n hx hb dX5_find_49 rfl (zl_at hl 1 rfl) ?_
      refine lv_iload_n hx hb dX5_find_50 rfl (zl_at hl 3 rfl) ?_
      obtain ⟨k2, hp⟩ := ck_i hp
      obtain ⟨r3, h4, er3, hp⟩ := bR_i hp
      refine r_callV (ci := 8) (r := (RX7, TX7, 4)) (n := 1) (As := [.int v3]) (rest := [zr v1, zr v0]) C (c_X7_letterAt l G v1 v3 h r3 h4 er3) hR hL rfl k2 mw_752 mw_276 mw_277 mw_8 mw_278 (by decide +kernel) (by decide) rfl (zl_size hl) rfl (by simp [zr_cat, in_cat]) dX5_find_51 (st2 := [.int r3, zr v1, zr v0]) rfl (fun H locs cells slots hR hL => ?_)
      refine lv_iload_n hx hb dX5_find_54 rfl (zl_at hl 2 rfl) ?_
      refine z_aload_n hx hb dX5_find_55 rfl (zl_at hl 0 rfl) ?_
      obtain ⟨k5, hp⟩ := ck_i hp
      refine r_get (ci := 6) (C := RX5) (T := TX5) (N := 3) (v := zr (aR h4 v0 2)) hx hb hm ii_X5 hown hK hR rfl k5 2 (by decide) (hm _ mw_94) (fun _ h9 => h9) rfl dX5_find_56 ?_
      obtain ⟨k6, hp⟩ := ck_i hp
      obtain ⟨r7, h8, er7, hp⟩ := bR_i hp
      refine r_callV (ci := 6) (r := (RX5, TX5, 3)) (n := 4) (As := [zr v1, .int r3, .int v2, zr (aR h4 v0 2)]) (rest := []) C (c_X5_pass l G v0 v1 r3 v2 (aR h4 v0 2) h4 r7 h8 er7) hR hL rfl k6 mw_753 mw_755 mp_15 mw_6 mw_756 (by decide +kernel) (by decide) rfl (zl_size hl) rfl (by simp [zr_cat, in_cat]) dX5_find_59 (st2 := [.int r7]) rfl (fun H locs cells slots hR hL => ?_)
      refine z_istore_n (lv' := [(2, .int r7), (0, zr v0), (1, zr v1), (3, .int v3)]) hx hb dX5_find_62 rfl hl (by decide) rfl (fun ls hl => ?_)
      obtain ⟨x9, ex9⟩ : ∃ y : Int32, y = v3 + iI (-1) := ⟨_, rfl⟩
      replace hp := nm_i hp ex9
      refine z_iinc (v := x9) (lv' := [(3, .int x9), (2, .int r7), (0, zr v0), (1, zr v1)]) hx hb dX5_find_63 hl (k := 3) rfl ex9 (by decide) rfl (fun ls hl => ?_)
      refine lv_goto (tgt := 43) hx hb dX5_find_66 (by decide) ?_
      exact ih _ _ _ _ _ _ _ _ _ _ hR hL (zl_sub hl [2, 3, 1, 0] rfl) hp
def p_X5_find_4  : Nat → Nat → Nat → Int32 → Int32 → AH → Option (Unit × AH)
  | 0, _, _, _, _, _ => none
  | n + 1, v0, v1, v2, v3, h =>
    ck (aK h v1 = 9) <|
    bR (p_X7_count v1 h) fun r2 h3 =>
    if r2 ≤ v3 then
      nm ((iI (-1))) fun (x5 : Int32) =>
      ck (aK h3 v1 = 9) <|
      bR (p_X7_count v1 h3) fun r7 h8 =>
      nm ((r7 - (iI 1))) fun (x9 : Int32) =>
      p_X5_find_43  FU v0 v1 x5 x9 h8
    else
      ck (aK h3 v1 = 9) <|
      bR (p_X7_letterAt v1 v3 h3) fun r11 h12 =>
      ck (aK h12 v0 = 7) <|
      ck (aK h12 v0 = 7) <|
      bR (p_X5_pass v0 v1 r11 v2 (aR h12 v0 1) h12) fun r15 h16 =>
      nm (v3 + iI 1) fun (x17 : Int32) =>
      p_X5_find_4  n v0 v1 r15 x17 h16
set_option maxHeartbeats 4000000 in
set_option maxRecDepth 100000 in
theorem s_X5_find_4 {p : Program} {l : Launch} {e : Env} {s : State} {m : MethodId} {args : Array Value} {below : List Frame} {meth : Method} {c : Code} {G : GG} {hs : AH} {r : Unit} {h' : AH} (C : Cx G hs p s m args meth c cX5_find 4 RX5 (.code yX5_find cX5_find 4 none :: MW) none "find")   : ∀ (n : Nat) (v0 : Nat) (v1 : Nat) (v2 : Int32) (v3 : Int32) (h : AH) (H : Heap) (locs : List Loc) (cells slots : Nat) (ls : Array Slot) (hR : Rp G h H) (hL : ∀ q ∈ locs, gB G ≤ q.base) (hl : zl ls 4 [(0, zr v0), (1, zr v1), (2, .int v2), (3, .int v3)]) (hp : p_X5_find_4  n v0 v1 v2 v3 h = some (r, h')), W p l e (gR G hs 4 106) s m args below meth c H locs cells slots (MQ below (Qcc G (none) h') args s (gC G - aZ hs) (gS - aU hs) (fun q => gB G ≤ q)) (F0 m 4 ls []) := by
  obtain ⟨hx, hb, hml, hown, hts, hT, hK, rs, hlk, hret, hnm⟩ := id C
  have hm : ∀ w ∈ MW, w.before args s = true := fun w hw => hts w (hT w hw)
  intro n
  induction n with
  | zero =>
    intro v0 v1 v2 v3 h H locs cells slots ls hR hL hl hp
    exact absurd (show none = some (r, h') from hp) (by simp)
  | succ n ih =>
    intro v0 v1 v2 v3 h H locs cells slots ls hR hL hl hp
    rw [p_X5_find_4.eq_2] at hp
    refine lv_iload_n hx hb dX5_find_4 rfl (zl_at hl 3 rfl) ?_
    refine z_aload_n hx hb dX5_find_5 rfl (zl_at hl 1 rfl) ?_
    obtain ⟨k1, hp⟩ := ck_i hp
    obtain ⟨r2, h3, er2, hp⟩ := bR_i hp
    refine r_callV (ci := 8) (r := (RX7, TX7, 4)) (n := 0) (As := []) (rest := [.int v3]) C (c_X7_count l G v1 h r2 h3 er2) hR hL rfl k1 mw_751 mw_272 mw_273 mw_8 mw_274 (by decide +kernel) (by decide) rfl (zl_size hl) rfl (by simp [zr_cat, in_cat]) dX5_find_6 (st2 := [.int r2, .int v3]) rfl (fun H locs cells slots hR hL => ?_)
    refine lv_icmp_ge (tgt := 34) hx hb dX5_find_9 (by decide) (fun c4 => ?_) (fun c4 => ?_)
    · replace hp := ite_p hp c4
      refine lv_iconst (v := iI (-1)) hx hb dX5_find_34 rfl ?_
      refine lv_topi (fun x5 ex5 => ?_)
      replace hp := nm_i hp ex5
      refine z_istore_n (lv' := [(2, .int x5), (0, zr v0), (1, zr v1), (3, .int v3)]) hx hb dX5_find_35 rfl hl (by decide) rfl (fun ls hl => ?_)
      refine z_aload_n hx hb dX5_find_36 rfl (zl_at hl 2 rfl) ?_
      obtain ⟨k6, hp⟩ := ck_i hp
      obtain ⟨r7, h8, er7, hp⟩ := bR_i hp
      refine r_callV (ci := 8) (r := (RX7, TX7, 4)) (n := 0) (As := []) (rest := []) C (c_X7_count l G v1 h3 r7 h8 er7) hR hL rfl k6 mw_751 mw_272 mw_273 mw_8 mw_274 (by decide +kernel) (by decide) rfl (zl_size hl) rfl (by simp [zr_cat, in_cat]) dX5_find_37 (st2 := [.int r7]) rfl (fun H locs cells slots hR hL => ?_)
      refine lv_iconst (v := iI 1) hx hb dX5_find_40 rfl ?_
      refine lv_isub hx hb dX5_find_41 ?_
      refine lv_topi (fun x9 ex9 => ?_)
      replace hp := nm_i hp ex9
      refine z_istore_n (lv' := [(3, .int x9), (2, .int x5), (0, zr v0), (1, zr v1)]) hx hb dX5_find_42 rfl hl (by decide) rfl (fun ls hl => ?_)
      exact s_X5_find_43 C  _ _ _ _ _ _ _ _ _ _ _ hR hL (zl_sub hl [2, 3, 1, 0] rfl) hp
    · replace hp := ite_n hp c4
      refine z_aload_n hx hb dX5_find_12 rfl (zl_at hl 0 rfl) ?_
      refine z_aload_n hx hb dX5_find_13 rfl (zl_at hl 1 rfl) ?_
      refine z_aload_n hx hb dX5_find_14 rfl (zl_at hl 1 rfl) ?_
      refine lv_iload_n hx hb dX5_find_15 rfl (zl_at hl 3 rfl) ?_
      obtain ⟨k10, hp⟩ := ck_i hp
      obtain ⟨r11, h12, er11, hp⟩ := bR_i hp
      refine r_callV (ci := 8) (r := (RX7, TX7, 4)) (n := 1) (As := [.int v3]) (rest := [zr v1, zr v0]) C (c_X7_letterAt l G v1 v3 h3 r11 h12 er11) hR hL rfl k10 mw_752 mw_276 mw_277 mw_8 mw_278 (by decide +kernel) (by decide) rfl (zl_size hl) rfl (by simp [zr_cat, in_cat]) dX5_find_16 (st2 := [.int r11, zr v1, zr v0]) rfl (fun H locs cells slots hR hL => ?_)
      refine lv_iload_n hx hb dX5_find_19 rfl (zl_at hl 2 rfl) ?_
      refine z_aload_n hx hb dX5_find_20 rfl (zl_at hl 0 rfl) ?_
      obtain ⟨k13, hp⟩ := ck_i hp
      refine r_get (ci := 6) (C := RX5) (T := TX5) (N := 3) (v := zr (aR h12 v0 1)) hx hb hm ii_X5 hown hK hR rfl k13 1 (by decide) (hm _ mw_93) (fun _ h9 => h9) rfl dX5_find_21 ?_
      obtain ⟨k14, hp⟩ := ck_i hp
      obtain ⟨r15, h16, er15, hp⟩ := bR_i hp
      refine r_callV (ci := 6) (r := (RX5, TX5, 3)) (n := 4) (As := [zr v1, .int r11, .int v2, zr (aR h12 v0 1)]) (rest := []) C (c_X5_pass l G v0 v1 r11 v2 (aR h12 v0 1) h12 r15 h16 er15) hR hL rfl k14 mw_753 mw_755 mp_15 mw_6 mw_756 (by decide +kernel) (by decide) rfl (zl_size hl) rfl (by simp [zr_cat, in_cat]) dX5_find_24 (st2 := [.int r15]) rfl (fun H locs cells slots hR hL => ?_)
      refine z_istore_n (lv' := [(2, .int r15), (0, zr v0), (1, zr v1), (3, .int v3)]) hx hb dX5_find_27 rfl hl (by decide) rfl (fun ls hl => ?_)
      obtain ⟨x17, ex17⟩ : ∃ y : Int32, y = v3 + iI 1 := ⟨_, rfl⟩
      replace hp := nm_i hp ex17
      refine z_iinc (v := x17) (lv' := [(3, .int x17), (2, .int r15), (0, zr v0), (1, zr v1)]) hx hb dX5_find_28 hl (k := 3) rfl ex17 (by decide) rfl (fun ls hl => ?_)
      refine lv_goto (tgt := 4) hx hb dX5_find_31 (by decide) ?_
      exact ih _ _ _ _ _ _ _ _ _ _ hR hL (zl_sub hl [2, 3, 1, 0] rfl) hp
def p_X5_find_0  (v0 : Nat) (v1 : Nat) (h : AH) : Option (Unit × AH) :=
  nm ((iI (-1))) fun (x1 : Int32) =>
  nm ((iI 0)) fun (x2 : Int32) =>
  p_X5_find_4  FU v0 v1 x1 x2 h
set_option maxHeartbeats 4000000 in
set_option maxRecDepth 100000 in
theorem s_X5_find_0 {p : Program} {l : Launch} {e : Env} {s : State} {m : MethodId} {args : Array Value} {below : List Frame} {meth : Method} {c : Code} {G : GG} {hs : AH} {r : Unit} {h' : AH} (C : Cx G hs p s m args meth c cX5_find 4 RX5 (.code yX5_find cX5_find 4 none :: MW) none "find")   {v0 : Nat} {v1 : Nat} {h : AH} {H : Heap} {locs : List Loc} {cells slots : Nat} {ls : Array Slot} (hR : Rp G h H) (hL : ∀ q ∈ locs, gB G ≤ q.base) (hl : zl ls 4 [(0, zr v0), (1, zr v1)]) (hp : p_X5_find_0  v0 v1 h = some (r, h')) : W p l e (gR G hs 4 106) s m args below meth c H locs cells slots (MQ below (Qcc G (none) h') args s (gC G - aZ hs) (gS - aU hs) (fun q => gB G ≤ q)) (F0 m 0 ls []) := by
  obtain ⟨hx, hb, hml, hown, hts, hT, hK, rs, hlk, hret, hnm⟩ := id C
  have hm : ∀ w ∈ MW, w.before args s = true := fun w hw => hts w (hT w hw)
  unfold p_X5_find_0 at hp
  refine lv_iconst (v := iI (-1)) hx hb dX5_find_0 rfl ?_
  refine lv_topi (fun x1 ex1 => ?_)
  replace hp := nm_i hp ex1
  refine z_istore_n (lv' := [(2, .int x1), (0, zr v0), (1, zr v1)]) hx hb dX5_find_1 rfl hl (by decide) rfl (fun ls hl => ?_)
  refine lv_iconst (v := iI 0) hx hb dX5_find_2 rfl ?_
  refine lv_topi (fun x2 ex2 => ?_)
  replace hp := nm_i hp ex2
  refine z_istore_n (lv' := [(3, .int x2), (2, .int x1), (0, zr v0), (1, zr v1)]) hx hb dX5_find_3 rfl hl (by decide) rfl (fun ls hl => ?_)
  exact s_X5_find_4 C  _ _ _ _ _ _ _ _ _ _ _ hR hL (zl_sub hl [2, 3, 1, 0] rfl) hp
def p_X5_find (v0 : Nat) (v1 : Nat) (h : AH) : Option (Unit × AH) := ck (v0 ≠ 0) <| ck (v1 ≠ 0) <| p_X5_find_0 v0 v1 h
theorem c_X5_find (l : Launch) (G : GG) (v0 : Nat) (v1 : Nat) (h : AH) (r : Unit) (h' : AH) (hp : p_X5_find v0 v1 h = some (r, h')) : Ct l yX5_find (.code yX5_find cX5_find 4 none :: MW) G 4 106 [.ref (v0 - 1), zr v1] h (none) h' := by
  obtain ⟨hz0, hp⟩ := ck_i hp
  obtain ⟨hz1, hp⟩ := ck_i hp
  rw [show zr v1 = .ref (v1 - 1) from zr_p hz1]
  refine Ct.of (by decide +kernel) (Nat.le_of_ble_eq_true rfl) ?_
  intro p e s m args below meth c C hR ls hl
  have hl : zl ls 4 [(0, zr v0), (1, zr v1)] := ⟨by rw [zr_p hz0, zr_p hz1]; exact hl, by simp [zr_cat, in_cat]⟩
  exact s_X5_find_0 C hR (fun _ hq => nomatch hq) hl hp
/-! CursorKeep$Neighbours.aheadOf(I)I -/
def p_X5_aheadOf_17  (s0 : Int32) (h : AH) : Option (Int32 × AH) :=
  some (s0, h)
set_option maxHeartbeats 4000000 in
set_option maxRecDepth 100000 in
theorem s_X5_aheadOf_17 {p : Program} {l : Launch} {e : Env} {s : State} {m : MethodId} {args : Array Value} {below : List Frame} {meth : Method} {c : Code} {G : GG} {hs : AH} {r : Int32} {h' : AH} (C : Cx G hs p s m args meth c cX5_aheadOf 2 RX5 (.code yX5_aheadOf cX5_aheadOf 2 (some .int) :: MW) (some .int) "aheadOf")   {s0 : Int32} {h : AH} {H : Heap} {locs : List Loc} {cells slots : Nat} {ls : Array Slot} (hR : Rp G h H) (hL : ∀ q ∈ locs, gB G ≤ q.base) (hl : zl ls 2 []) (hp : p_X5_aheadOf_17  s0 h = some (r, h')) : W p l e (gR G hs 2 60) s m args below meth c H locs cells slots (MQ below (Qcc G (some (.int r)) h') args s (gC G - aZ hs) (gS - aU hs) (fun q => gB G ≤ q)) (F0 m 17 ls [.int s0]) := by
  obtain ⟨hx, hb, hml, hown, hts, hT, hK, rs, hlk, hret, hnm⟩ := id C
  have hm : ∀ w ∈ MW, w.before args s = true := fun w hw => hts w (hT w hw)
  unfold p_X5_aheadOf_17 at hp
  cases hp
  exact r_zret C hR hL rfl dX5_aheadOf_17
def p_X5_aheadOf_0  (v0 : Nat) (v1 : Int32) (h : AH) : Option (Int32 × AH) :=
  bR (p_X5_isLetter v1 h) fun r1 h2 =>
  if r1 = 0 then
    p_X5_aheadOf_17  (iI (-1)) h2
  else
    ck (aK h2 v0 = 7) <|
    ck (aK h2 (aR h2 v0 1) = 20 ∧ ix v1 (aN h2 (aR h2 v0 1))) <|
    p_X5_aheadOf_17  (aI h2 (aR h2 v0 1) v1.toNatClampNeg) h2
set_option maxHeartbeats 4000000 in
set_option maxRecDepth 100000 in
theorem s_X5_aheadOf_0 {p : Program} {l : Launch} {e : Env} {s : State} {m : MethodId} {args : Array Value} {below : List Frame} {meth : Method} {c : Code} {G : GG} {hs : AH} {r : Int32} {h' : AH} (C : Cx G hs p s m args meth c cX5_aheadOf 2 RX5 (.code yX5_aheadOf cX5_aheadOf 2 (some .int) :: MW) (some .int) "aheadOf")   {v0 : Nat} {v1 : Int32} {h : AH} {H : Heap} {locs : List Loc} {cells slots : Nat} {ls : Array Slot} (hR : Rp G h H) (hL : ∀ q ∈ locs, gB G ≤ q.base) (hl : zl ls 2 [(0, zr v0), (1, .int v1)]) (hp : p_X5_aheadOf_0  v0 v1 h = some (r, h')) : W p l e (gR G hs 2 60) s m args below meth c H locs cells slots (MQ below (Qcc G (some (.int r)) h') args s (gC G - aZ hs) (gS - aU hs) (fun q => gB G ≤ q)) (F0 m 0 ls []) := by
  obtain ⟨hx, hb, hml, hown, hts, hT, hK, rs, hlk, hret, hnm⟩ := id C
  have hm : ∀ w ∈ MW, w.before args s = true := fun w hw => hts w (hT w hw)
  unfold p_X5_aheadOf_0 at hp
  refine lv_iload_n hx hb dX5_aheadOf_0 rfl (zl_at hl 1 rfl) ?_
  obtain ⟨r1, h2, er1, hp⟩ := bR_i hp
  refine r_callS (n := 1) (As := [.int v1]) (rest := []) C (c_X5_isLetter l G v1 h r1 h2 er1) hR hL mw_744 mw_745 mw_6 mw_746 (by decide +kernel) (by decide) rfl (zl_size hl) rfl (by simp [zr_cat, in_cat]) dX5_aheadOf_1 (st2 := [.int r1]) rfl (fun H locs cells slots hR hL => ?_)
  refine lv_if_eq (tgt := 16) hx hb dX5_aheadOf_4 (by decide) (fun c3 => ?_) (fun c3 => ?_)
  · replace hp := ite_p hp c3
    refine lv_iconst (v := iI (-1)) hx hb dX5_aheadOf_16 rfl ?_
    exact s_X5_aheadOf_17 C  hR hL (zl_sub hl [] rfl) hp
  · replace hp := ite_n hp c3
    refine z_aload_n hx hb dX5_aheadOf_7 rfl (zl_at hl 0 rfl) ?_
    obtain ⟨k4, hp⟩ := ck_i hp
    refine r_get (ci := 6) (C := RX5) (T := TX5) (N := 3) (v := zr (aR h2 v0 1)) hx hb hm ii_X5 hown hK hR rfl k4 1 (by decide) (hm _ mw_93) (fun _ h9 => h9) rfl dX5_aheadOf_8 ?_
    refine lv_iload_n hx hb dX5_aheadOf_11 rfl (zl_at hl 1 rfl) ?_
    obtain ⟨k5, hp⟩ := ck_i hp
    refine r_iald hx hb hK hR k5.1 k5.2 dX5_aheadOf_12 ?_
    refine lv_goto (tgt := 17) hx hb dX5_aheadOf_13 (by decide) ?_
    exact s_X5_aheadOf_17 C  hR hL (zl_sub hl [] rfl) hp
def p_X5_aheadOf (v0 : Nat) (v1 : Int32) (h : AH) : Option (Int32 × AH) := ck (v0 ≠ 0) <| p_X5_aheadOf_0 v0 v1 h
theorem c_X5_aheadOf (l : Launch) (G : GG) (v0 : Nat) (v1 : Int32) (h : AH) (r : Int32) (h' : AH) (hp : p_X5_aheadOf v0 v1 h = some (r, h')) : Ct l yX5_aheadOf (.code yX5_aheadOf cX5_aheadOf 2 (some .int) :: MW) G 2 60 [.ref (v0 - 1), .int v1] h (some (.int r)) h' := by
  obtain ⟨hz0, hp⟩ := ck_i hp
  refine Ct.of (by decide +kernel) (Nat.le_of_ble_eq_true rfl) ?_
  intro p e s m args below meth c C hR ls hl
  have hl : zl ls 2 [(0, zr v0), (1, .int v1)] := ⟨by rw [zr_p hz0]; exact hl, by simp [zr_cat, in_cat]⟩
  exact s_X5_aheadOf_0 C hR (fun _ hq => nomatch hq) hl hp
/-! CursorKeep$Neighbours.behindOf(I)I -/
def p_X5_behindOf_17  (s0 : Int32) (h : AH) : Option (Int32 × AH) :=
  some (s0, h)
set_option maxHeartbeats 4000000 in
set_option maxRecDepth 100000 in
theorem s_X5_behindOf_17 {p : Program} {l : Launch} {e : Env} {s : State} {m : MethodId} {args : Array Value} {below : List Frame} {meth : Method} {c : Code} {G : GG} {hs : AH} {r : Int32} {h' : AH} (C : Cx G hs p s m args meth c cX5_behindOf 2 RX5 (.code yX5_behindOf cX5_behindOf 2 (some .int) :: MW) (some .int) "behindOf")   {s0 : Int32} {h : AH} {H : Heap} {locs : List Loc} {cells slots : Nat} {ls : Array Slot} (hR : Rp G h H) (hL : ∀ q ∈ locs, gB G ≤ q.base) (hl : zl ls 2 []) (hp : p_X5_behindOf_17  s0 h = some (r, h')) : W p l e (gR G hs 2 60) s m args below meth c H locs cells slots (MQ below (Qcc G (some (.int r)) h') args s (gC G - aZ hs) (gS - aU hs) (fun q => gB G ≤ q)) (F0 m 17 ls [.int s0]) := by
  obtain ⟨hx, hb, hml, hown, hts, hT, hK, rs, hlk, hret, hnm⟩ := id C
  have hm : ∀ w ∈ MW, w.before args s = true := fun w hw => hts w (hT w hw)
  unfold p_X5_behindOf_17 at hp
  cases hp
  exact r_zret C hR hL rfl dX5_behindOf_17
def p_X5_behindOf_0  (v0 : Nat) (v1 : Int32) (h : AH) : Option (Int32 × AH) :=
  bR (p_X5_isLetter v1 h) fun r1 h2 =>
  if r1 = 0 then
    p_X5_behindOf_17  (iI (-1)) h2
  else
    ck (aK h2 v0 = 7) <|
    ck (aK h2 (aR h2 v0 2) = 20 ∧ ix v1 (aN h2 (aR h2 v0 2))) <|
    p_X5_behindOf_17  (aI h2 (aR h2 v0 2) v1.toNatClampNeg) h2
set_option maxHeartbeats 4000000 in
set_option maxRecDepth 100000 in
theorem s_X5_behindOf_0 {p : Program} {l : Launch} {e : Env} {s : State} {m : MethodId} {args : Array Value} {below : List Frame} {meth : Method} {c : Code} {G : GG} {hs : AH} {r : Int32} {h' : AH} (C : Cx G hs p s m args meth c cX5_behindOf 2 RX5 (.code yX5_behindOf cX5_behindOf 2 (some .int) :: MW) (some .int) "behindOf")   {v0 : Nat} {v1 : Int32} {h : AH} {H : Heap} {locs : List Loc} {cells slots : Nat} {ls : Array Slot} (hR : Rp G h H) (hL : ∀ q ∈ locs, gB G ≤ q.base) (hl : zl ls 2 [(0, zr v0), (1, .int v1)]) (hp : p_X5_behindOf_0  v0 v1 h = some (r, h')) : W p l e (gR G hs 2 60) s m args below meth c H locs cells slots (MQ below (Qcc G (some (.int r)) h') args s (gC G - aZ hs) (gS - aU hs) (fun q => gB G ≤ q)) (F0 m 0 ls []) := by
  obtain ⟨hx, hb, hml, hown, hts, hT, hK, rs, hlk, hret, hnm⟩ := id C
  have hm : ∀ w ∈ MW, w.before args s = true := fun w hw => hts w (hT w hw)
  unfold p_X5_behindOf_0 at hp
  refine lv_iload_n hx hb dX5_behindOf_0 rfl (zl_at hl 1 rfl) ?_
  obtain ⟨r1, h2, er1, hp⟩ := bR_i hp
  refine r_callS (n := 1) (As := [.int v1]) (rest := []) C (c_X5_isLetter l G v1 h r1 h2 er1) hR hL mw_744 mw_745 mw_6 mw_746 (by decide +kernel) (by decide) rfl (zl_size hl) rfl (by simp [zr_cat, in_cat]) dX5_behindOf_1 (st2 := [.int r1]) rfl (fun H locs cells slots hR hL => ?_)
  refine lv_if_eq (tgt := 16) hx hb dX5_behindOf_4 (by decide) (fun c3 => ?_) (fun c3 => ?_)
  · replace hp := ite_p hp c3
    refine lv_iconst (v := iI (-1)) hx hb dX5_behindOf_16 rfl ?_
    exact s_X5_behindOf_17 C  hR hL (zl_sub hl [] rfl) hp
  · replace hp := ite_n hp c3
    refine z_aload_n hx hb dX5_behindOf_7 rfl (zl_at hl 0 rfl) ?_
    obtain ⟨k4, hp⟩ := ck_i hp
    refine r_get (ci := 6) (C := RX5) (T := TX5) (N := 3) (v := zr (aR h2 v0 2)) hx hb hm ii_X5 hown hK hR rfl k4 2 (by decide) (hm _ mw_94) (fun _ h9 => h9) rfl dX5_behindOf_8 ?_
    refine lv_iload_n hx hb dX5_behindOf_11 rfl (zl_at hl 1 rfl) ?_
    obtain ⟨k5, hp⟩ := ck_i hp
    refine r_iald hx hb hK hR k5.1 k5.2 dX5_behindOf_12 ?_
    refine lv_goto (tgt := 17) hx hb dX5_behindOf_13 (by decide) ?_
    exact s_X5_behindOf_17 C  hR hL (zl_sub hl [] rfl) hp
def p_X5_behindOf (v0 : Nat) (v1 : Int32) (h : AH) : Option (Int32 × AH) := ck (v0 ≠ 0) <| p_X5_behindOf_0 v0 v1 h
theorem c_X5_behindOf (l : Launch) (G : GG) (v0 : Nat) (v1 : Int32) (h : AH) (r : Int32) (h' : AH) (hp : p_X5_behindOf v0 v1 h = some (r, h')) : Ct l yX5_behindOf (.code yX5_behindOf cX5_behindOf 2 (some .int) :: MW) G 2 60 [.ref (v0 - 1), .int v1] h (some (.int r)) h' := by
  obtain ⟨hz0, hp⟩ := ck_i hp
  refine Ct.of (by decide +kernel) (Nat.le_of_ble_eq_true rfl) ?_
  intro p e s m args below meth c C hR ls hl
  have hl : zl ls 2 [(0, zr v0), (1, .int v1)] := ⟨by rw [zr_p hz0]; exact hl, by simp [zr_cat, in_cat]⟩
  exact s_X5_behindOf_0 C hR (fun _ hq => nomatch hq) hl hp
/-! CursorKeep$Plan.<init>()V -/
def p_X6_init_0  (v0 : Nat) (h : AH) : Option (Unit × AH) :=
  ck (v0 ≠ 0) <|
  ck ((0 ≤ (iI 150) ∧ (iI 150).toNatClampNeg ≤ 100000) ∧ aZ h + 1 ≤ aC h ∧ aU h + (iI 150).toNatClampNeg ≤ gS) <|
  nm (uN h 20 (iI 150).toNatClampNeg) fun h4 =>
  ck (aK h4 v0 = 8) <|
  nm (uR h4 v0 0 (aZ h)) fun h6 =>
  ck ((0 ≤ (iI 150) ∧ (iI 150).toNatClampNeg ≤ 100000) ∧ aZ h6 + 1 ≤ aC h6 ∧ aU h6 + (iI 150).toNatClampNeg ≤ gS) <|
  nm (uN h6 21 (iI 150).toNatClampNeg) fun h9 =>
  ck (aK h9 v0 = 8) <|
  nm (uR h9 v0 1 (aZ h6)) fun h11 =>
  ck ((0 ≤ (iI 150) ∧ (iI 150).toNatClampNeg ≤ 100000) ∧ aZ h11 + 1 ≤ aC h11 ∧ aU h11 + (iI 150).toNatClampNeg ≤ gS) <|
  nm (uN h11 21 (iI 150).toNatClampNeg) fun h14 =>
  ck (aK h14 v0 = 8) <|
  nm (uR h14 v0 2 (aZ h11)) fun h16 =>
  some ((), h16)
set_option maxHeartbeats 4000000 in
set_option maxRecDepth 100000 in
theorem s_X6_init_0 {p : Program} {l : Launch} {e : Env} {s : State} {m : MethodId} {args : Array Value} {below : List Frame} {meth : Method} {c : Code} {G : GG} {hs : AH} {r : Unit} {h' : AH} (C : Cx G hs p s m args meth c cX6_init 1 RX6 (.code yX6_init cX6_init 1 none :: MW) none "<init>")   {v0 : Nat} {h : AH} {H : Heap} {locs : List Loc} {cells slots : Nat} {ls : Array Slot} (hR : Rp G h H) (hL : ∀ q ∈ locs, gB G ≤ q.base) (hl : zl ls 1 [(0, zr v0)]) (hp : p_X6_init_0  v0 h = some (r, h')) : W p l e (gR G hs 1 40) s m args below meth c H locs cells slots (MQ below (Qcc G (none) h') args s (gC G - aZ hs) (gS - aU hs) (fun q => gB G ≤ q)) (F0 m 0 ls []) := by
  obtain ⟨hx, hb, hml, hown, hts, hT, hK, rs, hlk, hret, hnm⟩ := id C
  have hm : ∀ w ∈ MW, w.before args s = true := fun w hw => hts w (hT w hw)
  unfold p_X6_init_0 at hp
  refine z_aload_n hx hb dX6_init_0 rfl (zl_at hl 0 rfl) ?_
  obtain ⟨k1, hp⟩ := ck_i hp
  refine r_objInit C k1 (hm _ mw_70) (hm _ mw_33) (hm _ mw_34) (zl_size hl) dX6_init_1 (by decide) (by simp [zr_cat, in_cat]) ?_
  refine z_aload_n hx hb dX6_init_4 rfl (zl_at hl 0 rfl) ?_
  refine lv_sipush (v := iI 150) hx hb dX6_init_5 (by decide +kernel) ?_
  obtain ⟨k2, hp⟩ := ck_i hp
  refine r_newa (t := 0) (by decide) rfl (fun _ h9 => nomatch (show FieldType.int = _ from h9)) rfl C hR mw_84 k2.1 k2.2 dX6_init_8 (fun H cells slots hR => ?_)
  obtain ⟨h4, hp, hR⟩ := nm_h hp hR
  obtain ⟨k5, hp⟩ := ck_i hp
  refine r_putR (ci := 7) (C := RX6) (T := TX6) (N := 4) hx hb hm ii_X6 tyX6_ok nmX6 hown hK hR hL rfl k5 0 (by decide) (hm _ mw_71) (fun _ h9 => h9) (Or.inr ⟨rfl, hnm, rfl⟩) (zr_fitsA _ _) (fun _ _ _ => rfl) dX6_init_10 (fun H locs hR hL => ?_)
  obtain ⟨h6, hp, hR⟩ := nm_h hp hR
  refine z_aload_n hx hb dX6_init_13 rfl (zl_at hl 0 rfl) ?_
  refine lv_sipush (v := iI 150) hx hb dX6_init_14 (by decide +kernel) ?_
  obtain ⟨k7, hp⟩ := ck_i hp
  refine r_newa (t := 1) (by decide) rfl (fun _ h9 => nomatch (show FieldType.char = _ from h9)) rfl C hR mw_85 k7.1 k7.2 dX6_init_17 (fun H cells slots hR => ?_)
  obtain ⟨h9, hp, hR⟩ := nm_h hp hR
  obtain ⟨k10, hp⟩ := ck_i hp
  refine r_putR (ci := 7) (C := RX6) (T := TX6) (N := 4) hx hb hm ii_X6 tyX6_ok nmX6 hown hK hR hL rfl k10 1 (by decide) (hm _ mw_72) (fun _ h9 => h9) (Or.inr ⟨rfl, hnm, rfl⟩) (zr_fitsA _ _) (fun _ _ _ => rfl) dX6_init_19 (fun H locs hR hL => ?_)
  obtain ⟨h11, hp, hR⟩ := nm_h hp hR
  refine z_aload_n hx hb dX6_init_22 rfl (zl_at hl 0 rfl) ?_
  refine lv_sipush (v := iI 150) hx hb dX6_init_23 (by decide +kernel) ?_
  obtain ⟨k12, hp⟩ := ck_i hp
  refine r_newa (t := 1) (by decide) rfl (fun _ h9 => nomatch (show FieldType.char = _ from h9)) rfl C hR mw_85 k12.1 k12.2 dX6_init_26 (fun H cells slots hR => ?_)
  obtain ⟨h14, hp, hR⟩ := nm_h hp hR
  obtain ⟨k15, hp⟩ := ck_i hp
  refine r_putR (ci := 7) (C := RX6) (T := TX6) (N := 4) hx hb hm ii_X6 tyX6_ok nmX6 hown hK hR hL rfl k15 2 (by decide) (hm _ mw_73) (fun _ h9 => h9) (Or.inr ⟨rfl, hnm, rfl⟩) (zr_fitsA _ _) (fun _ _ _ => rfl) dX6_init_28 (fun H locs hR hL => ?_)
  obtain ⟨h16, hp, hR⟩ := nm_h hp hR
  cases hp
  exact r_vret C hR hL dX6_init_31
def p_X6_init (v0 : Nat) (h : AH) : Option (Unit × AH) := ck (v0 ≠ 0) <| p_X6_init_0 v0 h
theorem c_X6_init (l : Launch) (G : GG) (v0 : Nat) (h : AH) (r : Unit) (h' : AH) (hp : p_X6_init v0 h = some (r, h')) : Ct l yX6_init (.code yX6_init cX6_init 1 none :: MW) G 1 40 [.ref (v0 - 1)] h (none) h' := by
  obtain ⟨hz0, hp⟩ := ck_i hp
  refine Ct.of (by decide +kernel) (Nat.le_of_ble_eq_true rfl) ?_
  intro p e s m args below meth c C hR ls hl
  have hl : zl ls 1 [(0, zr v0)] := ⟨by rw [zr_p hz0]; exact hl, by simp [zr_cat, in_cat]⟩
  exact s_X6_init_0 C hR (fun _ hq => nomatch hq) hl hp
/-! CursorKeep$Plan.look(LCursorKeep$Row;)V -/
def p_X6_look_83 (k7 : Nat → Nat → Int32 → AH → Option (Unit × AH)) (v0 : Nat) (v1 : Nat) (v2 : Int32) (h : AH) : Option (Unit × AH) :=
  nm (v2 + iI 1) fun (x1 : Int32) =>
  k7 v0 v1 x1 h
set_option maxHeartbeats 4000000 in
set_option maxRecDepth 100000 in
theorem s_X6_look_83 {p : Program} {l : Launch} {e : Env} {s : State} {m : MethodId} {args : Array Value} {below : List Frame} {meth : Method} {c : Code} {G : GG} {hs : AH} {r : Unit} {h' : AH} (C : Cx G hs p s m args meth c cX6_look 4 RX6 (.code yX6_look cX6_look 4 none :: MW) none "look") {k7 : Nat → Nat → Int32 → AH → Option (Unit × AH)} (hk7 : ∀ {v0 : Nat} {v1 : Nat} {v2 : Int32} {h : AH} {H : Heap} {locs : List Loc} {cells slots : Nat} {ls : Array Slot}, Rp G h H → (∀ q ∈ locs, gB G ≤ q.base) → zl ls 4 [(0, zr v0), (1, zr v1), (2, .int v2)] → k7 v0 v1 v2 h = some (r, h') → W p l e (gR G hs 3 82) s m args below meth c H locs cells slots (MQ below (Qcc G (none) h') args s (gC G - aZ hs) (gS - aU hs) (fun q => gB G ≤ q)) (F0 m 7 ls [])) {v0 : Nat} {v1 : Nat} {v2 : Int32} {h : AH} {H : Heap} {locs : List Loc} {cells slots : Nat} {ls : Array Slot} (hR : Rp G h H) (hL : ∀ q ∈ locs, gB G ≤ q.base) (hl : zl ls 4 [(0, zr v0), (1, zr v1), (2, .int v2)]) (hp : p_X6_look_83 k7 v0 v1 v2 h = some (r, h')) : W p l e (gR G hs 3 82) s m args below meth c H locs cells slots (MQ below (Qcc G (none) h') args s (gC G - aZ hs) (gS - aU hs) (fun q => gB G ≤ q)) (F0 m 83 ls []) := by
  obtain ⟨hx, hb, hml, hown, hts, hT, hK, rs, hlk, hret, hnm⟩ := id C
  have hm : ∀ w ∈ MW, w.before args s = true := fun w hw => hts w (hT w hw)
  unfold p_X6_look_83 at hp
  obtain ⟨x1, ex1⟩ : ∃ y : Int32, y = v2 + iI 1 := ⟨_, rfl⟩
  replace hp := nm_i hp ex1
  refine z_iinc (v := x1) (lv' := [(2, .int x1), (0, zr v0), (1, zr v1)]) hx hb dX6_look_83 hl (k := 2) rfl ex1 (by decide) rfl (fun ls hl => ?_)
  refine lv_goto (tgt := 7) hx hb dX6_look_86 (by decide) ?_
  exact hk7 hR hL (zl_sub hl [1, 2, 0] rfl) hp
def p_X6_look_7  : Nat → Nat → Nat → Int32 → AH → Option (Unit × AH)
  | 0, _, _, _, _ => none
  | n + 1, v0, v1, v2, h =>
    ck (aK h v1 = 9) <|
    bR (p_X7_count v1 h) fun r2 h3 =>
    if r2 ≤ v2 then
      some ((), h3)
    else
      ck (aK h3 v1 = 9) <|
      bR (p_X7_letterAt v1 v2 h3) fun r6 h7 =>
      ck (aK h7 v1 = 9) <|
      bR (p_X7_shows v1 r6 h7) fun r9 h10 =>
      if r9 = 0 then
        p_X6_look_83 (p_X6_look_7  n) v0 v1 v2 h10
      else
        ck (aK h10 v0 = 8) <|
        if (iI 150) ≤ (aI h10 v0 3) then
          p_X6_look_83 (p_X6_look_7  n) v0 v1 v2 h10
        else
          ck (aK h10 v0 = 8) <|
          ck (aK h10 v0 = 8) <|
          ck (aK h10 (aR h10 v0 0) = 20 ∧ ix (aI h10 v0 3) (aN h10 (aR h10 v0 0))) <|
          nm (uI h10 (aR h10 v0 0) (aI h10 v0 3).toNatClampNeg r6) fun h18 =>
          ck (aK h18 v0 = 8) <|
          ck (aK h18 v0 = 8) <|
          ck (aK h18 v1 = 9) <|
          bR (p_X7_signOf v1 r6 h18) fun r22 h23 =>
          ck (aK h23 (aR h18 v0 1) = 21 ∧ ix (aI h18 v0 3) (aN h23 (aR h18 v0 1))) <|
          nm (uI h23 (aR h18 v0 1) (aI h18 v0 3).toNatClampNeg (nC r22)) fun h26 =>
          ck (aK h26 v0 = 8) <|
          ck (aK h26 v0 = 8) <|
          ck (aK h26 (aR h26 v0 2) = 21 ∧ ix (aI h26 v0 3) (aN h26 (aR h26 v0 2))) <|
          nm (uI h26 (aR h26 v0 2) (aI h26 v0 3).toNatClampNeg (nC (iI 0))) fun h31 =>
          ck (aK h31 v0 = 8) <|
          ck (aK h31 v0 = 8) <|
          nm (uI h31 v0 3 ((aI h31 v0 3) + (iI 1))) fun h34 =>
          p_X6_look_83 (p_X6_look_7  n) v0 v1 v2 h34
set_option maxHeartbeats 4000000 in
set_option maxRecDepth 100000 in
theorem s_X6_look_7 {p : Program} {l : Launch} {e : Env} {s : State} {m : MethodId} {args : Array Value} {below : List Frame} {meth : Method} {c : Code} {G : GG} {hs : AH} {r : Unit} {h' : AH} (C : Cx G hs p s m args meth c cX6_look 4 RX6 (.code yX6_look cX6_look 4 none :: MW) none "look")   : ∀ (n : Nat) (v0 : Nat) (v1 : Nat) (v2 : Int32) (h : AH) (H : Heap) (locs : List Loc) (cells slots : Nat) (ls : Array Slot) (hR : Rp G h H) (hL : ∀ q ∈ locs, gB G ≤ q.base) (hl : zl ls 4 [(0, zr v0), (1, zr v1), (2, .int v2)]) (hp : p_X6_look_7  n v0 v1 v2 h = some (r, h')), W p l e (gR G hs 3 82) s m args below meth c H locs cells slots (MQ below (Qcc G (none) h') args s (gC G - aZ hs) (gS - aU hs) (fun q => gB G ≤ q)) (F0 m 7 ls []) := by
  obtain ⟨hx, hb, hml, hown, hts, hT, hK, rs, hlk, hret, hnm⟩ := id C
  have hm : ∀ w ∈ MW, w.before args s = true := fun w hw => hts w (hT w hw)
  intro n
  induction n with
  | zero =>
    intro v0 v1 v2 h H locs cells slots ls hR hL hl hp
    exact absurd (show none = some (r, h') from hp) (by simp)
  | succ n ih =>
    intro v0 v1 v2 h H locs cells slots ls hR hL hl hp
    rw [p_X6_look_7.eq_2] at hp
    refine lv_iload_n hx hb dX6_look_7 rfl (zl_at hl 2 rfl) ?_
    refine z_aload_n hx hb dX6_look_8 rfl (zl_at hl 1 rfl) ?_
    obtain ⟨k1, hp⟩ := ck_i hp
    obtain ⟨r2, h3, er2, hp⟩ := bR_i hp
    refine r_callV (ci := 8) (r := (RX7, TX7, 4)) (n := 0) (As := []) (rest := [.int v2]) C (c_X7_count l G v1 h r2 h3 er2) hR hL rfl k1 mw_710 mw_272 mw_273 mw_8 mw_274 (by decide +kernel) (by decide) rfl (zl_size hl) rfl (by simp [zr_cat, in_cat]) dX6_look_9 (st2 := [.int r2, .int v2]) rfl (fun H locs cells slots hR hL => ?_)
    refine lv_icmp_ge (tgt := 89) hx hb dX6_look_12 (by decide) (fun c4 => ?_) (fun c4 => ?_)
    · replace hp := ite_p hp c4
      cases hp
      exact r_vret C hR hL dX6_look_89
    · replace hp := ite_n hp c4
      refine z_aload_n hx hb dX6_look_15 rfl (zl_at hl 1 rfl) ?_
      refine lv_iload_n hx hb dX6_look_16 rfl (zl_at hl 2 rfl) ?_
      obtain ⟨k5, hp⟩ := ck_i hp
      obtain ⟨r6, h7, er6, hp⟩ := bR_i hp
      refine r_callV (ci := 8) (r := (RX7, TX7, 4)) (n := 1) (As := [.int v2]) (rest := []) C (c_X7_letterAt l G v1 v2 h3 r6 h7 er6) hR hL rfl k5 mw_711 mw_276 mw_277 mw_8 mw_278 (by decide +kernel) (by decide) rfl (zl_size hl) rfl (by simp [zr_cat, in_cat]) dX6_look_17 (st2 := [.int r6]) rfl (fun H locs cells slots hR hL => ?_)
      refine z_istore_n (lv' := [(3, .int r6), (0, zr v0), (1, zr v1), (2, .int v2)]) hx hb dX6_look_20 rfl hl (by decide) rfl (fun ls hl => ?_)
      refine z_aload_n hx hb dX6_look_21 rfl (zl_at hl 2 rfl) ?_
      refine lv_iload_n hx hb dX6_look_22 rfl (zl_at hl 0 rfl) ?_
      obtain ⟨k8, hp⟩ := ck_i hp
      obtain ⟨r9, h10, er9, hp⟩ := bR_i hp
      refine r_callV (ci := 8) (r := (RX7, TX7, 4)) (n := 1) (As := [.int r6]) (rest := []) C (c_X7_shows l G v1 r6 h7 r9 h10 er9) hR hL rfl k8 mw_712 mw_280 mw_281 mw_8 mw_282 (by decide +kernel) (by decide) rfl (zl_size hl) rfl (by simp [zr_cat, in_cat]) dX6_look_23 (st2 := [.int r9]) rfl (fun H locs cells slots hR hL => ?_)
      refine lv_if_eq (tgt := 83) hx hb dX6_look_26 (by decide) (fun c11 => ?_) (fun c11 => ?_)
      · replace hp := ite_p hp c11
        exact s_X6_look_83 C (fun hR hL hl hp => ih _ _ _ _ _ _ _ _ _ hR hL hl hp) hR hL (zl_sub hl [1, 2, 3] rfl) hp
      · replace hp := ite_n hp c11
        refine z_aload_n hx hb dX6_look_29 rfl (zl_at hl 1 rfl) ?_
        obtain ⟨k12, hp⟩ := ck_i hp
        refine r_get (ci := 7) (C := RX6) (T := TX6) (N := 4) (v := .int (aI h10 v0 3)) hx hb hm ii_X6 hown hK hR rfl k12 3 (by decide) (hm _ mw_74) (fun _ h9 => h9) rfl dX6_look_30 ?_
        refine lv_sipush (v := iI 150) hx hb dX6_look_33 (by decide +kernel) ?_
        refine lv_icmp_ge (tgt := 83) hx hb dX6_look_36 (by decide) (fun c13 => ?_) (fun c13 => ?_)
        · replace hp := ite_p hp c13
          exact s_X6_look_83 C (fun hR hL hl hp => ih _ _ _ _ _ _ _ _ _ hR hL hl hp) hR hL (zl_sub hl [1, 2, 3] rfl) hp
        · replace hp := ite_n hp c13
          refine z_aload_n hx hb dX6_look_39 rfl (zl_at hl 1 rfl) ?_
          obtain ⟨k14, hp⟩ := ck_i hp
          refine r_get (ci := 7) (C := RX6) (T := TX6) (N := 4) (v := zr (aR h10 v0 0)) hx hb hm ii_X6 hown hK hR rfl k14 0 (by decide) (hm _ mw_71) (fun _ h9 => h9) rfl dX6_look_40 ?_
          refine z_aload_n hx hb dX6_look_43 rfl (zl_at hl 1 rfl) ?_
          obtain ⟨k15, hp⟩ := ck_i hp
          refine r_get (ci := 7) (C := RX6) (T := TX6) (N := 4) (v := .int (aI h10 v0 3)) hx hb hm ii_X6 hown hK hR rfl k15 3 (by decide) (hm _ mw_74) (fun _ h9 => h9) rfl dX6_look_44 ?_
          refine lv_iload_n hx hb dX6_look_47 rfl (zl_at hl 0 rfl) ?_
          obtain ⟨k16, hp⟩ := ck_i hp
          refine r_iast hx hb hK hR hL k16.1 k16.2 dX6_look_48 (fun H locs hR hL => ?_)
          obtain ⟨h18, hp, hR⟩ := nm_h hp hR
          refine z_aload_n hx hb dX6_look_49 rfl (zl_at hl 1 rfl) ?_
          obtain ⟨k19, hp⟩ := ck_i hp
          refine r_get (ci := 7) (C := RX6) (T := TX6) (N := 4) (v := zr (aR h18 v0 1)) hx hb hm ii_X6 hown hK hR rfl k19 1 (by decide) (hm _ mw_72) (fun _ h9 => h9) rfl dX6_look_50 ?_
          refine z_aload_n hx hb dX6_look_53 rfl (zl_at hl 1 rfl) ?_
          obtain ⟨k20, hp⟩ := ck_i hp
          refine r_get (ci := 7) (C := RX6) (T := TX6) (N := 4) (v := .int (aI h18 v0 3)) hx hb hm ii_X6 hown hK hR rfl k20 3 (by decide) (hm _ mw_74) (fun _ h9 => h9) rfl dX6_look_54 ?_
          refine z_aload_n hx hb dX6_look_57 rfl (zl_at hl 2 rfl) ?_
          refine lv_iload_n hx hb dX6_look_58 rfl (zl_at hl 0 rfl) ?_
          obtain ⟨k21, hp⟩ := ck_i hp
          obtain ⟨r22, h23, er22, hp⟩ := bR_i hp
          refine r_callV (ci := 8) (r := (RX7, TX7, 4)) (n := 1) (As := [.int r6]) (rest := [.int (aI h18 v0 3), zr (aR h18 v0 1)]) C (c_X7_signOf l G v1 r6 h18 r22 h23 er22) hR hL rfl k21 mw_713 mw_288 mw_289 mw_8 mw_290 (by decide +kernel) (by decide) rfl (zl_size hl) rfl (by simp [zr_cat, in_cat]) dX6_look_59 (st2 := [.int r22, .int (aI h18 v0 3), zr (aR h18 v0 1)]) rfl (fun H locs cells slots hR hL => ?_)
          obtain ⟨k24, hp⟩ := ck_i hp
          refine r_cast hx hb hK hR hL k24.1 k24.2 dX6_look_62 (fun H locs hR hL => ?_)
          obtain ⟨h26, hp, hR⟩ := nm_h hp hR
          refine z_aload_n hx hb dX6_look_63 rfl (zl_at hl 1 rfl) ?_
          obtain ⟨k27, hp⟩ := ck_i hp
          refine r_get (ci := 7) (C := RX6) (T := TX6) (N := 4) (v := zr (aR h26 v0 2)) hx hb hm ii_X6 hown hK hR rfl k27 2 (by decide) (hm _ mw_73) (fun _ h9 => h9) rfl dX6_look_64 ?_
          refine z_aload_n hx hb dX6_look_67 rfl (zl_at hl 1 rfl) ?_
          obtain ⟨k28, hp⟩ := ck_i hp
          refine r_get (ci := 7) (C := RX6) (T := TX6) (N := 4) (v := .int (aI h26 v0 3)) hx hb hm ii_X6 hown hK hR rfl k28 3 (by decide) (hm _ mw_74) (fun _ h9 => h9) rfl dX6_look_68 ?_
          refine lv_iconst (v := iI 0) hx hb dX6_look_71 rfl ?_
          obtain ⟨k29, hp⟩ := ck_i hp
          refine r_cast hx hb hK hR hL k29.1 k29.2 dX6_look_72 (fun H locs hR hL => ?_)
          obtain ⟨h31, hp, hR⟩ := nm_h hp hR
          refine z_aload_n hx hb dX6_look_73 rfl (zl_at hl 1 rfl) ?_
          refine lv_dup hx hb dX6_look_74 (zr_cat _) ?_
          obtain ⟨k32, hp⟩ := ck_i hp
          refine r_get (ci := 7) (C := RX6) (T := TX6) (N := 4) (v := .int (aI h31 v0 3)) hx hb hm ii_X6 hown hK hR rfl k32 3 (by decide) (hm _ mw_74) (fun _ h9 => h9) rfl dX6_look_75 ?_
          refine lv_iconst (v := iI 1) hx hb dX6_look_78 rfl ?_
          refine lv_iadd hx hb dX6_look_79 ?_
          obtain ⟨k33, hp⟩ := ck_i hp
          refine r_putI (ci := 7) (C := RX6) (T := TX6) (N := 4) hx hb hm ii_X6 tyX6_ok nmX6 hown hK hR hL rfl k33 3 (by decide) (hm _ mw_74) (fun _ h9 => h9) (Or.inl rfl) rfl rfl (fun _ _ _ => rfl) dX6_look_80 (fun H locs hR hL => ?_)
          obtain ⟨h34, hp, hR⟩ := nm_h hp hR
          exact s_X6_look_83 C (fun hR hL hl hp => ih _ _ _ _ _ _ _ _ _ hR hL hl hp) hR hL (zl_sub hl [1, 2, 3] rfl) hp
def p_X6_look_0  (v0 : Nat) (v1 : Nat) (h : AH) : Option (Unit × AH) :=
  ck (aK h v0 = 8) <|
  nm (uI h v0 3 (iI 0)) fun h2 =>
  nm ((iI 0)) fun (x3 : Int32) =>
  p_X6_look_7  FU v0 v1 x3 h2
set_option maxHeartbeats 4000000 in
set_option maxRecDepth 100000 in
theorem s_X6_look_0 {p : Program} {l : Launch} {e : Env} {s : State} {m : MethodId} {args : Array Value} {below : List Frame} {meth : Method} {c : Code} {G : GG} {hs : AH} {r : Unit} {h' : AH} (C : Cx G hs p s m args meth c cX6_look 4 RX6 (.code yX6_look cX6_look 4 none :: MW) none "look")   {v0 : Nat} {v1 : Nat} {h : AH} {H : Heap} {locs : List Loc} {cells slots : Nat} {ls : Array Slot} (hR : Rp G h H) (hL : ∀ q ∈ locs, gB G ≤ q.base) (hl : zl ls 4 [(0, zr v0), (1, zr v1)]) (hp : p_X6_look_0  v0 v1 h = some (r, h')) : W p l e (gR G hs 3 82) s m args below meth c H locs cells slots (MQ below (Qcc G (none) h') args s (gC G - aZ hs) (gS - aU hs) (fun q => gB G ≤ q)) (F0 m 0 ls []) := by
  obtain ⟨hx, hb, hml, hown, hts, hT, hK, rs, hlk, hret, hnm⟩ := id C
  have hm : ∀ w ∈ MW, w.before args s = true := fun w hw => hts w (hT w hw)
  unfold p_X6_look_0 at hp
  refine z_aload_n hx hb dX6_look_0 rfl (zl_at hl 0 rfl) ?_
  refine lv_iconst (v := iI 0) hx hb dX6_look_1 rfl ?_
  obtain ⟨k1, hp⟩ := ck_i hp
  refine r_putI (ci := 7) (C := RX6) (T := TX6) (N := 4) hx hb hm ii_X6 tyX6_ok nmX6 hown hK hR hL rfl k1 3 (by decide) (hm _ mw_74) (fun _ h9 => h9) (Or.inl rfl) rfl rfl (fun _ _ _ => rfl) dX6_look_2 (fun H locs hR hL => ?_)
  obtain ⟨h2, hp, hR⟩ := nm_h hp hR
  refine lv_iconst (v := iI 0) hx hb dX6_look_5 rfl ?_
  refine lv_topi (fun x3 ex3 => ?_)
  replace hp := nm_i hp ex3
  refine z_istore_n (lv' := [(2, .int x3), (0, zr v0), (1, zr v1)]) hx hb dX6_look_6 rfl hl (by decide) rfl (fun ls hl => ?_)
  exact s_X6_look_7 C  _ _ _ _ _ _ _ _ _ _ hR hL (zl_sub hl [1, 2, 0] rfl) hp
def p_X6_look (v0 : Nat) (v1 : Nat) (h : AH) : Option (Unit × AH) := ck (v0 ≠ 0) <| ck (v1 ≠ 0) <| p_X6_look_0 v0 v1 h
theorem c_X6_look (l : Launch) (G : GG) (v0 : Nat) (v1 : Nat) (h : AH) (r : Unit) (h' : AH) (hp : p_X6_look v0 v1 h = some (r, h')) : Ct l yX6_look (.code yX6_look cX6_look 4 none :: MW) G 3 82 [.ref (v0 - 1), zr v1] h (none) h' := by
  obtain ⟨hz0, hp⟩ := ck_i hp
  obtain ⟨hz1, hp⟩ := ck_i hp
  rw [show zr v1 = .ref (v1 - 1) from zr_p hz1]
  refine Ct.of (by decide +kernel) (Nat.le_of_ble_eq_true rfl) ?_
  intro p e s m args below meth c C hR ls hl
  have hl : zl ls 4 [(0, zr v0), (1, zr v1)] := ⟨by rw [zr_p hz0, zr_p hz1]; exact hl, by simp [zr_cat, in_cat]⟩
  exact s_X6_look_0 C hR (fun _ hq => nomatch hq) hl hp
/-! CursorKeep$Plan.wantSingleSpaces()V -/
def p_X6_wantSingleSpaces_41 (k2 : Nat → Int32 → AH → Option (Unit × AH)) (v0 : Nat) (v1 : Int32) (h : AH) : Option (Unit × AH) :=
  nm (v1 + iI 1) fun (x1 : Int32) =>
  k2 v0 x1 h
set_option maxHeartbeats 4000000 in
set_option maxRecDepth 100000 in
theorem s_X6_wantSingleSpaces_41 {p : Program} {l : Launch} {e : Env} {s : State} {m : MethodId} {args : Array Value} {below : List Frame} {meth : Method} {c : Code} {G : GG} {hs : AH} {r : Unit} {h' : AH} (C : Cx G hs p s m args meth c cX6_wantSingleSpaces 2 RX6 (.code yX6_wantSingleSpaces cX6_wantSingleSpaces 2 none :: MW) none "wantSingleSpaces") {k2 : Nat → Int32 → AH → Option (Unit × AH)} (hk2 : ∀ {v0 : Nat} {v1 : Int32} {h : AH} {H : Heap} {locs : List Loc} {cells slots : Nat} {ls : Array Slot}, Rp G h H → (∀ q ∈ locs, gB G ≤ q.base) → zl ls 2 [(0, zr v0), (1, .int v1)] → k2 v0 v1 h = some (r, h') → W p l e (gR G hs 1 40) s m args below meth c H locs cells slots (MQ below (Qcc G (none) h') args s (gC G - aZ hs) (gS - aU hs) (fun q => gB G ≤ q)) (F0 m 2 ls [])) {v0 : Nat} {v1 : Int32} {h : AH} {H : Heap} {locs : List Loc} {cells slots : Nat} {ls : Array Slot} (hR : Rp G h H) (hL : ∀ q ∈ locs, gB G ≤ q.base) (hl : zl ls 2 [(0, zr v0), (1, .int v1)]) (hp : p_X6_wantSingleSpaces_41 k2 v0 v1 h = some (r, h')) : W p l e (gR G hs 1 40) s m args below meth c H locs cells slots (MQ below (Qcc G (none) h') args s (gC G - aZ hs) (gS - aU hs) (fun q => gB G ≤ q)) (F0 m 41 ls []) := by
  obtain ⟨hx, hb, hml, hown, hts, hT, hK, rs, hlk, hret, hnm⟩ := id C
  have hm : ∀ w ∈ MW, w.before args s = true := fun w hw => hts w (hT w hw)
  unfold p_X6_wantSingleSpaces_41 at hp
  obtain ⟨x1, ex1⟩ : ∃ y : Int32, y = v1 + iI 1 := ⟨_, rfl⟩
  replace hp := nm_i hp ex1
  refine z_iinc (v := x1) (lv' := [(1, .int x1), (0, zr v0)]) hx hb dX6_wantSingleSpaces_41 hl (k := 1) rfl ex1 (by decide) rfl (fun ls hl => ?_)
  refine lv_goto (tgt := 2) hx hb dX6_wantSingleSpaces_44 (by decide) ?_
  exact hk2 hR hL (zl_sub hl [1, 0] rfl) hp
def p_X6_wantSingleSpaces_2  : Nat → Nat → Int32 → AH → Option (Unit × AH)
  | 0, _, _, _ => none
  | n + 1, v0, v1, h =>
    ck (aK h v0 = 8) <|
    if (aI h v0 3) ≤ v1 then
      some ((), h)
    else
      ck (aK h v0 = 8) <|
      ck (aK h (aR h v0 1) = 21 ∧ ix v1 (aN h (aR h v0 1))) <|
      if (aI h (aR h v0 1) v1.toNatClampNeg) = (iI 32) then
        ck (aK h v0 = 8) <|
        ck (aK h (aR h v0 1) = 21 ∧ ix (v1 - (iI 1)) (aN h (aR h v0 1))) <|
        if (aI h (aR h v0 1) (v1 - (iI 1)).toNatClampNeg) = (iI 32) then
          ck (aK h v0 = 8) <|
          ck (aK h (aR h v0 2) = 21 ∧ ix v1 (aN h (aR h v0 2))) <|
          nm (uI h (aR h v0 2) v1.toNatClampNeg (nC (iI 1))) fun h14 =>
          p_X6_wantSingleSpaces_41 (p_X6_wantSingleSpaces_2  n) v0 v1 h14
        else
          p_X6_wantSingleSpaces_41 (p_X6_wantSingleSpaces_2  n) v0 v1 h
      else
        p_X6_wantSingleSpaces_41 (p_X6_wantSingleSpaces_2  n) v0 v1 h
set_option maxHeartbeats 4000000 in
set_option maxRecDepth 100000 in
theorem s_X6_wantSingleSpaces_2 {p : Program} {l : Launch} {e : Env} {s : State} {m : MethodId} {args : Array Value} {below : List Frame} {meth : Method} {c : Code} {G : GG} {hs : AH} {r : Unit} {h' : AH} (C : Cx G hs p s m args meth c cX6_wantSingleSpaces 2 RX6 (.code yX6_wantSingleSpaces cX6_wantSingleSpaces 2 none :: MW) none "wantSingleSpaces")   : ∀ (n : Nat) (v0 : Nat) (v1 : Int32) (h : AH) (H : Heap) (locs : List Loc) (cells slots : Nat) (ls : Array Slot) (hR : Rp G h H) (hL : ∀ q ∈ locs, gB G ≤ q.base) (hl : zl ls 2 [(0, zr v0), (1, .int v1)]) (hp : p_X6_wantSingleSpaces_2  n v0 v1 h = some (r, h')), W p l e (gR G hs 1 40) s m args below meth c H locs cells slots (MQ below (Qcc G (none) h') args s (gC G - aZ hs) (gS - aU hs) (fun q => gB G ≤ q)) (F0 m 2 ls []) := by
  obtain ⟨hx, hb, hml, hown, hts, hT, hK, rs, hlk, hret, hnm⟩ := id C
  have hm : ∀ w ∈ MW, w.before args s = true := fun w hw => hts w (hT w hw)
  intro n
  induction n with
  | zero =>
    intro v0 v1 h H locs cells slots ls hR hL hl hp
    exact absurd (show none = some (r, h') from hp) (by simp)
  | succ n ih =>
    intro v0 v1 h H locs cells slots ls hR hL hl hp
    rw [p_X6_wantSingleSpaces_2.eq_2] at hp
    refine lv_iload_n hx hb dX6_wantSingleSpaces_2 rfl (zl_at hl 1 rfl) ?_
    refine z_aload_n hx hb dX6_wantSingleSpaces_3 rfl (zl_at hl 0 rfl) ?_
    obtain ⟨k1, hp⟩ := ck_i hp
    refine r_get (ci := 7) (C := RX6) (T := TX6) (N := 4) (v := .int (aI h v0 3)) hx hb hm ii_X6 hown hK hR rfl k1 3 (by decide) (hm _ mw_74) (fun _ h9 => h9) rfl dX6_wantSingleSpaces_4 ?_
    refine lv_icmp_ge (tgt := 47) hx hb dX6_wantSingleSpaces_7 (by decide) (fun c2 => ?_) (fun c2 => ?_)
    · replace hp := ite_p hp c2
      cases hp
      exact r_vret C hR hL dX6_wantSingleSpaces_47
    · replace hp := ite_n hp c2
      refine z_aload_n hx hb dX6_wantSingleSpaces_10 rfl (zl_at hl 0 rfl) ?_
      obtain ⟨k3, hp⟩ := ck_i hp
      refine r_get (ci := 7) (C := RX6) (T := TX6) (N := 4) (v := zr (aR h v0 1)) hx hb hm ii_X6 hown hK hR rfl k3 1 (by decide) (hm _ mw_72) (fun _ h9 => h9) rfl dX6_wantSingleSpaces_11 ?_
      refine lv_iload_n hx hb dX6_wantSingleSpaces_14 rfl (zl_at hl 1 rfl) ?_
      obtain ⟨k4, hp⟩ := ck_i hp
      refine r_cald hx hb hK hR k4.1 k4.2 dX6_wantSingleSpaces_15 ?_
      refine lv_bipush (v := iI 32) hx hb dX6_wantSingleSpaces_16 (by decide +kernel) ?_
      refine lv_icmp_ne (tgt := 41) hx hb dX6_wantSingleSpaces_18 (by decide) (fun c6 => ?_) (fun c6 => ?_)
      · replace hp := ite_n hp c6
        exact s_X6_wantSingleSpaces_41 C (fun hR hL hl hp => ih _ _ _ _ _ _ _ _ hR hL hl hp) hR hL (zl_sub hl [0, 1] rfl) hp
      · replace hp := ite_p hp c6
        refine z_aload_n hx hb dX6_wantSingleSpaces_21 rfl (zl_at hl 0 rfl) ?_
        obtain ⟨k7, hp⟩ := ck_i hp
        refine r_get (ci := 7) (C := RX6) (T := TX6) (N := 4) (v := zr (aR h v0 1)) hx hb hm ii_X6 hown hK hR rfl k7 1 (by decide) (hm _ mw_72) (fun _ h9 => h9) rfl dX6_wantSingleSpaces_22 ?_
        refine lv_iload_n hx hb dX6_wantSingleSpaces_25 rfl (zl_at hl 1 rfl) ?_
        refine lv_iconst (v := iI 1) hx hb dX6_wantSingleSpaces_26 rfl ?_
        refine lv_isub hx hb dX6_wantSingleSpaces_27 ?_
        obtain ⟨k8, hp⟩ := ck_i hp
        refine r_cald hx hb hK hR k8.1 k8.2 dX6_wantSingleSpaces_28 ?_
        refine lv_bipush (v := iI 32) hx hb dX6_wantSingleSpaces_29 (by decide +kernel) ?_
        refine lv_icmp_ne (tgt := 41) hx hb dX6_wantSingleSpaces_31 (by decide) (fun c10 => ?_) (fun c10 => ?_)
        · replace hp := ite_n hp c10
          exact s_X6_wantSingleSpaces_41 C (fun hR hL hl hp => ih _ _ _ _ _ _ _ _ hR hL hl hp) hR hL (zl_sub hl [0, 1] rfl) hp
        · replace hp := ite_p hp c10
          refine z_aload_n hx hb dX6_wantSingleSpaces_34 rfl (zl_at hl 0 rfl) ?_
          obtain ⟨k11, hp⟩ := ck_i hp
          refine r_get (ci := 7) (C := RX6) (T := TX6) (N := 4) (v := zr (aR h v0 2)) hx hb hm ii_X6 hown hK hR rfl k11 2 (by decide) (hm _ mw_73) (fun _ h9 => h9) rfl dX6_wantSingleSpaces_35 ?_
          refine lv_iload_n hx hb dX6_wantSingleSpaces_38 rfl (zl_at hl 1 rfl) ?_
          refine lv_iconst (v := iI 1) hx hb dX6_wantSingleSpaces_39 rfl ?_
          obtain ⟨k12, hp⟩ := ck_i hp
          refine r_cast hx hb hK hR hL k12.1 k12.2 dX6_wantSingleSpaces_40 (fun H locs hR hL => ?_)
          obtain ⟨h14, hp, hR⟩ := nm_h hp hR
          exact s_X6_wantSingleSpaces_41 C (fun hR hL hl hp => ih _ _ _ _ _ _ _ _ hR hL hl hp) hR hL (zl_sub hl [0, 1] rfl) hp
def p_X6_wantSingleSpaces_0  (v0 : Nat) (h : AH) : Option (Unit × AH) :=
  nm ((iI 1)) fun (x1 : Int32) =>
  p_X6_wantSingleSpaces_2  FU v0 x1 h
set_option maxHeartbeats 4000000 in
set_option maxRecDepth 100000 in
theorem s_X6_wantSingleSpaces_0 {p : Program} {l : Launch} {e : Env} {s : State} {m : MethodId} {args : Array Value} {below : List Frame} {meth : Method} {c : Code} {G : GG} {hs : AH} {r : Unit} {h' : AH} (C : Cx G hs p s m args meth c cX6_wantSingleSpaces 2 RX6 (.code yX6_wantSingleSpaces cX6_wantSingleSpaces 2 none :: MW) none "wantSingleSpaces")   {v0 : Nat} {h : AH} {H : Heap} {locs : List Loc} {cells slots : Nat} {ls : Array Slot} (hR : Rp G h H) (hL : ∀ q ∈ locs, gB G ≤ q.base) (hl : zl ls 2 [(0, zr v0)]) (hp : p_X6_wantSingleSpaces_0  v0 h = some (r, h')) : W p l e (gR G hs 1 40) s m args below meth c H locs cells slots (MQ below (Qcc G (none) h') args s (gC G - aZ hs) (gS - aU hs) (fun q => gB G ≤ q)) (F0 m 0 ls []) := by
  obtain ⟨hx, hb, hml, hown, hts, hT, hK, rs, hlk, hret, hnm⟩ := id C
  have hm : ∀ w ∈ MW, w.before args s = true := fun w hw => hts w (hT w hw)
  unfold p_X6_wantSingleSpaces_0 at hp
  refine lv_iconst (v := iI 1) hx hb dX6_wantSingleSpaces_0 rfl ?_
  refine lv_topi (fun x1 ex1 => ?_)
  replace hp := nm_i hp ex1
  refine z_istore_n (lv' := [(1, .int x1), (0, zr v0)]) hx hb dX6_wantSingleSpaces_1 rfl hl (by decide) rfl (fun ls hl => ?_)
  exact s_X6_wantSingleSpaces_2 C  _ _ _ _ _ _ _ _ _ hR hL (zl_sub hl [1, 0] rfl) hp
def p_X6_wantSingleSpaces (v0 : Nat) (h : AH) : Option (Unit × AH) := ck (v0 ≠ 0) <| p_X6_wantSingleSpaces_0 v0 h
theorem c_X6_wantSingleSpaces (l : Launch) (G : GG) (v0 : Nat) (h : AH) (r : Unit) (h' : AH) (hp : p_X6_wantSingleSpaces v0 h = some (r, h')) : Ct l yX6_wantSingleSpaces (.code yX6_wantSingleSpaces cX6_wantSingleSpaces 2 none :: MW) G 1 40 [.ref (v0 - 1)] h (none) h' := by
  obtain ⟨hz0, hp⟩ := ck_i hp
  refine Ct.of (by decide +kernel) (Nat.le_of_ble_eq_true rfl) ?_
  intro p e s m args below meth c C hR ls hl
  have hl : zl ls 2 [(0, zr v0)] := ⟨by rw [zr_p hz0]; exact hl, by simp [zr_cat, in_cat]⟩
  exact s_X6_wantSingleSpaces_0 C hR (fun _ hq => nomatch hq) hl hp
/-! CursorKeep$Plan.wantBareEnds()V -/
def p_X6_wantBareEnds_55 (k9 : Nat → Int32 → Int32 → AH → Option (Unit × AH)) (v0 : Nat) (v1 : Int32) (v2 : Int32) (h : AH) : Option (Unit × AH) :=
  nm (v2 + iI (-1)) fun (x1 : Int32) =>
  k9 v0 v1 x1 h
set_option maxHeartbeats 4000000 in
set_option maxRecDepth 100000 in
theorem s_X6_wantBareEnds_55 {p : Program} {l : Launch} {e : Env} {s : State} {m : MethodId} {args : Array Value} {below : List Frame} {meth : Method} {c : Code} {G : GG} {hs : AH} {r : Unit} {h' : AH} (C : Cx G hs p s m args meth c cX6_wantBareEnds 3 RX6 (.code yX6_wantBareEnds cX6_wantBareEnds 3 none :: MW) none "wantBareEnds") {k9 : Nat → Int32 → Int32 → AH → Option (Unit × AH)} (hk9 : ∀ {v0 : Nat} {v1 : Int32} {v2 : Int32} {h : AH} {H : Heap} {locs : List Loc} {cells slots : Nat} {ls : Array Slot}, Rp G h H → (∀ q ∈ locs, gB G ≤ q.base) → zl ls 3 [(0, zr v0), (1, .int v1), (2, .int v2)] → k9 v0 v1 v2 h = some (r, h') → W p l e (gR G hs 1 40) s m args below meth c H locs cells slots (MQ below (Qcc G (none) h') args s (gC G - aZ hs) (gS - aU hs) (fun q => gB G ≤ q)) (F0 m 9 ls [])) {v0 : Nat} {v1 : Int32} {v2 : Int32} {h : AH} {H : Heap} {locs : List Loc} {cells slots : Nat} {ls : Array Slot} (hR : Rp G h H) (hL : ∀ q ∈ locs, gB G ≤ q.base) (hl : zl ls 3 [(0, zr v0), (1, .int v1), (2, .int v2)]) (hp : p_X6_wantBareEnds_55 k9 v0 v1 v2 h = some (r, h')) : W p l e (gR G hs 1 40) s m args below meth c H locs cells slots (MQ below (Qcc G (none) h') args s (gC G - aZ hs) (gS - aU hs) (fun q => gB G ≤ q)) (F0 m 55 ls []) := by
  obtain ⟨hx, hb, hml, hown, hts, hT, hK, rs, hlk, hret, hnm⟩ := id C
  have hm : ∀ w ∈ MW, w.before args s = true := fun w hw => hts w (hT w hw)
  unfold p_X6_wantBareEnds_55 at hp
  obtain ⟨x1, ex1⟩ : ∃ y : Int32, y = v2 + iI (-1) := ⟨_, rfl⟩
  replace hp := nm_i hp ex1
  refine z_iinc (v := x1) (lv' := [(2, .int x1), (0, zr v0), (1, .int v1)]) hx hb dX6_wantBareEnds_55 hl (k := 2) rfl ex1 (by decide) rfl (fun ls hl => ?_)
  refine lv_goto (tgt := 9) hx hb dX6_wantBareEnds_58 (by decide) ?_
  exact hk9 hR hL (zl_sub hl [1, 2, 0] rfl) hp
def p_X6_wantBareEnds_40 (k9 : Nat → Int32 → Int32 → AH → Option (Unit × AH)) (v0 : Nat) (v2 : Int32) (s0 : Int32) (h : AH) : Option (Unit × AH) :=
  p_X6_wantBareEnds_55 k9 v0 s0 v2 h
set_option maxHeartbeats 4000000 in
set_option maxRecDepth 100000 in
theorem s_X6_wantBareEnds_40 {p : Program} {l : Launch} {e : Env} {s : State} {m : MethodId} {args : Array Value} {below : List Frame} {meth : Method} {c : Code} {G : GG} {hs : AH} {r : Unit} {h' : AH} (C : Cx G hs p s m args meth c cX6_wantBareEnds 3 RX6 (.code yX6_wantBareEnds cX6_wantBareEnds 3 none :: MW) none "wantBareEnds") {k9 : Nat → Int32 → Int32 → AH → Option (Unit × AH)} (hk9 : ∀ {v0 : Nat} {v1 : Int32} {v2 : Int32} {h : AH} {H : Heap} {locs : List Loc} {cells slots : Nat} {ls : Array Slot}, Rp G h H → (∀ q ∈ locs, gB G ≤ q.base) → zl ls 3 [(0, zr v0), (1, .int v1), (2, .int v2)] → k9 v0 v1 v2 h = some (r, h') → W p l e (gR G hs 1 40) s m args below meth c H locs cells slots (MQ below (Qcc G (none) h') args s (gC G - aZ hs) (gS - aU hs) (fun q => gB G ≤ q)) (F0 m 9 ls [])) {v0 : Nat} {v2 : Int32} {s0 : Int32} {h : AH} {H : Heap} {locs : List Loc} {cells slots : Nat} {ls : Array Slot} (hR : Rp G h H) (hL : ∀ q ∈ locs, gB G ≤ q.base) (hl : zl ls 3 [(0, zr v0), (2, .int v2)]) (hp : p_X6_wantBareEnds_40 k9 v0 v2 s0 h = some (r, h')) : W p l e (gR G hs 1 40) s m args below meth c H locs cells slots (MQ below (Qcc G (none) h') args s (gC G - aZ hs) (gS - aU hs) (fun q => gB G ≤ q)) (F0 m 40 ls [.int s0]) := by
  obtain ⟨hx, hb, hml, hown, hts, hT, hK, rs, hlk, hret, hnm⟩ := id C
  have hm : ∀ w ∈ MW, w.before args s = true := fun w hw => hts w (hT w hw)
  unfold p_X6_wantBareEnds_40 at hp
  refine z_istore_n (lv' := [(1, .int s0), (0, zr v0), (2, .int v2)]) hx hb dX6_wantBareEnds_40 rfl hl (by decide) rfl (fun ls hl => ?_)
  refine lv_goto (tgt := 55) hx hb dX6_wantBareEnds_41 (by decide) ?_
  exact s_X6_wantBareEnds_55 C hk9 hR hL (zl_sub hl [1, 0, 2] rfl) hp
def p_X6_wantBareEnds_9  : Nat → Nat → Int32 → Int32 → AH → Option (Unit × AH)
  | 0, _, _, _, _ => none
  | n + 1, v0, v1, v2, h =>
    if v2 < 0 then
      some ((), h)
    else
      ck (aK h v0 = 8) <|
      ck (aK h (aR h v0 1) = 21 ∧ ix v2 (aN h (aR h v0 1))) <|
      if (aI h (aR h v0 1) v2.toNatClampNeg) = (iI 32) then
        if v1 = 0 then
          p_X6_wantBareEnds_55 (p_X6_wantBareEnds_9  n) v0 v1 v2 h
        else
          ck (aK h v0 = 8) <|
          ck (aK h (aR h v0 2) = 21 ∧ ix v2 (aN h (aR h v0 2))) <|
          nm (uI h (aR h v0 2) v2.toNatClampNeg (nC (iI 1))) fun h10 =>
          p_X6_wantBareEnds_55 (p_X6_wantBareEnds_9  n) v0 v1 v2 h10
      else
        ck (aK h v0 = 8) <|
        ck (aK h (aR h v0 1) = 21 ∧ ix v2 (aN h (aR h v0 1))) <|
        if (aI h (aR h v0 1) v2.toNatClampNeg) = (iI 47) then
          p_X6_wantBareEnds_40 (p_X6_wantBareEnds_9  n) v0 v2 (iI 1) h
        else
          p_X6_wantBareEnds_40 (p_X6_wantBareEnds_9  n) v0 v2 (iI 0) h
set_option maxHeartbeats 4000000 in
set_option maxRecDepth 100000 in
theorem s_X6_wantBareEnds_9 {p : Program} {l : Launch} {e : Env} {s : State} {m : MethodId} {args : Array Value} {below : List Frame} {meth : Method} {c : Code} {G : GG} {hs : AH} {r : Unit} {h' : AH} (C : Cx G hs p s m args meth c cX6_wantBareEnds 3 RX6 (.code yX6_wantBareEnds cX6_wantBareEnds 3 none :: MW) none "wantBareEnds")   : ∀ (n : Nat) (v0 : Nat) (v1 : Int32) (v2 : Int32) (h : AH) (H : Heap) (locs : List Loc) (cells slots : Nat) (ls : Array Slot) (hR : Rp G h H) (hL : ∀ q ∈ locs, gB G ≤ q.base) (hl : zl ls 3 [(0, zr v0), (1, .int v1), (2, .int v2)]) (hp : p_X6_wantBareEnds_9  n v0 v1 v2 h = some (r, h')), W p l e (gR G hs 1 40) s m args below meth c H locs cells slots (MQ below (Qcc G (none) h') args s (gC G - aZ hs) (gS - aU hs) (fun q => gB G ≤ q)) (F0 m 9 ls []) := by
  obtain ⟨hx, hb, hml, hown, hts, hT, hK, rs, hlk, hret, hnm⟩ := id C
  have hm : ∀ w ∈ MW, w.before args s = true := fun w hw => hts w (hT w hw)
  intro n
  induction n with
  | zero =>
    intro v0 v1 v2 h H locs cells slots ls hR hL hl hp
    exact absurd (show none = some (r, h') from hp) (by simp)
  | succ n ih =>
    intro v0 v1 v2 h H locs cells slots ls hR hL hl hp
    rw [p_X6_wantBareEnds_9.eq_2] at hp
    refine lv_iload_n hx hb dX6_wantBareEnds_9 rfl (zl_at hl 2 rfl) ?_
    refine lv_if_lt (tgt := 61) hx hb dX6_wantBareEnds_10 (by decide) (fun c1 => ?_) (fun c1 => ?_)
    · replace hp := ite_p hp c1
      cases hp
      exact r_vret C hR hL dX6_wantBareEnds_61
    · replace hp := ite_n hp c1
      refine z_aload_n hx hb dX6_wantBareEnds_13 rfl (zl_at hl 0 rfl) ?_
      obtain ⟨k2, hp⟩ := ck_i hp
      refine r_get (ci := 7) (C := RX6) (T := TX6) (N := 4) (v := zr (aR h v0 1)) hx hb hm ii_X6 hown hK hR rfl k2 1 (by decide) (hm _ mw_72) (fun _ h9 => h9) rfl dX6_wantBareEnds_14 ?_
      refine lv_iload_n hx hb dX6_wantBareEnds_17 rfl (zl_at hl 2 rfl) ?_
      obtain ⟨k3, hp⟩ := ck_i hp
      refine r_cald hx hb hK hR k3.1 k3.2 dX6_wantBareEnds_18 ?_
      refine lv_bipush (v := iI 32) hx hb dX6_wantBareEnds_19 (by decide +kernel) ?_
      refine lv_icmp_eq (tgt := 44) hx hb dX6_wantBareEnds_21 (by decide) (fun c5 => ?_) (fun c5 => ?_)
      · replace hp := ite_p hp c5
        refine lv_iload_n hx hb dX6_wantBareEnds_44 rfl (zl_at hl 1 rfl) ?_
        refine lv_if_eq (tgt := 55) hx hb dX6_wantBareEnds_45 (by decide) (fun c6 => ?_) (fun c6 => ?_)
        · replace hp := ite_p hp c6
          exact s_X6_wantBareEnds_55 C (fun hR hL hl hp => ih _ _ _ _ _ _ _ _ _ hR hL hl hp) hR hL (zl_sub hl [0, 1, 2] rfl) hp
        · replace hp := ite_n hp c6
          refine z_aload_n hx hb dX6_wantBareEnds_48 rfl (zl_at hl 0 rfl) ?_
          obtain ⟨k7, hp⟩ := ck_i hp
          refine r_get (ci := 7) (C := RX6) (T := TX6) (N := 4) (v := zr (aR h v0 2)) hx hb hm ii_X6 hown hK hR rfl k7 2 (by decide) (hm _ mw_73) (fun _ h9 => h9) rfl dX6_wantBareEnds_49 ?_
          refine lv_iload_n hx hb dX6_wantBareEnds_52 rfl (zl_at hl 2 rfl) ?_
          refine lv_iconst (v := iI 1) hx hb dX6_wantBareEnds_53 rfl ?_
          obtain ⟨k8, hp⟩ := ck_i hp
          refine r_cast hx hb hK hR hL k8.1 k8.2 dX6_wantBareEnds_54 (fun H locs hR hL => ?_)
          obtain ⟨h10, hp, hR⟩ := nm_h hp hR
          exact s_X6_wantBareEnds_55 C (fun hR hL hl hp => ih _ _ _ _ _ _ _ _ _ hR hL hl hp) hR hL (zl_sub hl [0, 1, 2] rfl) hp
      · replace hp := ite_n hp c5
        refine z_aload_n hx hb dX6_wantBareEnds_24 rfl (zl_at hl 0 rfl) ?_
        obtain ⟨k11, hp⟩ := ck_i hp
        refine r_get (ci := 7) (C := RX6) (T := TX6) (N := 4) (v := zr (aR h v0 1)) hx hb hm ii_X6 hown hK hR rfl k11 1 (by decide) (hm _ mw_72) (fun _ h9 => h9) rfl dX6_wantBareEnds_25 ?_
        refine lv_iload_n hx hb dX6_wantBareEnds_28 rfl (zl_at hl 2 rfl) ?_
        obtain ⟨k12, hp⟩ := ck_i hp
        refine r_cald hx hb hK hR k12.1 k12.2 dX6_wantBareEnds_29 ?_
        refine lv_bipush (v := iI 47) hx hb dX6_wantBareEnds_30 (by decide +kernel) ?_
        refine lv_icmp_ne (tgt := 39) hx hb dX6_wantBareEnds_32 (by decide) (fun c14 => ?_) (fun c14 => ?_)
        · replace hp := ite_n hp c14
          refine lv_iconst (v := iI 0) hx hb dX6_wantBareEnds_39 rfl ?_
          exact s_X6_wantBareEnds_40 C (fun hR hL hl hp => ih _ _ _ _ _ _ _ _ _ hR hL hl hp) hR hL (zl_sub hl [0, 2] rfl) hp
        · replace hp := ite_p hp c14
          refine lv_iconst (v := iI 1) hx hb dX6_wantBareEnds_35 rfl ?_
          refine lv_goto (tgt := 40) hx hb dX6_wantBareEnds_36 (by decide) ?_
          exact s_X6_wantBareEnds_40 C (fun hR hL hl hp => ih _ _ _ _ _ _ _ _ _ hR hL hl hp) hR hL (zl_sub hl [0, 2] rfl) hp
def p_X6_wantBareEnds_0  (v0 : Nat) (h : AH) : Option (Unit × AH) :=
  nm ((iI 1)) fun (x1 : Int32) =>
  ck (aK h v0 = 8) <|
  nm (((aI h v0 3) - (iI 1))) fun (x3 : Int32) =>
  p_X6_wantBareEnds_9  FU v0 x1 x3 h
set_option maxHeartbeats 4000000 in
set_option maxRecDepth 100000 in
theorem s_X6_wantBareEnds_0 {p : Program} {l : Launch} {e : Env} {s : State} {m : MethodId} {args : Array Value} {below : List Frame} {meth : Method} {c : Code} {G : GG} {hs : AH} {r : Unit} {h' : AH} (C : Cx G hs p s m args meth c cX6_wantBareEnds 3 RX6 (.code yX6_wantBareEnds cX6_wantBareEnds 3 none :: MW) none "wantBareEnds")   {v0 : Nat} {h : AH} {H : Heap} {locs : List Loc} {cells slots : Nat} {ls : Array Slot} (hR : Rp G h H) (hL : ∀ q ∈ locs, gB G ≤ q.base) (hl : zl ls 3 [(0, zr v0)]) (hp : p_X6_wantBareEnds_0  v0 h = some (r, h')) : W p l e (gR G hs 1 40) s m args below meth c H locs cells slots (MQ below (Qcc G (none) h') args s (gC G - aZ hs) (gS - aU hs) (fun q => gB G ≤ q)) (F0 m 0 ls []) := by
  obtain ⟨hx, hb, hml, hown, hts, hT, hK, rs, hlk, hret, hnm⟩ := id C
  have hm : ∀ w ∈ MW, w.before args s = true := fun w hw => hts w (hT w hw)
  unfold p_X6_wantBareEnds_0 at hp
  refine lv_iconst (v := iI 1) hx hb dX6_wantBareEnds_0 rfl ?_
  refine lv_topi (fun x1 ex1 => ?_)
  replace hp := nm_i hp ex1
  refine z_istore_n (lv' := [(1, .int x1), (0, zr v0)]) hx hb dX6_wantBareEnds_1 rfl hl (by decide) rfl (fun ls hl => ?_)
  refine z_aload_n hx hb dX6_wantBareEnds_2 rfl (zl_at hl 1 rfl) ?_
  obtain ⟨k2, hp⟩ := ck_i hp
  refine r_get (ci := 7) (C := RX6) (T := TX6) (N := 4) (v := .int (aI h v0 3)) hx hb hm ii_X6 hown hK hR rfl k2 3 (by decide) (hm _ mw_74) (fun _ h9 => h9) rfl dX6_wantBareEnds_3 ?_
  refine lv_iconst (v := iI 1) hx hb dX6_wantBareEnds_6 rfl ?_
  refine lv_isub hx hb dX6_wantBareEnds_7 ?_
  refine lv_topi (fun x3 ex3 => ?_)
  replace hp := nm_i hp ex3
  refine z_istore_n (lv' := [(2, .int x3), (1, .int x1), (0, zr v0)]) hx hb dX6_wantBareEnds_8 rfl hl (by decide) rfl (fun ls hl => ?_)
  exact s_X6_wantBareEnds_9 C  _ _ _ _ _ _ _ _ _ _ hR hL (zl_sub hl [2, 1, 0] rfl) hp
def p_X6_wantBareEnds (v0 : Nat) (h : AH) : Option (Unit × AH) := ck (v0 ≠ 0) <| p_X6_wantBareEnds_0 v0 h
theorem c_X6_wantBareEnds (l : Launch) (G : GG) (v0 : Nat) (h : AH) (r : Unit) (h' : AH) (hp : p_X6_wantBareEnds v0 h = some (r, h')) : Ct l yX6_wantBareEnds (.code yX6_wantBareEnds cX6_wantBareEnds 3 none :: MW) G 1 40 [.ref (v0 - 1)] h (none) h' := by
  obtain ⟨hz0, hp⟩ := ck_i hp
  refine Ct.of (by decide +kernel) (Nat.le_of_ble_eq_true rfl) ?_
  intro p e s m args below meth c C hR ls hl
  have hl : zl ls 3 [(0, zr v0)] := ⟨by rw [zr_p hz0]; exact hl, by simp [zr_cat, in_cat]⟩
  exact s_X6_wantBareEnds_0 C hR (fun _ hq => nomatch hq) hl hp
/-! CursorKeep$Plan.wantCapitals()V -/
def p_X6_wantCapitals_73 (k4 : Nat → Int32 → Int32 → AH → Option (Unit × AH)) (v0 : Nat) (v2 : Int32) (s0 : Int32) (h : AH) : Option (Unit × AH) :=
  nm (v2 + iI 1) fun (x1 : Int32) =>
  k4 v0 s0 x1 h
set_option maxHeartbeats 4000000 in
set_option maxRecDepth 100000 in
theorem s_X6_wantCapitals_73 {p : Program} {l : Launch} {e : Env} {s : State} {m : MethodId} {args : Array Value} {below : List Frame} {meth : Method} {c : Code} {G : GG} {hs : AH} {r : Unit} {h' : AH} (C : Cx G hs p s m args meth c cX6_wantCapitals 3 RX6 (.code yX6_wantCapitals cX6_wantCapitals 3 none :: MW) none "wantCapitals") {k4 : Nat → Int32 → Int32 → AH → Option (Unit × AH)} (hk4 : ∀ {v0 : Nat} {v1 : Int32} {v2 : Int32} {h : AH} {H : Heap} {locs : List Loc} {cells slots : Nat} {ls : Array Slot}, Rp G h H → (∀ q ∈ locs, gB G ≤ q.base) → zl ls 3 [(0, zr v0), (1, .int v1), (2, .int v2)] → k4 v0 v1 v2 h = some (r, h') → W p l e (gR G hs 1 40) s m args below meth c H locs cells slots (MQ below (Qcc G (none) h') args s (gC G - aZ hs) (gS - aU hs) (fun q => gB G ≤ q)) (F0 m 4 ls [])) {v0 : Nat} {v2 : Int32} {s0 : Int32} {h : AH} {H : Heap} {locs : List Loc} {cells slots : Nat} {ls : Array Slot} (hR : Rp G h H) (hL : ∀ q ∈ locs, gB G ≤ q.base) (hl : zl ls 3 [(0, zr v0), (2, .int v2)]) (hp : p_X6_wantCapitals_73 k4 v0 v2 s0 h = some (r, h')) : W p l e (gR G hs 1 40) s m args below meth c H locs cells slots (MQ below (Qcc G (none) h') args s (gC G - aZ hs) (gS - aU hs) (fun q => gB G ≤ q)) (F0 m 73 ls [.int s0]) := by
  obtain ⟨hx, hb, hml, hown, hts, hT, hK, rs, hlk, hret, hnm⟩ := id C
  have hm : ∀ w ∈ MW, w.before args s = true := fun w hw => hts w (hT w hw)
  unfold p_X6_wantCapitals_73 at hp
  refine z_istore_n (lv' := [(1, .int s0), (0, zr v0), (2, .int v2)]) hx hb dX6_wantCapitals_73 rfl hl (by decide) rfl (fun ls hl => ?_)
  obtain ⟨x1, ex1⟩ : ∃ y : Int32, y = v2 + iI 1 := ⟨_, rfl⟩
  replace hp := nm_i hp ex1
  refine z_iinc (v := x1) (lv' := [(2, .int x1), (1, .int s0), (0, zr v0)]) hx hb dX6_wantCapitals_74 hl (k := 2) rfl ex1 (by decide) rfl (fun ls hl => ?_)
  refine lv_goto (tgt := 4) hx hb dX6_wantCapitals_77 (by decide) ?_
  exact hk4 hR hL (zl_sub hl [2, 1, 0] rfl) hp
def p_X6_wantCapitals_57 (k4 : Nat → Int32 → Int32 → AH → Option (Unit × AH)) (v0 : Nat) (v2 : Int32) (h : AH) : Option (Unit × AH) :=
  ck (aK h v0 = 8) <|
  ck (aK h (aR h v0 1) = 21 ∧ ix v2 (aN h (aR h v0 1))) <|
  if (aI h (aR h v0 1) v2.toNatClampNeg) = (iI 47) then
    p_X6_wantCapitals_73 k4 v0 v2 (iI 1) h
  else
    p_X6_wantCapitals_73 k4 v0 v2 (iI 0) h
set_option maxHeartbeats 4000000 in
set_option maxRecDepth 100000 in
theorem s_X6_wantCapitals_57 {p : Program} {l : Launch} {e : Env} {s : State} {m : MethodId} {args : Array Value} {below : List Frame} {meth : Method} {c : Code} {G : GG} {hs : AH} {r : Unit} {h' : AH} (C : Cx G hs p s m args meth c cX6_wantCapitals 3 RX6 (.code yX6_wantCapitals cX6_wantCapitals 3 none :: MW) none "wantCapitals") {k4 : Nat → Int32 → Int32 → AH → Option (Unit × AH)} (hk4 : ∀ {v0 : Nat} {v1 : Int32} {v2 : Int32} {h : AH} {H : Heap} {locs : List Loc} {cells slots : Nat} {ls : Array Slot}, Rp G h H → (∀ q ∈ locs, gB G ≤ q.base) → zl ls 3 [(0, zr v0), (1, .int v1), (2, .int v2)] → k4 v0 v1 v2 h = some (r, h') → W p l e (gR G hs 1 40) s m args below meth c H locs cells slots (MQ below (Qcc G (none) h') args s (gC G - aZ hs) (gS - aU hs) (fun q => gB G ≤ q)) (F0 m 4 ls [])) {v0 : Nat} {v2 : Int32} {h : AH} {H : Heap} {locs : List Loc} {cells slots : Nat} {ls : Array Slot} (hR : Rp G h H) (hL : ∀ q ∈ locs, gB G ≤ q.base) (hl : zl ls 3 [(0, zr v0), (2, .int v2)]) (hp : p_X6_wantCapitals_57 k4 v0 v2 h = some (r, h')) : W p l e (gR G hs 1 40) s m args below meth c H locs cells slots (MQ below (Qcc G (none) h') args s (gC G - aZ hs) (gS - aU hs) (fun q => gB G ≤ q)) (F0 m 57 ls []) := by
  obtain ⟨hx, hb, hml, hown, hts, hT, hK, rs, hlk, hret, hnm⟩ := id C
  have hm : ∀ w ∈ MW, w.before args s = true := fun w hw => hts w (hT w hw)
  unfold p_X6_wantCapitals_57 at hp
  refine z_aload_n hx hb dX6_wantCapitals_57 rfl (zl_at hl 0 rfl) ?_
  obtain ⟨k1, hp⟩ := ck_i hp
  refine r_get (ci := 7) (C := RX6) (T := TX6) (N := 4) (v := zr (aR h v0 1)) hx hb hm ii_X6 hown hK hR rfl k1 1 (by decide) (hm _ mw_72) (fun _ h9 => h9) rfl dX6_wantCapitals_58 ?_
  refine lv_iload_n hx hb dX6_wantCapitals_61 rfl (zl_at hl 1 rfl) ?_
  obtain ⟨k2, hp⟩ := ck_i hp
  refine r_cald hx hb hK hR k2.1 k2.2 dX6_wantCapitals_62 ?_
  refine lv_bipush (v := iI 47) hx hb dX6_wantCapitals_63 (by decide +kernel) ?_
  refine lv_icmp_ne (tgt := 72) hx hb dX6_wantCapitals_65 (by decide) (fun c4 => ?_) (fun c4 => ?_)
  · replace hp := ite_n hp c4
    refine lv_iconst (v := iI 0) hx hb dX6_wantCapitals_72 rfl ?_
    exact s_X6_wantCapitals_73 C hk4 hR hL (zl_sub hl [0, 1] rfl) hp
  · replace hp := ite_p hp c4
    refine lv_iconst (v := iI 1) hx hb dX6_wantCapitals_68 rfl ?_
    refine lv_goto (tgt := 73) hx hb dX6_wantCapitals_69 (by decide) ?_
    exact s_X6_wantCapitals_73 C hk4 hR hL (zl_sub hl [0, 1] rfl) hp
def p_X6_wantCapitals_4  : Nat → Nat → Int32 → Int32 → AH → Option (Unit × AH)
  | 0, _, _, _, _ => none
  | n + 1, v0, v1, v2, h =>
    ck (aK h v0 = 8) <|
    if (aI h v0 3) ≤ v2 then
      some ((), h)
    else
      if v1 = 0 then
        p_X6_wantCapitals_57 (p_X6_wantCapitals_4  n) v0 v2 h
      else
        ck (aK h v0 = 8) <|
        ck (aK h (aR h v0 1) = 21 ∧ ix v2 (aN h (aR h v0 1))) <|
        if (aI h (aR h v0 1) v2.toNatClampNeg) < (iI 97) then
          p_X6_wantCapitals_57 (p_X6_wantCapitals_4  n) v0 v2 h
        else
          ck (aK h v0 = 8) <|
          ck (aK h (aR h v0 1) = 21 ∧ ix v2 (aN h (aR h v0 1))) <|
          if (iI 122) < (aI h (aR h v0 1) v2.toNatClampNeg) then
            p_X6_wantCapitals_57 (p_X6_wantCapitals_4  n) v0 v2 h
          else
            ck (aK h v0 = 8) <|
            ck (aK h v0 = 8) <|
            ck (aK h (aR h v0 1) = 21 ∧ ix v2 (aN h (aR h v0 1))) <|
            ck (aK h (aR h v0 2) = 21 ∧ ix v2 (aN h (aR h v0 2))) <|
            nm (uI h (aR h v0 2) v2.toNatClampNeg (nC (nC (((aI h (aR h v0 1) v2.toNatClampNeg) - (iI 97)) + (iI 65))))) fun h18 =>
            p_X6_wantCapitals_57 (p_X6_wantCapitals_4  n) v0 v2 h18
set_option maxHeartbeats 4000000 in
set_option maxRecDepth 100000 in
theorem s_X6_wantCapitals_4 {p : Program} {l : Launch} {e : Env} {s : State} {m : MethodId} {args : Array Value} {below : List Frame} {meth : Method} {c : Code} {G : GG} {hs : AH} {r : Unit} {h' : AH} (C : Cx G hs p s m args meth c cX6_wantCapitals 3 RX6 (.code yX6_wantCapitals cX6_wantCapitals 3 none :: MW) none "wantCapitals")   : ∀ (n : Nat) (v0 : Nat) (v1 : Int32) (v2 : Int32) (h : AH) (H : Heap) (locs : List Loc) (cells slots : Nat) (ls : Array Slot) (hR : Rp G h H) (hL : ∀ q ∈ locs, gB G ≤ q.base) (hl : zl ls 3 [(0, zr v0), (1, .int v1), (2, .int v2)]) (hp : p_X6_wantCapitals_4  n v0 v1 v2 h = some (r, h')), W p l e (gR G hs 1 40) s m args below meth c H locs cells slots (MQ below (Qcc G (none) h') args s (gC G - aZ hs) (gS - aU hs) (fun q => gB G ≤ q)) (F0 m 4 ls []) := by
  obtain ⟨hx, hb, hml, hown, hts, hT, hK, rs, hlk, hret, hnm⟩ := id C
  have hm : ∀ w ∈ MW, w.before args s = true := fun w hw => hts w (hT w hw)
  intro n
  induction n with
  | zero =>
    intro v0 v1 v2 h H locs cells slots ls hR hL hl hp
    exact absurd (show none = some (r, h') from hp) (by simp)
  | succ n ih =>
    intro v0 v1 v2 h H locs cells slots ls hR hL hl hp
    rw [p_X6_wantCapitals_4.eq_2] at hp
    refine lv_iload_n hx hb dX6_wantCapitals_4 rfl (zl_at hl 2 rfl) ?_
    refine z_aload_n hx hb dX6_wantCapitals_5 rfl (zl_at hl 0 rfl) ?_
    obtain ⟨k1, hp⟩ := ck_i hp
    refine r_get (ci := 7) (C := RX6) (T := TX6) (N := 4) (v := .int (aI h v0 3)) hx hb hm ii_X6 hown hK hR rfl k1 3 (by decide) (hm _ mw_74) (fun _ h9 => h9) rfl dX6_wantCapitals_6 ?_
    refine lv_icmp_ge (tgt := 80) hx hb dX6_wantCapitals_9 (by decide) (fun c2 => ?_) (fun c2 => ?_)
    · replace hp := ite_p hp c2
      cases hp
      exact r_vret C hR hL dX6_wantCapitals_80
    · replace hp := ite_n hp c2
      refine lv_iload_n hx hb dX6_wantCapitals_12 rfl (zl_at hl 1 rfl) ?_
      refine lv_if_eq (tgt := 57) hx hb dX6_wantCapitals_13 (by decide) (fun c3 => ?_) (fun c3 => ?_)
      · replace hp := ite_p hp c3
        exact s_X6_wantCapitals_57 C (fun hR hL hl hp => ih _ _ _ _ _ _ _ _ _ hR hL hl hp) hR hL (zl_sub hl [0, 2] rfl) hp
      · replace hp := ite_n hp c3
        refine z_aload_n hx hb dX6_wantCapitals_16 rfl (zl_at hl 0 rfl) ?_
        obtain ⟨k4, hp⟩ := ck_i hp
        refine r_get (ci := 7) (C := RX6) (T := TX6) (N := 4) (v := zr (aR h v0 1)) hx hb hm ii_X6 hown hK hR rfl k4 1 (by decide) (hm _ mw_72) (fun _ h9 => h9) rfl dX6_wantCapitals_17 ?_
        refine lv_iload_n hx hb dX6_wantCapitals_20 rfl (zl_at hl 2 rfl) ?_
        obtain ⟨k5, hp⟩ := ck_i hp
        refine r_cald hx hb hK hR k5.1 k5.2 dX6_wantCapitals_21 ?_
        refine lv_bipush (v := iI 97) hx hb dX6_wantCapitals_22 (by decide +kernel) ?_
        refine lv_icmp_lt (tgt := 57) hx hb dX6_wantCapitals_24 (by decide) (fun c7 => ?_) (fun c7 => ?_)
        · replace hp := ite_p hp c7
          exact s_X6_wantCapitals_57 C (fun hR hL hl hp => ih _ _ _ _ _ _ _ _ _ hR hL hl hp) hR hL (zl_sub hl [0, 2] rfl) hp
        · replace hp := ite_n hp c7
          refine z_aload_n hx hb dX6_wantCapitals_27 rfl (zl_at hl 0 rfl) ?_
          obtain ⟨k8, hp⟩ := ck_i hp
          refine r_get (ci := 7) (C := RX6) (T := TX6) (N := 4) (v := zr (aR h v0 1)) hx hb hm ii_X6 hown hK hR rfl k8 1 (by decide) (hm _ mw_72) (fun _ h9 => h9) rfl dX6_wantCapitals_28 ?_
          refine lv_iload_n hx hb dX6_wantCapitals_31 rfl (zl_at hl 2 rfl) ?_
          obtain ⟨k9, hp⟩ := ck_i hp
          refine r_cald hx hb hK hR k9.1 k9.2 dX6_wantCapitals_32 ?_
          refine lv_bipush (v := iI 122) hx hb dX6_wantCapitals_33 (by decide +kernel) ?_
          refine lv_icmp_gt (tgt := 57) hx hb dX6_wantCapitals_35 (by decide) (fun c11 => ?_) (fun c11 => ?_)
          · replace hp := ite_p hp c11
            exact s_X6_wantCapitals_57 C (fun hR hL hl hp => ih _ _ _ _ _ _ _ _ _ hR hL hl hp) hR hL (zl_sub hl [0, 2] rfl) hp
          · replace hp := ite_n hp c11
            refine z_aload_n hx hb dX6_wantCapitals_38 rfl (zl_at hl 0 rfl) ?_
            obtain ⟨k12, hp⟩ := ck_i hp
            refine r_get (ci := 7) (C := RX6) (T := TX6) (N := 4) (v := zr (aR h v0 2)) hx hb hm ii_X6 hown hK hR rfl k12 2 (by decide) (hm _ mw_73) (fun _ h9 => h9) rfl dX6_wantCapitals_39 ?_
            refine lv_iload_n hx hb dX6_wantCapitals_42 rfl (zl_at hl 2 rfl) ?_
            refine z_aload_n hx hb dX6_wantCapitals_43 rfl (zl_at hl 0 rfl) ?_
            obtain ⟨k13, hp⟩ := ck_i hp
            refine r_get (ci := 7) (C := RX6) (T := TX6) (N := 4) (v := zr (aR h v0 1)) hx hb hm ii_X6 hown hK hR rfl k13 1 (by decide) (hm _ mw_72) (fun _ h9 => h9) rfl dX6_wantCapitals_44 ?_
            refine lv_iload_n hx hb dX6_wantCapitals_47 rfl (zl_at hl 2 rfl) ?_
            obtain ⟨k14, hp⟩ := ck_i hp
            refine r_cald hx hb hK hR k14.1 k14.2 dX6_wantCapitals_48 ?_
            refine lv_bipush (v := iI 97) hx hb dX6_wantCapitals_49 (by decide +kernel) ?_
            refine lv_isub hx hb dX6_wantCapitals_51 ?_
            refine lv_bipush (v := iI 65) hx hb dX6_wantCapitals_52 (by decide +kernel) ?_
            refine lv_iadd hx hb dX6_wantCapitals_54 ?_
            refine lv_i2c (v := nC (((aI h (aR h v0 1) v2.toNatClampNeg) - (iI 97)) + (iI 65))) hx hb dX6_wantCapitals_55 rfl ?_
            obtain ⟨k16, hp⟩ := ck_i hp
            refine r_cast hx hb hK hR hL k16.1 k16.2 dX6_wantCapitals_56 (fun H locs hR hL => ?_)
            obtain ⟨h18, hp, hR⟩ := nm_h hp hR
            exact s_X6_wantCapitals_57 C (fun hR hL hl hp => ih _ _ _ _ _ _ _ _ _ hR hL hl hp) hR hL (zl_sub hl [0, 2] rfl) hp
def p_X6_wantCapitals_0  (v0 : Nat) (h : AH) : Option (Unit × AH) :=
  nm ((iI 1)) fun (x1 : Int32) =>
  nm ((iI 0)) fun (x2 : Int32) =>
  p_X6_wantCapitals_4  FU v0 x1 x2 h
set_option maxHeartbeats 4000000 in
set_option maxRecDepth 100000 in
theorem s_X6_wantCapitals_0 {p : Program} {l : Launch} {e : Env} {s : State} {m : MethodId} {args : Array Value} {below : List Frame} {meth : Method} {c : Code} {G : GG} {hs : AH} {r : Unit} {h' : AH} (C : Cx G hs p s m args meth c cX6_wantCapitals 3 RX6 (.code yX6_wantCapitals cX6_wantCapitals 3 none :: MW) none "wantCapitals")   {v0 : Nat} {h : AH} {H : Heap} {locs : List Loc} {cells slots : Nat} {ls : Array Slot} (hR : Rp G h H) (hL : ∀ q ∈ locs, gB G ≤ q.base) (hl : zl ls 3 [(0, zr v0)]) (hp : p_X6_wantCapitals_0  v0 h = some (r, h')) : W p l e (gR G hs 1 40) s m args below meth c H locs cells slots (MQ below (Qcc G (none) h') args s (gC G - aZ hs) (gS - aU hs) (fun q => gB G ≤ q)) (F0 m 0 ls []) := by
  obtain ⟨hx, hb, hml, hown, hts, hT, hK, rs, hlk, hret, hnm⟩ := id C
  have hm : ∀ w ∈ MW, w.before args s = true := fun w hw => hts w (hT w hw)
  unfold p_X6_wantCapitals_0 at hp
  refine lv_iconst (v := iI 1) hx hb dX6_wantCapitals_0 rfl ?_
  refine lv_topi (fun x1 ex1 => ?_)
  replace hp := nm_i hp ex1
  refine z_istore_n (lv' := [(1, .int x1), (0, zr v0)]) hx hb dX6_wantCapitals_1 rfl hl (by decide) rfl (fun ls hl => ?_)
  refine lv_iconst (v := iI 0) hx hb dX6_wantCapitals_2 rfl ?_
  refine lv_topi (fun x2 ex2 => ?_)
  replace hp := nm_i hp ex2
  refine z_istore_n (lv' := [(2, .int x2), (1, .int x1), (0, zr v0)]) hx hb dX6_wantCapitals_3 rfl hl (by decide) rfl (fun ls hl => ?_)
  exact s_X6_wantCapitals_4 C  _ _ _ _ _ _ _ _ _ _ hR hL (zl_sub hl [2, 1, 0] rfl) hp
def p_X6_wantCapitals (v0 : Nat) (h : AH) : Option (Unit × AH) := ck (v0 ≠ 0) <| p_X6_wantCapitals_0 v0 h
theorem c_X6_wantCapitals (l : Launch) (G : GG) (v0 : Nat) (h : AH) (r : Unit) (h' : AH) (hp : p_X6_wantCapitals v0 h = some (r, h')) : Ct l yX6_wantCapitals (.code yX6_wantCapitals cX6_wantCapitals 3 none :: MW) G 1 40 [.ref (v0 - 1)] h (none) h' := by
  obtain ⟨hz0, hp⟩ := ck_i hp
  refine Ct.of (by decide +kernel) (Nat.le_of_ble_eq_true rfl) ?_
  intro p e s m args below meth c C hR ls hl
  have hl : zl ls 3 [(0, zr v0)] := ⟨by rw [zr_p hz0]; exact hl, by simp [zr_cat, in_cat]⟩
  exact s_X6_wantCapitals_0 C hR (fun _ hq => nomatch hq) hl hp
/-! CursorKeep$Plan.wantWrapped(I)V -/
def p_X6_wantWrapped_79 (k7 : Nat → Int32 → Int32 → Int32 → Int32 → AH → Option (Unit × AH)) (v0 : Nat) (v1 : Int32) (v2 : Int32) (v3 : Int32) (v4 : Int32) (h : AH) : Option (Unit × AH) :=
  nm (v4 + iI 1) fun (x1 : Int32) =>
  k7 v0 v1 v2 v3 x1 h
set_option maxHeartbeats 4000000 in
set_option maxRecDepth 100000 in
theorem s_X6_wantWrapped_79 {p : Program} {l : Launch} {e : Env} {s : State} {m : MethodId} {args : Array Value} {below : List Frame} {meth : Method} {c : Code} {G : GG} {hs : AH} {r : Unit} {h' : AH} (C : Cx G hs p s m args meth c cX6_wantWrapped 5 RX6 (.code yX6_wantWrapped cX6_wantWrapped 5 none :: MW) none "wantWrapped") {k7 : Nat → Int32 → Int32 → Int32 → Int32 → AH → Option (Unit × AH)} (hk7 : ∀ {v0 : Nat} {v1 : Int32} {v2 : Int32} {v3 : Int32} {v4 : Int32} {h : AH} {H : Heap} {locs : List Loc} {cells slots : Nat} {ls : Array Slot}, Rp G h H → (∀ q ∈ locs, gB G ≤ q.base) → zl ls 5 [(0, zr v0), (1, .int v1), (2, .int v2), (3, .int v3), (4, .int v4)] → k7 v0 v1 v2 v3 v4 h = some (r, h') → W p l e (gR G hs 1 40) s m args below meth c H locs cells slots (MQ below (Qcc G (none) h') args s (gC G - aZ hs) (gS - aU hs) (fun q => gB G ≤ q)) (F0 m 7 ls [])) {v0 : Nat} {v1 : Int32} {v2 : Int32} {v3 : Int32} {v4 : Int32} {h : AH} {H : Heap} {locs : List Loc} {cells slots : Nat} {ls : Array Slot} (hR : Rp G h H) (hL : ∀ q ∈ locs, gB G ≤ q.base) (hl : zl ls 5 [(0, zr v0), (1, .int v1), (2, .int v2), (3, .int v3), (4, .int v4)]) (hp : p_X6_wantWrapped_79 k7 v0 v1 v2 v3 v4 h = some (r, h')) : W p l e (gR G hs 1 40) s m args below meth c H locs cells slots (MQ below (Qcc G (none) h') args s (gC G - aZ hs) (gS - aU hs) (fun q => gB G ≤ q)) (F0 m 79 ls []) := by
  obtain ⟨hx, hb, hml, hown, hts, hT, hK, rs, hlk, hret, hnm⟩ := id C
  have hm : ∀ w ∈ MW, w.before args s = true := fun w hw => hts w (hT w hw)
  unfold p_X6_wantWrapped_79 at hp
  obtain ⟨x1, ex1⟩ : ∃ y : Int32, y = v4 + iI 1 := ⟨_, rfl⟩
  replace hp := nm_i hp ex1
  refine z_iinc (v := x1) (lv' := [(4, .int x1), (0, zr v0), (1, .int v1), (2, .int v2), (3, .int v3)]) hx hb dX6_wantWrapped_79 hl (k := 4) rfl ex1 (by decide) rfl (fun ls hl => ?_)
  refine lv_goto (tgt := 7) hx hb dX6_wantWrapped_82 (by decide) ?_
  exact hk7 hR hL (zl_sub hl [1, 2, 3, 4, 0] rfl) hp
def p_X6_wantWrapped_53 (k7 : Nat → Int32 → Int32 → Int32 → Int32 → AH → Option (Unit × AH)) (v0 : Nat) (v1 : Int32) (v2 : Int32) (v3 : Int32) (v4 : Int32) (h : AH) : Option (Unit × AH) :=
  if (v4 - v2) = v1 then
    if v3 < 0 then
      p_X6_wantWrapped_79 k7 v0 v1 v2 v3 v4 h
    else
      ck (aK h v0 = 8) <|
      ck (aK h (aR h v0 2) = 21 ∧ ix v3 (aN h (aR h v0 2))) <|
      nm (uI h (aR h v0 2) v3.toNatClampNeg (nC (iI 47))) fun h6 =>
      nm ((v3 + (iI 1))) fun (x7 : Int32) =>
      nm ((iI (-1))) fun (x8 : Int32) =>
      p_X6_wantWrapped_79 k7 v0 v1 x7 x8 v4 h6
  else
    p_X6_wantWrapped_79 k7 v0 v1 v2 v3 v4 h
set_option maxHeartbeats 4000000 in
set_option maxRecDepth 100000 in
theorem s_X6_wantWrapped_53 {p : Program} {l : Launch} {e : Env} {s : State} {m : MethodId} {args : Array Value} {below : List Frame} {meth : Method} {c : Code} {G : GG} {hs : AH} {r : Unit} {h' : AH} (C : Cx G hs p s m args meth c cX6_wantWrapped 5 RX6 (.code yX6_wantWrapped cX6_wantWrapped 5 none :: MW) none "wantWrapped") {k7 : Nat → Int32 → Int32 → Int32 → Int32 → AH → Option (Unit × AH)} (hk7 : ∀ {v0 : Nat} {v1 : Int32} {v2 : Int32} {v3 : Int32} {v4 : Int32} {h : AH} {H : Heap} {locs : List Loc} {cells slots : Nat} {ls : Array Slot}, Rp G h H → (∀ q ∈ locs, gB G ≤ q.base) → zl ls 5 [(0, zr v0), (1, .int v1), (2, .int v2), (3, .int v3), (4, .int v4)] → k7 v0 v1 v2 v3 v4 h = some (r, h') → W p l e (gR G hs 1 40) s m args below meth c H locs cells slots (MQ below (Qcc G (none) h') args s (gC G - aZ hs) (gS - aU hs) (fun q => gB G ≤ q)) (F0 m 7 ls [])) {v0 : Nat} {v1 : Int32} {v2 : Int32} {v3 : Int32} {v4 : Int32} {h : AH} {H : Heap} {locs : List Loc} {cells slots : Nat} {ls : Array Slot} (hR : Rp G h H) (hL : ∀ q ∈ locs, gB G ≤ q.base) (hl : zl ls 5 [(0, zr v0), (1, .int v1), (2, .int v2), (3, .int v3), (4, .int v4)]) (hp : p_X6_wantWrapped_53 k7 v0 v1 v2 v3 v4 h = some (r, h')) : W p l e (gR G hs 1 40) s m args below meth c H locs cells slots (MQ below (Qcc G (none) h') args s (gC G - aZ hs) (gS - aU hs) (fun q => gB G ≤ q)) (F0 m 53 ls []) := by
  obtain ⟨hx, hb, hml, hown, hts, hT, hK, rs, hlk, hret, hnm⟩ := id C
  have hm : ∀ w ∈ MW, w.before args s = true := fun w hw => hts w (hT w hw)
  unfold p_X6_wantWrapped_53 at hp
  refine lv_iload hx hb dX6_wantWrapped_53 (zl_at hl 4 rfl) ?_
  refine lv_iload_n hx hb dX6_wantWrapped_55 rfl (zl_at hl 2 rfl) ?_
  refine lv_isub hx hb dX6_wantWrapped_56 ?_
  refine lv_iload_n hx hb dX6_wantWrapped_57 rfl (zl_at hl 1 rfl) ?_
  refine lv_icmp_ne (tgt := 79) hx hb dX6_wantWrapped_58 (by decide) (fun c1 => ?_) (fun c1 => ?_)
  · replace hp := ite_n hp c1
    exact s_X6_wantWrapped_79 C hk7 hR hL (zl_sub hl [0, 1, 2, 3, 4] rfl) hp
  · replace hp := ite_p hp c1
    refine lv_iload_n hx hb dX6_wantWrapped_61 rfl (zl_at hl 3 rfl) ?_
    refine lv_if_lt (tgt := 79) hx hb dX6_wantWrapped_62 (by decide) (fun c2 => ?_) (fun c2 => ?_)
    · replace hp := ite_p hp c2
      exact s_X6_wantWrapped_79 C hk7 hR hL (zl_sub hl [0, 1, 2, 3, 4] rfl) hp
    · replace hp := ite_n hp c2
      refine z_aload_n hx hb dX6_wantWrapped_65 rfl (zl_at hl 0 rfl) ?_
      obtain ⟨k3, hp⟩ := ck_i hp
      refine r_get (ci := 7) (C := RX6) (T := TX6) (N := 4) (v := zr (aR h v0 2)) hx hb hm ii_X6 hown hK hR rfl k3 2 (by decide) (hm _ mw_73) (fun _ h9 => h9) rfl dX6_wantWrapped_66 ?_
      refine lv_iload_n hx hb dX6_wantWrapped_69 rfl (zl_at hl 3 rfl) ?_
      refine lv_bipush (v := iI 47) hx hb dX6_wantWrapped_70 (by decide +kernel) ?_
      obtain ⟨k4, hp⟩ := ck_i hp
      refine r_cast hx hb hK hR hL k4.1 k4.2 dX6_wantWrapped_72 (fun H locs hR hL => ?_)
      obtain ⟨h6, hp, hR⟩ := nm_h hp hR
      refine lv_iload_n hx hb dX6_wantWrapped_73 rfl (zl_at hl 3 rfl) ?_
      refine lv_iconst (v := iI 1) hx hb dX6_wantWrapped_74 rfl ?_
      refine lv_iadd hx hb dX6_wantWrapped_75 ?_
      refine lv_topi (fun x7 ex7 => ?_)
      replace hp := nm_i hp ex7
      refine z_istore_n (lv' := [(2, .int x7), (0, zr v0), (1, .int v1), (3, .int v3), (4, .int v4)]) hx hb dX6_wantWrapped_76 rfl hl (by decide) rfl (fun ls hl => ?_)
      refine lv_iconst (v := iI (-1)) hx hb dX6_wantWrapped_77 rfl ?_
      refine lv_topi (fun x8 ex8 => ?_)
      replace hp := nm_i hp ex8
      refine z_istore_n (lv' := [(3, .int x8), (2, .int x7), (0, zr v0), (1, .int v1), (4, .int v4)]) hx hb dX6_wantWrapped_78 rfl hl (by decide) rfl (fun ls hl => ?_)
      exact s_X6_wantWrapped_79 C hk7 hR hL (zl_sub hl [2, 3, 1, 0, 4] rfl) hp
def p_X6_wantWrapped_7  : Nat → Nat → Int32 → Int32 → Int32 → Int32 → AH → Option (Unit × AH)
  | 0, _, _, _, _, _, _ => none
  | n + 1, v0, v1, v2, v3, v4, h =>
    ck (aK h v0 = 8) <|
    if (aI h v0 3) ≤ v4 then
      some ((), h)
    else
      ck (aK h v0 = 8) <|
      ck (aK h (aR h v0 1) = 21 ∧ ix v4 (aN h (aR h v0 1))) <|
      if (aI h (aR h v0 1) v4.toNatClampNeg) = (iI 47) then
        nm ((v4 + (iI 1))) fun (x11 : Int32) =>
        nm ((iI (-1))) fun (x12 : Int32) =>
        p_X6_wantWrapped_79 (p_X6_wantWrapped_7  n) v0 v1 x11 x12 v4 h
      else
        ck (aK h v0 = 8) <|
        ck (aK h (aR h v0 1) = 21 ∧ ix v4 (aN h (aR h v0 1))) <|
        if (aI h (aR h v0 1) v4.toNatClampNeg) = (iI 32) then
          p_X6_wantWrapped_53 (p_X6_wantWrapped_7  n) v0 v1 v2 v4 v4 h
        else
          p_X6_wantWrapped_53 (p_X6_wantWrapped_7  n) v0 v1 v2 v3 v4 h
set_option maxHeartbeats 4000000 in
set_option maxRecDepth 100000 in
theorem s_X6_wantWrapped_7 {p : Program} {l : Launch} {e : Env} {s : State} {m : MethodId} {args : Array Value} {below : List Frame} {meth : Method} {c : Code} {G : GG} {hs : AH} {r : Unit} {h' : AH} (C : Cx G hs p s m args meth c cX6_wantWrapped 5 RX6 (.code yX6_wantWrapped cX6_wantWrapped 5 none :: MW) none "wantWrapped")   : ∀ (n : Nat) (v0 : Nat) (v1 : Int32) (v2 : Int32) (v3 : Int32) (v4 : Int32) (h : AH) (H : Heap) (locs : List Loc) (cells slots : Nat) (ls : Array Slot) (hR : Rp G h H) (hL : ∀ q ∈ locs, gB G ≤ q.base) (hl : zl ls 5 [(0, zr v0), (1, .int v1), (2, .int v2), (3, .int v3), (4, .int v4)]) (hp : p_X6_wantWrapped_7  n v0 v1 v2 v3 v4 h = some (r, h')), W p l e (gR G hs 1 40) s m args below meth c H locs cells slots (MQ below (Qcc G (none) h') args s (gC G - aZ hs) (gS - aU hs) (fun q => gB G ≤ q)) (F0 m 7 ls []) := by
  obtain ⟨hx, hb, hml, hown, hts, hT, hK, rs, hlk, hret, hnm⟩ := id C
  have hm : ∀ w ∈ MW, w.before args s = true := fun w hw => hts w (hT w hw)
  intro n
  induction n with
  | zero =>
    intro v0 v1 v2 v3 v4 h H locs cells slots ls hR hL hl hp
    exact absurd (show none = some (r, h') from hp) (by simp)
  | succ n ih =>
    intro v0 v1 v2 v3 v4 h H locs cells slots ls hR hL hl hp
    rw [p_X6_wantWrapped_7.eq_2] at hp
    refine lv_iload hx hb dX6_wantWrapped_7 (zl_at hl 4 rfl) ?_
    refine z_aload_n hx hb dX6_wantWrapped_9 rfl (zl_at hl 0 rfl) ?_
    obtain ⟨k1, hp⟩ := ck_i hp
    refine r_get (ci := 7) (C := RX6) (T := TX6) (N := 4) (v := .int (aI h v0 3)) hx hb hm ii_X6 hown hK hR rfl k1 3 (by decide) (hm _ mw_74) (fun _ h9 => h9) rfl dX6_wantWrapped_10 ?_
    refine lv_icmp_ge (tgt := 85) hx hb dX6_wantWrapped_13 (by decide) (fun c2 => ?_) (fun c2 => ?_)
    · replace hp := ite_p hp c2
      cases hp
      exact r_vret C hR hL dX6_wantWrapped_85
    · replace hp := ite_n hp c2
      refine z_aload_n hx hb dX6_wantWrapped_16 rfl (zl_at hl 0 rfl) ?_
      obtain ⟨k3, hp⟩ := ck_i hp
      refine r_get (ci := 7) (C := RX6) (T := TX6) (N := 4) (v := zr (aR h v0 1)) hx hb hm ii_X6 hown hK hR rfl k3 1 (by decide) (hm _ mw_72) (fun _ h9 => h9) rfl dX6_wantWrapped_17 ?_
      refine lv_iload hx hb dX6_wantWrapped_20 (zl_at hl 4 rfl) ?_
      obtain ⟨k4, hp⟩ := ck_i hp
      refine r_cald hx hb hK hR k4.1 k4.2 dX6_wantWrapped_22 ?_
      refine lv_bipush (v := iI 47) hx hb dX6_wantWrapped_23 (by decide +kernel) ?_
      refine lv_icmp_ne (tgt := 38) hx hb dX6_wantWrapped_25 (by decide) (fun c6 => ?_) (fun c6 => ?_)
      · replace hp := ite_n hp c6
        refine z_aload_n hx hb dX6_wantWrapped_38 rfl (zl_at hl 0 rfl) ?_
        obtain ⟨k7, hp⟩ := ck_i hp
        refine r_get (ci := 7) (C := RX6) (T := TX6) (N := 4) (v := zr (aR h v0 1)) hx hb hm ii_X6 hown hK hR rfl k7 1 (by decide) (hm _ mw_72) (fun _ h9 => h9) rfl dX6_wantWrapped_39 ?_
        refine lv_iload hx hb dX6_wantWrapped_42 (zl_at hl 4 rfl) ?_
        obtain ⟨k8, hp⟩ := ck_i hp
        refine r_cald hx hb hK hR k8.1 k8.2 dX6_wantWrapped_44 ?_
        refine lv_bipush (v := iI 32) hx hb dX6_wantWrapped_45 (by decide +kernel) ?_
        refine lv_icmp_ne (tgt := 53) hx hb dX6_wantWrapped_47 (by decide) (fun c10 => ?_) (fun c10 => ?_)
        · replace hp := ite_n hp c10
          exact s_X6_wantWrapped_53 C (fun hR hL hl hp => ih _ _ _ _ _ _ _ _ _ _ _ hR hL hl hp) hR hL (zl_sub hl [0, 1, 2, 3, 4] rfl) hp
        · replace hp := ite_p hp c10
          refine lv_iload hx hb dX6_wantWrapped_50 (zl_at hl 4 rfl) ?_
          refine z_istore_n (lv' := [(3, .int v4), (0, zr v0), (1, .int v1), (2, .int v2), (4, .int v4)]) hx hb dX6_wantWrapped_52 rfl hl (by decide) rfl (fun ls hl => ?_)
          exact s_X6_wantWrapped_53 C (fun hR hL hl hp => ih _ _ _ _ _ _ _ _ _ _ _ hR hL hl hp) hR hL (zl_sub hl [1, 2, 3, 0, 4] rfl) hp
      · replace hp := ite_p hp c6
        refine lv_iload hx hb dX6_wantWrapped_28 (zl_at hl 4 rfl) ?_
        refine lv_iconst (v := iI 1) hx hb dX6_wantWrapped_30 rfl ?_
        refine lv_iadd hx hb dX6_wantWrapped_31 ?_
        refine lv_topi (fun x11 ex11 => ?_)
        replace hp := nm_i hp ex11
        refine z_istore_n (lv' := [(2, .int x11), (0, zr v0), (1, .int v1), (3, .int v3), (4, .int v4)]) hx hb dX6_wantWrapped_32 rfl hl (by decide) rfl (fun ls hl => ?_)
        refine lv_iconst (v := iI (-1)) hx hb dX6_wantWrapped_33 rfl ?_
        refine lv_topi (fun x12 ex12 => ?_)
        replace hp := nm_i hp ex12
        refine z_istore_n (lv' := [(3, .int x12), (2, .int x11), (0, zr v0), (1, .int v1), (4, .int v4)]) hx hb dX6_wantWrapped_34 rfl hl (by decide) rfl (fun ls hl => ?_)
        refine lv_goto (tgt := 79) hx hb dX6_wantWrapped_35 (by decide) ?_
        exact s_X6_wantWrapped_79 C (fun hR hL hl hp => ih _ _ _ _ _ _ _ _ _ _ _ hR hL hl hp) hR hL (zl_sub hl [2, 3, 1, 0, 4] rfl) hp
def p_X6_wantWrapped_0  (v0 : Nat) (v1 : Int32) (h : AH) : Option (Unit × AH) :=
  nm ((iI 0)) fun (x1 : Int32) =>
  nm ((iI (-1))) fun (x2 : Int32) =>
  nm ((iI 0)) fun (x3 : Int32) =>
  p_X6_wantWrapped_7  FU v0 v1 x1 x2 x3 h
set_option maxHeartbeats 4000000 in
set_option maxRecDepth 100000 in
theorem s_X6_wantWrapped_0 {p : Program} {l : Launch} {e : Env} {s : State} {m : MethodId} {args : Array Value} {below : List Frame} {meth : Method} {c : Code} {G : GG} {hs : AH} {r : Unit} {h' : AH} (C : Cx G hs p s m args meth c cX6_wantWrapped 5 RX6 (.code yX6_wantWrapped cX6_wantWrapped 5 none :: MW) none "wantWrapped")   {v0 : Nat} {v1 : Int32} {h : AH} {H : Heap} {locs : List Loc} {cells slots : Nat} {ls : Array Slot} (hR : Rp G h H) (hL : ∀ q ∈ locs, gB G ≤ q.base) (hl : zl ls 5 [(0, zr v0), (1, .int v1)]) (hp : p_X6_wantWrapped_0  v0 v1 h = some (r, h')) : W p l e (gR G hs 1 40) s m args below meth c H locs cells slots (MQ below (Qcc G (none) h') args s (gC G - aZ hs) (gS - aU hs) (fun q => gB G ≤ q)) (F0 m 0 ls []) := by
  obtain ⟨hx, hb, hml, hown, hts, hT, hK, rs, hlk, hret, hnm⟩ := id C
  have hm : ∀ w ∈ MW, w.before args s = true := fun w hw => hts w (hT w hw)
  unfold p_X6_wantWrapped_0 at hp
  refine lv_iconst (v := iI 0) hx hb dX6_wantWrapped_0 rfl ?_
  refine lv_topi (fun x1 ex1 => ?_)
  replace hp := nm_i hp ex1
  refine z_istore_n (lv' := [(2, .int x1), (0, zr v0), (1, .int v1)]) hx hb dX6_wantWrapped_1 rfl hl (by decide) rfl (fun ls hl => ?_)
  refine lv_iconst (v := iI (-1)) hx hb dX6_wantWrapped_2 rfl ?_
  refine lv_topi (fun x2 ex2 => ?_)
  replace hp := nm_i hp ex2
  refine z_istore_n (lv' := [(3, .int x2), (2, .int x1), (0, zr v0), (1, .int v1)]) hx hb dX6_wantWrapped_3 rfl hl (by decide) rfl (fun ls hl => ?_)
  refine lv_iconst (v := iI 0) hx hb dX6_wantWrapped_4 rfl ?_
  refine lv_topi (fun x3 ex3 => ?_)
  replace hp := nm_i hp ex3
  refine z_istore (lv' := [(4, .int x3), (3, .int x2), (2, .int x1), (0, zr v0), (1, .int v1)]) hx hb dX6_wantWrapped_5 hl (by decide) rfl (fun ls hl => ?_)
  exact s_X6_wantWrapped_7 C  _ _ _ _ _ _ _ _ _ _ _ _ hR hL (zl_sub hl [3, 4, 2, 1, 0] rfl) hp
def p_X6_wantWrapped (v0 : Nat) (v1 : Int32) (h : AH) : Option (Unit × AH) := ck (v0 ≠ 0) <| p_X6_wantWrapped_0 v0 v1 h
theorem c_X6_wantWrapped (l : Launch) (G : GG) (v0 : Nat) (v1 : Int32) (h : AH) (r : Unit) (h' : AH) (hp : p_X6_wantWrapped v0 v1 h = some (r, h')) : Ct l yX6_wantWrapped (.code yX6_wantWrapped cX6_wantWrapped 5 none :: MW) G 1 40 [.ref (v0 - 1), .int v1] h (none) h' := by
  obtain ⟨hz0, hp⟩ := ck_i hp
  refine Ct.of (by decide +kernel) (Nat.le_of_ble_eq_true rfl) ?_
  intro p e s m args below meth c C hR ls hl
  have hl : zl ls 5 [(0, zr v0), (1, .int v1)] := ⟨by rw [zr_p hz0]; exact hl, by simp [zr_cat, in_cat]⟩
  exact s_X6_wantWrapped_0 C hR (fun _ hq => nomatch hq) hl hp
/-! CursorKeep$Plan.draw(LCursorKeep$Row;II)V -/
def p_X6_draw_58   (h : AH) : Option (Unit × AH) :=
  some ((), h)
set_option maxHeartbeats 4000000 in
set_option maxRecDepth 100000 in
theorem s_X6_draw_58 {p : Program} {l : Launch} {e : Env} {s : State} {m : MethodId} {args : Array Value} {below : List Frame} {meth : Method} {c : Code} {G : GG} {hs : AH} {r : Unit} {h' : AH} (C : Cx G hs p s m args meth c cX6_draw 4 RX6 (.code yX6_draw cX6_draw 4 none :: MW) none "draw")    {h : AH} {H : Heap} {locs : List Loc} {cells slots : Nat} {ls : Array Slot} (hR : Rp G h H) (hL : ∀ q ∈ locs, gB G ≤ q.base) (hl : zl ls 4 []) (hp : p_X6_draw_58   h = some (r, h')) : W p l e (gR G hs 4 105) s m args below meth c H locs cells slots (MQ below (Qcc G (none) h') args s (gC G - aZ hs) (gS - aU hs) (fun q => gB G ≤ q)) (F0 m 58 ls []) := by
  obtain ⟨hx, hb, hml, hown, hts, hT, hK, rs, hlk, hret, hnm⟩ := id C
  have hm : ∀ w ∈ MW, w.before args s = true := fun w hw => hts w (hT w hw)
  unfold p_X6_draw_58 at hp
  cases hp
  exact r_vret C hR hL dX6_draw_58
def p_X6_draw_0  (v0 : Nat) (v1 : Nat) (v2 : Int32) (v3 : Int32) (h : AH) : Option (Unit × AH) :=
  ck (aK h v0 = 8) <|
  bR (p_X6_look v0 v1 h) fun r2 h3 =>
  if v2 = iI 0 then
    ck (aK h3 v0 = 8) <|
    bR (p_X6_wantSingleSpaces v0 h3) fun r6 h7 =>
    p_X6_draw_58   h7
  else
    if v2 = iI 1 then
      ck (aK h3 v0 = 8) <|
      bR (p_X6_wantBareEnds v0 h3) fun r10 h11 =>
      p_X6_draw_58   h11
    else
      if v2 = iI 2 then
        ck (aK h3 v0 = 8) <|
        bR (p_X6_wantCapitals v0 h3) fun r14 h15 =>
        p_X6_draw_58   h15
      else
        ck (aK h3 v0 = 8) <|
        bR (p_X6_wantWrapped v0 v3 h3) fun r17 h18 =>
        p_X6_draw_58   h18
set_option maxHeartbeats 4000000 in
set_option maxRecDepth 100000 in
theorem s_X6_draw_0 {p : Program} {l : Launch} {e : Env} {s : State} {m : MethodId} {args : Array Value} {below : List Frame} {meth : Method} {c : Code} {G : GG} {hs : AH} {r : Unit} {h' : AH} (C : Cx G hs p s m args meth c cX6_draw 4 RX6 (.code yX6_draw cX6_draw 4 none :: MW) none "draw")   {v0 : Nat} {v1 : Nat} {v2 : Int32} {v3 : Int32} {h : AH} {H : Heap} {locs : List Loc} {cells slots : Nat} {ls : Array Slot} (hR : Rp G h H) (hL : ∀ q ∈ locs, gB G ≤ q.base) (hl : zl ls 4 [(0, zr v0), (1, zr v1), (2, .int v2), (3, .int v3)]) (hp : p_X6_draw_0  v0 v1 v2 v3 h = some (r, h')) : W p l e (gR G hs 4 105) s m args below meth c H locs cells slots (MQ below (Qcc G (none) h') args s (gC G - aZ hs) (gS - aU hs) (fun q => gB G ≤ q)) (F0 m 0 ls []) := by
  obtain ⟨hx, hb, hml, hown, hts, hT, hK, rs, hlk, hret, hnm⟩ := id C
  have hm : ∀ w ∈ MW, w.before args s = true := fun w hw => hts w (hT w hw)
  unfold p_X6_draw_0 at hp
  refine z_aload_n hx hb dX6_draw_0 rfl (zl_at hl 0 rfl) ?_
  refine z_aload_n hx hb dX6_draw_1 rfl (zl_at hl 1 rfl) ?_
  obtain ⟨k1, hp⟩ := ck_i hp
  obtain ⟨r2, h3, er2, hp⟩ := bR_i hp
  refine r_callV (ci := 7) (r := (RX6, TX6, 4)) (n := 1) (As := [zr v1]) (rest := []) C (c_X6_look l G v0 v1 h r2 h3 er2) hR hL rfl k1 mw_706 mw_708 mp_10 mw_5 mw_709 (by decide +kernel) (by decide) rfl (zl_size hl) rfl (by simp [zr_cat, in_cat]) dX6_draw_2 (st2 := []) rfl (fun H locs cells slots hR hL => ?_)
  refine lv_iload_n hx hb dX6_draw_5 rfl (zl_at hl 2 rfl) ?_
  obtain ⟨x_, ex_⟩ : ∃ y : Int32, y = v2 := ⟨_, rfl⟩
  by_cases c4 : v2 = iI 0
  · replace hp := ite_p hp c4
    refine lv_tableIn (off := 26) (tgt := 32) hx hb dX6_draw_6 (by rw [c4]; decide +kernel) (by rw [c4]; decide +kernel) (by rw [c4]; decide +kernel) (by decide) ?_
    refine z_aload_n hx hb dX6_draw_32 rfl (zl_at hl 0 rfl) ?_
    obtain ⟨k5, hp⟩ := ck_i hp
    obtain ⟨r6, h7, er6, hp⟩ := bR_i hp
    refine r_callV (ci := 7) (r := (RX6, TX6, 4)) (n := 0) (As := []) (rest := []) C (c_X6_wantSingleSpaces l G v0 h3 r6 h7 er6) hR hL rfl k5 mw_714 mw_716 mp_11 mw_5 mw_717 (by decide +kernel) (by decide) rfl (zl_size hl) rfl (by simp [zr_cat, in_cat]) dX6_draw_33 (st2 := []) rfl (fun H locs cells slots hR hL => ?_)
    refine lv_goto (tgt := 58) hx hb dX6_draw_36 (by decide) ?_
    exact s_X6_draw_58 C  hR hL (zl_sub hl [] rfl) hp
  replace hp := ite_n hp c4
  by_cases c8 : v2 = iI 1
  · replace hp := ite_p hp c8
    refine lv_tableIn (off := 33) (tgt := 39) hx hb dX6_draw_6 (by rw [c8]; decide +kernel) (by rw [c8]; decide +kernel) (by rw [c8]; decide +kernel) (by decide) ?_
    refine z_aload_n hx hb dX6_draw_39 rfl (zl_at hl 0 rfl) ?_
    obtain ⟨k9, hp⟩ := ck_i hp
    obtain ⟨r10, h11, er10, hp⟩ := bR_i hp
    refine r_callV (ci := 7) (r := (RX6, TX6, 4)) (n := 0) (As := []) (rest := []) C (c_X6_wantBareEnds l G v0 h3 r10 h11 er10) hR hL rfl k9 mw_718 mw_720 mp_12 mw_5 mw_721 (by decide +kernel) (by decide) rfl (zl_size hl) rfl (by simp [zr_cat, in_cat]) dX6_draw_40 (st2 := []) rfl (fun H locs cells slots hR hL => ?_)
    refine lv_goto (tgt := 58) hx hb dX6_draw_43 (by decide) ?_
    exact s_X6_draw_58 C  hR hL (zl_sub hl [] rfl) hp
  replace hp := ite_n hp c8
  by_cases c12 : v2 = iI 2
  · replace hp := ite_p hp c12
    refine lv_tableIn (off := 40) (tgt := 46) hx hb dX6_draw_6 (by rw [c12]; decide +kernel) (by rw [c12]; decide +kernel) (by rw [c12]; decide +kernel) (by decide) ?_
    refine z_aload_n hx hb dX6_draw_46 rfl (zl_at hl 0 rfl) ?_
    obtain ⟨k13, hp⟩ := ck_i hp
    obtain ⟨r14, h15, er14, hp⟩ := bR_i hp
    refine r_callV (ci := 7) (r := (RX6, TX6, 4)) (n := 0) (As := []) (rest := []) C (c_X6_wantCapitals l G v0 h3 r14 h15 er14) hR hL rfl k13 mw_722 mw_724 mp_13 mw_5 mw_725 (by decide +kernel) (by decide) rfl (zl_size hl) rfl (by simp [zr_cat, in_cat]) dX6_draw_47 (st2 := []) rfl (fun H locs cells slots hR hL => ?_)
    refine lv_goto (tgt := 58) hx hb dX6_draw_50 (by decide) ?_
    exact s_X6_draw_58 C  hR hL (zl_sub hl [] rfl) hp
  replace hp := ite_n hp c12
  refine lv_tableOut (tgt := 53) hx hb dX6_draw_6 (by have := lv_neT (a := 0) c4 (by decide +kernel); have := lv_neT (a := 1) c8 (by decide +kernel); have := lv_neT (a := 2) c12 (by decide +kernel); omega) (by decide) ?_
  refine z_aload_n hx hb dX6_draw_53 rfl (zl_at hl 0 rfl) ?_
  refine lv_iload_n hx hb dX6_draw_54 rfl (zl_at hl 3 rfl) ?_
  obtain ⟨k16, hp⟩ := ck_i hp
  obtain ⟨r17, h18, er17, hp⟩ := bR_i hp
  refine r_callV (ci := 7) (r := (RX6, TX6, 4)) (n := 1) (As := [.int v3]) (rest := []) C (c_X6_wantWrapped l G v0 v3 h3 r17 h18 er17) hR hL rfl k16 mw_726 mw_728 mp_14 mw_5 mw_729 (by decide +kernel) (by decide) rfl (zl_size hl) rfl (by simp [zr_cat, in_cat]) dX6_draw_55 (st2 := []) rfl (fun H locs cells slots hR hL => ?_)
  exact s_X6_draw_58 C  hR hL (zl_sub hl [] rfl) hp
def p_X6_draw (v0 : Nat) (v1 : Nat) (v2 : Int32) (v3 : Int32) (h : AH) : Option (Unit × AH) := ck (v0 ≠ 0) <| ck (v1 ≠ 0) <| p_X6_draw_0 v0 v1 v2 v3 h
theorem c_X6_draw (l : Launch) (G : GG) (v0 : Nat) (v1 : Nat) (v2 : Int32) (v3 : Int32) (h : AH) (r : Unit) (h' : AH) (hp : p_X6_draw v0 v1 v2 v3 h = some (r, h')) : Ct l yX6_draw (.code yX6_draw cX6_draw 4 none :: MW) G 4 105 [.ref (v0 - 1), zr v1, .int v2, .int v3] h (none) h' := by
  obtain ⟨hz0, hp⟩ := ck_i hp
  obtain ⟨hz1, hp⟩ := ck_i hp
  rw [show zr v1 = .ref (v1 - 1) from zr_p hz1]
  refine Ct.of (by decide +kernel) (Nat.le_of_ble_eq_true rfl) ?_
  intro p e s m args below meth c C hR ls hl
  have hl : zl ls 4 [(0, zr v0), (1, zr v1), (2, .int v2), (3, .int v3)] := ⟨by rw [zr_p hz0, zr_p hz1]; exact hl, by simp [zr_cat, in_cat]⟩
  exact s_X6_draw_0 C hR (fun _ hq => nomatch hq) hl hp
/-! CursorKeep$Plan.changes(LCursorKeep$Row;LCursorKeep$Neighbours;)Ljava/util/List; -/
def p_X6_changes_34 (k6 : Nat → Nat → Nat → Int32 → AH → Option (Nat × AH)) (v0 : Nat) (v1 : Nat) (v2 : Nat) (v3 : Int32) (h : AH) : Option (Nat × AH) :=
  nm (v3 + iI 1) fun (x1 : Int32) =>
  k6 v0 v1 v2 x1 h
set_option maxHeartbeats 4000000 in
set_option maxRecDepth 100000 in
theorem s_X6_changes_34 {p : Program} {l : Launch} {e : Env} {s : State} {m : MethodId} {args : Array Value} {below : List Frame} {meth : Method} {c : Code} {G : GG} {hs : AH} {r : Nat} {h' : AH} (C : Cx G hs p s m args meth c cX6_changes 6 RX6 (.code yX6_changes cX6_changes 6 (some (.object "java/util/List")) :: MW) (some (.object "java/util/List")) "changes") {k6 : Nat → Nat → Nat → Int32 → AH → Option (Nat × AH)} (hk6 : ∀ {v0 : Nat} {v1 : Nat} {v2 : Nat} {v3 : Int32} {h : AH} {H : Heap} {locs : List Loc} {cells slots : Nat} {ls : Array Slot}, Rp G h H → (∀ q ∈ locs, gB G ≤ q.base) → zl ls 6 [(0, zr v0), (1, zr v1), (2, zr v2), (3, .int v3)] → k6 v0 v1 v2 v3 h = some (r, h') → W p l e (gR G hs 7 172) s m args below meth c H locs cells slots (MQ below (Qcc G (some (zr r)) h') args s (gC G - aZ hs) (gS - aU hs) (fun q => gB G ≤ q)) (F0 m 6 ls [])) {v0 : Nat} {v1 : Nat} {v2 : Nat} {v3 : Int32} {h : AH} {H : Heap} {locs : List Loc} {cells slots : Nat} {ls : Array Slot} (hR : Rp G h H) (hL : ∀ q ∈ locs, gB G ≤ q.base) (hl : zl ls 6 [(0, zr v0), (1, zr v1), (2, zr v2), (3, .int v3)]) (hp : p_X6_changes_34 k6 v0 v1 v2 v3 h = some (r, h')) : W p l e (gR G hs 7 172) s m args below meth c H locs cells slots (MQ below (Qcc G (some (zr r)) h') args s (gC G - aZ hs) (gS - aU hs) (fun q => gB G ≤ q)) (F0 m 34 ls []) := by
  obtain ⟨hx, hb, hml, hown, hts, hT, hK, rs, hlk, hret, hnm⟩ := id C
  have hm : ∀ w ∈ MW, w.before args s = true := fun w hw => hts w (hT w hw)
  unfold p_X6_changes_34 at hp
  obtain ⟨x1, ex1⟩ : ∃ y : Int32, y = v3 + iI 1 := ⟨_, rfl⟩
  replace hp := nm_i hp ex1
  refine z_iinc (v := x1) (lv' := [(3, .int x1), (0, zr v0), (1, zr v1), (2, zr v2)]) hx hb dX6_changes_34 hl (k := 3) rfl ex1 (by decide) rfl (fun ls hl => ?_)
  refine lv_goto (tgt := 6) hx hb dX6_changes_37 (by decide) ?_
  exact hk6 hR hL (zl_sub hl [1, 2, 3, 0] rfl) hp
def p_X6_changes_126 (k56 : Nat → Nat → Nat → Int32 → AH → Option (Nat × AH)) (v0 : Nat) (v2 : Nat) (v3 : Nat) (v4 : Int32) (h : AH) : Option (Nat × AH) :=
  nm (v4 + iI 1) fun (x1 : Int32) =>
  k56 v0 v2 v3 x1 h
set_option maxHeartbeats 4000000 in
set_option maxRecDepth 100000 in
theorem s_X6_changes_126 {p : Program} {l : Launch} {e : Env} {s : State} {m : MethodId} {args : Array Value} {below : List Frame} {meth : Method} {c : Code} {G : GG} {hs : AH} {r : Nat} {h' : AH} (C : Cx G hs p s m args meth c cX6_changes 6 RX6 (.code yX6_changes cX6_changes 6 (some (.object "java/util/List")) :: MW) (some (.object "java/util/List")) "changes") {k56 : Nat → Nat → Nat → Int32 → AH → Option (Nat × AH)} (hk56 : ∀ {v0 : Nat} {v2 : Nat} {v3 : Nat} {v4 : Int32} {h : AH} {H : Heap} {locs : List Loc} {cells slots : Nat} {ls : Array Slot}, Rp G h H → (∀ q ∈ locs, gB G ≤ q.base) → zl ls 6 [(0, zr v0), (2, zr v2), (3, zr v3), (4, .int v4)] → k56 v0 v2 v3 v4 h = some (r, h') → W p l e (gR G hs 7 172) s m args below meth c H locs cells slots (MQ below (Qcc G (some (zr r)) h') args s (gC G - aZ hs) (gS - aU hs) (fun q => gB G ≤ q)) (F0 m 56 ls [])) {v0 : Nat} {v2 : Nat} {v3 : Nat} {v4 : Int32} {h : AH} {H : Heap} {locs : List Loc} {cells slots : Nat} {ls : Array Slot} (hR : Rp G h H) (hL : ∀ q ∈ locs, gB G ≤ q.base) (hl : zl ls 6 [(0, zr v0), (2, zr v2), (3, zr v3), (4, .int v4)]) (hp : p_X6_changes_126 k56 v0 v2 v3 v4 h = some (r, h')) : W p l e (gR G hs 7 172) s m args below meth c H locs cells slots (MQ below (Qcc G (some (zr r)) h') args s (gC G - aZ hs) (gS - aU hs) (fun q => gB G ≤ q)) (F0 m 126 ls []) := by
  obtain ⟨hx, hb, hml, hown, hts, hT, hK, rs, hlk, hret, hnm⟩ := id C
  have hm : ∀ w ∈ MW, w.before args s = true := fun w hw => hts w (hT w hw)
  unfold p_X6_changes_126 at hp
  obtain ⟨x1, ex1⟩ : ∃ y : Int32, y = v4 + iI 1 := ⟨_, rfl⟩
  replace hp := nm_i hp ex1
  refine z_iinc (v := x1) (lv' := [(4, .int x1), (0, zr v0), (2, zr v2), (3, zr v3)]) hx hb dX6_changes_126 hl (k := 3) rfl ex1 (by decide) rfl (fun ls hl => ?_)
  refine lv_goto (tgt := 56) hx hb dX6_changes_129 (by decide) ?_
  exact hk56 hR hL (zl_sub hl [1, 2, 3, 0] rfl) hp
def p_X6_changes_56  : Nat → Nat → Nat → Nat → Int32 → AH → Option (Nat × AH)
  | 0, _, _, _, _, _ => none
  | n + 1, v0, v2, v3, v4, h =>
    ck (aK h v0 = 8) <|
    if (aI h v0 3) ≤ v4 then
      some (v3, h)
    else
      ck (aK h v0 = 8) <|
      ck (aK h (aR h v0 2) = 21 ∧ ix v4 (aN h (aR h v0 2))) <|
      if (aI h (aR h v0 2) v4.toNatClampNeg) = 0 then
        p_X6_changes_126 (p_X6_changes_56  n) v0 v2 v3 v4 h
      else
        ck (aK h v0 = 8) <|
        ck (aK h (aR h v0 0) = 20 ∧ ix v4 (aN h (aR h v0 0))) <|
        nm ((aI h (aR h v0 0) v4.toNatClampNeg)) fun (x10 : Int32) =>
        ck (aZ h + 1 ≤ aC h ∧ aU h + 6 ≤ gS) <|
        nm (uN h 3 6) fun h12 =>
        ck (aK h12 v0 = 8) <|
        ck (aK h12 (aR h12 v0 1) = 21 ∧ ix v4 (aN h12 (aR h12 v0 1))) <|
        ck (aK h12 v0 = 8) <|
        ck (aK h12 (aR h12 v0 2) = 21 ∧ ix v4 (aN h12 (aR h12 v0 2))) <|
        ck (aK h12 v2 = 7) <|
        bR (p_X5_aheadOf v2 x10 h12) fun r20 h21 =>
        ck (aK h21 v2 = 7) <|
        bR (p_X5_behindOf v2 x10 h21) fun r23 h24 =>
        ck (aK h24 (aZ h) ≠ 0) <|
        bR (p_X1_init (aZ h) x10 (aI h12 (aR h12 v0 1) v4.toNatClampNeg) (aI h12 (aR h12 v0 2) v4.toNatClampNeg) r20 r23 h24) fun r26 h27 =>
        ck (aK h27 v3 = 1) <|
        bR (p_Jx4a65c_add_9ea2d v3 (aZ h) h27) fun r29 h30 =>
        p_X6_changes_126 (p_X6_changes_56  n) v0 v2 v3 v4 h30
set_option maxHeartbeats 4000000 in
set_option maxRecDepth 100000 in
theorem s_X6_changes_56 {p : Program} {l : Launch} {e : Env} {s : State} {m : MethodId} {args : Array Value} {below : List Frame} {meth : Method} {c : Code} {G : GG} {hs : AH} {r : Nat} {h' : AH} (C : Cx G hs p s m args meth c cX6_changes 6 RX6 (.code yX6_changes cX6_changes 6 (some (.object "java/util/List")) :: MW) (some (.object "java/util/List")) "changes")   : ∀ (n : Nat) (v0 : Nat) (v2 : Nat) (v3 : Nat) (v4 : Int32) (h : AH) (H : Heap) (locs : List Loc) (cells slots : Nat) (ls : Array Slot) (hR : Rp G h H) (hL : ∀ q ∈ locs, gB G ≤ q.base) (hl : zl ls 6 [(0, zr v0), (2, zr v2), (3, zr v3), (4, .int v4)]) (hp : p_X6_changes_56  n v0 v2 v3 v4 h = some (r, h')), W p l e (gR G hs 7 172) s m args below meth c H locs cells slots (MQ below (Qcc G (some (zr r)) h') args s (gC G - aZ hs) (gS - aU hs) (fun q => gB G ≤ q)) (F0 m 56 ls []) := by
  obtain ⟨hx, hb, hml, hown, hts, hT, hK, rs, hlk, hret, hnm⟩ := id C
  have hm : ∀ w ∈ MW, w.before args s = true := fun w hw => hts w (hT w hw)
  intro n
  induction n with
  | zero =>
    intro v0 v2 v3 v4 h H locs cells slots ls hR hL hl hp
    exact absurd (show none = some (r, h') from hp) (by simp)
  | succ n ih =>
    intro v0 v2 v3 v4 h H locs cells slots ls hR hL hl hp
    rw [p_X6_changes_56.eq_2] at hp
    refine lv_iload hx hb dX6_changes_56 (zl_at hl 3 rfl) ?_
    refine z_aload_n hx hb dX6_changes_58 rfl (zl_at hl 0 rfl) ?_
    obtain ⟨k1, hp⟩ := ck_i hp
    refine r_get (ci := 7) (C := RX6) (T := TX6) (N := 4) (v := .int (aI h v0 3)) hx hb hm ii_X6 hown hK hR rfl k1 3 (by decide) (hm _ mw_74) (fun _ h9 => h9) rfl dX6_changes_59 ?_
    refine lv_icmp_ge (tgt := 132) hx hb dX6_changes_62 (by decide) (fun c2 => ?_) (fun c2 => ?_)
    · replace hp := ite_p hp c2
      refine z_aload_n hx hb dX6_changes_132 rfl (zl_at hl 2 rfl) ?_
      cases hp
      exact r_aret (by first | exact Or.inl ⟨_, rfl⟩ | exact Or.inr ⟨_, rfl⟩) C hR hL dX6_changes_133
    · replace hp := ite_n hp c2
      refine z_aload_n hx hb dX6_changes_65 rfl (zl_at hl 0 rfl) ?_
      obtain ⟨k3, hp⟩ := ck_i hp
      refine r_get (ci := 7) (C := RX6) (T := TX6) (N := 4) (v := zr (aR h v0 2)) hx hb hm ii_X6 hown hK hR rfl k3 2 (by decide) (hm _ mw_73) (fun _ h9 => h9) rfl dX6_changes_66 ?_
      refine lv_iload hx hb dX6_changes_69 (zl_at hl 3 rfl) ?_
      obtain ⟨k4, hp⟩ := ck_i hp
      refine r_cald hx hb hK hR k4.1 k4.2 dX6_changes_71 ?_
      refine lv_if_eq (tgt := 126) hx hb dX6_changes_72 (by decide) (fun c6 => ?_) (fun c6 => ?_)
      · replace hp := ite_p hp c6
        exact s_X6_changes_126 C (fun hR hL hl hp => ih _ _ _ _ _ _ _ _ _ _ hR hL hl hp) hR hL (zl_sub hl [0, 1, 2, 3] rfl) hp
      · replace hp := ite_n hp c6
        refine z_aload_n hx hb dX6_changes_75 rfl (zl_at hl 0 rfl) ?_
        obtain ⟨k7, hp⟩ := ck_i hp
        refine r_get (ci := 7) (C := RX6) (T := TX6) (N := 4) (v := zr (aR h v0 0)) hx hb hm ii_X6 hown hK hR rfl k7 0 (by decide) (hm _ mw_71) (fun _ h9 => h9) rfl dX6_changes_76 ?_
        refine lv_iload hx hb dX6_changes_79 (zl_at hl 3 rfl) ?_
        obtain ⟨k8, hp⟩ := ck_i hp
        refine r_iald hx hb hK hR k8.1 k8.2 dX6_changes_81 ?_
        refine lv_topi (fun x10 ex10 => ?_)
        replace hp := nm_i hp ex10
        refine z_istore (lv' := [(5, .int x10), (0, zr v0), (2, zr v2), (3, zr v3), (4, .int v4)]) hx hb dX6_changes_82 hl (by decide) rfl (fun ls hl => ?_)
        refine z_aload_n hx hb dX6_changes_84 rfl (zl_at hl 3 rfl) ?_
        obtain ⟨k11, hp⟩ := ck_i hp
        refine r_new (ci := 2) (C := RX1) (T := TX1) (N := 6) (ty0 := tyX1) C hR hL rfl ii_X1 tyX1_ok (fun _ => rfl) (by decide +kernel) mw_760 mw_761 mw_25 k11 dX6_changes_85 (fun H cells slots hR => ?_)
        obtain ⟨h12, hp, hR⟩ := nm_h hp hR
        refine lv_dup hx hb dX6_changes_88 (zr_cat _) ?_
        refine lv_iload hx hb dX6_changes_89 (zl_at hl 0 rfl) ?_
        refine z_aload_n hx hb dX6_changes_91 rfl (zl_at hl 1 rfl) ?_
        obtain ⟨k13, hp⟩ := ck_i hp
        refine r_get (ci := 7) (C := RX6) (T := TX6) (N := 4) (v := zr (aR h12 v0 1)) hx hb hm ii_X6 hown hK hR rfl k13 1 (by decide) (hm _ mw_72) (fun _ h9 => h9) rfl dX6_changes_92 ?_
        refine lv_iload hx hb dX6_changes_95 (zl_at hl 4 rfl) ?_
        obtain ⟨k14, hp⟩ := ck_i hp
        refine r_cald hx hb hK hR k14.1 k14.2 dX6_changes_97 ?_
        refine z_aload_n hx hb dX6_changes_98 rfl (zl_at hl 1 rfl) ?_
        obtain ⟨k16, hp⟩ := ck_i hp
        refine r_get (ci := 7) (C := RX6) (T := TX6) (N := 4) (v := zr (aR h12 v0 2)) hx hb hm ii_X6 hown hK hR rfl k16 2 (by decide) (hm _ mw_73) (fun _ h9 => h9) rfl dX6_changes_99 ?_
        refine lv_iload hx hb dX6_changes_102 (zl_at hl 4 rfl) ?_
        obtain ⟨k17, hp⟩ := ck_i hp
        refine r_cald hx hb hK hR k17.1 k17.2 dX6_changes_104 ?_
        refine z_aload_n hx hb dX6_changes_105 rfl (zl_at hl 2 rfl) ?_
        refine lv_iload hx hb dX6_changes_106 (zl_at hl 0 rfl) ?_
        obtain ⟨k19, hp⟩ := ck_i hp
        obtain ⟨r20, h21, er20, hp⟩ := bR_i hp
        refine r_callV (ci := 6) (r := (RX5, TX5, 3)) (n := 1) (As := [.int x10]) (rest := [.int (aI h12 (aR h12 v0 2) v4.toNatClampNeg), .int (aI h12 (aR h12 v0 1) v4.toNatClampNeg), .int x10, zr (aZ h), zr (aZ h), zr v3]) C (c_X5_aheadOf l G v2 x10 h12 r20 h21 er20) hR hL rfl k19 mw_762 mw_763 mw_764 mw_6 mw_765 (by decide +kernel) (by decide) rfl (zl_size hl) rfl (by simp [zr_cat, in_cat]) dX6_changes_108 (st2 := [.int r20, .int (aI h12 (aR h12 v0 2) v4.toNatClampNeg), .int (aI h12 (aR h12 v0 1) v4.toNatClampNeg), .int x10, zr (aZ h), zr (aZ h), zr v3]) rfl (fun H locs cells slots hR hL => ?_)
        refine z_aload_n hx hb dX6_changes_111 rfl (zl_at hl 2 rfl) ?_
        refine lv_iload hx hb dX6_changes_112 (zl_at hl 0 rfl) ?_
        obtain ⟨k22, hp⟩ := ck_i hp
        obtain ⟨r23, h24, er23, hp⟩ := bR_i hp
        refine r_callV (ci := 6) (r := (RX5, TX5, 3)) (n := 1) (As := [.int x10]) (rest := [.int r20, .int (aI h12 (aR h12 v0 2) v4.toNatClampNeg), .int (aI h12 (aR h12 v0 1) v4.toNatClampNeg), .int x10, zr (aZ h), zr (aZ h), zr v3]) C (c_X5_behindOf l G v2 x10 h21 r23 h24 er23) hR hL rfl k22 mw_766 mw_767 mw_768 mw_6 mw_769 (by decide +kernel) (by decide) rfl (zl_size hl) rfl (by simp [zr_cat, in_cat]) dX6_changes_114 (st2 := [.int r23, .int r20, .int (aI h12 (aR h12 v0 2) v4.toNatClampNeg), .int (aI h12 (aR h12 v0 1) v4.toNatClampNeg), .int x10, zr (aZ h), zr (aZ h), zr v3]) rfl (fun H locs cells slots hR hL => ?_)
        obtain ⟨k25, hp⟩ := ck_i hp
        obtain ⟨r26, h27, er26, hp⟩ := bR_i hp
        refine r_callI (n := 5) (As := [.int x10, .int (aI h12 (aR h12 v0 1) v4.toNatClampNeg), .int (aI h12 (aR h12 v0 2) v4.toNatClampNeg), .int r20, .int r23]) (rest := [zr (aZ h), zr v3]) C (c_X1_init l G (aZ h) x10 (aI h12 (aR h12 v0 1) v4.toNatClampNeg) (aI h12 (aR h12 v0 2) v4.toNatClampNeg) r20 r23 h24 r26 h27 er26) hR hL k25 mw_770 mw_771 mw_25 mw_772 rfl (by decide +kernel) (by decide) rfl (zl_size hl) rfl (by simp [zr_cat, in_cat]) dX6_changes_117 (st2 := [zr (aZ h), zr v3]) rfl (fun H locs cells slots hR hL => ?_)
        obtain ⟨k28, hp⟩ := ck_i hp
        obtain ⟨r29, h30, er29, hp⟩ := bR_i hp
        refine r_callF (ci := 0) (r := (RJx4a65c, TJx4a65c, 3)) (x := ⟨"java/util/List", "add", "(Ljava/lang/Object;)Z"⟩) (n := 1) (As := [zr (aZ h)]) (rest := []) C (c_Jx4a65c_add_9ea2d l G v3 (aZ h) h27 r29 h30 er29) hR hL rfl k28 mw_799 mw_484 mw_486 mw_4 mw_488 (fw_add hK) (by decide +kernel) (by decide) rfl (zl_size hl) rfl (by simp [zr_cat, in_cat]) dX6_changes_120 (st2 := [.int r29]) rfl (fun H locs cells slots hR hL => ?_)
        refine lv_pop hx hb dX6_changes_125 rfl ?_
        exact s_X6_changes_126 C (fun hR hL hl hp => ih _ _ _ _ _ _ _ _ _ _ hR hL hl hp) hR hL (zl_sub hl [1, 2, 3, 4] rfl) hp
def p_X6_changes_6  : Nat → Nat → Nat → Nat → Int32 → AH → Option (Nat × AH)
  | 0, _, _, _, _, _ => none
  | n + 1, v0, v1, v2, v3, h =>
    ck (aK h v0 = 8) <|
    if (aI h v0 3) ≤ v3 then
      ck (aK h v2 = 7) <|
      bR (p_X5_find v2 v1 h) fun r4 h5 =>
      ck (aZ h5 + 1 ≤ aC h5 ∧ aU h5 + 3 ≤ gS) <|
      nm (uN h5 1 3) fun h7 =>
      ck (aK h7 (aZ h5) ≠ 0) <|
      bR (p_Jx4a65c_init_da8c8 (aZ h5) h7) fun r9 h10 =>
      nm ((aZ h5)) fun (x11 : Nat) =>
      nm ((iI 0)) fun (x12 : Int32) =>
      p_X6_changes_56  FU v0 v2 x11 x12 h10
    else
      ck (aK h v0 = 8) <|
      ck (aK h (aR h v0 2) = 21 ∧ ix v3 (aN h (aR h v0 2))) <|
      if (aI h (aR h v0 2) v3.toNatClampNeg) = (iI 1) then
        ck (aK h v0 = 8) <|
        ck (aK h (aR h v0 0) = 20 ∧ ix v3 (aN h (aR h v0 0))) <|
        ck (aK h v2 = 7) <|
        bR (p_X5_markGoing v2 (aI h (aR h v0 0) v3.toNatClampNeg) h) fun r21 h22 =>
        p_X6_changes_34 (p_X6_changes_6  n) v0 v1 v2 v3 h22
      else
        p_X6_changes_34 (p_X6_changes_6  n) v0 v1 v2 v3 h
set_option maxHeartbeats 4000000 in
set_option maxRecDepth 100000 in
theorem s_X6_changes_6 {p : Program} {l : Launch} {e : Env} {s : State} {m : MethodId} {args : Array Value} {below : List Frame} {meth : Method} {c : Code} {G : GG} {hs : AH} {r : Nat} {h' : AH} (C : Cx G hs p s m args meth c cX6_changes 6 RX6 (.code yX6_changes cX6_changes 6 (some (.object "java/util/List")) :: MW) (some (.object "java/util/List")) "changes")   : ∀ (n : Nat) (v0 : Nat) (v1 : Nat) (v2 : Nat) (v3 : Int32) (h : AH) (H : Heap) (locs : List Loc) (cells slots : Nat) (ls : Array Slot) (hR : Rp G h H) (hL : ∀ q ∈ locs, gB G ≤ q.base) (hl : zl ls 6 [(0, zr v0), (1, zr v1), (2, zr v2), (3, .int v3)]) (hp : p_X6_changes_6  n v0 v1 v2 v3 h = some (r, h')), W p l e (gR G hs 7 172) s m args below meth c H locs cells slots (MQ below (Qcc G (some (zr r)) h') args s (gC G - aZ hs) (gS - aU hs) (fun q => gB G ≤ q)) (F0 m 6 ls []) := by
  obtain ⟨hx, hb, hml, hown, hts, hT, hK, rs, hlk, hret, hnm⟩ := id C
  have hm : ∀ w ∈ MW, w.before args s = true := fun w hw => hts w (hT w hw)
  intro n
  induction n with
  | zero =>
    intro v0 v1 v2 v3 h H locs cells slots ls hR hL hl hp
    exact absurd (show none = some (r, h') from hp) (by simp)
  | succ n ih =>
    intro v0 v1 v2 v3 h H locs cells slots ls hR hL hl hp
    rw [p_X6_changes_6.eq_2] at hp
    refine lv_iload_n hx hb dX6_changes_6 rfl (zl_at hl 3 rfl) ?_
    refine z_aload_n hx hb dX6_changes_7 rfl (zl_at hl 0 rfl) ?_
    obtain ⟨k1, hp⟩ := ck_i hp
    refine r_get (ci := 7) (C := RX6) (T := TX6) (N := 4) (v := .int (aI h v0 3)) hx hb hm ii_X6 hown hK hR rfl k1 3 (by decide) (hm _ mw_74) (fun _ h9 => h9) rfl dX6_changes_8 ?_
    refine lv_icmp_ge (tgt := 40) hx hb dX6_changes_11 (by decide) (fun c2 => ?_) (fun c2 => ?_)
    · replace hp := ite_p hp c2
      refine z_aload_n hx hb dX6_changes_40 rfl (zl_at hl 2 rfl) ?_
      refine z_aload_n hx hb dX6_changes_41 rfl (zl_at hl 1 rfl) ?_
      obtain ⟨k3, hp⟩ := ck_i hp
      obtain ⟨r4, h5, er4, hp⟩ := bR_i hp
      refine r_callV (ci := 6) (r := (RX5, TX5, 3)) (n := 1) (As := [zr v1]) (rest := []) C (c_X5_find l G v2 v1 h r4 h5 er4) hR hL rfl k3 mw_747 mw_748 mw_749 mw_6 mw_750 (by decide +kernel) (by decide) rfl (zl_size hl) rfl (by simp [zr_cat, in_cat]) dX6_changes_42 (st2 := []) rfl (fun H locs cells slots hR hL => ?_)
      obtain ⟨k6, hp⟩ := ck_i hp
      refine r_new (ci := 0) (C := RJx4a65c) (T := TJx4a65c) (N := 3) (ty0 := tyJx4a65c) C hR hL rfl ii_Jx4a65c tyJx4a65c_ok (fun _ => rfl) (by decide +kernel) mw_758 mw_40 mw_4 k6 dX6_changes_45 (fun H cells slots hR => ?_)
      obtain ⟨h7, hp, hR⟩ := nm_h hp hR
      refine lv_dup hx hb dX6_changes_48 (zr_cat _) ?_
      obtain ⟨k8, hp⟩ := ck_i hp
      obtain ⟨r9, h10, er9, hp⟩ := bR_i hp
      refine r_callI (n := 0) (As := []) (rest := [zr (aZ h5)]) C (c_Jx4a65c_init_da8c8 l G (aZ h5) h7 r9 h10 er9) hR hL k8 mw_759 mw_42 mw_4 mw_43 rfl (by decide +kernel) (by decide) rfl (zl_size hl) rfl (by simp [zr_cat, in_cat]) dX6_changes_49 (st2 := [zr (aZ h5)]) rfl (fun H locs cells slots hR hL => ?_)
      refine lv_topz (fun x11 ex11 => ?_)
      replace hp := nm_i hp ex11
      refine z_astore_n (lv' := [(3, zr x11), (0, zr v0), (1, zr v1), (2, zr v2)]) hx hb dX6_changes_52 rfl hl (by decide) rfl (fun ls hl => ?_)
      refine lv_iconst (v := iI 0) hx hb dX6_changes_53 rfl ?_
      refine lv_topi (fun x12 ex12 => ?_)
      replace hp := nm_i hp ex12
      refine z_istore (lv' := [(4, .int x12), (3, zr x11), (0, zr v0), (1, zr v1), (2, zr v2)]) hx hb dX6_changes_54 hl (by decide) rfl (fun ls hl => ?_)
      exact s_X6_changes_56 C  _ _ _ _ _ _ _ _ _ _ _ hR hL (zl_sub hl [2, 4, 1, 0] rfl) hp
    · replace hp := ite_n hp c2
      refine z_aload_n hx hb dX6_changes_14 rfl (zl_at hl 0 rfl) ?_
      obtain ⟨k13, hp⟩ := ck_i hp
      refine r_get (ci := 7) (C := RX6) (T := TX6) (N := 4) (v := zr (aR h v0 2)) hx hb hm ii_X6 hown hK hR rfl k13 2 (by decide) (hm _ mw_73) (fun _ h9 => h9) rfl dX6_changes_15 ?_
      refine lv_iload_n hx hb dX6_changes_18 rfl (zl_at hl 3 rfl) ?_
      obtain ⟨k14, hp⟩ := ck_i hp
      refine r_cald hx hb hK hR k14.1 k14.2 dX6_changes_19 ?_
      refine lv_iconst (v := iI 1) hx hb dX6_changes_20 rfl ?_
      refine lv_icmp_ne (tgt := 34) hx hb dX6_changes_21 (by decide) (fun c16 => ?_) (fun c16 => ?_)
      · replace hp := ite_n hp c16
        exact s_X6_changes_34 C (fun hR hL hl hp => ih _ _ _ _ _ _ _ _ _ _ hR hL hl hp) hR hL (zl_sub hl [0, 1, 2, 3] rfl) hp
      · replace hp := ite_p hp c16
        refine z_aload_n hx hb dX6_changes_24 rfl (zl_at hl 2 rfl) ?_
        refine z_aload_n hx hb dX6_changes_25 rfl (zl_at hl 0 rfl) ?_
        obtain ⟨k17, hp⟩ := ck_i hp
        refine r_get (ci := 7) (C := RX6) (T := TX6) (N := 4) (v := zr (aR h v0 0)) hx hb hm ii_X6 hown hK hR rfl k17 0 (by decide) (hm _ mw_71) (fun _ h9 => h9) rfl dX6_changes_26 ?_
        refine lv_iload_n hx hb dX6_changes_29 rfl (zl_at hl 3 rfl) ?_
        obtain ⟨k18, hp⟩ := ck_i hp
        refine r_iald hx hb hK hR k18.1 k18.2 dX6_changes_30 ?_
        obtain ⟨k20, hp⟩ := ck_i hp
        obtain ⟨r21, h22, er21, hp⟩ := bR_i hp
        refine r_callV (ci := 6) (r := (RX5, TX5, 3)) (n := 1) (As := [.int (aI h (aR h v0 0) v3.toNatClampNeg)]) (rest := []) C (c_X5_markGoing l G v2 (aI h (aR h v0 0) v3.toNatClampNeg) h r21 h22 er21) hR hL rfl k20 mw_740 mw_741 mw_742 mw_6 mw_743 (by decide +kernel) (by decide) rfl (zl_size hl) rfl (by simp [zr_cat, in_cat]) dX6_changes_31 (st2 := []) rfl (fun H locs cells slots hR hL => ?_)
        exact s_X6_changes_34 C (fun hR hL hl hp => ih _ _ _ _ _ _ _ _ _ _ hR hL hl hp) hR hL (zl_sub hl [0, 1, 2, 3] rfl) hp
def p_X6_changes_0  (v0 : Nat) (v1 : Nat) (v2 : Nat) (h : AH) : Option (Nat × AH) :=
  ck (aK h v2 = 7) <|
  bR (p_X5_forgetGoing v2 h) fun r2 h3 =>
  nm ((iI 0)) fun (x4 : Int32) =>
  p_X6_changes_6  FU v0 v1 v2 x4 h3
set_option maxHeartbeats 4000000 in
set_option maxRecDepth 100000 in
theorem s_X6_changes_0 {p : Program} {l : Launch} {e : Env} {s : State} {m : MethodId} {args : Array Value} {below : List Frame} {meth : Method} {c : Code} {G : GG} {hs : AH} {r : Nat} {h' : AH} (C : Cx G hs p s m args meth c cX6_changes 6 RX6 (.code yX6_changes cX6_changes 6 (some (.object "java/util/List")) :: MW) (some (.object "java/util/List")) "changes")   {v0 : Nat} {v1 : Nat} {v2 : Nat} {h : AH} {H : Heap} {locs : List Loc} {cells slots : Nat} {ls : Array Slot} (hR : Rp G h H) (hL : ∀ q ∈ locs, gB G ≤ q.base) (hl : zl ls 6 [(0, zr v0), (1, zr v1), (2, zr v2)]) (hp : p_X6_changes_0  v0 v1 v2 h = some (r, h')) : W p l e (gR G hs 7 172) s m args below meth c H locs cells slots (MQ below (Qcc G (some (zr r)) h') args s (gC G - aZ hs) (gS - aU hs) (fun q => gB G ≤ q)) (F0 m 0 ls []) := by
  obtain ⟨hx, hb, hml, hown, hts, hT, hK, rs, hlk, hret, hnm⟩ := id C
  have hm : ∀ w ∈ MW, w.before args s = true := fun w hw => hts w (hT w hw)
  unfold p_X6_changes_0 at hp
  refine z_aload_n hx hb dX6_changes_0 rfl (zl_at hl 2 rfl) ?_
  obtain ⟨k1, hp⟩ := ck_i hp
  obtain ⟨r2, h3, er2, hp⟩ := bR_i hp
  refine r_callV (ci := 6) (r := (RX5, TX5, 3)) (n := 0) (As := []) (rest := []) C (c_X5_forgetGoing l G v2 h r2 h3 er2) hR hL rfl k1 mw_736 mw_737 mw_738 mw_6 mw_739 (by decide +kernel) (by decide) rfl (zl_size hl) rfl (by simp [zr_cat, in_cat]) dX6_changes_1 (st2 := []) rfl (fun H locs cells slots hR hL => ?_)
  refine lv_iconst (v := iI 0) hx hb dX6_changes_4 rfl ?_
  refine lv_topi (fun x4 ex4 => ?_)
  replace hp := nm_i hp ex4
  refine z_istore_n (lv' := [(3, .int x4), (0, zr v0), (1, zr v1), (2, zr v2)]) hx hb dX6_changes_5 rfl hl (by decide) rfl (fun ls hl => ?_)
  exact s_X6_changes_6 C  _ _ _ _ _ _ _ _ _ _ _ hR hL (zl_sub hl [1, 2, 3, 0] rfl) hp
def p_X6_changes (v0 : Nat) (v1 : Nat) (v2 : Nat) (h : AH) : Option (Nat × AH) := ck (v0 ≠ 0) <| ck (v1 ≠ 0) <| ck (v2 ≠ 0) <| p_X6_changes_0 v0 v1 v2 h
theorem c_X6_changes (l : Launch) (G : GG) (v0 : Nat) (v1 : Nat) (v2 : Nat) (h : AH) (r : Nat) (h' : AH) (hp : p_X6_changes v0 v1 v2 h = some (r, h')) : Ct l yX6_changes (.code yX6_changes cX6_changes 6 (some (.object "java/util/List")) :: MW) G 7 172 [.ref (v0 - 1), zr v1, zr v2] h (some (zr r)) h' := by
  obtain ⟨hz0, hp⟩ := ck_i hp
  obtain ⟨hz1, hp⟩ := ck_i hp
  obtain ⟨hz2, hp⟩ := ck_i hp
  rw [show zr v1 = .ref (v1 - 1) from zr_p hz1]
  rw [show zr v2 = .ref (v2 - 1) from zr_p hz2]
  refine Ct.of (by decide +kernel) (Nat.le_of_ble_eq_true rfl) ?_
  intro p e s m args below meth c C hR ls hl
  have hl : zl ls 6 [(0, zr v0), (1, zr v1), (2, zr v2)] := ⟨by rw [zr_p hz0, zr_p hz1, zr_p hz2]; exact hl, by simp [zr_cat, in_cat]⟩
  exact s_X6_changes_0 C hR (fun _ hq => nomatch hq) hl hp
