/-! CursorKeep$Format.<init>(LCursorKeep$Text;Ljava/util/List;)V -/
def p_X3_init_0  (v0 : Nat) (v1 : Nat) (v2 : Nat) (h : AH) : Option (Unit × AH) :=
  ck (v0 ≠ 0) <|
  ck (aK h v0 = 5) <|
  nm (uI h v0 2 (iI 0)) fun h3 =>
  ck (aK h3 v0 = 5) <|
  nm (uR h3 v0 0 v1) fun h5 =>
  ck (aK h5 v0 = 5) <|
  nm (uR h5 v0 1 v2) fun h7 =>
  some ((), h7)
set_option maxHeartbeats 4000000 in
set_option maxRecDepth 100000 in
theorem s_X3_init_0 {p : Program} {l : Launch} {e : Env} {s : State} {m : MethodId} {args : Array Value} {below : List Frame} {meth : Method} {c : Code} {G : GG} {hs : AH} {r : Unit} {h' : AH} (C : Cx G hs p s m args meth c cX3_init 3 RX3 (.code yX3_init cX3_init 3 none :: MW) none "<init>")   {v0 : Nat} {v1 : Nat} {v2 : Nat} {h : AH} {H : Heap} {locs : List Loc} {cells slots : Nat} {ls : Array Slot} (hR : Rp G h H) (hL : ∀ q ∈ locs, gB G ≤ q.base) (hl : zl ls 3 [(0, zr v0), (1, zr v1), (2, zr v2)]) (hp : p_X3_init_0  v0 v1 v2 h = some (r, h')) : W p l e (gR G hs 1 40) s m args below meth c H locs cells slots (MQ below (Qcc G (none) h') args s (gC G - aZ hs) (gS - aU hs) (fun q => gB G ≤ q)) (F0 m 0 ls []) := by
  obtain ⟨hx, hb, hml, hown, hts, hT, hK, rs, hlk, hret, hnm⟩ := id C
  have hm : ∀ w ∈ MW, w.before args s = true := fun w hw => hts w (hT w hw)
  unfold p_X3_init_0 at hp
  refine z_aload_n hx hb dX3_init_0 rfl (zl_at hl 0 rfl) ?_
  obtain ⟨k1, hp⟩ := ck_i hp
  refine r_objInit C k1 (hm _ mw_803) (hm _ mw_33) (hm _ mw_34) (zl_size hl) dX3_init_1 (by decide) (by simp [zr_cat, in_cat]) ?_
  refine z_aload_n hx hb dX3_init_4 rfl (zl_at hl 0 rfl) ?_
  refine lv_iconst (v := iI 0) hx hb dX3_init_5 rfl ?_
  obtain ⟨k2, hp⟩ := ck_i hp
  refine r_putI (ci := 4) (C := RX3) (T := TX3) (N := 4) hx hb hm ii_X3 tyX3_ok nmX3 hown hK hR hL rfl k2 2 (by decide) (hm _ mw_808) (fun _ h9 => h9) (Or.inl rfl) rfl rfl (fun _ _ _ => rfl) dX3_init_6 (fun H locs hR hL => ?_)
  obtain ⟨h3, hp, hR⟩ := nm_h hp hR
  refine z_aload_n hx hb dX3_init_9 rfl (zl_at hl 0 rfl) ?_
  refine z_aload_n hx hb dX3_init_10 rfl (zl_at hl 1 rfl) ?_
  obtain ⟨k4, hp⟩ := ck_i hp
  refine r_putR (ci := 4) (C := RX3) (T := TX3) (N := 4) hx hb hm ii_X3 tyX3_ok nmX3 hown hK hR hL rfl k4 0 (by decide) (hm _ mw_804) (fun _ h9 => h9) (Or.inr ⟨rfl, hnm, rfl⟩) (zr_fitsO _ _) (fun _ _ _ => rfl) dX3_init_11 (fun H locs hR hL => ?_)
  obtain ⟨h5, hp, hR⟩ := nm_h hp hR
  refine z_aload_n hx hb dX3_init_14 rfl (zl_at hl 0 rfl) ?_
  refine z_aload_n hx hb dX3_init_15 rfl (zl_at hl 2 rfl) ?_
  obtain ⟨k6, hp⟩ := ck_i hp
  refine r_putR (ci := 4) (C := RX3) (T := TX3) (N := 4) hx hb hm ii_X3 tyX3_ok nmX3 hown hK hR hL rfl k6 1 (by decide) (hm _ mw_806) (fun _ h9 => h9) (Or.inr ⟨rfl, hnm, rfl⟩) (zr_fitsO _ _) (fun _ _ _ => rfl) dX3_init_16 (fun H locs hR hL => ?_)
  obtain ⟨h7, hp, hR⟩ := nm_h hp hR
  cases hp
  exact r_vret C hR hL dX3_init_19
def p_X3_init (v0 : Nat) (v1 : Nat) (v2 : Nat) (h : AH) : Option (Unit × AH) := ck (v0 ≠ 0) <| ck (v1 ≠ 0) <| ck (v2 ≠ 0) <| p_X3_init_0 v0 v1 v2 h
theorem c_X3_init (l : Launch) (G : GG) (v0 : Nat) (v1 : Nat) (v2 : Nat) (h : AH) (r : Unit) (h' : AH) (hp : p_X3_init v0 v1 v2 h = some (r, h')) : Ct l yX3_init (.code yX3_init cX3_init 3 none :: MW) G 1 40 [.ref (v0 - 1), zr v1, zr v2] h (none) h' := by
  obtain ⟨hz0, hp⟩ := ck_i hp
  obtain ⟨hz1, hp⟩ := ck_i hp
  obtain ⟨hz2, hp⟩ := ck_i hp
  rw [show zr v1 = .ref (v1 - 1) from zr_p hz1]
  rw [show zr v2 = .ref (v2 - 1) from zr_p hz2]
  refine Ct.of (by decide +kernel) (Nat.le_of_ble_eq_true rfl) ?_
  intro p e s m args below meth c C hR ls hl
  have hl : zl ls 3 [(0, zr v0), (1, zr v1), (2, zr v2)] := ⟨by rw [zr_p hz0, zr_p hz1, zr_p hz2]; exact hl, by simp [zr_cat, in_cat]⟩
  exact s_X3_init_0 C hR (fun _ hq => nomatch hq) hl hp
/-! CursorKeep$Format.end(II)V -/
def p_X3_end_0  (v0 : Nat) (v1 : Int32) (v2 : Int32) (h : AH) : Option (Unit × AH) :=
  ck (aK h v0 = 5) <|
  nm (uI h v0 2 v1) fun h2 =>
  ck (aK h2 v0 = 5) <|
  nm (uI h2 v0 3 v2) fun h4 =>
  some ((), h4)
set_option maxHeartbeats 4000000 in
set_option maxRecDepth 100000 in
theorem s_X3_end_0 {p : Program} {l : Launch} {e : Env} {s : State} {m : MethodId} {args : Array Value} {below : List Frame} {meth : Method} {c : Code} {G : GG} {hs : AH} {r : Unit} {h' : AH} (C : Cx G hs p s m args meth c cX3_end 3 RX3 (.code yX3_end cX3_end 3 none :: MW) none "end")   {v0 : Nat} {v1 : Int32} {v2 : Int32} {h : AH} {H : Heap} {locs : List Loc} {cells slots : Nat} {ls : Array Slot} (hR : Rp G h H) (hL : ∀ q ∈ locs, gB G ≤ q.base) (hl : zl ls 3 [(0, zr v0), (1, .int v1), (2, .int v2)]) (hp : p_X3_end_0  v0 v1 v2 h = some (r, h')) : W p l e (gR G hs 1 40) s m args below meth c H locs cells slots (MQ below (Qcc G (none) h') args s (gC G - aZ hs) (gS - aU hs) (fun q => gB G ≤ q)) (F0 m 0 ls []) := by
  obtain ⟨hx, hb, hml, hown, hts, hT, hK, rs, hlk, hret, hnm⟩ := id C
  have hm : ∀ w ∈ MW, w.before args s = true := fun w hw => hts w (hT w hw)
  unfold p_X3_end_0 at hp
  refine z_aload_n hx hb dX3_end_0 rfl (zl_at hl 0 rfl) ?_
  refine lv_iload_n hx hb dX3_end_1 rfl (zl_at hl 1 rfl) ?_
  obtain ⟨k1, hp⟩ := ck_i hp
  refine r_putI (ci := 4) (C := RX3) (T := TX3) (N := 4) hx hb hm ii_X3 tyX3_ok nmX3 hown hK hR hL rfl k1 2 (by decide) (hm _ mw_808) (fun _ h9 => h9) (Or.inl rfl) rfl rfl (fun _ _ _ => rfl) dX3_end_2 (fun H locs hR hL => ?_)
  obtain ⟨h2, hp, hR⟩ := nm_h hp hR
  refine z_aload_n hx hb dX3_end_5 rfl (zl_at hl 0 rfl) ?_
  refine lv_iload_n hx hb dX3_end_6 rfl (zl_at hl 2 rfl) ?_
  obtain ⟨k3, hp⟩ := ck_i hp
  refine r_putI (ci := 4) (C := RX3) (T := TX3) (N := 4) hx hb hm ii_X3 tyX3_ok nmX3 hown hK hR hL rfl k3 3 (by decide) (hm _ mw_811) (fun _ h9 => h9) (Or.inl rfl) rfl rfl (fun _ _ _ => rfl) dX3_end_7 (fun H locs hR hL => ?_)
  obtain ⟨h4, hp, hR⟩ := nm_h hp hR
  cases hp
  exact r_vret C hR hL dX3_end_10
def p_X3_end (v0 : Nat) (v1 : Int32) (v2 : Int32) (h : AH) : Option (Unit × AH) := ck (v0 ≠ 0) <| p_X3_end_0 v0 v1 v2 h
theorem c_X3_end (l : Launch) (G : GG) (v0 : Nat) (v1 : Int32) (v2 : Int32) (h : AH) (r : Unit) (h' : AH) (hp : p_X3_end v0 v1 v2 h = some (r, h')) : Ct l yX3_end (.code yX3_end cX3_end 3 none :: MW) G 1 40 [.ref (v0 - 1), .int v1, .int v2] h (none) h' := by
  obtain ⟨hz0, hp⟩ := ck_i hp
  refine Ct.of (by decide +kernel) (Nat.le_of_ble_eq_true rfl) ?_
  intro p e s m args below meth c C hR ls hl
  have hl : zl ls 3 [(0, zr v0), (1, .int v1), (2, .int v2)] := ⟨by rw [zr_p hz0]; exact hl, by simp [zr_cat, in_cat]⟩
  exact s_X3_end_0 C hR (fun _ hq => nomatch hq) hl hp
/-! CursorKeep$Text.hasCursorAt(I)Z -/
def p_X9_hasCursorAt_2  : Nat → Nat → Int32 → Int32 → AH → Option (Int32 × AH)
  | 0, _, _, _, _ => none
  | n + 1, v0, v1, v2, h =>
    if (iI 5) ≤ v2 then
      some ((iI 0), h)
    else
      ck (aK h v0 = 11) <|
      ck (aK h (aR h v0 9) = 20 ∧ ix v2 (aN h (aR h v0 9))) <|
      if (aI h (aR h v0 9) v2.toNatClampNeg) = v1 then
        some ((iI 1), h)
      else
        nm (v2 + iI 1) fun (x6 : Int32) =>
        p_X9_hasCursorAt_2  n v0 v1 x6 h
set_option maxHeartbeats 4000000 in
set_option maxRecDepth 100000 in
theorem s_X9_hasCursorAt_2 {p : Program} {l : Launch} {e : Env} {s : State} {m : MethodId} {args : Array Value} {below : List Frame} {meth : Method} {c : Code} {G : GG} {hs : AH} {r : Int32} {h' : AH} (C : Cx G hs p s m args meth c cX9_hasCursorAt 3 RX9 (.code yX9_hasCursorAt cX9_hasCursorAt 3 (some .boolean) :: MW) (some .boolean) "hasCursorAt")   : ∀ (n : Nat) (v0 : Nat) (v1 : Int32) (v2 : Int32) (h : AH) (H : Heap) (locs : List Loc) (cells slots : Nat) (ls : Array Slot) (hR : Rp G h H) (hL : ∀ q ∈ locs, gB G ≤ q.base) (hl : zl ls 3 [(0, zr v0), (1, .int v1), (2, .int v2)]) (hp : p_X9_hasCursorAt_2  n v0 v1 v2 h = some (r, h')), W p l e (gR G hs 1 40) s m args below meth c H locs cells slots (MQ below (Qcc G (some (.int r)) h') args s (gC G - aZ hs) (gS - aU hs) (fun q => gB G ≤ q)) (F0 m 2 ls []) := by
  obtain ⟨hx, hb, hml, hown, hts, hT, hK, rs, hlk, hret, hnm⟩ := id C
  have hm : ∀ w ∈ MW, w.before args s = true := fun w hw => hts w (hT w hw)
  intro n
  induction n with
  | zero =>
    intro v0 v1 v2 h H locs cells slots ls hR hL hl hp
    exact absurd (show none = some (r, h') from hp) (by simp)
  | succ n ih =>
    intro v0 v1 v2 h H locs cells slots ls hR hL hl hp
    rw [p_X9_hasCursorAt_2.eq_2] at hp
    refine lv_iload_n hx hb dX9_hasCursorAt_2 rfl (zl_at hl 2 rfl) ?_
    refine lv_iconst (v := iI 5) hx hb dX9_hasCursorAt_3 rfl ?_
    refine lv_icmp_ge (tgt := 25) hx hb dX9_hasCursorAt_4 (by decide) (fun c1 => ?_) (fun c1 => ?_)
    · replace hp := ite_p hp c1
      refine lv_iconst (v := iI 0) hx hb dX9_hasCursorAt_25 rfl ?_
      cases hp
      exact r_zret C hR hL (by decide +kernel) dX9_hasCursorAt_26
    · replace hp := ite_n hp c1
      refine z_aload_n hx hb dX9_hasCursorAt_7 rfl (zl_at hl 0 rfl) ?_
      obtain ⟨k2, hp⟩ := ck_i hp
      refine r_get (ci := 10) (C := RX9) (T := TX9) (N := 10) (v := zr (aR h v0 9)) hx hb hm ii_X9 hown hK hR rfl k2 9 (by decide) (hm _ mw_147) (fun _ h9 => h9) rfl dX9_hasCursorAt_8 ?_
      refine lv_iload_n hx hb dX9_hasCursorAt_11 rfl (zl_at hl 2 rfl) ?_
      obtain ⟨k3, hp⟩ := ck_i hp
      refine r_iald hx hb hK hR k3.1 k3.2 dX9_hasCursorAt_12 ?_
      refine lv_iload_n hx hb dX9_hasCursorAt_13 rfl (zl_at hl 1 rfl) ?_
      refine lv_icmp_ne (tgt := 19) hx hb dX9_hasCursorAt_14 (by decide) (fun c5 => ?_) (fun c5 => ?_)
      · replace hp := ite_n hp c5
        obtain ⟨x6, ex6⟩ : ∃ y : Int32, y = v2 + iI 1 := ⟨_, rfl⟩
        replace hp := nm_i hp ex6
        refine z_iinc (v := x6) (lv' := [(2, .int x6), (0, zr v0), (1, .int v1)]) hx hb dX9_hasCursorAt_19 hl (k := 2) rfl ex6 (by decide) rfl (fun ls hl => ?_)
        refine lv_goto (tgt := 2) hx hb dX9_hasCursorAt_22 (by decide) ?_
        exact ih _ _ _ _ _ _ _ _ _ hR hL (zl_sub hl [1, 2, 0] rfl) hp
      · replace hp := ite_p hp c5
        refine lv_iconst (v := iI 1) hx hb dX9_hasCursorAt_17 rfl ?_
        cases hp
        exact r_zret C hR hL (by decide +kernel) dX9_hasCursorAt_18
def p_X9_hasCursorAt_0  (v0 : Nat) (v1 : Int32) (h : AH) : Option (Int32 × AH) :=
  nm ((iI 0)) fun (x1 : Int32) =>
  p_X9_hasCursorAt_2  FU v0 v1 x1 h
set_option maxHeartbeats 4000000 in
set_option maxRecDepth 100000 in
theorem s_X9_hasCursorAt_0 {p : Program} {l : Launch} {e : Env} {s : State} {m : MethodId} {args : Array Value} {below : List Frame} {meth : Method} {c : Code} {G : GG} {hs : AH} {r : Int32} {h' : AH} (C : Cx G hs p s m args meth c cX9_hasCursorAt 3 RX9 (.code yX9_hasCursorAt cX9_hasCursorAt 3 (some .boolean) :: MW) (some .boolean) "hasCursorAt")   {v0 : Nat} {v1 : Int32} {h : AH} {H : Heap} {locs : List Loc} {cells slots : Nat} {ls : Array Slot} (hR : Rp G h H) (hL : ∀ q ∈ locs, gB G ≤ q.base) (hl : zl ls 3 [(0, zr v0), (1, .int v1)]) (hp : p_X9_hasCursorAt_0  v0 v1 h = some (r, h')) : W p l e (gR G hs 1 40) s m args below meth c H locs cells slots (MQ below (Qcc G (some (.int r)) h') args s (gC G - aZ hs) (gS - aU hs) (fun q => gB G ≤ q)) (F0 m 0 ls []) := by
  obtain ⟨hx, hb, hml, hown, hts, hT, hK, rs, hlk, hret, hnm⟩ := id C
  have hm : ∀ w ∈ MW, w.before args s = true := fun w hw => hts w (hT w hw)
  unfold p_X9_hasCursorAt_0 at hp
  refine lv_iconst (v := iI 0) hx hb dX9_hasCursorAt_0 rfl ?_
  refine lv_topi (fun x1 ex1 => ?_)
  replace hp := nm_i hp ex1
  refine z_istore_n (lv' := [(2, .int x1), (0, zr v0), (1, .int v1)]) hx hb dX9_hasCursorAt_1 rfl hl (by decide) rfl (fun ls hl => ?_)
  exact s_X9_hasCursorAt_2 C  _ _ _ _ _ _ _ _ _ _ hR hL (zl_sub hl [1, 2, 0] rfl) hp
def p_X9_hasCursorAt (v0 : Nat) (v1 : Int32) (h : AH) : Option (Int32 × AH) := ck (v0 ≠ 0) <| p_X9_hasCursorAt_0 v0 v1 h
theorem c_X9_hasCursorAt (l : Launch) (G : GG) (v0 : Nat) (v1 : Int32) (h : AH) (r : Int32) (h' : AH) (hp : p_X9_hasCursorAt v0 v1 h = some (r, h')) : Ct l yX9_hasCursorAt (.code yX9_hasCursorAt cX9_hasCursorAt 3 (some .boolean) :: MW) G 1 40 [.ref (v0 - 1), .int v1] h (some (.int r)) h' := by
  obtain ⟨hz0, hp⟩ := ck_i hp
  refine Ct.of (by decide +kernel) (Nat.le_of_ble_eq_true rfl) ?_
  intro p e s m args below meth c C hR ls hl
  have hl : zl ls 3 [(0, zr v0), (1, .int v1)] := ⟨by rw [zr_p hz0]; exact hl, by simp [zr_cat, in_cat]⟩
  exact s_X9_hasCursorAt_0 C hR (fun _ hq => nomatch hq) hl hp
/-! CursorKeep$Format.spares(LCursorKeep$Change;LCursorKeep$Neighbours;)Z -/
def p_X3_spares_84  (s0 : Int32) (h : AH) : Option (Int32 × AH) :=
  ck (okZ s0) <|
  some (s0, h)
set_option maxHeartbeats 4000000 in
set_option maxRecDepth 100000 in
theorem s_X3_spares_84 {p : Program} {l : Launch} {e : Env} {s : State} {m : MethodId} {args : Array Value} {below : List Frame} {meth : Method} {c : Code} {G : GG} {hs : AH} {r : Int32} {h' : AH} (C : Cx G hs p s m args meth c cX3_spares 4 RX3 (.code yX3_spares cX3_spares 4 (some .boolean) :: MW) (some .boolean) "spares")   {s0 : Int32} {h : AH} {H : Heap} {locs : List Loc} {cells slots : Nat} {ls : Array Slot} (hR : Rp G h H) (hL : ∀ q ∈ locs, gB G ≤ q.base) (hl : zl ls 4 []) (hp : p_X3_spares_84  s0 h = some (r, h')) : W p l e (gR G hs 3 82) s m args below meth c H locs cells slots (MQ below (Qcc G (some (.int r)) h') args s (gC G - aZ hs) (gS - aU hs) (fun q => gB G ≤ q)) (F0 m 84 ls [.int s0]) := by
  obtain ⟨hx, hb, hml, hown, hts, hT, hK, rs, hlk, hret, hnm⟩ := id C
  have hm : ∀ w ∈ MW, w.before args s = true := fun w hw => hts w (hT w hw)
  unfold p_X3_spares_84 at hp
  obtain ⟨k1, hp⟩ := ck_i hp
  cases hp
  exact r_zret C hR hL (okZ_n k1) dX3_spares_84
def p_X3_spares_79   (h : AH) : Option (Int32 × AH) :=
  p_X3_spares_84  (iI 1) h
set_option maxHeartbeats 4000000 in
set_option maxRecDepth 100000 in
theorem s_X3_spares_79 {p : Program} {l : Launch} {e : Env} {s : State} {m : MethodId} {args : Array Value} {below : List Frame} {meth : Method} {c : Code} {G : GG} {hs : AH} {r : Int32} {h' : AH} (C : Cx G hs p s m args meth c cX3_spares 4 RX3 (.code yX3_spares cX3_spares 4 (some .boolean) :: MW) (some .boolean) "spares")    {h : AH} {H : Heap} {locs : List Loc} {cells slots : Nat} {ls : Array Slot} (hR : Rp G h H) (hL : ∀ q ∈ locs, gB G ≤ q.base) (hl : zl ls 4 []) (hp : p_X3_spares_79   h = some (r, h')) : W p l e (gR G hs 3 82) s m args below meth c H locs cells slots (MQ below (Qcc G (some (.int r)) h') args s (gC G - aZ hs) (gS - aU hs) (fun q => gB G ≤ q)) (F0 m 79 ls []) := by
  obtain ⟨hx, hb, hml, hown, hts, hT, hK, rs, hlk, hret, hnm⟩ := id C
  have hm : ∀ w ∈ MW, w.before args s = true := fun w hw => hts w (hT w hw)
  unfold p_X3_spares_79 at hp
  refine lv_iconst (v := iI 1) hx hb dX3_spares_79 rfl ?_
  refine lv_goto (tgt := 84) hx hb dX3_spares_80 (by decide) ?_
  exact s_X3_spares_84 C  hR hL (zl_sub hl [] rfl) hp
def p_X3_spares_55  (v1 : Nat) (v2 : Nat) (v3 : Int32) (h : AH) : Option (Int32 × AH) :=
  ck (aK h v2 = 7) <|
  bR (p_X5_aheadOf v2 v3 h) fun r2 h3 =>
  ck (aK h3 v1 = 3) <|
  if r2 = (aI h3 v1 3) then
    ck (aK h3 v2 = 7) <|
    bR (p_X5_behindOf v2 v3 h3) fun r7 h8 =>
    ck (aK h8 v1 = 3) <|
    if r7 = (aI h8 v1 4) then
      p_X3_spares_84  (iI 0) h8
    else
      p_X3_spares_79   h8
  else
    p_X3_spares_79   h3
set_option maxHeartbeats 4000000 in
set_option maxRecDepth 100000 in
theorem s_X3_spares_55 {p : Program} {l : Launch} {e : Env} {s : State} {m : MethodId} {args : Array Value} {below : List Frame} {meth : Method} {c : Code} {G : GG} {hs : AH} {r : Int32} {h' : AH} (C : Cx G hs p s m args meth c cX3_spares 4 RX3 (.code yX3_spares cX3_spares 4 (some .boolean) :: MW) (some .boolean) "spares")   {v1 : Nat} {v2 : Nat} {v3 : Int32} {h : AH} {H : Heap} {locs : List Loc} {cells slots : Nat} {ls : Array Slot} (hR : Rp G h H) (hL : ∀ q ∈ locs, gB G ≤ q.base) (hl : zl ls 4 [(1, zr v1), (2, zr v2), (3, .int v3)]) (hp : p_X3_spares_55  v1 v2 v3 h = some (r, h')) : W p l e (gR G hs 3 82) s m args below meth c H locs cells slots (MQ below (Qcc G (some (.int r)) h') args s (gC G - aZ hs) (gS - aU hs) (fun q => gB G ≤ q)) (F0 m 55 ls []) := by
  obtain ⟨hx, hb, hml, hown, hts, hT, hK, rs, hlk, hret, hnm⟩ := id C
  have hm : ∀ w ∈ MW, w.before args s = true := fun w hw => hts w (hT w hw)
  unfold p_X3_spares_55 at hp
  refine z_aload_n hx hb dX3_spares_55 rfl (zl_at hl 1 rfl) ?_
  refine lv_iload_n hx hb dX3_spares_56 rfl (zl_at hl 2 rfl) ?_
  obtain ⟨k1, hp⟩ := ck_i hp
  obtain ⟨r2, h3, er2, hp⟩ := bR_i hp
  refine r_callV (ci := 6) (r := (RX5, TX5, 3)) (n := 1) (As := [.int v3]) (rest := []) C (c_X5_aheadOf l G v2 v3 h r2 h3 er2) hR hL rfl k1 mw_867 mw_763 mw_764 mw_6 mw_765 (by decide +kernel) (by decide) rfl (zl_size hl) rfl (by simp [zr_cat, in_cat]) dX3_spares_57 (st2 := [.int r2]) rfl (fun H locs cells slots hR hL => ?_)
  refine z_aload_n hx hb dX3_spares_60 rfl (zl_at hl 0 rfl) ?_
  obtain ⟨k4, hp⟩ := ck_i hp
  refine r_get (ci := 2) (C := RX1) (T := TX1) (N := 6) (v := .int (aI h3 v1 3)) hx hb hm ii_X1 hown hK hR rfl k4 3 (by decide) (hm _ mw_781) (fun _ h9 => h9) rfl dX3_spares_61 ?_
  refine lv_icmp_ne (tgt := 79) hx hb dX3_spares_64 (by decide) (fun c5 => ?_) (fun c5 => ?_)
  · replace hp := ite_n hp c5
    exact s_X3_spares_79 C  hR hL (zl_sub hl [] rfl) hp
  · replace hp := ite_p hp c5
    refine z_aload_n hx hb dX3_spares_67 rfl (zl_at hl 1 rfl) ?_
    refine lv_iload_n hx hb dX3_spares_68 rfl (zl_at hl 2 rfl) ?_
    obtain ⟨k6, hp⟩ := ck_i hp
    obtain ⟨r7, h8, er7, hp⟩ := bR_i hp
    refine r_callV (ci := 6) (r := (RX5, TX5, 3)) (n := 1) (As := [.int v3]) (rest := []) C (c_X5_behindOf l G v2 v3 h3 r7 h8 er7) hR hL rfl k6 mw_868 mw_767 mw_768 mw_6 mw_769 (by decide +kernel) (by decide) rfl (zl_size hl) rfl (by simp [zr_cat, in_cat]) dX3_spares_69 (st2 := [.int r7]) rfl (fun H locs cells slots hR hL => ?_)
    refine z_aload_n hx hb dX3_spares_72 rfl (zl_at hl 0 rfl) ?_
    obtain ⟨k9, hp⟩ := ck_i hp
    refine r_get (ci := 2) (C := RX1) (T := TX1) (N := 6) (v := .int (aI h8 v1 4)) hx hb hm ii_X1 hown hK hR rfl k9 4 (by decide) (hm _ mw_783) (fun _ h9 => h9) rfl dX3_spares_73 ?_
    refine lv_icmp_eq (tgt := 83) hx hb dX3_spares_76 (by decide) (fun c10 => ?_) (fun c10 => ?_)
    · replace hp := ite_p hp c10
      refine lv_iconst (v := iI 0) hx hb dX3_spares_83 rfl ?_
      exact s_X3_spares_84 C  hR hL (zl_sub hl [] rfl) hp
    · replace hp := ite_n hp c10
      exact s_X3_spares_79 C  hR hL (zl_sub hl [] rfl) hp
def p_X3_spares_0  (v0 : Nat) (v1 : Nat) (v2 : Nat) (h : AH) : Option (Int32 × AH) :=
  ck (aK h v1 = 3) <|
  nm ((aI h v1 0)) fun (x2 : Int32) =>
  ck (aK h v0 = 5) <|
  ck (aK h (aR h v0 0) = 11) <|
  ck (aK h (aR h (aR h v0 0) 1) = 9) <|
  bR (p_X7_shows (aR h (aR h v0 0) 1) x2 h) fun r6 h7 =>
  if r6 = 0 then
    p_X3_spares_79   h7
  else
    ck (aK h7 v0 = 5) <|
    ck (aK h7 (aR h7 v0 0) = 11) <|
    ck (aK h7 (aR h7 (aR h7 v0 0) 1) = 9) <|
    bR (p_X7_signOf (aR h7 (aR h7 v0 0) 1) x2 h7) fun r12 h13 =>
    ck (aK h13 v1 = 3) <|
    if r12 = (aI h13 v1 1) then
      ck (aK h13 v1 = 3) <|
      bR (p_X1_goes v1 h13) fun r17 h18 =>
      if r17 = 0 then
        p_X3_spares_55  v1 v2 x2 h18
      else
        ck (aK h18 v0 = 5) <|
        ck (aK h18 (aR h18 v0 0) = 11) <|
        bR (p_X9_hasCursorAt (aR h18 v0 0) x2 h18) fun r22 h23 =>
        if r22 = 0 then
          p_X3_spares_55  v1 v2 x2 h23
        else
          p_X3_spares_79   h23
    else
      p_X3_spares_79   h13
set_option maxHeartbeats 4000000 in
set_option maxRecDepth 100000 in
theorem s_X3_spares_0 {p : Program} {l : Launch} {e : Env} {s : State} {m : MethodId} {args : Array Value} {below : List Frame} {meth : Method} {c : Code} {G : GG} {hs : AH} {r : Int32} {h' : AH} (C : Cx G hs p s m args meth c cX3_spares 4 RX3 (.code yX3_spares cX3_spares 4 (some .boolean) :: MW) (some .boolean) "spares")   {v0 : Nat} {v1 : Nat} {v2 : Nat} {h : AH} {H : Heap} {locs : List Loc} {cells slots : Nat} {ls : Array Slot} (hR : Rp G h H) (hL : ∀ q ∈ locs, gB G ≤ q.base) (hl : zl ls 4 [(0, zr v0), (1, zr v1), (2, zr v2)]) (hp : p_X3_spares_0  v0 v1 v2 h = some (r, h')) : W p l e (gR G hs 3 82) s m args below meth c H locs cells slots (MQ below (Qcc G (some (.int r)) h') args s (gC G - aZ hs) (gS - aU hs) (fun q => gB G ≤ q)) (F0 m 0 ls []) := by
  obtain ⟨hx, hb, hml, hown, hts, hT, hK, rs, hlk, hret, hnm⟩ := id C
  have hm : ∀ w ∈ MW, w.before args s = true := fun w hw => hts w (hT w hw)
  unfold p_X3_spares_0 at hp
  refine z_aload_n hx hb dX3_spares_0 rfl (zl_at hl 1 rfl) ?_
  obtain ⟨k1, hp⟩ := ck_i hp
  refine r_get (ci := 2) (C := RX1) (T := TX1) (N := 6) (v := .int (aI h v1 0)) hx hb hm ii_X1 hown hK hR rfl k1 0 (by decide) (hm _ mw_775) (fun _ h9 => h9) rfl dX3_spares_1 ?_
  refine lv_topi (fun x2 ex2 => ?_)
  replace hp := nm_i hp ex2
  refine z_istore_n (lv' := [(3, .int x2), (0, zr v0), (1, zr v1), (2, zr v2)]) hx hb dX3_spares_4 rfl hl (by decide) rfl (fun ls hl => ?_)
  refine z_aload_n hx hb dX3_spares_5 rfl (zl_at hl 1 rfl) ?_
  obtain ⟨k3, hp⟩ := ck_i hp
  refine r_get (ci := 4) (C := RX3) (T := TX3) (N := 4) (v := zr (aR h v0 0)) hx hb hm ii_X3 hown hK hR rfl k3 0 (by decide) (hm _ mw_804) (fun _ h9 => h9) rfl dX3_spares_6 ?_
  obtain ⟨k4, hp⟩ := ck_i hp
  refine r_get (ci := 10) (C := RX9) (T := TX9) (N := 10) (v := zr (aR h (aR h v0 0) 1)) hx hb hm ii_X9 hown hK hR rfl k4 1 (by decide) (hm _ mw_133) (fun _ h9 => h9) rfl dX3_spares_9 ?_
  refine lv_iload_n hx hb dX3_spares_12 rfl (zl_at hl 0 rfl) ?_
  obtain ⟨k5, hp⟩ := ck_i hp
  obtain ⟨r6, h7, er6, hp⟩ := bR_i hp
  refine r_callV (ci := 8) (r := (RX7, TX7, 4)) (n := 1) (As := [.int x2]) (rest := []) C (c_X7_shows l G (aR h (aR h v0 0) 1) x2 h r6 h7 er6) hR hL rfl k5 mw_861 mw_280 mw_281 mw_8 mw_282 (by decide +kernel) (by decide) rfl (zl_size hl) rfl (by simp [zr_cat, in_cat]) dX3_spares_13 (st2 := [.int r6]) rfl (fun H locs cells slots hR hL => ?_)
  refine lv_if_eq (tgt := 79) hx hb dX3_spares_16 (by decide) (fun c8 => ?_) (fun c8 => ?_)
  · replace hp := ite_p hp c8
    exact s_X3_spares_79 C  hR hL (zl_sub hl [] rfl) hp
  · replace hp := ite_n hp c8
    refine z_aload_n hx hb dX3_spares_19 rfl (zl_at hl 1 rfl) ?_
    obtain ⟨k9, hp⟩ := ck_i hp
    refine r_get (ci := 4) (C := RX3) (T := TX3) (N := 4) (v := zr (aR h7 v0 0)) hx hb hm ii_X3 hown hK hR rfl k9 0 (by decide) (hm _ mw_804) (fun _ h9 => h9) rfl dX3_spares_20 ?_
    obtain ⟨k10, hp⟩ := ck_i hp
    refine r_get (ci := 10) (C := RX9) (T := TX9) (N := 10) (v := zr (aR h7 (aR h7 v0 0) 1)) hx hb hm ii_X9 hown hK hR rfl k10 1 (by decide) (hm _ mw_133) (fun _ h9 => h9) rfl dX3_spares_23 ?_
    refine lv_iload_n hx hb dX3_spares_26 rfl (zl_at hl 0 rfl) ?_
    obtain ⟨k11, hp⟩ := ck_i hp
    obtain ⟨r12, h13, er12, hp⟩ := bR_i hp
    refine r_callV (ci := 8) (r := (RX7, TX7, 4)) (n := 1) (As := [.int x2]) (rest := []) C (c_X7_signOf l G (aR h7 (aR h7 v0 0) 1) x2 h7 r12 h13 er12) hR hL rfl k11 mw_862 mw_288 mw_289 mw_8 mw_290 (by decide +kernel) (by decide) rfl (zl_size hl) rfl (by simp [zr_cat, in_cat]) dX3_spares_27 (st2 := [.int r12]) rfl (fun H locs cells slots hR hL => ?_)
    refine z_aload_n hx hb dX3_spares_30 rfl (zl_at hl 2 rfl) ?_
    obtain ⟨k14, hp⟩ := ck_i hp
    refine r_get (ci := 2) (C := RX1) (T := TX1) (N := 6) (v := .int (aI h13 v1 1)) hx hb hm ii_X1 hown hK hR rfl k14 1 (by decide) (hm _ mw_777) (fun _ h9 => h9) rfl dX3_spares_31 ?_
    refine lv_icmp_ne (tgt := 79) hx hb dX3_spares_34 (by decide) (fun c15 => ?_) (fun c15 => ?_)
    · replace hp := ite_n hp c15
      exact s_X3_spares_79 C  hR hL (zl_sub hl [] rfl) hp
    · replace hp := ite_p hp c15
      refine z_aload_n hx hb dX3_spares_37 rfl (zl_at hl 2 rfl) ?_
      obtain ⟨k16, hp⟩ := ck_i hp
      obtain ⟨r17, h18, er17, hp⟩ := bR_i hp
      refine r_callV (ci := 2) (r := (RX1, TX1, 6)) (n := 0) (As := []) (rest := []) C (c_X1_goes l G v1 h13 r17 h18 er17) hR hL rfl k16 mw_851 mw_852 mw_853 mw_25 mw_854 (by decide +kernel) (by decide) rfl (zl_size hl) rfl (by simp [zr_cat, in_cat]) dX3_spares_38 (st2 := [.int r17]) rfl (fun H locs cells slots hR hL => ?_)
      refine lv_if_eq (tgt := 55) hx hb dX3_spares_41 (by decide) (fun c19 => ?_) (fun c19 => ?_)
      · replace hp := ite_p hp c19
        exact s_X3_spares_55 C  hR hL (zl_sub hl [2, 3, 0] rfl) hp
      · replace hp := ite_n hp c19
        refine z_aload_n hx hb dX3_spares_44 rfl (zl_at hl 1 rfl) ?_
        obtain ⟨k20, hp⟩ := ck_i hp
        refine r_get (ci := 4) (C := RX3) (T := TX3) (N := 4) (v := zr (aR h18 v0 0)) hx hb hm ii_X3 hown hK hR rfl k20 0 (by decide) (hm _ mw_804) (fun _ h9 => h9) rfl dX3_spares_45 ?_
        refine lv_iload_n hx hb dX3_spares_48 rfl (zl_at hl 0 rfl) ?_
        obtain ⟨k21, hp⟩ := ck_i hp
        obtain ⟨r22, h23, er22, hp⟩ := bR_i hp
        refine r_callV (ci := 10) (r := (RX9, TX9, 10)) (n := 1) (As := [.int x2]) (rest := []) C (c_X9_hasCursorAt l G (aR h18 v0 0) x2 h18 r22 h23 er22) hR hL rfl k21 mw_863 mw_864 mw_865 mw_7 mw_866 (by decide +kernel) (by decide) rfl (zl_size hl) rfl (by simp [zr_cat, in_cat]) dX3_spares_49 (st2 := [.int r22]) rfl (fun H locs cells slots hR hL => ?_)
        refine lv_if_ne (tgt := 79) hx hb dX3_spares_52 (by decide) (fun c24 => ?_) (fun c24 => ?_)
        · replace hp := ite_n hp c24
          exact s_X3_spares_79 C  hR hL (zl_sub hl [] rfl) hp
        · replace hp := ite_p hp c24
          exact s_X3_spares_55 C  hR hL (zl_sub hl [2, 3, 0] rfl) hp
def p_X3_spares (v0 : Nat) (v1 : Nat) (v2 : Nat) (h : AH) : Option (Int32 × AH) := ck (v0 ≠ 0) <| ck (v1 ≠ 0) <| ck (v2 ≠ 0) <| p_X3_spares_0 v0 v1 v2 h
theorem c_X3_spares (l : Launch) (G : GG) (v0 : Nat) (v1 : Nat) (v2 : Nat) (h : AH) (r : Int32) (h' : AH) (hp : p_X3_spares v0 v1 v2 h = some (r, h')) : Ct l yX3_spares (.code yX3_spares cX3_spares 4 (some .boolean) :: MW) G 3 82 [.ref (v0 - 1), zr v1, zr v2] h (some (.int r)) h' := by
  obtain ⟨hz0, hp⟩ := ck_i hp
  obtain ⟨hz1, hp⟩ := ck_i hp
  obtain ⟨hz2, hp⟩ := ck_i hp
  rw [show zr v1 = .ref (v1 - 1) from zr_p hz1]
  rw [show zr v2 = .ref (v2 - 1) from zr_p hz2]
  refine Ct.of (by decide +kernel) (Nat.le_of_ble_eq_true rfl) ?_
  intro p e s m args below meth c C hR ls hl
  have hl : zl ls 4 [(0, zr v0), (1, zr v1), (2, zr v2)] := ⟨by rw [zr_p hz0, zr_p hz1, zr_p hz2]; exact hl, by simp [zr_cat, in_cat]⟩
  exact s_X3_spares_0 C hR (fun _ hq => nomatch hq) hl hp
/-! CursorKeep$Format.judge(LCursorKeep$Neighbours;)I -/
def p_X3_judge_58 (k6 : Nat → Nat → Int32 → AH → Option (Int32 × AH)) (v0 : Nat) (v1 : Nat) (v2 : Int32) (h : AH) : Option (Int32 × AH) :=
  nm (v2 + iI 1) fun (x1 : Int32) =>
  k6 v0 v1 x1 h
set_option maxHeartbeats 4000000 in
set_option maxRecDepth 100000 in
theorem s_X3_judge_58 {p : Program} {l : Launch} {e : Env} {s : State} {m : MethodId} {args : Array Value} {below : List Frame} {meth : Method} {c : Code} {G : GG} {hs : AH} {r : Int32} {h' : AH} (C : Cx G hs p s m args meth c cX3_judge 5 RX3 (.code yX3_judge cX3_judge 5 (some .int) :: MW) (some .int) "judge") {k6 : Nat → Nat → Int32 → AH → Option (Int32 × AH)} (hk6 : ∀ {v0 : Nat} {v1 : Nat} {v2 : Int32} {h : AH} {H : Heap} {locs : List Loc} {cells slots : Nat} {ls : Array Slot}, Rp G h H → (∀ q ∈ locs, gB G ≤ q.base) → zl ls 5 [(0, zr v0), (1, zr v1), (2, .int v2)] → k6 v0 v1 v2 h = some (r, h') → W p l e (gR G hs 5 129) s m args below meth c H locs cells slots (MQ below (Qcc G (some (.int r)) h') args s (gC G - aZ hs) (gS - aU hs) (fun q => gB G ≤ q)) (F0 m 6 ls [])) {v0 : Nat} {v1 : Nat} {v2 : Int32} {h : AH} {H : Heap} {locs : List Loc} {cells slots : Nat} {ls : Array Slot} (hR : Rp G h H) (hL : ∀ q ∈ locs, gB G ≤ q.base) (hl : zl ls 5 [(0, zr v0), (1, zr v1), (2, .int v2)]) (hp : p_X3_judge_58 k6 v0 v1 v2 h = some (r, h')) : W p l e (gR G hs 5 129) s m args below meth c H locs cells slots (MQ below (Qcc G (some (.int r)) h') args s (gC G - aZ hs) (gS - aU hs) (fun q => gB G ≤ q)) (F0 m 58 ls []) := by
  obtain ⟨hx, hb, hml, hown, hts, hT, hK, rs, hlk, hret, hnm⟩ := id C
  have hm : ∀ w ∈ MW, w.before args s = true := fun w hw => hts w (hT w hw)
  unfold p_X3_judge_58 at hp
  obtain ⟨x1, ex1⟩ : ∃ y : Int32, y = v2 + iI 1 := ⟨_, rfl⟩
  replace hp := nm_i hp ex1
  refine z_iinc (v := x1) (lv' := [(2, .int x1), (0, zr v0), (1, zr v1)]) hx hb dX3_judge_58 hl (k := 2) rfl ex1 (by decide) rfl (fun ls hl => ?_)
  refine lv_goto (tgt := 6) hx hb dX3_judge_61 (by decide) ?_
  exact hk6 hR hL (zl_sub hl [1, 2, 0] rfl) hp
def p_X3_judge_130 (k79 : Nat → Nat → Int32 → Int32 → AH → Option (Int32 × AH)) (v0 : Nat) (v1 : Nat) (v2 : Int32) (v3 : Int32) (h : AH) : Option (Int32 × AH) :=
  nm (v3 + iI 1) fun (x1 : Int32) =>
  k79 v0 v1 v2 x1 h
set_option maxHeartbeats 4000000 in
set_option maxRecDepth 100000 in
theorem s_X3_judge_130 {p : Program} {l : Launch} {e : Env} {s : State} {m : MethodId} {args : Array Value} {below : List Frame} {meth : Method} {c : Code} {G : GG} {hs : AH} {r : Int32} {h' : AH} (C : Cx G hs p s m args meth c cX3_judge 5 RX3 (.code yX3_judge cX3_judge 5 (some .int) :: MW) (some .int) "judge") {k79 : Nat → Nat → Int32 → Int32 → AH → Option (Int32 × AH)} (hk79 : ∀ {v0 : Nat} {v1 : Nat} {v2 : Int32} {v3 : Int32} {h : AH} {H : Heap} {locs : List Loc} {cells slots : Nat} {ls : Array Slot}, Rp G h H → (∀ q ∈ locs, gB G ≤ q.base) → zl ls 5 [(0, zr v0), (1, zr v1), (2, .int v2), (3, .int v3)] → k79 v0 v1 v2 v3 h = some (r, h') → W p l e (gR G hs 5 129) s m args below meth c H locs cells slots (MQ below (Qcc G (some (.int r)) h') args s (gC G - aZ hs) (gS - aU hs) (fun q => gB G ≤ q)) (F0 m 79 ls [])) {v0 : Nat} {v1 : Nat} {v2 : Int32} {v3 : Int32} {h : AH} {H : Heap} {locs : List Loc} {cells slots : Nat} {ls : Array Slot} (hR : Rp G h H) (hL : ∀ q ∈ locs, gB G ≤ q.base) (hl : zl ls 5 [(0, zr v0), (1, zr v1), (2, .int v2), (3, .int v3)]) (hp : p_X3_judge_130 k79 v0 v1 v2 v3 h = some (r, h')) : W p l e (gR G hs 5 129) s m args below meth c H locs cells slots (MQ below (Qcc G (some (.int r)) h') args s (gC G - aZ hs) (gS - aU hs) (fun q => gB G ≤ q)) (F0 m 130 ls []) := by
  obtain ⟨hx, hb, hml, hown, hts, hT, hK, rs, hlk, hret, hnm⟩ := id C
  have hm : ∀ w ∈ MW, w.before args s = true := fun w hw => hts w (hT w hw)
  unfold p_X3_judge_130 at hp
  obtain ⟨x1, ex1⟩ : ∃ y : Int32, y = v3 + iI 1 := ⟨_, rfl⟩
  replace hp := nm_i hp ex1
  refine z_iinc (v := x1) (lv' := [(3, .int x1), (0, zr v0), (1, zr v1), (2, .int v2)]) hx hb dX3_judge_130 hl (k := 3) rfl ex1 (by decide) rfl (fun ls hl => ?_)
  refine lv_goto (tgt := 79) hx hb dX3_judge_133 (by decide) ?_
  exact hk79 hR hL (zl_sub hl [1, 2, 3, 0] rfl) hp
def p_X3_judge_79  : Nat → Nat → Nat → Int32 → Int32 → AH → Option (Int32 × AH)
  | 0, _, _, _, _, _ => none
  | n + 1, v0, v1, v2, v3, h =>
    ck (aK h v0 = 5) <|
    ck (aK h (aR h v0 1) = 1) <|
    bR (p_Jx4a65c_size_8abf5 (aR h v0 1) h) fun r3 h4 =>
    if r3 ≤ v3 then
      some (v2, h4)
    else
      ck (aK h4 v0 = 5) <|
      ck (aK h4 (aR h4 v0 1) = 1) <|
      bR (p_Jx4a65c_get_915e3 (aR h4 v0 1) v3 h4) fun r8 h9 =>
      ck (aK h9 r8 = 3) <|
      ck (aK h9 v0 = 5) <|
      bR (p_X3_spares v0 r8 v1 h9) fun r12 h13 =>
      ck (aK h13 r8 = 3) <|
      ck (okZ r12) <|
      nm (uI h13 r8 5 r12) fun h16 =>
      ck (aK h16 r8 = 3) <|
      if (aI h16 r8 5) = 0 then
        p_X3_judge_130 (p_X3_judge_79  n) v0 v1 v2 v3 h16
      else
        nm (v2 + iI 1) fun (x19 : Int32) =>
        p_X3_judge_130 (p_X3_judge_79  n) v0 v1 x19 v3 h16
set_option maxHeartbeats 4000000 in
set_option maxRecDepth 100000 in
theorem s_X3_judge_79 {p : Program} {l : Launch} {e : Env} {s : State} {m : MethodId} {args : Array Value} {below : List Frame} {meth : Method} {c : Code} {G : GG} {hs : AH} {r : Int32} {h' : AH} (C : Cx G hs p s m args meth c cX3_judge 5 RX3 (.code yX3_judge cX3_judge 5 (some .int) :: MW) (some .int) "judge")   : ∀ (n : Nat) (v0 : Nat) (v1 : Nat) (v2 : Int32) (v3 : Int32) (h : AH) (H : Heap) (locs : List Loc) (cells slots : Nat) (ls : Array Slot) (hR : Rp G h H) (hL : ∀ q ∈ locs, gB G ≤ q.base) (hl : zl ls 5 [(0, zr v0), (1, zr v1), (2, .int v2), (3, .int v3)]) (hp : p_X3_judge_79  n v0 v1 v2 v3 h = some (r, h')), W p l e (gR G hs 5 129) s m args below meth c H locs cells slots (MQ below (Qcc G (some (.int r)) h') args s (gC G - aZ hs) (gS - aU hs) (fun q => gB G ≤ q)) (F0 m 79 ls []) := by
  obtain ⟨hx, hb, hml, hown, hts, hT, hK, rs, hlk, hret, hnm⟩ := id C
  have hm : ∀ w ∈ MW, w.before args s = true := fun w hw => hts w (hT w hw)
  intro n
  induction n with
  | zero =>
    intro v0 v1 v2 v3 h H locs cells slots ls hR hL hl hp
    exact absurd (show none = some (r, h') from hp) (by simp)
  | succ n ih =>
    intro v0 v1 v2 v3 h H locs cells slots ls hR hL hl hp
    rw [p_X3_judge_79.eq_2] at hp
    refine lv_iload_n hx hb dX3_judge_79 rfl (zl_at hl 3 rfl) ?_
    refine z_aload_n hx hb dX3_judge_80 rfl (zl_at hl 0 rfl) ?_
    obtain ⟨k1, hp⟩ := ck_i hp
    refine r_get (ci := 4) (C := RX3) (T := TX3) (N := 4) (v := zr (aR h v0 1)) hx hb hm ii_X3 hown hK hR rfl k1 1 (by decide) (hm _ mw_806) (fun _ h9 => h9) rfl dX3_judge_81 ?_
    obtain ⟨k2, hp⟩ := ck_i hp
    obtain ⟨r3, h4, er3, hp⟩ := bR_i hp
    refine r_callF (ci := 0) (r := (RJx4a65c, TJx4a65c, 3)) (x := ⟨"java/util/List", "size", "()I"⟩) (n := 0) (As := []) (rest := [.int v3]) C (c_Jx4a65c_size_8abf5 l G (aR h v0 1) h r3 h4 er3) hR hL rfl k2 mw_847 mw_214 mw_216 mw_4 mw_218 (fw_size hK) (by decide +kernel) (by decide) rfl (zl_size hl) rfl (by simp [zr_cat, in_cat]) dX3_judge_84 (st2 := [.int r3, .int v3]) rfl (fun H locs cells slots hR hL => ?_)
    refine lv_icmp_ge (tgt := 136) hx hb dX3_judge_89 (by decide) (fun c5 => ?_) (fun c5 => ?_)
    · replace hp := ite_p hp c5
      refine lv_iload_n hx hb dX3_judge_136 rfl (zl_at hl 2 rfl) ?_
      cases hp
      exact r_zret C hR hL rfl dX3_judge_137
    · replace hp := ite_n hp c5
      refine z_aload_n hx hb dX3_judge_92 rfl (zl_at hl 0 rfl) ?_
      obtain ⟨k6, hp⟩ := ck_i hp
      refine r_get (ci := 4) (C := RX3) (T := TX3) (N := 4) (v := zr (aR h4 v0 1)) hx hb hm ii_X3 hown hK hR rfl k6 1 (by decide) (hm _ mw_806) (fun _ h9 => h9) rfl dX3_judge_93 ?_
      refine lv_iload_n hx hb dX3_judge_96 rfl (zl_at hl 3 rfl) ?_
      obtain ⟨k7, hp⟩ := ck_i hp
      obtain ⟨r8, h9, er8, hp⟩ := bR_i hp
      refine r_callF (ci := 0) (r := (RJx4a65c, TJx4a65c, 3)) (x := ⟨"java/util/List", "get", "(I)Ljava/lang/Object;"⟩) (n := 1) (As := [.int v3]) (rest := []) C (c_Jx4a65c_get_915e3 l G (aR h4 v0 1) v3 h4 r8 h9 er8) hR hL rfl k7 mw_849 mw_223 mw_225 mw_4 mw_227 (fw_get hK) (by decide +kernel) (by decide) rfl (zl_size hl) rfl (by simp [zr_cat, in_cat]) dX3_judge_97 (st2 := [zr r8]) rfl (fun H locs cells slots hR hL => ?_)
      obtain ⟨k10, hp⟩ := ck_i hp
      refine r_castC (ci := 2) (r := (RX1, TX1, 6)) hx hb hown (hm _ mw_850) hK hR rfl k10 dX3_judge_102 ?_
      refine z_astore (lv' := [(4, zr r8), (0, zr v0), (1, zr v1), (2, .int v2), (3, .int v3)]) hx hb dX3_judge_105 hl (by decide) rfl (fun ls hl => ?_)
      refine z_aload hx hb dX3_judge_107 (zl_at hl 0 rfl) ?_
      refine z_aload_n hx hb dX3_judge_109 rfl (zl_at hl 1 rfl) ?_
      refine z_aload hx hb dX3_judge_110 (zl_at hl 0 rfl) ?_
      refine z_aload_n hx hb dX3_judge_112 rfl (zl_at hl 2 rfl) ?_
      obtain ⟨k11, hp⟩ := ck_i hp
      obtain ⟨r12, h13, er12, hp⟩ := bR_i hp
      refine r_callV (ci := 4) (r := (RX3, TX3, 4)) (n := 2) (As := [zr r8, zr v1]) (rest := [zr r8]) C (c_X3_spares l G v0 r8 v1 h9 r12 h13 er12) hR hL rfl k11 mw_857 mw_859 mp_18 mw_24 mw_860 (by decide +kernel) (by decide) rfl (zl_size hl) rfl (by simp [zr_cat, in_cat]) dX3_judge_113 (st2 := [.int r12, zr r8]) rfl (fun H locs cells slots hR hL => ?_)
      obtain ⟨k14, hp⟩ := ck_i hp
      obtain ⟨k15, hp⟩ := ck_i hp
      refine r_putI (ci := 2) (C := RX1) (T := TX1) (N := 6) hx hb hm ii_X1 tyX1_ok nmX1 hown hK hR hL rfl k14 5 (by decide) (hm _ mw_784) (fun _ h9 => h9) (Or.inl rfl) (okZ_n k15) (okZ_f k15) (fun _ _ _ => rfl) dX3_judge_116 (fun H locs hR hL => ?_)
      obtain ⟨h16, hp, hR⟩ := nm_h hp hR
      refine z_aload hx hb dX3_judge_119 (zl_at hl 0 rfl) ?_
      obtain ⟨k17, hp⟩ := ck_i hp
      refine r_get (ci := 2) (C := RX1) (T := TX1) (N := 6) (v := .int (aI h16 r8 5)) hx hb hm ii_X1 hown hK hR rfl k17 5 (by decide) (hm _ mw_784) (fun _ h9 => h9) rfl dX3_judge_121 ?_
      refine lv_if_eq (tgt := 130) hx hb dX3_judge_124 (by decide) (fun c18 => ?_) (fun c18 => ?_)
      · replace hp := ite_p hp c18
        exact s_X3_judge_130 C (fun hR hL hl hp => ih _ _ _ _ _ _ _ _ _ _ hR hL hl hp) hR hL (zl_sub hl [1, 2, 3, 4] rfl) hp
      · replace hp := ite_n hp c18
        obtain ⟨x19, ex19⟩ : ∃ y : Int32, y = v2 + iI 1 := ⟨_, rfl⟩
        replace hp := nm_i hp ex19
        refine z_iinc (v := x19) (lv' := [(2, .int x19), (4, zr r8), (0, zr v0), (1, zr v1), (3, .int v3)]) hx hb dX3_judge_127 hl (k := 3) rfl ex19 (by decide) rfl (fun ls hl => ?_)
        exact s_X3_judge_130 C (fun hR hL hl hp => ih _ _ _ _ _ _ _ _ _ _ hR hL hl hp) hR hL (zl_sub hl [2, 3, 0, 4] rfl) hp
def p_X3_judge_6  : Nat → Nat → Nat → Int32 → AH → Option (Int32 × AH)
  | 0, _, _, _, _ => none
  | n + 1, v0, v1, v2, h =>
    ck (aK h v0 = 5) <|
    ck (aK h (aR h v0 1) = 1) <|
    bR (p_Jx4a65c_size_8abf5 (aR h v0 1) h) fun r3 h4 =>
    if r3 ≤ v2 then
      ck (aK h4 v0 = 5) <|
      ck (aK h4 (aR h4 v0 0) = 11) <|
      ck (aK h4 v1 = 7) <|
      bR (p_X5_find v1 (aR h4 (aR h4 v0 0) 1) h4) fun r9 h10 =>
      nm ((iI 0)) fun (x11 : Int32) =>
      nm ((iI 0)) fun (x12 : Int32) =>
      p_X3_judge_79  FU v0 v1 x11 x12 h10
    else
      ck (aK h4 v0 = 5) <|
      ck (aK h4 (aR h4 v0 1) = 1) <|
      bR (p_Jx4a65c_get_915e3 (aR h4 v0 1) v2 h4) fun r15 h16 =>
      ck (aK h16 r15 = 3) <|
      ck (aK h16 r15 = 3) <|
      bR (p_X1_goes r15 h16) fun r19 h20 =>
      if r19 = 0 then
        p_X3_judge_58 (p_X3_judge_6  n) v0 v1 v2 h20
      else
        ck (aK h20 v0 = 5) <|
        ck (aK h20 (aR h20 v0 1) = 1) <|
        bR (p_Jx4a65c_get_915e3 (aR h20 v0 1) v2 h20) fun r24 h25 =>
        ck (aK h25 r24 = 3) <|
        ck (aK h25 r24 = 3) <|
        ck (aK h25 v1 = 7) <|
        bR (p_X5_markGoing v1 (aI h25 r24 0) h25) fun r29 h30 =>
        p_X3_judge_58 (p_X3_judge_6  n) v0 v1 v2 h30
set_option maxHeartbeats 4000000 in
set_option maxRecDepth 100000 in
theorem s_X3_judge_6 {p : Program} {l : Launch} {e : Env} {s : State} {m : MethodId} {args : Array Value} {below : List Frame} {meth : Method} {c : Code} {G : GG} {hs : AH} {r : Int32} {h' : AH} (C : Cx G hs p s m args meth c cX3_judge 5 RX3 (.code yX3_judge cX3_judge 5 (some .int) :: MW) (some .int) "judge")   : ∀ (n : Nat) (v0 : Nat) (v1 : Nat) (v2 : Int32) (h : AH) (H : Heap) (locs : List Loc) (cells slots : Nat) (ls : Array Slot) (hR : Rp G h H) (hL : ∀ q ∈ locs, gB G ≤ q.base) (hl : zl ls 5 [(0, zr v0), (1, zr v1), (2, .int v2)]) (hp : p_X3_judge_6  n v0 v1 v2 h = some (r, h')), W p l e (gR G hs 5 129) s m args below meth c H locs cells slots (MQ below (Qcc G (some (.int r)) h') args s (gC G - aZ hs) (gS - aU hs) (fun q => gB G ≤ q)) (F0 m 6 ls []) := by
  obtain ⟨hx, hb, hml, hown, hts, hT, hK, rs, hlk, hret, hnm⟩ := id C
  have hm : ∀ w ∈ MW, w.before args s = true := fun w hw => hts w (hT w hw)
  intro n
  induction n with
  | zero =>
    intro v0 v1 v2 h H locs cells slots ls hR hL hl hp
    exact absurd (show none = some (r, h') from hp) (by simp)
  | succ n ih =>
    intro v0 v1 v2 h H locs cells slots ls hR hL hl hp
    rw [p_X3_judge_6.eq_2] at hp
    refine lv_iload_n hx hb dX3_judge_6 rfl (zl_at hl 2 rfl) ?_
    refine z_aload_n hx hb dX3_judge_7 rfl (zl_at hl 0 rfl) ?_
    obtain ⟨k1, hp⟩ := ck_i hp
    refine r_get (ci := 4) (C := RX3) (T := TX3) (N := 4) (v := zr (aR h v0 1)) hx hb hm ii_X3 hown hK hR rfl k1 1 (by decide) (hm _ mw_806) (fun _ h9 => h9) rfl dX3_judge_8 ?_
    obtain ⟨k2, hp⟩ := ck_i hp
    obtain ⟨r3, h4, er3, hp⟩ := bR_i hp
    refine r_callF (ci := 0) (r := (RJx4a65c, TJx4a65c, 3)) (x := ⟨"java/util/List", "size", "()I"⟩) (n := 0) (As := []) (rest := [.int v2]) C (c_Jx4a65c_size_8abf5 l G (aR h v0 1) h r3 h4 er3) hR hL rfl k2 mw_847 mw_214 mw_216 mw_4 mw_218 (fw_size hK) (by decide +kernel) (by decide) rfl (zl_size hl) rfl (by simp [zr_cat, in_cat]) dX3_judge_11 (st2 := [.int r3, .int v2]) rfl (fun H locs cells slots hR hL => ?_)
    refine lv_icmp_ge (tgt := 64) hx hb dX3_judge_16 (by decide) (fun c5 => ?_) (fun c5 => ?_)
    · replace hp := ite_p hp c5
      refine z_aload_n hx hb dX3_judge_64 rfl (zl_at hl 1 rfl) ?_
      refine z_aload_n hx hb dX3_judge_65 rfl (zl_at hl 0 rfl) ?_
      obtain ⟨k6, hp⟩ := ck_i hp
      refine r_get (ci := 4) (C := RX3) (T := TX3) (N := 4) (v := zr (aR h4 v0 0)) hx hb hm ii_X3 hown hK hR rfl k6 0 (by decide) (hm _ mw_804) (fun _ h9 => h9) rfl dX3_judge_66 ?_
      obtain ⟨k7, hp⟩ := ck_i hp
      refine r_get (ci := 10) (C := RX9) (T := TX9) (N := 10) (v := zr (aR h4 (aR h4 v0 0) 1)) hx hb hm ii_X9 hown hK hR rfl k7 1 (by decide) (hm _ mw_133) (fun _ h9 => h9) rfl dX3_judge_69 ?_
      obtain ⟨k8, hp⟩ := ck_i hp
      obtain ⟨r9, h10, er9, hp⟩ := bR_i hp
      refine r_callV (ci := 6) (r := (RX5, TX5, 3)) (n := 1) (As := [zr (aR h4 (aR h4 v0 0) 1)]) (rest := []) C (c_X5_find l G v1 (aR h4 (aR h4 v0 0) 1) h4 r9 h10 er9) hR hL rfl k8 mw_856 mw_748 mw_749 mw_6 mw_750 (by decide +kernel) (by decide) rfl (zl_size hl) rfl (by simp [zr_cat, in_cat]) dX3_judge_72 (st2 := []) rfl (fun H locs cells slots hR hL => ?_)
      refine lv_iconst (v := iI 0) hx hb dX3_judge_75 rfl ?_
      refine lv_topi (fun x11 ex11 => ?_)
      replace hp := nm_i hp ex11
      refine z_istore_n (lv' := [(2, .int x11), (0, zr v0), (1, zr v1)]) hx hb dX3_judge_76 rfl hl (by decide) rfl (fun ls hl => ?_)
      refine lv_iconst (v := iI 0) hx hb dX3_judge_77 rfl ?_
      refine lv_topi (fun x12 ex12 => ?_)
      replace hp := nm_i hp ex12
      refine z_istore_n (lv' := [(3, .int x12), (2, .int x11), (0, zr v0), (1, zr v1)]) hx hb dX3_judge_78 rfl hl (by decide) rfl (fun ls hl => ?_)
      exact s_X3_judge_79 C  _ _ _ _ _ _ _ _ _ _ _ hR hL (zl_sub hl [2, 3, 1, 0] rfl) hp
    · replace hp := ite_n hp c5
      refine z_aload_n hx hb dX3_judge_19 rfl (zl_at hl 0 rfl) ?_
      obtain ⟨k13, hp⟩ := ck_i hp
      refine r_get (ci := 4) (C := RX3) (T := TX3) (N := 4) (v := zr (aR h4 v0 1)) hx hb hm ii_X3 hown hK hR rfl k13 1 (by decide) (hm _ mw_806) (fun _ h9 => h9) rfl dX3_judge_20 ?_
      refine lv_iload_n hx hb dX3_judge_23 rfl (zl_at hl 2 rfl) ?_
      obtain ⟨k14, hp⟩ := ck_i hp
      obtain ⟨r15, h16, er15, hp⟩ := bR_i hp
      refine r_callF (ci := 0) (r := (RJx4a65c, TJx4a65c, 3)) (x := ⟨"java/util/List", "get", "(I)Ljava/lang/Object;"⟩) (n := 1) (As := [.int v2]) (rest := []) C (c_Jx4a65c_get_915e3 l G (aR h4 v0 1) v2 h4 r15 h16 er15) hR hL rfl k14 mw_849 mw_223 mw_225 mw_4 mw_227 (fw_get hK) (by decide +kernel) (by decide) rfl (zl_size hl) rfl (by simp [zr_cat, in_cat]) dX3_judge_24 (st2 := [zr r15]) rfl (fun H locs cells slots hR hL => ?_)
      obtain ⟨k17, hp⟩ := ck_i hp
      refine r_castC (ci := 2) (r := (RX1, TX1, 6)) hx hb hown (hm _ mw_850) hK hR rfl k17 dX3_judge_29 ?_
      obtain ⟨k18, hp⟩ := ck_i hp
      obtain ⟨r19, h20, er19, hp⟩ := bR_i hp
      refine r_callV (ci := 2) (r := (RX1, TX1, 6)) (n := 0) (As := []) (rest := []) C (c_X1_goes l G r15 h16 r19 h20 er19) hR hL rfl k18 mw_851 mw_852 mw_853 mw_25 mw_854 (by decide +kernel) (by decide) rfl (zl_size hl) rfl (by simp [zr_cat, in_cat]) dX3_judge_32 (st2 := [.int r19]) rfl (fun H locs cells slots hR hL => ?_)
      refine lv_if_eq (tgt := 58) hx hb dX3_judge_35 (by decide) (fun c21 => ?_) (fun c21 => ?_)
      · replace hp := ite_p hp c21
        exact s_X3_judge_58 C (fun hR hL hl hp => ih _ _ _ _ _ _ _ _ _ hR hL hl hp) hR hL (zl_sub hl [0, 1, 2] rfl) hp
      · replace hp := ite_n hp c21
        refine z_aload_n hx hb dX3_judge_38 rfl (zl_at hl 1 rfl) ?_
        refine z_aload_n hx hb dX3_judge_39 rfl (zl_at hl 0 rfl) ?_
        obtain ⟨k22, hp⟩ := ck_i hp
        refine r_get (ci := 4) (C := RX3) (T := TX3) (N := 4) (v := zr (aR h20 v0 1)) hx hb hm ii_X3 hown hK hR rfl k22 1 (by decide) (hm _ mw_806) (fun _ h9 => h9) rfl dX3_judge_40 ?_
        refine lv_iload_n hx hb dX3_judge_43 rfl (zl_at hl 2 rfl) ?_
        obtain ⟨k23, hp⟩ := ck_i hp
        obtain ⟨r24, h25, er24, hp⟩ := bR_i hp
        refine r_callF (ci := 0) (r := (RJx4a65c, TJx4a65c, 3)) (x := ⟨"java/util/List", "get", "(I)Ljava/lang/Object;"⟩) (n := 1) (As := [.int v2]) (rest := [zr v1]) C (c_Jx4a65c_get_915e3 l G (aR h20 v0 1) v2 h20 r24 h25 er24) hR hL rfl k23 mw_849 mw_223 mw_225 mw_4 mw_227 (fw_get hK) (by decide +kernel) (by decide) rfl (zl_size hl) rfl (by simp [zr_cat, in_cat]) dX3_judge_44 (st2 := [zr r24, zr v1]) rfl (fun H locs cells slots hR hL => ?_)
        obtain ⟨k26, hp⟩ := ck_i hp
        refine r_castC (ci := 2) (r := (RX1, TX1, 6)) hx hb hown (hm _ mw_850) hK hR rfl k26 dX3_judge_49 ?_
        obtain ⟨k27, hp⟩ := ck_i hp
        refine r_get (ci := 2) (C := RX1) (T := TX1) (N := 6) (v := .int (aI h25 r24 0)) hx hb hm ii_X1 hown hK hR rfl k27 0 (by decide) (hm _ mw_775) (fun _ h9 => h9) rfl dX3_judge_52 ?_
        obtain ⟨k28, hp⟩ := ck_i hp
        obtain ⟨r29, h30, er29, hp⟩ := bR_i hp
        refine r_callV (ci := 6) (r := (RX5, TX5, 3)) (n := 1) (As := [.int (aI h25 r24 0)]) (rest := []) C (c_X5_markGoing l G v1 (aI h25 r24 0) h25 r29 h30 er29) hR hL rfl k28 mw_855 mw_741 mw_742 mw_6 mw_743 (by decide +kernel) (by decide) rfl (zl_size hl) rfl (by simp [zr_cat, in_cat]) dX3_judge_55 (st2 := []) rfl (fun H locs cells slots hR hL => ?_)
        exact s_X3_judge_58 C (fun hR hL hl hp => ih _ _ _ _ _ _ _ _ _ hR hL hl hp) hR hL (zl_sub hl [0, 1, 2] rfl) hp
def p_X3_judge_0  (v0 : Nat) (v1 : Nat) (h : AH) : Option (Int32 × AH) :=
  ck (aK h v1 = 7) <|
  bR (p_X5_forgetGoing v1 h) fun r2 h3 =>
  nm ((iI 0)) fun (x4 : Int32) =>
  p_X3_judge_6  FU v0 v1 x4 h3
set_option maxHeartbeats 4000000 in
set_option maxRecDepth 100000 in
theorem s_X3_judge_0 {p : Program} {l : Launch} {e : Env} {s : State} {m : MethodId} {args : Array Value} {below : List Frame} {meth : Method} {c : Code} {G : GG} {hs : AH} {r : Int32} {h' : AH} (C : Cx G hs p s m args meth c cX3_judge 5 RX3 (.code yX3_judge cX3_judge 5 (some .int) :: MW) (some .int) "judge")   {v0 : Nat} {v1 : Nat} {h : AH} {H : Heap} {locs : List Loc} {cells slots : Nat} {ls : Array Slot} (hR : Rp G h H) (hL : ∀ q ∈ locs, gB G ≤ q.base) (hl : zl ls 5 [(0, zr v0), (1, zr v1)]) (hp : p_X3_judge_0  v0 v1 h = some (r, h')) : W p l e (gR G hs 5 129) s m args below meth c H locs cells slots (MQ below (Qcc G (some (.int r)) h') args s (gC G - aZ hs) (gS - aU hs) (fun q => gB G ≤ q)) (F0 m 0 ls []) := by
  obtain ⟨hx, hb, hml, hown, hts, hT, hK, rs, hlk, hret, hnm⟩ := id C
  have hm : ∀ w ∈ MW, w.before args s = true := fun w hw => hts w (hT w hw)
  unfold p_X3_judge_0 at hp
  refine z_aload_n hx hb dX3_judge_0 rfl (zl_at hl 1 rfl) ?_
  obtain ⟨k1, hp⟩ := ck_i hp
  obtain ⟨r2, h3, er2, hp⟩ := bR_i hp
  refine r_callV (ci := 6) (r := (RX5, TX5, 3)) (n := 0) (As := []) (rest := []) C (c_X5_forgetGoing l G v1 h r2 h3 er2) hR hL rfl k1 mw_845 mw_737 mw_738 mw_6 mw_739 (by decide +kernel) (by decide) rfl (zl_size hl) rfl (by simp [zr_cat, in_cat]) dX3_judge_1 (st2 := []) rfl (fun H locs cells slots hR hL => ?_)
  refine lv_iconst (v := iI 0) hx hb dX3_judge_4 rfl ?_
  refine lv_topi (fun x4 ex4 => ?_)
  replace hp := nm_i hp ex4
  refine z_istore_n (lv' := [(2, .int x4), (0, zr v0), (1, zr v1)]) hx hb dX3_judge_5 rfl hl (by decide) rfl (fun ls hl => ?_)
  exact s_X3_judge_6 C  _ _ _ _ _ _ _ _ _ _ hR hL (zl_sub hl [1, 2, 0] rfl) hp
def p_X3_judge (v0 : Nat) (v1 : Nat) (h : AH) : Option (Int32 × AH) := ck (v0 ≠ 0) <| ck (v1 ≠ 0) <| p_X3_judge_0 v0 v1 h
theorem c_X3_judge (l : Launch) (G : GG) (v0 : Nat) (v1 : Nat) (h : AH) (r : Int32) (h' : AH) (hp : p_X3_judge v0 v1 h = some (r, h')) : Ct l yX3_judge (.code yX3_judge cX3_judge 5 (some .int) :: MW) G 5 129 [.ref (v0 - 1), zr v1] h (some (.int r)) h' := by
  obtain ⟨hz0, hp⟩ := ck_i hp
  obtain ⟨hz1, hp⟩ := ck_i hp
  rw [show zr v1 = .ref (v1 - 1) from zr_p hz1]
  refine Ct.of (by decide +kernel) (Nat.le_of_ble_eq_true rfl) ?_
  intro p e s m args below meth c C hR ls hl
  have hl : zl ls 5 [(0, zr v0), (1, zr v1)] := ⟨by rw [zr_p hz0, zr_p hz1]; exact hl, by simp [zr_cat, in_cat]⟩
  exact s_X3_judge_0 C hR (fun _ hq => nomatch hq) hl hp
/-! CursorKeep$Text.perform(LCursorKeep$Deed;)V -/
def p_X9_perform_34   (h : AH) : Option (Unit × AH) :=
  some ((), h)
set_option maxHeartbeats 4000000 in
set_option maxRecDepth 100000 in
theorem s_X9_perform_34 {p : Program} {l : Launch} {e : Env} {s : State} {m : MethodId} {args : Array Value} {below : List Frame} {meth : Method} {c : Code} {G : GG} {hs : AH} {r : Unit} {h' : AH} (C : Cx G hs p s m args meth c cX9_perform 2 RX9 (.code yX9_perform cX9_perform 2 none :: MW) none "perform")    {h : AH} {H : Heap} {locs : List Loc} {cells slots : Nat} {ls : Array Slot} (hR : Rp G h H) (hL : ∀ q ∈ locs, gB G ≤ q.base) (hl : zl ls 2 []) (hp : p_X9_perform_34   h = some (r, h')) : W p l e (gR G hs 7 172) s m args below meth c H locs cells slots (MQ below (Qcc G (none) h') args s (gC G - aZ hs) (gS - aU hs) (fun q => gB G ≤ q)) (F0 m 34 ls []) := by
  obtain ⟨hx, hb, hml, hown, hts, hT, hK, rs, hlk, hret, hnm⟩ := id C
  have hm : ∀ w ∈ MW, w.before args s = true := fun w hw => hts w (hT w hw)
  unfold p_X9_perform_34 at hp
  cases hp
  exact r_vret C hR hL dX9_perform_34
def p_X9_perform_0  (v0 : Nat) (v1 : Nat) (h : AH) : Option (Unit × AH) :=
  ck (aK h v0 = 11) <|
  ck (aK h v1 = 4) <|
  bR (p_X2_doTo v1 (aR h v0 1) h) fun r3 h4 =>
  ck (aK h4 v0 = 11) <|
  ck (aK h4 (aR h4 v0 8) = 1) <|
  bR (p_Jx4a65c_size_8abf5 (aR h4 v0 8) h4) fun r7 h8 =>
  if (iI 1174) ≤ r7 then
    p_X9_perform_34   h8
  else
    ck (aK h8 v0 = 11) <|
    ck (aK h8 (aR h8 v0 8) = 1) <|
    bR (p_Jx4a65c_add_9ea2d (aR h8 v0 8) v1 h8) fun r12 h13 =>
    p_X9_perform_34   h13
set_option maxHeartbeats 4000000 in
set_option maxRecDepth 100000 in
theorem s_X9_perform_0 {p : Program} {l : Launch} {e : Env} {s : State} {m : MethodId} {args : Array Value} {below : List Frame} {meth : Method} {c : Code} {G : GG} {hs : AH} {r : Unit} {h' : AH} (C : Cx G hs p s m args meth c cX9_perform 2 RX9 (.code yX9_perform cX9_perform 2 none :: MW) none "perform")   {v0 : Nat} {v1 : Nat} {h : AH} {H : Heap} {locs : List Loc} {cells slots : Nat} {ls : Array Slot} (hR : Rp G h H) (hL : ∀ q ∈ locs, gB G ≤ q.base) (hl : zl ls 2 [(0, zr v0), (1, zr v1)]) (hp : p_X9_perform_0  v0 v1 h = some (r, h')) : W p l e (gR G hs 7 172) s m args below meth c H locs cells slots (MQ below (Qcc G (none) h') args s (gC G - aZ hs) (gS - aU hs) (fun q => gB G ≤ q)) (F0 m 0 ls []) := by
  obtain ⟨hx, hb, hml, hown, hts, hT, hK, rs, hlk, hret, hnm⟩ := id C
  have hm : ∀ w ∈ MW, w.before args s = true := fun w hw => hts w (hT w hw)
  unfold p_X9_perform_0 at hp
  refine z_aload_n hx hb dX9_perform_0 rfl (zl_at hl 1 rfl) ?_
  refine z_aload_n hx hb dX9_perform_1 rfl (zl_at hl 0 rfl) ?_
  obtain ⟨k1, hp⟩ := ck_i hp
  refine r_get (ci := 10) (C := RX9) (T := TX9) (N := 10) (v := zr (aR h v0 1)) hx hb hm ii_X9 hown hK hR rfl k1 1 (by decide) (hm _ mw_131) (fun _ h9 => h9) rfl dX9_perform_2 ?_
  obtain ⟨k2, hp⟩ := ck_i hp
  obtain ⟨r3, h4, er3, hp⟩ := bR_i hp
  refine r_callV (ci := 3) (r := (RX2, TX2, 3)) (n := 1) (As := [zr (aR h v0 1)]) (rest := []) C (c_X2_doTo l G v1 (aR h v0 1) h r3 h4 er3) hR hL rfl k2 mw_460 mw_461 mw_462 mw_17 mw_463 (by decide +kernel) (by decide) rfl (zl_size hl) rfl (by simp [zr_cat, in_cat]) dX9_perform_5 (st2 := []) rfl (fun H locs cells slots hR hL => ?_)
  refine z_aload_n hx hb dX9_perform_8 rfl (zl_at hl 0 rfl) ?_
  obtain ⟨k5, hp⟩ := ck_i hp
  refine r_get (ci := 10) (C := RX9) (T := TX9) (N := 10) (v := zr (aR h4 v0 8)) hx hb hm ii_X9 hown hK hR rfl k5 8 (by decide) (hm _ mw_146) (fun _ h9 => h9) rfl dX9_perform_9 ?_
  obtain ⟨k6, hp⟩ := ck_i hp
  obtain ⟨r7, h8, er7, hp⟩ := bR_i hp
  refine r_callF (ci := 0) (r := (RJx4a65c, TJx4a65c, 3)) (x := ⟨"java/util/List", "size", "()I"⟩) (n := 0) (As := []) (rest := []) C (c_Jx4a65c_size_8abf5 l G (aR h4 v0 8) h4 r7 h8 er7) hR hL rfl k6 mw_479 mw_214 mw_216 mw_4 mw_218 (fw_size hK) (by decide +kernel) (by decide) rfl (zl_size hl) rfl (by simp [zr_cat, in_cat]) dX9_perform_12 (st2 := [.int r7]) rfl (fun H locs cells slots hR hL => ?_)
  refine lv_sipush (v := iI 1174) hx hb dX9_perform_17 (by decide +kernel) ?_
  refine lv_icmp_ge (tgt := 34) hx hb dX9_perform_20 (by decide) (fun c9 => ?_) (fun c9 => ?_)
  · replace hp := ite_p hp c9
    exact s_X9_perform_34 C  hR hL (zl_sub hl [] rfl) hp
  · replace hp := ite_n hp c9
    refine z_aload_n hx hb dX9_perform_23 rfl (zl_at hl 0 rfl) ?_
    obtain ⟨k10, hp⟩ := ck_i hp
    refine r_get (ci := 10) (C := RX9) (T := TX9) (N := 10) (v := zr (aR h8 v0 8)) hx hb hm ii_X9 hown hK hR rfl k10 8 (by decide) (hm _ mw_146) (fun _ h9 => h9) rfl dX9_perform_24 ?_
    refine z_aload_n hx hb dX9_perform_27 rfl (zl_at hl 1 rfl) ?_
    obtain ⟨k11, hp⟩ := ck_i hp
    obtain ⟨r12, h13, er12, hp⟩ := bR_i hp
    refine r_callF (ci := 0) (r := (RJx4a65c, TJx4a65c, 3)) (x := ⟨"java/util/List", "add", "(Ljava/lang/Object;)Z"⟩) (n := 1) (As := [zr v1]) (rest := []) C (c_Jx4a65c_add_9ea2d l G (aR h8 v0 8) v1 h8 r12 h13 er12) hR hL rfl k11 mw_481 mw_484 mw_486 mw_4 mw_488 (fw_add hK) (by decide +kernel) (by decide) rfl (zl_size hl) rfl (by simp [zr_cat, in_cat]) dX9_perform_28 (st2 := [.int r12]) rfl (fun H locs cells slots hR hL => ?_)
    refine lv_pop hx hb dX9_perform_33 rfl ?_
    exact s_X9_perform_34 C  hR hL (zl_sub hl [] rfl) hp
def p_X9_perform (v0 : Nat) (v1 : Nat) (h : AH) : Option (Unit × AH) := ck (v0 ≠ 0) <| ck (v1 ≠ 0) <| p_X9_perform_0 v0 v1 h
theorem c_X9_perform (l : Launch) (G : GG) (v0 : Nat) (v1 : Nat) (h : AH) (r : Unit) (h' : AH) (hp : p_X9_perform v0 v1 h = some (r, h')) : Ct l yX9_perform (.code yX9_perform cX9_perform 2 none :: MW) G 7 172 [.ref (v0 - 1), zr v1] h (none) h' := by
  obtain ⟨hz0, hp⟩ := ck_i hp
  obtain ⟨hz1, hp⟩ := ck_i hp
  rw [show zr v1 = .ref (v1 - 1) from zr_p hz1]
  refine Ct.of (by decide +kernel) (Nat.le_of_ble_eq_true rfl) ?_
  intro p e s m args below meth c C hR ls hl
  have hl : zl ls 2 [(0, zr v0), (1, zr v1)] := ⟨by rw [zr_p hz0, zr_p hz1]; exact hl, by simp [zr_cat, in_cat]⟩
  exact s_X9_perform_0 C hR (fun _ hq => nomatch hq) hl hp
/-! CursorKeep$Text.letGo(I)V -/
def p_X9_letGo_54 (k32 : Nat → Int32 → Int32 → Int32 → AH → Option (Unit × AH)) (v0 : Nat) (v1 : Int32) (v2 : Int32) (v3 : Int32) (h : AH) : Option (Unit × AH) :=
  nm (v3 + iI 1) fun (x1 : Int32) =>
  k32 v0 v1 v2 x1 h
set_option maxHeartbeats 4000000 in
set_option maxRecDepth 100000 in
theorem s_X9_letGo_54 {p : Program} {l : Launch} {e : Env} {s : State} {m : MethodId} {args : Array Value} {below : List Frame} {meth : Method} {c : Code} {G : GG} {hs : AH} {r : Unit} {h' : AH} (C : Cx G hs p s m args meth c cX9_letGo 4 RX9 (.code yX9_letGo cX9_letGo 4 none :: MW) none "letGo") {k32 : Nat → Int32 → Int32 → Int32 → AH → Option (Unit × AH)} (hk32 : ∀ {v0 : Nat} {v1 : Int32} {v2 : Int32} {v3 : Int32} {h : AH} {H : Heap} {locs : List Loc} {cells slots : Nat} {ls : Array Slot}, Rp G h H → (∀ q ∈ locs, gB G ≤ q.base) → zl ls 4 [(0, zr v0), (1, .int v1), (2, .int v2), (3, .int v3)] → k32 v0 v1 v2 v3 h = some (r, h') → W p l e (gR G hs 8 193) s m args below meth c H locs cells slots (MQ below (Qcc G (none) h') args s (gC G - aZ hs) (gS - aU hs) (fun q => gB G ≤ q)) (F0 m 32 ls [])) {v0 : Nat} {v1 : Int32} {v2 : Int32} {v3 : Int32} {h : AH} {H : Heap} {locs : List Loc} {cells slots : Nat} {ls : Array Slot} (hR : Rp G h H) (hL : ∀ q ∈ locs, gB G ≤ q.base) (hl : zl ls 4 [(0, zr v0), (1, .int v1), (2, .int v2), (3, .int v3)]) (hp : p_X9_letGo_54 k32 v0 v1 v2 v3 h = some (r, h')) : W p l e (gR G hs 8 193) s m args below meth c H locs cells slots (MQ below (Qcc G (none) h') args s (gC G - aZ hs) (gS - aU hs) (fun q => gB G ≤ q)) (F0 m 54 ls []) := by
  obtain ⟨hx, hb, hml, hown, hts, hT, hK, rs, hlk, hret, hnm⟩ := id C
  have hm : ∀ w ∈ MW, w.before args s = true := fun w hw => hts w (hT w hw)
  unfold p_X9_letGo_54 at hp
  obtain ⟨x1, ex1⟩ : ∃ y : Int32, y = v3 + iI 1 := ⟨_, rfl⟩
  replace hp := nm_i hp ex1
  refine z_iinc (v := x1) (lv' := [(3, .int x1), (0, zr v0), (1, .int v1), (2, .int v2)]) hx hb dX9_letGo_54 hl (k := 3) rfl ex1 (by decide) rfl (fun ls hl => ?_)
  refine lv_goto (tgt := 32) hx hb dX9_letGo_57 (by decide) ?_
  exact hk32 hR hL (zl_sub hl [1, 2, 3, 0] rfl) hp
def p_X9_letGo_32  : Nat → Nat → Int32 → Int32 → Int32 → AH → Option (Unit × AH)
  | 0, _, _, _, _, _ => none
  | n + 1, v0, v1, v2, v3, h =>
    if (iI 5) ≤ v3 then
      some ((), h)
    else
      ck (aK h v0 = 11) <|
      ck (aK h (aR h v0 9) = 20 ∧ ix v3 (aN h (aR h v0 9))) <|
      if (aI h (aR h v0 9) v3.toNatClampNeg) = v1 then
        ck (aK h v0 = 11) <|
        ck (aK h (aR h v0 9) = 20 ∧ ix v3 (aN h (aR h v0 9))) <|
        nm (uI h (aR h v0 9) v3.toNatClampNeg v2) fun h9 =>
        p_X9_letGo_54 (p_X9_letGo_32  n) v0 v1 v2 v3 h9
      else
        p_X9_letGo_54 (p_X9_letGo_32  n) v0 v1 v2 v3 h
set_option maxHeartbeats 4000000 in
set_option maxRecDepth 100000 in
theorem s_X9_letGo_32 {p : Program} {l : Launch} {e : Env} {s : State} {m : MethodId} {args : Array Value} {below : List Frame} {meth : Method} {c : Code} {G : GG} {hs : AH} {r : Unit} {h' : AH} (C : Cx G hs p s m args meth c cX9_letGo 4 RX9 (.code yX9_letGo cX9_letGo 4 none :: MW) none "letGo")   : ∀ (n : Nat) (v0 : Nat) (v1 : Int32) (v2 : Int32) (v3 : Int32) (h : AH) (H : Heap) (locs : List Loc) (cells slots : Nat) (ls : Array Slot) (hR : Rp G h H) (hL : ∀ q ∈ locs, gB G ≤ q.base) (hl : zl ls 4 [(0, zr v0), (1, .int v1), (2, .int v2), (3, .int v3)]) (hp : p_X9_letGo_32  n v0 v1 v2 v3 h = some (r, h')), W p l e (gR G hs 8 193) s m args below meth c H locs cells slots (MQ below (Qcc G (none) h') args s (gC G - aZ hs) (gS - aU hs) (fun q => gB G ≤ q)) (F0 m 32 ls []) := by
  obtain ⟨hx, hb, hml, hown, hts, hT, hK, rs, hlk, hret, hnm⟩ := id C
  have hm : ∀ w ∈ MW, w.before args s = true := fun w hw => hts w (hT w hw)
  intro n
  induction n with
  | zero =>
    intro v0 v1 v2 v3 h H locs cells slots ls hR hL hl hp
    exact absurd (show none = some (r, h') from hp) (by simp)
  | succ n ih =>
    intro v0 v1 v2 v3 h H locs cells slots ls hR hL hl hp
    rw [p_X9_letGo_32.eq_2] at hp
    refine lv_iload_n hx hb dX9_letGo_32 rfl (zl_at hl 3 rfl) ?_
    refine lv_iconst (v := iI 5) hx hb dX9_letGo_33 rfl ?_
    refine lv_icmp_ge (tgt := 60) hx hb dX9_letGo_34 (by decide) (fun c1 => ?_) (fun c1 => ?_)
    · replace hp := ite_p hp c1
      cases hp
      exact r_vret C hR hL dX9_letGo_60
    · replace hp := ite_n hp c1
      refine z_aload_n hx hb dX9_letGo_37 rfl (zl_at hl 0 rfl) ?_
      obtain ⟨k2, hp⟩ := ck_i hp
      refine r_get (ci := 10) (C := RX9) (T := TX9) (N := 10) (v := zr (aR h v0 9)) hx hb hm ii_X9 hown hK hR rfl k2 9 (by decide) (hm _ mw_147) (fun _ h9 => h9) rfl dX9_letGo_38 ?_
      refine lv_iload_n hx hb dX9_letGo_41 rfl (zl_at hl 3 rfl) ?_
      obtain ⟨k3, hp⟩ := ck_i hp
      refine r_iald hx hb hK hR k3.1 k3.2 dX9_letGo_42 ?_
      refine lv_iload_n hx hb dX9_letGo_43 rfl (zl_at hl 1 rfl) ?_
      refine lv_icmp_ne (tgt := 54) hx hb dX9_letGo_44 (by decide) (fun c5 => ?_) (fun c5 => ?_)
      · replace hp := ite_n hp c5
        exact s_X9_letGo_54 C (fun hR hL hl hp => ih _ _ _ _ _ _ _ _ _ _ hR hL hl hp) hR hL (zl_sub hl [0, 1, 2, 3] rfl) hp
      · replace hp := ite_p hp c5
        refine z_aload_n hx hb dX9_letGo_47 rfl (zl_at hl 0 rfl) ?_
        obtain ⟨k6, hp⟩ := ck_i hp
        refine r_get (ci := 10) (C := RX9) (T := TX9) (N := 10) (v := zr (aR h v0 9)) hx hb hm ii_X9 hown hK hR rfl k6 9 (by decide) (hm _ mw_147) (fun _ h9 => h9) rfl dX9_letGo_48 ?_
        refine lv_iload_n hx hb dX9_letGo_51 rfl (zl_at hl 3 rfl) ?_
        refine lv_iload_n hx hb dX9_letGo_52 rfl (zl_at hl 2 rfl) ?_
        obtain ⟨k7, hp⟩ := ck_i hp
        refine r_iast hx hb hK hR hL k7.1 k7.2 dX9_letGo_53 (fun H locs hR hL => ?_)
        obtain ⟨h9, hp, hR⟩ := nm_h hp hR
        exact s_X9_letGo_54 C (fun hR hL hl hp => ih _ _ _ _ _ _ _ _ _ _ hR hL hl hp) hR hL (zl_sub hl [0, 1, 2, 3] rfl) hp
def p_X9_letGo_0  (v0 : Nat) (v1 : Int32) (h : AH) : Option (Unit × AH) :=
  ck (aZ h + 1 ≤ aC h ∧ aU h + 3 ≤ gS) <|
  nm (uN h 4 3) fun h2 =>
  ck (aK h2 (aZ h) ≠ 0) <|
  bR (p_X2_init (aZ h) (iI 1) v1 (iI 0) h2) fun r4 h5 =>
  ck (aK h5 v0 = 11) <|
  bR (p_X9_perform v0 (aZ h) h5) fun r7 h8 =>
  ck (aK h8 v0 = 11) <|
  ck (aK h8 v0 = 11) <|
  ck (aK h8 (aR h8 v0 1) = 9) <|
  bR (p_X7_spotOf (aR h8 v0 1) v1 h8) fun r12 h13 =>
  ck (aK h13 (aR h8 v0 1) = 9) <|
  bR (p_X7_nearestShownFrom (aR h8 v0 1) r12 h13) fun r15 h16 =>
  nm ((iI 0)) fun (x17 : Int32) =>
  p_X9_letGo_32  FU v0 v1 r15 x17 h16
set_option maxHeartbeats 4000000 in
set_option maxRecDepth 100000 in
theorem s_X9_letGo_0 {p : Program} {l : Launch} {e : Env} {s : State} {m : MethodId} {args : Array Value} {below : List Frame} {meth : Method} {c : Code} {G : GG} {hs : AH} {r : Unit} {h' : AH} (C : Cx G hs p s m args meth c cX9_letGo 4 RX9 (.code yX9_letGo cX9_letGo 4 none :: MW) none "letGo")   {v0 : Nat} {v1 : Int32} {h : AH} {H : Heap} {locs : List Loc} {cells slots : Nat} {ls : Array Slot} (hR : Rp G h H) (hL : ∀ q ∈ locs, gB G ≤ q.base) (hl : zl ls 4 [(0, zr v0), (1, .int v1)]) (hp : p_X9_letGo_0  v0 v1 h = some (r, h')) : W p l e (gR G hs 8 193) s m args below meth c H locs cells slots (MQ below (Qcc G (none) h') args s (gC G - aZ hs) (gS - aU hs) (fun q => gB G ≤ q)) (F0 m 0 ls []) := by
  obtain ⟨hx, hb, hml, hown, hts, hT, hK, rs, hlk, hret, hnm⟩ := id C
  have hm : ∀ w ∈ MW, w.before args s = true := fun w hw => hts w (hT w hw)
  unfold p_X9_letGo_0 at hp
  refine z_aload_n hx hb dX9_letGo_0 rfl (zl_at hl 0 rfl) ?_
  obtain ⟨k1, hp⟩ := ck_i hp
  refine r_new (ci := 3) (C := RX2) (T := TX2) (N := 3) (ty0 := tyX2) C hR hL rfl ii_X2 tyX2_ok (fun _ => rfl) (by decide +kernel) mw_432 mw_433 mw_17 k1 dX9_letGo_1 (fun H cells slots hR => ?_)
  obtain ⟨h2, hp, hR⟩ := nm_h hp hR
  refine lv_dup hx hb dX9_letGo_4 (zr_cat _) ?_
  refine lv_iconst (v := iI 1) hx hb dX9_letGo_5 rfl ?_
  refine lv_iload_n hx hb dX9_letGo_6 rfl (zl_at hl 1 rfl) ?_
  refine lv_iconst (v := iI 0) hx hb dX9_letGo_7 rfl ?_
  obtain ⟨k3, hp⟩ := ck_i hp
  obtain ⟨r4, h5, er4, hp⟩ := bR_i hp
  refine r_callI (n := 3) (As := [.int (iI 1), .int v1, .int (iI 0)]) (rest := [zr (aZ h), zr v0]) C (c_X2_init l G (aZ h) (iI 1) v1 (iI 0) h2 r4 h5 er4) hR hL k3 mw_442 mw_443 mw_17 mw_444 rfl (by decide +kernel) (by decide) rfl (zl_size hl) rfl (by simp [zr_cat, in_cat]) dX9_letGo_8 (st2 := [zr (aZ h), zr v0]) rfl (fun H locs cells slots hR hL => ?_)
  obtain ⟨k6, hp⟩ := ck_i hp
  obtain ⟨r7, h8, er7, hp⟩ := bR_i hp
  refine r_callV (ci := 10) (r := (RX9, TX9, 10)) (n := 1) (As := [zr (aZ h)]) (rest := []) C (c_X9_perform l G v0 (aZ h) h5 r7 h8 er7) hR hL rfl k6 mw_456 mw_458 mp_6 mw_7 mw_459 (by decide +kernel) (by decide) rfl (zl_size hl) rfl (by simp [zr_cat, in_cat]) dX9_letGo_11 (st2 := []) rfl (fun H locs cells slots hR hL => ?_)
  refine z_aload_n hx hb dX9_letGo_14 rfl (zl_at hl 0 rfl) ?_
  obtain ⟨k9, hp⟩ := ck_i hp
  refine r_get (ci := 10) (C := RX9) (T := TX9) (N := 10) (v := zr (aR h8 v0 1)) hx hb hm ii_X9 hown hK hR rfl k9 1 (by decide) (hm _ mw_131) (fun _ h9 => h9) rfl dX9_letGo_15 ?_
  refine z_aload_n hx hb dX9_letGo_18 rfl (zl_at hl 0 rfl) ?_
  obtain ⟨k10, hp⟩ := ck_i hp
  refine r_get (ci := 10) (C := RX9) (T := TX9) (N := 10) (v := zr (aR h8 v0 1)) hx hb hm ii_X9 hown hK hR rfl k10 1 (by decide) (hm _ mw_131) (fun _ h9 => h9) rfl dX9_letGo_19 ?_
  refine lv_iload_n hx hb dX9_letGo_22 rfl (zl_at hl 1 rfl) ?_
  obtain ⟨k11, hp⟩ := ck_i hp
  obtain ⟨r12, h13, er12, hp⟩ := bR_i hp
  refine r_callV (ci := 8) (r := (RX7, TX7, 4)) (n := 1) (As := [.int v1]) (rest := [zr (aR h8 v0 1)]) C (c_X7_spotOf l G (aR h8 v0 1) v1 h8 r12 h13 er12) hR hL rfl k11 mw_438 mw_439 mw_440 mw_8 mw_441 (by decide +kernel) (by decide) rfl (zl_size hl) rfl (by simp [zr_cat, in_cat]) dX9_letGo_23 (st2 := [.int r12, zr (aR h8 v0 1)]) rfl (fun H locs cells slots hR hL => ?_)
  obtain ⟨k14, hp⟩ := ck_i hp
  obtain ⟨r15, h16, er15, hp⟩ := bR_i hp
  refine r_callV (ci := 8) (r := (RX7, TX7, 4)) (n := 1) (As := [.int r12]) (rest := []) C (c_X7_nearestShownFrom l G (aR h8 v0 1) r12 h13 r15 h16 er15) hR hL rfl k14 mw_606 mw_607 mw_608 mw_8 mw_609 (by decide +kernel) (by decide) rfl (zl_size hl) rfl (by simp [zr_cat, in_cat]) dX9_letGo_26 (st2 := [.int r15]) rfl (fun H locs cells slots hR hL => ?_)
  refine z_istore_n (lv' := [(2, .int r15), (0, zr v0), (1, .int v1)]) hx hb dX9_letGo_29 rfl hl (by decide) rfl (fun ls hl => ?_)
  refine lv_iconst (v := iI 0) hx hb dX9_letGo_30 rfl ?_
  refine lv_topi (fun x17 ex17 => ?_)
  replace hp := nm_i hp ex17
  refine z_istore_n (lv' := [(3, .int x17), (2, .int r15), (0, zr v0), (1, .int v1)]) hx hb dX9_letGo_31 rfl hl (by decide) rfl (fun ls hl => ?_)
  exact s_X9_letGo_32 C  _ _ _ _ _ _ _ _ _ _ _ hR hL (zl_sub hl [2, 3, 1, 0] rfl) hp
def p_X9_letGo (v0 : Nat) (v1 : Int32) (h : AH) : Option (Unit × AH) := ck (v0 ≠ 0) <| p_X9_letGo_0 v0 v1 h
theorem c_X9_letGo (l : Launch) (G : GG) (v0 : Nat) (v1 : Int32) (h : AH) (r : Unit) (h' : AH) (hp : p_X9_letGo v0 v1 h = some (r, h')) : Ct l yX9_letGo (.code yX9_letGo cX9_letGo 4 none :: MW) G 8 193 [.ref (v0 - 1), .int v1] h (none) h' := by
  obtain ⟨hz0, hp⟩ := ck_i hp
  refine Ct.of (by decide +kernel) (Nat.le_of_ble_eq_true rfl) ?_
  intro p e s m args below meth c C hR ls hl
  have hl : zl ls 4 [(0, zr v0), (1, .int v1)] := ⟨by rw [zr_p hz0]; exact hl, by simp [zr_cat, in_cat]⟩
  exact s_X9_letGo_0 C hR (fun _ hq => nomatch hq) hl hp
/-! CursorKeep$Text.become(IC)V -/
def p_X9_become_0  (v0 : Nat) (v1 : Int32) (v2 : Int32) (h : AH) : Option (Unit × AH) :=
  ck (aZ h + 1 ≤ aC h ∧ aU h + 3 ≤ gS) <|
  nm (uN h 4 3) fun h2 =>
  ck (aK h2 (aZ h) ≠ 0) <|
  bR (p_X2_init (aZ h) (iI 3) v1 v2 h2) fun r4 h5 =>
  ck (aK h5 v0 = 11) <|
  bR (p_X9_perform v0 (aZ h) h5) fun r7 h8 =>
  some ((), h8)
set_option maxHeartbeats 4000000 in
set_option maxRecDepth 100000 in
theorem s_X9_become_0 {p : Program} {l : Launch} {e : Env} {s : State} {m : MethodId} {args : Array Value} {below : List Frame} {meth : Method} {c : Code} {G : GG} {hs : AH} {r : Unit} {h' : AH} (C : Cx G hs p s m args meth c cX9_become 3 RX9 (.code yX9_become cX9_become 3 none :: MW) none "become")   {v0 : Nat} {v1 : Int32} {v2 : Int32} {h : AH} {H : Heap} {locs : List Loc} {cells slots : Nat} {ls : Array Slot} (hR : Rp G h H) (hL : ∀ q ∈ locs, gB G ≤ q.base) (hl : zl ls 3 [(0, zr v0), (1, .int v1), (2, .int v2)]) (hp : p_X9_become_0  v0 v1 v2 h = some (r, h')) : W p l e (gR G hs 8 193) s m args below meth c H locs cells slots (MQ below (Qcc G (none) h') args s (gC G - aZ hs) (gS - aU hs) (fun q => gB G ≤ q)) (F0 m 0 ls []) := by
  obtain ⟨hx, hb, hml, hown, hts, hT, hK, rs, hlk, hret, hnm⟩ := id C
  have hm : ∀ w ∈ MW, w.before args s = true := fun w hw => hts w (hT w hw)
  unfold p_X9_become_0 at hp
  refine z_aload_n hx hb dX9_become_0 rfl (zl_at hl 0 rfl) ?_
  obtain ⟨k1, hp⟩ := ck_i hp
  refine r_new (ci := 3) (C := RX2) (T := TX2) (N := 3) (ty0 := tyX2) C hR hL rfl ii_X2 tyX2_ok (fun _ => rfl) (by decide +kernel) mw_432 mw_433 mw_17 k1 dX9_become_1 (fun H cells slots hR => ?_)
  obtain ⟨h2, hp, hR⟩ := nm_h hp hR
  refine lv_dup hx hb dX9_become_4 (zr_cat _) ?_
  refine lv_iconst (v := iI 3) hx hb dX9_become_5 rfl ?_
  refine lv_iload_n hx hb dX9_become_6 rfl (zl_at hl 1 rfl) ?_
  refine lv_iload_n hx hb dX9_become_7 rfl (zl_at hl 2 rfl) ?_
  obtain ⟨k3, hp⟩ := ck_i hp
  obtain ⟨r4, h5, er4, hp⟩ := bR_i hp
  refine r_callI (n := 3) (As := [.int (iI 3), .int v1, .int v2]) (rest := [zr (aZ h), zr v0]) C (c_X2_init l G (aZ h) (iI 3) v1 v2 h2 r4 h5 er4) hR hL k3 mw_442 mw_443 mw_17 mw_444 rfl (by decide +kernel) (by decide) rfl (zl_size hl) rfl (by simp [zr_cat, in_cat]) dX9_become_8 (st2 := [zr (aZ h), zr v0]) rfl (fun H locs cells slots hR hL => ?_)
  obtain ⟨k6, hp⟩ := ck_i hp
  obtain ⟨r7, h8, er7, hp⟩ := bR_i hp
  refine r_callV (ci := 10) (r := (RX9, TX9, 10)) (n := 1) (As := [zr (aZ h)]) (rest := []) C (c_X9_perform l G v0 (aZ h) h5 r7 h8 er7) hR hL rfl k6 mw_456 mw_458 mp_6 mw_7 mw_459 (by decide +kernel) (by decide) rfl (zl_size hl) rfl (by simp [zr_cat, in_cat]) dX9_become_11 (st2 := []) rfl (fun H locs cells slots hR hL => ?_)
  cases hp
  exact r_vret C hR hL dX9_become_14
def p_X9_become (v0 : Nat) (v1 : Int32) (v2 : Int32) (h : AH) : Option (Unit × AH) := ck (v0 ≠ 0) <| p_X9_become_0 v0 v1 v2 h
theorem c_X9_become (l : Launch) (G : GG) (v0 : Nat) (v1 : Int32) (v2 : Int32) (h : AH) (r : Unit) (h' : AH) (hp : p_X9_become v0 v1 v2 h = some (r, h')) : Ct l yX9_become (.code yX9_become cX9_become 3 none :: MW) G 8 193 [.ref (v0 - 1), .int v1, .int v2] h (none) h' := by
  obtain ⟨hz0, hp⟩ := ck_i hp
  refine Ct.of (by decide +kernel) (Nat.le_of_ble_eq_true rfl) ?_
  intro p e s m args below meth c C hR ls hl
  have hl : zl ls 3 [(0, zr v0), (1, .int v1), (2, .int v2)] := ⟨by rw [zr_p hz0]; exact hl, by simp [zr_cat, in_cat]⟩
  exact s_X9_become_0 C hR (fun _ hq => nomatch hq) hl hp
/-! CursorKeep$Format.doChanges()V -/
def p_X3_doChanges_79 (k4 : Nat → Int32 → Int32 → AH → Option (Unit × AH)) (v0 : Nat) (v1 : Int32) (v2 : Int32) (h : AH) : Option (Unit × AH) :=
  nm (v2 + iI 1) fun (x1 : Int32) =>
  k4 v0 v1 x1 h
set_option maxHeartbeats 4000000 in
set_option maxRecDepth 100000 in
theorem s_X3_doChanges_79 {p : Program} {l : Launch} {e : Env} {s : State} {m : MethodId} {args : Array Value} {below : List Frame} {meth : Method} {c : Code} {G : GG} {hs : AH} {r : Unit} {h' : AH} (C : Cx G hs p s m args meth c cX3_doChanges 4 RX3 (.code yX3_doChanges cX3_doChanges 4 none :: MW) none "doChanges") {k4 : Nat → Int32 → Int32 → AH → Option (Unit × AH)} (hk4 : ∀ {v0 : Nat} {v1 : Int32} {v2 : Int32} {h : AH} {H : Heap} {locs : List Loc} {cells slots : Nat} {ls : Array Slot}, Rp G h H → (∀ q ∈ locs, gB G ≤ q.base) → zl ls 4 [(0, zr v0), (1, .int v1), (2, .int v2)] → k4 v0 v1 v2 h = some (r, h') → W p l e (gR G hs 9 216) s m args below meth c H locs cells slots (MQ below (Qcc G (none) h') args s (gC G - aZ hs) (gS - aU hs) (fun q => gB G ≤ q)) (F0 m 4 ls [])) {v0 : Nat} {v1 : Int32} {v2 : Int32} {h : AH} {H : Heap} {locs : List Loc} {cells slots : Nat} {ls : Array Slot} (hR : Rp G h H) (hL : ∀ q ∈ locs, gB G ≤ q.base) (hl : zl ls 4 [(0, zr v0), (1, .int v1), (2, .int v2)]) (hp : p_X3_doChanges_79 k4 v0 v1 v2 h = some (r, h')) : W p l e (gR G hs 9 216) s m args below meth c H locs cells slots (MQ below (Qcc G (none) h') args s (gC G - aZ hs) (gS - aU hs) (fun q => gB G ≤ q)) (F0 m 79 ls []) := by
  obtain ⟨hx, hb, hml, hown, hts, hT, hK, rs, hlk, hret, hnm⟩ := id C
  have hm : ∀ w ∈ MW, w.before args s = true := fun w hw => hts w (hT w hw)
  unfold p_X3_doChanges_79 at hp
  obtain ⟨x1, ex1⟩ : ∃ y : Int32, y = v2 + iI 1 := ⟨_, rfl⟩
  replace hp := nm_i hp ex1
  refine z_iinc (v := x1) (lv' := [(2, .int x1), (0, zr v0), (1, .int v1)]) hx hb dX3_doChanges_79 hl (k := 2) rfl ex1 (by decide) rfl (fun ls hl => ?_)
  refine lv_goto (tgt := 4) hx hb dX3_doChanges_82 (by decide) ?_
  exact hk4 hR hL (zl_sub hl [1, 2, 0] rfl) hp
def p_X3_doChanges_102   (h : AH) : Option (Unit × AH) :=
  some ((), h)
set_option maxHeartbeats 4000000 in
set_option maxRecDepth 100000 in
theorem s_X3_doChanges_102 {p : Program} {l : Launch} {e : Env} {s : State} {m : MethodId} {args : Array Value} {below : List Frame} {meth : Method} {c : Code} {G : GG} {hs : AH} {r : Unit} {h' : AH} (C : Cx G hs p s m args meth c cX3_doChanges 4 RX3 (.code yX3_doChanges cX3_doChanges 4 none :: MW) none "doChanges")    {h : AH} {H : Heap} {locs : List Loc} {cells slots : Nat} {ls : Array Slot} (hR : Rp G h H) (hL : ∀ q ∈ locs, gB G ≤ q.base) (hl : zl ls 4 []) (hp : p_X3_doChanges_102   h = some (r, h')) : W p l e (gR G hs 9 216) s m args below meth c H locs cells slots (MQ below (Qcc G (none) h') args s (gC G - aZ hs) (gS - aU hs) (fun q => gB G ≤ q)) (F0 m 102 ls []) := by
  obtain ⟨hx, hb, hml, hown, hts, hT, hK, rs, hlk, hret, hnm⟩ := id C
  have hm : ∀ w ∈ MW, w.before args s = true := fun w hw => hts w (hT w hw)
  unfold p_X3_doChanges_102 at hp
  cases hp
  exact r_vret C hR hL dX3_doChanges_102
def p_X3_doChanges_4  : Nat → Nat → Int32 → Int32 → AH → Option (Unit × AH)
  | 0, _, _, _, _ => none
  | n + 1, v0, v1, v2, h =>
    ck (aK h v0 = 5) <|
    ck (aK h (aR h v0 1) = 1) <|
    bR (p_Jx4a65c_size_8abf5 (aR h v0 1) h) fun r3 h4 =>
    if r3 ≤ v2 then
      if v1 = 0 then
        p_X3_doChanges_102   h4
      else
        ck (aK h4 v0 = 5) <|
        ck (aK h4 (aR h4 v0 0) = 11) <|
        ck (aK h4 (aR h4 v0 0) = 11) <|
        nm (uI h4 (aR h4 v0 0) 3 ((aI h4 (aR h4 v0 0) 3) + (iI 1))) fun h10 =>
        p_X3_doChanges_102   h10
    else
      ck (aK h4 v0 = 5) <|
      ck (aK h4 (aR h4 v0 1) = 1) <|
      bR (p_Jx4a65c_get_915e3 (aR h4 v0 1) v2 h4) fun r13 h14 =>
      ck (aK h14 r13 = 3) <|
      ck (aK h14 r13 = 3) <|
      if (aI h14 r13 5) = 0 then
        nm ((iI 1)) fun (x18 : Int32) =>
        ck (aK h14 r13 = 3) <|
        bR (p_X1_goes r13 h14) fun r20 h21 =>
        if r20 = 0 then
          ck (aK h21 v0 = 5) <|
          ck (aK h21 r13 = 3) <|
          ck (aK h21 r13 = 3) <|
          ck (aK h21 (aR h21 v0 0) = 11) <|
          bR (p_X9_become (aR h21 v0 0) (aI h21 r13 0) (aI h21 r13 2) h21) fun r27 h28 =>
          p_X3_doChanges_79 (p_X3_doChanges_4  n) v0 x18 v2 h28
        else
          ck (aK h21 v0 = 5) <|
          ck (aK h21 r13 = 3) <|
          ck (aK h21 (aR h21 v0 0) = 11) <|
          bR (p_X9_letGo (aR h21 v0 0) (aI h21 r13 0) h21) fun r32 h33 =>
          p_X3_doChanges_79 (p_X3_doChanges_4  n) v0 x18 v2 h33
      else
        p_X3_doChanges_79 (p_X3_doChanges_4  n) v0 v1 v2 h14
set_option maxHeartbeats 4000000 in
set_option maxRecDepth 100000 in
theorem s_X3_doChanges_4 {p : Program} {l : Launch} {e : Env} {s : State} {m : MethodId} {args : Array Value} {below : List Frame} {meth : Method} {c : Code} {G : GG} {hs : AH} {r : Unit} {h' : AH} (C : Cx G hs p s m args meth c cX3_doChanges 4 RX3 (.code yX3_doChanges cX3_doChanges 4 none :: MW) none "doChanges")   : ∀ (n : Nat) (v0 : Nat) (v1 : Int32) (v2 : Int32) (h : AH) (H : Heap) (locs : List Loc) (cells slots : Nat) (ls : Array Slot) (hR : Rp G h H) (hL : ∀ q ∈ locs, gB G ≤ q.base) (hl : zl ls 4 [(0, zr v0), (1, .int v1), (2, .int v2)]) (hp : p_X3_doChanges_4  n v0 v1 v2 h = some (r, h')), W p l e (gR G hs 9 216) s m args below meth c H locs cells slots (MQ below (Qcc G (none) h') args s (gC G - aZ hs) (gS - aU hs) (fun q => gB G ≤ q)) (F0 m 4 ls []) := by
  obtain ⟨hx, hb, hml, hown, hts, hT, hK, rs, hlk, hret, hnm⟩ := id C
  have hm : ∀ w ∈ MW, w.before args s = true := fun w hw => hts w (hT w hw)
  intro n
  induction n with
  | zero =>
    intro v0 v1 v2 h H locs cells slots ls hR hL hl hp
    exact absurd (show none = some (r, h') from hp) (by simp)
  | succ n ih =>
    intro v0 v1 v2 h H locs cells slots ls hR hL hl hp
    rw [p_X3_doChanges_4.eq_2] at hp
    refine lv_iload_n hx hb dX3_doChanges_4 rfl (zl_at hl 2 rfl) ?_
    refine z_aload_n hx hb dX3_doChanges_5 rfl (zl_at hl 0 rfl) ?_
    obtain ⟨k1, hp⟩ := ck_i hp
    refine r_get (ci := 4) (C := RX3) (T := TX3) (N := 4) (v := zr (aR h v0 1)) hx hb hm ii_X3 hown hK hR rfl k1 1 (by decide) (hm _ mw_806) (fun _ h9 => h9) rfl dX3_doChanges_6 ?_
    obtain ⟨k2, hp⟩ := ck_i hp
    obtain ⟨r3, h4, er3, hp⟩ := bR_i hp
    refine r_callF (ci := 0) (r := (RJx4a65c, TJx4a65c, 3)) (x := ⟨"java/util/List", "size", "()I"⟩) (n := 0) (As := []) (rest := [.int v2]) C (c_Jx4a65c_size_8abf5 l G (aR h v0 1) h r3 h4 er3) hR hL rfl k2 mw_847 mw_214 mw_216 mw_4 mw_218 (fw_size hK) (by decide +kernel) (by decide) rfl (zl_size hl) rfl (by simp [zr_cat, in_cat]) dX3_doChanges_9 (st2 := [.int r3, .int v2]) rfl (fun H locs cells slots hR hL => ?_)
    refine lv_icmp_ge (tgt := 85) hx hb dX3_doChanges_14 (by decide) (fun c5 => ?_) (fun c5 => ?_)
    · replace hp := ite_p hp c5
      refine lv_iload_n hx hb dX3_doChanges_85 rfl (zl_at hl 1 rfl) ?_
      refine lv_if_eq (tgt := 102) hx hb dX3_doChanges_86 (by decide) (fun c6 => ?_) (fun c6 => ?_)
      · replace hp := ite_p hp c6
        exact s_X3_doChanges_102 C  hR hL (zl_sub hl [] rfl) hp
      · replace hp := ite_n hp c6
        refine z_aload_n hx hb dX3_doChanges_89 rfl (zl_at hl 0 rfl) ?_
        obtain ⟨k7, hp⟩ := ck_i hp
        refine r_get (ci := 4) (C := RX3) (T := TX3) (N := 4) (v := zr (aR h4 v0 0)) hx hb hm ii_X3 hown hK hR rfl k7 0 (by decide) (hm _ mw_804) (fun _ h9 => h9) rfl dX3_doChanges_90 ?_
        refine lv_dup hx hb dX3_doChanges_93 (zr_cat _) ?_
        obtain ⟨k8, hp⟩ := ck_i hp
        refine r_get (ci := 10) (C := RX9) (T := TX9) (N := 10) (v := .int (aI h4 (aR h4 v0 0) 3)) hx hb hm ii_X9 hown hK hR rfl k8 3 (by decide) (hm _ mw_136) (fun _ h9 => h9) rfl dX3_doChanges_94 ?_
        refine lv_iconst (v := iI 1) hx hb dX3_doChanges_97 rfl ?_
        refine lv_iadd hx hb dX3_doChanges_98 ?_
        obtain ⟨k9, hp⟩ := ck_i hp
        refine r_putI (ci := 10) (C := RX9) (T := TX9) (N := 10) hx hb hm ii_X9 tyX9_ok nmX9 hown hK hR hL rfl k9 3 (by decide) (hm _ mw_136) (fun _ h9 => h9) (Or.inl rfl) rfl rfl (fun _ _ _ => rfl) dX3_doChanges_99 (fun H locs hR hL => ?_)
        obtain ⟨h10, hp, hR⟩ := nm_h hp hR
        exact s_X3_doChanges_102 C  hR hL (zl_sub hl [] rfl) hp
    · replace hp := ite_n hp c5
      refine z_aload_n hx hb dX3_doChanges_17 rfl (zl_at hl 0 rfl) ?_
      obtain ⟨k11, hp⟩ := ck_i hp
      refine r_get (ci := 4) (C := RX3) (T := TX3) (N := 4) (v := zr (aR h4 v0 1)) hx hb hm ii_X3 hown hK hR rfl k11 1 (by decide) (hm _ mw_806) (fun _ h9 => h9) rfl dX3_doChanges_18 ?_
      refine lv_iload_n hx hb dX3_doChanges_21 rfl (zl_at hl 2 rfl) ?_
      obtain ⟨k12, hp⟩ := ck_i hp
      obtain ⟨r13, h14, er13, hp⟩ := bR_i hp
      refine r_callF (ci := 0) (r := (RJx4a65c, TJx4a65c, 3)) (x := ⟨"java/util/List", "get", "(I)Ljava/lang/Object;"⟩) (n := 1) (As := [.int v2]) (rest := []) C (c_Jx4a65c_get_915e3 l G (aR h4 v0 1) v2 h4 r13 h14 er13) hR hL rfl k12 mw_849 mw_223 mw_225 mw_4 mw_227 (fw_get hK) (by decide +kernel) (by decide) rfl (zl_size hl) rfl (by simp [zr_cat, in_cat]) dX3_doChanges_22 (st2 := [zr r13]) rfl (fun H locs cells slots hR hL => ?_)
      obtain ⟨k15, hp⟩ := ck_i hp
      refine r_castC (ci := 2) (r := (RX1, TX1, 6)) hx hb hown (hm _ mw_850) hK hR rfl k15 dX3_doChanges_27 ?_
      refine z_astore_n (lv' := [(3, zr r13), (0, zr v0), (1, .int v1), (2, .int v2)]) hx hb dX3_doChanges_30 rfl hl (by decide) rfl (fun ls hl => ?_)
      refine z_aload_n hx hb dX3_doChanges_31 rfl (zl_at hl 0 rfl) ?_
      obtain ⟨k16, hp⟩ := ck_i hp
      refine r_get (ci := 2) (C := RX1) (T := TX1) (N := 6) (v := .int (aI h14 r13 5)) hx hb hm ii_X1 hown hK hR rfl k16 5 (by decide) (hm _ mw_784) (fun _ h9 => h9) rfl dX3_doChanges_32 ?_
      refine lv_if_eq (tgt := 41) hx hb dX3_doChanges_35 (by decide) (fun c17 => ?_) (fun c17 => ?_)
      · replace hp := ite_p hp c17
        refine lv_iconst (v := iI 1) hx hb dX3_doChanges_41 rfl ?_
        refine lv_topi (fun x18 ex18 => ?_)
        replace hp := nm_i hp ex18
        refine z_istore_n (lv' := [(1, .int x18), (3, zr r13), (0, zr v0), (2, .int v2)]) hx hb dX3_doChanges_42 rfl hl (by decide) rfl (fun ls hl => ?_)
        refine z_aload_n hx hb dX3_doChanges_43 rfl (zl_at hl 1 rfl) ?_
        obtain ⟨k19, hp⟩ := ck_i hp
        obtain ⟨r20, h21, er20, hp⟩ := bR_i hp
        refine r_callV (ci := 2) (r := (RX1, TX1, 6)) (n := 0) (As := []) (rest := []) C (c_X1_goes l G r13 h14 r20 h21 er20) hR hL rfl k19 mw_851 mw_852 mw_853 mw_25 mw_854 (by decide +kernel) (by decide) rfl (zl_size hl) rfl (by simp [zr_cat, in_cat]) dX3_doChanges_44 (st2 := [.int r20]) rfl (fun H locs cells slots hR hL => ?_)
        refine lv_if_eq (tgt := 64) hx hb dX3_doChanges_47 (by decide) (fun c22 => ?_) (fun c22 => ?_)
        · replace hp := ite_p hp c22
          refine z_aload_n hx hb dX3_doChanges_64 rfl (zl_at hl 2 rfl) ?_
          obtain ⟨k23, hp⟩ := ck_i hp
          refine r_get (ci := 4) (C := RX3) (T := TX3) (N := 4) (v := zr (aR h21 v0 0)) hx hb hm ii_X3 hown hK hR rfl k23 0 (by decide) (hm _ mw_804) (fun _ h9 => h9) rfl dX3_doChanges_65 ?_
          refine z_aload_n hx hb dX3_doChanges_68 rfl (zl_at hl 1 rfl) ?_
          obtain ⟨k24, hp⟩ := ck_i hp
          refine r_get (ci := 2) (C := RX1) (T := TX1) (N := 6) (v := .int (aI h21 r13 0)) hx hb hm ii_X1 hown hK hR rfl k24 0 (by decide) (hm _ mw_775) (fun _ h9 => h9) rfl dX3_doChanges_69 ?_
          refine z_aload_n hx hb dX3_doChanges_72 rfl (zl_at hl 1 rfl) ?_
          obtain ⟨k25, hp⟩ := ck_i hp
          refine r_get (ci := 2) (C := RX1) (T := TX1) (N := 6) (v := .int (aI h21 r13 2)) hx hb hm ii_X1 hown hK hR rfl k25 2 (by decide) (hm _ mw_779) (fun _ h9 => h9) rfl dX3_doChanges_73 ?_
          obtain ⟨k26, hp⟩ := ck_i hp
          obtain ⟨r27, h28, er27, hp⟩ := bR_i hp
          refine r_callV (ci := 10) (r := (RX9, TX9, 10)) (n := 2) (As := [.int (aI h21 r13 0), .int (aI h21 r13 2)]) (rest := []) C (c_X9_become l G (aR h21 v0 0) (aI h21 r13 0) (aI h21 r13 2) h21 r27 h28 er27) hR hL rfl k26 mw_874 mw_875 mw_876 mw_7 mw_877 (by decide +kernel) (by decide) rfl (zl_size hl) rfl (by simp [zr_cat, in_cat]) dX3_doChanges_76 (st2 := []) rfl (fun H locs cells slots hR hL => ?_)
          exact s_X3_doChanges_79 C (fun hR hL hl hp => ih _ _ _ _ _ _ _ _ _ hR hL hl hp) hR hL (zl_sub hl [2, 0, 3] rfl) hp
        · replace hp := ite_n hp c22
          refine z_aload_n hx hb dX3_doChanges_50 rfl (zl_at hl 2 rfl) ?_
          obtain ⟨k29, hp⟩ := ck_i hp
          refine r_get (ci := 4) (C := RX3) (T := TX3) (N := 4) (v := zr (aR h21 v0 0)) hx hb hm ii_X3 hown hK hR rfl k29 0 (by decide) (hm _ mw_804) (fun _ h9 => h9) rfl dX3_doChanges_51 ?_
          refine z_aload_n hx hb dX3_doChanges_54 rfl (zl_at hl 1 rfl) ?_
          obtain ⟨k30, hp⟩ := ck_i hp
          refine r_get (ci := 2) (C := RX1) (T := TX1) (N := 6) (v := .int (aI h21 r13 0)) hx hb hm ii_X1 hown hK hR rfl k30 0 (by decide) (hm _ mw_775) (fun _ h9 => h9) rfl dX3_doChanges_55 ?_
          obtain ⟨k31, hp⟩ := ck_i hp
          obtain ⟨r32, h33, er32, hp⟩ := bR_i hp
          refine r_callV (ci := 10) (r := (RX9, TX9, 10)) (n := 1) (As := [.int (aI h21 r13 0)]) (rest := []) C (c_X9_letGo l G (aR h21 v0 0) (aI h21 r13 0) h21 r32 h33 er32) hR hL rfl k31 mw_873 mw_603 mw_604 mw_7 mw_605 (by decide +kernel) (by decide) rfl (zl_size hl) rfl (by simp [zr_cat, in_cat]) dX3_doChanges_58 (st2 := []) rfl (fun H locs cells slots hR hL => ?_)
          refine lv_goto (tgt := 79) hx hb dX3_doChanges_61 (by decide) ?_
          exact s_X3_doChanges_79 C (fun hR hL hl hp => ih _ _ _ _ _ _ _ _ _ hR hL hl hp) hR hL (zl_sub hl [2, 0, 3] rfl) hp
      · replace hp := ite_n hp c17
        refine lv_goto (tgt := 79) hx hb dX3_doChanges_38 (by decide) ?_
        exact s_X3_doChanges_79 C (fun hR hL hl hp => ih _ _ _ _ _ _ _ _ _ hR hL hl hp) hR hL (zl_sub hl [1, 2, 3] rfl) hp
def p_X3_doChanges_0  (v0 : Nat) (h : AH) : Option (Unit × AH) :=
  nm ((iI 0)) fun (x1 : Int32) =>
  nm ((iI 0)) fun (x2 : Int32) =>
  p_X3_doChanges_4  FU v0 x1 x2 h
set_option maxHeartbeats 4000000 in
set_option maxRecDepth 100000 in
theorem s_X3_doChanges_0 {p : Program} {l : Launch} {e : Env} {s : State} {m : MethodId} {args : Array Value} {below : List Frame} {meth : Method} {c : Code} {G : GG} {hs : AH} {r : Unit} {h' : AH} (C : Cx G hs p s m args meth c cX3_doChanges 4 RX3 (.code yX3_doChanges cX3_doChanges 4 none :: MW) none "doChanges")   {v0 : Nat} {h : AH} {H : Heap} {locs : List Loc} {cells slots : Nat} {ls : Array Slot} (hR : Rp G h H) (hL : ∀ q ∈ locs, gB G ≤ q.base) (hl : zl ls 4 [(0, zr v0)]) (hp : p_X3_doChanges_0  v0 h = some (r, h')) : W p l e (gR G hs 9 216) s m args below meth c H locs cells slots (MQ below (Qcc G (none) h') args s (gC G - aZ hs) (gS - aU hs) (fun q => gB G ≤ q)) (F0 m 0 ls []) := by
  obtain ⟨hx, hb, hml, hown, hts, hT, hK, rs, hlk, hret, hnm⟩ := id C
  have hm : ∀ w ∈ MW, w.before args s = true := fun w hw => hts w (hT w hw)
  unfold p_X3_doChanges_0 at hp
  refine lv_iconst (v := iI 0) hx hb dX3_doChanges_0 rfl ?_
  refine lv_topi (fun x1 ex1 => ?_)
  replace hp := nm_i hp ex1
  refine z_istore_n (lv' := [(1, .int x1), (0, zr v0)]) hx hb dX3_doChanges_1 rfl hl (by decide) rfl (fun ls hl => ?_)
  refine lv_iconst (v := iI 0) hx hb dX3_doChanges_2 rfl ?_
  refine lv_topi (fun x2 ex2 => ?_)
  replace hp := nm_i hp ex2
  refine z_istore_n (lv' := [(2, .int x2), (1, .int x1), (0, zr v0)]) hx hb dX3_doChanges_3 rfl hl (by decide) rfl (fun ls hl => ?_)
  exact s_X3_doChanges_4 C  _ _ _ _ _ _ _ _ _ _ hR hL (zl_sub hl [2, 1, 0] rfl) hp
def p_X3_doChanges (v0 : Nat) (h : AH) : Option (Unit × AH) := ck (v0 ≠ 0) <| p_X3_doChanges_0 v0 h
theorem c_X3_doChanges (l : Launch) (G : GG) (v0 : Nat) (h : AH) (r : Unit) (h' : AH) (hp : p_X3_doChanges v0 h = some (r, h')) : Ct l yX3_doChanges (.code yX3_doChanges cX3_doChanges 4 none :: MW) G 9 216 [.ref (v0 - 1)] h (none) h' := by
  obtain ⟨hz0, hp⟩ := ck_i hp
  refine Ct.of (by decide +kernel) (Nat.le_of_ble_eq_true rfl) ?_
  intro p e s m args below meth c C hR ls hl
  have hl : zl ls 4 [(0, zr v0)] := ⟨by rw [zr_p hz0]; exact hl, by simp [zr_cat, in_cat]⟩
  exact s_X3_doChanges_0 C hR (fun _ hq => nomatch hq) hl hp
/-! CursorKeep$Save.<init>(IILCursorKeep$Text;LCursorKeep$Format;)V -/
def p_X8_init_0  (v0 : Nat) (v1 : Int32) (v2 : Int32) (v3 : Nat) (v4 : Nat) (h : AH) : Option (Unit × AH) :=
  ck (v0 ≠ 0) <|
  ck (aK h v0 = 10) <|
  nm (uI h v0 0 v1) fun h3 =>
  ck (aK h3 v0 = 10) <|
  nm (uI h3 v0 2 v2) fun h5 =>
  ck (aK h5 v0 = 10) <|
  nm (uR h5 v0 1 v3) fun h7 =>
  ck (aK h7 v0 = 10) <|
  nm (uR h7 v0 3 v4) fun h9 =>
  some ((), h9)
set_option maxHeartbeats 4000000 in
set_option maxRecDepth 100000 in
theorem s_X8_init_0 {p : Program} {l : Launch} {e : Env} {s : State} {m : MethodId} {args : Array Value} {below : List Frame} {meth : Method} {c : Code} {G : GG} {hs : AH} {r : Unit} {h' : AH} (C : Cx G hs p s m args meth c cX8_init 5 RX8 (.code yX8_init cX8_init 5 none :: MW) none "<init>")   {v0 : Nat} {v1 : Int32} {v2 : Int32} {v3 : Nat} {v4 : Nat} {h : AH} {H : Heap} {locs : List Loc} {cells slots : Nat} {ls : Array Slot} (hR : Rp G h H) (hL : ∀ q ∈ locs, gB G ≤ q.base) (hl : zl ls 5 [(0, zr v0), (1, .int v1), (2, .int v2), (3, zr v3), (4, zr v4)]) (hp : p_X8_init_0  v0 v1 v2 v3 v4 h = some (r, h')) : W p l e (gR G hs 1 40) s m args below meth c H locs cells slots (MQ below (Qcc G (none) h') args s (gC G - aZ hs) (gS - aU hs) (fun q => gB G ≤ q)) (F0 m 0 ls []) := by
  obtain ⟨hx, hb, hml, hown, hts, hT, hK, rs, hlk, hret, hnm⟩ := id C
  have hm : ∀ w ∈ MW, w.before args s = true := fun w hw => hts w (hT w hw)
  unfold p_X8_init_0 at hp
  refine z_aload_n hx hb dX8_init_0 rfl (zl_at hl 0 rfl) ?_
  obtain ⟨k1, hp⟩ := ck_i hp
  refine r_objInit C k1 (hm _ mw_925) (hm _ mw_33) (hm _ mw_34) (zl_size hl) dX8_init_1 (by decide) (by simp [zr_cat, in_cat]) ?_
  refine z_aload_n hx hb dX8_init_4 rfl (zl_at hl 0 rfl) ?_
  refine lv_iload_n hx hb dX8_init_5 rfl (zl_at hl 1 rfl) ?_
  obtain ⟨k2, hp⟩ := ck_i hp
  refine r_putI (ci := 9) (C := RX8) (T := TX8) (N := 4) hx hb hm ii_X8 tyX8_ok nmX8 hown hK hR hL rfl k2 0 (by decide) (hm _ mw_926) (fun _ h9 => h9) (Or.inr ⟨rfl, hnm, rfl⟩) rfl rfl (fun _ _ _ => rfl) dX8_init_6 (fun H locs hR hL => ?_)
  obtain ⟨h3, hp, hR⟩ := nm_h hp hR
  refine z_aload_n hx hb dX8_init_9 rfl (zl_at hl 0 rfl) ?_
  refine lv_iload_n hx hb dX8_init_10 rfl (zl_at hl 2 rfl) ?_
  obtain ⟨k4, hp⟩ := ck_i hp
  refine r_putI (ci := 9) (C := RX8) (T := TX8) (N := 4) hx hb hm ii_X8 tyX8_ok nmX8 hown hK hR hL rfl k4 2 (by decide) (hm _ mw_930) (fun _ h9 => h9) (Or.inr ⟨rfl, hnm, rfl⟩) rfl rfl (fun _ _ _ => rfl) dX8_init_11 (fun H locs hR hL => ?_)
  obtain ⟨h5, hp, hR⟩ := nm_h hp hR
  refine z_aload_n hx hb dX8_init_14 rfl (zl_at hl 0 rfl) ?_
  refine z_aload_n hx hb dX8_init_15 rfl (zl_at hl 3 rfl) ?_
  obtain ⟨k6, hp⟩ := ck_i hp
  refine r_putR (ci := 9) (C := RX8) (T := TX8) (N := 4) hx hb hm ii_X8 tyX8_ok nmX8 hown hK hR hL rfl k6 1 (by decide) (hm _ mw_928) (fun _ h9 => h9) (Or.inr ⟨rfl, hnm, rfl⟩) (zr_fitsO _ _) (fun _ _ _ => rfl) dX8_init_16 (fun H locs hR hL => ?_)
  obtain ⟨h7, hp, hR⟩ := nm_h hp hR
  refine z_aload_n hx hb dX8_init_19 rfl (zl_at hl 0 rfl) ?_
  refine z_aload hx hb dX8_init_20 (zl_at hl 4 rfl) ?_
  obtain ⟨k8, hp⟩ := ck_i hp
  refine r_putR (ci := 9) (C := RX8) (T := TX8) (N := 4) hx hb hm ii_X8 tyX8_ok nmX8 hown hK hR hL rfl k8 3 (by decide) (hm _ mw_931) (fun _ h9 => h9) (Or.inr ⟨rfl, hnm, rfl⟩) (zr_fitsO _ _) (fun _ _ _ => rfl) dX8_init_22 (fun H locs hR hL => ?_)
  obtain ⟨h9, hp, hR⟩ := nm_h hp hR
  cases hp
  exact r_vret C hR hL dX8_init_25
def p_X8_init (v0 : Nat) (v1 : Int32) (v2 : Int32) (v3 : Nat) (v4 : Nat) (h : AH) : Option (Unit × AH) := ck (v0 ≠ 0) <| ck (v3 ≠ 0) <| p_X8_init_0 v0 v1 v2 v3 v4 h
theorem c_X8_init (l : Launch) (G : GG) (v0 : Nat) (v1 : Int32) (v2 : Int32) (v3 : Nat) (v4 : Nat) (h : AH) (r : Unit) (h' : AH) (hp : p_X8_init v0 v1 v2 v3 v4 h = some (r, h')) : Ct l yX8_init (.code yX8_init cX8_init 5 none :: MW) G 1 40 [.ref (v0 - 1), .int v1, .int v2, zr v3, zr v4] h (none) h' := by
  obtain ⟨hz0, hp⟩ := ck_i hp
  obtain ⟨hz3, hp⟩ := ck_i hp
  rw [show zr v3 = .ref (v3 - 1) from zr_p hz3]
  by_cases hz4 : v4 = 0
  · subst hz4
    rw [zr_0]
    refine Ct.of (by decide +kernel) (Nat.le_of_ble_eq_true rfl) ?_
    intro p e s m args below meth c C hR ls hl
    have hl : zl ls 5 [(0, zr v0), (1, .int v1), (2, .int v2), (3, zr v3), (4, zr 0)] := ⟨by rw [zr_p hz0, zr_p hz3, zr_0]; exact hl, by simp [zr_cat, in_cat]⟩
    exact s_X8_init_0 C hR (fun _ hq => nomatch hq) hl hp
  · rw [show zr v4 = .ref (v4 - 1) from zr_p hz4]
    refine Ct.of (by decide +kernel) (Nat.le_of_ble_eq_true rfl) ?_
    intro p e s m args below meth c C hR ls hl
    have hl : zl ls 5 [(0, zr v0), (1, .int v1), (2, .int v2), (3, zr v3), (4, zr v4)] := ⟨by rw [zr_p hz0, zr_p hz3, zr_p hz4]; exact hl, by simp [zr_cat, in_cat]⟩
    exact s_X8_init_0 C hR (fun _ hq => nomatch hq) hl hp
/-! CursorKeep$Text.isFreeFor(I)Z -/
def p_X9_isFreeFor_21  (s0 : Int32) (h : AH) : Option (Int32 × AH) :=
  ck (okZ s0) <|
  some (s0, h)
set_option maxHeartbeats 4000000 in
set_option maxRecDepth 100000 in
theorem s_X9_isFreeFor_21 {p : Program} {l : Launch} {e : Env} {s : State} {m : MethodId} {args : Array Value} {below : List Frame} {meth : Method} {c : Code} {G : GG} {hs : AH} {r : Int32} {h' : AH} (C : Cx G hs p s m args meth c cX9_isFreeFor 2 RX9 (.code yX9_isFreeFor cX9_isFreeFor 2 (some .boolean) :: MW) (some .boolean) "isFreeFor")   {s0 : Int32} {h : AH} {H : Heap} {locs : List Loc} {cells slots : Nat} {ls : Array Slot} (hR : Rp G h H) (hL : ∀ q ∈ locs, gB G ≤ q.base) (hl : zl ls 2 []) (hp : p_X9_isFreeFor_21  s0 h = some (r, h')) : W p l e (gR G hs 1 40) s m args below meth c H locs cells slots (MQ below (Qcc G (some (.int r)) h') args s (gC G - aZ hs) (gS - aU hs) (fun q => gB G ≤ q)) (F0 m 21 ls [.int s0]) := by
  obtain ⟨hx, hb, hml, hown, hts, hT, hK, rs, hlk, hret, hnm⟩ := id C
  have hm : ∀ w ∈ MW, w.before args s = true := fun w hw => hts w (hT w hw)
  unfold p_X9_isFreeFor_21 at hp
  obtain ⟨k1, hp⟩ := ck_i hp
  cases hp
  exact r_zret C hR hL (okZ_n k1) dX9_isFreeFor_21
def p_X9_isFreeFor_16   (h : AH) : Option (Int32 × AH) :=
  p_X9_isFreeFor_21  (iI 1) h
set_option maxHeartbeats 4000000 in
set_option maxRecDepth 100000 in
theorem s_X9_isFreeFor_16 {p : Program} {l : Launch} {e : Env} {s : State} {m : MethodId} {args : Array Value} {below : List Frame} {meth : Method} {c : Code} {G : GG} {hs : AH} {r : Int32} {h' : AH} (C : Cx G hs p s m args meth c cX9_isFreeFor 2 RX9 (.code yX9_isFreeFor cX9_isFreeFor 2 (some .boolean) :: MW) (some .boolean) "isFreeFor")    {h : AH} {H : Heap} {locs : List Loc} {cells slots : Nat} {ls : Array Slot} (hR : Rp G h H) (hL : ∀ q ∈ locs, gB G ≤ q.base) (hl : zl ls 2 []) (hp : p_X9_isFreeFor_16   h = some (r, h')) : W p l e (gR G hs 1 40) s m args below meth c H locs cells slots (MQ below (Qcc G (some (.int r)) h') args s (gC G - aZ hs) (gS - aU hs) (fun q => gB G ≤ q)) (F0 m 16 ls []) := by
  obtain ⟨hx, hb, hml, hown, hts, hT, hK, rs, hlk, hret, hnm⟩ := id C
  have hm : ∀ w ∈ MW, w.before args s = true := fun w hw => hts w (hT w hw)
  unfold p_X9_isFreeFor_16 at hp
  refine lv_iconst (v := iI 1) hx hb dX9_isFreeFor_16 rfl ?_
  refine lv_goto (tgt := 21) hx hb dX9_isFreeFor_17 (by decide) ?_
  exact s_X9_isFreeFor_21 C  hR hL (zl_sub hl [] rfl) hp
def p_X9_isFreeFor_0  (v0 : Nat) (v1 : Int32) (h : AH) : Option (Int32 × AH) :=
  ck (aK h v0 = 11) <|
  if (aI h v0 4) = (iI (-1)) then
    p_X9_isFreeFor_16   h
  else
    ck (aK h v0 = 11) <|
    if (aI h v0 4) = v1 then
      p_X9_isFreeFor_16   h
    else
      p_X9_isFreeFor_21  (iI 0) h
set_option maxHeartbeats 4000000 in
set_option maxRecDepth 100000 in
theorem s_X9_isFreeFor_0 {p : Program} {l : Launch} {e : Env} {s : State} {m : MethodId} {args : Array Value} {below : List Frame} {meth : Method} {c : Code} {G : GG} {hs : AH} {r : Int32} {h' : AH} (C : Cx G hs p s m args meth c cX9_isFreeFor 2 RX9 (.code yX9_isFreeFor cX9_isFreeFor 2 (some .boolean) :: MW) (some .boolean) "isFreeFor")   {v0 : Nat} {v1 : Int32} {h : AH} {H : Heap} {locs : List Loc} {cells slots : Nat} {ls : Array Slot} (hR : Rp G h H) (hL : ∀ q ∈ locs, gB G ≤ q.base) (hl : zl ls 2 [(0, zr v0), (1, .int v1)]) (hp : p_X9_isFreeFor_0  v0 v1 h = some (r, h')) : W p l e (gR G hs 1 40) s m args below meth c H locs cells slots (MQ below (Qcc G (some (.int r)) h') args s (gC G - aZ hs) (gS - aU hs) (fun q => gB G ≤ q)) (F0 m 0 ls []) := by
  obtain ⟨hx, hb, hml, hown, hts, hT, hK, rs, hlk, hret, hnm⟩ := id C
  have hm : ∀ w ∈ MW, w.before args s = true := fun w hw => hts w (hT w hw)
  unfold p_X9_isFreeFor_0 at hp
  refine z_aload_n hx hb dX9_isFreeFor_0 rfl (zl_at hl 0 rfl) ?_
  obtain ⟨k1, hp⟩ := ck_i hp
  refine r_get (ci := 10) (C := RX9) (T := TX9) (N := 10) (v := .int (aI h v0 4)) hx hb hm ii_X9 hown hK hR rfl k1 4 (by decide) (hm _ mw_139) (fun _ h9 => h9) rfl dX9_isFreeFor_1 ?_
  refine lv_iconst (v := iI (-1)) hx hb dX9_isFreeFor_4 rfl ?_
  refine lv_icmp_eq (tgt := 16) hx hb dX9_isFreeFor_5 (by decide) (fun c2 => ?_) (fun c2 => ?_)
  · replace hp := ite_p hp c2
    exact s_X9_isFreeFor_16 C  hR hL (zl_sub hl [] rfl) hp
  · replace hp := ite_n hp c2
    refine z_aload_n hx hb dX9_isFreeFor_8 rfl (zl_at hl 0 rfl) ?_
    obtain ⟨k3, hp⟩ := ck_i hp
    refine r_get (ci := 10) (C := RX9) (T := TX9) (N := 10) (v := .int (aI h v0 4)) hx hb hm ii_X9 hown hK hR rfl k3 4 (by decide) (hm _ mw_139) (fun _ h9 => h9) rfl dX9_isFreeFor_9 ?_
    refine lv_iload_n hx hb dX9_isFreeFor_12 rfl (zl_at hl 1 rfl) ?_
    refine lv_icmp_ne (tgt := 20) hx hb dX9_isFreeFor_13 (by decide) (fun c4 => ?_) (fun c4 => ?_)
    · replace hp := ite_n hp c4
      refine lv_iconst (v := iI 0) hx hb dX9_isFreeFor_20 rfl ?_
      exact s_X9_isFreeFor_21 C  hR hL (zl_sub hl [] rfl) hp
    · replace hp := ite_p hp c4
      exact s_X9_isFreeFor_16 C  hR hL (zl_sub hl [] rfl) hp
def p_X9_isFreeFor (v0 : Nat) (v1 : Int32) (h : AH) : Option (Int32 × AH) := ck (v0 ≠ 0) <| p_X9_isFreeFor_0 v0 v1 h
theorem c_X9_isFreeFor (l : Launch) (G : GG) (v0 : Nat) (v1 : Int32) (h : AH) (r : Int32) (h' : AH) (hp : p_X9_isFreeFor v0 v1 h = some (r, h')) : Ct l yX9_isFreeFor (.code yX9_isFreeFor cX9_isFreeFor 2 (some .boolean) :: MW) G 1 40 [.ref (v0 - 1), .int v1] h (some (.int r)) h' := by
  obtain ⟨hz0, hp⟩ := ck_i hp
  refine Ct.of (by decide +kernel) (Nat.le_of_ble_eq_true rfl) ?_
  intro p e s m args below meth c C hR ls hl
  have hl : zl ls 2 [(0, zr v0), (1, .int v1)] := ⟨by rw [zr_p hz0]; exact hl, by simp [zr_cat, in_cat]⟩
  exact s_X9_isFreeFor_0 C hR (fun _ hq => nomatch hq) hl hp
/-! CursorKeep$Save.isReady()Z -/
def p_X8_isReady_36  (s0 : Int32) (h : AH) : Option (Int32 × AH) :=
  ck (okZ s0) <|
  some (s0, h)
set_option maxHeartbeats 4000000 in
set_option maxRecDepth 100000 in
theorem s_X8_isReady_36 {p : Program} {l : Launch} {e : Env} {s : State} {m : MethodId} {args : Array Value} {below : List Frame} {meth : Method} {c : Code} {G : GG} {hs : AH} {r : Int32} {h' : AH} (C : Cx G hs p s m args meth c cX8_isReady 1 RX8 (.code yX8_isReady cX8_isReady 1 (some .boolean) :: MW) (some .boolean) "isReady")   {s0 : Int32} {h : AH} {H : Heap} {locs : List Loc} {cells slots : Nat} {ls : Array Slot} (hR : Rp G h H) (hL : ∀ q ∈ locs, gB G ≤ q.base) (hl : zl ls 1 []) (hp : p_X8_isReady_36  s0 h = some (r, h')) : W p l e (gR G hs 2 61) s m args below meth c H locs cells slots (MQ below (Qcc G (some (.int r)) h') args s (gC G - aZ hs) (gS - aU hs) (fun q => gB G ≤ q)) (F0 m 36 ls [.int s0]) := by
  obtain ⟨hx, hb, hml, hown, hts, hT, hK, rs, hlk, hret, hnm⟩ := id C
  have hm : ∀ w ∈ MW, w.before args s = true := fun w hw => hts w (hT w hw)
  unfold p_X8_isReady_36 at hp
  obtain ⟨k1, hp⟩ := ck_i hp
  cases hp
  exact r_zret C hR hL (okZ_n k1) dX8_isReady_36
def p_X8_isReady_35   (h : AH) : Option (Int32 × AH) :=
  p_X8_isReady_36  (iI 0) h
set_option maxHeartbeats 4000000 in
set_option maxRecDepth 100000 in
theorem s_X8_isReady_35 {p : Program} {l : Launch} {e : Env} {s : State} {m : MethodId} {args : Array Value} {below : List Frame} {meth : Method} {c : Code} {G : GG} {hs : AH} {r : Int32} {h' : AH} (C : Cx G hs p s m args meth c cX8_isReady 1 RX8 (.code yX8_isReady cX8_isReady 1 (some .boolean) :: MW) (some .boolean) "isReady")    {h : AH} {H : Heap} {locs : List Loc} {cells slots : Nat} {ls : Array Slot} (hR : Rp G h H) (hL : ∀ q ∈ locs, gB G ≤ q.base) (hl : zl ls 1 []) (hp : p_X8_isReady_35   h = some (r, h')) : W p l e (gR G hs 2 61) s m args below meth c H locs cells slots (MQ below (Qcc G (some (.int r)) h') args s (gC G - aZ hs) (gS - aU hs) (fun q => gB G ≤ q)) (F0 m 35 ls []) := by
  obtain ⟨hx, hb, hml, hown, hts, hT, hK, rs, hlk, hret, hnm⟩ := id C
  have hm : ∀ w ∈ MW, w.before args s = true := fun w hw => hts w (hT w hw)
  unfold p_X8_isReady_35 at hp
  refine lv_iconst (v := iI 0) hx hb dX8_isReady_35 rfl ?_
  exact s_X8_isReady_36 C  hR hL (zl_sub hl [] rfl) hp
def p_X8_isReady_17  (v0 : Nat) (h : AH) : Option (Int32 × AH) :=
  ck (aK h v0 = 10) <|
  ck (aK h v0 = 10) <|
  ck (aK h (aR h v0 1) = 11) <|
  bR (p_X9_isFreeFor (aR h v0 1) (aI h v0 2) h) fun r4 h5 =>
  if r4 = 0 then
    p_X8_isReady_35   h5
  else
    p_X8_isReady_36  (iI 1) h5
set_option maxHeartbeats 4000000 in
set_option maxRecDepth 100000 in
theorem s_X8_isReady_17 {p : Program} {l : Launch} {e : Env} {s : State} {m : MethodId} {args : Array Value} {below : List Frame} {meth : Method} {c : Code} {G : GG} {hs : AH} {r : Int32} {h' : AH} (C : Cx G hs p s m args meth c cX8_isReady 1 RX8 (.code yX8_isReady cX8_isReady 1 (some .boolean) :: MW) (some .boolean) "isReady")   {v0 : Nat} {h : AH} {H : Heap} {locs : List Loc} {cells slots : Nat} {ls : Array Slot} (hR : Rp G h H) (hL : ∀ q ∈ locs, gB G ≤ q.base) (hl : zl ls 1 [(0, zr v0)]) (hp : p_X8_isReady_17  v0 h = some (r, h')) : W p l e (gR G hs 2 61) s m args below meth c H locs cells slots (MQ below (Qcc G (some (.int r)) h') args s (gC G - aZ hs) (gS - aU hs) (fun q => gB G ≤ q)) (F0 m 17 ls []) := by
  obtain ⟨hx, hb, hml, hown, hts, hT, hK, rs, hlk, hret, hnm⟩ := id C
  have hm : ∀ w ∈ MW, w.before args s = true := fun w hw => hts w (hT w hw)
  unfold p_X8_isReady_17 at hp
  refine z_aload_n hx hb dX8_isReady_17 rfl (zl_at hl 0 rfl) ?_
  obtain ⟨k1, hp⟩ := ck_i hp
  refine r_get (ci := 9) (C := RX8) (T := TX8) (N := 4) (v := zr (aR h v0 1)) hx hb hm ii_X8 hown hK hR rfl k1 1 (by decide) (hm _ mw_928) (fun _ h9 => h9) rfl dX8_isReady_18 ?_
  refine z_aload_n hx hb dX8_isReady_21 rfl (zl_at hl 0 rfl) ?_
  obtain ⟨k2, hp⟩ := ck_i hp
  refine r_get (ci := 9) (C := RX8) (T := TX8) (N := 4) (v := .int (aI h v0 2)) hx hb hm ii_X8 hown hK hR rfl k2 2 (by decide) (hm _ mw_930) (fun _ h9 => h9) rfl dX8_isReady_22 ?_
  obtain ⟨k3, hp⟩ := ck_i hp
  obtain ⟨r4, h5, er4, hp⟩ := bR_i hp
  refine r_callV (ci := 10) (r := (RX9, TX9, 10)) (n := 1) (As := [.int (aI h v0 2)]) (rest := []) C (c_X9_isFreeFor l G (aR h v0 1) (aI h v0 2) h r4 h5 er4) hR hL rfl k3 mw_243 mw_244 mw_245 mw_7 mw_246 (by decide +kernel) (by decide) rfl (zl_size hl) rfl (by simp [zr_cat, in_cat]) dX8_isReady_25 (st2 := [.int r4]) rfl (fun H locs cells slots hR hL => ?_)
  refine lv_if_eq (tgt := 35) hx hb dX8_isReady_28 (by decide) (fun c6 => ?_) (fun c6 => ?_)
  · replace hp := ite_p hp c6
    exact s_X8_isReady_35 C  hR hL (zl_sub hl [] rfl) hp
  · replace hp := ite_n hp c6
    refine lv_iconst (v := iI 1) hx hb dX8_isReady_31 rfl ?_
    refine lv_goto (tgt := 36) hx hb dX8_isReady_32 (by decide) ?_
    exact s_X8_isReady_36 C  hR hL (zl_sub hl [] rfl) hp
def p_X8_isReady_0  (v0 : Nat) (h : AH) : Option (Int32 × AH) :=
  ck (aK h v0 = 10) <|
  if (aR h v0 3) = 0 then
    p_X8_isReady_17  v0 h
  else
    ck (aK h v0 = 10) <|
    ck (aK h (aR h v0 3) = 5) <|
    if (aI h (aR h v0 3) 2) = 0 then
      p_X8_isReady_35   h
    else
      p_X8_isReady_17  v0 h
set_option maxHeartbeats 4000000 in
set_option maxRecDepth 100000 in
theorem s_X8_isReady_0 {p : Program} {l : Launch} {e : Env} {s : State} {m : MethodId} {args : Array Value} {below : List Frame} {meth : Method} {c : Code} {G : GG} {hs : AH} {r : Int32} {h' : AH} (C : Cx G hs p s m args meth c cX8_isReady 1 RX8 (.code yX8_isReady cX8_isReady 1 (some .boolean) :: MW) (some .boolean) "isReady")   {v0 : Nat} {h : AH} {H : Heap} {locs : List Loc} {cells slots : Nat} {ls : Array Slot} (hR : Rp G h H) (hL : ∀ q ∈ locs, gB G ≤ q.base) (hl : zl ls 1 [(0, zr v0)]) (hp : p_X8_isReady_0  v0 h = some (r, h')) : W p l e (gR G hs 2 61) s m args below meth c H locs cells slots (MQ below (Qcc G (some (.int r)) h') args s (gC G - aZ hs) (gS - aU hs) (fun q => gB G ≤ q)) (F0 m 0 ls []) := by
  obtain ⟨hx, hb, hml, hown, hts, hT, hK, rs, hlk, hret, hnm⟩ := id C
  have hm : ∀ w ∈ MW, w.before args s = true := fun w hw => hts w (hT w hw)
  unfold p_X8_isReady_0 at hp
  refine z_aload_n hx hb dX8_isReady_0 rfl (zl_at hl 0 rfl) ?_
  obtain ⟨k1, hp⟩ := ck_i hp
  refine r_get (ci := 9) (C := RX8) (T := TX8) (N := 4) (v := zr (aR h v0 3)) hx hb hm ii_X8 hown hK hR rfl k1 3 (by decide) (hm _ mw_931) (fun _ h9 => h9) rfl dX8_isReady_1 ?_
  refine z_ifnull (tgt := 17) hx hb dX8_isReady_4 (by decide) (fun c2 => ?_) (fun c2 => ?_)
  · replace hp := ite_p hp c2
    exact s_X8_isReady_17 C  hR hL (zl_sub hl [0] rfl) hp
  · replace hp := ite_n hp c2
    refine z_aload_n hx hb dX8_isReady_7 rfl (zl_at hl 0 rfl) ?_
    obtain ⟨k3, hp⟩ := ck_i hp
    refine r_get (ci := 9) (C := RX8) (T := TX8) (N := 4) (v := zr (aR h v0 3)) hx hb hm ii_X8 hown hK hR rfl k3 3 (by decide) (hm _ mw_931) (fun _ h9 => h9) rfl dX8_isReady_8 ?_
    obtain ⟨k4, hp⟩ := ck_i hp
    refine r_get (ci := 4) (C := RX3) (T := TX3) (N := 4) (v := .int (aI h (aR h v0 3) 2)) hx hb hm ii_X3 hown hK hR rfl k4 2 (by decide) (hm _ mw_809) (fun _ h9 => h9) rfl dX8_isReady_11 ?_
    refine lv_if_eq (tgt := 35) hx hb dX8_isReady_14 (by decide) (fun c5 => ?_) (fun c5 => ?_)
    · replace hp := ite_p hp c5
      exact s_X8_isReady_35 C  hR hL (zl_sub hl [] rfl) hp
    · replace hp := ite_n hp c5
      exact s_X8_isReady_17 C  hR hL (zl_sub hl [0] rfl) hp
def p_X8_isReady (v0 : Nat) (h : AH) : Option (Int32 × AH) := ck (v0 ≠ 0) <| p_X8_isReady_0 v0 h
theorem c_X8_isReady (l : Launch) (G : GG) (v0 : Nat) (h : AH) (r : Int32) (h' : AH) (hp : p_X8_isReady v0 h = some (r, h')) : Ct l yX8_isReady (.code yX8_isReady cX8_isReady 1 (some .boolean) :: MW) G 2 61 [.ref (v0 - 1)] h (some (.int r)) h' := by
  obtain ⟨hz0, hp⟩ := ck_i hp
  refine Ct.of (by decide +kernel) (Nat.le_of_ble_eq_true rfl) ?_
  intro p e s m args below meth c C hR ls hl
  have hl : zl ls 1 [(0, zr v0)] := ⟨by rw [zr_p hz0]; exact hl, by simp [zr_cat, in_cat]⟩
  exact s_X8_isReady_0 C hR (fun _ hq => nomatch hq) hl hp
/-! CursorKeep$Text.<init>(I)V -/
def p_X9_init_70  : Nat → Nat → Int32 → AH → Option (Unit × AH)
  | 0, _, _, _ => none
  | n + 1, v0, v2, h =>
    if (iI 5) ≤ v2 then
      some ((), h)
    else
      ck (aK h v0 = 11) <|
      ck (aK h (aR h v0 9) = 20 ∧ ix v2 (aN h (aR h v0 9))) <|
      nm (uI h (aR h v0 9) v2.toNatClampNeg (iI (-1))) fun h5 =>
      nm (v2 + iI 1) fun (x6 : Int32) =>
      p_X9_init_70  n v0 x6 h5
set_option maxHeartbeats 4000000 in
set_option maxRecDepth 100000 in
theorem s_X9_init_70 {p : Program} {l : Launch} {e : Env} {s : State} {m : MethodId} {args : Array Value} {below : List Frame} {meth : Method} {c : Code} {G : GG} {hs : AH} {r : Unit} {h' : AH} (C : Cx G hs p s m args meth c cX9_init 3 RX9 (.code yX9_init cX9_init 3 none :: MW) none "<init>")   : ∀ (n : Nat) (v0 : Nat) (v2 : Int32) (h : AH) (H : Heap) (locs : List Loc) (cells slots : Nat) (ls : Array Slot) (hR : Rp G h H) (hL : ∀ q ∈ locs, gB G ≤ q.base) (hl : zl ls 3 [(0, zr v0), (2, .int v2)]) (hp : p_X9_init_70  n v0 v2 h = some (r, h')), W p l e (gR G hs 4 100) s m args below meth c H locs cells slots (MQ below (Qcc G (none) h') args s (gC G - aZ hs) (gS - aU hs) (fun q => gB G ≤ q)) (F0 m 70 ls []) := by
  obtain ⟨hx, hb, hml, hown, hts, hT, hK, rs, hlk, hret, hnm⟩ := id C
  have hm : ∀ w ∈ MW, w.before args s = true := fun w hw => hts w (hT w hw)
  intro n
  induction n with
  | zero =>
    intro v0 v2 h H locs cells slots ls hR hL hl hp
    exact absurd (show none = some (r, h') from hp) (by simp)
  | succ n ih =>
    intro v0 v2 h H locs cells slots ls hR hL hl hp
    rw [p_X9_init_70.eq_2] at hp
    refine lv_iload_n hx hb dX9_init_70 rfl (zl_at hl 1 rfl) ?_
    refine lv_iconst (v := iI 5) hx hb dX9_init_71 rfl ?_
    refine lv_icmp_ge (tgt := 88) hx hb dX9_init_72 (by decide) (fun c1 => ?_) (fun c1 => ?_)
    · replace hp := ite_p hp c1
      cases hp
      exact r_vret C hR hL dX9_init_88
    · replace hp := ite_n hp c1
      refine z_aload_n hx hb dX9_init_75 rfl (zl_at hl 0 rfl) ?_
      obtain ⟨k2, hp⟩ := ck_i hp
      refine r_get (ci := 10) (C := RX9) (T := TX9) (N := 10) (v := zr (aR h v0 9)) hx hb hm ii_X9 hown hK hR rfl k2 9 (by decide) (hm _ mw_147) (fun _ h9 => h9) rfl dX9_init_76 ?_
      refine lv_iload_n hx hb dX9_init_79 rfl (zl_at hl 1 rfl) ?_
      refine lv_iconst (v := iI (-1)) hx hb dX9_init_80 rfl ?_
      obtain ⟨k3, hp⟩ := ck_i hp
      refine r_iast hx hb hK hR hL k3.1 k3.2 dX9_init_81 (fun H locs hR hL => ?_)
      obtain ⟨h5, hp, hR⟩ := nm_h hp hR
      obtain ⟨x6, ex6⟩ : ∃ y : Int32, y = v2 + iI 1 := ⟨_, rfl⟩
      replace hp := nm_i hp ex6
      refine z_iinc (v := x6) (lv' := [(2, .int x6), (0, zr v0)]) hx hb dX9_init_82 hl (k := 1) rfl ex6 (by decide) rfl (fun ls hl => ?_)
      refine lv_goto (tgt := 70) hx hb dX9_init_85 (by decide) ?_
      exact ih _ _ _ _ _ _ _ _ hR hL (zl_sub hl [1, 0] rfl) hp
def p_X9_init_0  (v0 : Nat) (v1 : Int32) (h : AH) : Option (Unit × AH) :=
  ck (v0 ≠ 0) <|
  ck (aZ h + 1 ≤ aC h ∧ aU h + 4 ≤ gS) <|
  nm (uN h 9 4) fun h3 =>
  ck (aK h3 (aZ h) ≠ 0) <|
  bR (p_X7_init (aZ h) h3) fun r5 h6 =>
  ck (aK h6 v0 = 11) <|
  nm (uR h6 v0 1 (aZ h)) fun h8 =>
  ck ((0 ≤ (iI 150) ∧ (iI 150).toNatClampNeg ≤ 100000) ∧ aZ h8 + 1 ≤ aC h8 ∧ aU h8 + (iI 150).toNatClampNeg ≤ gS) <|
  nm (uN h8 21 (iI 150).toNatClampNeg) fun h11 =>
  ck (aK h11 v0 = 11) <|
  nm (uR h11 v0 2 (aZ h8)) fun h13 =>
  ck (aK h13 v0 = 11) <|
  nm (uI h13 v0 4 (iI (-1))) fun h15 =>
  ck (aK h15 v0 = 11) <|
  nm (uI h15 v0 5 (iI (-1))) fun h17 =>
  ck (aZ h17 + 1 ≤ aC h17 ∧ aU h17 + 4 ≤ gS) <|
  nm (uN h17 9 4) fun h19 =>
  ck (aK h19 (aZ h17) ≠ 0) <|
  bR (p_X7_init (aZ h17) h19) fun r21 h22 =>
  ck (aK h22 v0 = 11) <|
  nm (uR h22 v0 7 (aZ h17)) fun h24 =>
  ck (aZ h24 + 1 ≤ aC h24 ∧ aU h24 + 3 ≤ gS) <|
  nm (uN h24 1 3) fun h26 =>
  ck (aK h26 (aZ h24) ≠ 0) <|
  bR (p_Jx4a65c_init_da8c8 (aZ h24) h26) fun r28 h29 =>
  ck (aK h29 v0 = 11) <|
  nm (uR h29 v0 8 (aZ h24)) fun h31 =>
  ck ((0 ≤ (iI 5) ∧ (iI 5).toNatClampNeg ≤ 100000) ∧ aZ h31 + 1 ≤ aC h31 ∧ aU h31 + (iI 5).toNatClampNeg ≤ gS) <|
  nm (uN h31 20 (iI 5).toNatClampNeg) fun h34 =>
  ck (aK h34 v0 = 11) <|
  nm (uR h34 v0 9 (aZ h31)) fun h36 =>
  ck (aK h36 v0 = 11) <|
  nm (uI h36 v0 0 v1) fun h38 =>
  nm ((iI 0)) fun (x39 : Int32) =>
  p_X9_init_70  FU v0 x39 h38
set_option maxHeartbeats 4000000 in
set_option maxRecDepth 100000 in
theorem s_X9_init_0 {p : Program} {l : Launch} {e : Env} {s : State} {m : MethodId} {args : Array Value} {below : List Frame} {meth : Method} {c : Code} {G : GG} {hs : AH} {r : Unit} {h' : AH} (C : Cx G hs p s m args meth c cX9_init 3 RX9 (.code yX9_init cX9_init 3 none :: MW) none "<init>")   {v0 : Nat} {v1 : Int32} {h : AH} {H : Heap} {locs : List Loc} {cells slots : Nat} {ls : Array Slot} (hR : Rp G h H) (hL : ∀ q ∈ locs, gB G ≤ q.base) (hl : zl ls 3 [(0, zr v0), (1, .int v1)]) (hp : p_X9_init_0  v0 v1 h = some (r, h')) : W p l e (gR G hs 4 100) s m args below meth c H locs cells slots (MQ below (Qcc G (none) h') args s (gC G - aZ hs) (gS - aU hs) (fun q => gB G ≤ q)) (F0 m 0 ls []) := by
  obtain ⟨hx, hb, hml, hown, hts, hT, hK, rs, hlk, hret, hnm⟩ := id C
  have hm : ∀ w ∈ MW, w.before args s = true := fun w hw => hts w (hT w hw)
  unfold p_X9_init_0 at hp
  refine z_aload_n hx hb dX9_init_0 rfl (zl_at hl 0 rfl) ?_
  obtain ⟨k1, hp⟩ := ck_i hp
  refine r_objInit C k1 (hm _ mw_107) (hm _ mw_33) (hm _ mw_34) (zl_size hl) dX9_init_1 (by decide) (by simp [zr_cat, in_cat]) ?_
  refine z_aload_n hx hb dX9_init_4 rfl (zl_at hl 0 rfl) ?_
  obtain ⟨k2, hp⟩ := ck_i hp
  refine r_new (ci := 8) (C := RX7) (T := TX7) (N := 4) (ty0 := tyX7) C hR hL rfl ii_X7 tyX7_ok (fun _ => rfl) (by decide +kernel) mw_108 mw_109 mw_8 k2 dX9_init_5 (fun H cells slots hR => ?_)
  obtain ⟨h3, hp, hR⟩ := nm_h hp hR
  refine lv_dup hx hb dX9_init_8 (zr_cat _) ?_
  obtain ⟨k4, hp⟩ := ck_i hp
  obtain ⟨r5, h6, er5, hp⟩ := bR_i hp
  refine r_callI (n := 0) (As := []) (rest := [zr (aZ h), zr v0]) C (c_X7_init l G (aZ h) h3 r5 h6 er5) hR hL k4 mw_110 mw_111 mw_8 mw_112 rfl (by decide +kernel) (by decide) rfl (zl_size hl) rfl (by simp [zr_cat, in_cat]) dX9_init_9 (st2 := [zr (aZ h), zr v0]) rfl (fun H locs cells slots hR hL => ?_)
  obtain ⟨k7, hp⟩ := ck_i hp
  refine r_putR (ci := 10) (C := RX9) (T := TX9) (N := 10) hx hb hm ii_X9 tyX9_ok nmX9 hown hK hR hL rfl k7 1 (by decide) (hm _ mw_131) (fun _ h9 => h9) (Or.inr ⟨rfl, hnm, rfl⟩) (zr_fitsO _ _) (fun _ _ _ => rfl) dX9_init_12 (fun H locs hR hL => ?_)
  obtain ⟨h8, hp, hR⟩ := nm_h hp hR
  refine z_aload_n hx hb dX9_init_15 rfl (zl_at hl 0 rfl) ?_
  refine lv_sipush (v := iI 150) hx hb dX9_init_16 (by decide +kernel) ?_
  obtain ⟨k9, hp⟩ := ck_i hp
  refine r_newa (t := 1) (by decide) rfl (fun _ h9 => nomatch (show FieldType.char = _ from h9)) rfl C hR mw_85 k9.1 k9.2 dX9_init_19 (fun H cells slots hR => ?_)
  obtain ⟨h11, hp, hR⟩ := nm_h hp hR
  obtain ⟨k12, hp⟩ := ck_i hp
  refine r_putR (ci := 10) (C := RX9) (T := TX9) (N := 10) hx hb hm ii_X9 tyX9_ok nmX9 hown hK hR hL rfl k12 2 (by decide) (hm _ mw_134) (fun _ h9 => h9) (Or.inr ⟨rfl, hnm, rfl⟩) (zr_fitsA _ _) (fun _ _ _ => rfl) dX9_init_21 (fun H locs hR hL => ?_)
  obtain ⟨h13, hp, hR⟩ := nm_h hp hR
  refine z_aload_n hx hb dX9_init_24 rfl (zl_at hl 0 rfl) ?_
  refine lv_iconst (v := iI (-1)) hx hb dX9_init_25 rfl ?_
  obtain ⟨k14, hp⟩ := ck_i hp
  refine r_putI (ci := 10) (C := RX9) (T := TX9) (N := 10) hx hb hm ii_X9 tyX9_ok nmX9 hown hK hR hL rfl k14 4 (by decide) (hm _ mw_139) (fun _ h9 => h9) (Or.inl rfl) rfl rfl (fun _ _ _ => rfl) dX9_init_26 (fun H locs hR hL => ?_)
  obtain ⟨h15, hp, hR⟩ := nm_h hp hR
  refine z_aload_n hx hb dX9_init_29 rfl (zl_at hl 0 rfl) ?_
  refine lv_iconst (v := iI (-1)) hx hb dX9_init_30 rfl ?_
  obtain ⟨k16, hp⟩ := ck_i hp
  refine r_putI (ci := 10) (C := RX9) (T := TX9) (N := 10) hx hb hm ii_X9 tyX9_ok nmX9 hown hK hR hL rfl k16 5 (by decide) (hm _ mw_141) (fun _ h9 => h9) (Or.inl rfl) rfl rfl (fun _ _ _ => rfl) dX9_init_31 (fun H locs hR hL => ?_)
  obtain ⟨h17, hp, hR⟩ := nm_h hp hR
  refine z_aload_n hx hb dX9_init_34 rfl (zl_at hl 0 rfl) ?_
  obtain ⟨k18, hp⟩ := ck_i hp
  refine r_new (ci := 8) (C := RX7) (T := TX7) (N := 4) (ty0 := tyX7) C hR hL rfl ii_X7 tyX7_ok (fun _ => rfl) (by decide +kernel) mw_108 mw_109 mw_8 k18 dX9_init_35 (fun H cells slots hR => ?_)
  obtain ⟨h19, hp, hR⟩ := nm_h hp hR
  refine lv_dup hx hb dX9_init_38 (zr_cat _) ?_
  obtain ⟨k20, hp⟩ := ck_i hp
  obtain ⟨r21, h22, er21, hp⟩ := bR_i hp
  refine r_callI (n := 0) (As := []) (rest := [zr (aZ h17), zr v0]) C (c_X7_init l G (aZ h17) h19 r21 h22 er21) hR hL k20 mw_110 mw_111 mw_8 mw_112 rfl (by decide +kernel) (by decide) rfl (zl_size hl) rfl (by simp [zr_cat, in_cat]) dX9_init_39 (st2 := [zr (aZ h17), zr v0]) rfl (fun H locs cells slots hR hL => ?_)
  obtain ⟨k23, hp⟩ := ck_i hp
  refine r_putR (ci := 10) (C := RX9) (T := TX9) (N := 10) hx hb hm ii_X9 tyX9_ok nmX9 hown hK hR hL rfl k23 7 (by decide) (hm _ mw_145) (fun _ h9 => h9) (Or.inr ⟨rfl, hnm, rfl⟩) (zr_fitsO _ _) (fun _ _ _ => rfl) dX9_init_42 (fun H locs hR hL => ?_)
  obtain ⟨h24, hp, hR⟩ := nm_h hp hR
  refine z_aload_n hx hb dX9_init_45 rfl (zl_at hl 0 rfl) ?_
  obtain ⟨k25, hp⟩ := ck_i hp
  refine r_new (ci := 0) (C := RJx4a65c) (T := TJx4a65c) (N := 3) (ty0 := tyJx4a65c) C hR hL rfl ii_Jx4a65c tyJx4a65c_ok (fun _ => rfl) (by decide +kernel) mw_127 mw_40 mw_4 k25 dX9_init_46 (fun H cells slots hR => ?_)
  obtain ⟨h26, hp, hR⟩ := nm_h hp hR
  refine lv_dup hx hb dX9_init_49 (zr_cat _) ?_
  obtain ⟨k27, hp⟩ := ck_i hp
  obtain ⟨r28, h29, er28, hp⟩ := bR_i hp
  refine r_callI (n := 0) (As := []) (rest := [zr (aZ h24), zr v0]) C (c_Jx4a65c_init_da8c8 l G (aZ h24) h26 r28 h29 er28) hR hL k27 mw_128 mw_42 mw_4 mw_43 rfl (by decide +kernel) (by decide) rfl (zl_size hl) rfl (by simp [zr_cat, in_cat]) dX9_init_50 (st2 := [zr (aZ h24), zr v0]) rfl (fun H locs cells slots hR hL => ?_)
  obtain ⟨k30, hp⟩ := ck_i hp
  refine r_putR (ci := 10) (C := RX9) (T := TX9) (N := 10) hx hb hm ii_X9 tyX9_ok nmX9 hown hK hR hL rfl k30 8 (by decide) (hm _ mw_146) (fun _ h9 => h9) (Or.inr ⟨rfl, hnm, rfl⟩) (zr_fitsO _ _) (fun _ _ _ => rfl) dX9_init_53 (fun H locs hR hL => ?_)
  obtain ⟨h31, hp, hR⟩ := nm_h hp hR
  refine z_aload_n hx hb dX9_init_56 rfl (zl_at hl 0 rfl) ?_
  refine lv_iconst (v := iI 5) hx hb dX9_init_57 rfl ?_
  obtain ⟨k32, hp⟩ := ck_i hp
  refine r_newa (t := 0) (by decide) rfl (fun _ h9 => nomatch (show FieldType.int = _ from h9)) rfl C hR mw_84 k32.1 k32.2 dX9_init_58 (fun H cells slots hR => ?_)
  obtain ⟨h34, hp, hR⟩ := nm_h hp hR
  obtain ⟨k35, hp⟩ := ck_i hp
  refine r_putR (ci := 10) (C := RX9) (T := TX9) (N := 10) hx hb hm ii_X9 tyX9_ok nmX9 hown hK hR hL rfl k35 9 (by decide) (hm _ mw_147) (fun _ h9 => h9) (Or.inr ⟨rfl, hnm, rfl⟩) (zr_fitsA _ _) (fun _ _ _ => rfl) dX9_init_60 (fun H locs hR hL => ?_)
  obtain ⟨h36, hp, hR⟩ := nm_h hp hR
  refine z_aload_n hx hb dX9_init_63 rfl (zl_at hl 0 rfl) ?_
  refine lv_iload_n hx hb dX9_init_64 rfl (zl_at hl 1 rfl) ?_
  obtain ⟨k37, hp⟩ := ck_i hp
  refine r_putI (ci := 10) (C := RX9) (T := TX9) (N := 10) hx hb hm ii_X9 tyX9_ok nmX9 hown hK hR hL rfl k37 0 (by decide) (hm _ mw_129) (fun _ h9 => h9) (Or.inr ⟨rfl, hnm, rfl⟩) rfl rfl (fun _ _ _ => rfl) dX9_init_65 (fun H locs hR hL => ?_)
  obtain ⟨h38, hp, hR⟩ := nm_h hp hR
  refine lv_iconst (v := iI 0) hx hb dX9_init_68 rfl ?_
  refine lv_topi (fun x39 ex39 => ?_)
  replace hp := nm_i hp ex39
  refine z_istore_n (lv' := [(2, .int x39), (0, zr v0), (1, .int v1)]) hx hb dX9_init_69 rfl hl (by decide) rfl (fun ls hl => ?_)
  exact s_X9_init_70 C  _ _ _ _ _ _ _ _ _ hR hL (zl_sub hl [1, 0] rfl) hp
def p_X9_init (v0 : Nat) (v1 : Int32) (h : AH) : Option (Unit × AH) := ck (v0 ≠ 0) <| p_X9_init_0 v0 v1 h
theorem c_X9_init (l : Launch) (G : GG) (v0 : Nat) (v1 : Int32) (h : AH) (r : Unit) (h' : AH) (hp : p_X9_init v0 v1 h = some (r, h')) : Ct l yX9_init (.code yX9_init cX9_init 3 none :: MW) G 4 100 [.ref (v0 - 1), .int v1] h (none) h' := by
  obtain ⟨hz0, hp⟩ := ck_i hp
  refine Ct.of (by decide +kernel) (Nat.le_of_ble_eq_true rfl) ?_
  intro p e s m args below meth c C hR ls hl
  have hl : zl ls 3 [(0, zr v0), (1, .int v1)] := ⟨by rw [zr_p hz0]; exact hl, by simp [zr_cat, in_cat]⟩
  exact s_X9_init_0 C hR (fun _ hq => nomatch hq) hl hp
/-! CursorKeep$Text.cursorSpot(I)I -/
def p_X9_cursorSpot_23  (s0 : Nat) (s1 : Int32) (h : AH) : Option (Int32 × AH) :=
  ck (aK h s0 = 9) <|
  bR (p_X7_spotOf s0 s1 h) fun r2 h3 =>
  some (r2, h3)
set_option maxHeartbeats 4000000 in
set_option maxRecDepth 100000 in
theorem s_X9_cursorSpot_23 {p : Program} {l : Launch} {e : Env} {s : State} {m : MethodId} {args : Array Value} {below : List Frame} {meth : Method} {c : Code} {G : GG} {hs : AH} {r : Int32} {h' : AH} (C : Cx G hs p s m args meth c cX9_cursorSpot 2 RX9 (.code yX9_cursorSpot cX9_cursorSpot 2 (some .int) :: MW) (some .int) "cursorSpot")   {s0 : Nat} {s1 : Int32} {h : AH} {H : Heap} {locs : List Loc} {cells slots : Nat} {ls : Array Slot} (hR : Rp G h H) (hL : ∀ q ∈ locs, gB G ≤ q.base) (hl : zl ls 2 []) (hp : p_X9_cursorSpot_23  s0 s1 h = some (r, h')) : W p l e (gR G hs 2 62) s m args below meth c H locs cells slots (MQ below (Qcc G (some (.int r)) h') args s (gC G - aZ hs) (gS - aU hs) (fun q => gB G ≤ q)) (F0 m 23 ls [.int s1, zr s0]) := by
  obtain ⟨hx, hb, hml, hown, hts, hT, hK, rs, hlk, hret, hnm⟩ := id C
  have hm : ∀ w ∈ MW, w.before args s = true := fun w hw => hts w (hT w hw)
  unfold p_X9_cursorSpot_23 at hp
  obtain ⟨k1, hp⟩ := ck_i hp
  obtain ⟨r2, h3, er2, hp⟩ := bR_i hp
  refine r_callV (ci := 8) (r := (RX7, TX7, 4)) (n := 1) (As := [.int s1]) (rest := []) C (c_X7_spotOf l G s0 s1 h r2 h3 er2) hR hL rfl k1 mw_438 mw_439 mw_440 mw_8 mw_441 (by decide +kernel) (by decide) rfl (zl_size hl) rfl (by simp [zr_cat, in_cat]) dX9_cursorSpot_23 (st2 := [.int r2]) rfl (fun H locs cells slots hR hL => ?_)
  cases hp
  exact r_zret C hR hL rfl dX9_cursorSpot_26
def p_X9_cursorSpot_22  (s0 : Nat) (h : AH) : Option (Int32 × AH) :=
  p_X9_cursorSpot_23  s0 (iI (-1)) h
set_option maxHeartbeats 4000000 in
set_option maxRecDepth 100000 in
theorem s_X9_cursorSpot_22 {p : Program} {l : Launch} {e : Env} {s : State} {m : MethodId} {args : Array Value} {below : List Frame} {meth : Method} {c : Code} {G : GG} {hs : AH} {r : Int32} {h' : AH} (C : Cx G hs p s m args meth c cX9_cursorSpot 2 RX9 (.code yX9_cursorSpot cX9_cursorSpot 2 (some .int) :: MW) (some .int) "cursorSpot")   {s0 : Nat} {h : AH} {H : Heap} {locs : List Loc} {cells slots : Nat} {ls : Array Slot} (hR : Rp G h H) (hL : ∀ q ∈ locs, gB G ≤ q.base) (hl : zl ls 2 []) (hp : p_X9_cursorSpot_22  s0 h = some (r, h')) : W p l e (gR G hs 2 62) s m args below meth c H locs cells slots (MQ below (Qcc G (some (.int r)) h') args s (gC G - aZ hs) (gS - aU hs) (fun q => gB G ≤ q)) (F0 m 22 ls [zr s0]) := by
  obtain ⟨hx, hb, hml, hown, hts, hT, hK, rs, hlk, hret, hnm⟩ := id C
  have hm : ∀ w ∈ MW, w.before args s = true := fun w hw => hts w (hT w hw)
  unfold p_X9_cursorSpot_22 at hp
  refine lv_iconst (v := iI (-1)) hx hb dX9_cursorSpot_22 rfl ?_
  exact s_X9_cursorSpot_23 C  hR hL (zl_sub hl [] rfl) hp
def p_X9_cursorSpot_0  (v0 : Nat) (v1 : Int32) (h : AH) : Option (Int32 × AH) :=
  ck (aK h v0 = 11) <|
  if v1 < 0 then
    p_X9_cursorSpot_22  (aR h v0 1) h
  else
    if (iI 5) ≤ v1 then
      p_X9_cursorSpot_22  (aR h v0 1) h
    else
      ck (aK h v0 = 11) <|
      ck (aK h (aR h v0 9) = 20 ∧ ix v1 (aN h (aR h v0 9))) <|
      p_X9_cursorSpot_23  (aR h v0 1) (aI h (aR h v0 9) v1.toNatClampNeg) h
set_option maxHeartbeats 4000000 in
set_option maxRecDepth 100000 in
theorem s_X9_cursorSpot_0 {p : Program} {l : Launch} {e : Env} {s : State} {m : MethodId} {args : Array Value} {below : List Frame} {meth : Method} {c : Code} {G : GG} {hs : AH} {r : Int32} {h' : AH} (C : Cx G hs p s m args meth c cX9_cursorSpot 2 RX9 (.code yX9_cursorSpot cX9_cursorSpot 2 (some .int) :: MW) (some .int) "cursorSpot")   {v0 : Nat} {v1 : Int32} {h : AH} {H : Heap} {locs : List Loc} {cells slots : Nat} {ls : Array Slot} (hR : Rp G h H) (hL : ∀ q ∈ locs, gB G ≤ q.base) (hl : zl ls 2 [(0, zr v0), (1, .int v1)]) (hp : p_X9_cursorSpot_0  v0 v1 h = some (r, h')) : W p l e (gR G hs 2 62) s m args below meth c H locs cells slots (MQ below (Qcc G (some (.int r)) h') args s (gC G - aZ hs) (gS - aU hs) (fun q => gB G ≤ q)) (F0 m 0 ls []) := by
  obtain ⟨hx, hb, hml, hown, hts, hT, hK, rs, hlk, hret, hnm⟩ := id C
  have hm : ∀ w ∈ MW, w.before args s = true := fun w hw => hts w (hT w hw)
  unfold p_X9_cursorSpot_0 at hp
  refine z_aload_n hx hb dX9_cursorSpot_0 rfl (zl_at hl 0 rfl) ?_
  obtain ⟨k1, hp⟩ := ck_i hp
  refine r_get (ci := 10) (C := RX9) (T := TX9) (N := 10) (v := zr (aR h v0 1)) hx hb hm ii_X9 hown hK hR rfl k1 1 (by decide) (hm _ mw_131) (fun _ h9 => h9) rfl dX9_cursorSpot_1 ?_
  refine lv_iload_n hx hb dX9_cursorSpot_4 rfl (zl_at hl 1 rfl) ?_
  refine lv_if_lt (tgt := 22) hx hb dX9_cursorSpot_5 (by decide) (fun c2 => ?_) (fun c2 => ?_)
  · replace hp := ite_p hp c2
    exact s_X9_cursorSpot_22 C  hR hL (zl_sub hl [] rfl) hp
  · replace hp := ite_n hp c2
    refine lv_iload_n hx hb dX9_cursorSpot_8 rfl (zl_at hl 1 rfl) ?_
    refine lv_iconst (v := iI 5) hx hb dX9_cursorSpot_9 rfl ?_
    refine lv_icmp_ge (tgt := 22) hx hb dX9_cursorSpot_10 (by decide) (fun c3 => ?_) (fun c3 => ?_)
    · replace hp := ite_p hp c3
      exact s_X9_cursorSpot_22 C  hR hL (zl_sub hl [] rfl) hp
    · replace hp := ite_n hp c3
      refine z_aload_n hx hb dX9_cursorSpot_13 rfl (zl_at hl 0 rfl) ?_
      obtain ⟨k4, hp⟩ := ck_i hp
      refine r_get (ci := 10) (C := RX9) (T := TX9) (N := 10) (v := zr (aR h v0 9)) hx hb hm ii_X9 hown hK hR rfl k4 9 (by decide) (hm _ mw_147) (fun _ h9 => h9) rfl dX9_cursorSpot_14 ?_
      refine lv_iload_n hx hb dX9_cursorSpot_17 rfl (zl_at hl 1 rfl) ?_
      obtain ⟨k5, hp⟩ := ck_i hp
      refine r_iald hx hb hK hR k5.1 k5.2 dX9_cursorSpot_18 ?_
      refine lv_goto (tgt := 23) hx hb dX9_cursorSpot_19 (by decide) ?_
      exact s_X9_cursorSpot_23 C  hR hL (zl_sub hl [] rfl) hp
def p_X9_cursorSpot (v0 : Nat) (v1 : Int32) (h : AH) : Option (Int32 × AH) := ck (v0 ≠ 0) <| p_X9_cursorSpot_0 v0 v1 h
theorem c_X9_cursorSpot (l : Launch) (G : GG) (v0 : Nat) (v1 : Int32) (h : AH) (r : Int32) (h' : AH) (hp : p_X9_cursorSpot v0 v1 h = some (r, h')) : Ct l yX9_cursorSpot (.code yX9_cursorSpot cX9_cursorSpot 2 (some .int) :: MW) G 2 62 [.ref (v0 - 1), .int v1] h (some (.int r)) h' := by
  obtain ⟨hz0, hp⟩ := ck_i hp
  refine Ct.of (by decide +kernel) (Nat.le_of_ble_eq_true rfl) ?_
  intro p e s m args below meth c C hR ls hl
  have hl : zl ls 2 [(0, zr v0), (1, .int v1)] := ⟨by rw [zr_p hz0]; exact hl, by simp [zr_cat, in_cat]⟩
  exact s_X9_cursorSpot_0 C hR (fun _ hq => nomatch hq) hl hp
/-! CursorKeep$Text.cursorPlace(I)I -/
def p_X9_cursorPlace_0  (v0 : Nat) (v1 : Int32) (h : AH) : Option (Int32 × AH) :=
  ck (aK h v0 = 11) <|
  ck (aK h v0 = 11) <|
  bR (p_X9_cursorSpot v0 v1 h) fun r3 h4 =>
  ck (aK h4 (aR h v0 1) = 9) <|
  bR (p_X7_shownCountAhead (aR h v0 1) r3 h4) fun r6 h7 =>
  some (r6, h7)
set_option maxHeartbeats 4000000 in
set_option maxRecDepth 100000 in
theorem s_X9_cursorPlace_0 {p : Program} {l : Launch} {e : Env} {s : State} {m : MethodId} {args : Array Value} {below : List Frame} {meth : Method} {c : Code} {G : GG} {hs : AH} {r : Int32} {h' : AH} (C : Cx G hs p s m args meth c cX9_cursorPlace 2 RX9 (.code yX9_cursorPlace cX9_cursorPlace 2 (some .int) :: MW) (some .int) "cursorPlace")   {v0 : Nat} {v1 : Int32} {h : AH} {H : Heap} {locs : List Loc} {cells slots : Nat} {ls : Array Slot} (hR : Rp G h H) (hL : ∀ q ∈ locs, gB G ≤ q.base) (hl : zl ls 2 [(0, zr v0), (1, .int v1)]) (hp : p_X9_cursorPlace_0  v0 v1 h = some (r, h')) : W p l e (gR G hs 4 105) s m args below meth c H locs cells slots (MQ below (Qcc G (some (.int r)) h') args s (gC G - aZ hs) (gS - aU hs) (fun q => gB G ≤ q)) (F0 m 0 ls []) := by
  obtain ⟨hx, hb, hml, hown, hts, hT, hK, rs, hlk, hret, hnm⟩ := id C
  have hm : ∀ w ∈ MW, w.before args s = true := fun w hw => hts w (hT w hw)
  unfold p_X9_cursorPlace_0 at hp
  refine z_aload_n hx hb dX9_cursorPlace_0 rfl (zl_at hl 0 rfl) ?_
  obtain ⟨k1, hp⟩ := ck_i hp
  refine r_get (ci := 10) (C := RX9) (T := TX9) (N := 10) (v := zr (aR h v0 1)) hx hb hm ii_X9 hown hK hR rfl k1 1 (by decide) (hm _ mw_131) (fun _ h9 => h9) rfl dX9_cursorPlace_1 ?_
  refine z_aload_n hx hb dX9_cursorPlace_4 rfl (zl_at hl 0 rfl) ?_
  refine lv_iload_n hx hb dX9_cursorPlace_5 rfl (zl_at hl 1 rfl) ?_
  obtain ⟨k2, hp⟩ := ck_i hp
  obtain ⟨r3, h4, er3, hp⟩ := bR_i hp
  refine r_callV (ci := 10) (r := (RX9, TX9, 10)) (n := 1) (As := [.int v1]) (rest := [zr (aR h v0 1)]) C (c_X9_cursorSpot l G v0 v1 h r3 h4 er3) hR hL rfl k2 mw_434 mw_436 mp_5 mw_7 mw_437 (by decide +kernel) (by decide) rfl (zl_size hl) rfl (by simp [zr_cat, in_cat]) dX9_cursorPlace_6 (st2 := [.int r3, zr (aR h v0 1)]) rfl (fun H locs cells slots hR hL => ?_)
  obtain ⟨k5, hp⟩ := ck_i hp
  obtain ⟨r6, h7, er6, hp⟩ := bR_i hp
  refine r_callV (ci := 8) (r := (RX7, TX7, 4)) (n := 1) (As := [.int r3]) (rest := []) C (c_X7_shownCountAhead l G (aR h v0 1) r3 h4 r6 h7 er6) hR hL rfl k5 mw_576 mw_577 mw_578 mw_8 mw_579 (by decide +kernel) (by decide) rfl (zl_size hl) rfl (by simp [zr_cat, in_cat]) dX9_cursorPlace_9 (st2 := [.int r6]) rfl (fun H locs cells slots hR hL => ?_)
  cases hp
  exact r_zret C hR hL rfl dX9_cursorPlace_12
def p_X9_cursorPlace (v0 : Nat) (v1 : Int32) (h : AH) : Option (Int32 × AH) := ck (v0 ≠ 0) <| p_X9_cursorPlace_0 v0 v1 h
theorem c_X9_cursorPlace (l : Launch) (G : GG) (v0 : Nat) (v1 : Int32) (h : AH) (r : Int32) (h' : AH) (hp : p_X9_cursorPlace v0 v1 h = some (r, h')) : Ct l yX9_cursorPlace (.code yX9_cursorPlace cX9_cursorPlace 2 (some .int) :: MW) G 4 105 [.ref (v0 - 1), .int v1] h (some (.int r)) h' := by
  obtain ⟨hz0, hp⟩ := ck_i hp
  refine Ct.of (by decide +kernel) (Nat.le_of_ble_eq_true rfl) ?_
  intro p e s m args below meth c C hR ls hl
  have hl : zl ls 2 [(0, zr v0), (1, .int v1)] := ⟨by rw [zr_p hz0]; exact hl, by simp [zr_cat, in_cat]⟩
  exact s_X9_cursorPlace_0 C hR (fun _ hq => nomatch hq) hl hp
/-! CursorKeep$Text.letterAheadOfCursor(I)I -/
def p_X9_letterAheadOfCursor_0  (v0 : Nat) (v1 : Int32) (h : AH) : Option (Int32 × AH) :=
  ck (aK h v0 = 11) <|
  ck (aK h v0 = 11) <|
  bR (p_X9_cursorSpot v0 v1 h) fun r3 h4 =>
  ck (aK h4 (aR h v0 1) = 9) <|
  bR (p_X7_nearestShownAhead (aR h v0 1) r3 h4) fun r6 h7 =>
  some (r6, h7)
set_option maxHeartbeats 4000000 in
set_option maxRecDepth 100000 in
theorem s_X9_letterAheadOfCursor_0 {p : Program} {l : Launch} {e : Env} {s : State} {m : MethodId} {args : Array Value} {below : List Frame} {meth : Method} {c : Code} {G : GG} {hs : AH} {r : Int32} {h' : AH} (C : Cx G hs p s m args meth c cX9_letterAheadOfCursor 2 RX9 (.code yX9_letterAheadOfCursor cX9_letterAheadOfCursor 2 (some .int) :: MW) (some .int) "letterAheadOfCursor")   {v0 : Nat} {v1 : Int32} {h : AH} {H : Heap} {locs : List Loc} {cells slots : Nat} {ls : Array Slot} (hR : Rp G h H) (hL : ∀ q ∈ locs, gB G ≤ q.base) (hl : zl ls 2 [(0, zr v0), (1, .int v1)]) (hp : p_X9_letterAheadOfCursor_0  v0 v1 h = some (r, h')) : W p l e (gR G hs 4 104) s m args below meth c H locs cells slots (MQ below (Qcc G (some (.int r)) h') args s (gC G - aZ hs) (gS - aU hs) (fun q => gB G ≤ q)) (F0 m 0 ls []) := by
  obtain ⟨hx, hb, hml, hown, hts, hT, hK, rs, hlk, hret, hnm⟩ := id C
  have hm : ∀ w ∈ MW, w.before args s = true := fun w hw => hts w (hT w hw)
  unfold p_X9_letterAheadOfCursor_0 at hp
  refine z_aload_n hx hb dX9_letterAheadOfCursor_0 rfl (zl_at hl 0 rfl) ?_
  obtain ⟨k1, hp⟩ := ck_i hp
  refine r_get (ci := 10) (C := RX9) (T := TX9) (N := 10) (v := zr (aR h v0 1)) hx hb hm ii_X9 hown hK hR rfl k1 1 (by decide) (hm _ mw_131) (fun _ h9 => h9) rfl dX9_letterAheadOfCursor_1 ?_
  refine z_aload_n hx hb dX9_letterAheadOfCursor_4 rfl (zl_at hl 0 rfl) ?_
  refine lv_iload_n hx hb dX9_letterAheadOfCursor_5 rfl (zl_at hl 1 rfl) ?_
  obtain ⟨k2, hp⟩ := ck_i hp
  obtain ⟨r3, h4, er3, hp⟩ := bR_i hp
  refine r_callV (ci := 10) (r := (RX9, TX9, 10)) (n := 1) (As := [.int v1]) (rest := [zr (aR h v0 1)]) C (c_X9_cursorSpot l G v0 v1 h r3 h4 er3) hR hL rfl k2 mw_434 mw_436 mp_5 mw_7 mw_437 (by decide +kernel) (by decide) rfl (zl_size hl) rfl (by simp [zr_cat, in_cat]) dX9_letterAheadOfCursor_6 (st2 := [.int r3, zr (aR h v0 1)]) rfl (fun H locs cells slots hR hL => ?_)
  obtain ⟨k5, hp⟩ := ck_i hp
  obtain ⟨r6, h7, er6, hp⟩ := bR_i hp
  refine r_callV (ci := 8) (r := (RX7, TX7, 4)) (n := 1) (As := [.int r3]) (rest := []) C (c_X7_nearestShownAhead l G (aR h v0 1) r3 h4 r6 h7 er6) hR hL rfl k5 mw_593 mw_594 mw_595 mw_8 mw_596 (by decide +kernel) (by decide) rfl (zl_size hl) rfl (by simp [zr_cat, in_cat]) dX9_letterAheadOfCursor_9 (st2 := [.int r6]) rfl (fun H locs cells slots hR hL => ?_)
  cases hp
  exact r_zret C hR hL rfl dX9_letterAheadOfCursor_12
def p_X9_letterAheadOfCursor (v0 : Nat) (v1 : Int32) (h : AH) : Option (Int32 × AH) := ck (v0 ≠ 0) <| p_X9_letterAheadOfCursor_0 v0 v1 h
theorem c_X9_letterAheadOfCursor (l : Launch) (G : GG) (v0 : Nat) (v1 : Int32) (h : AH) (r : Int32) (h' : AH) (hp : p_X9_letterAheadOfCursor v0 v1 h = some (r, h')) : Ct l yX9_letterAheadOfCursor (.code yX9_letterAheadOfCursor cX9_letterAheadOfCursor 2 (some .int) :: MW) G 4 104 [.ref (v0 - 1), .int v1] h (some (.int r)) h' := by
  obtain ⟨hz0, hp⟩ := ck_i hp
  refine Ct.of (by decide +kernel) (Nat.le_of_ble_eq_true rfl) ?_
  intro p e s m args below meth c C hR ls hl
  have hl : zl ls 2 [(0, zr v0), (1, .int v1)] := ⟨by rw [zr_p hz0]; exact hl, by simp [zr_cat, in_cat]⟩
  exact s_X9_letterAheadOfCursor_0 C hR (fun _ hq => nomatch hq) hl hp
/-! CursorKeep$Text.setCursor(II)V -/
def p_X9_setCursor_16   (h : AH) : Option (Unit × AH) :=
  some ((), h)
set_option maxHeartbeats 4000000 in
set_option maxRecDepth 100000 in
theorem s_X9_setCursor_16 {p : Program} {l : Launch} {e : Env} {s : State} {m : MethodId} {args : Array Value} {below : List Frame} {meth : Method} {c : Code} {G : GG} {hs : AH} {r : Unit} {h' : AH} (C : Cx G hs p s m args meth c cX9_setCursor 3 RX9 (.code yX9_setCursor cX9_setCursor 3 none :: MW) none "setCursor")    {h : AH} {H : Heap} {locs : List Loc} {cells slots : Nat} {ls : Array Slot} (hR : Rp G h H) (hL : ∀ q ∈ locs, gB G ≤ q.base) (hl : zl ls 3 []) (hp : p_X9_setCursor_16   h = some (r, h')) : W p l e (gR G hs 1 40) s m args below meth c H locs cells slots (MQ below (Qcc G (none) h') args s (gC G - aZ hs) (gS - aU hs) (fun q => gB G ≤ q)) (F0 m 16 ls []) := by
  obtain ⟨hx, hb, hml, hown, hts, hT, hK, rs, hlk, hret, hnm⟩ := id C
  have hm : ∀ w ∈ MW, w.before args s = true := fun w hw => hts w (hT w hw)
  unfold p_X9_setCursor_16 at hp
  cases hp
  exact r_vret C hR hL dX9_setCursor_16
def p_X9_setCursor_0  (v0 : Nat) (v1 : Int32) (v2 : Int32) (h : AH) : Option (Unit × AH) :=
  if v1 < 0 then
    p_X9_setCursor_16   h
  else
    if (iI 5) ≤ v1 then
      p_X9_setCursor_16   h
    else
      ck (aK h v0 = 11) <|
      ck (aK h (aR h v0 9) = 20 ∧ ix v1 (aN h (aR h v0 9))) <|
      nm (uI h (aR h v0 9) v1.toNatClampNeg v2) fun h6 =>
      p_X9_setCursor_16   h6
set_option maxHeartbeats 4000000 in
set_option maxRecDepth 100000 in
theorem s_X9_setCursor_0 {p : Program} {l : Launch} {e : Env} {s : State} {m : MethodId} {args : Array Value} {below : List Frame} {meth : Method} {c : Code} {G : GG} {hs : AH} {r : Unit} {h' : AH} (C : Cx G hs p s m args meth c cX9_setCursor 3 RX9 (.code yX9_setCursor cX9_setCursor 3 none :: MW) none "setCursor")   {v0 : Nat} {v1 : Int32} {v2 : Int32} {h : AH} {H : Heap} {locs : List Loc} {cells slots : Nat} {ls : Array Slot} (hR : Rp G h H) (hL : ∀ q ∈ locs, gB G ≤ q.base) (hl : zl ls 3 [(0, zr v0), (1, .int v1), (2, .int v2)]) (hp : p_X9_setCursor_0  v0 v1 v2 h = some (r, h')) : W p l e (gR G hs 1 40) s m args below meth c H locs cells slots (MQ below (Qcc G (none) h') args s (gC G - aZ hs) (gS - aU hs) (fun q => gB G ≤ q)) (F0 m 0 ls []) := by
  obtain ⟨hx, hb, hml, hown, hts, hT, hK, rs, hlk, hret, hnm⟩ := id C
  have hm : ∀ w ∈ MW, w.before args s = true := fun w hw => hts w (hT w hw)
  unfold p_X9_setCursor_0 at hp
  refine lv_iload_n hx hb dX9_setCursor_0 rfl (zl_at hl 1 rfl) ?_
  refine lv_if_lt (tgt := 16) hx hb dX9_setCursor_1 (by decide) (fun c1 => ?_) (fun c1 => ?_)
  · replace hp := ite_p hp c1
    exact s_X9_setCursor_16 C  hR hL (zl_sub hl [] rfl) hp
  · replace hp := ite_n hp c1
    refine lv_iload_n hx hb dX9_setCursor_4 rfl (zl_at hl 1 rfl) ?_
    refine lv_iconst (v := iI 5) hx hb dX9_setCursor_5 rfl ?_
    refine lv_icmp_ge (tgt := 16) hx hb dX9_setCursor_6 (by decide) (fun c2 => ?_) (fun c2 => ?_)
    · replace hp := ite_p hp c2
      exact s_X9_setCursor_16 C  hR hL (zl_sub hl [] rfl) hp
    · replace hp := ite_n hp c2
      refine z_aload_n hx hb dX9_setCursor_9 rfl (zl_at hl 0 rfl) ?_
      obtain ⟨k3, hp⟩ := ck_i hp
      refine r_get (ci := 10) (C := RX9) (T := TX9) (N := 10) (v := zr (aR h v0 9)) hx hb hm ii_X9 hown hK hR rfl k3 9 (by decide) (hm _ mw_147) (fun _ h9 => h9) rfl dX9_setCursor_10 ?_
      refine lv_iload_n hx hb dX9_setCursor_13 rfl (zl_at hl 1 rfl) ?_
      refine lv_iload_n hx hb dX9_setCursor_14 rfl (zl_at hl 2 rfl) ?_
      obtain ⟨k4, hp⟩ := ck_i hp
      refine r_iast hx hb hK hR hL k4.1 k4.2 dX9_setCursor_15 (fun H locs hR hL => ?_)
      obtain ⟨h6, hp, hR⟩ := nm_h hp hR
      exact s_X9_setCursor_16 C  hR hL (zl_sub hl [] rfl) hp
def p_X9_setCursor (v0 : Nat) (v1 : Int32) (v2 : Int32) (h : AH) : Option (Unit × AH) := ck (v0 ≠ 0) <| p_X9_setCursor_0 v0 v1 v2 h
theorem c_X9_setCursor (l : Launch) (G : GG) (v0 : Nat) (v1 : Int32) (v2 : Int32) (h : AH) (r : Unit) (h' : AH) (hp : p_X9_setCursor v0 v1 v2 h = some (r, h')) : Ct l yX9_setCursor (.code yX9_setCursor cX9_setCursor 3 none :: MW) G 1 40 [.ref (v0 - 1), .int v1, .int v2] h (none) h' := by
  obtain ⟨hz0, hp⟩ := ck_i hp
  refine Ct.of (by decide +kernel) (Nat.le_of_ble_eq_true rfl) ?_
  intro p e s m args below meth c C hR ls hl
  have hl : zl ls 3 [(0, zr v0), (1, .int v1), (2, .int v2)] := ⟨by rw [zr_p hz0]; exact hl, by simp [zr_cat, in_cat]⟩
  exact s_X9_setCursor_0 C hR (fun _ hq => nomatch hq) hl hp
/-! CursorKeep$Text.putAheadOfCursor(IC)I -/
def p_X9_putAheadOfCursor_0  (v0 : Nat) (v1 : Int32) (v2 : Int32) (h : AH) : Option (Int32 × AH) :=
  ck (aK h v0 = 11) <|
  ck (aK h (aR h v0 1) = 9) <|
  bR (p_X7_count (aR h v0 1) h) fun r3 h4 =>
  ck (aZ h4 + 1 ≤ aC h4 ∧ aU h4 + 3 ≤ gS) <|
  nm (uN h4 4 3) fun h6 =>
  ck (aK h6 v0 = 11) <|
  bR (p_X9_cursorSpot v0 v1 h6) fun r8 h9 =>
  ck (aK h9 (aZ h4) ≠ 0) <|
  bR (p_X2_init (aZ h4) (iI 0) r8 v2 h9) fun r11 h12 =>
  ck (aK h12 v0 = 11) <|
  bR (p_X9_perform v0 (aZ h4) h12) fun r14 h15 =>
  ck (aK h15 v0 = 11) <|
  ck (aK h15 v0 = 11) <|
  nm (uI h15 v0 3 ((aI h15 v0 3) + (iI 1))) fun h18 =>
  some (r3, h18)
set_option maxHeartbeats 4000000 in
set_option maxRecDepth 100000 in
theorem s_X9_putAheadOfCursor_0 {p : Program} {l : Launch} {e : Env} {s : State} {m : MethodId} {args : Array Value} {below : List Frame} {meth : Method} {c : Code} {G : GG} {hs : AH} {r : Int32} {h' : AH} (C : Cx G hs p s m args meth c cX9_putAheadOfCursor 4 RX9 (.code yX9_putAheadOfCursor cX9_putAheadOfCursor 4 (some .int) :: MW) (some .int) "putAheadOfCursor")   {v0 : Nat} {v1 : Int32} {v2 : Int32} {h : AH} {H : Heap} {locs : List Loc} {cells slots : Nat} {ls : Array Slot} (hR : Rp G h H) (hL : ∀ q ∈ locs, gB G ≤ q.base) (hl : zl ls 4 [(0, zr v0), (1, .int v1), (2, .int v2)]) (hp : p_X9_putAheadOfCursor_0  v0 v1 v2 h = some (r, h')) : W p l e (gR G hs 8 193) s m args below meth c H locs cells slots (MQ below (Qcc G (some (.int r)) h') args s (gC G - aZ hs) (gS - aU hs) (fun q => gB G ≤ q)) (F0 m 0 ls []) := by
  obtain ⟨hx, hb, hml, hown, hts, hT, hK, rs, hlk, hret, hnm⟩ := id C
  have hm : ∀ w ∈ MW, w.before args s = true := fun w hw => hts w (hT w hw)
  unfold p_X9_putAheadOfCursor_0 at hp
  refine z_aload_n hx hb dX9_putAheadOfCursor_0 rfl (zl_at hl 0 rfl) ?_
  obtain ⟨k1, hp⟩ := ck_i hp
  refine r_get (ci := 10) (C := RX9) (T := TX9) (N := 10) (v := zr (aR h v0 1)) hx hb hm ii_X9 hown hK hR rfl k1 1 (by decide) (hm _ mw_131) (fun _ h9 => h9) rfl dX9_putAheadOfCursor_1 ?_
  obtain ⟨k2, hp⟩ := ck_i hp
  obtain ⟨r3, h4, er3, hp⟩ := bR_i hp
  refine r_callV (ci := 8) (r := (RX7, TX7, 4)) (n := 0) (As := []) (rest := []) C (c_X7_count l G (aR h v0 1) h r3 h4 er3) hR hL rfl k2 mw_271 mw_272 mw_273 mw_8 mw_274 (by decide +kernel) (by decide) rfl (zl_size hl) rfl (by simp [zr_cat, in_cat]) dX9_putAheadOfCursor_4 (st2 := [.int r3]) rfl (fun H locs cells slots hR hL => ?_)
  refine z_istore_n (lv' := [(3, .int r3), (0, zr v0), (1, .int v1), (2, .int v2)]) hx hb dX9_putAheadOfCursor_7 rfl hl (by decide) rfl (fun ls hl => ?_)
  refine z_aload_n hx hb dX9_putAheadOfCursor_8 rfl (zl_at hl 1 rfl) ?_
  obtain ⟨k5, hp⟩ := ck_i hp
  refine r_new (ci := 3) (C := RX2) (T := TX2) (N := 3) (ty0 := tyX2) C hR hL rfl ii_X2 tyX2_ok (fun _ => rfl) (by decide +kernel) mw_432 mw_433 mw_17 k5 dX9_putAheadOfCursor_9 (fun H cells slots hR => ?_)
  obtain ⟨h6, hp, hR⟩ := nm_h hp hR
  refine lv_dup hx hb dX9_putAheadOfCursor_12 (zr_cat _) ?_
  refine lv_iconst (v := iI 0) hx hb dX9_putAheadOfCursor_13 rfl ?_
  refine z_aload_n hx hb dX9_putAheadOfCursor_14 rfl (zl_at hl 1 rfl) ?_
  refine lv_iload_n hx hb dX9_putAheadOfCursor_15 rfl (zl_at hl 2 rfl) ?_
  obtain ⟨k7, hp⟩ := ck_i hp
  obtain ⟨r8, h9, er8, hp⟩ := bR_i hp
  refine r_callV (ci := 10) (r := (RX9, TX9, 10)) (n := 1) (As := [.int v1]) (rest := [.int (iI 0), zr (aZ h4), zr (aZ h4), zr v0]) C (c_X9_cursorSpot l G v0 v1 h6 r8 h9 er8) hR hL rfl k7 mw_434 mw_436 mp_5 mw_7 mw_437 (by decide +kernel) (by decide) rfl (zl_size hl) rfl (by simp [zr_cat, in_cat]) dX9_putAheadOfCursor_16 (st2 := [.int r8, .int (iI 0), zr (aZ h4), zr (aZ h4), zr v0]) rfl (fun H locs cells slots hR hL => ?_)
  refine lv_iload_n hx hb dX9_putAheadOfCursor_19 rfl (zl_at hl 3 rfl) ?_
  obtain ⟨k10, hp⟩ := ck_i hp
  obtain ⟨r11, h12, er11, hp⟩ := bR_i hp
  refine r_callI (n := 3) (As := [.int (iI 0), .int r8, .int v2]) (rest := [zr (aZ h4), zr v0]) C (c_X2_init l G (aZ h4) (iI 0) r8 v2 h9 r11 h12 er11) hR hL k10 mw_442 mw_443 mw_17 mw_444 rfl (by decide +kernel) (by decide) rfl (zl_size hl) rfl (by simp [zr_cat, in_cat]) dX9_putAheadOfCursor_20 (st2 := [zr (aZ h4), zr v0]) rfl (fun H locs cells slots hR hL => ?_)
  obtain ⟨k13, hp⟩ := ck_i hp
  obtain ⟨r14, h15, er14, hp⟩ := bR_i hp
  refine r_callV (ci := 10) (r := (RX9, TX9, 10)) (n := 1) (As := [zr (aZ h4)]) (rest := []) C (c_X9_perform l G v0 (aZ h4) h12 r14 h15 er14) hR hL rfl k13 mw_456 mw_458 mp_6 mw_7 mw_459 (by decide +kernel) (by decide) rfl (zl_size hl) rfl (by simp [zr_cat, in_cat]) dX9_putAheadOfCursor_23 (st2 := []) rfl (fun H locs cells slots hR hL => ?_)
  refine z_aload_n hx hb dX9_putAheadOfCursor_26 rfl (zl_at hl 1 rfl) ?_
  refine lv_dup hx hb dX9_putAheadOfCursor_27 (zr_cat _) ?_
  obtain ⟨k16, hp⟩ := ck_i hp
  refine r_get (ci := 10) (C := RX9) (T := TX9) (N := 10) (v := .int (aI h15 v0 3)) hx hb hm ii_X9 hown hK hR rfl k16 3 (by decide) (hm _ mw_137) (fun _ h9 => h9) rfl dX9_putAheadOfCursor_28 ?_
  refine lv_iconst (v := iI 1) hx hb dX9_putAheadOfCursor_31 rfl ?_
  refine lv_iadd hx hb dX9_putAheadOfCursor_32 ?_
  obtain ⟨k17, hp⟩ := ck_i hp
  refine r_putI (ci := 10) (C := RX9) (T := TX9) (N := 10) hx hb hm ii_X9 tyX9_ok nmX9 hown hK hR hL rfl k17 3 (by decide) (hm _ mw_137) (fun _ h9 => h9) (Or.inl rfl) rfl rfl (fun _ _ _ => rfl) dX9_putAheadOfCursor_33 (fun H locs hR hL => ?_)
  obtain ⟨h18, hp, hR⟩ := nm_h hp hR
  refine lv_iload_n hx hb dX9_putAheadOfCursor_36 rfl (zl_at hl 0 rfl) ?_
  cases hp
  exact r_zret C hR hL rfl dX9_putAheadOfCursor_37
def p_X9_putAheadOfCursor (v0 : Nat) (v1 : Int32) (v2 : Int32) (h : AH) : Option (Int32 × AH) := ck (v0 ≠ 0) <| p_X9_putAheadOfCursor_0 v0 v1 v2 h
theorem c_X9_putAheadOfCursor (l : Launch) (G : GG) (v0 : Nat) (v1 : Int32) (v2 : Int32) (h : AH) (r : Int32) (h' : AH) (hp : p_X9_putAheadOfCursor v0 v1 v2 h = some (r, h')) : Ct l yX9_putAheadOfCursor (.code yX9_putAheadOfCursor cX9_putAheadOfCursor 4 (some .int) :: MW) G 8 193 [.ref (v0 - 1), .int v1, .int v2] h (some (.int r)) h' := by
  obtain ⟨hz0, hp⟩ := ck_i hp
  refine Ct.of (by decide +kernel) (Nat.le_of_ble_eq_true rfl) ?_
  intro p e s m args below meth c C hR ls hl
  have hl : zl ls 4 [(0, zr v0), (1, .int v1), (2, .int v2)] := ⟨by rw [zr_p hz0]; exact hl, by simp [zr_cat, in_cat]⟩
  exact s_X9_putAheadOfCursor_0 C hR (fun _ hq => nomatch hq) hl hp
/-! CursorKeep$Text.turn(IZ)V -/
def p_X9_turn_39  (v0 : Nat) (h : AH) : Option (Unit × AH) :=
  ck (aK h v0 = 11) <|
  ck (aK h v0 = 11) <|
  nm (uI h v0 3 ((aI h v0 3) + (iI 1))) fun h3 =>
  some ((), h3)
set_option maxHeartbeats 4000000 in
set_option maxRecDepth 100000 in
theorem s_X9_turn_39 {p : Program} {l : Launch} {e : Env} {s : State} {m : MethodId} {args : Array Value} {below : List Frame} {meth : Method} {c : Code} {G : GG} {hs : AH} {r : Unit} {h' : AH} (C : Cx G hs p s m args meth c cX9_turn 3 RX9 (.code yX9_turn cX9_turn 3 none :: MW) none "turn")   {v0 : Nat} {h : AH} {H : Heap} {locs : List Loc} {cells slots : Nat} {ls : Array Slot} (hR : Rp G h H) (hL : ∀ q ∈ locs, gB G ≤ q.base) (hl : zl ls 3 [(0, zr v0)]) (hp : p_X9_turn_39  v0 h = some (r, h')) : W p l e (gR G hs 9 216) s m args below meth c H locs cells slots (MQ below (Qcc G (none) h') args s (gC G - aZ hs) (gS - aU hs) (fun q => gB G ≤ q)) (F0 m 39 ls []) := by
  obtain ⟨hx, hb, hml, hown, hts, hT, hK, rs, hlk, hret, hnm⟩ := id C
  have hm : ∀ w ∈ MW, w.before args s = true := fun w hw => hts w (hT w hw)
  unfold p_X9_turn_39 at hp
  refine z_aload_n hx hb dX9_turn_39 rfl (zl_at hl 0 rfl) ?_
  refine lv_dup hx hb dX9_turn_40 (zr_cat _) ?_
  obtain ⟨k1, hp⟩ := ck_i hp
  refine r_get (ci := 10) (C := RX9) (T := TX9) (N := 10) (v := .int (aI h v0 3)) hx hb hm ii_X9 hown hK hR rfl k1 3 (by decide) (hm _ mw_137) (fun _ h9 => h9) rfl dX9_turn_41 ?_
  refine lv_iconst (v := iI 1) hx hb dX9_turn_44 rfl ?_
  refine lv_iadd hx hb dX9_turn_45 ?_
  obtain ⟨k2, hp⟩ := ck_i hp
  refine r_putI (ci := 10) (C := RX9) (T := TX9) (N := 10) hx hb hm ii_X9 tyX9_ok nmX9 hown hK hR hL rfl k2 3 (by decide) (hm _ mw_137) (fun _ h9 => h9) (Or.inl rfl) rfl rfl (fun _ _ _ => rfl) dX9_turn_46 (fun H locs hR hL => ?_)
  obtain ⟨h3, hp, hR⟩ := nm_h hp hR
  cases hp
  exact r_vret C hR hL dX9_turn_49
def p_X9_turn_0  (v0 : Nat) (v1 : Int32) (v2 : Int32) (h : AH) : Option (Unit × AH) :=
  ck (aK h v0 = 11) <|
  ck (aK h (aR h v0 1) = 9) <|
  bR (p_X7_shows (aR h v0 1) v1 h) fun r3 h4 =>
  if r3 = v2 then
    some ((), h4)
  else
    if v2 = 0 then
      ck (aK h4 v0 = 11) <|
      bR (p_X9_letGo v0 v1 h4) fun r8 h9 =>
      p_X9_turn_39  v0 h9
    else
      ck (aZ h4 + 1 ≤ aC h4 ∧ aU h4 + 3 ≤ gS) <|
      nm (uN h4 4 3) fun h11 =>
      ck (aK h11 (aZ h4) ≠ 0) <|
      bR (p_X2_init (aZ h4) (iI 2) v1 (iI 0) h11) fun r13 h14 =>
      ck (aK h14 v0 = 11) <|
      bR (p_X9_perform v0 (aZ h4) h14) fun r16 h17 =>
      p_X9_turn_39  v0 h17
set_option maxHeartbeats 4000000 in
set_option maxRecDepth 100000 in
theorem s_X9_turn_0 {p : Program} {l : Launch} {e : Env} {s : State} {m : MethodId} {args : Array Value} {below : List Frame} {meth : Method} {c : Code} {G : GG} {hs : AH} {r : Unit} {h' : AH} (C : Cx G hs p s m args meth c cX9_turn 3 RX9 (.code yX9_turn cX9_turn 3 none :: MW) none "turn")   {v0 : Nat} {v1 : Int32} {v2 : Int32} {h : AH} {H : Heap} {locs : List Loc} {cells slots : Nat} {ls : Array Slot} (hR : Rp G h H) (hL : ∀ q ∈ locs, gB G ≤ q.base) (hl : zl ls 3 [(0, zr v0), (1, .int v1), (2, .int v2)]) (hp : p_X9_turn_0  v0 v1 v2 h = some (r, h')) : W p l e (gR G hs 9 216) s m args below meth c H locs cells slots (MQ below (Qcc G (none) h') args s (gC G - aZ hs) (gS - aU hs) (fun q => gB G ≤ q)) (F0 m 0 ls []) := by
  obtain ⟨hx, hb, hml, hown, hts, hT, hK, rs, hlk, hret, hnm⟩ := id C
  have hm : ∀ w ∈ MW, w.before args s = true := fun w hw => hts w (hT w hw)
  unfold p_X9_turn_0 at hp
  refine z_aload_n hx hb dX9_turn_0 rfl (zl_at hl 0 rfl) ?_
  obtain ⟨k1, hp⟩ := ck_i hp
  refine r_get (ci := 10) (C := RX9) (T := TX9) (N := 10) (v := zr (aR h v0 1)) hx hb hm ii_X9 hown hK hR rfl k1 1 (by decide) (hm _ mw_131) (fun _ h9 => h9) rfl dX9_turn_1 ?_
  refine lv_iload_n hx hb dX9_turn_4 rfl (zl_at hl 1 rfl) ?_
  obtain ⟨k2, hp⟩ := ck_i hp
  obtain ⟨r3, h4, er3, hp⟩ := bR_i hp
  refine r_callV (ci := 8) (r := (RX7, TX7, 4)) (n := 1) (As := [.int v1]) (rest := []) C (c_X7_shows l G (aR h v0 1) v1 h r3 h4 er3) hR hL rfl k2 mw_279 mw_280 mw_281 mw_8 mw_282 (by decide +kernel) (by decide) rfl (zl_size hl) rfl (by simp [zr_cat, in_cat]) dX9_turn_5 (st2 := [.int r3]) rfl (fun H locs cells slots hR hL => ?_)
  refine lv_iload_n hx hb dX9_turn_8 rfl (zl_at hl 2 rfl) ?_
  refine lv_icmp_ne (tgt := 13) hx hb dX9_turn_9 (by decide) (fun c5 => ?_) (fun c5 => ?_)
  · replace hp := ite_n hp c5
    refine lv_iload_n hx hb dX9_turn_13 rfl (zl_at hl 2 rfl) ?_
    refine lv_if_eq (tgt := 34) hx hb dX9_turn_14 (by decide) (fun c6 => ?_) (fun c6 => ?_)
    · replace hp := ite_p hp c6
      refine z_aload_n hx hb dX9_turn_34 rfl (zl_at hl 0 rfl) ?_
      refine lv_iload_n hx hb dX9_turn_35 rfl (zl_at hl 1 rfl) ?_
      obtain ⟨k7, hp⟩ := ck_i hp
      obtain ⟨r8, h9, er8, hp⟩ := bR_i hp
      refine r_callV (ci := 10) (r := (RX9, TX9, 10)) (n := 1) (As := [.int v1]) (rest := []) C (c_X9_letGo l G v0 v1 h4 r8 h9 er8) hR hL rfl k7 mw_602 mw_603 mw_604 mw_7 mw_605 (by decide +kernel) (by decide) rfl (zl_size hl) rfl (by simp [zr_cat, in_cat]) dX9_turn_36 (st2 := []) rfl (fun H locs cells slots hR hL => ?_)
      exact s_X9_turn_39 C  hR hL (zl_sub hl [0] rfl) hp
    · replace hp := ite_n hp c6
      refine z_aload_n hx hb dX9_turn_17 rfl (zl_at hl 0 rfl) ?_
      obtain ⟨k10, hp⟩ := ck_i hp
      refine r_new (ci := 3) (C := RX2) (T := TX2) (N := 3) (ty0 := tyX2) C hR hL rfl ii_X2 tyX2_ok (fun _ => rfl) (by decide +kernel) mw_432 mw_433 mw_17 k10 dX9_turn_18 (fun H cells slots hR => ?_)
      obtain ⟨h11, hp, hR⟩ := nm_h hp hR
      refine lv_dup hx hb dX9_turn_21 (zr_cat _) ?_
      refine lv_iconst (v := iI 2) hx hb dX9_turn_22 rfl ?_
      refine lv_iload_n hx hb dX9_turn_23 rfl (zl_at hl 1 rfl) ?_
      refine lv_iconst (v := iI 0) hx hb dX9_turn_24 rfl ?_
      obtain ⟨k12, hp⟩ := ck_i hp
      obtain ⟨r13, h14, er13, hp⟩ := bR_i hp
      refine r_callI (n := 3) (As := [.int (iI 2), .int v1, .int (iI 0)]) (rest := [zr (aZ h4), zr v0]) C (c_X2_init l G (aZ h4) (iI 2) v1 (iI 0) h11 r13 h14 er13) hR hL k12 mw_442 mw_443 mw_17 mw_444 rfl (by decide +kernel) (by decide) rfl (zl_size hl) rfl (by simp [zr_cat, in_cat]) dX9_turn_25 (st2 := [zr (aZ h4), zr v0]) rfl (fun H locs cells slots hR hL => ?_)
      obtain ⟨k15, hp⟩ := ck_i hp
      obtain ⟨r16, h17, er16, hp⟩ := bR_i hp
      refine r_callV (ci := 10) (r := (RX9, TX9, 10)) (n := 1) (As := [zr (aZ h4)]) (rest := []) C (c_X9_perform l G v0 (aZ h4) h14 r16 h17 er16) hR hL rfl k15 mw_456 mw_458 mp_6 mw_7 mw_459 (by decide +kernel) (by decide) rfl (zl_size hl) rfl (by simp [zr_cat, in_cat]) dX9_turn_28 (st2 := []) rfl (fun H locs cells slots hR hL => ?_)
      refine lv_goto (tgt := 39) hx hb dX9_turn_31 (by decide) ?_
      exact s_X9_turn_39 C  hR hL (zl_sub hl [0] rfl) hp
  · replace hp := ite_p hp c5
    cases hp
    exact r_vret C hR hL dX9_turn_12
def p_X9_turn (v0 : Nat) (v1 : Int32) (v2 : Int32) (h : AH) : Option (Unit × AH) := ck (v0 ≠ 0) <| p_X9_turn_0 v0 v1 v2 h
theorem c_X9_turn (l : Launch) (G : GG) (v0 : Nat) (v1 : Int32) (v2 : Int32) (h : AH) (r : Unit) (h' : AH) (hp : p_X9_turn v0 v1 v2 h = some (r, h')) : Ct l yX9_turn (.code yX9_turn cX9_turn 3 none :: MW) G 9 216 [.ref (v0 - 1), .int v1, .int v2] h (none) h' := by
  obtain ⟨hz0, hp⟩ := ck_i hp
  refine Ct.of (by decide +kernel) (Nat.le_of_ble_eq_true rfl) ?_
  intro p e s m args below meth c C hR ls hl
  have hl : zl ls 3 [(0, zr v0), (1, .int v1), (2, .int v2)] := ⟨by rw [zr_p hz0]; exact hl, by simp [zr_cat, in_cat]⟩
  exact s_X9_turn_0 C hR (fun _ hq => nomatch hq) hl hp
/-! CursorKeep$Text.rowAnew()LCursorKeep$Row; -/
def p_X9_rowAnew_9  : Nat → Nat → Int32 → AH → Option (Nat × AH)
  | 0, _, _, _ => none
  | n + 1, v0, v1, h =>
    ck (aK h v0 = 11) <|
    ck (aK h (aR h v0 8) = 1) <|
    bR (p_Jx4a65c_size_8abf5 (aR h v0 8) h) fun r3 h4 =>
    if r3 ≤ v1 then
      ck (aK h4 v0 = 11) <|
      some ((aR h4 v0 7), h4)
    else
      ck (aK h4 v0 = 11) <|
      ck (aK h4 (aR h4 v0 8) = 1) <|
      bR (p_Jx4a65c_get_915e3 (aR h4 v0 8) v1 h4) fun r9 h10 =>
      ck (aK h10 r9 = 4) <|
      ck (aK h10 v0 = 11) <|
      ck (aK h10 r9 = 4) <|
      bR (p_X2_doTo r9 (aR h10 v0 7) h10) fun r14 h15 =>
      nm (v1 + iI 1) fun (x16 : Int32) =>
      p_X9_rowAnew_9  n v0 x16 h15
set_option maxHeartbeats 4000000 in
set_option maxRecDepth 100000 in
theorem s_X9_rowAnew_9 {p : Program} {l : Launch} {e : Env} {s : State} {m : MethodId} {args : Array Value} {below : List Frame} {meth : Method} {c : Code} {G : GG} {hs : AH} {r : Nat} {h' : AH} (C : Cx G hs p s m args meth c cX9_rowAnew 2 RX9 (.code yX9_rowAnew cX9_rowAnew 2 (some (.object "CursorKeep$Row")) :: MW) (some (.object "CursorKeep$Row")) "rowAnew")   : ∀ (n : Nat) (v0 : Nat) (v1 : Int32) (h : AH) (H : Heap) (locs : List Loc) (cells slots : Nat) (ls : Array Slot) (hR : Rp G h H) (hL : ∀ q ∈ locs, gB G ≤ q.base) (hl : zl ls 2 [(0, zr v0), (1, .int v1)]) (hp : p_X9_rowAnew_9  n v0 v1 h = some (r, h')), W p l e (gR G hs 4 104) s m args below meth c H locs cells slots (MQ below (Qcc G (some (zr r)) h') args s (gC G - aZ hs) (gS - aU hs) (fun q => gB G ≤ q)) (F0 m 9 ls []) := by
  obtain ⟨hx, hb, hml, hown, hts, hT, hK, rs, hlk, hret, hnm⟩ := id C
  have hm : ∀ w ∈ MW, w.before args s = true := fun w hw => hts w (hT w hw)
  intro n
  induction n with
  | zero =>
    intro v0 v1 h H locs cells slots ls hR hL hl hp
    exact absurd (show none = some (r, h') from hp) (by simp)
  | succ n ih =>
    intro v0 v1 h H locs cells slots ls hR hL hl hp
    rw [p_X9_rowAnew_9.eq_2] at hp
    refine lv_iload_n hx hb dX9_rowAnew_9 rfl (zl_at hl 1 rfl) ?_
    refine z_aload_n hx hb dX9_rowAnew_10 rfl (zl_at hl 0 rfl) ?_
    obtain ⟨k1, hp⟩ := ck_i hp
    refine r_get (ci := 10) (C := RX9) (T := TX9) (N := 10) (v := zr (aR h v0 8)) hx hb hm ii_X9 hown hK hR rfl k1 8 (by decide) (hm _ mw_146) (fun _ h9 => h9) rfl dX9_rowAnew_11 ?_
    obtain ⟨k2, hp⟩ := ck_i hp
    obtain ⟨r3, h4, er3, hp⟩ := bR_i hp
    refine r_callF (ci := 0) (r := (RJx4a65c, TJx4a65c, 3)) (x := ⟨"java/util/List", "size", "()I"⟩) (n := 0) (As := []) (rest := [.int v1]) C (c_Jx4a65c_size_8abf5 l G (aR h v0 8) h r3 h4 er3) hR hL rfl k2 mw_479 mw_214 mw_216 mw_4 mw_218 (fw_size hK) (by decide +kernel) (by decide) rfl (zl_size hl) rfl (by simp [zr_cat, in_cat]) dX9_rowAnew_14 (st2 := [.int r3, .int v1]) rfl (fun H locs cells slots hR hL => ?_)
    refine lv_icmp_ge (tgt := 48) hx hb dX9_rowAnew_19 (by decide) (fun c5 => ?_) (fun c5 => ?_)
    · replace hp := ite_p hp c5
      refine z_aload_n hx hb dX9_rowAnew_48 rfl (zl_at hl 0 rfl) ?_
      obtain ⟨k6, hp⟩ := ck_i hp
      refine r_get (ci := 10) (C := RX9) (T := TX9) (N := 10) (v := zr (aR h4 v0 7)) hx hb hm ii_X9 hown hK hR rfl k6 7 (by decide) (hm _ mw_145) (fun _ h9 => h9) rfl dX9_rowAnew_49 ?_
      cases hp
      exact r_aret (by first | exact Or.inl ⟨_, rfl⟩ | exact Or.inr ⟨_, rfl⟩) C hR hL dX9_rowAnew_52
    · replace hp := ite_n hp c5
      refine z_aload_n hx hb dX9_rowAnew_22 rfl (zl_at hl 0 rfl) ?_
      obtain ⟨k7, hp⟩ := ck_i hp
      refine r_get (ci := 10) (C := RX9) (T := TX9) (N := 10) (v := zr (aR h4 v0 8)) hx hb hm ii_X9 hown hK hR rfl k7 8 (by decide) (hm _ mw_146) (fun _ h9 => h9) rfl dX9_rowAnew_23 ?_
      refine lv_iload_n hx hb dX9_rowAnew_26 rfl (zl_at hl 1 rfl) ?_
      obtain ⟨k8, hp⟩ := ck_i hp
      obtain ⟨r9, h10, er9, hp⟩ := bR_i hp
      refine r_callF (ci := 0) (r := (RJx4a65c, TJx4a65c, 3)) (x := ⟨"java/util/List", "get", "(I)Ljava/lang/Object;"⟩) (n := 1) (As := [.int v1]) (rest := []) C (c_Jx4a65c_get_915e3 l G (aR h4 v0 8) v1 h4 r9 h10 er9) hR hL rfl k8 mw_987 mw_223 mw_225 mw_4 mw_227 (fw_get hK) (by decide +kernel) (by decide) rfl (zl_size hl) rfl (by simp [zr_cat, in_cat]) dX9_rowAnew_27 (st2 := [zr r9]) rfl (fun H locs cells slots hR hL => ?_)
      obtain ⟨k11, hp⟩ := ck_i hp
      refine r_castC (ci := 3) (r := (RX2, TX2, 3)) hx hb hown (hm _ mw_432) hK hR rfl k11 dX9_rowAnew_32 ?_
      refine z_aload_n hx hb dX9_rowAnew_35 rfl (zl_at hl 0 rfl) ?_
      obtain ⟨k12, hp⟩ := ck_i hp
      refine r_get (ci := 10) (C := RX9) (T := TX9) (N := 10) (v := zr (aR h10 v0 7)) hx hb hm ii_X9 hown hK hR rfl k12 7 (by decide) (hm _ mw_145) (fun _ h9 => h9) rfl dX9_rowAnew_36 ?_
      obtain ⟨k13, hp⟩ := ck_i hp
      obtain ⟨r14, h15, er14, hp⟩ := bR_i hp
      refine r_callV (ci := 3) (r := (RX2, TX2, 3)) (n := 1) (As := [zr (aR h10 v0 7)]) (rest := []) C (c_X2_doTo l G r9 (aR h10 v0 7) h10 r14 h15 er14) hR hL rfl k13 mw_460 mw_461 mw_462 mw_17 mw_463 (by decide +kernel) (by decide) rfl (zl_size hl) rfl (by simp [zr_cat, in_cat]) dX9_rowAnew_39 (st2 := []) rfl (fun H locs cells slots hR hL => ?_)
      obtain ⟨x16, ex16⟩ : ∃ y : Int32, y = v1 + iI 1 := ⟨_, rfl⟩
      replace hp := nm_i hp ex16
      refine z_iinc (v := x16) (lv' := [(1, .int x16), (0, zr v0)]) hx hb dX9_rowAnew_42 hl (k := 1) rfl ex16 (by decide) rfl (fun ls hl => ?_)
      refine lv_goto (tgt := 9) hx hb dX9_rowAnew_45 (by decide) ?_
      exact ih _ _ _ _ _ _ _ _ hR hL (zl_sub hl [1, 0] rfl) hp
def p_X9_rowAnew_0  (v0 : Nat) (h : AH) : Option (Nat × AH) :=
  ck (aK h v0 = 11) <|
  ck (aK h (aR h v0 7) = 9) <|
  bR (p_X7_empty (aR h v0 7) h) fun r3 h4 =>
  nm ((iI 0)) fun (x5 : Int32) =>
  p_X9_rowAnew_9  FU v0 x5 h4
set_option maxHeartbeats 4000000 in
set_option maxRecDepth 100000 in
theorem s_X9_rowAnew_0 {p : Program} {l : Launch} {e : Env} {s : State} {m : MethodId} {args : Array Value} {below : List Frame} {meth : Method} {c : Code} {G : GG} {hs : AH} {r : Nat} {h' : AH} (C : Cx G hs p s m args meth c cX9_rowAnew 2 RX9 (.code yX9_rowAnew cX9_rowAnew 2 (some (.object "CursorKeep$Row")) :: MW) (some (.object "CursorKeep$Row")) "rowAnew")   {v0 : Nat} {h : AH} {H : Heap} {locs : List Loc} {cells slots : Nat} {ls : Array Slot} (hR : Rp G h H) (hL : ∀ q ∈ locs, gB G ≤ q.base) (hl : zl ls 2 [(0, zr v0)]) (hp : p_X9_rowAnew_0  v0 h = some (r, h')) : W p l e (gR G hs 4 104) s m args below meth c H locs cells slots (MQ below (Qcc G (some (zr r)) h') args s (gC G - aZ hs) (gS - aU hs) (fun q => gB G ≤ q)) (F0 m 0 ls []) := by
  obtain ⟨hx, hb, hml, hown, hts, hT, hK, rs, hlk, hret, hnm⟩ := id C
  have hm : ∀ w ∈ MW, w.before args s = true := fun w hw => hts w (hT w hw)
  unfold p_X9_rowAnew_0 at hp
  refine z_aload_n hx hb dX9_rowAnew_0 rfl (zl_at hl 0 rfl) ?_
  obtain ⟨k1, hp⟩ := ck_i hp
  refine r_get (ci := 10) (C := RX9) (T := TX9) (N := 10) (v := zr (aR h v0 7)) hx hb hm ii_X9 hown hK hR rfl k1 7 (by decide) (hm _ mw_145) (fun _ h9 => h9) rfl dX9_rowAnew_1 ?_
  obtain ⟨k2, hp⟩ := ck_i hp
  obtain ⟨r3, h4, er3, hp⟩ := bR_i hp
  refine r_callV (ci := 8) (r := (RX7, TX7, 4)) (n := 0) (As := []) (rest := []) C (c_X7_empty l G (aR h v0 7) h r3 h4 er3) hR hL rfl k2 mw_982 mw_983 mw_984 mw_8 mw_985 (by decide +kernel) (by decide) rfl (zl_size hl) rfl (by simp [zr_cat, in_cat]) dX9_rowAnew_4 (st2 := []) rfl (fun H locs cells slots hR hL => ?_)
  refine lv_iconst (v := iI 0) hx hb dX9_rowAnew_7 rfl ?_
  refine lv_topi (fun x5 ex5 => ?_)
  replace hp := nm_i hp ex5
  refine z_istore_n (lv' := [(1, .int x5), (0, zr v0)]) hx hb dX9_rowAnew_8 rfl hl (by decide) rfl (fun ls hl => ?_)
  exact s_X9_rowAnew_9 C  _ _ _ _ _ _ _ _ _ hR hL (zl_sub hl [1, 0] rfl) hp
def p_X9_rowAnew (v0 : Nat) (h : AH) : Option (Nat × AH) := ck (v0 ≠ 0) <| p_X9_rowAnew_0 v0 h
theorem c_X9_rowAnew (l : Launch) (G : GG) (v0 : Nat) (h : AH) (r : Nat) (h' : AH) (hp : p_X9_rowAnew v0 h = some (r, h')) : Ct l yX9_rowAnew (.code yX9_rowAnew cX9_rowAnew 2 (some (.object "CursorKeep$Row")) :: MW) G 4 104 [.ref (v0 - 1)] h (some (zr r)) h' := by
  obtain ⟨hz0, hp⟩ := ck_i hp
  refine Ct.of (by decide +kernel) (Nat.le_of_ble_eq_true rfl) ?_
  intro p e s m args below meth c C hR ls hl
  have hl : zl ls 2 [(0, zr v0)] := ⟨by rw [zr_p hz0]; exact hl, by simp [zr_cat, in_cat]⟩
  exact s_X9_rowAnew_0 C hR (fun _ hq => nomatch hq) hl hp
/-! CursorKeep$Text.keepAsSaved()V -/
def p_X9_keepAsSaved_75 (k7 : Nat → Int32 → AH → Option (Unit × AH)) (v0 : Nat) (v1 : Int32) (h : AH) : Option (Unit × AH) :=
  nm (v1 + iI 1) fun (x1 : Int32) =>
  k7 v0 x1 h
set_option maxHeartbeats 4000000 in
set_option maxRecDepth 100000 in
theorem s_X9_keepAsSaved_75 {p : Program} {l : Launch} {e : Env} {s : State} {m : MethodId} {args : Array Value} {below : List Frame} {meth : Method} {c : Code} {G : GG} {hs : AH} {r : Unit} {h' : AH} (C : Cx G hs p s m args meth c cX9_keepAsSaved 3 RX9 (.code yX9_keepAsSaved cX9_keepAsSaved 3 none :: MW) none "keepAsSaved") {k7 : Nat → Int32 → AH → Option (Unit × AH)} (hk7 : ∀ {v0 : Nat} {v1 : Int32} {h : AH} {H : Heap} {locs : List Loc} {cells slots : Nat} {ls : Array Slot}, Rp G h H → (∀ q ∈ locs, gB G ≤ q.base) → zl ls 3 [(0, zr v0), (1, .int v1)] → k7 v0 v1 h = some (r, h') → W p l e (gR G hs 3 82) s m args below meth c H locs cells slots (MQ below (Qcc G (none) h') args s (gC G - aZ hs) (gS - aU hs) (fun q => gB G ≤ q)) (F0 m 7 ls [])) {v0 : Nat} {v1 : Int32} {h : AH} {H : Heap} {locs : List Loc} {cells slots : Nat} {ls : Array Slot} (hR : Rp G h H) (hL : ∀ q ∈ locs, gB G ≤ q.base) (hl : zl ls 3 [(0, zr v0), (1, .int v1)]) (hp : p_X9_keepAsSaved_75 k7 v0 v1 h = some (r, h')) : W p l e (gR G hs 3 82) s m args below meth c H locs cells slots (MQ below (Qcc G (none) h') args s (gC G - aZ hs) (gS - aU hs) (fun q => gB G ≤ q)) (F0 m 75 ls []) := by
  obtain ⟨hx, hb, hml, hown, hts, hT, hK, rs, hlk, hret, hnm⟩ := id C
  have hm : ∀ w ∈ MW, w.before args s = true := fun w hw => hts w (hT w hw)
  unfold p_X9_keepAsSaved_75 at hp
  obtain ⟨x1, ex1⟩ : ∃ y : Int32, y = v1 + iI 1 := ⟨_, rfl⟩
  replace hp := nm_i hp ex1
  refine z_iinc (v := x1) (lv' := [(1, .int x1), (0, zr v0)]) hx hb dX9_keepAsSaved_75 hl (k := 1) rfl ex1 (by decide) rfl (fun ls hl => ?_)
  refine lv_goto (tgt := 7) hx hb dX9_keepAsSaved_78 (by decide) ?_
  exact hk7 hR hL (zl_sub hl [1, 0] rfl) hp
def p_X9_keepAsSaved_7  : Nat → Nat → Int32 → AH → Option (Unit × AH)
  | 0, _, _, _ => none
  | n + 1, v0, v1, h =>
    ck (aK h v0 = 11) <|
    ck (aK h (aR h v0 1) = 9) <|
    bR (p_X7_count (aR h v0 1) h) fun r3 h4 =>
    if r3 ≤ v1 then
      ck (aK h4 v0 = 11) <|
      ck (aK h4 v0 = 11) <|
      nm (uI h4 v0 5 (aI h4 v0 3)) fun h8 =>
      some ((), h8)
    else
      ck (aK h4 v0 = 11) <|
      ck (aK h4 (aR h4 v0 1) = 9) <|
      bR (p_X7_letterAt (aR h4 v0 1) v1 h4) fun r11 h12 =>
      ck (aK h12 v0 = 11) <|
      ck (aK h12 (aR h12 v0 1) = 9) <|
      bR (p_X7_shows (aR h12 v0 1) r11 h12) fun r15 h16 =>
      if r15 = 0 then
        p_X9_keepAsSaved_75 (p_X9_keepAsSaved_7  n) v0 v1 h16
      else
        ck (aK h16 v0 = 11) <|
        if (iI 150) ≤ (aI h16 v0 6) then
          p_X9_keepAsSaved_75 (p_X9_keepAsSaved_7  n) v0 v1 h16
        else
          ck (aK h16 v0 = 11) <|
          ck (aK h16 v0 = 11) <|
          ck (aK h16 v0 = 11) <|
          ck (aK h16 (aR h16 v0 1) = 9) <|
          bR (p_X7_signOf (aR h16 v0 1) r11 h16) fun r24 h25 =>
          ck (aK h25 (aR h16 v0 2) = 21 ∧ ix (aI h16 v0 6) (aN h25 (aR h16 v0 2))) <|
          nm (uI h25 (aR h16 v0 2) (aI h16 v0 6).toNatClampNeg (nC r24)) fun h28 =>
          ck (aK h28 v0 = 11) <|
          ck (aK h28 v0 = 11) <|
          nm (uI h28 v0 6 ((aI h28 v0 6) + (iI 1))) fun h31 =>
          p_X9_keepAsSaved_75 (p_X9_keepAsSaved_7  n) v0 v1 h31
set_option maxHeartbeats 4000000 in
set_option maxRecDepth 100000 in
theorem s_X9_keepAsSaved_7 {p : Program} {l : Launch} {e : Env} {s : State} {m : MethodId} {args : Array Value} {below : List Frame} {meth : Method} {c : Code} {G : GG} {hs : AH} {r : Unit} {h' : AH} (C : Cx G hs p s m args meth c cX9_keepAsSaved 3 RX9 (.code yX9_keepAsSaved cX9_keepAsSaved 3 none :: MW) none "keepAsSaved")   : ∀ (n : Nat) (v0 : Nat) (v1 : Int32) (h : AH) (H : Heap) (locs : List Loc) (cells slots : Nat) (ls : Array Slot) (hR : Rp G h H) (hL : ∀ q ∈ locs, gB G ≤ q.base) (hl : zl ls 3 [(0, zr v0), (1, .int v1)]) (hp : p_X9_keepAsSaved_7  n v0 v1 h = some (r, h')), W p l e (gR G hs 3 82) s m args below meth c H locs cells slots (MQ below (Qcc G (none) h') args s (gC G - aZ hs) (gS - aU hs) (fun q => gB G ≤ q)) (F0 m 7 ls []) := by
  obtain ⟨hx, hb, hml, hown, hts, hT, hK, rs, hlk, hret, hnm⟩ := id C
  have hm : ∀ w ∈ MW, w.before args s = true := fun w hw => hts w (hT w hw)
  intro n
  induction n with
  | zero =>
    intro v0 v1 h H locs cells slots ls hR hL hl hp
    exact absurd (show none = some (r, h') from hp) (by simp)
  | succ n ih =>
    intro v0 v1 h H locs cells slots ls hR hL hl hp
    rw [p_X9_keepAsSaved_7.eq_2] at hp
    refine lv_iload_n hx hb dX9_keepAsSaved_7 rfl (zl_at hl 1 rfl) ?_
    refine z_aload_n hx hb dX9_keepAsSaved_8 rfl (zl_at hl 0 rfl) ?_
    obtain ⟨k1, hp⟩ := ck_i hp
    refine r_get (ci := 10) (C := RX9) (T := TX9) (N := 10) (v := zr (aR h v0 1)) hx hb hm ii_X9 hown hK hR rfl k1 1 (by decide) (hm _ mw_131) (fun _ h9 => h9) rfl dX9_keepAsSaved_9 ?_
    obtain ⟨k2, hp⟩ := ck_i hp
    obtain ⟨r3, h4, er3, hp⟩ := bR_i hp
    refine r_callV (ci := 8) (r := (RX7, TX7, 4)) (n := 0) (As := []) (rest := [.int v1]) C (c_X7_count l G (aR h v0 1) h r3 h4 er3) hR hL rfl k2 mw_271 mw_272 mw_273 mw_8 mw_274 (by decide +kernel) (by decide) rfl (zl_size hl) rfl (by simp [zr_cat, in_cat]) dX9_keepAsSaved_12 (st2 := [.int r3, .int v1]) rfl (fun H locs cells slots hR hL => ?_)
    refine lv_icmp_ge (tgt := 81) hx hb dX9_keepAsSaved_15 (by decide) (fun c5 => ?_) (fun c5 => ?_)
    · replace hp := ite_p hp c5
      refine z_aload_n hx hb dX9_keepAsSaved_81 rfl (zl_at hl 0 rfl) ?_
      refine z_aload_n hx hb dX9_keepAsSaved_82 rfl (zl_at hl 0 rfl) ?_
      obtain ⟨k6, hp⟩ := ck_i hp
      refine r_get (ci := 10) (C := RX9) (T := TX9) (N := 10) (v := .int (aI h4 v0 3)) hx hb hm ii_X9 hown hK hR rfl k6 3 (by decide) (hm _ mw_137) (fun _ h9 => h9) rfl dX9_keepAsSaved_83 ?_
      obtain ⟨k7, hp⟩ := ck_i hp
      refine r_putI (ci := 10) (C := RX9) (T := TX9) (N := 10) hx hb hm ii_X9 tyX9_ok nmX9 hown hK hR hL rfl k7 5 (by decide) (hm _ mw_141) (fun _ h9 => h9) (Or.inl rfl) rfl rfl (fun _ _ _ => rfl) dX9_keepAsSaved_86 (fun H locs hR hL => ?_)
      obtain ⟨h8, hp, hR⟩ := nm_h hp hR
      cases hp
      exact r_vret C hR hL dX9_keepAsSaved_89
    · replace hp := ite_n hp c5
      refine z_aload_n hx hb dX9_keepAsSaved_18 rfl (zl_at hl 0 rfl) ?_
      obtain ⟨k9, hp⟩ := ck_i hp
      refine r_get (ci := 10) (C := RX9) (T := TX9) (N := 10) (v := zr (aR h4 v0 1)) hx hb hm ii_X9 hown hK hR rfl k9 1 (by decide) (hm _ mw_131) (fun _ h9 => h9) rfl dX9_keepAsSaved_19 ?_
      refine lv_iload_n hx hb dX9_keepAsSaved_22 rfl (zl_at hl 1 rfl) ?_
      obtain ⟨k10, hp⟩ := ck_i hp
      obtain ⟨r11, h12, er11, hp⟩ := bR_i hp
      refine r_callV (ci := 8) (r := (RX7, TX7, 4)) (n := 1) (As := [.int v1]) (rest := []) C (c_X7_letterAt l G (aR h4 v0 1) v1 h4 r11 h12 er11) hR hL rfl k10 mw_275 mw_276 mw_277 mw_8 mw_278 (by decide +kernel) (by decide) rfl (zl_size hl) rfl (by simp [zr_cat, in_cat]) dX9_keepAsSaved_23 (st2 := [.int r11]) rfl (fun H locs cells slots hR hL => ?_)
      refine z_istore_n (lv' := [(2, .int r11), (0, zr v0), (1, .int v1)]) hx hb dX9_keepAsSaved_26 rfl hl (by decide) rfl (fun ls hl => ?_)
      refine z_aload_n hx hb dX9_keepAsSaved_27 rfl (zl_at hl 1 rfl) ?_
      obtain ⟨k13, hp⟩ := ck_i hp
      refine r_get (ci := 10) (C := RX9) (T := TX9) (N := 10) (v := zr (aR h12 v0 1)) hx hb hm ii_X9 hown hK hR rfl k13 1 (by decide) (hm _ mw_131) (fun _ h9 => h9) rfl dX9_keepAsSaved_28 ?_
      refine lv_iload_n hx hb dX9_keepAsSaved_31 rfl (zl_at hl 0 rfl) ?_
      obtain ⟨k14, hp⟩ := ck_i hp
      obtain ⟨r15, h16, er15, hp⟩ := bR_i hp
      refine r_callV (ci := 8) (r := (RX7, TX7, 4)) (n := 1) (As := [.int r11]) (rest := []) C (c_X7_shows l G (aR h12 v0 1) r11 h12 r15 h16 er15) hR hL rfl k14 mw_279 mw_280 mw_281 mw_8 mw_282 (by decide +kernel) (by decide) rfl (zl_size hl) rfl (by simp [zr_cat, in_cat]) dX9_keepAsSaved_32 (st2 := [.int r15]) rfl (fun H locs cells slots hR hL => ?_)
      refine lv_if_eq (tgt := 75) hx hb dX9_keepAsSaved_35 (by decide) (fun c17 => ?_) (fun c17 => ?_)
      · replace hp := ite_p hp c17
        exact s_X9_keepAsSaved_75 C (fun hR hL hl hp => ih _ _ _ _ _ _ _ _ hR hL hl hp) hR hL (zl_sub hl [1, 2] rfl) hp
      · replace hp := ite_n hp c17
        refine z_aload_n hx hb dX9_keepAsSaved_38 rfl (zl_at hl 1 rfl) ?_
        obtain ⟨k18, hp⟩ := ck_i hp
        refine r_get (ci := 10) (C := RX9) (T := TX9) (N := 10) (v := .int (aI h16 v0 6)) hx hb hm ii_X9 hown hK hR rfl k18 6 (by decide) (hm _ mw_143) (fun _ h9 => h9) rfl dX9_keepAsSaved_39 ?_
        refine lv_sipush (v := iI 150) hx hb dX9_keepAsSaved_42 (by decide +kernel) ?_
        refine lv_icmp_ge (tgt := 75) hx hb dX9_keepAsSaved_45 (by decide) (fun c19 => ?_) (fun c19 => ?_)
        · replace hp := ite_p hp c19
          exact s_X9_keepAsSaved_75 C (fun hR hL hl hp => ih _ _ _ _ _ _ _ _ hR hL hl hp) hR hL (zl_sub hl [1, 2] rfl) hp
        · replace hp := ite_n hp c19
          refine z_aload_n hx hb dX9_keepAsSaved_48 rfl (zl_at hl 1 rfl) ?_
          obtain ⟨k20, hp⟩ := ck_i hp
          refine r_get (ci := 10) (C := RX9) (T := TX9) (N := 10) (v := zr (aR h16 v0 2)) hx hb hm ii_X9 hown hK hR rfl k20 2 (by decide) (hm _ mw_134) (fun _ h9 => h9) rfl dX9_keepAsSaved_49 ?_
          refine z_aload_n hx hb dX9_keepAsSaved_52 rfl (zl_at hl 1 rfl) ?_
          obtain ⟨k21, hp⟩ := ck_i hp
          refine r_get (ci := 10) (C := RX9) (T := TX9) (N := 10) (v := .int (aI h16 v0 6)) hx hb hm ii_X9 hown hK hR rfl k21 6 (by decide) (hm _ mw_143) (fun _ h9 => h9) rfl dX9_keepAsSaved_53 ?_
          refine z_aload_n hx hb dX9_keepAsSaved_56 rfl (zl_at hl 1 rfl) ?_
          obtain ⟨k22, hp⟩ := ck_i hp
          refine r_get (ci := 10) (C := RX9) (T := TX9) (N := 10) (v := zr (aR h16 v0 1)) hx hb hm ii_X9 hown hK hR rfl k22 1 (by decide) (hm _ mw_131) (fun _ h9 => h9) rfl dX9_keepAsSaved_57 ?_
          refine lv_iload_n hx hb dX9_keepAsSaved_60 rfl (zl_at hl 0 rfl) ?_
          obtain ⟨k23, hp⟩ := ck_i hp
          obtain ⟨r24, h25, er24, hp⟩ := bR_i hp
          refine r_callV (ci := 8) (r := (RX7, TX7, 4)) (n := 1) (As := [.int r11]) (rest := [.int (aI h16 v0 6), zr (aR h16 v0 2)]) C (c_X7_signOf l G (aR h16 v0 1) r11 h16 r24 h25 er24) hR hL rfl k23 mw_287 mw_288 mw_289 mw_8 mw_290 (by decide +kernel) (by decide) rfl (zl_size hl) rfl (by simp [zr_cat, in_cat]) dX9_keepAsSaved_61 (st2 := [.int r24, .int (aI h16 v0 6), zr (aR h16 v0 2)]) rfl (fun H locs cells slots hR hL => ?_)
          obtain ⟨k26, hp⟩ := ck_i hp
          refine r_cast hx hb hK hR hL k26.1 k26.2 dX9_keepAsSaved_64 (fun H locs hR hL => ?_)
          obtain ⟨h28, hp, hR⟩ := nm_h hp hR
          refine z_aload_n hx hb dX9_keepAsSaved_65 rfl (zl_at hl 1 rfl) ?_
          refine lv_dup hx hb dX9_keepAsSaved_66 (zr_cat _) ?_
          obtain ⟨k29, hp⟩ := ck_i hp
          refine r_get (ci := 10) (C := RX9) (T := TX9) (N := 10) (v := .int (aI h28 v0 6)) hx hb hm ii_X9 hown hK hR rfl k29 6 (by decide) (hm _ mw_143) (fun _ h9 => h9) rfl dX9_keepAsSaved_67 ?_
          refine lv_iconst (v := iI 1) hx hb dX9_keepAsSaved_70 rfl ?_
          refine lv_iadd hx hb dX9_keepAsSaved_71 ?_
          obtain ⟨k30, hp⟩ := ck_i hp
          refine r_putI (ci := 10) (C := RX9) (T := TX9) (N := 10) hx hb hm ii_X9 tyX9_ok nmX9 hown hK hR hL rfl k30 6 (by decide) (hm _ mw_143) (fun _ h9 => h9) (Or.inl rfl) rfl rfl (fun _ _ _ => rfl) dX9_keepAsSaved_72 (fun H locs hR hL => ?_)
          obtain ⟨h31, hp, hR⟩ := nm_h hp hR
          exact s_X9_keepAsSaved_75 C (fun hR hL hl hp => ih _ _ _ _ _ _ _ _ hR hL hl hp) hR hL (zl_sub hl [1, 2] rfl) hp
def p_X9_keepAsSaved_0  (v0 : Nat) (h : AH) : Option (Unit × AH) :=
  ck (aK h v0 = 11) <|
  nm (uI h v0 6 (iI 0)) fun h2 =>
  nm ((iI 0)) fun (x3 : Int32) =>
  p_X9_keepAsSaved_7  FU v0 x3 h2
set_option maxHeartbeats 4000000 in
set_option maxRecDepth 100000 in
theorem s_X9_keepAsSaved_0 {p : Program} {l : Launch} {e : Env} {s : State} {m : MethodId} {args : Array Value} {below : List Frame} {meth : Method} {c : Code} {G : GG} {hs : AH} {r : Unit} {h' : AH} (C : Cx G hs p s m args meth c cX9_keepAsSaved 3 RX9 (.code yX9_keepAsSaved cX9_keepAsSaved 3 none :: MW) none "keepAsSaved")   {v0 : Nat} {h : AH} {H : Heap} {locs : List Loc} {cells slots : Nat} {ls : Array Slot} (hR : Rp G h H) (hL : ∀ q ∈ locs, gB G ≤ q.base) (hl : zl ls 3 [(0, zr v0)]) (hp : p_X9_keepAsSaved_0  v0 h = some (r, h')) : W p l e (gR G hs 3 82) s m args below meth c H locs cells slots (MQ below (Qcc G (none) h') args s (gC G - aZ hs) (gS - aU hs) (fun q => gB G ≤ q)) (F0 m 0 ls []) := by
  obtain ⟨hx, hb, hml, hown, hts, hT, hK, rs, hlk, hret, hnm⟩ := id C
  have hm : ∀ w ∈ MW, w.before args s = true := fun w hw => hts w (hT w hw)
  unfold p_X9_keepAsSaved_0 at hp
  refine z_aload_n hx hb dX9_keepAsSaved_0 rfl (zl_at hl 0 rfl) ?_
  refine lv_iconst (v := iI 0) hx hb dX9_keepAsSaved_1 rfl ?_
  obtain ⟨k1, hp⟩ := ck_i hp
  refine r_putI (ci := 10) (C := RX9) (T := TX9) (N := 10) hx hb hm ii_X9 tyX9_ok nmX9 hown hK hR hL rfl k1 6 (by decide) (hm _ mw_143) (fun _ h9 => h9) (Or.inl rfl) rfl rfl (fun _ _ _ => rfl) dX9_keepAsSaved_2 (fun H locs hR hL => ?_)
  obtain ⟨h2, hp, hR⟩ := nm_h hp hR
  refine lv_iconst (v := iI 0) hx hb dX9_keepAsSaved_5 rfl ?_
  refine lv_topi (fun x3 ex3 => ?_)
  replace hp := nm_i hp ex3
  refine z_istore_n (lv' := [(1, .int x3), (0, zr v0)]) hx hb dX9_keepAsSaved_6 rfl hl (by decide) rfl (fun ls hl => ?_)
  exact s_X9_keepAsSaved_7 C  _ _ _ _ _ _ _ _ _ hR hL (zl_sub hl [1, 0] rfl) hp
def p_X9_keepAsSaved (v0 : Nat) (h : AH) : Option (Unit × AH) := ck (v0 ≠ 0) <| p_X9_keepAsSaved_0 v0 h
theorem c_X9_keepAsSaved (l : Launch) (G : GG) (v0 : Nat) (h : AH) (r : Unit) (h' : AH) (hp : p_X9_keepAsSaved v0 h = some (r, h')) : Ct l yX9_keepAsSaved (.code yX9_keepAsSaved cX9_keepAsSaved 3 none :: MW) G 3 82 [.ref (v0 - 1)] h (none) h' := by
  obtain ⟨hz0, hp⟩ := ck_i hp
  refine Ct.of (by decide +kernel) (Nat.le_of_ble_eq_true rfl) ?_
  intro p e s m args below meth c C hR ls hl
  have hl : zl ls 3 [(0, zr v0)] := ⟨by rw [zr_p hz0]; exact hl, by simp [zr_cat, in_cat]⟩
  exact s_X9_keepAsSaved_0 C hR (fun _ hq => nomatch hq) hl hp
