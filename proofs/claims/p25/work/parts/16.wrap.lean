/-! CursorKeepLaw.cell([II)I -/
def p_L_cell_24 (xs : Nat → Int32) (L : Nat)  (s0 : Int32) (h : AH) : Option (Int32 × AH) :=
  some ((s0 &&& (2147483647 : Int32)), h)
set_option maxHeartbeats 4000000 in
set_option maxRecDepth 100000 in
theorem s_L_cell_24 {p : Program} {l : Launch} {e : Env} {s : State} {m : MethodId} {b L : Nat} {xs : Nat → Int32} {args : Array Value} {below : List Frame} {meth : Method} {c : Code} {G : GG} {hs : AH} {r : Int32} {h' : AH} (eX : gX G = (b, L, xs)) (C : Cx G hs p s m args meth c cL_cell 2 RL (.code yL_cell cL_cell 2 (some .int) :: MW) (some .int) "cell")   {s0 : Int32} {h : AH} {H : Heap} {locs : List Loc} {cells slots : Nat} {ls : Array Slot} (hR : Rp G h H) (hL : ∀ q ∈ locs, gB G ≤ q.base) (hl : zl ls 2 [(0, .ref b)]) (hp : p_L_cell_24 xs L  s0 h = some (r, h')) : W p l e (gR G hs 1 40) s m args below meth c H locs cells slots (MQ below (Qcc G (some (.int r)) h') args s (gC G - aZ hs) (gS - aU hs) (fun q => gB G ≤ q)) (F0 m 24 ls [.int s0]) := by
  obtain ⟨hx, hb, hml, hown, hts, hT, hK, rs, hlk, hret, hnm⟩ := id C
  have hm : ∀ w ∈ MW, w.before args s = true := fun w hw => hts w (hT w hw)
  obtain ⟨hX, hbB⟩ := hK.scr eX
  unfold p_L_cell_24 at hp
  refine lv_ldc (v := 2147483647) hx hb hown (hm _ mw_299) dL_cell_24 ?_
  refine lv_iand hx hb dL_cell_26 ?_
  cases hp
  exact r_zret C hR hL rfl dL_cell_27
def p_L_cell_0 (xs : Nat → Int32) (L : Nat)  (v1 : Int32) (h : AH) : Option (Int32 × AH) :=
  if (nI L) ≤ v1 then
    p_L_cell_24 xs L  (((59009 : Int32) * (v1 - v1 / (iI 6571) * (iI 6571))) + (iI 2741)) h
  else
    ck (ix v1 L) <|
    p_L_cell_24 xs L  (xs v1.toNatClampNeg) h
set_option maxHeartbeats 4000000 in
set_option maxRecDepth 100000 in
theorem s_L_cell_0 {p : Program} {l : Launch} {e : Env} {s : State} {m : MethodId} {b L : Nat} {xs : Nat → Int32} {args : Array Value} {below : List Frame} {meth : Method} {c : Code} {G : GG} {hs : AH} {r : Int32} {h' : AH} (eX : gX G = (b, L, xs)) (C : Cx G hs p s m args meth c cL_cell 2 RL (.code yL_cell cL_cell 2 (some .int) :: MW) (some .int) "cell")   {v1 : Int32} {h : AH} {H : Heap} {locs : List Loc} {cells slots : Nat} {ls : Array Slot} (hR : Rp G h H) (hL : ∀ q ∈ locs, gB G ≤ q.base) (hl : zl ls 2 [(1, .int v1), (0, .ref b)]) (hp : p_L_cell_0 xs L  v1 h = some (r, h')) : W p l e (gR G hs 1 40) s m args below meth c H locs cells slots (MQ below (Qcc G (some (.int r)) h') args s (gC G - aZ hs) (gS - aU hs) (fun q => gB G ≤ q)) (F0 m 0 ls []) := by
  obtain ⟨hx, hb, hml, hown, hts, hT, hK, rs, hlk, hret, hnm⟩ := id C
  have hm : ∀ w ∈ MW, w.before args s = true := fun w hw => hts w (hT w hw)
  obtain ⟨hX, hbB⟩ := hK.scr eX
  unfold p_L_cell_0 at hp
  refine lv_iload_n hx hb dL_cell_0 rfl (zl_at hl 0 rfl) ?_
  refine lv_aload_n hx hb dL_cell_1 rfl (zl_at hl 1 rfl) ?_
  refine r_slen hx hb hX hbB hR dL_cell_2 ?_
  refine lv_icmp_ge (tgt := 12) hx hb dL_cell_3 (by decide) (fun c1 => ?_) (fun c1 => ?_)
  · replace hp := ite_p hp c1
    refine lv_ldc (v := 59009) hx hb hown (hm _ mw_298) dL_cell_12 ?_
    refine lv_iload_n hx hb dL_cell_14 rfl (zl_at hl 0 rfl) ?_
    refine lv_sipush (v := iI 6571) hx hb dL_cell_15 (by decide +kernel) ?_
    refine lv_irem hx hb dL_cell_18 (by decide +kernel) ?_
    refine lv_imul hx hb dL_cell_19 ?_
    refine lv_sipush (v := iI 2741) hx hb dL_cell_20 (by decide +kernel) ?_
    refine lv_iadd hx hb dL_cell_23 ?_
    exact s_L_cell_24 eX C  hR hL (zl_sub hl [1] rfl) hp
  · replace hp := ite_n hp c1
    refine lv_aload_n hx hb dL_cell_6 rfl (zl_at hl 1 rfl) ?_
    refine lv_iload_n hx hb dL_cell_7 rfl (zl_at hl 0 rfl) ?_
    obtain ⟨k2, hp⟩ := ck_i hp
    refine r_sld hx hb hX hbB hR k2 dL_cell_8 ?_
    refine lv_goto (tgt := 24) hx hb dL_cell_9 (by decide) ?_
    exact s_L_cell_24 eX C  hR hL (zl_sub hl [1] rfl) hp
def p_L_cell (xs : Nat → Int32) (L : Nat) (v1 : Int32) (h : AH) : Option (Int32 × AH) := p_L_cell_0 xs L v1 h
theorem c_L_cell (l : Launch) (G : GG) {b L : Nat} {xs : Nat → Int32} (eX : gX G = (b, L, xs)) (v1 : Int32) (h : AH) (r : Int32) (h' : AH) (hp : p_L_cell xs L v1 h = some (r, h')) : Ct l yL_cell (.code yL_cell cL_cell 2 (some .int) :: MW) G 1 40 [.ref b, .int v1] h (some (.int r)) h' := by
  refine Ct.of (by decide +kernel) (Nat.le_of_ble_eq_true rfl) ?_
  intro p e s m args below meth c C hR ls hl
  have hl : zl ls 2 [(0, .ref b), (1, .int v1)] := ⟨hl, by simp [re_cat, in_cat]⟩
  exact s_L_cell_0 eX C hR (fun _ hq => nomatch hq) (zl_sub hl [1, 0] rfl) hp
/-! CursorKeepLaw.type(LCursorKeep;III)I -/
def p_L_type_0  (v0 : Nat) (v1 : Int32) (v2 : Int32) (v3 : Int32) (h : AH) : Option (Int32 × AH) :=
  ck (aK h v0 = 12) <|
  bC (p_X10_type v0 v1 v2 (nC v3) h) (fun r2 h3 =>
    some (r2, h3))
  (fun e4 h3 =>
    if e4 = 1 then
      some ((iI (-101)), h3)
    else
      if e4 = 2 then
        some ((iI (-102)), h3)
      else
        if e4 = 3 then
          some ((iI (-103)), h3)
        else
          none)
set_option maxHeartbeats 4000000 in
set_option maxRecDepth 100000 in
theorem s_L_type_0 {p : Program} {l : Launch} {e : Env} {s : State} {m : MethodId} {args : Array Value} {below : List Frame} {meth : Method} {c : Code} {G : GG} {hs : AH} {r : Int32} {h' : AH} (hfl : l.stackTraces = false) (htb : c.exceptionTable.toList = tableOf [(0, 8, 9, 15), (0, 8, 14, 17), (0, 8, 19, 19)]) (C : Cx G hs p s m args meth c cL_type 5 RL (.codeWith yL_type cL_type 5 (some .int) [(0, 8, 9, 15), (0, 8, 14, 17), (0, 8, 19, 19)] :: MW) (some .int) "type")   {v0 : Nat} {v1 : Int32} {v2 : Int32} {v3 : Int32} {h : AH} {H : Heap} {locs : List Loc} {cells slots : Nat} {ls : Array Slot} (hR : Rp G h H) (hL : ∀ q ∈ locs, gB G ≤ q.base) (hl : zl ls 5 [(0, zr v0), (1, .int v1), (2, .int v2), (3, .int v3)]) (hp : p_L_type_0  v0 v1 v2 v3 h = some (r, h')) : W p l e (gR G hs 10 241) s m args below meth c H locs cells slots (MQ below (Qcc G (some (.int r)) h') args s (gC G - aZ hs) (gS - aU hs) (fun q => gB G ≤ q)) (F0 m 0 ls []) := by
  obtain ⟨hx, hb, hml, hown, hts, hT, hK, rs, hlk, hret, hnm⟩ := id C
  have hm : ∀ w ∈ MW, w.before args s = true := fun w hw => hts w (hT w hw)
  unfold p_L_type_0 at hp
  refine z_aload_n hx hb dL_type_0 rfl (zl_at hl 0 rfl) ?_
  refine lv_iload_n hx hb dL_type_1 rfl (zl_at hl 1 rfl) ?_
  refine lv_iload_n hx hb dL_type_2 rfl (zl_at hl 2 rfl) ?_
  refine lv_iload_n hx hb dL_type_3 rfl (zl_at hl 3 rfl) ?_
  refine lv_i2c (v := nC v3) hx hb dL_type_4 rfl ?_
  obtain ⟨k1, hp⟩ := ck_i hp
  rcases bC_i hp with ⟨r2, h3, er2, hp⟩ | ⟨e4, h3, er2, hp⟩
  · refine r_runVX (ci := 11) (r := (RX10, TX10, 7)) (n := 3) (As := [.int v1, .int v2, .int (nC v3)]) (rest := []) C (c_X10_type l hfl G v0 v1 v2 (nC v3) h (.ok r2) h3 er2) hR rfl k1 mw_306 mw_307 mw_308 mw_1 mw_309 (by decide +kernel) (by decide) rfl (zl_size hl) rfl (by simp [zr_cat, in_cat]) dL_type_5 (fun cells slots hr => ?_)
    refine r_okRun hR hL hr (fun H locs cells slots hR hL => ?_)
    refine W.eq (g2 := F0 m 8 ls [.int r2]) rfl ?_
    cases hp
    exact r_zret C hR hL rfl dL_type_8
  · refine r_runVX (ci := 11) (r := (RX10, TX10, 7)) (n := 3) (As := [.int v1, .int v2, .int (nC v3)]) (rest := []) C (c_X10_type l hfl G v0 v1 v2 (nC v3) h (.error e4) h3 er2) hR rfl k1 mw_306 mw_307 mw_308 mw_1 mw_309 (by decide +kernel) (by decide) rfl (zl_size hl) rfl (by simp [zr_cat, in_cat]) dL_type_5 (fun cells slots hr => ?_)
    refine r_exRun hR hL hr (fun q9 ce H locs cells slots hR hL hce hcv hcl => ?_)
    by_cases c5 : e4 = 1
    · subst c5
      replace hp := ite_p hp rfl
      refine r_catch (e0 := 1) (name := "java/lang/IndexOutOfBoundsException") hown hK [] ⟨0, 8, 9, 15⟩ [⟨0, 8, 14, 17⟩, ⟨0, 8, 19, 19⟩] (htb.trans rfl) (fun _ hz => nomatch hz) (by decide) (by decide) (hm _ mw_303) (KW_t 316 (by decide +kernel) (by decide +kernel)) hce hcv hcl ?_
      refine z_astore (lv' := [(4, zr (q9 + 1)), (0, zr v0), (1, .int v1), (2, .int v2), (3, .int v3)]) hx hb dL_type_9 hl (by decide) rfl (fun ls hl => ?_)
      refine lv_bipush (v := iI (-101)) hx hb dL_type_11 (by decide +kernel) ?_
      cases hp
      exact r_zret C hR hL rfl dL_type_13
    replace hp := ite_n hp c5
    by_cases c6 : e4 = 2
    · subst c6
      replace hp := ite_p hp rfl
      refine r_catch (e0 := 2) (name := "java/lang/IllegalArgumentException") hown hK [⟨0, 8, 9, 15⟩] ⟨0, 8, 14, 17⟩ [⟨0, 8, 19, 19⟩] (htb.trans rfl) (fun z hz => by rw [List.mem_singleton.mp hz]; exact ⟨by decide, _, hm _ mw_303, by decide +kernel⟩) (by decide) (by decide) (hm _ mw_304) (KW_t 392 (by decide +kernel) (by decide +kernel)) hce hcv hcl ?_
      refine z_astore (lv' := [(4, zr (q9 + 1)), (0, zr v0), (1, .int v1), (2, .int v2), (3, .int v3)]) hx hb dL_type_14 hl (by decide) rfl (fun ls hl => ?_)
      refine lv_bipush (v := iI (-102)) hx hb dL_type_16 (by decide +kernel) ?_
      cases hp
      exact r_zret C hR hL rfl dL_type_18
    replace hp := ite_n hp c6
    by_cases c7 : e4 = 3
    · subst c7
      replace hp := ite_p hp rfl
      refine r_catch (e0 := 3) (name := "java/lang/IllegalStateException") hown hK [⟨0, 8, 9, 15⟩, ⟨0, 8, 14, 17⟩] ⟨0, 8, 19, 19⟩ [] (htb.trans rfl) (fun z hz => (List.mem_cons.mp hz).elim (fun h9 => by rw [h9]; exact ⟨by decide, _, hm _ mw_303, by decide +kernel⟩) (fun h9 => by rw [List.mem_singleton.mp h9]; exact ⟨by decide, _, hm _ mw_304, by decide +kernel⟩)) (by decide) (by decide) (hm _ mw_305) (KW_t 412 (by decide +kernel) (by decide +kernel)) hce hcv hcl ?_
      refine z_astore (lv' := [(4, zr (q9 + 1)), (0, zr v0), (1, .int v1), (2, .int v2), (3, .int v3)]) hx hb dL_type_19 hl (by decide) rfl (fun ls hl => ?_)
      refine lv_bipush (v := iI (-103)) hx hb dL_type_21 (by decide +kernel) ?_
      cases hp
      exact r_zret C hR hL rfl dL_type_23
    replace hp := ite_n hp c7
    exact absurd hp (by simp)
def p_L_type (v0 : Nat) (v1 : Int32) (v2 : Int32) (v3 : Int32) (h : AH) : Option (Int32 × AH) := ck (v0 ≠ 0) <| p_L_type_0 v0 v1 v2 v3 h
theorem c_L_type (l : Launch) (hfl : l.stackTraces = false) (G : GG) (v0 : Nat) (v1 : Int32) (v2 : Int32) (v3 : Int32) (h : AH) (r : Int32) (h' : AH) (hp : p_L_type v0 v1 v2 v3 h = some (r, h')) : Ct l yL_type (.codeWith yL_type cL_type 5 (some .int) [(0, 8, 9, 15), (0, 8, 14, 17), (0, 8, 19, 19)] :: MW) G 10 241 [zr v0, .int v1, .int v2, .int v3] h (some (.int r)) h' := by
  obtain ⟨hz0, hp⟩ := ck_i hp
  rw [show zr v0 = .ref (v0 - 1) from zr_p hz0]
  refine Ct.ofH (by decide +kernel) (Nat.le_of_ble_eq_true rfl) ?_
  intro p e s m args below meth c C htb hR ls hl
  have hl : zl ls 5 [(0, zr v0), (1, .int v1), (2, .int v2), (3, .int v3)] := ⟨by rw [zr_p hz0]; exact hl, by simp [zr_cat, in_cat]⟩
  exact s_L_type_0 hfl htb C hR (fun _ hq => nomatch hq) hl hp
/-! CursorKeepLaw.erase(LCursorKeep;II)I -/
def p_L_erase_0  (v0 : Nat) (v1 : Int32) (v2 : Int32) (h : AH) : Option (Int32 × AH) :=
  ck (aK h v0 = 12) <|
  bC (p_X10_erase v0 v1 v2 h) (fun r2 h3 =>
    some (r2, h3))
  (fun e4 h3 =>
    if e4 = 1 then
      some ((iI (-101)), h3)
    else
      if e4 = 3 then
        some ((iI (-103)), h3)
      else
        none)
set_option maxHeartbeats 4000000 in
set_option maxRecDepth 100000 in
theorem s_L_erase_0 {p : Program} {l : Launch} {e : Env} {s : State} {m : MethodId} {args : Array Value} {below : List Frame} {meth : Method} {c : Code} {G : GG} {hs : AH} {r : Int32} {h' : AH} (hfl : l.stackTraces = false) (htb : c.exceptionTable.toList = tableOf [(0, 6, 7, 15), (0, 6, 11, 19)]) (C : Cx G hs p s m args meth c cL_erase 4 RL (.codeWith yL_erase cL_erase 4 (some .int) [(0, 6, 7, 15), (0, 6, 11, 19)] :: MW) (some .int) "erase")   {v0 : Nat} {v1 : Int32} {v2 : Int32} {h : AH} {H : Heap} {locs : List Loc} {cells slots : Nat} {ls : Array Slot} (hR : Rp G h H) (hL : ∀ q ∈ locs, gB G ≤ q.base) (hl : zl ls 4 [(0, zr v0), (1, .int v1), (2, .int v2)]) (hp : p_L_erase_0  v0 v1 v2 h = some (r, h')) : W p l e (gR G hs 11 263) s m args below meth c H locs cells slots (MQ below (Qcc G (some (.int r)) h') args s (gC G - aZ hs) (gS - aU hs) (fun q => gB G ≤ q)) (F0 m 0 ls []) := by
  obtain ⟨hx, hb, hml, hown, hts, hT, hK, rs, hlk, hret, hnm⟩ := id C
  have hm : ∀ w ∈ MW, w.before args s = true := fun w hw => hts w (hT w hw)
  unfold p_L_erase_0 at hp
  refine z_aload_n hx hb dL_erase_0 rfl (zl_at hl 0 rfl) ?_
  refine lv_iload_n hx hb dL_erase_1 rfl (zl_at hl 1 rfl) ?_
  refine lv_iload_n hx hb dL_erase_2 rfl (zl_at hl 2 rfl) ?_
  obtain ⟨k1, hp⟩ := ck_i hp
  rcases bC_i hp with ⟨r2, h3, er2, hp⟩ | ⟨e4, h3, er2, hp⟩
  · refine r_runVX (ci := 11) (r := (RX10, TX10, 7)) (n := 2) (As := [.int v1, .int v2]) (rest := []) C (c_X10_erase l hfl G v0 v1 v2 h (.ok r2) h3 er2) hR rfl k1 mw_585 mw_586 mw_587 mw_1 mw_588 (by decide +kernel) (by decide) rfl (zl_size hl) rfl (by simp [zr_cat, in_cat]) dL_erase_3 (fun cells slots hr => ?_)
    refine r_okRun hR hL hr (fun H locs cells slots hR hL => ?_)
    refine W.eq (g2 := F0 m 6 ls [.int r2]) rfl ?_
    cases hp
    exact r_zret C hR hL rfl dL_erase_6
  · refine r_runVX (ci := 11) (r := (RX10, TX10, 7)) (n := 2) (As := [.int v1, .int v2]) (rest := []) C (c_X10_erase l hfl G v0 v1 v2 h (.error e4) h3 er2) hR rfl k1 mw_585 mw_586 mw_587 mw_1 mw_588 (by decide +kernel) (by decide) rfl (zl_size hl) rfl (by simp [zr_cat, in_cat]) dL_erase_3 (fun cells slots hr => ?_)
    refine r_exRun hR hL hr (fun q9 ce H locs cells slots hR hL hce hcv hcl => ?_)
    by_cases c5 : e4 = 1
    · subst c5
      replace hp := ite_p hp rfl
      refine r_catch (e0 := 1) (name := "java/lang/IndexOutOfBoundsException") hown hK [] ⟨0, 6, 7, 15⟩ [⟨0, 6, 11, 19⟩] (htb.trans rfl) (fun _ hz => nomatch hz) (by decide) (by decide) (hm _ mw_303) (KW_t 316 (by decide +kernel) (by decide +kernel)) hce hcv hcl ?_
      refine z_astore_n (lv' := [(3, zr (q9 + 1)), (0, zr v0), (1, .int v1), (2, .int v2)]) hx hb dL_erase_7 rfl hl (by decide) rfl (fun ls hl => ?_)
      refine lv_bipush (v := iI (-101)) hx hb dL_erase_8 (by decide +kernel) ?_
      cases hp
      exact r_zret C hR hL rfl dL_erase_10
    replace hp := ite_n hp c5
    by_cases c6 : e4 = 3
    · subst c6
      replace hp := ite_p hp rfl
      refine r_catch (e0 := 3) (name := "java/lang/IllegalStateException") hown hK [⟨0, 6, 7, 15⟩] ⟨0, 6, 11, 19⟩ [] (htb.trans rfl) (fun z hz => by rw [List.mem_singleton.mp hz]; exact ⟨by decide, _, hm _ mw_303, by decide +kernel⟩) (by decide) (by decide) (hm _ mw_305) (KW_t 412 (by decide +kernel) (by decide +kernel)) hce hcv hcl ?_
      refine z_astore_n (lv' := [(3, zr (q9 + 1)), (0, zr v0), (1, .int v1), (2, .int v2)]) hx hb dL_erase_11 rfl hl (by decide) rfl (fun ls hl => ?_)
      refine lv_bipush (v := iI (-103)) hx hb dL_erase_12 (by decide +kernel) ?_
      cases hp
      exact r_zret C hR hL rfl dL_erase_14
    replace hp := ite_n hp c6
    exact absurd hp (by simp)
def p_L_erase (v0 : Nat) (v1 : Int32) (v2 : Int32) (h : AH) : Option (Int32 × AH) := ck (v0 ≠ 0) <| p_L_erase_0 v0 v1 v2 h
theorem c_L_erase (l : Launch) (hfl : l.stackTraces = false) (G : GG) (v0 : Nat) (v1 : Int32) (v2 : Int32) (h : AH) (r : Int32) (h' : AH) (hp : p_L_erase v0 v1 v2 h = some (r, h')) : Ct l yL_erase (.codeWith yL_erase cL_erase 4 (some .int) [(0, 6, 7, 15), (0, 6, 11, 19)] :: MW) G 11 263 [zr v0, .int v1, .int v2] h (some (.int r)) h' := by
  obtain ⟨hz0, hp⟩ := ck_i hp
  rw [show zr v0 = .ref (v0 - 1) from zr_p hz0]
  refine Ct.ofH (by decide +kernel) (Nat.le_of_ble_eq_true rfl) ?_
  intro p e s m args below meth c C htb hR ls hl
  have hl : zl ls 4 [(0, zr v0), (1, .int v1), (2, .int v2)] := ⟨by rw [zr_p hz0]; exact hl, by simp [zr_cat, in_cat]⟩
  exact s_L_erase_0 hfl htb C hR (fun _ hq => nomatch hq) hl hp
/-! CursorKeepLaw.moves(LCursorKeep;III)I -/
def p_L_moves_0  (v0 : Nat) (v1 : Int32) (v2 : Int32) (v3 : Int32) (h : AH) : Option (Int32 × AH) :=
  ck (aK h v0 = 12) <|
  bC (p_X10_moveTo v0 v1 v2 v3 h) (fun r2 h3 =>
    some (r2, h3))
  (fun e4 h3 =>
    if e4 = 1 then
      some ((iI (-101)), h3)
    else
      none)
set_option maxHeartbeats 4000000 in
set_option maxRecDepth 100000 in
theorem s_L_moves_0 {p : Program} {l : Launch} {e : Env} {s : State} {m : MethodId} {args : Array Value} {below : List Frame} {meth : Method} {c : Code} {G : GG} {hs : AH} {r : Int32} {h' : AH} (hfl : l.stackTraces = false) (htb : c.exceptionTable.toList = tableOf [(0, 7, 8, 15)]) (C : Cx G hs p s m args meth c cL_moves 5 RL (.codeWith yL_moves cL_moves 5 (some .int) [(0, 7, 8, 15)] :: MW) (some .int) "moves")   {v0 : Nat} {v1 : Int32} {v2 : Int32} {v3 : Int32} {h : AH} {H : Heap} {locs : List Loc} {cells slots : Nat} {ls : Array Slot} (hR : Rp G h H) (hL : ∀ q ∈ locs, gB G ≤ q.base) (hl : zl ls 5 [(0, zr v0), (1, .int v1), (2, .int v2), (3, .int v3)]) (hp : p_L_moves_0  v0 v1 v2 v3 h = some (r, h')) : W p l e (gR G hs 8 157) s m args below meth c H locs cells slots (MQ below (Qcc G (some (.int r)) h') args s (gC G - aZ hs) (gS - aU hs) (fun q => gB G ≤ q)) (F0 m 0 ls []) := by
  obtain ⟨hx, hb, hml, hown, hts, hT, hK, rs, hlk, hret, hnm⟩ := id C
  have hm : ∀ w ∈ MW, w.before args s = true := fun w hw => hts w (hT w hw)
  unfold p_L_moves_0 at hp
  refine z_aload_n hx hb dL_moves_0 rfl (zl_at hl 0 rfl) ?_
  refine lv_iload_n hx hb dL_moves_1 rfl (zl_at hl 1 rfl) ?_
  refine lv_iload_n hx hb dL_moves_2 rfl (zl_at hl 2 rfl) ?_
  refine lv_iload_n hx hb dL_moves_3 rfl (zl_at hl 3 rfl) ?_
  obtain ⟨k1, hp⟩ := ck_i hp
  rcases bC_i hp with ⟨r2, h3, er2, hp⟩ | ⟨e4, h3, er2, hp⟩
  · refine r_runVX (ci := 11) (r := (RX10, TX10, 7)) (n := 3) (As := [.int v1, .int v2, .int v3]) (rest := []) C (c_X10_moveTo l hfl G v0 v1 v2 v3 h (.ok r2) h3 er2) hR rfl k1 mw_613 mw_614 mw_615 mw_1 mw_616 (by decide +kernel) (by decide) rfl (zl_size hl) rfl (by simp [zr_cat, in_cat]) dL_moves_4 (fun cells slots hr => ?_)
    refine r_okRun hR hL hr (fun H locs cells slots hR hL => ?_)
    refine W.eq (g2 := F0 m 7 ls [.int r2]) rfl ?_
    cases hp
    exact r_zret C hR hL rfl dL_moves_7
  · refine r_runVX (ci := 11) (r := (RX10, TX10, 7)) (n := 3) (As := [.int v1, .int v2, .int v3]) (rest := []) C (c_X10_moveTo l hfl G v0 v1 v2 v3 h (.error e4) h3 er2) hR rfl k1 mw_613 mw_614 mw_615 mw_1 mw_616 (by decide +kernel) (by decide) rfl (zl_size hl) rfl (by simp [zr_cat, in_cat]) dL_moves_4 (fun cells slots hr => ?_)
    refine r_exRun hR hL hr (fun q9 ce H locs cells slots hR hL hce hcv hcl => ?_)
    by_cases c5 : e4 = 1
    · subst c5
      replace hp := ite_p hp rfl
      refine r_catch (e0 := 1) (name := "java/lang/IndexOutOfBoundsException") hown hK [] ⟨0, 7, 8, 15⟩ [] (htb.trans rfl) (fun _ hz => nomatch hz) (by decide) (by decide) (hm _ mw_303) (KW_t 316 (by decide +kernel) (by decide +kernel)) hce hcv hcl ?_
      refine z_astore (lv' := [(4, zr (q9 + 1)), (0, zr v0), (1, .int v1), (2, .int v2), (3, .int v3)]) hx hb dL_moves_8 hl (by decide) rfl (fun ls hl => ?_)
      refine lv_bipush (v := iI (-101)) hx hb dL_moves_10 (by decide +kernel) ?_
      cases hp
      exact r_zret C hR hL rfl dL_moves_12
    replace hp := ite_n hp c5
    exact absurd hp (by simp)
def p_L_moves (v0 : Nat) (v1 : Int32) (v2 : Int32) (v3 : Int32) (h : AH) : Option (Int32 × AH) := ck (v0 ≠ 0) <| p_L_moves_0 v0 v1 v2 v3 h
theorem c_L_moves (l : Launch) (hfl : l.stackTraces = false) (G : GG) (v0 : Nat) (v1 : Int32) (v2 : Int32) (v3 : Int32) (h : AH) (r : Int32) (h' : AH) (hp : p_L_moves v0 v1 v2 v3 h = some (r, h')) : Ct l yL_moves (.codeWith yL_moves cL_moves 5 (some .int) [(0, 7, 8, 15)] :: MW) G 8 157 [zr v0, .int v1, .int v2, .int v3] h (some (.int r)) h' := by
  obtain ⟨hz0, hp⟩ := ck_i hp
  rw [show zr v0 = .ref (v0 - 1) from zr_p hz0]
  refine Ct.ofH (by decide +kernel) (Nat.le_of_ble_eq_true rfl) ?_
  intro p e s m args below meth c C htb hR ls hl
  have hl : zl ls 5 [(0, zr v0), (1, .int v1), (2, .int v2), (3, .int v3)] := ⟨by rw [zr_p hz0]; exact hl, by simp [zr_cat, in_cat]⟩
  exact s_L_moves_0 hfl htb C hR (fun _ hq => nomatch hq) hl hp
/-! CursorKeepLaw.undo(LCursorKeep;I)I -/
def p_L_undo_0  (v0 : Nat) (v1 : Int32) (h : AH) : Option (Int32 × AH) :=
  ck (aK h v0 = 12) <|
  bC (p_X10_undo v0 v1 h) (fun r2 h3 =>
    some (r2, h3))
  (fun e4 h3 =>
    if e4 = 1 then
      some ((iI (-101)), h3)
    else
      if e4 = 3 then
        some ((iI (-103)), h3)
      else
        none)
set_option maxHeartbeats 4000000 in
set_option maxRecDepth 100000 in
theorem s_L_undo_0 {p : Program} {l : Launch} {e : Env} {s : State} {m : MethodId} {args : Array Value} {below : List Frame} {meth : Method} {c : Code} {G : GG} {hs : AH} {r : Int32} {h' : AH} (hfl : l.stackTraces = false) (htb : c.exceptionTable.toList = tableOf [(0, 5, 6, 15), (0, 5, 10, 19)]) (C : Cx G hs p s m args meth c cL_undo 3 RL (.codeWith yL_undo cL_undo 3 (some .int) [(0, 5, 6, 15), (0, 5, 10, 19)] :: MW) (some .int) "undo")   {v0 : Nat} {v1 : Int32} {h : AH} {H : Heap} {locs : List Loc} {cells slots : Nat} {ls : Array Slot} (hR : Rp G h H) (hL : ∀ q ∈ locs, gB G ≤ q.base) (hl : zl ls 3 [(0, zr v0), (1, .int v1)]) (hp : p_L_undo_0  v0 v1 h = some (r, h')) : W p l e (gR G hs 11 260) s m args below meth c H locs cells slots (MQ below (Qcc G (some (.int r)) h') args s (gC G - aZ hs) (gS - aU hs) (fun q => gB G ≤ q)) (F0 m 0 ls []) := by
  obtain ⟨hx, hb, hml, hown, hts, hT, hK, rs, hlk, hret, hnm⟩ := id C
  have hm : ∀ w ∈ MW, w.before args s = true := fun w hw => hts w (hT w hw)
  unfold p_L_undo_0 at hp
  refine z_aload_n hx hb dL_undo_0 rfl (zl_at hl 0 rfl) ?_
  refine lv_iload_n hx hb dL_undo_1 rfl (zl_at hl 1 rfl) ?_
  obtain ⟨k1, hp⟩ := ck_i hp
  rcases bC_i hp with ⟨r2, h3, er2, hp⟩ | ⟨e4, h3, er2, hp⟩
  · refine r_runVX (ci := 11) (r := (RX10, TX10, 7)) (n := 1) (As := [.int v1]) (rest := []) C (c_X10_undo l hfl G v0 v1 h (.ok r2) h3 er2) hR rfl k1 mw_634 mw_635 mw_636 mw_1 mw_637 (by decide +kernel) (by decide) rfl (zl_size hl) rfl (by simp [zr_cat, in_cat]) dL_undo_2 (fun cells slots hr => ?_)
    refine r_okRun hR hL hr (fun H locs cells slots hR hL => ?_)
    refine W.eq (g2 := F0 m 5 ls [.int r2]) rfl ?_
    cases hp
    exact r_zret C hR hL rfl dL_undo_5
  · refine r_runVX (ci := 11) (r := (RX10, TX10, 7)) (n := 1) (As := [.int v1]) (rest := []) C (c_X10_undo l hfl G v0 v1 h (.error e4) h3 er2) hR rfl k1 mw_634 mw_635 mw_636 mw_1 mw_637 (by decide +kernel) (by decide) rfl (zl_size hl) rfl (by simp [zr_cat, in_cat]) dL_undo_2 (fun cells slots hr => ?_)
    refine r_exRun hR hL hr (fun q9 ce H locs cells slots hR hL hce hcv hcl => ?_)
    by_cases c5 : e4 = 1
    · subst c5
      replace hp := ite_p hp rfl
      refine r_catch (e0 := 1) (name := "java/lang/IndexOutOfBoundsException") hown hK [] ⟨0, 5, 6, 15⟩ [⟨0, 5, 10, 19⟩] (htb.trans rfl) (fun _ hz => nomatch hz) (by decide) (by decide) (hm _ mw_303) (KW_t 316 (by decide +kernel) (by decide +kernel)) hce hcv hcl ?_
      refine z_astore_n (lv' := [(2, zr (q9 + 1)), (0, zr v0), (1, .int v1)]) hx hb dL_undo_6 rfl hl (by decide) rfl (fun ls hl => ?_)
      refine lv_bipush (v := iI (-101)) hx hb dL_undo_7 (by decide +kernel) ?_
      cases hp
      exact r_zret C hR hL rfl dL_undo_9
    replace hp := ite_n hp c5
    by_cases c6 : e4 = 3
    · subst c6
      replace hp := ite_p hp rfl
      refine r_catch (e0 := 3) (name := "java/lang/IllegalStateException") hown hK [⟨0, 5, 6, 15⟩] ⟨0, 5, 10, 19⟩ [] (htb.trans rfl) (fun z hz => by rw [List.mem_singleton.mp hz]; exact ⟨by decide, _, hm _ mw_303, by decide +kernel⟩) (by decide) (by decide) (hm _ mw_305) (KW_t 412 (by decide +kernel) (by decide +kernel)) hce hcv hcl ?_
      refine z_astore_n (lv' := [(2, zr (q9 + 1)), (0, zr v0), (1, .int v1)]) hx hb dL_undo_10 rfl hl (by decide) rfl (fun ls hl => ?_)
      refine lv_bipush (v := iI (-103)) hx hb dL_undo_11 (by decide +kernel) ?_
      cases hp
      exact r_zret C hR hL rfl dL_undo_13
    replace hp := ite_n hp c6
    exact absurd hp (by simp)
def p_L_undo (v0 : Nat) (v1 : Int32) (h : AH) : Option (Int32 × AH) := ck (v0 ≠ 0) <| p_L_undo_0 v0 v1 h
theorem c_L_undo (l : Launch) (hfl : l.stackTraces = false) (G : GG) (v0 : Nat) (v1 : Int32) (h : AH) (r : Int32) (h' : AH) (hp : p_L_undo v0 v1 h = some (r, h')) : Ct l yL_undo (.codeWith yL_undo cL_undo 3 (some .int) [(0, 5, 6, 15), (0, 5, 10, 19)] :: MW) G 11 260 [zr v0, .int v1] h (some (.int r)) h' := by
  obtain ⟨hz0, hp⟩ := ck_i hp
  rw [show zr v0 = .ref (v0 - 1) from zr_p hz0]
  refine Ct.ofH (by decide +kernel) (Nat.le_of_ble_eq_true rfl) ?_
  intro p e s m args below meth c C htb hR ls hl
  have hl : zl ls 3 [(0, zr v0), (1, .int v1)] := ⟨by rw [zr_p hz0]; exact hl, by simp [zr_cat, in_cat]⟩
  exact s_L_undo_0 hfl htb C hR (fun _ hq => nomatch hq) hl hp
/-! CursorKeepLaw.redo(LCursorKeep;I)I -/
def p_L_redo_0  (v0 : Nat) (v1 : Int32) (h : AH) : Option (Int32 × AH) :=
  ck (aK h v0 = 12) <|
  bC (p_X10_redo v0 v1 h) (fun r2 h3 =>
    some (r2, h3))
  (fun e4 h3 =>
    if e4 = 1 then
      some ((iI (-101)), h3)
    else
      if e4 = 3 then
        some ((iI (-103)), h3)
      else
        none)
set_option maxHeartbeats 4000000 in
set_option maxRecDepth 100000 in
theorem s_L_redo_0 {p : Program} {l : Launch} {e : Env} {s : State} {m : MethodId} {args : Array Value} {below : List Frame} {meth : Method} {c : Code} {G : GG} {hs : AH} {r : Int32} {h' : AH} (hfl : l.stackTraces = false) (htb : c.exceptionTable.toList = tableOf [(0, 5, 6, 15), (0, 5, 10, 19)]) (C : Cx G hs p s m args meth c cL_redo 3 RL (.codeWith yL_redo cL_redo 3 (some .int) [(0, 5, 6, 15), (0, 5, 10, 19)] :: MW) (some .int) "redo")   {v0 : Nat} {v1 : Int32} {h : AH} {H : Heap} {locs : List Loc} {cells slots : Nat} {ls : Array Slot} (hR : Rp G h H) (hL : ∀ q ∈ locs, gB G ≤ q.base) (hl : zl ls 3 [(0, zr v0), (1, .int v1)]) (hp : p_L_redo_0  v0 v1 h = some (r, h')) : W p l e (gR G hs 11 260) s m args below meth c H locs cells slots (MQ below (Qcc G (some (.int r)) h') args s (gC G - aZ hs) (gS - aU hs) (fun q => gB G ≤ q)) (F0 m 0 ls []) := by
  obtain ⟨hx, hb, hml, hown, hts, hT, hK, rs, hlk, hret, hnm⟩ := id C
  have hm : ∀ w ∈ MW, w.before args s = true := fun w hw => hts w (hT w hw)
  unfold p_L_redo_0 at hp
  refine z_aload_n hx hb dL_redo_0 rfl (zl_at hl 0 rfl) ?_
  refine lv_iload_n hx hb dL_redo_1 rfl (zl_at hl 1 rfl) ?_
  obtain ⟨k1, hp⟩ := ck_i hp
  rcases bC_i hp with ⟨r2, h3, er2, hp⟩ | ⟨e4, h3, er2, hp⟩
  · refine r_runVX (ci := 11) (r := (RX10, TX10, 7)) (n := 1) (As := [.int v1]) (rest := []) C (c_X10_redo l hfl G v0 v1 h (.ok r2) h3 er2) hR rfl k1 mw_649 mw_650 mw_651 mw_1 mw_652 (by decide +kernel) (by decide) rfl (zl_size hl) rfl (by simp [zr_cat, in_cat]) dL_redo_2 (fun cells slots hr => ?_)
    refine r_okRun hR hL hr (fun H locs cells slots hR hL => ?_)
    refine W.eq (g2 := F0 m 5 ls [.int r2]) rfl ?_
    cases hp
    exact r_zret C hR hL rfl dL_redo_5
  · refine r_runVX (ci := 11) (r := (RX10, TX10, 7)) (n := 1) (As := [.int v1]) (rest := []) C (c_X10_redo l hfl G v0 v1 h (.error e4) h3 er2) hR rfl k1 mw_649 mw_650 mw_651 mw_1 mw_652 (by decide +kernel) (by decide) rfl (zl_size hl) rfl (by simp [zr_cat, in_cat]) dL_redo_2 (fun cells slots hr => ?_)
    refine r_exRun hR hL hr (fun q9 ce H locs cells slots hR hL hce hcv hcl => ?_)
    by_cases c5 : e4 = 1
    · subst c5
      replace hp := ite_p hp rfl
      refine r_catch (e0 := 1) (name := "java/lang/IndexOutOfBoundsException") hown hK [] ⟨0, 5, 6, 15⟩ [⟨0, 5, 10, 19⟩] (htb.trans rfl) (fun _ hz => nomatch hz) (by decide) (by decide) (hm _ mw_303) (KW_t 316 (by decide +kernel) (by decide +kernel)) hce hcv hcl ?_
      refine z_astore_n (lv' := [(2, zr (q9 + 1)), (0, zr v0), (1, .int v1)]) hx hb dL_redo_6 rfl hl (by decide) rfl (fun ls hl => ?_)
      refine lv_bipush (v := iI (-101)) hx hb dL_redo_7 (by decide +kernel) ?_
      cases hp
      exact r_zret C hR hL rfl dL_redo_9
    replace hp := ite_n hp c5
    by_cases c6 : e4 = 3
    · subst c6
      replace hp := ite_p hp rfl
      refine r_catch (e0 := 3) (name := "java/lang/IllegalStateException") hown hK [⟨0, 5, 6, 15⟩] ⟨0, 5, 10, 19⟩ [] (htb.trans rfl) (fun z hz => by rw [List.mem_singleton.mp hz]; exact ⟨by decide, _, hm _ mw_303, by decide +kernel⟩) (by decide) (by decide) (hm _ mw_305) (KW_t 412 (by decide +kernel) (by decide +kernel)) hce hcv hcl ?_
      refine z_astore_n (lv' := [(2, zr (q9 + 1)), (0, zr v0), (1, .int v1)]) hx hb dL_redo_10 rfl hl (by decide) rfl (fun ls hl => ?_)
      refine lv_bipush (v := iI (-103)) hx hb dL_redo_11 (by decide +kernel) ?_
      cases hp
      exact r_zret C hR hL rfl dL_redo_13
    replace hp := ite_n hp c6
    exact absurd hp (by simp)
def p_L_redo (v0 : Nat) (v1 : Int32) (h : AH) : Option (Int32 × AH) := ck (v0 ≠ 0) <| p_L_redo_0 v0 v1 h
theorem c_L_redo (l : Launch) (hfl : l.stackTraces = false) (G : GG) (v0 : Nat) (v1 : Int32) (h : AH) (r : Int32) (h' : AH) (hp : p_L_redo v0 v1 h = some (r, h')) : Ct l yL_redo (.codeWith yL_redo cL_redo 3 (some .int) [(0, 5, 6, 15), (0, 5, 10, 19)] :: MW) G 11 260 [zr v0, .int v1] h (some (.int r)) h' := by
  obtain ⟨hz0, hp⟩ := ck_i hp
  rw [show zr v0 = .ref (v0 - 1) from zr_p hz0]
  refine Ct.ofH (by decide +kernel) (Nat.le_of_ble_eq_true rfl) ?_
  intro p e s m args below meth c C htb hR ls hl
  have hl : zl ls 3 [(0, zr v0), (1, .int v1)] := ⟨by rw [zr_p hz0]; exact hl, by simp [zr_cat, in_cat]⟩
  exact s_L_redo_0 hfl htb C hR (fun _ hq => nomatch hq) hl hp
/-! CursorKeepLaw.place(LCursorKeep;II)I -/
def p_L_place_0  (v0 : Nat) (v1 : Int32) (v2 : Int32) (h : AH) : Option (Int32 × AH) :=
  ck (aK h v0 = 12) <|
  bC (p_X10_place v0 v1 v2 h) (fun r2 h3 =>
    some (r2, h3))
  (fun e4 h3 =>
    if e4 = 1 then
      some ((iI (-101)), h3)
    else
      none)
set_option maxHeartbeats 4000000 in
set_option maxRecDepth 100000 in
theorem s_L_place_0 {p : Program} {l : Launch} {e : Env} {s : State} {m : MethodId} {args : Array Value} {below : List Frame} {meth : Method} {c : Code} {G : GG} {hs : AH} {r : Int32} {h' : AH} (hfl : l.stackTraces = false) (htb : c.exceptionTable.toList = tableOf [(0, 6, 7, 15)]) (C : Cx G hs p s m args meth c cL_place 4 RL (.codeWith yL_place cL_place 4 (some .int) [(0, 6, 7, 15)] :: MW) (some .int) "place")   {v0 : Nat} {v1 : Int32} {v2 : Int32} {h : AH} {H : Heap} {locs : List Loc} {cells slots : Nat} {ls : Array Slot} (hR : Rp G h H) (hL : ∀ q ∈ locs, gB G ≤ q.base) (hl : zl ls 4 [(0, zr v0), (1, .int v1), (2, .int v2)]) (hp : p_L_place_0  v0 v1 v2 h = some (r, h')) : W p l e (gR G hs 8 154) s m args below meth c H locs cells slots (MQ below (Qcc G (some (.int r)) h') args s (gC G - aZ hs) (gS - aU hs) (fun q => gB G ≤ q)) (F0 m 0 ls []) := by
  obtain ⟨hx, hb, hml, hown, hts, hT, hK, rs, hlk, hret, hnm⟩ := id C
  have hm : ∀ w ∈ MW, w.before args s = true := fun w hw => hts w (hT w hw)
  unfold p_L_place_0 at hp
  refine z_aload_n hx hb dL_place_0 rfl (zl_at hl 0 rfl) ?_
  refine lv_iload_n hx hb dL_place_1 rfl (zl_at hl 1 rfl) ?_
  refine lv_iload_n hx hb dL_place_2 rfl (zl_at hl 2 rfl) ?_
  obtain ⟨k1, hp⟩ := ck_i hp
  rcases bC_i hp with ⟨r2, h3, er2, hp⟩ | ⟨e4, h3, er2, hp⟩
  · refine r_runVX (ci := 11) (r := (RX10, TX10, 7)) (n := 2) (As := [.int v1, .int v2]) (rest := []) C (c_X10_place l hfl G v0 v1 v2 h (.ok r2) h3 er2) hR rfl k1 mw_661 mw_662 mw_663 mw_1 mw_664 (by decide +kernel) (by decide) rfl (zl_size hl) rfl (by simp [zr_cat, in_cat]) dL_place_3 (fun cells slots hr => ?_)
    refine r_okRun hR hL hr (fun H locs cells slots hR hL => ?_)
    refine W.eq (g2 := F0 m 6 ls [.int r2]) rfl ?_
    cases hp
    exact r_zret C hR hL rfl dL_place_6
  · refine r_runVX (ci := 11) (r := (RX10, TX10, 7)) (n := 2) (As := [.int v1, .int v2]) (rest := []) C (c_X10_place l hfl G v0 v1 v2 h (.error e4) h3 er2) hR rfl k1 mw_661 mw_662 mw_663 mw_1 mw_664 (by decide +kernel) (by decide) rfl (zl_size hl) rfl (by simp [zr_cat, in_cat]) dL_place_3 (fun cells slots hr => ?_)
    refine r_exRun hR hL hr (fun q9 ce H locs cells slots hR hL hce hcv hcl => ?_)
    by_cases c5 : e4 = 1
    · subst c5
      replace hp := ite_p hp rfl
      refine r_catch (e0 := 1) (name := "java/lang/IndexOutOfBoundsException") hown hK [] ⟨0, 6, 7, 15⟩ [] (htb.trans rfl) (fun _ hz => nomatch hz) (by decide) (by decide) (hm _ mw_303) (KW_t 316 (by decide +kernel) (by decide +kernel)) hce hcv hcl ?_
      refine z_astore_n (lv' := [(3, zr (q9 + 1)), (0, zr v0), (1, .int v1), (2, .int v2)]) hx hb dL_place_7 rfl hl (by decide) rfl (fun ls hl => ?_)
      refine lv_bipush (v := iI (-101)) hx hb dL_place_8 (by decide +kernel) ?_
      cases hp
      exact r_zret C hR hL rfl dL_place_10
    replace hp := ite_n hp c5
    exact absurd hp (by simp)
def p_L_place (v0 : Nat) (v1 : Int32) (v2 : Int32) (h : AH) : Option (Int32 × AH) := ck (v0 ≠ 0) <| p_L_place_0 v0 v1 v2 h
theorem c_L_place (l : Launch) (hfl : l.stackTraces = false) (G : GG) (v0 : Nat) (v1 : Int32) (v2 : Int32) (h : AH) (r : Int32) (h' : AH) (hp : p_L_place v0 v1 v2 h = some (r, h')) : Ct l yL_place (.codeWith yL_place cL_place 4 (some .int) [(0, 6, 7, 15)] :: MW) G 8 154 [zr v0, .int v1, .int v2] h (some (.int r)) h' := by
  obtain ⟨hz0, hp⟩ := ck_i hp
  rw [show zr v0 = .ref (v0 - 1) from zr_p hz0]
  refine Ct.ofH (by decide +kernel) (Nat.le_of_ble_eq_true rfl) ?_
  intro p e s m args below meth c C htb hR ls hl
  have hl : zl ls 4 [(0, zr v0), (1, .int v1), (2, .int v2)] := ⟨by rw [zr_p hz0]; exact hl, by simp [zr_cat, in_cat]⟩
  exact s_L_place_0 hfl htb C hR (fun _ hq => nomatch hq) hl hp
/-! CursorKeepLaw.length(LCursorKeep;I)I -/
def p_L_length_0  (v0 : Nat) (v1 : Int32) (h : AH) : Option (Int32 × AH) :=
  ck (aK h v0 = 12) <|
  bC (p_X10_length v0 v1 h) (fun r2 h3 =>
    some (r2, h3))
  (fun e4 h3 =>
    if e4 = 1 then
      some ((iI (-101)), h3)
    else
      none)
set_option maxHeartbeats 4000000 in
set_option maxRecDepth 100000 in
theorem s_L_length_0 {p : Program} {l : Launch} {e : Env} {s : State} {m : MethodId} {args : Array Value} {below : List Frame} {meth : Method} {c : Code} {G : GG} {hs : AH} {r : Int32} {h' : AH} (hfl : l.stackTraces = false) (htb : c.exceptionTable.toList = tableOf [(0, 5, 6, 15)]) (C : Cx G hs p s m args meth c cL_length 3 RL (.codeWith yL_length cL_length 3 (some .int) [(0, 5, 6, 15)] :: MW) (some .int) "length")   {v0 : Nat} {v1 : Int32} {h : AH} {H : Heap} {locs : List Loc} {cells slots : Nat} {ls : Array Slot} (hR : Rp G h H) (hL : ∀ q ∈ locs, gB G ≤ q.base) (hl : zl ls 3 [(0, zr v0), (1, .int v1)]) (hp : p_L_length_0  v0 v1 h = some (r, h')) : W p l e (gR G hs 8 153) s m args below meth c H locs cells slots (MQ below (Qcc G (some (.int r)) h') args s (gC G - aZ hs) (gS - aU hs) (fun q => gB G ≤ q)) (F0 m 0 ls []) := by
  obtain ⟨hx, hb, hml, hown, hts, hT, hK, rs, hlk, hret, hnm⟩ := id C
  have hm : ∀ w ∈ MW, w.before args s = true := fun w hw => hts w (hT w hw)
  unfold p_L_length_0 at hp
  refine z_aload_n hx hb dL_length_0 rfl (zl_at hl 0 rfl) ?_
  refine lv_iload_n hx hb dL_length_1 rfl (zl_at hl 1 rfl) ?_
  obtain ⟨k1, hp⟩ := ck_i hp
  rcases bC_i hp with ⟨r2, h3, er2, hp⟩ | ⟨e4, h3, er2, hp⟩
  · refine r_runVX (ci := 11) (r := (RX10, TX10, 7)) (n := 1) (As := [.int v1]) (rest := []) C (c_X10_length l hfl G v0 v1 h (.ok r2) h3 er2) hR rfl k1 mw_668 mw_669 mw_670 mw_1 mw_671 (by decide +kernel) (by decide) rfl (zl_size hl) rfl (by simp [zr_cat, in_cat]) dL_length_2 (fun cells slots hr => ?_)
    refine r_okRun hR hL hr (fun H locs cells slots hR hL => ?_)
    refine W.eq (g2 := F0 m 5 ls [.int r2]) rfl ?_
    cases hp
    exact r_zret C hR hL rfl dL_length_5
  · refine r_runVX (ci := 11) (r := (RX10, TX10, 7)) (n := 1) (As := [.int v1]) (rest := []) C (c_X10_length l hfl G v0 v1 h (.error e4) h3 er2) hR rfl k1 mw_668 mw_669 mw_670 mw_1 mw_671 (by decide +kernel) (by decide) rfl (zl_size hl) rfl (by simp [zr_cat, in_cat]) dL_length_2 (fun cells slots hr => ?_)
    refine r_exRun hR hL hr (fun q9 ce H locs cells slots hR hL hce hcv hcl => ?_)
    by_cases c5 : e4 = 1
    · subst c5
      replace hp := ite_p hp rfl
      refine r_catch (e0 := 1) (name := "java/lang/IndexOutOfBoundsException") hown hK [] ⟨0, 5, 6, 15⟩ [] (htb.trans rfl) (fun _ hz => nomatch hz) (by decide) (by decide) (hm _ mw_303) (KW_t 316 (by decide +kernel) (by decide +kernel)) hce hcv hcl ?_
      refine z_astore_n (lv' := [(2, zr (q9 + 1)), (0, zr v0), (1, .int v1)]) hx hb dL_length_6 rfl hl (by decide) rfl (fun ls hl => ?_)
      refine lv_bipush (v := iI (-101)) hx hb dL_length_7 (by decide +kernel) ?_
      cases hp
      exact r_zret C hR hL rfl dL_length_9
    replace hp := ite_n hp c5
    exact absurd hp (by simp)
def p_L_length (v0 : Nat) (v1 : Int32) (h : AH) : Option (Int32 × AH) := ck (v0 ≠ 0) <| p_L_length_0 v0 v1 h
theorem c_L_length (l : Launch) (hfl : l.stackTraces = false) (G : GG) (v0 : Nat) (v1 : Int32) (h : AH) (r : Int32) (h' : AH) (hp : p_L_length v0 v1 h = some (r, h')) : Ct l yL_length (.codeWith yL_length cL_length 3 (some .int) [(0, 5, 6, 15)] :: MW) G 8 153 [zr v0, .int v1] h (some (.int r)) h' := by
  obtain ⟨hz0, hp⟩ := ck_i hp
  rw [show zr v0 = .ref (v0 - 1) from zr_p hz0]
  refine Ct.ofH (by decide +kernel) (Nat.le_of_ble_eq_true rfl) ?_
  intro p e s m args below meth c C htb hR ls hl
  have hl : zl ls 3 [(0, zr v0), (1, .int v1)] := ⟨by rw [zr_p hz0]; exact hl, by simp [zr_cat, in_cat]⟩
  exact s_L_length_0 hfl htb C hR (fun _ hq => nomatch hq) hl hp
/-! CursorKeepLaw.letter(LCursorKeep;II)I -/
def p_L_letter_0  (v0 : Nat) (v1 : Int32) (v2 : Int32) (h : AH) : Option (Int32 × AH) :=
  ck (aK h v0 = 12) <|
  bC (p_X10_letter v0 v1 v2 h) (fun r2 h3 =>
    some (r2, h3))
  (fun e4 h3 =>
    if e4 = 1 then
      some ((iI (-101)), h3)
    else
      none)
set_option maxHeartbeats 4000000 in
set_option maxRecDepth 100000 in
theorem s_L_letter_0 {p : Program} {l : Launch} {e : Env} {s : State} {m : MethodId} {args : Array Value} {below : List Frame} {meth : Method} {c : Code} {G : GG} {hs : AH} {r : Int32} {h' : AH} (hfl : l.stackTraces = false) (htb : c.exceptionTable.toList = tableOf [(0, 6, 7, 15)]) (C : Cx G hs p s m args meth c cL_letter 4 RL (.codeWith yL_letter cL_letter 4 (some .int) [(0, 6, 7, 15)] :: MW) (some .int) "letter")   {v0 : Nat} {v1 : Int32} {v2 : Int32} {h : AH} {H : Heap} {locs : List Loc} {cells slots : Nat} {ls : Array Slot} (hR : Rp G h H) (hL : ∀ q ∈ locs, gB G ≤ q.base) (hl : zl ls 4 [(0, zr v0), (1, .int v1), (2, .int v2)]) (hp : p_L_letter_0  v0 v1 v2 h = some (r, h')) : W p l e (gR G hs 8 154) s m args below meth c H locs cells slots (MQ below (Qcc G (some (.int r)) h') args s (gC G - aZ hs) (gS - aU hs) (fun q => gB G ≤ q)) (F0 m 0 ls []) := by
  obtain ⟨hx, hb, hml, hown, hts, hT, hK, rs, hlk, hret, hnm⟩ := id C
  have hm : ∀ w ∈ MW, w.before args s = true := fun w hw => hts w (hT w hw)
  unfold p_L_letter_0 at hp
  refine z_aload_n hx hb dL_letter_0 rfl (zl_at hl 0 rfl) ?_
  refine lv_iload_n hx hb dL_letter_1 rfl (zl_at hl 1 rfl) ?_
  refine lv_iload_n hx hb dL_letter_2 rfl (zl_at hl 2 rfl) ?_
  obtain ⟨k1, hp⟩ := ck_i hp
  rcases bC_i hp with ⟨r2, h3, er2, hp⟩ | ⟨e4, h3, er2, hp⟩
  · refine r_runVX (ci := 11) (r := (RX10, TX10, 7)) (n := 2) (As := [.int v1, .int v2]) (rest := []) C (c_X10_letter l hfl G v0 v1 v2 h (.ok r2) h3 er2) hR rfl k1 mw_675 mw_676 mw_677 mw_1 mw_678 (by decide +kernel) (by decide) rfl (zl_size hl) rfl (by simp [zr_cat, in_cat]) dL_letter_3 (fun cells slots hr => ?_)
    refine r_okRun hR hL hr (fun H locs cells slots hR hL => ?_)
    refine W.eq (g2 := F0 m 6 ls [.int r2]) rfl ?_
    cases hp
    exact r_zret C hR hL rfl dL_letter_6
  · refine r_runVX (ci := 11) (r := (RX10, TX10, 7)) (n := 2) (As := [.int v1, .int v2]) (rest := []) C (c_X10_letter l hfl G v0 v1 v2 h (.error e4) h3 er2) hR rfl k1 mw_675 mw_676 mw_677 mw_1 mw_678 (by decide +kernel) (by decide) rfl (zl_size hl) rfl (by simp [zr_cat, in_cat]) dL_letter_3 (fun cells slots hr => ?_)
    refine r_exRun hR hL hr (fun q9 ce H locs cells slots hR hL hce hcv hcl => ?_)
    by_cases c5 : e4 = 1
    · subst c5
      replace hp := ite_p hp rfl
      refine r_catch (e0 := 1) (name := "java/lang/IndexOutOfBoundsException") hown hK [] ⟨0, 6, 7, 15⟩ [] (htb.trans rfl) (fun _ hz => nomatch hz) (by decide) (by decide) (hm _ mw_303) (KW_t 316 (by decide +kernel) (by decide +kernel)) hce hcv hcl ?_
      refine z_astore_n (lv' := [(3, zr (q9 + 1)), (0, zr v0), (1, .int v1), (2, .int v2)]) hx hb dL_letter_7 rfl hl (by decide) rfl (fun ls hl => ?_)
      refine lv_bipush (v := iI (-101)) hx hb dL_letter_8 (by decide +kernel) ?_
      cases hp
      exact r_zret C hR hL rfl dL_letter_10
    replace hp := ite_n hp c5
    exact absurd hp (by simp)
def p_L_letter (v0 : Nat) (v1 : Int32) (v2 : Int32) (h : AH) : Option (Int32 × AH) := ck (v0 ≠ 0) <| p_L_letter_0 v0 v1 v2 h
theorem c_L_letter (l : Launch) (hfl : l.stackTraces = false) (G : GG) (v0 : Nat) (v1 : Int32) (v2 : Int32) (h : AH) (r : Int32) (h' : AH) (hp : p_L_letter v0 v1 v2 h = some (r, h')) : Ct l yL_letter (.codeWith yL_letter cL_letter 4 (some .int) [(0, 6, 7, 15)] :: MW) G 8 154 [zr v0, .int v1, .int v2] h (some (.int r)) h' := by
  obtain ⟨hz0, hp⟩ := ck_i hp
  rw [show zr v0 = .ref (v0 - 1) from zr_p hz0]
  refine Ct.ofH (by decide +kernel) (Nat.le_of_ble_eq_true rfl) ?_
  intro p e s m args below meth c C htb hR ls hl
  have hl : zl ls 4 [(0, zr v0), (1, .int v1), (2, .int v2)] := ⟨by rw [zr_p hz0]; exact hl, by simp [zr_cat, in_cat]⟩
  exact s_L_letter_0 hfl htb C hR (fun _ hq => nomatch hq) hl hp
/-! CursorKeepLaw.anew(LCursorKeep;II)I -/
def p_L_anew_0  (v0 : Nat) (v1 : Int32) (v2 : Int32) (h : AH) : Option (Int32 × AH) :=
  ck (aK h v0 = 12) <|
  bC (p_X10_letterAnew v0 v1 v2 h) (fun r2 h3 =>
    some (r2, h3))
  (fun e4 h3 =>
    if e4 = 1 then
      some ((iI (-101)), h3)
    else
      none)
set_option maxHeartbeats 4000000 in
set_option maxRecDepth 100000 in
theorem s_L_anew_0 {p : Program} {l : Launch} {e : Env} {s : State} {m : MethodId} {args : Array Value} {below : List Frame} {meth : Method} {c : Code} {G : GG} {hs : AH} {r : Int32} {h' : AH} (hfl : l.stackTraces = false) (htb : c.exceptionTable.toList = tableOf [(0, 6, 7, 15)]) (C : Cx G hs p s m args meth c cL_anew 4 RL (.codeWith yL_anew cL_anew 4 (some .int) [(0, 6, 7, 15)] :: MW) (some .int) "anew")   {v0 : Nat} {v1 : Int32} {v2 : Int32} {h : AH} {H : Heap} {locs : List Loc} {cells slots : Nat} {ls : Array Slot} (hR : Rp G h H) (hL : ∀ q ∈ locs, gB G ≤ q.base) (hl : zl ls 4 [(0, zr v0), (1, .int v1), (2, .int v2)]) (hp : p_L_anew_0  v0 v1 v2 h = some (r, h')) : W p l e (gR G hs 8 154) s m args below meth c H locs cells slots (MQ below (Qcc G (some (.int r)) h') args s (gC G - aZ hs) (gS - aU hs) (fun q => gB G ≤ q)) (F0 m 0 ls []) := by
  obtain ⟨hx, hb, hml, hown, hts, hT, hK, rs, hlk, hret, hnm⟩ := id C
  have hm : ∀ w ∈ MW, w.before args s = true := fun w hw => hts w (hT w hw)
  unfold p_L_anew_0 at hp
  refine z_aload_n hx hb dL_anew_0 rfl (zl_at hl 0 rfl) ?_
  refine lv_iload_n hx hb dL_anew_1 rfl (zl_at hl 1 rfl) ?_
  refine lv_iload_n hx hb dL_anew_2 rfl (zl_at hl 2 rfl) ?_
  obtain ⟨k1, hp⟩ := ck_i hp
  rcases bC_i hp with ⟨r2, h3, er2, hp⟩ | ⟨e4, h3, er2, hp⟩
  · refine r_runVX (ci := 11) (r := (RX10, TX10, 7)) (n := 2) (As := [.int v1, .int v2]) (rest := []) C (c_X10_letterAnew l hfl G v0 v1 v2 h (.ok r2) h3 er2) hR rfl k1 mw_974 mw_975 mw_976 mw_1 mw_977 (by decide +kernel) (by decide) rfl (zl_size hl) rfl (by simp [zr_cat, in_cat]) dL_anew_3 (fun cells slots hr => ?_)
    refine r_okRun hR hL hr (fun H locs cells slots hR hL => ?_)
    refine W.eq (g2 := F0 m 6 ls [.int r2]) rfl ?_
    cases hp
    exact r_zret C hR hL rfl dL_anew_6
  · refine r_runVX (ci := 11) (r := (RX10, TX10, 7)) (n := 2) (As := [.int v1, .int v2]) (rest := []) C (c_X10_letterAnew l hfl G v0 v1 v2 h (.error e4) h3 er2) hR rfl k1 mw_974 mw_975 mw_976 mw_1 mw_977 (by decide +kernel) (by decide) rfl (zl_size hl) rfl (by simp [zr_cat, in_cat]) dL_anew_3 (fun cells slots hr => ?_)
    refine r_exRun hR hL hr (fun q9 ce H locs cells slots hR hL hce hcv hcl => ?_)
    by_cases c5 : e4 = 1
    · subst c5
      replace hp := ite_p hp rfl
      refine r_catch (e0 := 1) (name := "java/lang/IndexOutOfBoundsException") hown hK [] ⟨0, 6, 7, 15⟩ [] (htb.trans rfl) (fun _ hz => nomatch hz) (by decide) (by decide) (hm _ mw_303) (KW_t 316 (by decide +kernel) (by decide +kernel)) hce hcv hcl ?_
      refine z_astore_n (lv' := [(3, zr (q9 + 1)), (0, zr v0), (1, .int v1), (2, .int v2)]) hx hb dL_anew_7 rfl hl (by decide) rfl (fun ls hl => ?_)
      refine lv_bipush (v := iI (-101)) hx hb dL_anew_8 (by decide +kernel) ?_
      cases hp
      exact r_zret C hR hL rfl dL_anew_10
    replace hp := ite_n hp c5
    exact absurd hp (by simp)
def p_L_anew (v0 : Nat) (v1 : Int32) (v2 : Int32) (h : AH) : Option (Int32 × AH) := ck (v0 ≠ 0) <| p_L_anew_0 v0 v1 v2 h
theorem c_L_anew (l : Launch) (hfl : l.stackTraces = false) (G : GG) (v0 : Nat) (v1 : Int32) (v2 : Int32) (h : AH) (r : Int32) (h' : AH) (hp : p_L_anew v0 v1 v2 h = some (r, h')) : Ct l yL_anew (.codeWith yL_anew cL_anew 4 (some .int) [(0, 6, 7, 15)] :: MW) G 8 154 [zr v0, .int v1, .int v2] h (some (.int r)) h' := by
  obtain ⟨hz0, hp⟩ := ck_i hp
  rw [show zr v0 = .ref (v0 - 1) from zr_p hz0]
  refine Ct.ofH (by decide +kernel) (Nat.le_of_ble_eq_true rfl) ?_
  intro p e s m args below meth c C htb hR ls hl
  have hl : zl ls 4 [(0, zr v0), (1, .int v1), (2, .int v2)] := ⟨by rw [zr_p hz0]; exact hl, by simp [zr_cat, in_cat]⟩
  exact s_L_anew_0 hfl htb C hR (fun _ hq => nomatch hq) hl hp
/-! CursorKeepLaw.version(LCursorKeep;I)I -/
def p_L_version_0  (v0 : Nat) (v1 : Int32) (h : AH) : Option (Int32 × AH) :=
  ck (aK h v0 = 12) <|
  bC (p_X10_version v0 v1 h) (fun r2 h3 =>
    some (r2, h3))
  (fun e4 h3 =>
    if e4 = 1 then
      some ((iI (-101)), h3)
    else
      none)
set_option maxHeartbeats 4000000 in
set_option maxRecDepth 100000 in
theorem s_L_version_0 {p : Program} {l : Launch} {e : Env} {s : State} {m : MethodId} {args : Array Value} {below : List Frame} {meth : Method} {c : Code} {G : GG} {hs : AH} {r : Int32} {h' : AH} (hfl : l.stackTraces = false) (htb : c.exceptionTable.toList = tableOf [(0, 5, 6, 15)]) (C : Cx G hs p s m args meth c cL_version 3 RL (.codeWith yL_version cL_version 3 (some .int) [(0, 5, 6, 15)] :: MW) (some .int) "version")   {v0 : Nat} {v1 : Int32} {h : AH} {H : Heap} {locs : List Loc} {cells slots : Nat} {ls : Array Slot} (hR : Rp G h H) (hL : ∀ q ∈ locs, gB G ≤ q.base) (hl : zl ls 3 [(0, zr v0), (1, .int v1)]) (hp : p_L_version_0  v0 v1 h = some (r, h')) : W p l e (gR G hs 8 153) s m args below meth c H locs cells slots (MQ below (Qcc G (some (.int r)) h') args s (gC G - aZ hs) (gS - aU hs) (fun q => gB G ≤ q)) (F0 m 0 ls []) := by
  obtain ⟨hx, hb, hml, hown, hts, hT, hK, rs, hlk, hret, hnm⟩ := id C
  have hm : ∀ w ∈ MW, w.before args s = true := fun w hw => hts w (hT w hw)
  unfold p_L_version_0 at hp
  refine z_aload_n hx hb dL_version_0 rfl (zl_at hl 0 rfl) ?_
  refine lv_iload_n hx hb dL_version_1 rfl (zl_at hl 1 rfl) ?_
  obtain ⟨k1, hp⟩ := ck_i hp
  rcases bC_i hp with ⟨r2, h3, er2, hp⟩ | ⟨e4, h3, er2, hp⟩
  · refine r_runVX (ci := 11) (r := (RX10, TX10, 7)) (n := 1) (As := [.int v1]) (rest := []) C (c_X10_version l hfl G v0 v1 h (.ok r2) h3 er2) hR rfl k1 mw_686 mw_687 mw_688 mw_1 mw_689 (by decide +kernel) (by decide) rfl (zl_size hl) rfl (by simp [zr_cat, in_cat]) dL_version_2 (fun cells slots hr => ?_)
    refine r_okRun hR hL hr (fun H locs cells slots hR hL => ?_)
    refine W.eq (g2 := F0 m 5 ls [.int r2]) rfl ?_
    cases hp
    exact r_zret C hR hL rfl dL_version_5
  · refine r_runVX (ci := 11) (r := (RX10, TX10, 7)) (n := 1) (As := [.int v1]) (rest := []) C (c_X10_version l hfl G v0 v1 h (.error e4) h3 er2) hR rfl k1 mw_686 mw_687 mw_688 mw_1 mw_689 (by decide +kernel) (by decide) rfl (zl_size hl) rfl (by simp [zr_cat, in_cat]) dL_version_2 (fun cells slots hr => ?_)
    refine r_exRun hR hL hr (fun q9 ce H locs cells slots hR hL hce hcv hcl => ?_)
    by_cases c5 : e4 = 1
    · subst c5
      replace hp := ite_p hp rfl
      refine r_catch (e0 := 1) (name := "java/lang/IndexOutOfBoundsException") hown hK [] ⟨0, 5, 6, 15⟩ [] (htb.trans rfl) (fun _ hz => nomatch hz) (by decide) (by decide) (hm _ mw_303) (KW_t 316 (by decide +kernel) (by decide +kernel)) hce hcv hcl ?_
      refine z_astore_n (lv' := [(2, zr (q9 + 1)), (0, zr v0), (1, .int v1)]) hx hb dL_version_6 rfl hl (by decide) rfl (fun ls hl => ?_)
      refine lv_bipush (v := iI (-101)) hx hb dL_version_7 (by decide +kernel) ?_
      cases hp
      exact r_zret C hR hL rfl dL_version_9
    replace hp := ite_n hp c5
    exact absurd hp (by simp)
def p_L_version (v0 : Nat) (v1 : Int32) (h : AH) : Option (Int32 × AH) := ck (v0 ≠ 0) <| p_L_version_0 v0 v1 h
theorem c_L_version (l : Launch) (hfl : l.stackTraces = false) (G : GG) (v0 : Nat) (v1 : Int32) (h : AH) (r : Int32) (h' : AH) (hp : p_L_version v0 v1 h = some (r, h')) : Ct l yL_version (.codeWith yL_version cL_version 3 (some .int) [(0, 5, 6, 15)] :: MW) G 8 153 [zr v0, .int v1] h (some (.int r)) h' := by
  obtain ⟨hz0, hp⟩ := ck_i hp
  rw [show zr v0 = .ref (v0 - 1) from zr_p hz0]
  refine Ct.ofH (by decide +kernel) (Nat.le_of_ble_eq_true rfl) ?_
  intro p e s m args below meth c C htb hR ls hl
  have hl : zl ls 3 [(0, zr v0), (1, .int v1)] := ⟨by rw [zr_p hz0]; exact hl, by simp [zr_cat, in_cat]⟩
  exact s_L_version_0 hfl htb C hR (fun _ hq => nomatch hq) hl hp
/-! CursorKeepLaw.ask(LCursorKeep;III)I -/
def p_L_ask_0  (v0 : Nat) (v1 : Int32) (v2 : Int32) (v3 : Int32) (h : AH) : Option (Int32 × AH) :=
  ck (aK h v0 = 12) <|
  bC (p_X10_ask v0 v1 v2 v3 h) (fun r2 h3 =>
    some (r2, h3))
  (fun e4 h3 =>
    if e4 = 1 then
      some ((iI (-101)), h3)
    else
      if e4 = 2 then
        some ((iI (-102)), h3)
      else
        if e4 = 3 then
          some ((iI (-103)), h3)
        else
          none)
set_option maxHeartbeats 4000000 in
set_option maxRecDepth 100000 in
theorem s_L_ask_0 {p : Program} {l : Launch} {e : Env} {s : State} {m : MethodId} {args : Array Value} {below : List Frame} {meth : Method} {c : Code} {G : GG} {hs : AH} {r : Int32} {h' : AH} (hfl : l.stackTraces = false) (htb : c.exceptionTable.toList = tableOf [(0, 7, 8, 15), (0, 7, 13, 17), (0, 7, 18, 19)]) (C : Cx G hs p s m args meth c cL_ask 5 RL (.codeWith yL_ask cL_ask 5 (some .int) [(0, 7, 8, 15), (0, 7, 13, 17), (0, 7, 18, 19)] :: MW) (some .int) "ask")   {v0 : Nat} {v1 : Int32} {v2 : Int32} {v3 : Int32} {h : AH} {H : Heap} {locs : List Loc} {cells slots : Nat} {ls : Array Slot} (hR : Rp G h H) (hL : ∀ q ∈ locs, gB G ≤ q.base) (hl : zl ls 5 [(0, zr v0), (1, .int v1), (2, .int v2), (3, .int v3)]) (hp : p_L_ask_0  v0 v1 v2 v3 h = some (r, h')) : W p l e (gR G hs 9 221) s m args below meth c H locs cells slots (MQ below (Qcc G (some (.int r)) h') args s (gC G - aZ hs) (gS - aU hs) (fun q => gB G ≤ q)) (F0 m 0 ls []) := by
  obtain ⟨hx, hb, hml, hown, hts, hT, hK, rs, hlk, hret, hnm⟩ := id C
  have hm : ∀ w ∈ MW, w.before args s = true := fun w hw => hts w (hT w hw)
  unfold p_L_ask_0 at hp
  refine z_aload_n hx hb dL_ask_0 rfl (zl_at hl 0 rfl) ?_
  refine lv_iload_n hx hb dL_ask_1 rfl (zl_at hl 1 rfl) ?_
  refine lv_iload_n hx hb dL_ask_2 rfl (zl_at hl 2 rfl) ?_
  refine lv_iload_n hx hb dL_ask_3 rfl (zl_at hl 3 rfl) ?_
  obtain ⟨k1, hp⟩ := ck_i hp
  rcases bC_i hp with ⟨r2, h3, er2, hp⟩ | ⟨e4, h3, er2, hp⟩
  · refine r_runVX (ci := 11) (r := (RX10, TX10, 7)) (n := 3) (As := [.int v1, .int v2, .int v3]) (rest := []) C (c_X10_ask l hfl G v0 v1 v2 v3 h (.ok r2) h3 er2) hR rfl k1 mw_693 mw_694 mw_695 mw_1 mw_696 (by decide +kernel) (by decide) rfl (zl_size hl) rfl (by simp [zr_cat, in_cat]) dL_ask_4 (fun cells slots hr => ?_)
    refine r_okRun hR hL hr (fun H locs cells slots hR hL => ?_)
    refine W.eq (g2 := F0 m 7 ls [.int r2]) rfl ?_
    cases hp
    exact r_zret C hR hL rfl dL_ask_7
  · refine r_runVX (ci := 11) (r := (RX10, TX10, 7)) (n := 3) (As := [.int v1, .int v2, .int v3]) (rest := []) C (c_X10_ask l hfl G v0 v1 v2 v3 h (.error e4) h3 er2) hR rfl k1 mw_693 mw_694 mw_695 mw_1 mw_696 (by decide +kernel) (by decide) rfl (zl_size hl) rfl (by simp [zr_cat, in_cat]) dL_ask_4 (fun cells slots hr => ?_)
    refine r_exRun hR hL hr (fun q9 ce H locs cells slots hR hL hce hcv hcl => ?_)
    by_cases c5 : e4 = 1
    · subst c5
      replace hp := ite_p hp rfl
      refine r_catch (e0 := 1) (name := "java/lang/IndexOutOfBoundsException") hown hK [] ⟨0, 7, 8, 15⟩ [⟨0, 7, 13, 17⟩, ⟨0, 7, 18, 19⟩] (htb.trans rfl) (fun _ hz => nomatch hz) (by decide) (by decide) (hm _ mw_303) (KW_t 316 (by decide +kernel) (by decide +kernel)) hce hcv hcl ?_
      refine z_astore (lv' := [(4, zr (q9 + 1)), (0, zr v0), (1, .int v1), (2, .int v2), (3, .int v3)]) hx hb dL_ask_8 hl (by decide) rfl (fun ls hl => ?_)
      refine lv_bipush (v := iI (-101)) hx hb dL_ask_10 (by decide +kernel) ?_
      cases hp
      exact r_zret C hR hL rfl dL_ask_12
    replace hp := ite_n hp c5
    by_cases c6 : e4 = 2
    · subst c6
      replace hp := ite_p hp rfl
      refine r_catch (e0 := 2) (name := "java/lang/IllegalArgumentException") hown hK [⟨0, 7, 8, 15⟩] ⟨0, 7, 13, 17⟩ [⟨0, 7, 18, 19⟩] (htb.trans rfl) (fun z hz => by rw [List.mem_singleton.mp hz]; exact ⟨by decide, _, hm _ mw_303, by decide +kernel⟩) (by decide) (by decide) (hm _ mw_304) (KW_t 392 (by decide +kernel) (by decide +kernel)) hce hcv hcl ?_
      refine z_astore (lv' := [(4, zr (q9 + 1)), (0, zr v0), (1, .int v1), (2, .int v2), (3, .int v3)]) hx hb dL_ask_13 hl (by decide) rfl (fun ls hl => ?_)
      refine lv_bipush (v := iI (-102)) hx hb dL_ask_15 (by decide +kernel) ?_
      cases hp
      exact r_zret C hR hL rfl dL_ask_17
    replace hp := ite_n hp c6
    by_cases c7 : e4 = 3
    · subst c7
      replace hp := ite_p hp rfl
      refine r_catch (e0 := 3) (name := "java/lang/IllegalStateException") hown hK [⟨0, 7, 8, 15⟩, ⟨0, 7, 13, 17⟩] ⟨0, 7, 18, 19⟩ [] (htb.trans rfl) (fun z hz => (List.mem_cons.mp hz).elim (fun h9 => by rw [h9]; exact ⟨by decide, _, hm _ mw_303, by decide +kernel⟩) (fun h9 => by rw [List.mem_singleton.mp h9]; exact ⟨by decide, _, hm _ mw_304, by decide +kernel⟩)) (by decide) (by decide) (hm _ mw_305) (KW_t 412 (by decide +kernel) (by decide +kernel)) hce hcv hcl ?_
      refine z_astore (lv' := [(4, zr (q9 + 1)), (0, zr v0), (1, .int v1), (2, .int v2), (3, .int v3)]) hx hb dL_ask_18 hl (by decide) rfl (fun ls hl => ?_)
      refine lv_bipush (v := iI (-103)) hx hb dL_ask_20 (by decide +kernel) ?_
      cases hp
      exact r_zret C hR hL rfl dL_ask_22
    replace hp := ite_n hp c7
    exact absurd hp (by simp)
def p_L_ask (v0 : Nat) (v1 : Int32) (v2 : Int32) (v3 : Int32) (h : AH) : Option (Int32 × AH) := ck (v0 ≠ 0) <| p_L_ask_0 v0 v1 v2 v3 h
theorem c_L_ask (l : Launch) (hfl : l.stackTraces = false) (G : GG) (v0 : Nat) (v1 : Int32) (v2 : Int32) (v3 : Int32) (h : AH) (r : Int32) (h' : AH) (hp : p_L_ask v0 v1 v2 v3 h = some (r, h')) : Ct l yL_ask (.codeWith yL_ask cL_ask 5 (some .int) [(0, 7, 8, 15), (0, 7, 13, 17), (0, 7, 18, 19)] :: MW) G 9 221 [zr v0, .int v1, .int v2, .int v3] h (some (.int r)) h' := by
  obtain ⟨hz0, hp⟩ := ck_i hp
  rw [show zr v0 = .ref (v0 - 1) from zr_p hz0]
  refine Ct.ofH (by decide +kernel) (Nat.le_of_ble_eq_true rfl) ?_
  intro p e s m args below meth c C htb hR ls hl
  have hl : zl ls 5 [(0, zr v0), (1, .int v1), (2, .int v2), (3, .int v3)] := ⟨by rw [zr_p hz0]; exact hl, by simp [zr_cat, in_cat]⟩
  exact s_L_ask_0 hfl htb C hR (fun _ hq => nomatch hq) hl hp
/-! CursorKeepLaw.come(LCursorKeep;I)I -/
def p_L_come_0  (v0 : Nat) (v1 : Int32) (h : AH) : Option (Int32 × AH) :=
  ck (aK h v0 = 12) <|
  bC (p_X10_come v0 v1 h) (fun r2 h3 =>
    some (r2, h3))
  (fun e4 h3 =>
    if e4 = 1 then
      some ((iI (-101)), h3)
    else
      if e4 = 3 then
        some ((iI (-103)), h3)
      else
        none)
set_option maxHeartbeats 4000000 in
set_option maxRecDepth 100000 in
theorem s_L_come_0 {p : Program} {l : Launch} {e : Env} {s : State} {m : MethodId} {args : Array Value} {below : List Frame} {meth : Method} {c : Code} {G : GG} {hs : AH} {r : Int32} {h' : AH} (hfl : l.stackTraces = false) (htb : c.exceptionTable.toList = tableOf [(0, 5, 6, 15), (0, 5, 10, 19)]) (C : Cx G hs p s m args meth c cL_come 3 RL (.codeWith yL_come cL_come 3 (some .int) [(0, 5, 6, 15), (0, 5, 10, 19)] :: MW) (some .int) "come")   {v0 : Nat} {v1 : Int32} {h : AH} {H : Heap} {locs : List Loc} {cells slots : Nat} {ls : Array Slot} (hR : Rp G h H) (hL : ∀ q ∈ locs, gB G ≤ q.base) (hl : zl ls 3 [(0, zr v0), (1, .int v1)]) (hp : p_L_come_0  v0 v1 h = some (r, h')) : W p l e (gR G hs 11 262) s m args below meth c H locs cells slots (MQ below (Qcc G (some (.int r)) h') args s (gC G - aZ hs) (gS - aU hs) (fun q => gB G ≤ q)) (F0 m 0 ls []) := by
  obtain ⟨hx, hb, hml, hown, hts, hT, hK, rs, hlk, hret, hnm⟩ := id C
  have hm : ∀ w ∈ MW, w.before args s = true := fun w hw => hts w (hT w hw)
  unfold p_L_come_0 at hp
  refine z_aload_n hx hb dL_come_0 rfl (zl_at hl 0 rfl) ?_
  refine lv_iload_n hx hb dL_come_1 rfl (zl_at hl 1 rfl) ?_
  obtain ⟨k1, hp⟩ := ck_i hp
  rcases bC_i hp with ⟨r2, h3, er2, hp⟩ | ⟨e4, h3, er2, hp⟩
  · refine r_runVX (ci := 11) (r := (RX10, TX10, 7)) (n := 1) (As := [.int v1]) (rest := []) C (c_X10_come l hfl G v0 v1 h (.ok r2) h3 er2) hR rfl k1 mw_827 mw_828 mw_829 mw_1 mw_830 (by decide +kernel) (by decide) rfl (zl_size hl) rfl (by simp [zr_cat, in_cat]) dL_come_2 (fun cells slots hr => ?_)
    refine r_okRun hR hL hr (fun H locs cells slots hR hL => ?_)
    refine W.eq (g2 := F0 m 5 ls [.int r2]) rfl ?_
    cases hp
    exact r_zret C hR hL rfl dL_come_5
  · refine r_runVX (ci := 11) (r := (RX10, TX10, 7)) (n := 1) (As := [.int v1]) (rest := []) C (c_X10_come l hfl G v0 v1 h (.error e4) h3 er2) hR rfl k1 mw_827 mw_828 mw_829 mw_1 mw_830 (by decide +kernel) (by decide) rfl (zl_size hl) rfl (by simp [zr_cat, in_cat]) dL_come_2 (fun cells slots hr => ?_)
    refine r_exRun hR hL hr (fun q9 ce H locs cells slots hR hL hce hcv hcl => ?_)
    by_cases c5 : e4 = 1
    · subst c5
      replace hp := ite_p hp rfl
      refine r_catch (e0 := 1) (name := "java/lang/IndexOutOfBoundsException") hown hK [] ⟨0, 5, 6, 15⟩ [⟨0, 5, 10, 19⟩] (htb.trans rfl) (fun _ hz => nomatch hz) (by decide) (by decide) (hm _ mw_303) (KW_t 316 (by decide +kernel) (by decide +kernel)) hce hcv hcl ?_
      refine z_astore_n (lv' := [(2, zr (q9 + 1)), (0, zr v0), (1, .int v1)]) hx hb dL_come_6 rfl hl (by decide) rfl (fun ls hl => ?_)
      refine lv_bipush (v := iI (-101)) hx hb dL_come_7 (by decide +kernel) ?_
      cases hp
      exact r_zret C hR hL rfl dL_come_9
    replace hp := ite_n hp c5
    by_cases c6 : e4 = 3
    · subst c6
      replace hp := ite_p hp rfl
      refine r_catch (e0 := 3) (name := "java/lang/IllegalStateException") hown hK [⟨0, 5, 6, 15⟩] ⟨0, 5, 10, 19⟩ [] (htb.trans rfl) (fun z hz => by rw [List.mem_singleton.mp hz]; exact ⟨by decide, _, hm _ mw_303, by decide +kernel⟩) (by decide) (by decide) (hm _ mw_305) (KW_t 412 (by decide +kernel) (by decide +kernel)) hce hcv hcl ?_
      refine z_astore_n (lv' := [(2, zr (q9 + 1)), (0, zr v0), (1, .int v1)]) hx hb dL_come_10 rfl hl (by decide) rfl (fun ls hl => ?_)
      refine lv_bipush (v := iI (-103)) hx hb dL_come_11 (by decide +kernel) ?_
      cases hp
      exact r_zret C hR hL rfl dL_come_13
    replace hp := ite_n hp c6
    exact absurd hp (by simp)
def p_L_come (v0 : Nat) (v1 : Int32) (h : AH) : Option (Int32 × AH) := ck (v0 ≠ 0) <| p_L_come_0 v0 v1 h
theorem c_L_come (l : Launch) (hfl : l.stackTraces = false) (G : GG) (v0 : Nat) (v1 : Int32) (h : AH) (r : Int32) (h' : AH) (hp : p_L_come v0 v1 h = some (r, h')) : Ct l yL_come (.codeWith yL_come cL_come 3 (some .int) [(0, 5, 6, 15), (0, 5, 10, 19)] :: MW) G 11 262 [zr v0, .int v1] h (some (.int r)) h' := by
  obtain ⟨hz0, hp⟩ := ck_i hp
  rw [show zr v0 = .ref (v0 - 1) from zr_p hz0]
  refine Ct.ofH (by decide +kernel) (Nat.le_of_ble_eq_true rfl) ?_
  intro p e s m args below meth c C htb hR ls hl
  have hl : zl ls 3 [(0, zr v0), (1, .int v1)] := ⟨by rw [zr_p hz0]; exact hl, by simp [zr_cat, in_cat]⟩
  exact s_L_come_0 hfl htb C hR (fun _ hq => nomatch hq) hl hp
/-! CursorKeepLaw.drop(LCursorKeep;I)I -/
def p_L_drop_0  (v0 : Nat) (v1 : Int32) (h : AH) : Option (Int32 × AH) :=
  ck (aK h v0 = 12) <|
  bC (p_X10_drop v0 v1 h) (fun r2 h3 =>
    some (r2, h3))
  (fun e4 h3 =>
    if e4 = 1 then
      some ((iI (-101)), h3)
    else
      if e4 = 3 then
        some ((iI (-103)), h3)
      else
        none)
set_option maxHeartbeats 4000000 in
set_option maxRecDepth 100000 in
theorem s_L_drop_0 {p : Program} {l : Launch} {e : Env} {s : State} {m : MethodId} {args : Array Value} {below : List Frame} {meth : Method} {c : Code} {G : GG} {hs : AH} {r : Int32} {h' : AH} (hfl : l.stackTraces = false) (htb : c.exceptionTable.toList = tableOf [(0, 5, 6, 15), (0, 5, 10, 19)]) (C : Cx G hs p s m args meth c cL_drop 3 RL (.codeWith yL_drop cL_drop 3 (some .int) [(0, 5, 6, 15), (0, 5, 10, 19)] :: MW) (some .int) "drop")   {v0 : Nat} {v1 : Int32} {h : AH} {H : Heap} {locs : List Loc} {cells slots : Nat} {ls : Array Slot} (hR : Rp G h H) (hL : ∀ q ∈ locs, gB G ≤ q.base) (hl : zl ls 3 [(0, zr v0), (1, .int v1)]) (hp : p_L_drop_0  v0 v1 h = some (r, h')) : W p l e (gR G hs 9 175) s m args below meth c H locs cells slots (MQ below (Qcc G (some (.int r)) h') args s (gC G - aZ hs) (gS - aU hs) (fun q => gB G ≤ q)) (F0 m 0 ls []) := by
  obtain ⟨hx, hb, hml, hown, hts, hT, hK, rs, hlk, hret, hnm⟩ := id C
  have hm : ∀ w ∈ MW, w.before args s = true := fun w hw => hts w (hT w hw)
  unfold p_L_drop_0 at hp
  refine z_aload_n hx hb dL_drop_0 rfl (zl_at hl 0 rfl) ?_
  refine lv_iload_n hx hb dL_drop_1 rfl (zl_at hl 1 rfl) ?_
  obtain ⟨k1, hp⟩ := ck_i hp
  rcases bC_i hp with ⟨r2, h3, er2, hp⟩ | ⟨e4, h3, er2, hp⟩
  · refine r_runVX (ci := 11) (r := (RX10, TX10, 7)) (n := 1) (As := [.int v1]) (rest := []) C (c_X10_drop l hfl G v0 v1 h (.ok r2) h3 er2) hR rfl k1 mw_885 mw_886 mw_887 mw_1 mw_888 (by decide +kernel) (by decide) rfl (zl_size hl) rfl (by simp [zr_cat, in_cat]) dL_drop_2 (fun cells slots hr => ?_)
    refine r_okRun hR hL hr (fun H locs cells slots hR hL => ?_)
    refine W.eq (g2 := F0 m 5 ls [.int r2]) rfl ?_
    cases hp
    exact r_zret C hR hL rfl dL_drop_5
  · refine r_runVX (ci := 11) (r := (RX10, TX10, 7)) (n := 1) (As := [.int v1]) (rest := []) C (c_X10_drop l hfl G v0 v1 h (.error e4) h3 er2) hR rfl k1 mw_885 mw_886 mw_887 mw_1 mw_888 (by decide +kernel) (by decide) rfl (zl_size hl) rfl (by simp [zr_cat, in_cat]) dL_drop_2 (fun cells slots hr => ?_)
    refine r_exRun hR hL hr (fun q9 ce H locs cells slots hR hL hce hcv hcl => ?_)
    by_cases c5 : e4 = 1
    · subst c5
      replace hp := ite_p hp rfl
      refine r_catch (e0 := 1) (name := "java/lang/IndexOutOfBoundsException") hown hK [] ⟨0, 5, 6, 15⟩ [⟨0, 5, 10, 19⟩] (htb.trans rfl) (fun _ hz => nomatch hz) (by decide) (by decide) (hm _ mw_303) (KW_t 316 (by decide +kernel) (by decide +kernel)) hce hcv hcl ?_
      refine z_astore_n (lv' := [(2, zr (q9 + 1)), (0, zr v0), (1, .int v1)]) hx hb dL_drop_6 rfl hl (by decide) rfl (fun ls hl => ?_)
      refine lv_bipush (v := iI (-101)) hx hb dL_drop_7 (by decide +kernel) ?_
      cases hp
      exact r_zret C hR hL rfl dL_drop_9
    replace hp := ite_n hp c5
    by_cases c6 : e4 = 3
    · subst c6
      replace hp := ite_p hp rfl
      refine r_catch (e0 := 3) (name := "java/lang/IllegalStateException") hown hK [⟨0, 5, 6, 15⟩] ⟨0, 5, 10, 19⟩ [] (htb.trans rfl) (fun z hz => by rw [List.mem_singleton.mp hz]; exact ⟨by decide, _, hm _ mw_303, by decide +kernel⟩) (by decide) (by decide) (hm _ mw_305) (KW_t 412 (by decide +kernel) (by decide +kernel)) hce hcv hcl ?_
      refine z_astore_n (lv' := [(2, zr (q9 + 1)), (0, zr v0), (1, .int v1)]) hx hb dL_drop_10 rfl hl (by decide) rfl (fun ls hl => ?_)
      refine lv_bipush (v := iI (-103)) hx hb dL_drop_11 (by decide +kernel) ?_
      cases hp
      exact r_zret C hR hL rfl dL_drop_13
    replace hp := ite_n hp c6
    exact absurd hp (by simp)
def p_L_drop (v0 : Nat) (v1 : Int32) (h : AH) : Option (Int32 × AH) := ck (v0 ≠ 0) <| p_L_drop_0 v0 v1 h
theorem c_L_drop (l : Launch) (hfl : l.stackTraces = false) (G : GG) (v0 : Nat) (v1 : Int32) (h : AH) (r : Int32) (h' : AH) (hp : p_L_drop v0 v1 h = some (r, h')) : Ct l yL_drop (.codeWith yL_drop cL_drop 3 (some .int) [(0, 5, 6, 15), (0, 5, 10, 19)] :: MW) G 9 175 [zr v0, .int v1] h (some (.int r)) h' := by
  obtain ⟨hz0, hp⟩ := ck_i hp
  rw [show zr v0 = .ref (v0 - 1) from zr_p hz0]
  refine Ct.ofH (by decide +kernel) (Nat.le_of_ble_eq_true rfl) ?_
  intro p e s m args below meth c C htb hR ls hl
  have hl : zl ls 3 [(0, zr v0), (1, .int v1)] := ⟨by rw [zr_p hz0]; exact hl, by simp [zr_cat, in_cat]⟩
  exact s_L_drop_0 hfl htb C hR (fun _ hq => nomatch hq) hl hp
/-! CursorKeepLaw.state(LCursorKeep;I)I -/
def p_L_state_0  (v0 : Nat) (v1 : Int32) (h : AH) : Option (Int32 × AH) :=
  ck (aK h v0 = 12) <|
  bC (p_X10_state v0 v1 h) (fun r2 h3 =>
    some (r2, h3))
  (fun e4 h3 =>
    if e4 = 1 then
      some ((iI (-101)), h3)
    else
      none)
set_option maxHeartbeats 4000000 in
set_option maxRecDepth 100000 in
theorem s_L_state_0 {p : Program} {l : Launch} {e : Env} {s : State} {m : MethodId} {args : Array Value} {below : List Frame} {meth : Method} {c : Code} {G : GG} {hs : AH} {r : Int32} {h' : AH} (hfl : l.stackTraces = false) (htb : c.exceptionTable.toList = tableOf [(0, 5, 6, 15)]) (C : Cx G hs p s m args meth c cL_state 3 RL (.codeWith yL_state cL_state 3 (some .int) [(0, 5, 6, 15)] :: MW) (some .int) "state")   {v0 : Nat} {v1 : Int32} {h : AH} {H : Heap} {locs : List Loc} {cells slots : Nat} {ls : Array Slot} (hR : Rp G h H) (hL : ∀ q ∈ locs, gB G ≤ q.base) (hl : zl ls 3 [(0, zr v0), (1, .int v1)]) (hp : p_L_state_0  v0 v1 h = some (r, h')) : W p l e (gR G hs 8 152) s m args below meth c H locs cells slots (MQ below (Qcc G (some (.int r)) h') args s (gC G - aZ hs) (gS - aU hs) (fun q => gB G ≤ q)) (F0 m 0 ls []) := by
  obtain ⟨hx, hb, hml, hown, hts, hT, hK, rs, hlk, hret, hnm⟩ := id C
  have hm : ∀ w ∈ MW, w.before args s = true := fun w hw => hts w (hT w hw)
  unfold p_L_state_0 at hp
  refine z_aload_n hx hb dL_state_0 rfl (zl_at hl 0 rfl) ?_
  refine lv_iload_n hx hb dL_state_1 rfl (zl_at hl 1 rfl) ?_
  obtain ⟨k1, hp⟩ := ck_i hp
  rcases bC_i hp with ⟨r2, h3, er2, hp⟩ | ⟨e4, h3, er2, hp⟩
  · refine r_runVX (ci := 11) (r := (RX10, TX10, 7)) (n := 1) (As := [.int v1]) (rest := []) C (c_X10_state l hfl G v0 v1 h (.ok r2) h3 er2) hR rfl k1 mw_892 mw_893 mw_894 mw_1 mw_895 (by decide +kernel) (by decide) rfl (zl_size hl) rfl (by simp [zr_cat, in_cat]) dL_state_2 (fun cells slots hr => ?_)
    refine r_okRun hR hL hr (fun H locs cells slots hR hL => ?_)
    refine W.eq (g2 := F0 m 5 ls [.int r2]) rfl ?_
    cases hp
    exact r_zret C hR hL rfl dL_state_5
  · refine r_runVX (ci := 11) (r := (RX10, TX10, 7)) (n := 1) (As := [.int v1]) (rest := []) C (c_X10_state l hfl G v0 v1 h (.error e4) h3 er2) hR rfl k1 mw_892 mw_893 mw_894 mw_1 mw_895 (by decide +kernel) (by decide) rfl (zl_size hl) rfl (by simp [zr_cat, in_cat]) dL_state_2 (fun cells slots hr => ?_)
    refine r_exRun hR hL hr (fun q9 ce H locs cells slots hR hL hce hcv hcl => ?_)
    by_cases c5 : e4 = 1
    · subst c5
      replace hp := ite_p hp rfl
      refine r_catch (e0 := 1) (name := "java/lang/IndexOutOfBoundsException") hown hK [] ⟨0, 5, 6, 15⟩ [] (htb.trans rfl) (fun _ hz => nomatch hz) (by decide) (by decide) (hm _ mw_303) (KW_t 316 (by decide +kernel) (by decide +kernel)) hce hcv hcl ?_
      refine z_astore_n (lv' := [(2, zr (q9 + 1)), (0, zr v0), (1, .int v1)]) hx hb dL_state_6 rfl hl (by decide) rfl (fun ls hl => ?_)
      refine lv_bipush (v := iI (-101)) hx hb dL_state_7 (by decide +kernel) ?_
      cases hp
      exact r_zret C hR hL rfl dL_state_9
    replace hp := ite_n hp c5
    exact absurd hp (by simp)
def p_L_state (v0 : Nat) (v1 : Int32) (h : AH) : Option (Int32 × AH) := ck (v0 ≠ 0) <| p_L_state_0 v0 v1 h
theorem c_L_state (l : Launch) (hfl : l.stackTraces = false) (G : GG) (v0 : Nat) (v1 : Int32) (h : AH) (r : Int32) (h' : AH) (hp : p_L_state v0 v1 h = some (r, h')) : Ct l yL_state (.codeWith yL_state cL_state 3 (some .int) [(0, 5, 6, 15)] :: MW) G 8 152 [zr v0, .int v1] h (some (.int r)) h' := by
  obtain ⟨hz0, hp⟩ := ck_i hp
  rw [show zr v0 = .ref (v0 - 1) from zr_p hz0]
  refine Ct.ofH (by decide +kernel) (Nat.le_of_ble_eq_true rfl) ?_
  intro p e s m args below meth c C htb hR ls hl
  have hl : zl ls 3 [(0, zr v0), (1, .int v1)] := ⟨by rw [zr_p hz0]; exact hl, by simp [zr_cat, in_cat]⟩
  exact s_L_state_0 hfl htb C hR (fun _ hq => nomatch hq) hl hp
/-! CursorKeepLaw.spared(LCursorKeep;I)I -/
def p_L_spared_0  (v0 : Nat) (v1 : Int32) (h : AH) : Option (Int32 × AH) :=
  ck (aK h v0 = 12) <|
  bC (p_X10_spared v0 v1 h) (fun r2 h3 =>
    some (r2, h3))
  (fun e4 h3 =>
    if e4 = 1 then
      some ((iI (-101)), h3)
    else
      none)
set_option maxHeartbeats 4000000 in
set_option maxRecDepth 100000 in
theorem s_L_spared_0 {p : Program} {l : Launch} {e : Env} {s : State} {m : MethodId} {args : Array Value} {below : List Frame} {meth : Method} {c : Code} {G : GG} {hs : AH} {r : Int32} {h' : AH} (hfl : l.stackTraces = false) (htb : c.exceptionTable.toList = tableOf [(0, 5, 6, 15)]) (C : Cx G hs p s m args meth c cL_spared 3 RL (.codeWith yL_spared cL_spared 3 (some .int) [(0, 5, 6, 15)] :: MW) (some .int) "spared")   {v0 : Nat} {v1 : Int32} {h : AH} {H : Heap} {locs : List Loc} {cells slots : Nat} {ls : Array Slot} (hR : Rp G h H) (hL : ∀ q ∈ locs, gB G ≤ q.base) (hl : zl ls 3 [(0, zr v0), (1, .int v1)]) (hp : p_L_spared_0  v0 v1 h = some (r, h')) : W p l e (gR G hs 8 175) s m args below meth c H locs cells slots (MQ below (Qcc G (some (.int r)) h') args s (gC G - aZ hs) (gS - aU hs) (fun q => gB G ≤ q)) (F0 m 0 ls []) := by
  obtain ⟨hx, hb, hml, hown, hts, hT, hK, rs, hlk, hret, hnm⟩ := id C
  have hm : ∀ w ∈ MW, w.before args s = true := fun w hw => hts w (hT w hw)
  unfold p_L_spared_0 at hp
  refine z_aload_n hx hb dL_spared_0 rfl (zl_at hl 0 rfl) ?_
  refine lv_iload_n hx hb dL_spared_1 rfl (zl_at hl 1 rfl) ?_
  obtain ⟨k1, hp⟩ := ck_i hp
  rcases bC_i hp with ⟨r2, h3, er2, hp⟩ | ⟨e4, h3, er2, hp⟩
  · refine r_runVX (ci := 11) (r := (RX10, TX10, 7)) (n := 1) (As := [.int v1]) (rest := []) C (c_X10_spared l hfl G v0 v1 h (.ok r2) h3 er2) hR rfl k1 mw_899 mw_900 mw_901 mw_1 mw_902 (by decide +kernel) (by decide) rfl (zl_size hl) rfl (by simp [zr_cat, in_cat]) dL_spared_2 (fun cells slots hr => ?_)
    refine r_okRun hR hL hr (fun H locs cells slots hR hL => ?_)
    refine W.eq (g2 := F0 m 5 ls [.int r2]) rfl ?_
    cases hp
    exact r_zret C hR hL rfl dL_spared_5
  · refine r_runVX (ci := 11) (r := (RX10, TX10, 7)) (n := 1) (As := [.int v1]) (rest := []) C (c_X10_spared l hfl G v0 v1 h (.error e4) h3 er2) hR rfl k1 mw_899 mw_900 mw_901 mw_1 mw_902 (by decide +kernel) (by decide) rfl (zl_size hl) rfl (by simp [zr_cat, in_cat]) dL_spared_2 (fun cells slots hr => ?_)
    refine r_exRun hR hL hr (fun q9 ce H locs cells slots hR hL hce hcv hcl => ?_)
    by_cases c5 : e4 = 1
    · subst c5
      replace hp := ite_p hp rfl
      refine r_catch (e0 := 1) (name := "java/lang/IndexOutOfBoundsException") hown hK [] ⟨0, 5, 6, 15⟩ [] (htb.trans rfl) (fun _ hz => nomatch hz) (by decide) (by decide) (hm _ mw_303) (KW_t 316 (by decide +kernel) (by decide +kernel)) hce hcv hcl ?_
      refine z_astore_n (lv' := [(2, zr (q9 + 1)), (0, zr v0), (1, .int v1)]) hx hb dL_spared_6 rfl hl (by decide) rfl (fun ls hl => ?_)
      refine lv_bipush (v := iI (-101)) hx hb dL_spared_7 (by decide +kernel) ?_
      cases hp
      exact r_zret C hR hL rfl dL_spared_9
    replace hp := ite_n hp c5
    exact absurd hp (by simp)
def p_L_spared (v0 : Nat) (v1 : Int32) (h : AH) : Option (Int32 × AH) := ck (v0 ≠ 0) <| p_L_spared_0 v0 v1 h
theorem c_L_spared (l : Launch) (hfl : l.stackTraces = false) (G : GG) (v0 : Nat) (v1 : Int32) (h : AH) (r : Int32) (h' : AH) (hp : p_L_spared v0 v1 h = some (r, h')) : Ct l yL_spared (.codeWith yL_spared cL_spared 3 (some .int) [(0, 5, 6, 15)] :: MW) G 8 175 [zr v0, .int v1] h (some (.int r)) h' := by
  obtain ⟨hz0, hp⟩ := ck_i hp
  rw [show zr v0 = .ref (v0 - 1) from zr_p hz0]
  refine Ct.ofH (by decide +kernel) (Nat.le_of_ble_eq_true rfl) ?_
  intro p e s m args below meth c C htb hR ls hl
  have hl : zl ls 3 [(0, zr v0), (1, .int v1)] := ⟨by rw [zr_p hz0]; exact hl, by simp [zr_cat, in_cat]⟩
  exact s_L_spared_0 hfl htb C hR (fun _ hq => nomatch hq) hl hp
/-! CursorKeepLaw.lock(LCursorKeep;II)I -/
def p_L_lock_14  (s0 : Int32) (h : AH) : Option (Int32 × AH) :=
  some (s0, h)
set_option maxHeartbeats 4000000 in
set_option maxRecDepth 100000 in
theorem s_L_lock_14 {p : Program} {l : Launch} {e : Env} {s : State} {m : MethodId} {args : Array Value} {below : List Frame} {meth : Method} {c : Code} {G : GG} {hs : AH} {r : Int32} {h' : AH} (hfl : l.stackTraces = false) (htb : c.exceptionTable.toList = tableOf [(0, 14, 15, 15), (0, 14, 19, 19)]) (C : Cx G hs p s m args meth c cL_lock 4 RL (.codeWith yL_lock cL_lock 4 (some .int) [(0, 14, 15, 15), (0, 14, 19, 19)] :: MW) (some .int) "lock")   {s0 : Int32} {h : AH} {H : Heap} {locs : List Loc} {cells slots : Nat} {ls : Array Slot} (hR : Rp G h H) (hL : ∀ q ∈ locs, gB G ≤ q.base) (hl : zl ls 4 []) (hp : p_L_lock_14  s0 h = some (r, h')) : W p l e (gR G hs 8 155) s m args below meth c H locs cells slots (MQ below (Qcc G (some (.int r)) h') args s (gC G - aZ hs) (gS - aU hs) (fun q => gB G ≤ q)) (F0 m 14 ls [.int s0]) := by
  obtain ⟨hx, hb, hml, hown, hts, hT, hK, rs, hlk, hret, hnm⟩ := id C
  have hm : ∀ w ∈ MW, w.before args s = true := fun w hw => hts w (hT w hw)
  unfold p_L_lock_14 at hp
  cases hp
  exact r_zret C hR hL rfl dL_lock_14
def p_L_lock_0  (v0 : Nat) (v1 : Int32) (v2 : Int32) (h : AH) : Option (Int32 × AH) :=
  ck (aK h v0 = 12) <|
  bC (p_X10_lock v0 v1 v2 h) (fun r2 h3 =>
    if r2 = 0 then
      p_L_lock_14  (iI 0) h3
    else
      p_L_lock_14  (iI 1) h3)
  (fun e4 h3 =>
    if e4 = 1 then
      some ((iI (-101)), h3)
    else
      if e4 = 3 then
        some ((iI (-103)), h3)
      else
        none)
set_option maxHeartbeats 4000000 in
set_option maxRecDepth 100000 in
theorem s_L_lock_0 {p : Program} {l : Launch} {e : Env} {s : State} {m : MethodId} {args : Array Value} {below : List Frame} {meth : Method} {c : Code} {G : GG} {hs : AH} {r : Int32} {h' : AH} (hfl : l.stackTraces = false) (htb : c.exceptionTable.toList = tableOf [(0, 14, 15, 15), (0, 14, 19, 19)]) (C : Cx G hs p s m args meth c cL_lock 4 RL (.codeWith yL_lock cL_lock 4 (some .int) [(0, 14, 15, 15), (0, 14, 19, 19)] :: MW) (some .int) "lock")   {v0 : Nat} {v1 : Int32} {v2 : Int32} {h : AH} {H : Heap} {locs : List Loc} {cells slots : Nat} {ls : Array Slot} (hR : Rp G h H) (hL : ∀ q ∈ locs, gB G ≤ q.base) (hl : zl ls 4 [(0, zr v0), (1, .int v1), (2, .int v2)]) (hp : p_L_lock_0  v0 v1 v2 h = some (r, h')) : W p l e (gR G hs 8 155) s m args below meth c H locs cells slots (MQ below (Qcc G (some (.int r)) h') args s (gC G - aZ hs) (gS - aU hs) (fun q => gB G ≤ q)) (F0 m 0 ls []) := by
  obtain ⟨hx, hb, hml, hown, hts, hT, hK, rs, hlk, hret, hnm⟩ := id C
  have hm : ∀ w ∈ MW, w.before args s = true := fun w hw => hts w (hT w hw)
  unfold p_L_lock_0 at hp
  refine z_aload_n hx hb dL_lock_0 rfl (zl_at hl 0 rfl) ?_
  refine lv_iload_n hx hb dL_lock_1 rfl (zl_at hl 1 rfl) ?_
  refine lv_iload_n hx hb dL_lock_2 rfl (zl_at hl 2 rfl) ?_
  obtain ⟨k1, hp⟩ := ck_i hp
  rcases bC_i hp with ⟨r2, h3, er2, hp⟩ | ⟨e4, h3, er2, hp⟩
  · refine r_runVX (ci := 11) (r := (RX10, TX10, 7)) (n := 2) (As := [.int v1, .int v2]) (rest := []) C (c_X10_lock l hfl G v0 v1 v2 h (.ok r2) h3 er2) hR rfl k1 mw_906 mw_907 mw_908 mw_1 mw_909 (by decide +kernel) (by decide) rfl (zl_size hl) rfl (by simp [zr_cat, in_cat]) dL_lock_3 (fun cells slots hr => ?_)
    refine r_okRun hR hL hr (fun H locs cells slots hR hL => ?_)
    refine W.eq (g2 := F0 m 6 ls [.int r2]) rfl ?_
    refine lv_if_eq (tgt := 13) hx hb dL_lock_6 (by decide) (fun c5 => ?_) (fun c5 => ?_)
    · replace hp := ite_p hp c5
      refine lv_iconst (v := iI 0) hx hb dL_lock_13 rfl ?_
      exact s_L_lock_14 hfl htb C  hR hL (zl_sub hl [] rfl) hp
    · replace hp := ite_n hp c5
      refine lv_iconst (v := iI 1) hx hb dL_lock_9 rfl ?_
      refine lv_goto (tgt := 14) hx hb dL_lock_10 (by decide) ?_
      exact s_L_lock_14 hfl htb C  hR hL (zl_sub hl [] rfl) hp
  · refine r_runVX (ci := 11) (r := (RX10, TX10, 7)) (n := 2) (As := [.int v1, .int v2]) (rest := []) C (c_X10_lock l hfl G v0 v1 v2 h (.error e4) h3 er2) hR rfl k1 mw_906 mw_907 mw_908 mw_1 mw_909 (by decide +kernel) (by decide) rfl (zl_size hl) rfl (by simp [zr_cat, in_cat]) dL_lock_3 (fun cells slots hr => ?_)
    refine r_exRun hR hL hr (fun q9 ce H locs cells slots hR hL hce hcv hcl => ?_)
    by_cases c6 : e4 = 1
    · subst c6
      replace hp := ite_p hp rfl
      refine r_catch (e0 := 1) (name := "java/lang/IndexOutOfBoundsException") hown hK [] ⟨0, 14, 15, 15⟩ [⟨0, 14, 19, 19⟩] (htb.trans rfl) (fun _ hz => nomatch hz) (by decide) (by decide) (hm _ mw_303) (KW_t 316 (by decide +kernel) (by decide +kernel)) hce hcv hcl ?_
      refine z_astore_n (lv' := [(3, zr (q9 + 1)), (0, zr v0), (1, .int v1), (2, .int v2)]) hx hb dL_lock_15 rfl hl (by decide) rfl (fun ls hl => ?_)
      refine lv_bipush (v := iI (-101)) hx hb dL_lock_16 (by decide +kernel) ?_
      cases hp
      exact r_zret C hR hL rfl dL_lock_18
    replace hp := ite_n hp c6
    by_cases c7 : e4 = 3
    · subst c7
      replace hp := ite_p hp rfl
      refine r_catch (e0 := 3) (name := "java/lang/IllegalStateException") hown hK [⟨0, 14, 15, 15⟩] ⟨0, 14, 19, 19⟩ [] (htb.trans rfl) (fun z hz => by rw [List.mem_singleton.mp hz]; exact ⟨by decide, _, hm _ mw_303, by decide +kernel⟩) (by decide) (by decide) (hm _ mw_305) (KW_t 412 (by decide +kernel) (by decide +kernel)) hce hcv hcl ?_
      refine z_astore_n (lv' := [(3, zr (q9 + 1)), (0, zr v0), (1, .int v1), (2, .int v2)]) hx hb dL_lock_19 rfl hl (by decide) rfl (fun ls hl => ?_)
      refine lv_bipush (v := iI (-103)) hx hb dL_lock_20 (by decide +kernel) ?_
      cases hp
      exact r_zret C hR hL rfl dL_lock_22
    replace hp := ite_n hp c7
    exact absurd hp (by simp)
def p_L_lock (v0 : Nat) (v1 : Int32) (v2 : Int32) (h : AH) : Option (Int32 × AH) := ck (v0 ≠ 0) <| p_L_lock_0 v0 v1 v2 h
theorem c_L_lock (l : Launch) (hfl : l.stackTraces = false) (G : GG) (v0 : Nat) (v1 : Int32) (v2 : Int32) (h : AH) (r : Int32) (h' : AH) (hp : p_L_lock v0 v1 v2 h = some (r, h')) : Ct l yL_lock (.codeWith yL_lock cL_lock 4 (some .int) [(0, 14, 15, 15), (0, 14, 19, 19)] :: MW) G 8 155 [zr v0, .int v1, .int v2] h (some (.int r)) h' := by
  obtain ⟨hz0, hp⟩ := ck_i hp
  rw [show zr v0 = .ref (v0 - 1) from zr_p hz0]
  refine Ct.ofH (by decide +kernel) (Nat.le_of_ble_eq_true rfl) ?_
  intro p e s m args below meth c C htb hR ls hl
  have hl : zl ls 4 [(0, zr v0), (1, .int v1), (2, .int v2)] := ⟨by rw [zr_p hz0]; exact hl, by simp [zr_cat, in_cat]⟩
  exact s_L_lock_0 hfl htb C hR (fun _ hq => nomatch hq) hl hp
/-! CursorKeepLaw.save(LCursorKeep;III)I -/
def p_L_save_0  (v0 : Nat) (v1 : Int32) (v2 : Int32) (v3 : Int32) (h : AH) : Option (Int32 × AH) :=
  ck (aK h v0 = 12) <|
  bC (p_X10_save v0 v1 v2 v3 h) (fun r2 h3 =>
    some (r2, h3))
  (fun e4 h3 =>
    if e4 = 1 then
      some ((iI (-101)), h3)
    else
      if e4 = 2 then
        some ((iI (-102)), h3)
      else
        if e4 = 3 then
          some ((iI (-103)), h3)
        else
          none)
set_option maxHeartbeats 4000000 in
set_option maxRecDepth 100000 in
theorem s_L_save_0 {p : Program} {l : Launch} {e : Env} {s : State} {m : MethodId} {args : Array Value} {below : List Frame} {meth : Method} {c : Code} {G : GG} {hs : AH} {r : Int32} {h' : AH} (hfl : l.stackTraces = false) (htb : c.exceptionTable.toList = tableOf [(0, 7, 8, 15), (0, 7, 13, 17), (0, 7, 18, 19)]) (C : Cx G hs p s m args meth c cL_save 5 RL (.codeWith yL_save cL_save 5 (some .int) [(0, 7, 8, 15), (0, 7, 13, 17), (0, 7, 18, 19)] :: MW) (some .int) "save")   {v0 : Nat} {v1 : Int32} {v2 : Int32} {v3 : Int32} {h : AH} {H : Heap} {locs : List Loc} {cells slots : Nat} {ls : Array Slot} (hR : Rp G h H) (hL : ∀ q ∈ locs, gB G ≤ q.base) (hl : zl ls 5 [(0, zr v0), (1, .int v1), (2, .int v2), (3, .int v3)]) (hp : p_L_save_0  v0 v1 v2 v3 h = some (r, h')) : W p l e (gR G hs 8 197) s m args below meth c H locs cells slots (MQ below (Qcc G (some (.int r)) h') args s (gC G - aZ hs) (gS - aU hs) (fun q => gB G ≤ q)) (F0 m 0 ls []) := by
  obtain ⟨hx, hb, hml, hown, hts, hT, hK, rs, hlk, hret, hnm⟩ := id C
  have hm : ∀ w ∈ MW, w.before args s = true := fun w hw => hts w (hT w hw)
  unfold p_L_save_0 at hp
  refine z_aload_n hx hb dL_save_0 rfl (zl_at hl 0 rfl) ?_
  refine lv_iload_n hx hb dL_save_1 rfl (zl_at hl 1 rfl) ?_
  refine lv_iload_n hx hb dL_save_2 rfl (zl_at hl 2 rfl) ?_
  refine lv_iload_n hx hb dL_save_3 rfl (zl_at hl 3 rfl) ?_
  obtain ⟨k1, hp⟩ := ck_i hp
  rcases bC_i hp with ⟨r2, h3, er2, hp⟩ | ⟨e4, h3, er2, hp⟩
  · refine r_runVX (ci := 11) (r := (RX10, TX10, 7)) (n := 3) (As := [.int v1, .int v2, .int v3]) (rest := []) C (c_X10_save l hfl G v0 v1 v2 v3 h (.ok r2) h3 er2) hR rfl k1 mw_915 mw_916 mw_917 mw_1 mw_918 (by decide +kernel) (by decide) rfl (zl_size hl) rfl (by simp [zr_cat, in_cat]) dL_save_4 (fun cells slots hr => ?_)
    refine r_okRun hR hL hr (fun H locs cells slots hR hL => ?_)
    refine W.eq (g2 := F0 m 7 ls [.int r2]) rfl ?_
    cases hp
    exact r_zret C hR hL rfl dL_save_7
  · refine r_runVX (ci := 11) (r := (RX10, TX10, 7)) (n := 3) (As := [.int v1, .int v2, .int v3]) (rest := []) C (c_X10_save l hfl G v0 v1 v2 v3 h (.error e4) h3 er2) hR rfl k1 mw_915 mw_916 mw_917 mw_1 mw_918 (by decide +kernel) (by decide) rfl (zl_size hl) rfl (by simp [zr_cat, in_cat]) dL_save_4 (fun cells slots hr => ?_)
    refine r_exRun hR hL hr (fun q9 ce H locs cells slots hR hL hce hcv hcl => ?_)
    by_cases c5 : e4 = 1
    · subst c5
      replace hp := ite_p hp rfl
      refine r_catch (e0 := 1) (name := "java/lang/IndexOutOfBoundsException") hown hK [] ⟨0, 7, 8, 15⟩ [⟨0, 7, 13, 17⟩, ⟨0, 7, 18, 19⟩] (htb.trans rfl) (fun _ hz => nomatch hz) (by decide) (by decide) (hm _ mw_303) (KW_t 316 (by decide +kernel) (by decide +kernel)) hce hcv hcl ?_
      refine z_astore (lv' := [(4, zr (q9 + 1)), (0, zr v0), (1, .int v1), (2, .int v2), (3, .int v3)]) hx hb dL_save_8 hl (by decide) rfl (fun ls hl => ?_)
      refine lv_bipush (v := iI (-101)) hx hb dL_save_10 (by decide +kernel) ?_
      cases hp
      exact r_zret C hR hL rfl dL_save_12
    replace hp := ite_n hp c5
    by_cases c6 : e4 = 2
    · subst c6
      replace hp := ite_p hp rfl
      refine r_catch (e0 := 2) (name := "java/lang/IllegalArgumentException") hown hK [⟨0, 7, 8, 15⟩] ⟨0, 7, 13, 17⟩ [⟨0, 7, 18, 19⟩] (htb.trans rfl) (fun z hz => by rw [List.mem_singleton.mp hz]; exact ⟨by decide, _, hm _ mw_303, by decide +kernel⟩) (by decide) (by decide) (hm _ mw_304) (KW_t 392 (by decide +kernel) (by decide +kernel)) hce hcv hcl ?_
      refine z_astore (lv' := [(4, zr (q9 + 1)), (0, zr v0), (1, .int v1), (2, .int v2), (3, .int v3)]) hx hb dL_save_13 hl (by decide) rfl (fun ls hl => ?_)
      refine lv_bipush (v := iI (-102)) hx hb dL_save_15 (by decide +kernel) ?_
      cases hp
      exact r_zret C hR hL rfl dL_save_17
    replace hp := ite_n hp c6
    by_cases c7 : e4 = 3
    · subst c7
      replace hp := ite_p hp rfl
      refine r_catch (e0 := 3) (name := "java/lang/IllegalStateException") hown hK [⟨0, 7, 8, 15⟩, ⟨0, 7, 13, 17⟩] ⟨0, 7, 18, 19⟩ [] (htb.trans rfl) (fun z hz => (List.mem_cons.mp hz).elim (fun h9 => by rw [h9]; exact ⟨by decide, _, hm _ mw_303, by decide +kernel⟩) (fun h9 => by rw [List.mem_singleton.mp h9]; exact ⟨by decide, _, hm _ mw_304, by decide +kernel⟩)) (by decide) (by decide) (hm _ mw_305) (KW_t 412 (by decide +kernel) (by decide +kernel)) hce hcv hcl ?_
      refine z_astore (lv' := [(4, zr (q9 + 1)), (0, zr v0), (1, .int v1), (2, .int v2), (3, .int v3)]) hx hb dL_save_18 hl (by decide) rfl (fun ls hl => ?_)
      refine lv_bipush (v := iI (-103)) hx hb dL_save_20 (by decide +kernel) ?_
      cases hp
      exact r_zret C hR hL rfl dL_save_22
    replace hp := ite_n hp c7
    exact absurd hp (by simp)
def p_L_save (v0 : Nat) (v1 : Int32) (v2 : Int32) (v3 : Int32) (h : AH) : Option (Int32 × AH) := ck (v0 ≠ 0) <| p_L_save_0 v0 v1 v2 v3 h
theorem c_L_save (l : Launch) (hfl : l.stackTraces = false) (G : GG) (v0 : Nat) (v1 : Int32) (v2 : Int32) (v3 : Int32) (h : AH) (r : Int32) (h' : AH) (hp : p_L_save v0 v1 v2 v3 h = some (r, h')) : Ct l yL_save (.codeWith yL_save cL_save 5 (some .int) [(0, 7, 8, 15), (0, 7, 13, 17), (0, 7, 18, 19)] :: MW) G 8 197 [zr v0, .int v1, .int v2, .int v3] h (some (.int r)) h' := by
  obtain ⟨hz0, hp⟩ := ck_i hp
  rw [show zr v0 = .ref (v0 - 1) from zr_p hz0]
  refine Ct.ofH (by decide +kernel) (Nat.le_of_ble_eq_true rfl) ?_
  intro p e s m args below meth c C htb hR ls hl
  have hl : zl ls 5 [(0, zr v0), (1, .int v1), (2, .int v2), (3, .int v3)] := ⟨by rw [zr_p hz0]; exact hl, by simp [zr_cat, in_cat]⟩
  exact s_L_save_0 hfl htb C hR (fun _ hq => nomatch hq) hl hp
/-! CursorKeepLaw.savedVersion(LCursorKeep;I)I -/
def p_L_savedVersion_0  (v0 : Nat) (v1 : Int32) (h : AH) : Option (Int32 × AH) :=
  ck (aK h v0 = 12) <|
  bC (p_X10_savedVersion v0 v1 h) (fun r2 h3 =>
    some (r2, h3))
  (fun e4 h3 =>
    if e4 = 1 then
      some ((iI (-101)), h3)
    else
      none)
set_option maxHeartbeats 4000000 in
set_option maxRecDepth 100000 in
theorem s_L_savedVersion_0 {p : Program} {l : Launch} {e : Env} {s : State} {m : MethodId} {args : Array Value} {below : List Frame} {meth : Method} {c : Code} {G : GG} {hs : AH} {r : Int32} {h' : AH} (hfl : l.stackTraces = false) (htb : c.exceptionTable.toList = tableOf [(0, 5, 6, 15)]) (C : Cx G hs p s m args meth c cL_savedVersion 3 RL (.codeWith yL_savedVersion cL_savedVersion 3 (some .int) [(0, 5, 6, 15)] :: MW) (some .int) "savedVersion")   {v0 : Nat} {v1 : Int32} {h : AH} {H : Heap} {locs : List Loc} {cells slots : Nat} {ls : Array Slot} (hR : Rp G h H) (hL : ∀ q ∈ locs, gB G ≤ q.base) (hl : zl ls 3 [(0, zr v0), (1, .int v1)]) (hp : p_L_savedVersion_0  v0 v1 h = some (r, h')) : W p l e (gR G hs 8 153) s m args below meth c H locs cells slots (MQ below (Qcc G (some (.int r)) h') args s (gC G - aZ hs) (gS - aU hs) (fun q => gB G ≤ q)) (F0 m 0 ls []) := by
  obtain ⟨hx, hb, hml, hown, hts, hT, hK, rs, hlk, hret, hnm⟩ := id C
  have hm : ∀ w ∈ MW, w.before args s = true := fun w hw => hts w (hT w hw)
  unfold p_L_savedVersion_0 at hp
  refine z_aload_n hx hb dL_savedVersion_0 rfl (zl_at hl 0 rfl) ?_
  refine lv_iload_n hx hb dL_savedVersion_1 rfl (zl_at hl 1 rfl) ?_
  obtain ⟨k1, hp⟩ := ck_i hp
  rcases bC_i hp with ⟨r2, h3, er2, hp⟩ | ⟨e4, h3, er2, hp⟩
  · refine r_runVX (ci := 11) (r := (RX10, TX10, 7)) (n := 1) (As := [.int v1]) (rest := []) C (c_X10_savedVersion l hfl G v0 v1 h (.ok r2) h3 er2) hR rfl k1 mw_944 mw_945 mw_946 mw_1 mw_947 (by decide +kernel) (by decide) rfl (zl_size hl) rfl (by simp [zr_cat, in_cat]) dL_savedVersion_2 (fun cells slots hr => ?_)
    refine r_okRun hR hL hr (fun H locs cells slots hR hL => ?_)
    refine W.eq (g2 := F0 m 5 ls [.int r2]) rfl ?_
    cases hp
    exact r_zret C hR hL rfl dL_savedVersion_5
  · refine r_runVX (ci := 11) (r := (RX10, TX10, 7)) (n := 1) (As := [.int v1]) (rest := []) C (c_X10_savedVersion l hfl G v0 v1 h (.error e4) h3 er2) hR rfl k1 mw_944 mw_945 mw_946 mw_1 mw_947 (by decide +kernel) (by decide) rfl (zl_size hl) rfl (by simp [zr_cat, in_cat]) dL_savedVersion_2 (fun cells slots hr => ?_)
    refine r_exRun hR hL hr (fun q9 ce H locs cells slots hR hL hce hcv hcl => ?_)
    by_cases c5 : e4 = 1
    · subst c5
      replace hp := ite_p hp rfl
      refine r_catch (e0 := 1) (name := "java/lang/IndexOutOfBoundsException") hown hK [] ⟨0, 5, 6, 15⟩ [] (htb.trans rfl) (fun _ hz => nomatch hz) (by decide) (by decide) (hm _ mw_303) (KW_t 316 (by decide +kernel) (by decide +kernel)) hce hcv hcl ?_
      refine z_astore_n (lv' := [(2, zr (q9 + 1)), (0, zr v0), (1, .int v1)]) hx hb dL_savedVersion_6 rfl hl (by decide) rfl (fun ls hl => ?_)
      refine lv_bipush (v := iI (-101)) hx hb dL_savedVersion_7 (by decide +kernel) ?_
      cases hp
      exact r_zret C hR hL rfl dL_savedVersion_9
    replace hp := ite_n hp c5
    exact absurd hp (by simp)
def p_L_savedVersion (v0 : Nat) (v1 : Int32) (h : AH) : Option (Int32 × AH) := ck (v0 ≠ 0) <| p_L_savedVersion_0 v0 v1 h
theorem c_L_savedVersion (l : Launch) (hfl : l.stackTraces = false) (G : GG) (v0 : Nat) (v1 : Int32) (h : AH) (r : Int32) (h' : AH) (hp : p_L_savedVersion v0 v1 h = some (r, h')) : Ct l yL_savedVersion (.codeWith yL_savedVersion cL_savedVersion 3 (some .int) [(0, 5, 6, 15)] :: MW) G 8 153 [zr v0, .int v1] h (some (.int r)) h' := by
  obtain ⟨hz0, hp⟩ := ck_i hp
  rw [show zr v0 = .ref (v0 - 1) from zr_p hz0]
  refine Ct.ofH (by decide +kernel) (Nat.le_of_ble_eq_true rfl) ?_
  intro p e s m args below meth c C htb hR ls hl
  have hl : zl ls 3 [(0, zr v0), (1, .int v1)] := ⟨by rw [zr_p hz0]; exact hl, by simp [zr_cat, in_cat]⟩
  exact s_L_savedVersion_0 hfl htb C hR (fun _ hq => nomatch hq) hl hp
/-! CursorKeepLaw.savedLength(LCursorKeep;I)I -/
def p_L_savedLength_0  (v0 : Nat) (v1 : Int32) (h : AH) : Option (Int32 × AH) :=
  ck (aK h v0 = 12) <|
  bC (p_X10_savedLength v0 v1 h) (fun r2 h3 =>
    some (r2, h3))
  (fun e4 h3 =>
    if e4 = 1 then
      some ((iI (-101)), h3)
    else
      none)
set_option maxHeartbeats 4000000 in
set_option maxRecDepth 100000 in
theorem s_L_savedLength_0 {p : Program} {l : Launch} {e : Env} {s : State} {m : MethodId} {args : Array Value} {below : List Frame} {meth : Method} {c : Code} {G : GG} {hs : AH} {r : Int32} {h' : AH} (hfl : l.stackTraces = false) (htb : c.exceptionTable.toList = tableOf [(0, 5, 6, 15)]) (C : Cx G hs p s m args meth c cL_savedLength 3 RL (.codeWith yL_savedLength cL_savedLength 3 (some .int) [(0, 5, 6, 15)] :: MW) (some .int) "savedLength")   {v0 : Nat} {v1 : Int32} {h : AH} {H : Heap} {locs : List Loc} {cells slots : Nat} {ls : Array Slot} (hR : Rp G h H) (hL : ∀ q ∈ locs, gB G ≤ q.base) (hl : zl ls 3 [(0, zr v0), (1, .int v1)]) (hp : p_L_savedLength_0  v0 v1 h = some (r, h')) : W p l e (gR G hs 8 153) s m args below meth c H locs cells slots (MQ below (Qcc G (some (.int r)) h') args s (gC G - aZ hs) (gS - aU hs) (fun q => gB G ≤ q)) (F0 m 0 ls []) := by
  obtain ⟨hx, hb, hml, hown, hts, hT, hK, rs, hlk, hret, hnm⟩ := id C
  have hm : ∀ w ∈ MW, w.before args s = true := fun w hw => hts w (hT w hw)
  unfold p_L_savedLength_0 at hp
  refine z_aload_n hx hb dL_savedLength_0 rfl (zl_at hl 0 rfl) ?_
  refine lv_iload_n hx hb dL_savedLength_1 rfl (zl_at hl 1 rfl) ?_
  obtain ⟨k1, hp⟩ := ck_i hp
  rcases bC_i hp with ⟨r2, h3, er2, hp⟩ | ⟨e4, h3, er2, hp⟩
  · refine r_runVX (ci := 11) (r := (RX10, TX10, 7)) (n := 1) (As := [.int v1]) (rest := []) C (c_X10_savedLength l hfl G v0 v1 h (.ok r2) h3 er2) hR rfl k1 mw_951 mw_952 mw_953 mw_1 mw_954 (by decide +kernel) (by decide) rfl (zl_size hl) rfl (by simp [zr_cat, in_cat]) dL_savedLength_2 (fun cells slots hr => ?_)
    refine r_okRun hR hL hr (fun H locs cells slots hR hL => ?_)
    refine W.eq (g2 := F0 m 5 ls [.int r2]) rfl ?_
    cases hp
    exact r_zret C hR hL rfl dL_savedLength_5
  · refine r_runVX (ci := 11) (r := (RX10, TX10, 7)) (n := 1) (As := [.int v1]) (rest := []) C (c_X10_savedLength l hfl G v0 v1 h (.error e4) h3 er2) hR rfl k1 mw_951 mw_952 mw_953 mw_1 mw_954 (by decide +kernel) (by decide) rfl (zl_size hl) rfl (by simp [zr_cat, in_cat]) dL_savedLength_2 (fun cells slots hr => ?_)
    refine r_exRun hR hL hr (fun q9 ce H locs cells slots hR hL hce hcv hcl => ?_)
    by_cases c5 : e4 = 1
    · subst c5
      replace hp := ite_p hp rfl
      refine r_catch (e0 := 1) (name := "java/lang/IndexOutOfBoundsException") hown hK [] ⟨0, 5, 6, 15⟩ [] (htb.trans rfl) (fun _ hz => nomatch hz) (by decide) (by decide) (hm _ mw_303) (KW_t 316 (by decide +kernel) (by decide +kernel)) hce hcv hcl ?_
      refine z_astore_n (lv' := [(2, zr (q9 + 1)), (0, zr v0), (1, .int v1)]) hx hb dL_savedLength_6 rfl hl (by decide) rfl (fun ls hl => ?_)
      refine lv_bipush (v := iI (-101)) hx hb dL_savedLength_7 (by decide +kernel) ?_
      cases hp
      exact r_zret C hR hL rfl dL_savedLength_9
    replace hp := ite_n hp c5
    exact absurd hp (by simp)
def p_L_savedLength (v0 : Nat) (v1 : Int32) (h : AH) : Option (Int32 × AH) := ck (v0 ≠ 0) <| p_L_savedLength_0 v0 v1 h
theorem c_L_savedLength (l : Launch) (hfl : l.stackTraces = false) (G : GG) (v0 : Nat) (v1 : Int32) (h : AH) (r : Int32) (h' : AH) (hp : p_L_savedLength v0 v1 h = some (r, h')) : Ct l yL_savedLength (.codeWith yL_savedLength cL_savedLength 3 (some .int) [(0, 5, 6, 15)] :: MW) G 8 153 [zr v0, .int v1] h (some (.int r)) h' := by
  obtain ⟨hz0, hp⟩ := ck_i hp
  rw [show zr v0 = .ref (v0 - 1) from zr_p hz0]
  refine Ct.ofH (by decide +kernel) (Nat.le_of_ble_eq_true rfl) ?_
  intro p e s m args below meth c C htb hR ls hl
  have hl : zl ls 3 [(0, zr v0), (1, .int v1)] := ⟨by rw [zr_p hz0]; exact hl, by simp [zr_cat, in_cat]⟩
  exact s_L_savedLength_0 hfl htb C hR (fun _ hq => nomatch hq) hl hp
/-! CursorKeepLaw.savedLetter(LCursorKeep;II)I -/
def p_L_savedLetter_0  (v0 : Nat) (v1 : Int32) (v2 : Int32) (h : AH) : Option (Int32 × AH) :=
  ck (aK h v0 = 12) <|
  bC (p_X10_savedLetter v0 v1 v2 h) (fun r2 h3 =>
    some (r2, h3))
  (fun e4 h3 =>
    if e4 = 1 then
      some ((iI (-101)), h3)
    else
      none)
set_option maxHeartbeats 4000000 in
set_option maxRecDepth 100000 in
theorem s_L_savedLetter_0 {p : Program} {l : Launch} {e : Env} {s : State} {m : MethodId} {args : Array Value} {below : List Frame} {meth : Method} {c : Code} {G : GG} {hs : AH} {r : Int32} {h' : AH} (hfl : l.stackTraces = false) (htb : c.exceptionTable.toList = tableOf [(0, 6, 7, 15)]) (C : Cx G hs p s m args meth c cL_savedLetter 4 RL (.codeWith yL_savedLetter cL_savedLetter 4 (some .int) [(0, 6, 7, 15)] :: MW) (some .int) "savedLetter")   {v0 : Nat} {v1 : Int32} {v2 : Int32} {h : AH} {H : Heap} {locs : List Loc} {cells slots : Nat} {ls : Array Slot} (hR : Rp G h H) (hL : ∀ q ∈ locs, gB G ≤ q.base) (hl : zl ls 4 [(0, zr v0), (1, .int v1), (2, .int v2)]) (hp : p_L_savedLetter_0  v0 v1 v2 h = some (r, h')) : W p l e (gR G hs 8 155) s m args below meth c H locs cells slots (MQ below (Qcc G (some (.int r)) h') args s (gC G - aZ hs) (gS - aU hs) (fun q => gB G ≤ q)) (F0 m 0 ls []) := by
  obtain ⟨hx, hb, hml, hown, hts, hT, hK, rs, hlk, hret, hnm⟩ := id C
  have hm : ∀ w ∈ MW, w.before args s = true := fun w hw => hts w (hT w hw)
  unfold p_L_savedLetter_0 at hp
  refine z_aload_n hx hb dL_savedLetter_0 rfl (zl_at hl 0 rfl) ?_
  refine lv_iload_n hx hb dL_savedLetter_1 rfl (zl_at hl 1 rfl) ?_
  refine lv_iload_n hx hb dL_savedLetter_2 rfl (zl_at hl 2 rfl) ?_
  obtain ⟨k1, hp⟩ := ck_i hp
  rcases bC_i hp with ⟨r2, h3, er2, hp⟩ | ⟨e4, h3, er2, hp⟩
  · refine r_runVX (ci := 11) (r := (RX10, TX10, 7)) (n := 2) (As := [.int v1, .int v2]) (rest := []) C (c_X10_savedLetter l hfl G v0 v1 v2 h (.ok r2) h3 er2) hR rfl k1 mw_958 mw_959 mw_960 mw_1 mw_961 (by decide +kernel) (by decide) rfl (zl_size hl) rfl (by simp [zr_cat, in_cat]) dL_savedLetter_3 (fun cells slots hr => ?_)
    refine r_okRun hR hL hr (fun H locs cells slots hR hL => ?_)
    refine W.eq (g2 := F0 m 6 ls [.int r2]) rfl ?_
    cases hp
    exact r_zret C hR hL rfl dL_savedLetter_6
  · refine r_runVX (ci := 11) (r := (RX10, TX10, 7)) (n := 2) (As := [.int v1, .int v2]) (rest := []) C (c_X10_savedLetter l hfl G v0 v1 v2 h (.error e4) h3 er2) hR rfl k1 mw_958 mw_959 mw_960 mw_1 mw_961 (by decide +kernel) (by decide) rfl (zl_size hl) rfl (by simp [zr_cat, in_cat]) dL_savedLetter_3 (fun cells slots hr => ?_)
    refine r_exRun hR hL hr (fun q9 ce H locs cells slots hR hL hce hcv hcl => ?_)
    by_cases c5 : e4 = 1
    · subst c5
      replace hp := ite_p hp rfl
      refine r_catch (e0 := 1) (name := "java/lang/IndexOutOfBoundsException") hown hK [] ⟨0, 6, 7, 15⟩ [] (htb.trans rfl) (fun _ hz => nomatch hz) (by decide) (by decide) (hm _ mw_303) (KW_t 316 (by decide +kernel) (by decide +kernel)) hce hcv hcl ?_
      refine z_astore_n (lv' := [(3, zr (q9 + 1)), (0, zr v0), (1, .int v1), (2, .int v2)]) hx hb dL_savedLetter_7 rfl hl (by decide) rfl (fun ls hl => ?_)
      refine lv_bipush (v := iI (-101)) hx hb dL_savedLetter_8 (by decide +kernel) ?_
      cases hp
      exact r_zret C hR hL rfl dL_savedLetter_10
    replace hp := ite_n hp c5
    exact absurd hp (by simp)
def p_L_savedLetter (v0 : Nat) (v1 : Int32) (v2 : Int32) (h : AH) : Option (Int32 × AH) := ck (v0 ≠ 0) <| p_L_savedLetter_0 v0 v1 v2 h
theorem c_L_savedLetter (l : Launch) (hfl : l.stackTraces = false) (G : GG) (v0 : Nat) (v1 : Int32) (v2 : Int32) (h : AH) (r : Int32) (h' : AH) (hp : p_L_savedLetter v0 v1 v2 h = some (r, h')) : Ct l yL_savedLetter (.codeWith yL_savedLetter cL_savedLetter 4 (some .int) [(0, 6, 7, 15)] :: MW) G 8 155 [zr v0, .int v1, .int v2] h (some (.int r)) h' := by
  obtain ⟨hz0, hp⟩ := ck_i hp
  rw [show zr v0 = .ref (v0 - 1) from zr_p hz0]
  refine Ct.ofH (by decide +kernel) (Nat.le_of_ble_eq_true rfl) ?_
  intro p e s m args below meth c C htb hR ls hl
  have hl : zl ls 4 [(0, zr v0), (1, .int v1), (2, .int v2)] := ⟨by rw [zr_p hz0]; exact hl, by simp [zr_cat, in_cat]⟩
  exact s_L_savedLetter_0 hfl htb C hR (fun _ hq => nomatch hq) hl hp
/-! CursorKeepLaw.looks(LCursorKeep;I)J -/
def p_L_looks_53 (k12 : Nat → Int32 → Int32 → Int64 → Int32 → AH → Option (Int64 × AH)) (v0 : Nat) (v1 : Int32) (v2 : Int32) (v5 : Int32) (s0 : Int64) (h : AH) : Option (Int64 × AH) :=
  nm (v5 + iI 1) fun (x1 : Int32) =>
  k12 v0 v1 v2 s0 x1 h
set_option maxHeartbeats 4000000 in
set_option maxRecDepth 100000 in
theorem s_L_looks_53 {p : Program} {l : Launch} {e : Env} {s : State} {m : MethodId} {args : Array Value} {below : List Frame} {meth : Method} {c : Code} {G : GG} {hs : AH} {r : Int64} {h' : AH} (hfl : l.stackTraces = false) (C : Cx G hs p s m args meth c cL_looks 7 RL (.code yL_looks cL_looks 7 (some .long) :: MW) (some .long) "looks") {k12 : Nat → Int32 → Int32 → Int64 → Int32 → AH → Option (Int64 × AH)} (hk12 : ∀ {v0 : Nat} {v1 : Int32} {v2 : Int32} {v3 : Int64} {v5 : Int32} {h : AH} {H : Heap} {locs : List Loc} {cells slots : Nat} {ls : Array Slot}, Rp G h H → (∀ q ∈ locs, gB G ≤ q.base) → zm ls 7 [(0, zr v0), (1, .int v1), (2, .int v2), (3, .long v3), (5, .int v5)] → k12 v0 v1 v2 v3 v5 h = some (r, h') → W p l e (gR G hs 9 177) s m args below meth c H locs cells slots (MQ below (Qcc G (some (.long r)) h') args s (gC G - aZ hs) (gS - aU hs) (fun q => gB G ≤ q)) (F0 m 12 ls [])) {v0 : Nat} {v1 : Int32} {v2 : Int32} {v5 : Int32} {s0 : Int64} {h : AH} {H : Heap} {locs : List Loc} {cells slots : Nat} {ls : Array Slot} (hR : Rp G h H) (hL : ∀ q ∈ locs, gB G ≤ q.base) (hl : zm ls 7 [(0, zr v0), (1, .int v1), (2, .int v2), (5, .int v5)]) (hp : p_L_looks_53 k12 v0 v1 v2 v5 s0 h = some (r, h')) : W p l e (gR G hs 9 177) s m args below meth c H locs cells slots (MQ below (Qcc G (some (.long r)) h') args s (gC G - aZ hs) (gS - aU hs) (fun q => gB G ≤ q)) (F0 m 53 ls [.long s0]) := by
  obtain ⟨hx, hb, hml, hown, hts, hT, hK, rs, hlk, hret, hnm⟩ := id C
  have hm : ∀ w ∈ MW, w.before args s = true := fun w hw => hts w (hT w hw)
  unfold p_L_looks_53 at hp
  refine zm_lstore_n (lv' := [(3, .long s0), (0, zr v0), (1, .int v1), (2, .int v2), (5, .int v5)]) hx hb dL_looks_53 rfl hl (by decide) (by repeat (first | exact noL_nil _ | refine noL_i ?_ | refine noL_z ?_ | refine noL_r ?_ | refine noL_c (by decide) ?_)) rfl (fun ls hl => ?_)
  obtain ⟨x1, ex1⟩ : ∃ y : Int32, y = v5 + iI 1 := ⟨_, rfl⟩
  replace hp := nm_i hp ex1
  refine zm_iinc (v := x1) (lv' := [(5, .int x1), (3, .long s0), (0, zr v0), (1, .int v1), (2, .int v2)]) hx hb dL_looks_54 hl (k := 4) rfl ex1 (by decide) (by repeat (first | exact noL_nil _ | refine noL_i ?_ | refine noL_z ?_ | refine noL_r ?_ | refine noL_c (by decide) ?_)) rfl (fun ls hl => ?_)
  refine lv_goto (tgt := 12) hx hb dL_looks_57 (by decide) ?_
  exact hk12 hR hL (zm_sub hl [2, 3, 4, 1, 0] rfl) hp
def p_L_looks_12  : Nat → Nat → Int32 → Int32 → Int64 → Int32 → AH → Option (Int64 × AH)
  | 0, _, _, _, _, _, _ => none
  | n + 1, v0, v1, v2, v3, v5, h =>
    if v2 ≤ v5 then
      some (v3, h)
    else
      bR (p_L_letter v0 v1 v5 h) fun r2 h3 =>
      if (iI 32) ≤ r2 then
        p_L_looks_53 (p_L_looks_12  n) v0 v1 v2 v5 (((v3 * (131 : Int64)) + (r2).toInt64) - ((v3 * (131 : Int64)) + (r2).toInt64) / (1000000007 : Int64) * (1000000007 : Int64)) h3
      else
        p_L_looks_53 (p_L_looks_12  n) v0 v1 v2 v5 (-1 : Int64) h3
set_option maxHeartbeats 4000000 in
set_option maxRecDepth 100000 in
theorem s_L_looks_12 {p : Program} {l : Launch} {e : Env} {s : State} {m : MethodId} {args : Array Value} {below : List Frame} {meth : Method} {c : Code} {G : GG} {hs : AH} {r : Int64} {h' : AH} (hfl : l.stackTraces = false) (C : Cx G hs p s m args meth c cL_looks 7 RL (.code yL_looks cL_looks 7 (some .long) :: MW) (some .long) "looks")   : ∀ (n : Nat) (v0 : Nat) (v1 : Int32) (v2 : Int32) (v3 : Int64) (v5 : Int32) (h : AH) (H : Heap) (locs : List Loc) (cells slots : Nat) (ls : Array Slot) (hR : Rp G h H) (hL : ∀ q ∈ locs, gB G ≤ q.base) (hl : zm ls 7 [(0, zr v0), (1, .int v1), (2, .int v2), (3, .long v3), (5, .int v5)]) (hp : p_L_looks_12  n v0 v1 v2 v3 v5 h = some (r, h')), W p l e (gR G hs 9 177) s m args below meth c H locs cells slots (MQ below (Qcc G (some (.long r)) h') args s (gC G - aZ hs) (gS - aU hs) (fun q => gB G ≤ q)) (F0 m 12 ls []) := by
  obtain ⟨hx, hb, hml, hown, hts, hT, hK, rs, hlk, hret, hnm⟩ := id C
  have hm : ∀ w ∈ MW, w.before args s = true := fun w hw => hts w (hT w hw)
  intro n
  induction n with
  | zero =>
    intro v0 v1 v2 v3 v5 h H locs cells slots ls hR hL hl hp
    exact absurd (show none = some (r, h') from hp) (by simp)
  | succ n ih =>
    intro v0 v1 v2 v3 v5 h H locs cells slots ls hR hL hl hp
    rw [p_L_looks_12.eq_2] at hp
    refine lv_iload hx hb dL_looks_12 (zm_at hl 4 rfl) ?_
    refine lv_iload_n hx hb dL_looks_14 rfl (zm_at hl 2 rfl) ?_
    refine lv_icmp_ge (tgt := 60) hx hb dL_looks_15 (by decide) (fun c1 => ?_) (fun c1 => ?_)
    · replace hp := ite_p hp c1
      refine lv_lload_n hx hb dL_looks_60 rfl (zm_at hl 3 rfl) ?_
      cases hp
      exact r_lret C hR hL dL_looks_61
    · replace hp := ite_n hp c1
      refine z_aload_n hx hb dL_looks_18 rfl (zm_at hl 0 rfl) ?_
      refine lv_iload_n hx hb dL_looks_19 rfl (zm_at hl 1 rfl) ?_
      refine lv_iload hx hb dL_looks_20 (zm_at hl 4 rfl) ?_
      obtain ⟨r2, h3, er2, hp⟩ := bR_i hp
      refine r_callSH (n := 3) (As := [zr v0, .int v1, .int v5]) (rest := []) C (c_L_letter l hfl G v0 v1 v5 h r2 h3 er2) hR hL mw_672 mw_673 mw_0 mw_674 (by decide +kernel) (by decide) rfl (zm_size hl) rfl (by simp [zr_cat, in_cat, lo_cat, re_cat]) dL_looks_22 (st2 := [.int r2]) rfl (fun H locs cells slots hR hL => ?_)
      refine zm_istore (lv' := [(6, .int r2), (0, zr v0), (1, .int v1), (2, .int v2), (3, .long v3), (5, .int v5)]) hx hb dL_looks_25 hl (by decide) (by repeat (first | exact noL_nil _ | refine noL_i ?_ | refine noL_z ?_ | refine noL_r ?_ | refine noL_c (by decide) ?_)) rfl (fun ls hl => ?_)
      refine lv_iload hx hb dL_looks_27 (zm_at hl 0 rfl) ?_
      refine lv_bipush (v := iI 32) hx hb dL_looks_29 (by decide +kernel) ?_
      refine lv_icmp_ge (tgt := 40) hx hb dL_looks_31 (by decide) (fun c4 => ?_) (fun c4 => ?_)
      · replace hp := ite_p hp c4
        refine lv_lload_n hx hb dL_looks_40 rfl (zm_at hl 4 rfl) ?_
        refine lv_ldc2 (v := 131) hx hb hown (hm _ mw_966) dL_looks_41 ?_
        refine lv_lmul hx hb dL_looks_44 ?_
        refine lv_iload hx hb dL_looks_45 (zm_at hl 0 rfl) ?_
        refine lv_i2l (v := (r2).toInt64) hx hb dL_looks_47 rfl ?_
        refine lv_ladd hx hb dL_looks_48 ?_
        refine lv_ldc2 (v := 1000000007) hx hb hown (hm _ mw_967) dL_looks_49 ?_
        refine lv_lrem hx hb dL_looks_52 (by decide +kernel) ?_
        exact s_L_looks_53 hfl C (fun hR hL hl hp => ih _ _ _ _ _ _ _ _ _ _ _ hR hL hl hp) hR hL (zm_sub hl [1, 2, 3, 5] rfl) hp
      · replace hp := ite_n hp c4
        refine lv_ldc2 (v := -1) hx hb hown (hm _ mw_965) dL_looks_34 ?_
        refine lv_goto (tgt := 53) hx hb dL_looks_37 (by decide) ?_
        exact s_L_looks_53 hfl C (fun hR hL hl hp => ih _ _ _ _ _ _ _ _ _ _ _ hR hL hl hp) hR hL (zm_sub hl [1, 2, 3, 5] rfl) hp
def p_L_looks_0  (v0 : Nat) (v1 : Int32) (h : AH) : Option (Int64 × AH) :=
  bR (p_L_length v0 v1 h) fun r1 h2 =>
  nm ((r1).toInt64) fun (x3 : Int64) =>
  nm ((iI 0)) fun (x4 : Int32) =>
  p_L_looks_12  FU v0 v1 r1 x3 x4 h2
set_option maxHeartbeats 4000000 in
set_option maxRecDepth 100000 in
theorem s_L_looks_0 {p : Program} {l : Launch} {e : Env} {s : State} {m : MethodId} {args : Array Value} {below : List Frame} {meth : Method} {c : Code} {G : GG} {hs : AH} {r : Int64} {h' : AH} (hfl : l.stackTraces = false) (C : Cx G hs p s m args meth c cL_looks 7 RL (.code yL_looks cL_looks 7 (some .long) :: MW) (some .long) "looks")   {v0 : Nat} {v1 : Int32} {h : AH} {H : Heap} {locs : List Loc} {cells slots : Nat} {ls : Array Slot} (hR : Rp G h H) (hL : ∀ q ∈ locs, gB G ≤ q.base) (hl : zm ls 7 [(0, zr v0), (1, .int v1)]) (hp : p_L_looks_0  v0 v1 h = some (r, h')) : W p l e (gR G hs 9 177) s m args below meth c H locs cells slots (MQ below (Qcc G (some (.long r)) h') args s (gC G - aZ hs) (gS - aU hs) (fun q => gB G ≤ q)) (F0 m 0 ls []) := by
  obtain ⟨hx, hb, hml, hown, hts, hT, hK, rs, hlk, hret, hnm⟩ := id C
  have hm : ∀ w ∈ MW, w.before args s = true := fun w hw => hts w (hT w hw)
  unfold p_L_looks_0 at hp
  refine z_aload_n hx hb dL_looks_0 rfl (zm_at hl 0 rfl) ?_
  refine lv_iload_n hx hb dL_looks_1 rfl (zm_at hl 1 rfl) ?_
  obtain ⟨r1, h2, er1, hp⟩ := bR_i hp
  refine r_callSH (n := 2) (As := [zr v0, .int v1]) (rest := []) C (c_L_length l hfl G v0 v1 h r1 h2 er1) hR hL mw_665 mw_666 mw_0 mw_667 (by decide +kernel) (by decide) rfl (zm_size hl) rfl (by simp [zr_cat, in_cat, lo_cat, re_cat]) dL_looks_2 (st2 := [.int r1]) rfl (fun H locs cells slots hR hL => ?_)
  refine zm_istore_n (lv' := [(2, .int r1), (0, zr v0), (1, .int v1)]) hx hb dL_looks_5 rfl hl (by decide) (by repeat (first | exact noL_nil _ | refine noL_i ?_ | refine noL_z ?_ | refine noL_r ?_ | refine noL_c (by decide) ?_)) rfl (fun ls hl => ?_)
  refine lv_iload_n hx hb dL_looks_6 rfl (zm_at hl 0 rfl) ?_
  refine lv_i2l (v := (r1).toInt64) hx hb dL_looks_7 rfl ?_
  refine lv_topl (fun x3 ex3 => ?_)
  replace hp := nm_i hp ex3
  refine zm_lstore_n (lv' := [(3, .long x3), (2, .int r1), (0, zr v0), (1, .int v1)]) hx hb dL_looks_8 rfl hl (by decide) (by repeat (first | exact noL_nil _ | refine noL_i ?_ | refine noL_z ?_ | refine noL_r ?_ | refine noL_c (by decide) ?_)) rfl (fun ls hl => ?_)
  refine lv_iconst (v := iI 0) hx hb dL_looks_9 rfl ?_
  refine lv_topi (fun x4 ex4 => ?_)
  replace hp := nm_i hp ex4
  refine zm_istore (lv' := [(5, .int x4), (3, .long x3), (2, .int r1), (0, zr v0), (1, .int v1)]) hx hb dL_looks_10 hl (by decide) (by repeat (first | exact noL_nil _ | refine noL_i ?_ | refine noL_z ?_ | refine noL_r ?_ | refine noL_c (by decide) ?_)) rfl (fun ls hl => ?_)
  exact s_L_looks_12 hfl C  _ _ _ _ _ _ _ _ _ _ _ _ hR hL (zm_sub hl [3, 4, 2, 1, 0] rfl) hp
def p_L_looks (v0 : Nat) (v1 : Int32) (h : AH) : Option (Int64 × AH) := ck (v0 ≠ 0) <| p_L_looks_0 v0 v1 h
theorem c_L_looks (l : Launch) (hfl : l.stackTraces = false) (G : GG) (v0 : Nat) (v1 : Int32) (h : AH) (r : Int64) (h' : AH) (hp : p_L_looks v0 v1 h = some (r, h')) : Ct l yL_looks (.code yL_looks cL_looks 7 (some .long) :: MW) G 9 177 [zr v0, .int v1] h (some (.long r)) h' := by
  obtain ⟨hz0, hp⟩ := ck_i hp
  rw [show zr v0 = .ref (v0 - 1) from zr_p hz0]
  refine Ct.of (by decide +kernel) (Nat.le_of_ble_eq_true rfl) ?_
  intro p e s m args below meth c C hR ls hl
  have hl : zm ls 7 [(0, zr v0), (1, .int v1)] := (by rw [zr_p hz0]; exact hl)
  exact s_L_looks_0 hfl C hR (fun _ hq => nomatch hq) hl hp
/-! CursorKeepLaw.fits(LCursorKeep;II)Z -/
def p_L_fits_84 (k51 : Nat → Int32 → Int32 → Int32 → Int32 → AH → Option (Int32 × AH)) (v0 : Nat) (v1 : Int32) (v3 : Int32) (v5 : Int32) (s0 : Int32) (h : AH) : Option (Int32 × AH) :=
  nm (v5 + iI 5) fun (x1 : Int32) =>
  k51 v0 v1 v3 s0 x1 h
set_option maxHeartbeats 4000000 in
set_option maxRecDepth 100000 in
theorem s_L_fits_84 {p : Program} {l : Launch} {e : Env} {s : State} {m : MethodId} {args : Array Value} {below : List Frame} {meth : Method} {c : Code} {G : GG} {hs : AH} {r : Int32} {h' : AH} (hfl : l.stackTraces = false) (C : Cx G hs p s m args meth c cL_fits 7 RL (.code yL_fits cL_fits 7 (some .boolean) :: MW) (some .boolean) "fits") {k51 : Nat → Int32 → Int32 → Int32 → Int32 → AH → Option (Int32 × AH)} (hk51 : ∀ {v0 : Nat} {v1 : Int32} {v3 : Int32} {v4 : Int32} {v5 : Int32} {h : AH} {H : Heap} {locs : List Loc} {cells slots : Nat} {ls : Array Slot}, Rp G h H → (∀ q ∈ locs, gB G ≤ q.base) → zl ls 7 [(0, zr v0), (1, .int v1), (3, .int v3), (4, .int v4), (5, .int v5)] → k51 v0 v1 v3 v4 v5 h = some (r, h') → W p l e (gR G hs 9 177) s m args below meth c H locs cells slots (MQ below (Qcc G (some (.int r)) h') args s (gC G - aZ hs) (gS - aU hs) (fun q => gB G ≤ q)) (F0 m 51 ls [])) {v0 : Nat} {v1 : Int32} {v3 : Int32} {v5 : Int32} {s0 : Int32} {h : AH} {H : Heap} {locs : List Loc} {cells slots : Nat} {ls : Array Slot} (hR : Rp G h H) (hL : ∀ q ∈ locs, gB G ≤ q.base) (hl : zl ls 7 [(0, zr v0), (1, .int v1), (3, .int v3), (5, .int v5)]) (hp : p_L_fits_84 k51 v0 v1 v3 v5 s0 h = some (r, h')) : W p l e (gR G hs 9 177) s m args below meth c H locs cells slots (MQ below (Qcc G (some (.int r)) h') args s (gC G - aZ hs) (gS - aU hs) (fun q => gB G ≤ q)) (F0 m 84 ls [.int s0]) := by
  obtain ⟨hx, hb, hml, hown, hts, hT, hK, rs, hlk, hret, hnm⟩ := id C
  have hm : ∀ w ∈ MW, w.before args s = true := fun w hw => hts w (hT w hw)
  unfold p_L_fits_84 at hp
  refine z_istore (lv' := [(4, .int s0), (0, zr v0), (1, .int v1), (3, .int v3), (5, .int v5)]) hx hb dL_fits_84 hl (by decide) rfl (fun ls hl => ?_)
  obtain ⟨x1, ex1⟩ : ∃ y : Int32, y = v5 + iI 5 := ⟨_, rfl⟩
  replace hp := nm_i hp ex1
  refine z_iinc (v := x1) (lv' := [(5, .int x1), (4, .int s0), (0, zr v0), (1, .int v1), (3, .int v3)]) hx hb dL_fits_86 hl (k := 4) rfl ex1 (by decide) rfl (fun ls hl => ?_)
  refine lv_goto (tgt := 51) hx hb dL_fits_89 (by decide) ?_
  exact hk51 hR hL (zl_sub hl [2, 3, 4, 1, 0] rfl) hp
def p_L_fits_131 (k95 : Nat → Int32 → Int32 → Int32 → Int32 → AH → Option (Int32 × AH)) (v0 : Nat) (v1 : Int32) (v3 : Int32) (v5 : Int32) (s0 : Int32) (h : AH) : Option (Int32 × AH) :=
  nm (v5 + iI 1) fun (x1 : Int32) =>
  k95 v0 v1 v3 s0 x1 h
set_option maxHeartbeats 4000000 in
set_option maxRecDepth 100000 in
theorem s_L_fits_131 {p : Program} {l : Launch} {e : Env} {s : State} {m : MethodId} {args : Array Value} {below : List Frame} {meth : Method} {c : Code} {G : GG} {hs : AH} {r : Int32} {h' : AH} (hfl : l.stackTraces = false) (C : Cx G hs p s m args meth c cL_fits 7 RL (.code yL_fits cL_fits 7 (some .boolean) :: MW) (some .boolean) "fits") {k95 : Nat → Int32 → Int32 → Int32 → Int32 → AH → Option (Int32 × AH)} (hk95 : ∀ {v0 : Nat} {v1 : Int32} {v3 : Int32} {v4 : Int32} {v5 : Int32} {h : AH} {H : Heap} {locs : List Loc} {cells slots : Nat} {ls : Array Slot}, Rp G h H → (∀ q ∈ locs, gB G ≤ q.base) → zl ls 7 [(0, zr v0), (1, .int v1), (3, .int v3), (4, .int v4), (5, .int v5)] → k95 v0 v1 v3 v4 v5 h = some (r, h') → W p l e (gR G hs 9 177) s m args below meth c H locs cells slots (MQ below (Qcc G (some (.int r)) h') args s (gC G - aZ hs) (gS - aU hs) (fun q => gB G ≤ q)) (F0 m 95 ls [])) {v0 : Nat} {v1 : Int32} {v3 : Int32} {v5 : Int32} {s0 : Int32} {h : AH} {H : Heap} {locs : List Loc} {cells slots : Nat} {ls : Array Slot} (hR : Rp G h H) (hL : ∀ q ∈ locs, gB G ≤ q.base) (hl : zl ls 7 [(0, zr v0), (1, .int v1), (3, .int v3), (5, .int v5)]) (hp : p_L_fits_131 k95 v0 v1 v3 v5 s0 h = some (r, h')) : W p l e (gR G hs 9 177) s m args below meth c H locs cells slots (MQ below (Qcc G (some (.int r)) h') args s (gC G - aZ hs) (gS - aU hs) (fun q => gB G ≤ q)) (F0 m 131 ls [.int s0]) := by
  obtain ⟨hx, hb, hml, hown, hts, hT, hK, rs, hlk, hret, hnm⟩ := id C
  have hm : ∀ w ∈ MW, w.before args s = true := fun w hw => hts w (hT w hw)
  unfold p_L_fits_131 at hp
  refine z_istore (lv' := [(4, .int s0), (0, zr v0), (1, .int v1), (3, .int v3), (5, .int v5)]) hx hb dL_fits_131 hl (by decide) rfl (fun ls hl => ?_)
  obtain ⟨x1, ex1⟩ : ∃ y : Int32, y = v5 + iI 1 := ⟨_, rfl⟩
  replace hp := nm_i hp ex1
  refine z_iinc (v := x1) (lv' := [(5, .int x1), (4, .int s0), (0, zr v0), (1, .int v1), (3, .int v3)]) hx hb dL_fits_133 hl (k := 4) rfl ex1 (by decide) rfl (fun ls hl => ?_)
  refine lv_goto (tgt := 95) hx hb dL_fits_136 (by decide) ?_
  exact hk95 hR hL (zl_sub hl [2, 3, 4, 1, 0] rfl) hp
def p_L_fits_130 (k95 : Nat → Int32 → Int32 → Int32 → Int32 → AH → Option (Int32 × AH)) (v0 : Nat) (v1 : Int32) (v3 : Int32) (v5 : Int32) (h : AH) : Option (Int32 × AH) :=
  p_L_fits_131 k95 v0 v1 v3 v5 (iI 0) h
set_option maxHeartbeats 4000000 in
set_option maxRecDepth 100000 in
theorem s_L_fits_130 {p : Program} {l : Launch} {e : Env} {s : State} {m : MethodId} {args : Array Value} {below : List Frame} {meth : Method} {c : Code} {G : GG} {hs : AH} {r : Int32} {h' : AH} (hfl : l.stackTraces = false) (C : Cx G hs p s m args meth c cL_fits 7 RL (.code yL_fits cL_fits 7 (some .boolean) :: MW) (some .boolean) "fits") {k95 : Nat → Int32 → Int32 → Int32 → Int32 → AH → Option (Int32 × AH)} (hk95 : ∀ {v0 : Nat} {v1 : Int32} {v3 : Int32} {v4 : Int32} {v5 : Int32} {h : AH} {H : Heap} {locs : List Loc} {cells slots : Nat} {ls : Array Slot}, Rp G h H → (∀ q ∈ locs, gB G ≤ q.base) → zl ls 7 [(0, zr v0), (1, .int v1), (3, .int v3), (4, .int v4), (5, .int v5)] → k95 v0 v1 v3 v4 v5 h = some (r, h') → W p l e (gR G hs 9 177) s m args below meth c H locs cells slots (MQ below (Qcc G (some (.int r)) h') args s (gC G - aZ hs) (gS - aU hs) (fun q => gB G ≤ q)) (F0 m 95 ls [])) {v0 : Nat} {v1 : Int32} {v3 : Int32} {v5 : Int32} {h : AH} {H : Heap} {locs : List Loc} {cells slots : Nat} {ls : Array Slot} (hR : Rp G h H) (hL : ∀ q ∈ locs, gB G ≤ q.base) (hl : zl ls 7 [(0, zr v0), (1, .int v1), (3, .int v3), (5, .int v5)]) (hp : p_L_fits_130 k95 v0 v1 v3 v5 h = some (r, h')) : W p l e (gR G hs 9 177) s m args below meth c H locs cells slots (MQ below (Qcc G (some (.int r)) h') args s (gC G - aZ hs) (gS - aU hs) (fun q => gB G ≤ q)) (F0 m 130 ls []) := by
  obtain ⟨hx, hb, hml, hown, hts, hT, hK, rs, hlk, hret, hnm⟩ := id C
  have hm : ∀ w ∈ MW, w.before args s = true := fun w hw => hts w (hT w hw)
  unfold p_L_fits_130 at hp
  refine lv_iconst (v := iI 0) hx hb dL_fits_130 rfl ?_
  exact s_L_fits_131 hfl C hk95 hR hL (zl_sub hl [0, 1, 2, 3] rfl) hp
def p_L_fits_139  (v4 : Int32) (h : AH) : Option (Int32 × AH) :=
  ck (okZ v4) <|
  some (v4, h)
set_option maxHeartbeats 4000000 in
set_option maxRecDepth 100000 in
theorem s_L_fits_139 {p : Program} {l : Launch} {e : Env} {s : State} {m : MethodId} {args : Array Value} {below : List Frame} {meth : Method} {c : Code} {G : GG} {hs : AH} {r : Int32} {h' : AH} (hfl : l.stackTraces = false) (C : Cx G hs p s m args meth c cL_fits 7 RL (.code yL_fits cL_fits 7 (some .boolean) :: MW) (some .boolean) "fits")   {v4 : Int32} {h : AH} {H : Heap} {locs : List Loc} {cells slots : Nat} {ls : Array Slot} (hR : Rp G h H) (hL : ∀ q ∈ locs, gB G ≤ q.base) (hl : zl ls 7 [(4, .int v4)]) (hp : p_L_fits_139  v4 h = some (r, h')) : W p l e (gR G hs 9 177) s m args below meth c H locs cells slots (MQ below (Qcc G (some (.int r)) h') args s (gC G - aZ hs) (gS - aU hs) (fun q => gB G ≤ q)) (F0 m 139 ls []) := by
  obtain ⟨hx, hb, hml, hown, hts, hT, hK, rs, hlk, hret, hnm⟩ := id C
  have hm : ∀ w ∈ MW, w.before args s = true := fun w hw => hts w (hT w hw)
  unfold p_L_fits_139 at hp
  refine lv_iload hx hb dL_fits_139 (zl_at hl 0 rfl) ?_
  obtain ⟨k1, hp⟩ := ck_i hp
  cases hp
  exact r_zret C hR hL (okZ_n k1) dL_fits_141
def p_L_fits_95  : Nat → Nat → Int32 → Int32 → Int32 → Int32 → AH → Option (Int32 × AH)
  | 0, _, _, _, _, _, _ => none
  | n + 1, v0, v1, v3, v4, v5, h =>
    if (iI 5) ≤ v5 then
      p_L_fits_139  v4 h
    else
      if v4 = 0 then
        p_L_fits_139  v4 h
      else
        bR (p_L_place v0 v5 v1 h) fun r3 h4 =>
        if r3 < 0 then
          p_L_fits_130 (p_L_fits_95  n) v0 v1 v3 v5 h4
        else
          if v3 < r3 then
            p_L_fits_130 (p_L_fits_95  n) v0 v1 v3 v5 h4
          else
            p_L_fits_131 (p_L_fits_95  n) v0 v1 v3 v5 (iI 1) h4
set_option maxHeartbeats 4000000 in
set_option maxRecDepth 100000 in
theorem s_L_fits_95 {p : Program} {l : Launch} {e : Env} {s : State} {m : MethodId} {args : Array Value} {below : List Frame} {meth : Method} {c : Code} {G : GG} {hs : AH} {r : Int32} {h' : AH} (hfl : l.stackTraces = false) (C : Cx G hs p s m args meth c cL_fits 7 RL (.code yL_fits cL_fits 7 (some .boolean) :: MW) (some .boolean) "fits")   : ∀ (n : Nat) (v0 : Nat) (v1 : Int32) (v3 : Int32) (v4 : Int32) (v5 : Int32) (h : AH) (H : Heap) (locs : List Loc) (cells slots : Nat) (ls : Array Slot) (hR : Rp G h H) (hL : ∀ q ∈ locs, gB G ≤ q.base) (hl : zl ls 7 [(0, zr v0), (1, .int v1), (3, .int v3), (4, .int v4), (5, .int v5)]) (hp : p_L_fits_95  n v0 v1 v3 v4 v5 h = some (r, h')), W p l e (gR G hs 9 177) s m args below meth c H locs cells slots (MQ below (Qcc G (some (.int r)) h') args s (gC G - aZ hs) (gS - aU hs) (fun q => gB G ≤ q)) (F0 m 95 ls []) := by
  obtain ⟨hx, hb, hml, hown, hts, hT, hK, rs, hlk, hret, hnm⟩ := id C
  have hm : ∀ w ∈ MW, w.before args s = true := fun w hw => hts w (hT w hw)
  intro n
  induction n with
  | zero =>
    intro v0 v1 v3 v4 v5 h H locs cells slots ls hR hL hl hp
    exact absurd (show none = some (r, h') from hp) (by simp)
  | succ n ih =>
    intro v0 v1 v3 v4 v5 h H locs cells slots ls hR hL hl hp
    rw [p_L_fits_95.eq_2] at hp
    refine lv_iload hx hb dL_fits_95 (zl_at hl 4 rfl) ?_
    refine lv_iconst (v := iI 5) hx hb dL_fits_97 rfl ?_
    refine lv_icmp_ge (tgt := 139) hx hb dL_fits_98 (by decide) (fun c1 => ?_) (fun c1 => ?_)
    · replace hp := ite_p hp c1
      exact s_L_fits_139 hfl C  hR hL (zl_sub hl [3] rfl) hp
    · replace hp := ite_n hp c1
      refine lv_iload hx hb dL_fits_101 (zl_at hl 3 rfl) ?_
      refine lv_if_eq (tgt := 139) hx hb dL_fits_103 (by decide) (fun c2 => ?_) (fun c2 => ?_)
      · replace hp := ite_p hp c2
        exact s_L_fits_139 hfl C  hR hL (zl_sub hl [3] rfl) hp
      · replace hp := ite_n hp c2
        refine z_aload_n hx hb dL_fits_106 rfl (zl_at hl 0 rfl) ?_
        refine lv_iload hx hb dL_fits_107 (zl_at hl 4 rfl) ?_
        refine lv_iload_n hx hb dL_fits_109 rfl (zl_at hl 1 rfl) ?_
        obtain ⟨r3, h4, er3, hp⟩ := bR_i hp
        refine r_callSH (n := 3) (As := [zr v0, .int v5, .int v1]) (rest := []) C (c_L_place l hfl G v0 v5 v1 h r3 h4 er3) hR hL mw_658 mw_659 mw_0 mw_660 (by decide +kernel) (by decide) rfl (zl_size hl) rfl (by simp [zr_cat, in_cat]) dL_fits_110 (st2 := [.int r3]) rfl (fun H locs cells slots hR hL => ?_)
        refine z_istore (lv' := [(6, .int r3), (0, zr v0), (1, .int v1), (3, .int v3), (4, .int v4), (5, .int v5)]) hx hb dL_fits_113 hl (by decide) rfl (fun ls hl => ?_)
        refine lv_iload hx hb dL_fits_115 (zl_at hl 0 rfl) ?_
        refine lv_if_lt (tgt := 130) hx hb dL_fits_117 (by decide) (fun c5 => ?_) (fun c5 => ?_)
        · replace hp := ite_p hp c5
          exact s_L_fits_130 hfl C (fun hR hL hl hp => ih _ _ _ _ _ _ _ _ _ _ _ hR hL hl hp) hR hL (zl_sub hl [1, 2, 3, 5] rfl) hp
        · replace hp := ite_n hp c5
          refine lv_iload hx hb dL_fits_120 (zl_at hl 0 rfl) ?_
          refine lv_iload_n hx hb dL_fits_122 rfl (zl_at hl 3 rfl) ?_
          refine lv_icmp_gt (tgt := 130) hx hb dL_fits_123 (by decide) (fun c6 => ?_) (fun c6 => ?_)
          · replace hp := ite_p hp c6
            exact s_L_fits_130 hfl C (fun hR hL hl hp => ih _ _ _ _ _ _ _ _ _ _ _ hR hL hl hp) hR hL (zl_sub hl [1, 2, 3, 5] rfl) hp
          · replace hp := ite_n hp c6
            refine lv_iconst (v := iI 1) hx hb dL_fits_126 rfl ?_
            refine lv_goto (tgt := 131) hx hb dL_fits_127 (by decide) ?_
            exact s_L_fits_131 hfl C (fun hR hL hl hp => ih _ _ _ _ _ _ _ _ _ _ _ hR hL hl hp) hR hL (zl_sub hl [1, 2, 3, 5] rfl) hp
def p_L_fits_92  (v0 : Nat) (v1 : Int32) (v3 : Int32) (v4 : Int32) (h : AH) : Option (Int32 × AH) :=
  nm ((iI 0)) fun (x1 : Int32) =>
  p_L_fits_95  FU v0 v1 v3 v4 x1 h
set_option maxHeartbeats 4000000 in
set_option maxRecDepth 100000 in
theorem s_L_fits_92 {p : Program} {l : Launch} {e : Env} {s : State} {m : MethodId} {args : Array Value} {below : List Frame} {meth : Method} {c : Code} {G : GG} {hs : AH} {r : Int32} {h' : AH} (hfl : l.stackTraces = false) (C : Cx G hs p s m args meth c cL_fits 7 RL (.code yL_fits cL_fits 7 (some .boolean) :: MW) (some .boolean) "fits")   {v0 : Nat} {v1 : Int32} {v3 : Int32} {v4 : Int32} {h : AH} {H : Heap} {locs : List Loc} {cells slots : Nat} {ls : Array Slot} (hR : Rp G h H) (hL : ∀ q ∈ locs, gB G ≤ q.base) (hl : zl ls 7 [(0, zr v0), (1, .int v1), (3, .int v3), (4, .int v4)]) (hp : p_L_fits_92  v0 v1 v3 v4 h = some (r, h')) : W p l e (gR G hs 9 177) s m args below meth c H locs cells slots (MQ below (Qcc G (some (.int r)) h') args s (gC G - aZ hs) (gS - aU hs) (fun q => gB G ≤ q)) (F0 m 92 ls []) := by
  obtain ⟨hx, hb, hml, hown, hts, hT, hK, rs, hlk, hret, hnm⟩ := id C
  have hm : ∀ w ∈ MW, w.before args s = true := fun w hw => hts w (hT w hw)
  unfold p_L_fits_92 at hp
  refine lv_iconst (v := iI 0) hx hb dL_fits_92 rfl ?_
  refine lv_topi (fun x1 ex1 => ?_)
  replace hp := nm_i hp ex1
  refine z_istore (lv' := [(5, .int x1), (0, zr v0), (1, .int v1), (3, .int v3), (4, .int v4)]) hx hb dL_fits_93 hl (by decide) rfl (fun ls hl => ?_)
  exact s_L_fits_95 hfl C  _ _ _ _ _ _ _ _ _ _ _ _ hR hL (zl_sub hl [1, 2, 3, 4, 0] rfl) hp
def p_L_fits_51  : Nat → Nat → Int32 → Int32 → Int32 → Int32 → AH → Option (Int32 × AH)
  | 0, _, _, _, _, _, _ => none
  | n + 1, v0, v1, v3, v4, v5, h =>
    if v3 ≤ v5 then
      p_L_fits_92  v0 v1 v3 v4 h
    else
      if v4 = 0 then
        p_L_fits_92  v0 v1 v3 v4 h
      else
        bR (p_L_letter v0 v1 v5 h) fun r3 h4 =>
        bR (p_L_anew v0 v1 v5 h4) fun r5 h6 =>
        if r3 = r5 then
          p_L_fits_84 (p_L_fits_51  n) v0 v1 v3 v5 (iI 1) h6
        else
          p_L_fits_84 (p_L_fits_51  n) v0 v1 v3 v5 (iI 0) h6
set_option maxHeartbeats 4000000 in
set_option maxRecDepth 100000 in
theorem s_L_fits_51 {p : Program} {l : Launch} {e : Env} {s : State} {m : MethodId} {args : Array Value} {below : List Frame} {meth : Method} {c : Code} {G : GG} {hs : AH} {r : Int32} {h' : AH} (hfl : l.stackTraces = false) (C : Cx G hs p s m args meth c cL_fits 7 RL (.code yL_fits cL_fits 7 (some .boolean) :: MW) (some .boolean) "fits")   : ∀ (n : Nat) (v0 : Nat) (v1 : Int32) (v3 : Int32) (v4 : Int32) (v5 : Int32) (h : AH) (H : Heap) (locs : List Loc) (cells slots : Nat) (ls : Array Slot) (hR : Rp G h H) (hL : ∀ q ∈ locs, gB G ≤ q.base) (hl : zl ls 7 [(0, zr v0), (1, .int v1), (3, .int v3), (4, .int v4), (5, .int v5)]) (hp : p_L_fits_51  n v0 v1 v3 v4 v5 h = some (r, h')), W p l e (gR G hs 9 177) s m args below meth c H locs cells slots (MQ below (Qcc G (some (.int r)) h') args s (gC G - aZ hs) (gS - aU hs) (fun q => gB G ≤ q)) (F0 m 51 ls []) := by
  obtain ⟨hx, hb, hml, hown, hts, hT, hK, rs, hlk, hret, hnm⟩ := id C
  have hm : ∀ w ∈ MW, w.before args s = true := fun w hw => hts w (hT w hw)
  intro n
  induction n with
  | zero =>
    intro v0 v1 v3 v4 v5 h H locs cells slots ls hR hL hl hp
    exact absurd (show none = some (r, h') from hp) (by simp)
  | succ n ih =>
    intro v0 v1 v3 v4 v5 h H locs cells slots ls hR hL hl hp
    rw [p_L_fits_51.eq_2] at hp
    refine lv_iload hx hb dL_fits_51 (zl_at hl 4 rfl) ?_
    refine lv_iload_n hx hb dL_fits_53 rfl (zl_at hl 2 rfl) ?_
    refine lv_icmp_ge (tgt := 92) hx hb dL_fits_54 (by decide) (fun c1 => ?_) (fun c1 => ?_)
    · replace hp := ite_p hp c1
      exact s_L_fits_92 hfl C  hR hL (zl_sub hl [0, 1, 2, 3] rfl) hp
    · replace hp := ite_n hp c1
      refine lv_iload hx hb dL_fits_57 (zl_at hl 3 rfl) ?_
      refine lv_if_eq (tgt := 92) hx hb dL_fits_59 (by decide) (fun c2 => ?_) (fun c2 => ?_)
      · replace hp := ite_p hp c2
        exact s_L_fits_92 hfl C  hR hL (zl_sub hl [0, 1, 2, 3] rfl) hp
      · replace hp := ite_n hp c2
        refine z_aload_n hx hb dL_fits_62 rfl (zl_at hl 0 rfl) ?_
        refine lv_iload_n hx hb dL_fits_63 rfl (zl_at hl 1 rfl) ?_
        refine lv_iload hx hb dL_fits_64 (zl_at hl 4 rfl) ?_
        obtain ⟨r3, h4, er3, hp⟩ := bR_i hp
        refine r_callSH (n := 3) (As := [zr v0, .int v1, .int v5]) (rest := []) C (c_L_letter l hfl G v0 v1 v5 h r3 h4 er3) hR hL mw_672 mw_673 mw_0 mw_674 (by decide +kernel) (by decide) rfl (zl_size hl) rfl (by simp [zr_cat, in_cat]) dL_fits_66 (st2 := [.int r3]) rfl (fun H locs cells slots hR hL => ?_)
        refine z_aload_n hx hb dL_fits_69 rfl (zl_at hl 0 rfl) ?_
        refine lv_iload_n hx hb dL_fits_70 rfl (zl_at hl 1 rfl) ?_
        refine lv_iload hx hb dL_fits_71 (zl_at hl 4 rfl) ?_
        obtain ⟨r5, h6, er5, hp⟩ := bR_i hp
        refine r_callSH (n := 3) (As := [zr v0, .int v1, .int v5]) (rest := [.int r3]) C (c_L_anew l hfl G v0 v1 v5 h4 r5 h6 er5) hR hL mw_971 mw_972 mw_0 mw_973 (by decide +kernel) (by decide) rfl (zl_size hl) rfl (by simp [zr_cat, in_cat]) dL_fits_73 (st2 := [.int r5, .int r3]) rfl (fun H locs cells slots hR hL => ?_)
        refine lv_icmp_ne (tgt := 83) hx hb dL_fits_76 (by decide) (fun c7 => ?_) (fun c7 => ?_)
        · replace hp := ite_n hp c7
          refine lv_iconst (v := iI 0) hx hb dL_fits_83 rfl ?_
          exact s_L_fits_84 hfl C (fun hR hL hl hp => ih _ _ _ _ _ _ _ _ _ _ _ hR hL hl hp) hR hL (zl_sub hl [0, 1, 2, 4] rfl) hp
        · replace hp := ite_p hp c7
          refine lv_iconst (v := iI 1) hx hb dL_fits_79 rfl ?_
          refine lv_goto (tgt := 84) hx hb dL_fits_80 (by decide) ?_
          exact s_L_fits_84 hfl C (fun hR hL hl hp => ih _ _ _ _ _ _ _ _ _ _ _ hR hL hl hp) hR hL (zl_sub hl [0, 1, 2, 4] rfl) hp
def p_L_fits_44  (v0 : Nat) (v1 : Int32) (v2 : Int32) (v3 : Int32) (s0 : Int32) (h : AH) : Option (Int32 × AH) :=
  nm ((v2 - v2 / (iI 5) * (iI 5))) fun (x1 : Int32) =>
  p_L_fits_51  FU v0 v1 v3 s0 x1 h
set_option maxHeartbeats 4000000 in
set_option maxRecDepth 100000 in
theorem s_L_fits_44 {p : Program} {l : Launch} {e : Env} {s : State} {m : MethodId} {args : Array Value} {below : List Frame} {meth : Method} {c : Code} {G : GG} {hs : AH} {r : Int32} {h' : AH} (hfl : l.stackTraces = false) (C : Cx G hs p s m args meth c cL_fits 7 RL (.code yL_fits cL_fits 7 (some .boolean) :: MW) (some .boolean) "fits")   {v0 : Nat} {v1 : Int32} {v2 : Int32} {v3 : Int32} {s0 : Int32} {h : AH} {H : Heap} {locs : List Loc} {cells slots : Nat} {ls : Array Slot} (hR : Rp G h H) (hL : ∀ q ∈ locs, gB G ≤ q.base) (hl : zl ls 7 [(0, zr v0), (1, .int v1), (2, .int v2), (3, .int v3)]) (hp : p_L_fits_44  v0 v1 v2 v3 s0 h = some (r, h')) : W p l e (gR G hs 9 177) s m args below meth c H locs cells slots (MQ below (Qcc G (some (.int r)) h') args s (gC G - aZ hs) (gS - aU hs) (fun q => gB G ≤ q)) (F0 m 44 ls [.int s0]) := by
  obtain ⟨hx, hb, hml, hown, hts, hT, hK, rs, hlk, hret, hnm⟩ := id C
  have hm : ∀ w ∈ MW, w.before args s = true := fun w hw => hts w (hT w hw)
  unfold p_L_fits_44 at hp
  refine z_istore (lv' := [(4, .int s0), (0, zr v0), (1, .int v1), (2, .int v2), (3, .int v3)]) hx hb dL_fits_44 hl (by decide) rfl (fun ls hl => ?_)
  refine lv_iload_n hx hb dL_fits_46 rfl (zl_at hl 3 rfl) ?_
  refine lv_iconst (v := iI 5) hx hb dL_fits_47 rfl ?_
  refine lv_irem hx hb dL_fits_48 (by decide +kernel) ?_
  refine lv_topi (fun x1 ex1 => ?_)
  replace hp := nm_i hp ex1
  refine z_istore (lv' := [(5, .int x1), (4, .int s0), (0, zr v0), (1, .int v1), (2, .int v2), (3, .int v3)]) hx hb dL_fits_49 hl (by decide) rfl (fun ls hl => ?_)
  exact s_L_fits_51 hfl C  _ _ _ _ _ _ _ _ _ _ _ _ hR hL (zl_sub hl [2, 3, 5, 1, 0] rfl) hp
def p_L_fits_43  (v0 : Nat) (v1 : Int32) (v2 : Int32) (v3 : Int32) (h : AH) : Option (Int32 × AH) :=
  p_L_fits_44  v0 v1 v2 v3 (iI 0) h
set_option maxHeartbeats 4000000 in
set_option maxRecDepth 100000 in
theorem s_L_fits_43 {p : Program} {l : Launch} {e : Env} {s : State} {m : MethodId} {args : Array Value} {below : List Frame} {meth : Method} {c : Code} {G : GG} {hs : AH} {r : Int32} {h' : AH} (hfl : l.stackTraces = false) (C : Cx G hs p s m args meth c cL_fits 7 RL (.code yL_fits cL_fits 7 (some .boolean) :: MW) (some .boolean) "fits")   {v0 : Nat} {v1 : Int32} {v2 : Int32} {v3 : Int32} {h : AH} {H : Heap} {locs : List Loc} {cells slots : Nat} {ls : Array Slot} (hR : Rp G h H) (hL : ∀ q ∈ locs, gB G ≤ q.base) (hl : zl ls 7 [(0, zr v0), (1, .int v1), (2, .int v2), (3, .int v3)]) (hp : p_L_fits_43  v0 v1 v2 v3 h = some (r, h')) : W p l e (gR G hs 9 177) s m args below meth c H locs cells slots (MQ below (Qcc G (some (.int r)) h') args s (gC G - aZ hs) (gS - aU hs) (fun q => gB G ≤ q)) (F0 m 43 ls []) := by
  obtain ⟨hx, hb, hml, hown, hts, hT, hK, rs, hlk, hret, hnm⟩ := id C
  have hm : ∀ w ∈ MW, w.before args s = true := fun w hw => hts w (hT w hw)
  unfold p_L_fits_43 at hp
  refine lv_iconst (v := iI 0) hx hb dL_fits_43 rfl ?_
  exact s_L_fits_44 hfl C  hR hL (zl_sub hl [0, 1, 2, 3] rfl) hp
def p_L_fits_0  (v0 : Nat) (v1 : Int32) (v2 : Int32) (h : AH) : Option (Int32 × AH) :=
  bR (p_L_length v0 v1 h) fun r1 h2 =>
  if r1 < 0 then
    p_L_fits_43  v0 v1 v2 r1 h2
  else
    if (iI 150) < r1 then
      p_L_fits_43  v0 v1 v2 r1 h2
    else
      bR (p_L_letter v0 v1 r1 h2) fun r5 h6 =>
      if r5 = (iI (-101)) then
        bR (p_L_anew v0 v1 r1 h6) fun r8 h9 =>
        if r8 = (iI (-101)) then
          p_L_fits_44  v0 v1 v2 r1 (iI 1) h9
        else
          p_L_fits_43  v0 v1 v2 r1 h9
      else
        p_L_fits_43  v0 v1 v2 r1 h6
set_option maxHeartbeats 4000000 in
set_option maxRecDepth 100000 in
theorem s_L_fits_0 {p : Program} {l : Launch} {e : Env} {s : State} {m : MethodId} {args : Array Value} {below : List Frame} {meth : Method} {c : Code} {G : GG} {hs : AH} {r : Int32} {h' : AH} (hfl : l.stackTraces = false) (C : Cx G hs p s m args meth c cL_fits 7 RL (.code yL_fits cL_fits 7 (some .boolean) :: MW) (some .boolean) "fits")   {v0 : Nat} {v1 : Int32} {v2 : Int32} {h : AH} {H : Heap} {locs : List Loc} {cells slots : Nat} {ls : Array Slot} (hR : Rp G h H) (hL : ∀ q ∈ locs, gB G ≤ q.base) (hl : zl ls 7 [(0, zr v0), (1, .int v1), (2, .int v2)]) (hp : p_L_fits_0  v0 v1 v2 h = some (r, h')) : W p l e (gR G hs 9 177) s m args below meth c H locs cells slots (MQ below (Qcc G (some (.int r)) h') args s (gC G - aZ hs) (gS - aU hs) (fun q => gB G ≤ q)) (F0 m 0 ls []) := by
  obtain ⟨hx, hb, hml, hown, hts, hT, hK, rs, hlk, hret, hnm⟩ := id C
  have hm : ∀ w ∈ MW, w.before args s = true := fun w hw => hts w (hT w hw)
  unfold p_L_fits_0 at hp
  refine z_aload_n hx hb dL_fits_0 rfl (zl_at hl 0 rfl) ?_
  refine lv_iload_n hx hb dL_fits_1 rfl (zl_at hl 1 rfl) ?_
  obtain ⟨r1, h2, er1, hp⟩ := bR_i hp
  refine r_callSH (n := 2) (As := [zr v0, .int v1]) (rest := []) C (c_L_length l hfl G v0 v1 h r1 h2 er1) hR hL mw_665 mw_666 mw_0 mw_667 (by decide +kernel) (by decide) rfl (zl_size hl) rfl (by simp [zr_cat, in_cat]) dL_fits_2 (st2 := [.int r1]) rfl (fun H locs cells slots hR hL => ?_)
  refine z_istore_n (lv' := [(3, .int r1), (0, zr v0), (1, .int v1), (2, .int v2)]) hx hb dL_fits_5 rfl hl (by decide) rfl (fun ls hl => ?_)
  refine lv_iload_n hx hb dL_fits_6 rfl (zl_at hl 0 rfl) ?_
  refine lv_if_lt (tgt := 43) hx hb dL_fits_7 (by decide) (fun c3 => ?_) (fun c3 => ?_)
  · replace hp := ite_p hp c3
    exact s_L_fits_43 hfl C  hR hL (zl_sub hl [1, 2, 3, 0] rfl) hp
  · replace hp := ite_n hp c3
    refine lv_iload_n hx hb dL_fits_10 rfl (zl_at hl 0 rfl) ?_
    refine lv_sipush (v := iI 150) hx hb dL_fits_11 (by decide +kernel) ?_
    refine lv_icmp_gt (tgt := 43) hx hb dL_fits_14 (by decide) (fun c4 => ?_) (fun c4 => ?_)
    · replace hp := ite_p hp c4
      exact s_L_fits_43 hfl C  hR hL (zl_sub hl [1, 2, 3, 0] rfl) hp
    · replace hp := ite_n hp c4
      refine z_aload_n hx hb dL_fits_17 rfl (zl_at hl 1 rfl) ?_
      refine lv_iload_n hx hb dL_fits_18 rfl (zl_at hl 2 rfl) ?_
      refine lv_iload_n hx hb dL_fits_19 rfl (zl_at hl 0 rfl) ?_
      obtain ⟨r5, h6, er5, hp⟩ := bR_i hp
      refine r_callSH (n := 3) (As := [zr v0, .int v1, .int r1]) (rest := []) C (c_L_letter l hfl G v0 v1 r1 h2 r5 h6 er5) hR hL mw_672 mw_673 mw_0 mw_674 (by decide +kernel) (by decide) rfl (zl_size hl) rfl (by simp [zr_cat, in_cat]) dL_fits_20 (st2 := [.int r5]) rfl (fun H locs cells slots hR hL => ?_)
      refine lv_bipush (v := iI (-101)) hx hb dL_fits_23 (by decide +kernel) ?_
      refine lv_icmp_ne (tgt := 43) hx hb dL_fits_25 (by decide) (fun c7 => ?_) (fun c7 => ?_)
      · replace hp := ite_n hp c7
        exact s_L_fits_43 hfl C  hR hL (zl_sub hl [1, 2, 3, 0] rfl) hp
      · replace hp := ite_p hp c7
        refine z_aload_n hx hb dL_fits_28 rfl (zl_at hl 1 rfl) ?_
        refine lv_iload_n hx hb dL_fits_29 rfl (zl_at hl 2 rfl) ?_
        refine lv_iload_n hx hb dL_fits_30 rfl (zl_at hl 0 rfl) ?_
        obtain ⟨r8, h9, er8, hp⟩ := bR_i hp
        refine r_callSH (n := 3) (As := [zr v0, .int v1, .int r1]) (rest := []) C (c_L_anew l hfl G v0 v1 r1 h6 r8 h9 er8) hR hL mw_971 mw_972 mw_0 mw_973 (by decide +kernel) (by decide) rfl (zl_size hl) rfl (by simp [zr_cat, in_cat]) dL_fits_31 (st2 := [.int r8]) rfl (fun H locs cells slots hR hL => ?_)
        refine lv_bipush (v := iI (-101)) hx hb dL_fits_34 (by decide +kernel) ?_
        refine lv_icmp_ne (tgt := 43) hx hb dL_fits_36 (by decide) (fun c10 => ?_) (fun c10 => ?_)
        · replace hp := ite_n hp c10
          exact s_L_fits_43 hfl C  hR hL (zl_sub hl [1, 2, 3, 0] rfl) hp
        · replace hp := ite_p hp c10
          refine lv_iconst (v := iI 1) hx hb dL_fits_39 rfl ?_
          refine lv_goto (tgt := 44) hx hb dL_fits_40 (by decide) ?_
          exact s_L_fits_44 hfl C  hR hL (zl_sub hl [1, 2, 3, 0] rfl) hp
def p_L_fits (v0 : Nat) (v1 : Int32) (v2 : Int32) (h : AH) : Option (Int32 × AH) := ck (v0 ≠ 0) <| p_L_fits_0 v0 v1 v2 h
theorem c_L_fits (l : Launch) (hfl : l.stackTraces = false) (G : GG) (v0 : Nat) (v1 : Int32) (v2 : Int32) (h : AH) (r : Int32) (h' : AH) (hp : p_L_fits v0 v1 v2 h = some (r, h')) : Ct l yL_fits (.code yL_fits cL_fits 7 (some .boolean) :: MW) G 9 177 [zr v0, .int v1, .int v2] h (some (.int r)) h' := by
  obtain ⟨hz0, hp⟩ := ck_i hp
  rw [show zr v0 = .ref (v0 - 1) from zr_p hz0]
  refine Ct.of (by decide +kernel) (Nat.le_of_ble_eq_true rfl) ?_
  intro p e s m args below meth c C hR ls hl
  have hl : zl ls 7 [(0, zr v0), (1, .int v1), (2, .int v2)] := ⟨by rw [zr_p hz0]; exact hl, by simp [zr_cat, in_cat]⟩
  exact s_L_fits_0 hfl C hR (fun _ hq => nomatch hq) hl hp
/-! CursorKeepLaw.isClean(LCursorKeep;III)Z -/
def p_L_isClean_262 (k19 : Nat → Int32 → Int32 → Int32 → Int32 → Int32 → Int32 → Int32 → Int32 → AH → Option (Int32 × AH)) (v0 : Nat) (v1 : Int32) (v2 : Int32) (v3 : Int32) (v4 : Int32) (v5 : Int32) (v7 : Int32) (v8 : Int32) (s0 : Int32) (h : AH) : Option (Int32 × AH) :=
  nm (v8 + iI 1) fun (x1 : Int32) =>
  k19 v0 v1 v2 v3 v4 v5 s0 v7 x1 h
set_option maxHeartbeats 4000000 in
set_option maxRecDepth 100000 in
theorem s_L_isClean_262 {p : Program} {l : Launch} {e : Env} {s : State} {m : MethodId} {args : Array Value} {below : List Frame} {meth : Method} {c : Code} {G : GG} {hs : AH} {r : Int32} {h' : AH} (hfl : l.stackTraces = false) (C : Cx G hs p s m args meth c cL_isClean 11 RL (.code yL_isClean cL_isClean 11 (some .boolean) :: MW) (some .boolean) "isClean") {k19 : Nat → Int32 → Int32 → Int32 → Int32 → Int32 → Int32 → Int32 → Int32 → AH → Option (Int32 × AH)} (hk19 : ∀ {v0 : Nat} {v1 : Int32} {v2 : Int32} {v3 : Int32} {v4 : Int32} {v5 : Int32} {v6 : Int32} {v7 : Int32} {v8 : Int32} {h : AH} {H : Heap} {locs : List Loc} {cells slots : Nat} {ls : Array Slot}, Rp G h H → (∀ q ∈ locs, gB G ≤ q.base) → zl ls 11 [(0, zr v0), (1, .int v1), (2, .int v2), (3, .int v3), (4, .int v4), (5, .int v5), (6, .int v6), (7, .int v7), (8, .int v8)] → k19 v0 v1 v2 v3 v4 v5 v6 v7 v8 h = some (r, h') → W p l e (gR G hs 9 177) s m args below meth c H locs cells slots (MQ below (Qcc G (some (.int r)) h') args s (gC G - aZ hs) (gS - aU hs) (fun q => gB G ≤ q)) (F0 m 19 ls [])) {v0 : Nat} {v1 : Int32} {v2 : Int32} {v3 : Int32} {v4 : Int32} {v5 : Int32} {v7 : Int32} {v8 : Int32} {s0 : Int32} {h : AH} {H : Heap} {locs : List Loc} {cells slots : Nat} {ls : Array Slot} (hR : Rp G h H) (hL : ∀ q ∈ locs, gB G ≤ q.base) (hl : zl ls 11 [(0, zr v0), (1, .int v1), (2, .int v2), (3, .int v3), (4, .int v4), (5, .int v5), (7, .int v7), (8, .int v8)]) (hp : p_L_isClean_262 k19 v0 v1 v2 v3 v4 v5 v7 v8 s0 h = some (r, h')) : W p l e (gR G hs 9 177) s m args below meth c H locs cells slots (MQ below (Qcc G (some (.int r)) h') args s (gC G - aZ hs) (gS - aU hs) (fun q => gB G ≤ q)) (F0 m 262 ls [.int s0]) := by
  obtain ⟨hx, hb, hml, hown, hts, hT, hK, rs, hlk, hret, hnm⟩ := id C
  have hm : ∀ w ∈ MW, w.before args s = true := fun w hw => hts w (hT w hw)
  unfold p_L_isClean_262 at hp
  refine z_istore (lv' := [(6, .int s0), (0, zr v0), (1, .int v1), (2, .int v2), (3, .int v3), (4, .int v4), (5, .int v5), (7, .int v7), (8, .int v8)]) hx hb dL_isClean_262 hl (by decide) rfl (fun ls hl => ?_)
  obtain ⟨x1, ex1⟩ : ∃ y : Int32, y = v8 + iI 1 := ⟨_, rfl⟩
  replace hp := nm_i hp ex1
  refine z_iinc (v := x1) (lv' := [(8, .int x1), (6, .int s0), (0, zr v0), (1, .int v1), (2, .int v2), (3, .int v3), (4, .int v4), (5, .int v5), (7, .int v7)]) hx hb dL_isClean_264 hl (k := 8) rfl ex1 (by decide) rfl (fun ls hl => ?_)
  refine lv_goto (tgt := 19) hx hb dL_isClean_267 (by decide) ?_
  exact hk19 hR hL (zl_sub hl [2, 3, 4, 5, 6, 7, 1, 8, 0] rfl) hp
def p_L_isClean_247 (k19 : Nat → Int32 → Int32 → Int32 → Int32 → Int32 → Int32 → Int32 → Int32 → AH → Option (Int32 × AH)) (v0 : Nat) (v1 : Int32) (v2 : Int32) (v3 : Int32) (v4 : Int32) (v6 : Int32) (v7 : Int32) (v8 : Int32) (v9 : Int32) (s0 : Int32) (h : AH) : Option (Int32 × AH) :=
  if v9 = (iI 47) then
    p_L_isClean_262 k19 v0 v1 v2 v3 v4 s0 v7 v8 (iI 0) h
  else
    p_L_isClean_262 k19 v0 v1 v2 v3 v4 s0 v7 v8 v6 h
set_option maxHeartbeats 4000000 in
set_option maxRecDepth 100000 in
theorem s_L_isClean_247 {p : Program} {l : Launch} {e : Env} {s : State} {m : MethodId} {args : Array Value} {below : List Frame} {meth : Method} {c : Code} {G : GG} {hs : AH} {r : Int32} {h' : AH} (hfl : l.stackTraces = false) (C : Cx G hs p s m args meth c cL_isClean 11 RL (.code yL_isClean cL_isClean 11 (some .boolean) :: MW) (some .boolean) "isClean") {k19 : Nat → Int32 → Int32 → Int32 → Int32 → Int32 → Int32 → Int32 → Int32 → AH → Option (Int32 × AH)} (hk19 : ∀ {v0 : Nat} {v1 : Int32} {v2 : Int32} {v3 : Int32} {v4 : Int32} {v5 : Int32} {v6 : Int32} {v7 : Int32} {v8 : Int32} {h : AH} {H : Heap} {locs : List Loc} {cells slots : Nat} {ls : Array Slot}, Rp G h H → (∀ q ∈ locs, gB G ≤ q.base) → zl ls 11 [(0, zr v0), (1, .int v1), (2, .int v2), (3, .int v3), (4, .int v4), (5, .int v5), (6, .int v6), (7, .int v7), (8, .int v8)] → k19 v0 v1 v2 v3 v4 v5 v6 v7 v8 h = some (r, h') → W p l e (gR G hs 9 177) s m args below meth c H locs cells slots (MQ below (Qcc G (some (.int r)) h') args s (gC G - aZ hs) (gS - aU hs) (fun q => gB G ≤ q)) (F0 m 19 ls [])) {v0 : Nat} {v1 : Int32} {v2 : Int32} {v3 : Int32} {v4 : Int32} {v6 : Int32} {v7 : Int32} {v8 : Int32} {v9 : Int32} {s0 : Int32} {h : AH} {H : Heap} {locs : List Loc} {cells slots : Nat} {ls : Array Slot} (hR : Rp G h H) (hL : ∀ q ∈ locs, gB G ≤ q.base) (hl : zl ls 11 [(0, zr v0), (1, .int v1), (2, .int v2), (3, .int v3), (4, .int v4), (6, .int v6), (7, .int v7), (8, .int v8), (9, .int v9)]) (hp : p_L_isClean_247 k19 v0 v1 v2 v3 v4 v6 v7 v8 v9 s0 h = some (r, h')) : W p l e (gR G hs 9 177) s m args below meth c H locs cells slots (MQ below (Qcc G (some (.int r)) h') args s (gC G - aZ hs) (gS - aU hs) (fun q => gB G ≤ q)) (F0 m 247 ls [.int s0]) := by
  obtain ⟨hx, hb, hml, hown, hts, hT, hK, rs, hlk, hret, hnm⟩ := id C
  have hm : ∀ w ∈ MW, w.before args s = true := fun w hw => hts w (hT w hw)
  unfold p_L_isClean_247 at hp
  refine z_istore (lv' := [(5, .int s0), (0, zr v0), (1, .int v1), (2, .int v2), (3, .int v3), (4, .int v4), (6, .int v6), (7, .int v7), (8, .int v8), (9, .int v9)]) hx hb dL_isClean_247 hl (by decide) rfl (fun ls hl => ?_)
  refine lv_iload hx hb dL_isClean_249 (zl_at hl 9 rfl) ?_
  refine lv_bipush (v := iI 47) hx hb dL_isClean_251 (by decide +kernel) ?_
  refine lv_icmp_ne (tgt := 260) hx hb dL_isClean_253 (by decide) (fun c1 => ?_) (fun c1 => ?_)
  · replace hp := ite_n hp c1
    refine lv_iload hx hb dL_isClean_260 (zl_at hl 6 rfl) ?_
    exact s_L_isClean_262 hfl C hk19 hR hL (zl_sub hl [1, 2, 3, 4, 5, 0, 7, 8] rfl) hp
  · replace hp := ite_p hp c1
    refine lv_iconst (v := iI 0) hx hb dL_isClean_256 rfl ?_
    refine lv_goto (tgt := 262) hx hb dL_isClean_257 (by decide) ?_
    exact s_L_isClean_262 hfl C hk19 hR hL (zl_sub hl [1, 2, 3, 4, 5, 0, 7, 8] rfl) hp
def p_L_isClean_229 (k19 : Nat → Int32 → Int32 → Int32 → Int32 → Int32 → Int32 → Int32 → Int32 → AH → Option (Int32 × AH)) (v0 : Nat) (v1 : Int32) (v2 : Int32) (v3 : Int32) (v4 : Int32) (v5 : Int32) (v7 : Int32) (v8 : Int32) (v9 : Int32) (s0 : Int32) (s1 : Int32) (h : AH) : Option (Int32 × AH) :=
  nm ((s0 + s1)) fun (x1 : Int32) =>
  if v9 = (iI 47) then
    p_L_isClean_247 k19 v0 v1 v2 v3 v4 x1 v7 v8 v9 (iI 0) h
  else
    p_L_isClean_247 k19 v0 v1 v2 v3 v4 x1 v7 v8 v9 (v5 + (iI 1)) h
set_option maxHeartbeats 4000000 in
set_option maxRecDepth 100000 in
theorem s_L_isClean_229 {p : Program} {l : Launch} {e : Env} {s : State} {m : MethodId} {args : Array Value} {below : List Frame} {meth : Method} {c : Code} {G : GG} {hs : AH} {r : Int32} {h' : AH} (hfl : l.stackTraces = false) (C : Cx G hs p s m args meth c cL_isClean 11 RL (.code yL_isClean cL_isClean 11 (some .boolean) :: MW) (some .boolean) "isClean") {k19 : Nat → Int32 → Int32 → Int32 → Int32 → Int32 → Int32 → Int32 → Int32 → AH → Option (Int32 × AH)} (hk19 : ∀ {v0 : Nat} {v1 : Int32} {v2 : Int32} {v3 : Int32} {v4 : Int32} {v5 : Int32} {v6 : Int32} {v7 : Int32} {v8 : Int32} {h : AH} {H : Heap} {locs : List Loc} {cells slots : Nat} {ls : Array Slot}, Rp G h H → (∀ q ∈ locs, gB G ≤ q.base) → zl ls 11 [(0, zr v0), (1, .int v1), (2, .int v2), (3, .int v3), (4, .int v4), (5, .int v5), (6, .int v6), (7, .int v7), (8, .int v8)] → k19 v0 v1 v2 v3 v4 v5 v6 v7 v8 h = some (r, h') → W p l e (gR G hs 9 177) s m args below meth c H locs cells slots (MQ below (Qcc G (some (.int r)) h') args s (gC G - aZ hs) (gS - aU hs) (fun q => gB G ≤ q)) (F0 m 19 ls [])) {v0 : Nat} {v1 : Int32} {v2 : Int32} {v3 : Int32} {v4 : Int32} {v5 : Int32} {v7 : Int32} {v8 : Int32} {v9 : Int32} {s0 : Int32} {s1 : Int32} {h : AH} {H : Heap} {locs : List Loc} {cells slots : Nat} {ls : Array Slot} (hR : Rp G h H) (hL : ∀ q ∈ locs, gB G ≤ q.base) (hl : zl ls 11 [(0, zr v0), (1, .int v1), (2, .int v2), (3, .int v3), (4, .int v4), (5, .int v5), (7, .int v7), (8, .int v8), (9, .int v9)]) (hp : p_L_isClean_229 k19 v0 v1 v2 v3 v4 v5 v7 v8 v9 s0 s1 h = some (r, h')) : W p l e (gR G hs 9 177) s m args below meth c H locs cells slots (MQ below (Qcc G (some (.int r)) h') args s (gC G - aZ hs) (gS - aU hs) (fun q => gB G ≤ q)) (F0 m 229 ls [.int s1, .int s0]) := by
  obtain ⟨hx, hb, hml, hown, hts, hT, hK, rs, hlk, hret, hnm⟩ := id C
  have hm : ∀ w ∈ MW, w.before args s = true := fun w hw => hts w (hT w hw)
  unfold p_L_isClean_229 at hp
  refine lv_iadd hx hb dL_isClean_229 ?_
  refine lv_topi (fun x1 ex1 => ?_)
  replace hp := nm_i hp ex1
  refine z_istore (lv' := [(6, .int x1), (0, zr v0), (1, .int v1), (2, .int v2), (3, .int v3), (4, .int v4), (5, .int v5), (7, .int v7), (8, .int v8), (9, .int v9)]) hx hb dL_isClean_230 hl (by decide) rfl (fun ls hl => ?_)
  refine lv_iload hx hb dL_isClean_232 (zl_at hl 9 rfl) ?_
  refine lv_bipush (v := iI 47) hx hb dL_isClean_234 (by decide +kernel) ?_
  refine lv_icmp_ne (tgt := 243) hx hb dL_isClean_236 (by decide) (fun c2 => ?_) (fun c2 => ?_)
  · replace hp := ite_n hp c2
    refine lv_iload hx hb dL_isClean_243 (zl_at hl 6 rfl) ?_
    refine lv_iconst (v := iI 1) hx hb dL_isClean_245 rfl ?_
    refine lv_iadd hx hb dL_isClean_246 ?_
    exact s_L_isClean_247 hfl C hk19 hR hL (zl_sub hl [1, 2, 3, 4, 5, 0, 7, 8, 9] rfl) hp
  · replace hp := ite_p hp c2
    refine lv_iconst (v := iI 0) hx hb dL_isClean_239 rfl ?_
    refine lv_goto (tgt := 247) hx hb dL_isClean_240 (by decide) ?_
    exact s_L_isClean_247 hfl C hk19 hR hL (zl_sub hl [1, 2, 3, 4, 5, 0, 7, 8, 9] rfl) hp
def p_L_isClean_228 (k19 : Nat → Int32 → Int32 → Int32 → Int32 → Int32 → Int32 → Int32 → Int32 → AH → Option (Int32 × AH)) (v0 : Nat) (v1 : Int32) (v2 : Int32) (v3 : Int32) (v4 : Int32) (v5 : Int32) (v7 : Int32) (v8 : Int32) (v9 : Int32) (s0 : Int32) (h : AH) : Option (Int32 × AH) :=
  p_L_isClean_229 k19 v0 v1 v2 v3 v4 v5 v7 v8 v9 s0 (iI 0) h
set_option maxHeartbeats 4000000 in
set_option maxRecDepth 100000 in
theorem s_L_isClean_228 {p : Program} {l : Launch} {e : Env} {s : State} {m : MethodId} {args : Array Value} {below : List Frame} {meth : Method} {c : Code} {G : GG} {hs : AH} {r : Int32} {h' : AH} (hfl : l.stackTraces = false) (C : Cx G hs p s m args meth c cL_isClean 11 RL (.code yL_isClean cL_isClean 11 (some .boolean) :: MW) (some .boolean) "isClean") {k19 : Nat → Int32 → Int32 → Int32 → Int32 → Int32 → Int32 → Int32 → Int32 → AH → Option (Int32 × AH)} (hk19 : ∀ {v0 : Nat} {v1 : Int32} {v2 : Int32} {v3 : Int32} {v4 : Int32} {v5 : Int32} {v6 : Int32} {v7 : Int32} {v8 : Int32} {h : AH} {H : Heap} {locs : List Loc} {cells slots : Nat} {ls : Array Slot}, Rp G h H → (∀ q ∈ locs, gB G ≤ q.base) → zl ls 11 [(0, zr v0), (1, .int v1), (2, .int v2), (3, .int v3), (4, .int v4), (5, .int v5), (6, .int v6), (7, .int v7), (8, .int v8)] → k19 v0 v1 v2 v3 v4 v5 v6 v7 v8 h = some (r, h') → W p l e (gR G hs 9 177) s m args below meth c H locs cells slots (MQ below (Qcc G (some (.int r)) h') args s (gC G - aZ hs) (gS - aU hs) (fun q => gB G ≤ q)) (F0 m 19 ls [])) {v0 : Nat} {v1 : Int32} {v2 : Int32} {v3 : Int32} {v4 : Int32} {v5 : Int32} {v7 : Int32} {v8 : Int32} {v9 : Int32} {s0 : Int32} {h : AH} {H : Heap} {locs : List Loc} {cells slots : Nat} {ls : Array Slot} (hR : Rp G h H) (hL : ∀ q ∈ locs, gB G ≤ q.base) (hl : zl ls 11 [(0, zr v0), (1, .int v1), (2, .int v2), (3, .int v3), (4, .int v4), (5, .int v5), (7, .int v7), (8, .int v8), (9, .int v9)]) (hp : p_L_isClean_228 k19 v0 v1 v2 v3 v4 v5 v7 v8 v9 s0 h = some (r, h')) : W p l e (gR G hs 9 177) s m args below meth c H locs cells slots (MQ below (Qcc G (some (.int r)) h') args s (gC G - aZ hs) (gS - aU hs) (fun q => gB G ≤ q)) (F0 m 228 ls [.int s0]) := by
  obtain ⟨hx, hb, hml, hown, hts, hT, hK, rs, hlk, hret, hnm⟩ := id C
  have hm : ∀ w ∈ MW, w.before args s = true := fun w hw => hts w (hT w hw)
  unfold p_L_isClean_228 at hp
  refine lv_iconst (v := iI 0) hx hb dL_isClean_228 rfl ?_
  exact s_L_isClean_229 hfl C hk19 hR hL (zl_sub hl [0, 1, 2, 3, 4, 5, 6, 7, 8] rfl) hp
def p_L_isClean_207 (k19 : Nat → Int32 → Int32 → Int32 → Int32 → Int32 → Int32 → Int32 → Int32 → AH → Option (Int32 × AH)) (v0 : Nat) (v1 : Int32) (v2 : Int32) (v3 : Int32) (v4 : Int32) (v5 : Int32) (v6 : Int32) (v8 : Int32) (v9 : Int32) (s0 : Int32) (h : AH) : Option (Int32 × AH) :=
  if v9 = (iI 32) then
    if v3 < v5 then
      p_L_isClean_228 k19 v0 v1 v2 v3 v4 v5 s0 v8 v9 v6 h
    else
      p_L_isClean_229 k19 v0 v1 v2 v3 v4 v5 s0 v8 v9 v6 (iI 1) h
  else
    p_L_isClean_228 k19 v0 v1 v2 v3 v4 v5 s0 v8 v9 v6 h
set_option maxHeartbeats 4000000 in
set_option maxRecDepth 100000 in
theorem s_L_isClean_207 {p : Program} {l : Launch} {e : Env} {s : State} {m : MethodId} {args : Array Value} {below : List Frame} {meth : Method} {c : Code} {G : GG} {hs : AH} {r : Int32} {h' : AH} (hfl : l.stackTraces = false) (C : Cx G hs p s m args meth c cL_isClean 11 RL (.code yL_isClean cL_isClean 11 (some .boolean) :: MW) (some .boolean) "isClean") {k19 : Nat → Int32 → Int32 → Int32 → Int32 → Int32 → Int32 → Int32 → Int32 → AH → Option (Int32 × AH)} (hk19 : ∀ {v0 : Nat} {v1 : Int32} {v2 : Int32} {v3 : Int32} {v4 : Int32} {v5 : Int32} {v6 : Int32} {v7 : Int32} {v8 : Int32} {h : AH} {H : Heap} {locs : List Loc} {cells slots : Nat} {ls : Array Slot}, Rp G h H → (∀ q ∈ locs, gB G ≤ q.base) → zl ls 11 [(0, zr v0), (1, .int v1), (2, .int v2), (3, .int v3), (4, .int v4), (5, .int v5), (6, .int v6), (7, .int v7), (8, .int v8)] → k19 v0 v1 v2 v3 v4 v5 v6 v7 v8 h = some (r, h') → W p l e (gR G hs 9 177) s m args below meth c H locs cells slots (MQ below (Qcc G (some (.int r)) h') args s (gC G - aZ hs) (gS - aU hs) (fun q => gB G ≤ q)) (F0 m 19 ls [])) {v0 : Nat} {v1 : Int32} {v2 : Int32} {v3 : Int32} {v4 : Int32} {v5 : Int32} {v6 : Int32} {v8 : Int32} {v9 : Int32} {s0 : Int32} {h : AH} {H : Heap} {locs : List Loc} {cells slots : Nat} {ls : Array Slot} (hR : Rp G h H) (hL : ∀ q ∈ locs, gB G ≤ q.base) (hl : zl ls 11 [(0, zr v0), (1, .int v1), (2, .int v2), (3, .int v3), (4, .int v4), (5, .int v5), (6, .int v6), (8, .int v8), (9, .int v9)]) (hp : p_L_isClean_207 k19 v0 v1 v2 v3 v4 v5 v6 v8 v9 s0 h = some (r, h')) : W p l e (gR G hs 9 177) s m args below meth c H locs cells slots (MQ below (Qcc G (some (.int r)) h') args s (gC G - aZ hs) (gS - aU hs) (fun q => gB G ≤ q)) (F0 m 207 ls [.int s0]) := by
  obtain ⟨hx, hb, hml, hown, hts, hT, hK, rs, hlk, hret, hnm⟩ := id C
  have hm : ∀ w ∈ MW, w.before args s = true := fun w hw => hts w (hT w hw)
  unfold p_L_isClean_207 at hp
  refine z_istore (lv' := [(7, .int s0), (0, zr v0), (1, .int v1), (2, .int v2), (3, .int v3), (4, .int v4), (5, .int v5), (6, .int v6), (8, .int v8), (9, .int v9)]) hx hb dL_isClean_207 hl (by decide) rfl (fun ls hl => ?_)
  refine lv_iload hx hb dL_isClean_209 (zl_at hl 7 rfl) ?_
  refine lv_iload hx hb dL_isClean_211 (zl_at hl 9 rfl) ?_
  refine lv_bipush (v := iI 32) hx hb dL_isClean_213 (by decide +kernel) ?_
  refine lv_icmp_ne (tgt := 228) hx hb dL_isClean_215 (by decide) (fun c1 => ?_) (fun c1 => ?_)
  · replace hp := ite_n hp c1
    exact s_L_isClean_228 hfl C hk19 hR hL (zl_sub hl [1, 2, 3, 4, 5, 6, 0, 8, 9] rfl) hp
  · replace hp := ite_p hp c1
    refine lv_iload hx hb dL_isClean_218 (zl_at hl 6 rfl) ?_
    refine lv_iload_n hx hb dL_isClean_220 rfl (zl_at hl 4 rfl) ?_
    refine lv_icmp_gt (tgt := 228) hx hb dL_isClean_221 (by decide) (fun c2 => ?_) (fun c2 => ?_)
    · replace hp := ite_p hp c2
      exact s_L_isClean_228 hfl C hk19 hR hL (zl_sub hl [1, 2, 3, 4, 5, 6, 0, 8, 9] rfl) hp
    · replace hp := ite_n hp c2
      refine lv_iconst (v := iI 1) hx hb dL_isClean_224 rfl ?_
      refine lv_goto (tgt := 229) hx hb dL_isClean_225 (by decide) ?_
      exact s_L_isClean_229 hfl C hk19 hR hL (zl_sub hl [1, 2, 3, 4, 5, 6, 0, 8, 9] rfl) hp
def p_L_isClean_202 (k19 : Nat → Int32 → Int32 → Int32 → Int32 → Int32 → Int32 → Int32 → Int32 → AH → Option (Int32 × AH)) (v0 : Nat) (v1 : Int32) (v2 : Int32) (v3 : Int32) (v4 : Int32) (v5 : Int32) (v6 : Int32) (v8 : Int32) (v9 : Int32) (h : AH) : Option (Int32 × AH) :=
  p_L_isClean_207 k19 v0 v1 v2 v3 v4 v5 v6 v8 v9 (iI 1) h
set_option maxHeartbeats 4000000 in
set_option maxRecDepth 100000 in
theorem s_L_isClean_202 {p : Program} {l : Launch} {e : Env} {s : State} {m : MethodId} {args : Array Value} {below : List Frame} {meth : Method} {c : Code} {G : GG} {hs : AH} {r : Int32} {h' : AH} (hfl : l.stackTraces = false) (C : Cx G hs p s m args meth c cL_isClean 11 RL (.code yL_isClean cL_isClean 11 (some .boolean) :: MW) (some .boolean) "isClean") {k19 : Nat → Int32 → Int32 → Int32 → Int32 → Int32 → Int32 → Int32 → Int32 → AH → Option (Int32 × AH)} (hk19 : ∀ {v0 : Nat} {v1 : Int32} {v2 : Int32} {v3 : Int32} {v4 : Int32} {v5 : Int32} {v6 : Int32} {v7 : Int32} {v8 : Int32} {h : AH} {H : Heap} {locs : List Loc} {cells slots : Nat} {ls : Array Slot}, Rp G h H → (∀ q ∈ locs, gB G ≤ q.base) → zl ls 11 [(0, zr v0), (1, .int v1), (2, .int v2), (3, .int v3), (4, .int v4), (5, .int v5), (6, .int v6), (7, .int v7), (8, .int v8)] → k19 v0 v1 v2 v3 v4 v5 v6 v7 v8 h = some (r, h') → W p l e (gR G hs 9 177) s m args below meth c H locs cells slots (MQ below (Qcc G (some (.int r)) h') args s (gC G - aZ hs) (gS - aU hs) (fun q => gB G ≤ q)) (F0 m 19 ls [])) {v0 : Nat} {v1 : Int32} {v2 : Int32} {v3 : Int32} {v4 : Int32} {v5 : Int32} {v6 : Int32} {v8 : Int32} {v9 : Int32} {h : AH} {H : Heap} {locs : List Loc} {cells slots : Nat} {ls : Array Slot} (hR : Rp G h H) (hL : ∀ q ∈ locs, gB G ≤ q.base) (hl : zl ls 11 [(0, zr v0), (1, .int v1), (2, .int v2), (3, .int v3), (4, .int v4), (5, .int v5), (6, .int v6), (8, .int v8), (9, .int v9)]) (hp : p_L_isClean_202 k19 v0 v1 v2 v3 v4 v5 v6 v8 v9 h = some (r, h')) : W p l e (gR G hs 9 177) s m args below meth c H locs cells slots (MQ below (Qcc G (some (.int r)) h') args s (gC G - aZ hs) (gS - aU hs) (fun q => gB G ≤ q)) (F0 m 202 ls []) := by
  obtain ⟨hx, hb, hml, hown, hts, hT, hK, rs, hlk, hret, hnm⟩ := id C
  have hm : ∀ w ∈ MW, w.before args s = true := fun w hw => hts w (hT w hw)
  unfold p_L_isClean_202 at hp
  refine lv_iconst (v := iI 1) hx hb dL_isClean_202 rfl ?_
  refine lv_goto (tgt := 207) hx hb dL_isClean_203 (by decide) ?_
  exact s_L_isClean_207 hfl C hk19 hR hL (zl_sub hl [0, 1, 2, 3, 4, 5, 6, 7, 8] rfl) hp
def p_L_isClean_206 (k19 : Nat → Int32 → Int32 → Int32 → Int32 → Int32 → Int32 → Int32 → Int32 → AH → Option (Int32 × AH)) (v0 : Nat) (v1 : Int32) (v2 : Int32) (v3 : Int32) (v4 : Int32) (v5 : Int32) (v6 : Int32) (v8 : Int32) (v9 : Int32) (h : AH) : Option (Int32 × AH) :=
  p_L_isClean_207 k19 v0 v1 v2 v3 v4 v5 v6 v8 v9 (iI 0) h
set_option maxHeartbeats 4000000 in
set_option maxRecDepth 100000 in
theorem s_L_isClean_206 {p : Program} {l : Launch} {e : Env} {s : State} {m : MethodId} {args : Array Value} {below : List Frame} {meth : Method} {c : Code} {G : GG} {hs : AH} {r : Int32} {h' : AH} (hfl : l.stackTraces = false) (C : Cx G hs p s m args meth c cL_isClean 11 RL (.code yL_isClean cL_isClean 11 (some .boolean) :: MW) (some .boolean) "isClean") {k19 : Nat → Int32 → Int32 → Int32 → Int32 → Int32 → Int32 → Int32 → Int32 → AH → Option (Int32 × AH)} (hk19 : ∀ {v0 : Nat} {v1 : Int32} {v2 : Int32} {v3 : Int32} {v4 : Int32} {v5 : Int32} {v6 : Int32} {v7 : Int32} {v8 : Int32} {h : AH} {H : Heap} {locs : List Loc} {cells slots : Nat} {ls : Array Slot}, Rp G h H → (∀ q ∈ locs, gB G ≤ q.base) → zl ls 11 [(0, zr v0), (1, .int v1), (2, .int v2), (3, .int v3), (4, .int v4), (5, .int v5), (6, .int v6), (7, .int v7), (8, .int v8)] → k19 v0 v1 v2 v3 v4 v5 v6 v7 v8 h = some (r, h') → W p l e (gR G hs 9 177) s m args below meth c H locs cells slots (MQ below (Qcc G (some (.int r)) h') args s (gC G - aZ hs) (gS - aU hs) (fun q => gB G ≤ q)) (F0 m 19 ls [])) {v0 : Nat} {v1 : Int32} {v2 : Int32} {v3 : Int32} {v4 : Int32} {v5 : Int32} {v6 : Int32} {v8 : Int32} {v9 : Int32} {h : AH} {H : Heap} {locs : List Loc} {cells slots : Nat} {ls : Array Slot} (hR : Rp G h H) (hL : ∀ q ∈ locs, gB G ≤ q.base) (hl : zl ls 11 [(0, zr v0), (1, .int v1), (2, .int v2), (3, .int v3), (4, .int v4), (5, .int v5), (6, .int v6), (8, .int v8), (9, .int v9)]) (hp : p_L_isClean_206 k19 v0 v1 v2 v3 v4 v5 v6 v8 v9 h = some (r, h')) : W p l e (gR G hs 9 177) s m args below meth c H locs cells slots (MQ below (Qcc G (some (.int r)) h') args s (gC G - aZ hs) (gS - aU hs) (fun q => gB G ≤ q)) (F0 m 206 ls []) := by
  obtain ⟨hx, hb, hml, hown, hts, hT, hK, rs, hlk, hret, hnm⟩ := id C
  have hm : ∀ w ∈ MW, w.before args s = true := fun w hw => hts w (hT w hw)
  unfold p_L_isClean_206 at hp
  refine lv_iconst (v := iI 0) hx hb dL_isClean_206 rfl ?_
  exact s_L_isClean_207 hfl C hk19 hR hL (zl_sub hl [0, 1, 2, 3, 4, 5, 6, 7, 8] rfl) hp
def p_L_isClean_172 (k19 : Nat → Int32 → Int32 → Int32 → Int32 → Int32 → Int32 → Int32 → Int32 → AH → Option (Int32 × AH)) (v0 : Nat) (v1 : Int32) (v2 : Int32) (v3 : Int32) (v4 : Int32) (v5 : Int32) (v6 : Int32) (v8 : Int32) (v9 : Int32) (s0 : Int32) (h : AH) : Option (Int32 × AH) :=
  if s0 = 0 then
    p_L_isClean_206 k19 v0 v1 v2 v3 v4 v5 v6 v8 v9 h
  else
    if v2 = (iI 3) then
      if v9 = (iI 47) then
        if v5 ≤ v3 then
          p_L_isClean_202 k19 v0 v1 v2 v3 v4 v5 v6 v8 v9 h
        else
          if v6 = 0 then
            p_L_isClean_202 k19 v0 v1 v2 v3 v4 v5 v6 v8 v9 h
          else
            p_L_isClean_206 k19 v0 v1 v2 v3 v4 v5 v6 v8 v9 h
      else
        p_L_isClean_202 k19 v0 v1 v2 v3 v4 v5 v6 v8 v9 h
    else
      p_L_isClean_202 k19 v0 v1 v2 v3 v4 v5 v6 v8 v9 h
set_option maxHeartbeats 4000000 in
set_option maxRecDepth 100000 in
theorem s_L_isClean_172 {p : Program} {l : Launch} {e : Env} {s : State} {m : MethodId} {args : Array Value} {below : List Frame} {meth : Method} {c : Code} {G : GG} {hs : AH} {r : Int32} {h' : AH} (hfl : l.stackTraces = false) (C : Cx G hs p s m args meth c cL_isClean 11 RL (.code yL_isClean cL_isClean 11 (some .boolean) :: MW) (some .boolean) "isClean") {k19 : Nat → Int32 → Int32 → Int32 → Int32 → Int32 → Int32 → Int32 → Int32 → AH → Option (Int32 × AH)} (hk19 : ∀ {v0 : Nat} {v1 : Int32} {v2 : Int32} {v3 : Int32} {v4 : Int32} {v5 : Int32} {v6 : Int32} {v7 : Int32} {v8 : Int32} {h : AH} {H : Heap} {locs : List Loc} {cells slots : Nat} {ls : Array Slot}, Rp G h H → (∀ q ∈ locs, gB G ≤ q.base) → zl ls 11 [(0, zr v0), (1, .int v1), (2, .int v2), (3, .int v3), (4, .int v4), (5, .int v5), (6, .int v6), (7, .int v7), (8, .int v8)] → k19 v0 v1 v2 v3 v4 v5 v6 v7 v8 h = some (r, h') → W p l e (gR G hs 9 177) s m args below meth c H locs cells slots (MQ below (Qcc G (some (.int r)) h') args s (gC G - aZ hs) (gS - aU hs) (fun q => gB G ≤ q)) (F0 m 19 ls [])) {v0 : Nat} {v1 : Int32} {v2 : Int32} {v3 : Int32} {v4 : Int32} {v5 : Int32} {v6 : Int32} {v8 : Int32} {v9 : Int32} {s0 : Int32} {h : AH} {H : Heap} {locs : List Loc} {cells slots : Nat} {ls : Array Slot} (hR : Rp G h H) (hL : ∀ q ∈ locs, gB G ≤ q.base) (hl : zl ls 11 [(0, zr v0), (1, .int v1), (2, .int v2), (3, .int v3), (4, .int v4), (5, .int v5), (6, .int v6), (8, .int v8), (9, .int v9)]) (hp : p_L_isClean_172 k19 v0 v1 v2 v3 v4 v5 v6 v8 v9 s0 h = some (r, h')) : W p l e (gR G hs 9 177) s m args below meth c H locs cells slots (MQ below (Qcc G (some (.int r)) h') args s (gC G - aZ hs) (gS - aU hs) (fun q => gB G ≤ q)) (F0 m 172 ls [.int s0]) := by
  obtain ⟨hx, hb, hml, hown, hts, hT, hK, rs, hlk, hret, hnm⟩ := id C
  have hm : ∀ w ∈ MW, w.before args s = true := fun w hw => hts w (hT w hw)
  unfold p_L_isClean_172 at hp
  refine z_istore (lv' := [(7, .int s0), (0, zr v0), (1, .int v1), (2, .int v2), (3, .int v3), (4, .int v4), (5, .int v5), (6, .int v6), (8, .int v8), (9, .int v9)]) hx hb dL_isClean_172 hl (by decide) rfl (fun ls hl => ?_)
  refine lv_iload hx hb dL_isClean_174 (zl_at hl 0 rfl) ?_
  refine lv_if_eq (tgt := 206) hx hb dL_isClean_176 (by decide) (fun c1 => ?_) (fun c1 => ?_)
  · replace hp := ite_p hp c1
    exact s_L_isClean_206 hfl C hk19 hR hL (zl_sub hl [1, 2, 3, 4, 5, 6, 7, 8, 9] rfl) hp
  · replace hp := ite_n hp c1
    refine lv_iload_n hx hb dL_isClean_179 rfl (zl_at hl 3 rfl) ?_
    refine lv_iconst (v := iI 3) hx hb dL_isClean_180 rfl ?_
    refine lv_icmp_ne (tgt := 202) hx hb dL_isClean_181 (by decide) (fun c2 => ?_) (fun c2 => ?_)
    · replace hp := ite_n hp c2
      exact s_L_isClean_202 hfl C hk19 hR hL (zl_sub hl [1, 2, 3, 4, 5, 6, 7, 8, 9] rfl) hp
    · replace hp := ite_p hp c2
      refine lv_iload hx hb dL_isClean_184 (zl_at hl 9 rfl) ?_
      refine lv_bipush (v := iI 47) hx hb dL_isClean_186 (by decide +kernel) ?_
      refine lv_icmp_ne (tgt := 202) hx hb dL_isClean_188 (by decide) (fun c3 => ?_) (fun c3 => ?_)
      · replace hp := ite_n hp c3
        exact s_L_isClean_202 hfl C hk19 hR hL (zl_sub hl [1, 2, 3, 4, 5, 6, 7, 8, 9] rfl) hp
      · replace hp := ite_p hp c3
        refine lv_iload hx hb dL_isClean_191 (zl_at hl 6 rfl) ?_
        refine lv_iload_n hx hb dL_isClean_193 rfl (zl_at hl 4 rfl) ?_
        refine lv_icmp_le (tgt := 202) hx hb dL_isClean_194 (by decide) (fun c4 => ?_) (fun c4 => ?_)
        · replace hp := ite_p hp c4
          exact s_L_isClean_202 hfl C hk19 hR hL (zl_sub hl [1, 2, 3, 4, 5, 6, 7, 8, 9] rfl) hp
        · replace hp := ite_n hp c4
          refine lv_iload hx hb dL_isClean_197 (zl_at hl 7 rfl) ?_
          refine lv_if_ne (tgt := 206) hx hb dL_isClean_199 (by decide) (fun c5 => ?_) (fun c5 => ?_)
          · replace hp := ite_n hp c5
            exact s_L_isClean_206 hfl C hk19 hR hL (zl_sub hl [1, 2, 3, 4, 5, 6, 7, 8, 9] rfl) hp
          · replace hp := ite_p hp c5
            exact s_L_isClean_202 hfl C hk19 hR hL (zl_sub hl [1, 2, 3, 4, 5, 6, 7, 8, 9] rfl) hp
def p_L_isClean_167 (k19 : Nat → Int32 → Int32 → Int32 → Int32 → Int32 → Int32 → Int32 → Int32 → AH → Option (Int32 × AH)) (v0 : Nat) (v1 : Int32) (v2 : Int32) (v3 : Int32) (v4 : Int32) (v5 : Int32) (v6 : Int32) (v8 : Int32) (v9 : Int32) (h : AH) : Option (Int32 × AH) :=
  p_L_isClean_172 k19 v0 v1 v2 v3 v4 v5 v6 v8 v9 (iI 1) h
set_option maxHeartbeats 4000000 in
set_option maxRecDepth 100000 in
theorem s_L_isClean_167 {p : Program} {l : Launch} {e : Env} {s : State} {m : MethodId} {args : Array Value} {below : List Frame} {meth : Method} {c : Code} {G : GG} {hs : AH} {r : Int32} {h' : AH} (hfl : l.stackTraces = false) (C : Cx G hs p s m args meth c cL_isClean 11 RL (.code yL_isClean cL_isClean 11 (some .boolean) :: MW) (some .boolean) "isClean") {k19 : Nat → Int32 → Int32 → Int32 → Int32 → Int32 → Int32 → Int32 → Int32 → AH → Option (Int32 × AH)} (hk19 : ∀ {v0 : Nat} {v1 : Int32} {v2 : Int32} {v3 : Int32} {v4 : Int32} {v5 : Int32} {v6 : Int32} {v7 : Int32} {v8 : Int32} {h : AH} {H : Heap} {locs : List Loc} {cells slots : Nat} {ls : Array Slot}, Rp G h H → (∀ q ∈ locs, gB G ≤ q.base) → zl ls 11 [(0, zr v0), (1, .int v1), (2, .int v2), (3, .int v3), (4, .int v4), (5, .int v5), (6, .int v6), (7, .int v7), (8, .int v8)] → k19 v0 v1 v2 v3 v4 v5 v6 v7 v8 h = some (r, h') → W p l e (gR G hs 9 177) s m args below meth c H locs cells slots (MQ below (Qcc G (some (.int r)) h') args s (gC G - aZ hs) (gS - aU hs) (fun q => gB G ≤ q)) (F0 m 19 ls [])) {v0 : Nat} {v1 : Int32} {v2 : Int32} {v3 : Int32} {v4 : Int32} {v5 : Int32} {v6 : Int32} {v8 : Int32} {v9 : Int32} {h : AH} {H : Heap} {locs : List Loc} {cells slots : Nat} {ls : Array Slot} (hR : Rp G h H) (hL : ∀ q ∈ locs, gB G ≤ q.base) (hl : zl ls 11 [(0, zr v0), (1, .int v1), (2, .int v2), (3, .int v3), (4, .int v4), (5, .int v5), (6, .int v6), (8, .int v8), (9, .int v9)]) (hp : p_L_isClean_167 k19 v0 v1 v2 v3 v4 v5 v6 v8 v9 h = some (r, h')) : W p l e (gR G hs 9 177) s m args below meth c H locs cells slots (MQ below (Qcc G (some (.int r)) h') args s (gC G - aZ hs) (gS - aU hs) (fun q => gB G ≤ q)) (F0 m 167 ls []) := by
  obtain ⟨hx, hb, hml, hown, hts, hT, hK, rs, hlk, hret, hnm⟩ := id C
  have hm : ∀ w ∈ MW, w.before args s = true := fun w hw => hts w (hT w hw)
  unfold p_L_isClean_167 at hp
  refine lv_iconst (v := iI 1) hx hb dL_isClean_167 rfl ?_
  refine lv_goto (tgt := 172) hx hb dL_isClean_168 (by decide) ?_
  exact s_L_isClean_172 hfl C hk19 hR hL (zl_sub hl [0, 1, 2, 3, 4, 5, 6, 7, 8] rfl) hp
def p_L_isClean_171 (k19 : Nat → Int32 → Int32 → Int32 → Int32 → Int32 → Int32 → Int32 → Int32 → AH → Option (Int32 × AH)) (v0 : Nat) (v1 : Int32) (v2 : Int32) (v3 : Int32) (v4 : Int32) (v5 : Int32) (v6 : Int32) (v8 : Int32) (v9 : Int32) (h : AH) : Option (Int32 × AH) :=
  p_L_isClean_172 k19 v0 v1 v2 v3 v4 v5 v6 v8 v9 (iI 0) h
set_option maxHeartbeats 4000000 in
set_option maxRecDepth 100000 in
theorem s_L_isClean_171 {p : Program} {l : Launch} {e : Env} {s : State} {m : MethodId} {args : Array Value} {below : List Frame} {meth : Method} {c : Code} {G : GG} {hs : AH} {r : Int32} {h' : AH} (hfl : l.stackTraces = false) (C : Cx G hs p s m args meth c cL_isClean 11 RL (.code yL_isClean cL_isClean 11 (some .boolean) :: MW) (some .boolean) "isClean") {k19 : Nat → Int32 → Int32 → Int32 → Int32 → Int32 → Int32 → Int32 → Int32 → AH → Option (Int32 × AH)} (hk19 : ∀ {v0 : Nat} {v1 : Int32} {v2 : Int32} {v3 : Int32} {v4 : Int32} {v5 : Int32} {v6 : Int32} {v7 : Int32} {v8 : Int32} {h : AH} {H : Heap} {locs : List Loc} {cells slots : Nat} {ls : Array Slot}, Rp G h H → (∀ q ∈ locs, gB G ≤ q.base) → zl ls 11 [(0, zr v0), (1, .int v1), (2, .int v2), (3, .int v3), (4, .int v4), (5, .int v5), (6, .int v6), (7, .int v7), (8, .int v8)] → k19 v0 v1 v2 v3 v4 v5 v6 v7 v8 h = some (r, h') → W p l e (gR G hs 9 177) s m args below meth c H locs cells slots (MQ below (Qcc G (some (.int r)) h') args s (gC G - aZ hs) (gS - aU hs) (fun q => gB G ≤ q)) (F0 m 19 ls [])) {v0 : Nat} {v1 : Int32} {v2 : Int32} {v3 : Int32} {v4 : Int32} {v5 : Int32} {v6 : Int32} {v8 : Int32} {v9 : Int32} {h : AH} {H : Heap} {locs : List Loc} {cells slots : Nat} {ls : Array Slot} (hR : Rp G h H) (hL : ∀ q ∈ locs, gB G ≤ q.base) (hl : zl ls 11 [(0, zr v0), (1, .int v1), (2, .int v2), (3, .int v3), (4, .int v4), (5, .int v5), (6, .int v6), (8, .int v8), (9, .int v9)]) (hp : p_L_isClean_171 k19 v0 v1 v2 v3 v4 v5 v6 v8 v9 h = some (r, h')) : W p l e (gR G hs 9 177) s m args below meth c H locs cells slots (MQ below (Qcc G (some (.int r)) h') args s (gC G - aZ hs) (gS - aU hs) (fun q => gB G ≤ q)) (F0 m 171 ls []) := by
  obtain ⟨hx, hb, hml, hown, hts, hT, hK, rs, hlk, hret, hnm⟩ := id C
  have hm : ∀ w ∈ MW, w.before args s = true := fun w hw => hts w (hT w hw)
  unfold p_L_isClean_171 at hp
  refine lv_iconst (v := iI 0) hx hb dL_isClean_171 rfl ?_
  exact s_L_isClean_172 hfl C hk19 hR hL (zl_sub hl [0, 1, 2, 3, 4, 5, 6, 7, 8] rfl) hp
def p_L_isClean_127 (k19 : Nat → Int32 → Int32 → Int32 → Int32 → Int32 → Int32 → Int32 → Int32 → AH → Option (Int32 × AH)) (v0 : Nat) (v1 : Int32) (v2 : Int32) (v3 : Int32) (v4 : Int32) (v5 : Int32) (v6 : Int32) (v8 : Int32) (v9 : Int32) (v10 : Int32) (s0 : Int32) (h : AH) : Option (Int32 × AH) :=
  if s0 = 0 then
    p_L_isClean_171 k19 v0 v1 v2 v3 v4 v5 v6 v8 v9 h
  else
    if v2 = (iI 2) then
      if v8 = v4 then
        p_L_isClean_167 k19 v0 v1 v2 v3 v4 v5 v6 v8 v9 h
      else
        if v10 = (iI 47) then
          if v9 < (iI 97) then
            p_L_isClean_167 k19 v0 v1 v2 v3 v4 v5 v6 v8 v9 h
          else
            if v9 ≤ (iI 122) then
              p_L_isClean_171 k19 v0 v1 v2 v3 v4 v5 v6 v8 v9 h
            else
              p_L_isClean_167 k19 v0 v1 v2 v3 v4 v5 v6 v8 v9 h
        else
          p_L_isClean_167 k19 v0 v1 v2 v3 v4 v5 v6 v8 v9 h
    else
      p_L_isClean_167 k19 v0 v1 v2 v3 v4 v5 v6 v8 v9 h
set_option maxHeartbeats 4000000 in
set_option maxRecDepth 100000 in
theorem s_L_isClean_127 {p : Program} {l : Launch} {e : Env} {s : State} {m : MethodId} {args : Array Value} {below : List Frame} {meth : Method} {c : Code} {G : GG} {hs : AH} {r : Int32} {h' : AH} (hfl : l.stackTraces = false) (C : Cx G hs p s m args meth c cL_isClean 11 RL (.code yL_isClean cL_isClean 11 (some .boolean) :: MW) (some .boolean) "isClean") {k19 : Nat → Int32 → Int32 → Int32 → Int32 → Int32 → Int32 → Int32 → Int32 → AH → Option (Int32 × AH)} (hk19 : ∀ {v0 : Nat} {v1 : Int32} {v2 : Int32} {v3 : Int32} {v4 : Int32} {v5 : Int32} {v6 : Int32} {v7 : Int32} {v8 : Int32} {h : AH} {H : Heap} {locs : List Loc} {cells slots : Nat} {ls : Array Slot}, Rp G h H → (∀ q ∈ locs, gB G ≤ q.base) → zl ls 11 [(0, zr v0), (1, .int v1), (2, .int v2), (3, .int v3), (4, .int v4), (5, .int v5), (6, .int v6), (7, .int v7), (8, .int v8)] → k19 v0 v1 v2 v3 v4 v5 v6 v7 v8 h = some (r, h') → W p l e (gR G hs 9 177) s m args below meth c H locs cells slots (MQ below (Qcc G (some (.int r)) h') args s (gC G - aZ hs) (gS - aU hs) (fun q => gB G ≤ q)) (F0 m 19 ls [])) {v0 : Nat} {v1 : Int32} {v2 : Int32} {v3 : Int32} {v4 : Int32} {v5 : Int32} {v6 : Int32} {v8 : Int32} {v9 : Int32} {v10 : Int32} {s0 : Int32} {h : AH} {H : Heap} {locs : List Loc} {cells slots : Nat} {ls : Array Slot} (hR : Rp G h H) (hL : ∀ q ∈ locs, gB G ≤ q.base) (hl : zl ls 11 [(0, zr v0), (1, .int v1), (2, .int v2), (3, .int v3), (4, .int v4), (5, .int v5), (6, .int v6), (8, .int v8), (9, .int v9), (10, .int v10)]) (hp : p_L_isClean_127 k19 v0 v1 v2 v3 v4 v5 v6 v8 v9 v10 s0 h = some (r, h')) : W p l e (gR G hs 9 177) s m args below meth c H locs cells slots (MQ below (Qcc G (some (.int r)) h') args s (gC G - aZ hs) (gS - aU hs) (fun q => gB G ≤ q)) (F0 m 127 ls [.int s0]) := by
  obtain ⟨hx, hb, hml, hown, hts, hT, hK, rs, hlk, hret, hnm⟩ := id C
  have hm : ∀ w ∈ MW, w.before args s = true := fun w hw => hts w (hT w hw)
  unfold p_L_isClean_127 at hp
  refine z_istore (lv' := [(7, .int s0), (0, zr v0), (1, .int v1), (2, .int v2), (3, .int v3), (4, .int v4), (5, .int v5), (6, .int v6), (8, .int v8), (9, .int v9), (10, .int v10)]) hx hb dL_isClean_127 hl (by decide) rfl (fun ls hl => ?_)
  refine lv_iload hx hb dL_isClean_129 (zl_at hl 0 rfl) ?_
  refine lv_if_eq (tgt := 171) hx hb dL_isClean_131 (by decide) (fun c1 => ?_) (fun c1 => ?_)
  · replace hp := ite_p hp c1
    exact s_L_isClean_171 hfl C hk19 hR hL (zl_sub hl [1, 2, 3, 4, 5, 6, 7, 8, 9] rfl) hp
  · replace hp := ite_n hp c1
    refine lv_iload_n hx hb dL_isClean_134 rfl (zl_at hl 3 rfl) ?_
    refine lv_iconst (v := iI 2) hx hb dL_isClean_135 rfl ?_
    refine lv_icmp_ne (tgt := 167) hx hb dL_isClean_136 (by decide) (fun c2 => ?_) (fun c2 => ?_)
    · replace hp := ite_n hp c2
      exact s_L_isClean_167 hfl C hk19 hR hL (zl_sub hl [1, 2, 3, 4, 5, 6, 7, 8, 9] rfl) hp
    · replace hp := ite_p hp c2
      refine lv_iload hx hb dL_isClean_139 (zl_at hl 8 rfl) ?_
      refine lv_iload hx hb dL_isClean_141 (zl_at hl 5 rfl) ?_
      refine lv_icmp_eq (tgt := 167) hx hb dL_isClean_143 (by decide) (fun c3 => ?_) (fun c3 => ?_)
      · replace hp := ite_p hp c3
        exact s_L_isClean_167 hfl C hk19 hR hL (zl_sub hl [1, 2, 3, 4, 5, 6, 7, 8, 9] rfl) hp
      · replace hp := ite_n hp c3
        refine lv_iload hx hb dL_isClean_146 (zl_at hl 10 rfl) ?_
        refine lv_bipush (v := iI 47) hx hb dL_isClean_148 (by decide +kernel) ?_
        refine lv_icmp_ne (tgt := 167) hx hb dL_isClean_150 (by decide) (fun c4 => ?_) (fun c4 => ?_)
        · replace hp := ite_n hp c4
          exact s_L_isClean_167 hfl C hk19 hR hL (zl_sub hl [1, 2, 3, 4, 5, 6, 7, 8, 9] rfl) hp
        · replace hp := ite_p hp c4
          refine lv_iload hx hb dL_isClean_153 (zl_at hl 9 rfl) ?_
          refine lv_bipush (v := iI 97) hx hb dL_isClean_155 (by decide +kernel) ?_
          refine lv_icmp_lt (tgt := 167) hx hb dL_isClean_157 (by decide) (fun c5 => ?_) (fun c5 => ?_)
          · replace hp := ite_p hp c5
            exact s_L_isClean_167 hfl C hk19 hR hL (zl_sub hl [1, 2, 3, 4, 5, 6, 7, 8, 9] rfl) hp
          · replace hp := ite_n hp c5
            refine lv_iload hx hb dL_isClean_160 (zl_at hl 9 rfl) ?_
            refine lv_bipush (v := iI 122) hx hb dL_isClean_162 (by decide +kernel) ?_
            refine lv_icmp_le (tgt := 171) hx hb dL_isClean_164 (by decide) (fun c6 => ?_) (fun c6 => ?_)
            · replace hp := ite_p hp c6
              exact s_L_isClean_171 hfl C hk19 hR hL (zl_sub hl [1, 2, 3, 4, 5, 6, 7, 8, 9] rfl) hp
            · replace hp := ite_n hp c6
              exact s_L_isClean_167 hfl C hk19 hR hL (zl_sub hl [1, 2, 3, 4, 5, 6, 7, 8, 9] rfl) hp
def p_L_isClean_122 (k19 : Nat → Int32 → Int32 → Int32 → Int32 → Int32 → Int32 → Int32 → Int32 → AH → Option (Int32 × AH)) (v0 : Nat) (v1 : Int32) (v2 : Int32) (v3 : Int32) (v4 : Int32) (v5 : Int32) (v6 : Int32) (v8 : Int32) (v9 : Int32) (v10 : Int32) (h : AH) : Option (Int32 × AH) :=
  p_L_isClean_127 k19 v0 v1 v2 v3 v4 v5 v6 v8 v9 v10 (iI 1) h
set_option maxHeartbeats 4000000 in
set_option maxRecDepth 100000 in
theorem s_L_isClean_122 {p : Program} {l : Launch} {e : Env} {s : State} {m : MethodId} {args : Array Value} {below : List Frame} {meth : Method} {c : Code} {G : GG} {hs : AH} {r : Int32} {h' : AH} (hfl : l.stackTraces = false) (C : Cx G hs p s m args meth c cL_isClean 11 RL (.code yL_isClean cL_isClean 11 (some .boolean) :: MW) (some .boolean) "isClean") {k19 : Nat → Int32 → Int32 → Int32 → Int32 → Int32 → Int32 → Int32 → Int32 → AH → Option (Int32 × AH)} (hk19 : ∀ {v0 : Nat} {v1 : Int32} {v2 : Int32} {v3 : Int32} {v4 : Int32} {v5 : Int32} {v6 : Int32} {v7 : Int32} {v8 : Int32} {h : AH} {H : Heap} {locs : List Loc} {cells slots : Nat} {ls : Array Slot}, Rp G h H → (∀ q ∈ locs, gB G ≤ q.base) → zl ls 11 [(0, zr v0), (1, .int v1), (2, .int v2), (3, .int v3), (4, .int v4), (5, .int v5), (6, .int v6), (7, .int v7), (8, .int v8)] → k19 v0 v1 v2 v3 v4 v5 v6 v7 v8 h = some (r, h') → W p l e (gR G hs 9 177) s m args below meth c H locs cells slots (MQ below (Qcc G (some (.int r)) h') args s (gC G - aZ hs) (gS - aU hs) (fun q => gB G ≤ q)) (F0 m 19 ls [])) {v0 : Nat} {v1 : Int32} {v2 : Int32} {v3 : Int32} {v4 : Int32} {v5 : Int32} {v6 : Int32} {v8 : Int32} {v9 : Int32} {v10 : Int32} {h : AH} {H : Heap} {locs : List Loc} {cells slots : Nat} {ls : Array Slot} (hR : Rp G h H) (hL : ∀ q ∈ locs, gB G ≤ q.base) (hl : zl ls 11 [(0, zr v0), (1, .int v1), (2, .int v2), (3, .int v3), (4, .int v4), (5, .int v5), (6, .int v6), (8, .int v8), (9, .int v9), (10, .int v10)]) (hp : p_L_isClean_122 k19 v0 v1 v2 v3 v4 v5 v6 v8 v9 v10 h = some (r, h')) : W p l e (gR G hs 9 177) s m args below meth c H locs cells slots (MQ below (Qcc G (some (.int r)) h') args s (gC G - aZ hs) (gS - aU hs) (fun q => gB G ≤ q)) (F0 m 122 ls []) := by
  obtain ⟨hx, hb, hml, hown, hts, hT, hK, rs, hlk, hret, hnm⟩ := id C
  have hm : ∀ w ∈ MW, w.before args s = true := fun w hw => hts w (hT w hw)
  unfold p_L_isClean_122 at hp
  refine lv_iconst (v := iI 1) hx hb dL_isClean_122 rfl ?_
  refine lv_goto (tgt := 127) hx hb dL_isClean_123 (by decide) ?_
  exact s_L_isClean_127 hfl C hk19 hR hL (zl_sub hl [0, 1, 2, 3, 4, 5, 6, 7, 8, 9] rfl) hp
def p_L_isClean_126 (k19 : Nat → Int32 → Int32 → Int32 → Int32 → Int32 → Int32 → Int32 → Int32 → AH → Option (Int32 × AH)) (v0 : Nat) (v1 : Int32) (v2 : Int32) (v3 : Int32) (v4 : Int32) (v5 : Int32) (v6 : Int32) (v8 : Int32) (v9 : Int32) (v10 : Int32) (h : AH) : Option (Int32 × AH) :=
  p_L_isClean_127 k19 v0 v1 v2 v3 v4 v5 v6 v8 v9 v10 (iI 0) h
set_option maxHeartbeats 4000000 in
set_option maxRecDepth 100000 in
theorem s_L_isClean_126 {p : Program} {l : Launch} {e : Env} {s : State} {m : MethodId} {args : Array Value} {below : List Frame} {meth : Method} {c : Code} {G : GG} {hs : AH} {r : Int32} {h' : AH} (hfl : l.stackTraces = false) (C : Cx G hs p s m args meth c cL_isClean 11 RL (.code yL_isClean cL_isClean 11 (some .boolean) :: MW) (some .boolean) "isClean") {k19 : Nat → Int32 → Int32 → Int32 → Int32 → Int32 → Int32 → Int32 → Int32 → AH → Option (Int32 × AH)} (hk19 : ∀ {v0 : Nat} {v1 : Int32} {v2 : Int32} {v3 : Int32} {v4 : Int32} {v5 : Int32} {v6 : Int32} {v7 : Int32} {v8 : Int32} {h : AH} {H : Heap} {locs : List Loc} {cells slots : Nat} {ls : Array Slot}, Rp G h H → (∀ q ∈ locs, gB G ≤ q.base) → zl ls 11 [(0, zr v0), (1, .int v1), (2, .int v2), (3, .int v3), (4, .int v4), (5, .int v5), (6, .int v6), (7, .int v7), (8, .int v8)] → k19 v0 v1 v2 v3 v4 v5 v6 v7 v8 h = some (r, h') → W p l e (gR G hs 9 177) s m args below meth c H locs cells slots (MQ below (Qcc G (some (.int r)) h') args s (gC G - aZ hs) (gS - aU hs) (fun q => gB G ≤ q)) (F0 m 19 ls [])) {v0 : Nat} {v1 : Int32} {v2 : Int32} {v3 : Int32} {v4 : Int32} {v5 : Int32} {v6 : Int32} {v8 : Int32} {v9 : Int32} {v10 : Int32} {h : AH} {H : Heap} {locs : List Loc} {cells slots : Nat} {ls : Array Slot} (hR : Rp G h H) (hL : ∀ q ∈ locs, gB G ≤ q.base) (hl : zl ls 11 [(0, zr v0), (1, .int v1), (2, .int v2), (3, .int v3), (4, .int v4), (5, .int v5), (6, .int v6), (8, .int v8), (9, .int v9), (10, .int v10)]) (hp : p_L_isClean_126 k19 v0 v1 v2 v3 v4 v5 v6 v8 v9 v10 h = some (r, h')) : W p l e (gR G hs 9 177) s m args below meth c H locs cells slots (MQ below (Qcc G (some (.int r)) h') args s (gC G - aZ hs) (gS - aU hs) (fun q => gB G ≤ q)) (F0 m 126 ls []) := by
  obtain ⟨hx, hb, hml, hown, hts, hT, hK, rs, hlk, hret, hnm⟩ := id C
  have hm : ∀ w ∈ MW, w.before args s = true := fun w hw => hts w (hT w hw)
  unfold p_L_isClean_126 at hp
  refine lv_iconst (v := iI 0) hx hb dL_isClean_126 rfl ?_
  exact s_L_isClean_127 hfl C hk19 hR hL (zl_sub hl [0, 1, 2, 3, 4, 5, 6, 7, 8, 9] rfl) hp
def p_L_isClean_96 (k19 : Nat → Int32 → Int32 → Int32 → Int32 → Int32 → Int32 → Int32 → Int32 → AH → Option (Int32 × AH)) (v0 : Nat) (v1 : Int32) (v2 : Int32) (v3 : Int32) (v4 : Int32) (v5 : Int32) (v6 : Int32) (v8 : Int32) (v9 : Int32) (v10 : Int32) (s0 : Int32) (h : AH) : Option (Int32 × AH) :=
  if s0 = 0 then
    p_L_isClean_126 k19 v0 v1 v2 v3 v4 v5 v6 v8 v9 v10 h
  else
    if v2 = (iI 1) then
      if v9 = (iI 47) then
        if v10 = (iI 32) then
          p_L_isClean_126 k19 v0 v1 v2 v3 v4 v5 v6 v8 v9 v10 h
        else
          p_L_isClean_122 k19 v0 v1 v2 v3 v4 v5 v6 v8 v9 v10 h
      else
        p_L_isClean_122 k19 v0 v1 v2 v3 v4 v5 v6 v8 v9 v10 h
    else
      p_L_isClean_122 k19 v0 v1 v2 v3 v4 v5 v6 v8 v9 v10 h
set_option maxHeartbeats 4000000 in
set_option maxRecDepth 100000 in
theorem s_L_isClean_96 {p : Program} {l : Launch} {e : Env} {s : State} {m : MethodId} {args : Array Value} {below : List Frame} {meth : Method} {c : Code} {G : GG} {hs : AH} {r : Int32} {h' : AH} (hfl : l.stackTraces = false) (C : Cx G hs p s m args meth c cL_isClean 11 RL (.code yL_isClean cL_isClean 11 (some .boolean) :: MW) (some .boolean) "isClean") {k19 : Nat → Int32 → Int32 → Int32 → Int32 → Int32 → Int32 → Int32 → Int32 → AH → Option (Int32 × AH)} (hk19 : ∀ {v0 : Nat} {v1 : Int32} {v2 : Int32} {v3 : Int32} {v4 : Int32} {v5 : Int32} {v6 : Int32} {v7 : Int32} {v8 : Int32} {h : AH} {H : Heap} {locs : List Loc} {cells slots : Nat} {ls : Array Slot}, Rp G h H → (∀ q ∈ locs, gB G ≤ q.base) → zl ls 11 [(0, zr v0), (1, .int v1), (2, .int v2), (3, .int v3), (4, .int v4), (5, .int v5), (6, .int v6), (7, .int v7), (8, .int v8)] → k19 v0 v1 v2 v3 v4 v5 v6 v7 v8 h = some (r, h') → W p l e (gR G hs 9 177) s m args below meth c H locs cells slots (MQ below (Qcc G (some (.int r)) h') args s (gC G - aZ hs) (gS - aU hs) (fun q => gB G ≤ q)) (F0 m 19 ls [])) {v0 : Nat} {v1 : Int32} {v2 : Int32} {v3 : Int32} {v4 : Int32} {v5 : Int32} {v6 : Int32} {v8 : Int32} {v9 : Int32} {v10 : Int32} {s0 : Int32} {h : AH} {H : Heap} {locs : List Loc} {cells slots : Nat} {ls : Array Slot} (hR : Rp G h H) (hL : ∀ q ∈ locs, gB G ≤ q.base) (hl : zl ls 11 [(0, zr v0), (1, .int v1), (2, .int v2), (3, .int v3), (4, .int v4), (5, .int v5), (6, .int v6), (8, .int v8), (9, .int v9), (10, .int v10)]) (hp : p_L_isClean_96 k19 v0 v1 v2 v3 v4 v5 v6 v8 v9 v10 s0 h = some (r, h')) : W p l e (gR G hs 9 177) s m args below meth c H locs cells slots (MQ below (Qcc G (some (.int r)) h') args s (gC G - aZ hs) (gS - aU hs) (fun q => gB G ≤ q)) (F0 m 96 ls [.int s0]) := by
  obtain ⟨hx, hb, hml, hown, hts, hT, hK, rs, hlk, hret, hnm⟩ := id C
  have hm : ∀ w ∈ MW, w.before args s = true := fun w hw => hts w (hT w hw)
  unfold p_L_isClean_96 at hp
  refine z_istore (lv' := [(7, .int s0), (0, zr v0), (1, .int v1), (2, .int v2), (3, .int v3), (4, .int v4), (5, .int v5), (6, .int v6), (8, .int v8), (9, .int v9), (10, .int v10)]) hx hb dL_isClean_96 hl (by decide) rfl (fun ls hl => ?_)
  refine lv_iload hx hb dL_isClean_98 (zl_at hl 0 rfl) ?_
  refine lv_if_eq (tgt := 126) hx hb dL_isClean_100 (by decide) (fun c1 => ?_) (fun c1 => ?_)
  · replace hp := ite_p hp c1
    exact s_L_isClean_126 hfl C hk19 hR hL (zl_sub hl [1, 2, 3, 4, 5, 6, 7, 8, 9, 10] rfl) hp
  · replace hp := ite_n hp c1
    refine lv_iload_n hx hb dL_isClean_103 rfl (zl_at hl 3 rfl) ?_
    refine lv_iconst (v := iI 1) hx hb dL_isClean_104 rfl ?_
    refine lv_icmp_ne (tgt := 122) hx hb dL_isClean_105 (by decide) (fun c2 => ?_) (fun c2 => ?_)
    · replace hp := ite_n hp c2
      exact s_L_isClean_122 hfl C hk19 hR hL (zl_sub hl [1, 2, 3, 4, 5, 6, 7, 8, 9, 10] rfl) hp
    · replace hp := ite_p hp c2
      refine lv_iload hx hb dL_isClean_108 (zl_at hl 9 rfl) ?_
      refine lv_bipush (v := iI 47) hx hb dL_isClean_110 (by decide +kernel) ?_
      refine lv_icmp_ne (tgt := 122) hx hb dL_isClean_112 (by decide) (fun c3 => ?_) (fun c3 => ?_)
      · replace hp := ite_n hp c3
        exact s_L_isClean_122 hfl C hk19 hR hL (zl_sub hl [1, 2, 3, 4, 5, 6, 7, 8, 9, 10] rfl) hp
      · replace hp := ite_p hp c3
        refine lv_iload hx hb dL_isClean_115 (zl_at hl 10 rfl) ?_
        refine lv_bipush (v := iI 32) hx hb dL_isClean_117 (by decide +kernel) ?_
        refine lv_icmp_eq (tgt := 126) hx hb dL_isClean_119 (by decide) (fun c4 => ?_) (fun c4 => ?_)
        · replace hp := ite_p hp c4
          exact s_L_isClean_126 hfl C hk19 hR hL (zl_sub hl [1, 2, 3, 4, 5, 6, 7, 8, 9, 10] rfl) hp
        · replace hp := ite_n hp c4
          exact s_L_isClean_122 hfl C hk19 hR hL (zl_sub hl [1, 2, 3, 4, 5, 6, 7, 8, 9, 10] rfl) hp
def p_L_isClean_91 (k19 : Nat → Int32 → Int32 → Int32 → Int32 → Int32 → Int32 → Int32 → Int32 → AH → Option (Int32 × AH)) (v0 : Nat) (v1 : Int32) (v2 : Int32) (v3 : Int32) (v4 : Int32) (v5 : Int32) (v6 : Int32) (v8 : Int32) (v9 : Int32) (v10 : Int32) (h : AH) : Option (Int32 × AH) :=
  p_L_isClean_96 k19 v0 v1 v2 v3 v4 v5 v6 v8 v9 v10 (iI 1) h
set_option maxHeartbeats 4000000 in
set_option maxRecDepth 100000 in
theorem s_L_isClean_91 {p : Program} {l : Launch} {e : Env} {s : State} {m : MethodId} {args : Array Value} {below : List Frame} {meth : Method} {c : Code} {G : GG} {hs : AH} {r : Int32} {h' : AH} (hfl : l.stackTraces = false) (C : Cx G hs p s m args meth c cL_isClean 11 RL (.code yL_isClean cL_isClean 11 (some .boolean) :: MW) (some .boolean) "isClean") {k19 : Nat → Int32 → Int32 → Int32 → Int32 → Int32 → Int32 → Int32 → Int32 → AH → Option (Int32 × AH)} (hk19 : ∀ {v0 : Nat} {v1 : Int32} {v2 : Int32} {v3 : Int32} {v4 : Int32} {v5 : Int32} {v6 : Int32} {v7 : Int32} {v8 : Int32} {h : AH} {H : Heap} {locs : List Loc} {cells slots : Nat} {ls : Array Slot}, Rp G h H → (∀ q ∈ locs, gB G ≤ q.base) → zl ls 11 [(0, zr v0), (1, .int v1), (2, .int v2), (3, .int v3), (4, .int v4), (5, .int v5), (6, .int v6), (7, .int v7), (8, .int v8)] → k19 v0 v1 v2 v3 v4 v5 v6 v7 v8 h = some (r, h') → W p l e (gR G hs 9 177) s m args below meth c H locs cells slots (MQ below (Qcc G (some (.int r)) h') args s (gC G - aZ hs) (gS - aU hs) (fun q => gB G ≤ q)) (F0 m 19 ls [])) {v0 : Nat} {v1 : Int32} {v2 : Int32} {v3 : Int32} {v4 : Int32} {v5 : Int32} {v6 : Int32} {v8 : Int32} {v9 : Int32} {v10 : Int32} {h : AH} {H : Heap} {locs : List Loc} {cells slots : Nat} {ls : Array Slot} (hR : Rp G h H) (hL : ∀ q ∈ locs, gB G ≤ q.base) (hl : zl ls 11 [(0, zr v0), (1, .int v1), (2, .int v2), (3, .int v3), (4, .int v4), (5, .int v5), (6, .int v6), (8, .int v8), (9, .int v9), (10, .int v10)]) (hp : p_L_isClean_91 k19 v0 v1 v2 v3 v4 v5 v6 v8 v9 v10 h = some (r, h')) : W p l e (gR G hs 9 177) s m args below meth c H locs cells slots (MQ below (Qcc G (some (.int r)) h') args s (gC G - aZ hs) (gS - aU hs) (fun q => gB G ≤ q)) (F0 m 91 ls []) := by
  obtain ⟨hx, hb, hml, hown, hts, hT, hK, rs, hlk, hret, hnm⟩ := id C
  have hm : ∀ w ∈ MW, w.before args s = true := fun w hw => hts w (hT w hw)
  unfold p_L_isClean_91 at hp
  refine lv_iconst (v := iI 1) hx hb dL_isClean_91 rfl ?_
  refine lv_goto (tgt := 96) hx hb dL_isClean_92 (by decide) ?_
  exact s_L_isClean_96 hfl C hk19 hR hL (zl_sub hl [0, 1, 2, 3, 4, 5, 6, 7, 8, 9] rfl) hp
def p_L_isClean_71 (k19 : Nat → Int32 → Int32 → Int32 → Int32 → Int32 → Int32 → Int32 → Int32 → AH → Option (Int32 × AH)) (v0 : Nat) (v1 : Int32) (v2 : Int32) (v3 : Int32) (v4 : Int32) (v5 : Int32) (v6 : Int32) (v8 : Int32) (v9 : Int32) (s0 : Int32) (h : AH) : Option (Int32 × AH) :=
  if v2 = 0 then
    if v9 = (iI 32) then
      if s0 = (iI 32) then
        p_L_isClean_96 k19 v0 v1 v2 v3 v4 v5 v6 v8 v9 s0 (iI 0) h
      else
        p_L_isClean_91 k19 v0 v1 v2 v3 v4 v5 v6 v8 v9 s0 h
    else
      p_L_isClean_91 k19 v0 v1 v2 v3 v4 v5 v6 v8 v9 s0 h
  else
    p_L_isClean_91 k19 v0 v1 v2 v3 v4 v5 v6 v8 v9 s0 h
set_option maxHeartbeats 4000000 in
set_option maxRecDepth 100000 in
theorem s_L_isClean_71 {p : Program} {l : Launch} {e : Env} {s : State} {m : MethodId} {args : Array Value} {below : List Frame} {meth : Method} {c : Code} {G : GG} {hs : AH} {r : Int32} {h' : AH} (hfl : l.stackTraces = false) (C : Cx G hs p s m args meth c cL_isClean 11 RL (.code yL_isClean cL_isClean 11 (some .boolean) :: MW) (some .boolean) "isClean") {k19 : Nat → Int32 → Int32 → Int32 → Int32 → Int32 → Int32 → Int32 → Int32 → AH → Option (Int32 × AH)} (hk19 : ∀ {v0 : Nat} {v1 : Int32} {v2 : Int32} {v3 : Int32} {v4 : Int32} {v5 : Int32} {v6 : Int32} {v7 : Int32} {v8 : Int32} {h : AH} {H : Heap} {locs : List Loc} {cells slots : Nat} {ls : Array Slot}, Rp G h H → (∀ q ∈ locs, gB G ≤ q.base) → zl ls 11 [(0, zr v0), (1, .int v1), (2, .int v2), (3, .int v3), (4, .int v4), (5, .int v5), (6, .int v6), (7, .int v7), (8, .int v8)] → k19 v0 v1 v2 v3 v4 v5 v6 v7 v8 h = some (r, h') → W p l e (gR G hs 9 177) s m args below meth c H locs cells slots (MQ below (Qcc G (some (.int r)) h') args s (gC G - aZ hs) (gS - aU hs) (fun q => gB G ≤ q)) (F0 m 19 ls [])) {v0 : Nat} {v1 : Int32} {v2 : Int32} {v3 : Int32} {v4 : Int32} {v5 : Int32} {v6 : Int32} {v8 : Int32} {v9 : Int32} {s0 : Int32} {h : AH} {H : Heap} {locs : List Loc} {cells slots : Nat} {ls : Array Slot} (hR : Rp G h H) (hL : ∀ q ∈ locs, gB G ≤ q.base) (hl : zl ls 11 [(0, zr v0), (1, .int v1), (2, .int v2), (3, .int v3), (4, .int v4), (5, .int v5), (6, .int v6), (8, .int v8), (9, .int v9)]) (hp : p_L_isClean_71 k19 v0 v1 v2 v3 v4 v5 v6 v8 v9 s0 h = some (r, h')) : W p l e (gR G hs 9 177) s m args below meth c H locs cells slots (MQ below (Qcc G (some (.int r)) h') args s (gC G - aZ hs) (gS - aU hs) (fun q => gB G ≤ q)) (F0 m 71 ls [.int s0]) := by
  obtain ⟨hx, hb, hml, hown, hts, hT, hK, rs, hlk, hret, hnm⟩ := id C
  have hm : ∀ w ∈ MW, w.before args s = true := fun w hw => hts w (hT w hw)
  unfold p_L_isClean_71 at hp
  refine z_istore (lv' := [(10, .int s0), (0, zr v0), (1, .int v1), (2, .int v2), (3, .int v3), (4, .int v4), (5, .int v5), (6, .int v6), (8, .int v8), (9, .int v9)]) hx hb dL_isClean_71 hl (by decide) rfl (fun ls hl => ?_)
  refine lv_iload_n hx hb dL_isClean_73 rfl (zl_at hl 3 rfl) ?_
  refine lv_if_ne (tgt := 91) hx hb dL_isClean_74 (by decide) (fun c1 => ?_) (fun c1 => ?_)
  · replace hp := ite_n hp c1
    exact s_L_isClean_91 hfl C hk19 hR hL (zl_sub hl [1, 2, 3, 4, 5, 6, 7, 8, 9, 0] rfl) hp
  · replace hp := ite_p hp c1
    refine lv_iload hx hb dL_isClean_77 (zl_at hl 9 rfl) ?_
    refine lv_bipush (v := iI 32) hx hb dL_isClean_79 (by decide +kernel) ?_
    refine lv_icmp_ne (tgt := 91) hx hb dL_isClean_81 (by decide) (fun c2 => ?_) (fun c2 => ?_)
    · replace hp := ite_n hp c2
      exact s_L_isClean_91 hfl C hk19 hR hL (zl_sub hl [1, 2, 3, 4, 5, 6, 7, 8, 9, 0] rfl) hp
    · replace hp := ite_p hp c2
      refine lv_iload hx hb dL_isClean_84 (zl_at hl 0 rfl) ?_
      refine lv_bipush (v := iI 32) hx hb dL_isClean_86 (by decide +kernel) ?_
      refine lv_icmp_eq (tgt := 95) hx hb dL_isClean_88 (by decide) (fun c3 => ?_) (fun c3 => ?_)
      · replace hp := ite_p hp c3
        refine lv_iconst (v := iI 0) hx hb dL_isClean_95 rfl ?_
        exact s_L_isClean_96 hfl C hk19 hR hL (zl_sub hl [1, 2, 3, 4, 5, 6, 7, 8, 9, 0] rfl) hp
      · replace hp := ite_n hp c3
        exact s_L_isClean_91 hfl C hk19 hR hL (zl_sub hl [1, 2, 3, 4, 5, 6, 7, 8, 9, 0] rfl) hp
def p_L_isClean_50 (k19 : Nat → Int32 → Int32 → Int32 → Int32 → Int32 → Int32 → Int32 → Int32 → AH → Option (Int32 × AH)) (v0 : Nat) (v1 : Int32) (v2 : Int32) (v3 : Int32) (v4 : Int32) (v5 : Int32) (v6 : Int32) (v8 : Int32) (s0 : Int32) (h : AH) : Option (Int32 × AH) :=
  if v8 = 0 then
    p_L_isClean_71 k19 v0 v1 v2 v3 v4 v5 v6 v8 s0 (iI 47) h
  else
    bR (p_L_letter v0 v1 (v8 - (iI 1)) h) fun r2 h3 =>
    p_L_isClean_71 k19 v0 v1 v2 v3 v4 v5 v6 v8 s0 r2 h3
set_option maxHeartbeats 4000000 in
set_option maxRecDepth 100000 in
theorem s_L_isClean_50 {p : Program} {l : Launch} {e : Env} {s : State} {m : MethodId} {args : Array Value} {below : List Frame} {meth : Method} {c : Code} {G : GG} {hs : AH} {r : Int32} {h' : AH} (hfl : l.stackTraces = false) (C : Cx G hs p s m args meth c cL_isClean 11 RL (.code yL_isClean cL_isClean 11 (some .boolean) :: MW) (some .boolean) "isClean") {k19 : Nat → Int32 → Int32 → Int32 → Int32 → Int32 → Int32 → Int32 → Int32 → AH → Option (Int32 × AH)} (hk19 : ∀ {v0 : Nat} {v1 : Int32} {v2 : Int32} {v3 : Int32} {v4 : Int32} {v5 : Int32} {v6 : Int32} {v7 : Int32} {v8 : Int32} {h : AH} {H : Heap} {locs : List Loc} {cells slots : Nat} {ls : Array Slot}, Rp G h H → (∀ q ∈ locs, gB G ≤ q.base) → zl ls 11 [(0, zr v0), (1, .int v1), (2, .int v2), (3, .int v3), (4, .int v4), (5, .int v5), (6, .int v6), (7, .int v7), (8, .int v8)] → k19 v0 v1 v2 v3 v4 v5 v6 v7 v8 h = some (r, h') → W p l e (gR G hs 9 177) s m args below meth c H locs cells slots (MQ below (Qcc G (some (.int r)) h') args s (gC G - aZ hs) (gS - aU hs) (fun q => gB G ≤ q)) (F0 m 19 ls [])) {v0 : Nat} {v1 : Int32} {v2 : Int32} {v3 : Int32} {v4 : Int32} {v5 : Int32} {v6 : Int32} {v8 : Int32} {s0 : Int32} {h : AH} {H : Heap} {locs : List Loc} {cells slots : Nat} {ls : Array Slot} (hR : Rp G h H) (hL : ∀ q ∈ locs, gB G ≤ q.base) (hl : zl ls 11 [(0, zr v0), (1, .int v1), (2, .int v2), (3, .int v3), (4, .int v4), (5, .int v5), (6, .int v6), (8, .int v8)]) (hp : p_L_isClean_50 k19 v0 v1 v2 v3 v4 v5 v6 v8 s0 h = some (r, h')) : W p l e (gR G hs 9 177) s m args below meth c H locs cells slots (MQ below (Qcc G (some (.int r)) h') args s (gC G - aZ hs) (gS - aU hs) (fun q => gB G ≤ q)) (F0 m 50 ls [.int s0]) := by
  obtain ⟨hx, hb, hml, hown, hts, hT, hK, rs, hlk, hret, hnm⟩ := id C
  have hm : ∀ w ∈ MW, w.before args s = true := fun w hw => hts w (hT w hw)
  unfold p_L_isClean_50 at hp
  refine z_istore (lv' := [(9, .int s0), (0, zr v0), (1, .int v1), (2, .int v2), (3, .int v3), (4, .int v4), (5, .int v5), (6, .int v6), (8, .int v8)]) hx hb dL_isClean_50 hl (by decide) rfl (fun ls hl => ?_)
  refine lv_iload hx hb dL_isClean_52 (zl_at hl 8 rfl) ?_
  refine lv_if_ne (tgt := 62) hx hb dL_isClean_54 (by decide) (fun c1 => ?_) (fun c1 => ?_)
  · replace hp := ite_n hp c1
    refine z_aload_n hx hb dL_isClean_62 rfl (zl_at hl 1 rfl) ?_
    refine lv_iload_n hx hb dL_isClean_63 rfl (zl_at hl 2 rfl) ?_
    refine lv_iload hx hb dL_isClean_64 (zl_at hl 8 rfl) ?_
    refine lv_iconst (v := iI 1) hx hb dL_isClean_66 rfl ?_
    refine lv_isub hx hb dL_isClean_67 ?_
    obtain ⟨r2, h3, er2, hp⟩ := bR_i hp
    refine r_callSH (n := 3) (As := [zr v0, .int v1, .int (v8 - (iI 1))]) (rest := []) C (c_L_letter l hfl G v0 v1 (v8 - (iI 1)) h r2 h3 er2) hR hL mw_672 mw_673 mw_0 mw_674 (by decide +kernel) (by decide) rfl (zl_size hl) rfl (by simp [zr_cat, in_cat]) dL_isClean_68 (st2 := [.int r2]) rfl (fun H locs cells slots hR hL => ?_)
    exact s_L_isClean_71 hfl C hk19 hR hL (zl_sub hl [1, 2, 3, 4, 5, 6, 7, 8, 0] rfl) hp
  · replace hp := ite_p hp c1
    refine lv_bipush (v := iI 47) hx hb dL_isClean_57 (by decide +kernel) ?_
    refine lv_goto (tgt := 71) hx hb dL_isClean_59 (by decide) ?_
    exact s_L_isClean_71 hfl C hk19 hR hL (zl_sub hl [1, 2, 3, 4, 5, 6, 7, 8, 0] rfl) hp
def p_L_isClean_270  (v7 : Int32) (h : AH) : Option (Int32 × AH) :=
  ck (okZ v7) <|
  some (v7, h)
set_option maxHeartbeats 4000000 in
set_option maxRecDepth 100000 in
theorem s_L_isClean_270 {p : Program} {l : Launch} {e : Env} {s : State} {m : MethodId} {args : Array Value} {below : List Frame} {meth : Method} {c : Code} {G : GG} {hs : AH} {r : Int32} {h' : AH} (hfl : l.stackTraces = false) (C : Cx G hs p s m args meth c cL_isClean 11 RL (.code yL_isClean cL_isClean 11 (some .boolean) :: MW) (some .boolean) "isClean")   {v7 : Int32} {h : AH} {H : Heap} {locs : List Loc} {cells slots : Nat} {ls : Array Slot} (hR : Rp G h H) (hL : ∀ q ∈ locs, gB G ≤ q.base) (hl : zl ls 11 [(7, .int v7)]) (hp : p_L_isClean_270  v7 h = some (r, h')) : W p l e (gR G hs 9 177) s m args below meth c H locs cells slots (MQ below (Qcc G (some (.int r)) h') args s (gC G - aZ hs) (gS - aU hs) (fun q => gB G ≤ q)) (F0 m 270 ls []) := by
  obtain ⟨hx, hb, hml, hown, hts, hT, hK, rs, hlk, hret, hnm⟩ := id C
  have hm : ∀ w ∈ MW, w.before args s = true := fun w hw => hts w (hT w hw)
  unfold p_L_isClean_270 at hp
  refine lv_iload hx hb dL_isClean_270 (zl_at hl 0 rfl) ?_
  obtain ⟨k1, hp⟩ := ck_i hp
  cases hp
  exact r_zret C hR hL (okZ_n k1) dL_isClean_272
def p_L_isClean_19  : Nat → Nat → Int32 → Int32 → Int32 → Int32 → Int32 → Int32 → Int32 → Int32 → AH → Option (Int32 × AH)
  | 0, _, _, _, _, _, _, _, _, _, _ => none
  | n + 1, v0, v1, v2, v3, v4, v5, v6, v7, v8, h =>
    if v4 < v8 then
      p_L_isClean_270  v7 h
    else
      if v7 = 0 then
        p_L_isClean_270  v7 h
      else
        if v8 = v4 then
          p_L_isClean_50 (p_L_isClean_19  n) v0 v1 v2 v3 v4 v5 v6 v8 (iI 47) h
        else
          bR (p_L_letter v0 v1 v8 h) fun r4 h5 =>
          p_L_isClean_50 (p_L_isClean_19  n) v0 v1 v2 v3 v4 v5 v6 v8 r4 h5
set_option maxHeartbeats 4000000 in
set_option maxRecDepth 100000 in
theorem s_L_isClean_19 {p : Program} {l : Launch} {e : Env} {s : State} {m : MethodId} {args : Array Value} {below : List Frame} {meth : Method} {c : Code} {G : GG} {hs : AH} {r : Int32} {h' : AH} (hfl : l.stackTraces = false) (C : Cx G hs p s m args meth c cL_isClean 11 RL (.code yL_isClean cL_isClean 11 (some .boolean) :: MW) (some .boolean) "isClean")   : ∀ (n : Nat) (v0 : Nat) (v1 : Int32) (v2 : Int32) (v3 : Int32) (v4 : Int32) (v5 : Int32) (v6 : Int32) (v7 : Int32) (v8 : Int32) (h : AH) (H : Heap) (locs : List Loc) (cells slots : Nat) (ls : Array Slot) (hR : Rp G h H) (hL : ∀ q ∈ locs, gB G ≤ q.base) (hl : zl ls 11 [(0, zr v0), (1, .int v1), (2, .int v2), (3, .int v3), (4, .int v4), (5, .int v5), (6, .int v6), (7, .int v7), (8, .int v8)]) (hp : p_L_isClean_19  n v0 v1 v2 v3 v4 v5 v6 v7 v8 h = some (r, h')), W p l e (gR G hs 9 177) s m args below meth c H locs cells slots (MQ below (Qcc G (some (.int r)) h') args s (gC G - aZ hs) (gS - aU hs) (fun q => gB G ≤ q)) (F0 m 19 ls []) := by
  obtain ⟨hx, hb, hml, hown, hts, hT, hK, rs, hlk, hret, hnm⟩ := id C
  have hm : ∀ w ∈ MW, w.before args s = true := fun w hw => hts w (hT w hw)
  intro n
  induction n with
  | zero =>
    intro v0 v1 v2 v3 v4 v5 v6 v7 v8 h H locs cells slots ls hR hL hl hp
    exact absurd (show none = some (r, h') from hp) (by simp)
  | succ n ih =>
    intro v0 v1 v2 v3 v4 v5 v6 v7 v8 h H locs cells slots ls hR hL hl hp
    rw [p_L_isClean_19.eq_2] at hp
    refine lv_iload hx hb dL_isClean_19 (zl_at hl 8 rfl) ?_
    refine lv_iload hx hb dL_isClean_21 (zl_at hl 4 rfl) ?_
    refine lv_icmp_gt (tgt := 270) hx hb dL_isClean_23 (by decide) (fun c1 => ?_) (fun c1 => ?_)
    · replace hp := ite_p hp c1
      exact s_L_isClean_270 hfl C  hR hL (zl_sub hl [7] rfl) hp
    · replace hp := ite_n hp c1
      refine lv_iload hx hb dL_isClean_26 (zl_at hl 7 rfl) ?_
      refine lv_if_eq (tgt := 270) hx hb dL_isClean_28 (by decide) (fun c2 => ?_) (fun c2 => ?_)
      · replace hp := ite_p hp c2
        exact s_L_isClean_270 hfl C  hR hL (zl_sub hl [7] rfl) hp
      · replace hp := ite_n hp c2
        refine lv_iload hx hb dL_isClean_31 (zl_at hl 8 rfl) ?_
        refine lv_iload hx hb dL_isClean_33 (zl_at hl 4 rfl) ?_
        refine lv_icmp_ne (tgt := 43) hx hb dL_isClean_35 (by decide) (fun c3 => ?_) (fun c3 => ?_)
        · replace hp := ite_n hp c3
          refine z_aload_n hx hb dL_isClean_43 rfl (zl_at hl 0 rfl) ?_
          refine lv_iload_n hx hb dL_isClean_44 rfl (zl_at hl 1 rfl) ?_
          refine lv_iload hx hb dL_isClean_45 (zl_at hl 8 rfl) ?_
          obtain ⟨r4, h5, er4, hp⟩ := bR_i hp
          refine r_callSH (n := 3) (As := [zr v0, .int v1, .int v8]) (rest := []) C (c_L_letter l hfl G v0 v1 v8 h r4 h5 er4) hR hL mw_672 mw_673 mw_0 mw_674 (by decide +kernel) (by decide) rfl (zl_size hl) rfl (by simp [zr_cat, in_cat]) dL_isClean_47 (st2 := [.int r4]) rfl (fun H locs cells slots hR hL => ?_)
          exact s_L_isClean_50 hfl C (fun hR hL hl hp => ih _ _ _ _ _ _ _ _ _ _ _ _ _ _ _ hR hL hl hp) hR hL (zl_sub hl [0, 1, 2, 3, 4, 5, 6, 8] rfl) hp
        · replace hp := ite_p hp c3
          refine lv_bipush (v := iI 47) hx hb dL_isClean_38 (by decide +kernel) ?_
          refine lv_goto (tgt := 50) hx hb dL_isClean_40 (by decide) ?_
          exact s_L_isClean_50 hfl C (fun hR hL hl hp => ih _ _ _ _ _ _ _ _ _ _ _ _ _ _ _ hR hL hl hp) hR hL (zl_sub hl [0, 1, 2, 3, 4, 5, 6, 8] rfl) hp
def p_L_isClean_0  (v0 : Nat) (v1 : Int32) (v2 : Int32) (v3 : Int32) (h : AH) : Option (Int32 × AH) :=
  bR (p_L_length v0 v1 h) fun r1 h2 =>
  nm ((iI 0)) fun (x3 : Int32) =>
  nm ((iI 0)) fun (x4 : Int32) =>
  nm ((iI 1)) fun (x5 : Int32) =>
  nm ((iI 0)) fun (x6 : Int32) =>
  p_L_isClean_19  FU v0 v1 v2 v3 r1 x3 x4 x5 x6 h2
set_option maxHeartbeats 4000000 in
set_option maxRecDepth 100000 in
theorem s_L_isClean_0 {p : Program} {l : Launch} {e : Env} {s : State} {m : MethodId} {args : Array Value} {below : List Frame} {meth : Method} {c : Code} {G : GG} {hs : AH} {r : Int32} {h' : AH} (hfl : l.stackTraces = false) (C : Cx G hs p s m args meth c cL_isClean 11 RL (.code yL_isClean cL_isClean 11 (some .boolean) :: MW) (some .boolean) "isClean")   {v0 : Nat} {v1 : Int32} {v2 : Int32} {v3 : Int32} {h : AH} {H : Heap} {locs : List Loc} {cells slots : Nat} {ls : Array Slot} (hR : Rp G h H) (hL : ∀ q ∈ locs, gB G ≤ q.base) (hl : zl ls 11 [(0, zr v0), (1, .int v1), (2, .int v2), (3, .int v3)]) (hp : p_L_isClean_0  v0 v1 v2 v3 h = some (r, h')) : W p l e (gR G hs 9 177) s m args below meth c H locs cells slots (MQ below (Qcc G (some (.int r)) h') args s (gC G - aZ hs) (gS - aU hs) (fun q => gB G ≤ q)) (F0 m 0 ls []) := by
  obtain ⟨hx, hb, hml, hown, hts, hT, hK, rs, hlk, hret, hnm⟩ := id C
  have hm : ∀ w ∈ MW, w.before args s = true := fun w hw => hts w (hT w hw)
  unfold p_L_isClean_0 at hp
  refine z_aload_n hx hb dL_isClean_0 rfl (zl_at hl 0 rfl) ?_
  refine lv_iload_n hx hb dL_isClean_1 rfl (zl_at hl 1 rfl) ?_
  obtain ⟨r1, h2, er1, hp⟩ := bR_i hp
  refine r_callSH (n := 2) (As := [zr v0, .int v1]) (rest := []) C (c_L_length l hfl G v0 v1 h r1 h2 er1) hR hL mw_665 mw_666 mw_0 mw_667 (by decide +kernel) (by decide) rfl (zl_size hl) rfl (by simp [zr_cat, in_cat]) dL_isClean_2 (st2 := [.int r1]) rfl (fun H locs cells slots hR hL => ?_)
  refine z_istore (lv' := [(4, .int r1), (0, zr v0), (1, .int v1), (2, .int v2), (3, .int v3)]) hx hb dL_isClean_5 hl (by decide) rfl (fun ls hl => ?_)
  refine lv_iconst (v := iI 0) hx hb dL_isClean_7 rfl ?_
  refine lv_topi (fun x3 ex3 => ?_)
  replace hp := nm_i hp ex3
  refine z_istore (lv' := [(5, .int x3), (4, .int r1), (0, zr v0), (1, .int v1), (2, .int v2), (3, .int v3)]) hx hb dL_isClean_8 hl (by decide) rfl (fun ls hl => ?_)
  refine lv_iconst (v := iI 0) hx hb dL_isClean_10 rfl ?_
  refine lv_topi (fun x4 ex4 => ?_)
  replace hp := nm_i hp ex4
  refine z_istore (lv' := [(6, .int x4), (5, .int x3), (4, .int r1), (0, zr v0), (1, .int v1), (2, .int v2), (3, .int v3)]) hx hb dL_isClean_11 hl (by decide) rfl (fun ls hl => ?_)
  refine lv_iconst (v := iI 1) hx hb dL_isClean_13 rfl ?_
  refine lv_topi (fun x5 ex5 => ?_)
  replace hp := nm_i hp ex5
  refine z_istore (lv' := [(7, .int x5), (6, .int x4), (5, .int x3), (4, .int r1), (0, zr v0), (1, .int v1), (2, .int v2), (3, .int v3)]) hx hb dL_isClean_14 hl (by decide) rfl (fun ls hl => ?_)
  refine lv_iconst (v := iI 0) hx hb dL_isClean_16 rfl ?_
  refine lv_topi (fun x6 ex6 => ?_)
  replace hp := nm_i hp ex6
  refine z_istore (lv' := [(8, .int x6), (7, .int x5), (6, .int x4), (5, .int x3), (4, .int r1), (0, zr v0), (1, .int v1), (2, .int v2), (3, .int v3)]) hx hb dL_isClean_17 hl (by decide) rfl (fun ls hl => ?_)
  exact s_L_isClean_19 hfl C  _ _ _ _ _ _ _ _ _ _ _ _ _ _ _ _ hR hL (zl_sub hl [5, 6, 7, 8, 4, 3, 2, 1, 0] rfl) hp
def p_L_isClean (v0 : Nat) (v1 : Int32) (v2 : Int32) (v3 : Int32) (h : AH) : Option (Int32 × AH) := ck (v0 ≠ 0) <| p_L_isClean_0 v0 v1 v2 v3 h
theorem c_L_isClean (l : Launch) (hfl : l.stackTraces = false) (G : GG) (v0 : Nat) (v1 : Int32) (v2 : Int32) (v3 : Int32) (h : AH) (r : Int32) (h' : AH) (hp : p_L_isClean v0 v1 v2 v3 h = some (r, h')) : Ct l yL_isClean (.code yL_isClean cL_isClean 11 (some .boolean) :: MW) G 9 177 [zr v0, .int v1, .int v2, .int v3] h (some (.int r)) h' := by
  obtain ⟨hz0, hp⟩ := ck_i hp
  rw [show zr v0 = .ref (v0 - 1) from zr_p hz0]
  refine Ct.of (by decide +kernel) (Nat.le_of_ble_eq_true rfl) ?_
  intro p e s m args below meth c C hR ls hl
  have hl : zl ls 11 [(0, zr v0), (1, .int v1), (2, .int v2), (3, .int v3)] := ⟨by rw [zr_p hz0]; exact hl, by simp [zr_cat, in_cat]⟩
  exact s_L_isClean_0 hfl C hR (fun _ hq => nomatch hq) hl hp
