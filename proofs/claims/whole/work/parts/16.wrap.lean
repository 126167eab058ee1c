/-! CursorKeepLaw.type(LCursorKeep;IIC[J)I -/
def p_L_type_0  (v0 : Nat) (v1 : Int32) (v2 : Int32) (v3 : Int32) (v4 : Nat) (h : AH) : Option (Int32 × AH) :=
  ck (aK h v0 = 12) <|
  bC (p_X10_type v0 v1 v2 v3 h) (fun r2 h3 =>
    ck (aK h3 v4 = 23 ∧ ix (iI 0) (aN h3 v4)) <|
    nm (uL h3 v4 (iI 0).toNatClampNeg ((r2).toInt64)) fun h7 =>
    some ((iI 0), h7))
  (fun e4 h3 =>
    if e4 = 1 then
      some ((iI 1), h3)
    else
      if e4 = 2 then
        some ((iI 2), h3)
      else
        if e4 = 3 then
          some ((iI 3), h3)
        else
          none)
set_option maxHeartbeats 4000000 in
set_option maxRecDepth 100000 in
theorem s_L_type_0 {p : Program} {l : Launch} {e : Env} {s : State} {m : MethodId} {args : Array Value} {below : List Frame} {meth : Method} {c : Code} {G : GG} {hs : AH} {r : Int32} {h' : AH} (hfl : l.stackTraces = false) (htb : c.exceptionTable.toList = tableOf [(0, 12, 15, 13), (0, 12, 19, 15), (0, 12, 23, 17)]) (C : Cx G hs p s m args meth c cL_type 6 RL (.codeWith yL_type cL_type 6 (some .int) [(0, 12, 15, 13), (0, 12, 19, 15), (0, 12, 23, 17)] :: MW) (some .int) "type")   {v0 : Nat} {v1 : Int32} {v2 : Int32} {v3 : Int32} {v4 : Nat} {h : AH} {H : Heap} {locs : List Loc} {cells slots : Nat} {ls : Array Slot} (hR : Rp G h H) (hL : ∀ q ∈ locs, gB G ≤ q.base) (hl : zl ls 6 [(0, zr v0), (1, .int v1), (2, .int v2), (3, .int v3), (4, zr v4)]) (hp : p_L_type_0  v0 v1 v2 v3 v4 h = some (r, h')) : W p l e (gR G hs 10 241) s m args below meth c H locs cells slots (MQ below (Qcc G (some (.int r)) h') args s (gC G - aZ hs) (gS - aU hs) (fun q => gB G ≤ q)) (F0 m 0 ls []) := by
  obtain ⟨hx, hb, hml, hown, hts, hT, hK, rs, hlk, hret, hnm⟩ := id C
  have hm : ∀ w ∈ MW, w.before args s = true := fun w hw => hts w (hT w hw)
  unfold p_L_type_0 at hp
  refine z_aload hx hb dL_type_0 (zl_at hl 4 rfl) ?_
  refine lv_iconst (v := iI 0) hx hb dL_type_2 rfl ?_
  refine z_aload_n hx hb dL_type_3 rfl (zl_at hl 0 rfl) ?_
  refine lv_iload_n hx hb dL_type_4 rfl (zl_at hl 1 rfl) ?_
  refine lv_iload_n hx hb dL_type_5 rfl (zl_at hl 2 rfl) ?_
  refine lv_iload_n hx hb dL_type_6 rfl (zl_at hl 3 rfl) ?_
  obtain ⟨k1, hp⟩ := ck_i hp
  rcases bC_i hp with ⟨r2, h3, er2, hp⟩ | ⟨e4, h3, er2, hp⟩
  · refine r_runVX (ci := 11) (r := (RX10, TX10, 7)) (n := 3) (As := [.int v1, .int v2, .int v3]) (rest := [.int (iI 0), zr v4]) C (c_X10_type l hfl G v0 v1 v2 v3 h (.ok r2) h3 er2) hR rfl k1 mw_302 mw_303 mw_304 mw_1 mw_305 (by decide +kernel) (by decide) rfl (zl_size hl) rfl (by simp [zr_cat, in_cat]) dL_type_7 (fun cells slots hr => ?_)
    refine r_okRun hR hL hr (fun H locs cells slots hR hL => ?_)
    refine W.eq (g2 := F0 m 10 ls [.int r2, .int (iI 0), zr v4]) rfl ?_
    refine lv_i2l (v := (r2).toInt64) hx hb dL_type_10 rfl ?_
    obtain ⟨k5, hp⟩ := ck_i hp
    refine r_last hx hb hK hR hL k5.1 k5.2 dL_type_11 (fun H locs hR hL => ?_)
    obtain ⟨h7, hp, hR⟩ := nm_h hp hR
    refine lv_goto (tgt := 27) hx hb dL_type_12 (by decide) ?_
    refine lv_iconst (v := iI 0) hx hb dL_type_27 rfl ?_
    cases hp
    exact r_zret C hR hL rfl dL_type_28
  · refine r_runVX (ci := 11) (r := (RX10, TX10, 7)) (n := 3) (As := [.int v1, .int v2, .int v3]) (rest := [.int (iI 0), zr v4]) C (c_X10_type l hfl G v0 v1 v2 v3 h (.error e4) h3 er2) hR rfl k1 mw_302 mw_303 mw_304 mw_1 mw_305 (by decide +kernel) (by decide) rfl (zl_size hl) rfl (by simp [zr_cat, in_cat]) dL_type_7 (fun cells slots hr => ?_)
    refine r_exRun hR hL hr (fun q9 ce H locs cells slots hR hL hce hcv hcl => ?_)
    by_cases c8 : e4 = 1
    · subst c8
      replace hp := ite_p hp rfl
      refine r_catch (e0 := 1) (name := "java/lang/IndexOutOfBoundsException") hown hK [] ⟨0, 12, 15, 13⟩ [⟨0, 12, 19, 15⟩, ⟨0, 12, 23, 17⟩] (htb.trans rfl) (fun _ hz => nomatch hz) (by decide) (by decide) (hm _ mw_299) (KW_t 312 (by decide +kernel) (by decide +kernel)) hce hcv hcl ?_
      refine z_astore (lv' := [(5, zr (q9 + 1)), (0, zr v0), (1, .int v1), (2, .int v2), (3, .int v3), (4, zr v4)]) hx hb dL_type_15 hl (by decide) rfl (fun ls hl => ?_)
      refine lv_iconst (v := iI 1) hx hb dL_type_17 rfl ?_
      cases hp
      exact r_zret C hR hL rfl dL_type_18
    replace hp := ite_n hp c8
    by_cases c9 : e4 = 2
    · subst c9
      replace hp := ite_p hp rfl
      refine r_catch (e0 := 2) (name := "java/lang/IllegalArgumentException") hown hK [⟨0, 12, 15, 13⟩] ⟨0, 12, 19, 15⟩ [⟨0, 12, 23, 17⟩] (htb.trans rfl) (fun z hz => by rw [List.mem_singleton.mp hz]; exact ⟨by decide, _, hm _ mw_299, by decide +kernel⟩) (by decide) (by decide) (hm _ mw_300) (KW_t 388 (by decide +kernel) (by decide +kernel)) hce hcv hcl ?_
      refine z_astore (lv' := [(5, zr (q9 + 1)), (0, zr v0), (1, .int v1), (2, .int v2), (3, .int v3), (4, zr v4)]) hx hb dL_type_19 hl (by decide) rfl (fun ls hl => ?_)
      refine lv_iconst (v := iI 2) hx hb dL_type_21 rfl ?_
      cases hp
      exact r_zret C hR hL rfl dL_type_22
    replace hp := ite_n hp c9
    by_cases c10 : e4 = 3
    · subst c10
      replace hp := ite_p hp rfl
      refine r_catch (e0 := 3) (name := "java/lang/IllegalStateException") hown hK [⟨0, 12, 15, 13⟩, ⟨0, 12, 19, 15⟩] ⟨0, 12, 23, 17⟩ [] (htb.trans rfl) (fun z hz => (List.mem_cons.mp hz).elim (fun h9 => by rw [h9]; exact ⟨by decide, _, hm _ mw_299, by decide +kernel⟩) (fun h9 => by rw [List.mem_singleton.mp h9]; exact ⟨by decide, _, hm _ mw_300, by decide +kernel⟩)) (by decide) (by decide) (hm _ mw_301) (KW_t 408 (by decide +kernel) (by decide +kernel)) hce hcv hcl ?_
      refine z_astore (lv' := [(5, zr (q9 + 1)), (0, zr v0), (1, .int v1), (2, .int v2), (3, .int v3), (4, zr v4)]) hx hb dL_type_23 hl (by decide) rfl (fun ls hl => ?_)
      refine lv_iconst (v := iI 3) hx hb dL_type_25 rfl ?_
      cases hp
      exact r_zret C hR hL rfl dL_type_26
    replace hp := ite_n hp c10
    exact absurd hp (by simp)
def p_L_type (v0 : Nat) (v1 : Int32) (v2 : Int32) (v3 : Int32) (v4 : Nat) (h : AH) : Option (Int32 × AH) := ck (v0 ≠ 0) <| ck (v4 ≠ 0) <| p_L_type_0 v0 v1 v2 v3 v4 h
theorem c_L_type (l : Launch) (hfl : l.stackTraces = false) (G : GG) (v0 : Nat) (v1 : Int32) (v2 : Int32) (v3 : Int32) (v4 : Nat) (h : AH) (r : Int32) (h' : AH) (hp : p_L_type v0 v1 v2 v3 v4 h = some (r, h')) : Ct l yL_type (.codeWith yL_type cL_type 6 (some .int) [(0, 12, 15, 13), (0, 12, 19, 15), (0, 12, 23, 17)] :: MW) G 10 241 [zr v0, .int v1, .int v2, .int v3, zr v4] h (some (.int r)) h' := by
  obtain ⟨hz0, hp⟩ := ck_i hp
  obtain ⟨hz4, hp⟩ := ck_i hp
  rw [show zr v0 = .ref (v0 - 1) from zr_p hz0]
  rw [show zr v4 = .ref (v4 - 1) from zr_p hz4]
  refine Ct.ofH (by decide +kernel) (Nat.le_of_ble_eq_true rfl) ?_
  intro p e s m args below meth c C htb hR ls hl
  have hl : zl ls 6 [(0, zr v0), (1, .int v1), (2, .int v2), (3, .int v3), (4, zr v4)] := ⟨by rw [zr_p hz0, zr_p hz4]; exact hl, by simp [zr_cat, in_cat]⟩
  exact s_L_type_0 hfl htb C hR (fun _ hq => nomatch hq) hl hp
/-! CursorKeepLaw.erase(LCursorKeep;II[J)I -/
def p_L_erase_0  (v0 : Nat) (v1 : Int32) (v2 : Int32) (v3 : Nat) (h : AH) : Option (Int32 × AH) :=
  ck (aK h v0 = 12) <|
  bC (p_X10_erase v0 v1 v2 h) (fun r2 h3 =>
    ck (aK h3 v3 = 23 ∧ ix (iI 0) (aN h3 v3)) <|
    nm (uL h3 v3 (iI 0).toNatClampNeg ((r2).toInt64)) fun h7 =>
    some ((iI 0), h7))
  (fun e4 h3 =>
    if e4 = 1 then
      some ((iI 1), h3)
    else
      if e4 = 3 then
        some ((iI 2), h3)
      else
        none)
set_option maxHeartbeats 4000000 in
set_option maxRecDepth 100000 in
theorem s_L_erase_0 {p : Program} {l : Launch} {e : Env} {s : State} {m : MethodId} {args : Array Value} {below : List Frame} {meth : Method} {c : Code} {G : GG} {hs : AH} {r : Int32} {h' : AH} (hfl : l.stackTraces = false) (htb : c.exceptionTable.toList = tableOf [(0, 10, 13, 13), (0, 10, 17, 17)]) (C : Cx G hs p s m args meth c cL_erase 5 RL (.codeWith yL_erase cL_erase 5 (some .int) [(0, 10, 13, 13), (0, 10, 17, 17)] :: MW) (some .int) "erase")   {v0 : Nat} {v1 : Int32} {v2 : Int32} {v3 : Nat} {h : AH} {H : Heap} {locs : List Loc} {cells slots : Nat} {ls : Array Slot} (hR : Rp G h H) (hL : ∀ q ∈ locs, gB G ≤ q.base) (hl : zl ls 5 [(0, zr v0), (1, .int v1), (2, .int v2), (3, zr v3)]) (hp : p_L_erase_0  v0 v1 v2 v3 h = some (r, h')) : W p l e (gR G hs 11 263) s m args below meth c H locs cells slots (MQ below (Qcc G (some (.int r)) h') args s (gC G - aZ hs) (gS - aU hs) (fun q => gB G ≤ q)) (F0 m 0 ls []) := by
  obtain ⟨hx, hb, hml, hown, hts, hT, hK, rs, hlk, hret, hnm⟩ := id C
  have hm : ∀ w ∈ MW, w.before args s = true := fun w hw => hts w (hT w hw)
  unfold p_L_erase_0 at hp
  refine z_aload_n hx hb dL_erase_0 rfl (zl_at hl 3 rfl) ?_
  refine lv_iconst (v := iI 0) hx hb dL_erase_1 rfl ?_
  refine z_aload_n hx hb dL_erase_2 rfl (zl_at hl 0 rfl) ?_
  refine lv_iload_n hx hb dL_erase_3 rfl (zl_at hl 1 rfl) ?_
  refine lv_iload_n hx hb dL_erase_4 rfl (zl_at hl 2 rfl) ?_
  obtain ⟨k1, hp⟩ := ck_i hp
  rcases bC_i hp with ⟨r2, h3, er2, hp⟩ | ⟨e4, h3, er2, hp⟩
  · refine r_runVX (ci := 11) (r := (RX10, TX10, 7)) (n := 2) (As := [.int v1, .int v2]) (rest := [.int (iI 0), zr v3]) C (c_X10_erase l hfl G v0 v1 v2 h (.ok r2) h3 er2) hR rfl k1 mw_582 mw_583 mw_584 mw_1 mw_585 (by decide +kernel) (by decide) rfl (zl_size hl) rfl (by simp [zr_cat, in_cat]) dL_erase_5 (fun cells slots hr => ?_)
    refine r_okRun hR hL hr (fun H locs cells slots hR hL => ?_)
    refine W.eq (g2 := F0 m 8 ls [.int r2, .int (iI 0), zr v3]) rfl ?_
    refine lv_i2l (v := (r2).toInt64) hx hb dL_erase_8 rfl ?_
    obtain ⟨k5, hp⟩ := ck_i hp
    refine r_last hx hb hK hR hL k5.1 k5.2 dL_erase_9 (fun H locs hR hL => ?_)
    obtain ⟨h7, hp, hR⟩ := nm_h hp hR
    refine lv_goto (tgt := 21) hx hb dL_erase_10 (by decide) ?_
    refine lv_iconst (v := iI 0) hx hb dL_erase_21 rfl ?_
    cases hp
    exact r_zret C hR hL rfl dL_erase_22
  · refine r_runVX (ci := 11) (r := (RX10, TX10, 7)) (n := 2) (As := [.int v1, .int v2]) (rest := [.int (iI 0), zr v3]) C (c_X10_erase l hfl G v0 v1 v2 h (.error e4) h3 er2) hR rfl k1 mw_582 mw_583 mw_584 mw_1 mw_585 (by decide +kernel) (by decide) rfl (zl_size hl) rfl (by simp [zr_cat, in_cat]) dL_erase_5 (fun cells slots hr => ?_)
    refine r_exRun hR hL hr (fun q9 ce H locs cells slots hR hL hce hcv hcl => ?_)
    by_cases c8 : e4 = 1
    · subst c8
      replace hp := ite_p hp rfl
      refine r_catch (e0 := 1) (name := "java/lang/IndexOutOfBoundsException") hown hK [] ⟨0, 10, 13, 13⟩ [⟨0, 10, 17, 17⟩] (htb.trans rfl) (fun _ hz => nomatch hz) (by decide) (by decide) (hm _ mw_299) (KW_t 312 (by decide +kernel) (by decide +kernel)) hce hcv hcl ?_
      refine z_astore (lv' := [(4, zr (q9 + 1)), (0, zr v0), (1, .int v1), (2, .int v2), (3, zr v3)]) hx hb dL_erase_13 hl (by decide) rfl (fun ls hl => ?_)
      refine lv_iconst (v := iI 1) hx hb dL_erase_15 rfl ?_
      cases hp
      exact r_zret C hR hL rfl dL_erase_16
    replace hp := ite_n hp c8
    by_cases c9 : e4 = 3
    · subst c9
      replace hp := ite_p hp rfl
      refine r_catch (e0 := 3) (name := "java/lang/IllegalStateException") hown hK [⟨0, 10, 13, 13⟩] ⟨0, 10, 17, 17⟩ [] (htb.trans rfl) (fun z hz => by rw [List.mem_singleton.mp hz]; exact ⟨by decide, _, hm _ mw_299, by decide +kernel⟩) (by decide) (by decide) (hm _ mw_301) (KW_t 408 (by decide +kernel) (by decide +kernel)) hce hcv hcl ?_
      refine z_astore (lv' := [(4, zr (q9 + 1)), (0, zr v0), (1, .int v1), (2, .int v2), (3, zr v3)]) hx hb dL_erase_17 hl (by decide) rfl (fun ls hl => ?_)
      refine lv_iconst (v := iI 2) hx hb dL_erase_19 rfl ?_
      cases hp
      exact r_zret C hR hL rfl dL_erase_20
    replace hp := ite_n hp c9
    exact absurd hp (by simp)
def p_L_erase (v0 : Nat) (v1 : Int32) (v2 : Int32) (v3 : Nat) (h : AH) : Option (Int32 × AH) := ck (v0 ≠ 0) <| ck (v3 ≠ 0) <| p_L_erase_0 v0 v1 v2 v3 h
theorem c_L_erase (l : Launch) (hfl : l.stackTraces = false) (G : GG) (v0 : Nat) (v1 : Int32) (v2 : Int32) (v3 : Nat) (h : AH) (r : Int32) (h' : AH) (hp : p_L_erase v0 v1 v2 v3 h = some (r, h')) : Ct l yL_erase (.codeWith yL_erase cL_erase 5 (some .int) [(0, 10, 13, 13), (0, 10, 17, 17)] :: MW) G 11 263 [zr v0, .int v1, .int v2, zr v3] h (some (.int r)) h' := by
  obtain ⟨hz0, hp⟩ := ck_i hp
  obtain ⟨hz3, hp⟩ := ck_i hp
  rw [show zr v0 = .ref (v0 - 1) from zr_p hz0]
  rw [show zr v3 = .ref (v3 - 1) from zr_p hz3]
  refine Ct.ofH (by decide +kernel) (Nat.le_of_ble_eq_true rfl) ?_
  intro p e s m args below meth c C htb hR ls hl
  have hl : zl ls 5 [(0, zr v0), (1, .int v1), (2, .int v2), (3, zr v3)] := ⟨by rw [zr_p hz0, zr_p hz3]; exact hl, by simp [zr_cat, in_cat]⟩
  exact s_L_erase_0 hfl htb C hR (fun _ hq => nomatch hq) hl hp
/-! CursorKeepLaw.moveTo(LCursorKeep;III[J)I -/
def p_L_moveTo_0  (v0 : Nat) (v1 : Int32) (v2 : Int32) (v3 : Int32) (v4 : Nat) (h : AH) : Option (Int32 × AH) :=
  ck (aK h v0 = 12) <|
  bC (p_X10_moveTo v0 v1 v2 v3 h) (fun r2 h3 =>
    ck (aK h3 v4 = 23 ∧ ix (iI 0) (aN h3 v4)) <|
    nm (uL h3 v4 (iI 0).toNatClampNeg ((r2).toInt64)) fun h7 =>
    some ((iI 0), h7))
  (fun e4 h3 =>
    if e4 = 1 then
      some ((iI 1), h3)
    else
      none)
set_option maxHeartbeats 4000000 in
set_option maxRecDepth 100000 in
theorem s_L_moveTo_0 {p : Program} {l : Launch} {e : Env} {s : State} {m : MethodId} {args : Array Value} {below : List Frame} {meth : Method} {c : Code} {G : GG} {hs : AH} {r : Int32} {h' : AH} (hfl : l.stackTraces = false) (htb : c.exceptionTable.toList = tableOf [(0, 12, 15, 13)]) (C : Cx G hs p s m args meth c cL_moveTo 6 RL (.codeWith yL_moveTo cL_moveTo 6 (some .int) [(0, 12, 15, 13)] :: MW) (some .int) "moveTo")   {v0 : Nat} {v1 : Int32} {v2 : Int32} {v3 : Int32} {v4 : Nat} {h : AH} {H : Heap} {locs : List Loc} {cells slots : Nat} {ls : Array Slot} (hR : Rp G h H) (hL : ∀ q ∈ locs, gB G ≤ q.base) (hl : zl ls 6 [(0, zr v0), (1, .int v1), (2, .int v2), (3, .int v3), (4, zr v4)]) (hp : p_L_moveTo_0  v0 v1 v2 v3 v4 h = some (r, h')) : W p l e (gR G hs 8 157) s m args below meth c H locs cells slots (MQ below (Qcc G (some (.int r)) h') args s (gC G - aZ hs) (gS - aU hs) (fun q => gB G ≤ q)) (F0 m 0 ls []) := by
  obtain ⟨hx, hb, hml, hown, hts, hT, hK, rs, hlk, hret, hnm⟩ := id C
  have hm : ∀ w ∈ MW, w.before args s = true := fun w hw => hts w (hT w hw)
  unfold p_L_moveTo_0 at hp
  refine z_aload hx hb dL_moveTo_0 (zl_at hl 4 rfl) ?_
  refine lv_iconst (v := iI 0) hx hb dL_moveTo_2 rfl ?_
  refine z_aload_n hx hb dL_moveTo_3 rfl (zl_at hl 0 rfl) ?_
  refine lv_iload_n hx hb dL_moveTo_4 rfl (zl_at hl 1 rfl) ?_
  refine lv_iload_n hx hb dL_moveTo_5 rfl (zl_at hl 2 rfl) ?_
  refine lv_iload_n hx hb dL_moveTo_6 rfl (zl_at hl 3 rfl) ?_
  obtain ⟨k1, hp⟩ := ck_i hp
  rcases bC_i hp with ⟨r2, h3, er2, hp⟩ | ⟨e4, h3, er2, hp⟩
  · refine r_runVX (ci := 11) (r := (RX10, TX10, 7)) (n := 3) (As := [.int v1, .int v2, .int v3]) (rest := [.int (iI 0), zr v4]) C (c_X10_moveTo l hfl G v0 v1 v2 v3 h (.ok r2) h3 er2) hR rfl k1 mw_610 mw_611 mw_612 mw_1 mw_613 (by decide +kernel) (by decide) rfl (zl_size hl) rfl (by simp [zr_cat, in_cat]) dL_moveTo_7 (fun cells slots hr => ?_)
    refine r_okRun hR hL hr (fun H locs cells slots hR hL => ?_)
    refine W.eq (g2 := F0 m 10 ls [.int r2, .int (iI 0), zr v4]) rfl ?_
    refine lv_i2l (v := (r2).toInt64) hx hb dL_moveTo_10 rfl ?_
    obtain ⟨k5, hp⟩ := ck_i hp
    refine r_last hx hb hK hR hL k5.1 k5.2 dL_moveTo_11 (fun H locs hR hL => ?_)
    obtain ⟨h7, hp, hR⟩ := nm_h hp hR
    refine lv_goto (tgt := 19) hx hb dL_moveTo_12 (by decide) ?_
    refine lv_iconst (v := iI 0) hx hb dL_moveTo_19 rfl ?_
    cases hp
    exact r_zret C hR hL rfl dL_moveTo_20
  · refine r_runVX (ci := 11) (r := (RX10, TX10, 7)) (n := 3) (As := [.int v1, .int v2, .int v3]) (rest := [.int (iI 0), zr v4]) C (c_X10_moveTo l hfl G v0 v1 v2 v3 h (.error e4) h3 er2) hR rfl k1 mw_610 mw_611 mw_612 mw_1 mw_613 (by decide +kernel) (by decide) rfl (zl_size hl) rfl (by simp [zr_cat, in_cat]) dL_moveTo_7 (fun cells slots hr => ?_)
    refine r_exRun hR hL hr (fun q9 ce H locs cells slots hR hL hce hcv hcl => ?_)
    by_cases c8 : e4 = 1
    · subst c8
      replace hp := ite_p hp rfl
      refine r_catch (e0 := 1) (name := "java/lang/IndexOutOfBoundsException") hown hK [] ⟨0, 12, 15, 13⟩ [] (htb.trans rfl) (fun _ hz => nomatch hz) (by decide) (by decide) (hm _ mw_299) (KW_t 312 (by decide +kernel) (by decide +kernel)) hce hcv hcl ?_
      refine z_astore (lv' := [(5, zr (q9 + 1)), (0, zr v0), (1, .int v1), (2, .int v2), (3, .int v3), (4, zr v4)]) hx hb dL_moveTo_15 hl (by decide) rfl (fun ls hl => ?_)
      refine lv_iconst (v := iI 1) hx hb dL_moveTo_17 rfl ?_
      cases hp
      exact r_zret C hR hL rfl dL_moveTo_18
    replace hp := ite_n hp c8
    exact absurd hp (by simp)
def p_L_moveTo (v0 : Nat) (v1 : Int32) (v2 : Int32) (v3 : Int32) (v4 : Nat) (h : AH) : Option (Int32 × AH) := ck (v0 ≠ 0) <| ck (v4 ≠ 0) <| p_L_moveTo_0 v0 v1 v2 v3 v4 h
theorem c_L_moveTo (l : Launch) (hfl : l.stackTraces = false) (G : GG) (v0 : Nat) (v1 : Int32) (v2 : Int32) (v3 : Int32) (v4 : Nat) (h : AH) (r : Int32) (h' : AH) (hp : p_L_moveTo v0 v1 v2 v3 v4 h = some (r, h')) : Ct l yL_moveTo (.codeWith yL_moveTo cL_moveTo 6 (some .int) [(0, 12, 15, 13)] :: MW) G 8 157 [zr v0, .int v1, .int v2, .int v3, zr v4] h (some (.int r)) h' := by
  obtain ⟨hz0, hp⟩ := ck_i hp
  obtain ⟨hz4, hp⟩ := ck_i hp
  rw [show zr v0 = .ref (v0 - 1) from zr_p hz0]
  rw [show zr v4 = .ref (v4 - 1) from zr_p hz4]
  refine Ct.ofH (by decide +kernel) (Nat.le_of_ble_eq_true rfl) ?_
  intro p e s m args below meth c C htb hR ls hl
  have hl : zl ls 6 [(0, zr v0), (1, .int v1), (2, .int v2), (3, .int v3), (4, zr v4)] := ⟨by rw [zr_p hz0, zr_p hz4]; exact hl, by simp [zr_cat, in_cat]⟩
  exact s_L_moveTo_0 hfl htb C hR (fun _ hq => nomatch hq) hl hp
/-! CursorKeepLaw.undo(LCursorKeep;I[J)I -/
def p_L_undo_0  (v0 : Nat) (v1 : Int32) (v2 : Nat) (h : AH) : Option (Int32 × AH) :=
  ck (aK h v0 = 12) <|
  bC (p_X10_undo v0 v1 h) (fun r2 h3 =>
    ck (aK h3 v2 = 23 ∧ ix (iI 0) (aN h3 v2)) <|
    nm (uL h3 v2 (iI 0).toNatClampNeg ((r2).toInt64)) fun h7 =>
    some ((iI 0), h7))
  (fun e4 h3 =>
    if e4 = 1 then
      some ((iI 1), h3)
    else
      if e4 = 3 then
        some ((iI 2), h3)
      else
        none)
set_option maxHeartbeats 4000000 in
set_option maxRecDepth 100000 in
theorem s_L_undo_0 {p : Program} {l : Launch} {e : Env} {s : State} {m : MethodId} {args : Array Value} {below : List Frame} {meth : Method} {c : Code} {G : GG} {hs : AH} {r : Int32} {h' : AH} (hfl : l.stackTraces = false) (htb : c.exceptionTable.toList = tableOf [(0, 9, 12, 13), (0, 9, 15, 17)]) (C : Cx G hs p s m args meth c cL_undo 4 RL (.codeWith yL_undo cL_undo 4 (some .int) [(0, 9, 12, 13), (0, 9, 15, 17)] :: MW) (some .int) "undo")   {v0 : Nat} {v1 : Int32} {v2 : Nat} {h : AH} {H : Heap} {locs : List Loc} {cells slots : Nat} {ls : Array Slot} (hR : Rp G h H) (hL : ∀ q ∈ locs, gB G ≤ q.base) (hl : zl ls 4 [(0, zr v0), (1, .int v1), (2, zr v2)]) (hp : p_L_undo_0  v0 v1 v2 h = some (r, h')) : W p l e (gR G hs 11 260) s m args below meth c H locs cells slots (MQ below (Qcc G (some (.int r)) h') args s (gC G - aZ hs) (gS - aU hs) (fun q => gB G ≤ q)) (F0 m 0 ls []) := by
  obtain ⟨hx, hb, hml, hown, hts, hT, hK, rs, hlk, hret, hnm⟩ := id C
  have hm : ∀ w ∈ MW, w.before args s = true := fun w hw => hts w (hT w hw)
  unfold p_L_undo_0 at hp
  refine z_aload_n hx hb dL_undo_0 rfl (zl_at hl 2 rfl) ?_
  refine lv_iconst (v := iI 0) hx hb dL_undo_1 rfl ?_
  refine z_aload_n hx hb dL_undo_2 rfl (zl_at hl 0 rfl) ?_
  refine lv_iload_n hx hb dL_undo_3 rfl (zl_at hl 1 rfl) ?_
  obtain ⟨k1, hp⟩ := ck_i hp
  rcases bC_i hp with ⟨r2, h3, er2, hp⟩ | ⟨e4, h3, er2, hp⟩
  · refine r_runVX (ci := 11) (r := (RX10, TX10, 7)) (n := 1) (As := [.int v1]) (rest := [.int (iI 0), zr v2]) C (c_X10_undo l hfl G v0 v1 h (.ok r2) h3 er2) hR rfl k1 mw_631 mw_632 mw_633 mw_1 mw_634 (by decide +kernel) (by decide) rfl (zl_size hl) rfl (by simp [zr_cat, in_cat]) dL_undo_4 (fun cells slots hr => ?_)
    refine r_okRun hR hL hr (fun H locs cells slots hR hL => ?_)
    refine W.eq (g2 := F0 m 7 ls [.int r2, .int (iI 0), zr v2]) rfl ?_
    refine lv_i2l (v := (r2).toInt64) hx hb dL_undo_7 rfl ?_
    obtain ⟨k5, hp⟩ := ck_i hp
    refine r_last hx hb hK hR hL k5.1 k5.2 dL_undo_8 (fun H locs hR hL => ?_)
    obtain ⟨h7, hp, hR⟩ := nm_h hp hR
    refine lv_goto (tgt := 18) hx hb dL_undo_9 (by decide) ?_
    refine lv_iconst (v := iI 0) hx hb dL_undo_18 rfl ?_
    cases hp
    exact r_zret C hR hL rfl dL_undo_19
  · refine r_runVX (ci := 11) (r := (RX10, TX10, 7)) (n := 1) (As := [.int v1]) (rest := [.int (iI 0), zr v2]) C (c_X10_undo l hfl G v0 v1 h (.error e4) h3 er2) hR rfl k1 mw_631 mw_632 mw_633 mw_1 mw_634 (by decide +kernel) (by decide) rfl (zl_size hl) rfl (by simp [zr_cat, in_cat]) dL_undo_4 (fun cells slots hr => ?_)
    refine r_exRun hR hL hr (fun q9 ce H locs cells slots hR hL hce hcv hcl => ?_)
    by_cases c8 : e4 = 1
    · subst c8
      replace hp := ite_p hp rfl
      refine r_catch (e0 := 1) (name := "java/lang/IndexOutOfBoundsException") hown hK [] ⟨0, 9, 12, 13⟩ [⟨0, 9, 15, 17⟩] (htb.trans rfl) (fun _ hz => nomatch hz) (by decide) (by decide) (hm _ mw_299) (KW_t 312 (by decide +kernel) (by decide +kernel)) hce hcv hcl ?_
      refine z_astore_n (lv' := [(3, zr (q9 + 1)), (0, zr v0), (1, .int v1), (2, zr v2)]) hx hb dL_undo_12 rfl hl (by decide) rfl (fun ls hl => ?_)
      refine lv_iconst (v := iI 1) hx hb dL_undo_13 rfl ?_
      cases hp
      exact r_zret C hR hL rfl dL_undo_14
    replace hp := ite_n hp c8
    by_cases c9 : e4 = 3
    · subst c9
      replace hp := ite_p hp rfl
      refine r_catch (e0 := 3) (name := "java/lang/IllegalStateException") hown hK [⟨0, 9, 12, 13⟩] ⟨0, 9, 15, 17⟩ [] (htb.trans rfl) (fun z hz => by rw [List.mem_singleton.mp hz]; exact ⟨by decide, _, hm _ mw_299, by decide +kernel⟩) (by decide) (by decide) (hm _ mw_301) (KW_t 408 (by decide +kernel) (by decide +kernel)) hce hcv hcl ?_
      refine z_astore_n (lv' := [(3, zr (q9 + 1)), (0, zr v0), (1, .int v1), (2, zr v2)]) hx hb dL_undo_15 rfl hl (by decide) rfl (fun ls hl => ?_)
      refine lv_iconst (v := iI 2) hx hb dL_undo_16 rfl ?_
      cases hp
      exact r_zret C hR hL rfl dL_undo_17
    replace hp := ite_n hp c9
    exact absurd hp (by simp)
def p_L_undo (v0 : Nat) (v1 : Int32) (v2 : Nat) (h : AH) : Option (Int32 × AH) := ck (v0 ≠ 0) <| ck (v2 ≠ 0) <| p_L_undo_0 v0 v1 v2 h
theorem c_L_undo (l : Launch) (hfl : l.stackTraces = false) (G : GG) (v0 : Nat) (v1 : Int32) (v2 : Nat) (h : AH) (r : Int32) (h' : AH) (hp : p_L_undo v0 v1 v2 h = some (r, h')) : Ct l yL_undo (.codeWith yL_undo cL_undo 4 (some .int) [(0, 9, 12, 13), (0, 9, 15, 17)] :: MW) G 11 260 [zr v0, .int v1, zr v2] h (some (.int r)) h' := by
  obtain ⟨hz0, hp⟩ := ck_i hp
  obtain ⟨hz2, hp⟩ := ck_i hp
  rw [show zr v0 = .ref (v0 - 1) from zr_p hz0]
  rw [show zr v2 = .ref (v2 - 1) from zr_p hz2]
  refine Ct.ofH (by decide +kernel) (Nat.le_of_ble_eq_true rfl) ?_
  intro p e s m args below meth c C htb hR ls hl
  have hl : zl ls 4 [(0, zr v0), (1, .int v1), (2, zr v2)] := ⟨by rw [zr_p hz0, zr_p hz2]; exact hl, by simp [zr_cat, in_cat]⟩
  exact s_L_undo_0 hfl htb C hR (fun _ hq => nomatch hq) hl hp
/-! CursorKeepLaw.redo(LCursorKeep;I[J)I -/
def p_L_redo_0  (v0 : Nat) (v1 : Int32) (v2 : Nat) (h : AH) : Option (Int32 × AH) :=
  ck (aK h v0 = 12) <|
  bC (p_X10_redo v0 v1 h) (fun r2 h3 =>
    ck (aK h3 v2 = 23 ∧ ix (iI 0) (aN h3 v2)) <|
    nm (uL h3 v2 (iI 0).toNatClampNeg ((r2).toInt64)) fun h7 =>
    some ((iI 0), h7))
  (fun e4 h3 =>
    if e4 = 1 then
      some ((iI 1), h3)
    else
      if e4 = 3 then
        some ((iI 2), h3)
      else
        none)
set_option maxHeartbeats 4000000 in
set_option maxRecDepth 100000 in
theorem s_L_redo_0 {p : Program} {l : Launch} {e : Env} {s : State} {m : MethodId} {args : Array Value} {below : List Frame} {meth : Method} {c : Code} {G : GG} {hs : AH} {r : Int32} {h' : AH} (hfl : l.stackTraces = false) (htb : c.exceptionTable.toList = tableOf [(0, 9, 12, 13), (0, 9, 15, 17)]) (C : Cx G hs p s m args meth c cL_redo 4 RL (.codeWith yL_redo cL_redo 4 (some .int) [(0, 9, 12, 13), (0, 9, 15, 17)] :: MW) (some .int) "redo")   {v0 : Nat} {v1 : Int32} {v2 : Nat} {h : AH} {H : Heap} {locs : List Loc} {cells slots : Nat} {ls : Array Slot} (hR : Rp G h H) (hL : ∀ q ∈ locs, gB G ≤ q.base) (hl : zl ls 4 [(0, zr v0), (1, .int v1), (2, zr v2)]) (hp : p_L_redo_0  v0 v1 v2 h = some (r, h')) : W p l e (gR G hs 11 260) s m args below meth c H locs cells slots (MQ below (Qcc G (some (.int r)) h') args s (gC G - aZ hs) (gS - aU hs) (fun q => gB G ≤ q)) (F0 m 0 ls []) := by
  obtain ⟨hx, hb, hml, hown, hts, hT, hK, rs, hlk, hret, hnm⟩ := id C
  have hm : ∀ w ∈ MW, w.before args s = true := fun w hw => hts w (hT w hw)
  unfold p_L_redo_0 at hp
  refine z_aload_n hx hb dL_redo_0 rfl (zl_at hl 2 rfl) ?_
  refine lv_iconst (v := iI 0) hx hb dL_redo_1 rfl ?_
  refine z_aload_n hx hb dL_redo_2 rfl (zl_at hl 0 rfl) ?_
  refine lv_iload_n hx hb dL_redo_3 rfl (zl_at hl 1 rfl) ?_
  obtain ⟨k1, hp⟩ := ck_i hp
  rcases bC_i hp with ⟨r2, h3, er2, hp⟩ | ⟨e4, h3, er2, hp⟩
  · refine r_runVX (ci := 11) (r := (RX10, TX10, 7)) (n := 1) (As := [.int v1]) (rest := [.int (iI 0), zr v2]) C (c_X10_redo l hfl G v0 v1 h (.ok r2) h3 er2) hR rfl k1 mw_646 mw_647 mw_648 mw_1 mw_649 (by decide +kernel) (by decide) rfl (zl_size hl) rfl (by simp [zr_cat, in_cat]) dL_redo_4 (fun cells slots hr => ?_)
    refine r_okRun hR hL hr (fun H locs cells slots hR hL => ?_)
    refine W.eq (g2 := F0 m 7 ls [.int r2, .int (iI 0), zr v2]) rfl ?_
    refine lv_i2l (v := (r2).toInt64) hx hb dL_redo_7 rfl ?_
    obtain ⟨k5, hp⟩ := ck_i hp
    refine r_last hx hb hK hR hL k5.1 k5.2 dL_redo_8 (fun H locs hR hL => ?_)
    obtain ⟨h7, hp, hR⟩ := nm_h hp hR
    refine lv_goto (tgt := 18) hx hb dL_redo_9 (by decide) ?_
    refine lv_iconst (v := iI 0) hx hb dL_redo_18 rfl ?_
    cases hp
    exact r_zret C hR hL rfl dL_redo_19
  · refine r_runVX (ci := 11) (r := (RX10, TX10, 7)) (n := 1) (As := [.int v1]) (rest := [.int (iI 0), zr v2]) C (c_X10_redo l hfl G v0 v1 h (.error e4) h3 er2) hR rfl k1 mw_646 mw_647 mw_648 mw_1 mw_649 (by decide +kernel) (by decide) rfl (zl_size hl) rfl (by simp [zr_cat, in_cat]) dL_redo_4 (fun cells slots hr => ?_)
    refine r_exRun hR hL hr (fun q9 ce H locs cells slots hR hL hce hcv hcl => ?_)
    by_cases c8 : e4 = 1
    · subst c8
      replace hp := ite_p hp rfl
      refine r_catch (e0 := 1) (name := "java/lang/IndexOutOfBoundsException") hown hK [] ⟨0, 9, 12, 13⟩ [⟨0, 9, 15, 17⟩] (htb.trans rfl) (fun _ hz => nomatch hz) (by decide) (by decide) (hm _ mw_299) (KW_t 312 (by decide +kernel) (by decide +kernel)) hce hcv hcl ?_
      refine z_astore_n (lv' := [(3, zr (q9 + 1)), (0, zr v0), (1, .int v1), (2, zr v2)]) hx hb dL_redo_12 rfl hl (by decide) rfl (fun ls hl => ?_)
      refine lv_iconst (v := iI 1) hx hb dL_redo_13 rfl ?_
      cases hp
      exact r_zret C hR hL rfl dL_redo_14
    replace hp := ite_n hp c8
    by_cases c9 : e4 = 3
    · subst c9
      replace hp := ite_p hp rfl
      refine r_catch (e0 := 3) (name := "java/lang/IllegalStateException") hown hK [⟨0, 9, 12, 13⟩] ⟨0, 9, 15, 17⟩ [] (htb.trans rfl) (fun z hz => by rw [List.mem_singleton.mp hz]; exact ⟨by decide, _, hm _ mw_299, by decide +kernel⟩) (by decide) (by decide) (hm _ mw_301) (KW_t 408 (by decide +kernel) (by decide +kernel)) hce hcv hcl ?_
      refine z_astore_n (lv' := [(3, zr (q9 + 1)), (0, zr v0), (1, .int v1), (2, zr v2)]) hx hb dL_redo_15 rfl hl (by decide) rfl (fun ls hl => ?_)
      refine lv_iconst (v := iI 2) hx hb dL_redo_16 rfl ?_
      cases hp
      exact r_zret C hR hL rfl dL_redo_17
    replace hp := ite_n hp c9
    exact absurd hp (by simp)
def p_L_redo (v0 : Nat) (v1 : Int32) (v2 : Nat) (h : AH) : Option (Int32 × AH) := ck (v0 ≠ 0) <| ck (v2 ≠ 0) <| p_L_redo_0 v0 v1 v2 h
theorem c_L_redo (l : Launch) (hfl : l.stackTraces = false) (G : GG) (v0 : Nat) (v1 : Int32) (v2 : Nat) (h : AH) (r : Int32) (h' : AH) (hp : p_L_redo v0 v1 v2 h = some (r, h')) : Ct l yL_redo (.codeWith yL_redo cL_redo 4 (some .int) [(0, 9, 12, 13), (0, 9, 15, 17)] :: MW) G 11 260 [zr v0, .int v1, zr v2] h (some (.int r)) h' := by
  obtain ⟨hz0, hp⟩ := ck_i hp
  obtain ⟨hz2, hp⟩ := ck_i hp
  rw [show zr v0 = .ref (v0 - 1) from zr_p hz0]
  rw [show zr v2 = .ref (v2 - 1) from zr_p hz2]
  refine Ct.ofH (by decide +kernel) (Nat.le_of_ble_eq_true rfl) ?_
  intro p e s m args below meth c C htb hR ls hl
  have hl : zl ls 4 [(0, zr v0), (1, .int v1), (2, zr v2)] := ⟨by rw [zr_p hz0, zr_p hz2]; exact hl, by simp [zr_cat, in_cat]⟩
  exact s_L_redo_0 hfl htb C hR (fun _ hq => nomatch hq) hl hp
/-! CursorKeepLaw.place(LCursorKeep;II[J)I -/
def p_L_place_0  (v0 : Nat) (v1 : Int32) (v2 : Int32) (v3 : Nat) (h : AH) : Option (Int32 × AH) :=
  ck (aK h v0 = 12) <|
  bC (p_X10_place v0 v1 v2 h) (fun r2 h3 =>
    ck (aK h3 v3 = 23 ∧ ix (iI 0) (aN h3 v3)) <|
    nm (uL h3 v3 (iI 0).toNatClampNeg ((r2).toInt64)) fun h7 =>
    some ((iI 0), h7))
  (fun e4 h3 =>
    if e4 = 1 then
      some ((iI 1), h3)
    else
      none)
set_option maxHeartbeats 4000000 in
set_option maxRecDepth 100000 in
theorem s_L_place_0 {p : Program} {l : Launch} {e : Env} {s : State} {m : MethodId} {args : Array Value} {below : List Frame} {meth : Method} {c : Code} {G : GG} {hs : AH} {r : Int32} {h' : AH} (hfl : l.stackTraces = false) (htb : c.exceptionTable.toList = tableOf [(0, 10, 13, 13)]) (C : Cx G hs p s m args meth c cL_place 5 RL (.codeWith yL_place cL_place 5 (some .int) [(0, 10, 13, 13)] :: MW) (some .int) "place")   {v0 : Nat} {v1 : Int32} {v2 : Int32} {v3 : Nat} {h : AH} {H : Heap} {locs : List Loc} {cells slots : Nat} {ls : Array Slot} (hR : Rp G h H) (hL : ∀ q ∈ locs, gB G ≤ q.base) (hl : zl ls 5 [(0, zr v0), (1, .int v1), (2, .int v2), (3, zr v3)]) (hp : p_L_place_0  v0 v1 v2 v3 h = some (r, h')) : W p l e (gR G hs 8 154) s m args below meth c H locs cells slots (MQ below (Qcc G (some (.int r)) h') args s (gC G - aZ hs) (gS - aU hs) (fun q => gB G ≤ q)) (F0 m 0 ls []) := by
  obtain ⟨hx, hb, hml, hown, hts, hT, hK, rs, hlk, hret, hnm⟩ := id C
  have hm : ∀ w ∈ MW, w.before args s = true := fun w hw => hts w (hT w hw)
  unfold p_L_place_0 at hp
  refine z_aload_n hx hb dL_place_0 rfl (zl_at hl 3 rfl) ?_
  refine lv_iconst (v := iI 0) hx hb dL_place_1 rfl ?_
  refine z_aload_n hx hb dL_place_2 rfl (zl_at hl 0 rfl) ?_
  refine lv_iload_n hx hb dL_place_3 rfl (zl_at hl 1 rfl) ?_
  refine lv_iload_n hx hb dL_place_4 rfl (zl_at hl 2 rfl) ?_
  obtain ⟨k1, hp⟩ := ck_i hp
  rcases bC_i hp with ⟨r2, h3, er2, hp⟩ | ⟨e4, h3, er2, hp⟩
  · refine r_runVX (ci := 11) (r := (RX10, TX10, 7)) (n := 2) (As := [.int v1, .int v2]) (rest := [.int (iI 0), zr v3]) C (c_X10_place l hfl G v0 v1 v2 h (.ok r2) h3 er2) hR rfl k1 mw_658 mw_659 mw_660 mw_1 mw_661 (by decide +kernel) (by decide) rfl (zl_size hl) rfl (by simp [zr_cat, in_cat]) dL_place_5 (fun cells slots hr => ?_)
    refine r_okRun hR hL hr (fun H locs cells slots hR hL => ?_)
    refine W.eq (g2 := F0 m 8 ls [.int r2, .int (iI 0), zr v3]) rfl ?_
    refine lv_i2l (v := (r2).toInt64) hx hb dL_place_8 rfl ?_
    obtain ⟨k5, hp⟩ := ck_i hp
    refine r_last hx hb hK hR hL k5.1 k5.2 dL_place_9 (fun H locs hR hL => ?_)
    obtain ⟨h7, hp, hR⟩ := nm_h hp hR
    refine lv_goto (tgt := 17) hx hb dL_place_10 (by decide) ?_
    refine lv_iconst (v := iI 0) hx hb dL_place_17 rfl ?_
    cases hp
    exact r_zret C hR hL rfl dL_place_18
  · refine r_runVX (ci := 11) (r := (RX10, TX10, 7)) (n := 2) (As := [.int v1, .int v2]) (rest := [.int (iI 0), zr v3]) C (c_X10_place l hfl G v0 v1 v2 h (.error e4) h3 er2) hR rfl k1 mw_658 mw_659 mw_660 mw_1 mw_661 (by decide +kernel) (by decide) rfl (zl_size hl) rfl (by simp [zr_cat, in_cat]) dL_place_5 (fun cells slots hr => ?_)
    refine r_exRun hR hL hr (fun q9 ce H locs cells slots hR hL hce hcv hcl => ?_)
    by_cases c8 : e4 = 1
    · subst c8
      replace hp := ite_p hp rfl
      refine r_catch (e0 := 1) (name := "java/lang/IndexOutOfBoundsException") hown hK [] ⟨0, 10, 13, 13⟩ [] (htb.trans rfl) (fun _ hz => nomatch hz) (by decide) (by decide) (hm _ mw_299) (KW_t 312 (by decide +kernel) (by decide +kernel)) hce hcv hcl ?_
      refine z_astore (lv' := [(4, zr (q9 + 1)), (0, zr v0), (1, .int v1), (2, .int v2), (3, zr v3)]) hx hb dL_place_13 hl (by decide) rfl (fun ls hl => ?_)
      refine lv_iconst (v := iI 1) hx hb dL_place_15 rfl ?_
      cases hp
      exact r_zret C hR hL rfl dL_place_16
    replace hp := ite_n hp c8
    exact absurd hp (by simp)
def p_L_place (v0 : Nat) (v1 : Int32) (v2 : Int32) (v3 : Nat) (h : AH) : Option (Int32 × AH) := ck (v0 ≠ 0) <| ck (v3 ≠ 0) <| p_L_place_0 v0 v1 v2 v3 h
theorem c_L_place (l : Launch) (hfl : l.stackTraces = false) (G : GG) (v0 : Nat) (v1 : Int32) (v2 : Int32) (v3 : Nat) (h : AH) (r : Int32) (h' : AH) (hp : p_L_place v0 v1 v2 v3 h = some (r, h')) : Ct l yL_place (.codeWith yL_place cL_place 5 (some .int) [(0, 10, 13, 13)] :: MW) G 8 154 [zr v0, .int v1, .int v2, zr v3] h (some (.int r)) h' := by
  obtain ⟨hz0, hp⟩ := ck_i hp
  obtain ⟨hz3, hp⟩ := ck_i hp
  rw [show zr v0 = .ref (v0 - 1) from zr_p hz0]
  rw [show zr v3 = .ref (v3 - 1) from zr_p hz3]
  refine Ct.ofH (by decide +kernel) (Nat.le_of_ble_eq_true rfl) ?_
  intro p e s m args below meth c C htb hR ls hl
  have hl : zl ls 5 [(0, zr v0), (1, .int v1), (2, .int v2), (3, zr v3)] := ⟨by rw [zr_p hz0, zr_p hz3]; exact hl, by simp [zr_cat, in_cat]⟩
  exact s_L_place_0 hfl htb C hR (fun _ hq => nomatch hq) hl hp
/-! CursorKeepLaw.length(LCursorKeep;I[J)I -/
def p_L_length_0  (v0 : Nat) (v1 : Int32) (v2 : Nat) (h : AH) : Option (Int32 × AH) :=
  ck (aK h v0 = 12) <|
  bC (p_X10_length v0 v1 h) (fun r2 h3 =>
    ck (aK h3 v2 = 23 ∧ ix (iI 0) (aN h3 v2)) <|
    nm (uL h3 v2 (iI 0).toNatClampNeg ((r2).toInt64)) fun h7 =>
    some ((iI 0), h7))
  (fun e4 h3 =>
    if e4 = 1 then
      some ((iI 1), h3)
    else
      none)
set_option maxHeartbeats 4000000 in
set_option maxRecDepth 100000 in
theorem s_L_length_0 {p : Program} {l : Launch} {e : Env} {s : State} {m : MethodId} {args : Array Value} {below : List Frame} {meth : Method} {c : Code} {G : GG} {hs : AH} {r : Int32} {h' : AH} (hfl : l.stackTraces = false) (htb : c.exceptionTable.toList = tableOf [(0, 9, 12, 13)]) (C : Cx G hs p s m args meth c cL_length 4 RL (.codeWith yL_length cL_length 4 (some .int) [(0, 9, 12, 13)] :: MW) (some .int) "length")   {v0 : Nat} {v1 : Int32} {v2 : Nat} {h : AH} {H : Heap} {locs : List Loc} {cells slots : Nat} {ls : Array Slot} (hR : Rp G h H) (hL : ∀ q ∈ locs, gB G ≤ q.base) (hl : zl ls 4 [(0, zr v0), (1, .int v1), (2, zr v2)]) (hp : p_L_length_0  v0 v1 v2 h = some (r, h')) : W p l e (gR G hs 8 153) s m args below meth c H locs cells slots (MQ below (Qcc G (some (.int r)) h') args s (gC G - aZ hs) (gS - aU hs) (fun q => gB G ≤ q)) (F0 m 0 ls []) := by
  obtain ⟨hx, hb, hml, hown, hts, hT, hK, rs, hlk, hret, hnm⟩ := id C
  have hm : ∀ w ∈ MW, w.before args s = true := fun w hw => hts w (hT w hw)
  unfold p_L_length_0 at hp
  refine z_aload_n hx hb dL_length_0 rfl (zl_at hl 2 rfl) ?_
  refine lv_iconst (v := iI 0) hx hb dL_length_1 rfl ?_
  refine z_aload_n hx hb dL_length_2 rfl (zl_at hl 0 rfl) ?_
  refine lv_iload_n hx hb dL_length_3 rfl (zl_at hl 1 rfl) ?_
  obtain ⟨k1, hp⟩ := ck_i hp
  rcases bC_i hp with ⟨r2, h3, er2, hp⟩ | ⟨e4, h3, er2, hp⟩
  · refine r_runVX (ci := 11) (r := (RX10, TX10, 7)) (n := 1) (As := [.int v1]) (rest := [.int (iI 0), zr v2]) C (c_X10_length l hfl G v0 v1 h (.ok r2) h3 er2) hR rfl k1 mw_665 mw_666 mw_667 mw_1 mw_668 (by decide +kernel) (by decide) rfl (zl_size hl) rfl (by simp [zr_cat, in_cat]) dL_length_4 (fun cells slots hr => ?_)
    refine r_okRun hR hL hr (fun H locs cells slots hR hL => ?_)
    refine W.eq (g2 := F0 m 7 ls [.int r2, .int (iI 0), zr v2]) rfl ?_
    refine lv_i2l (v := (r2).toInt64) hx hb dL_length_7 rfl ?_
    obtain ⟨k5, hp⟩ := ck_i hp
    refine r_last hx hb hK hR hL k5.1 k5.2 dL_length_8 (fun H locs hR hL => ?_)
    obtain ⟨h7, hp, hR⟩ := nm_h hp hR
    refine lv_goto (tgt := 15) hx hb dL_length_9 (by decide) ?_
    refine lv_iconst (v := iI 0) hx hb dL_length_15 rfl ?_
    cases hp
    exact r_zret C hR hL rfl dL_length_16
  · refine r_runVX (ci := 11) (r := (RX10, TX10, 7)) (n := 1) (As := [.int v1]) (rest := [.int (iI 0), zr v2]) C (c_X10_length l hfl G v0 v1 h (.error e4) h3 er2) hR rfl k1 mw_665 mw_666 mw_667 mw_1 mw_668 (by decide +kernel) (by decide) rfl (zl_size hl) rfl (by simp [zr_cat, in_cat]) dL_length_4 (fun cells slots hr => ?_)
    refine r_exRun hR hL hr (fun q9 ce H locs cells slots hR hL hce hcv hcl => ?_)
    by_cases c8 : e4 = 1
    · subst c8
      replace hp := ite_p hp rfl
      refine r_catch (e0 := 1) (name := "java/lang/IndexOutOfBoundsException") hown hK [] ⟨0, 9, 12, 13⟩ [] (htb.trans rfl) (fun _ hz => nomatch hz) (by decide) (by decide) (hm _ mw_299) (KW_t 312 (by decide +kernel) (by decide +kernel)) hce hcv hcl ?_
      refine z_astore_n (lv' := [(3, zr (q9 + 1)), (0, zr v0), (1, .int v1), (2, zr v2)]) hx hb dL_length_12 rfl hl (by decide) rfl (fun ls hl => ?_)
      refine lv_iconst (v := iI 1) hx hb dL_length_13 rfl ?_
      cases hp
      exact r_zret C hR hL rfl dL_length_14
    replace hp := ite_n hp c8
    exact absurd hp (by simp)
def p_L_length (v0 : Nat) (v1 : Int32) (v2 : Nat) (h : AH) : Option (Int32 × AH) := ck (v0 ≠ 0) <| ck (v2 ≠ 0) <| p_L_length_0 v0 v1 v2 h
theorem c_L_length (l : Launch) (hfl : l.stackTraces = false) (G : GG) (v0 : Nat) (v1 : Int32) (v2 : Nat) (h : AH) (r : Int32) (h' : AH) (hp : p_L_length v0 v1 v2 h = some (r, h')) : Ct l yL_length (.codeWith yL_length cL_length 4 (some .int) [(0, 9, 12, 13)] :: MW) G 8 153 [zr v0, .int v1, zr v2] h (some (.int r)) h' := by
  obtain ⟨hz0, hp⟩ := ck_i hp
  obtain ⟨hz2, hp⟩ := ck_i hp
  rw [show zr v0 = .ref (v0 - 1) from zr_p hz0]
  rw [show zr v2 = .ref (v2 - 1) from zr_p hz2]
  refine Ct.ofH (by decide +kernel) (Nat.le_of_ble_eq_true rfl) ?_
  intro p e s m args below meth c C htb hR ls hl
  have hl : zl ls 4 [(0, zr v0), (1, .int v1), (2, zr v2)] := ⟨by rw [zr_p hz0, zr_p hz2]; exact hl, by simp [zr_cat, in_cat]⟩
  exact s_L_length_0 hfl htb C hR (fun _ hq => nomatch hq) hl hp
/-! CursorKeepLaw.letter(LCursorKeep;II[J)I -/
def p_L_letter_0  (v0 : Nat) (v1 : Int32) (v2 : Int32) (v3 : Nat) (h : AH) : Option (Int32 × AH) :=
  ck (aK h v0 = 12) <|
  bC (p_X10_letter v0 v1 v2 h) (fun r2 h3 =>
    ck (aK h3 v3 = 23 ∧ ix (iI 0) (aN h3 v3)) <|
    nm (uL h3 v3 (iI 0).toNatClampNeg ((r2).toInt64)) fun h7 =>
    some ((iI 0), h7))
  (fun e4 h3 =>
    if e4 = 1 then
      some ((iI 1), h3)
    else
      none)
set_option maxHeartbeats 4000000 in
set_option maxRecDepth 100000 in
theorem s_L_letter_0 {p : Program} {l : Launch} {e : Env} {s : State} {m : MethodId} {args : Array Value} {below : List Frame} {meth : Method} {c : Code} {G : GG} {hs : AH} {r : Int32} {h' : AH} (hfl : l.stackTraces = false) (htb : c.exceptionTable.toList = tableOf [(0, 10, 13, 13)]) (C : Cx G hs p s m args meth c cL_letter 5 RL (.codeWith yL_letter cL_letter 5 (some .int) [(0, 10, 13, 13)] :: MW) (some .int) "letter")   {v0 : Nat} {v1 : Int32} {v2 : Int32} {v3 : Nat} {h : AH} {H : Heap} {locs : List Loc} {cells slots : Nat} {ls : Array Slot} (hR : Rp G h H) (hL : ∀ q ∈ locs, gB G ≤ q.base) (hl : zl ls 5 [(0, zr v0), (1, .int v1), (2, .int v2), (3, zr v3)]) (hp : p_L_letter_0  v0 v1 v2 v3 h = some (r, h')) : W p l e (gR G hs 8 154) s m args below meth c H locs cells slots (MQ below (Qcc G (some (.int r)) h') args s (gC G - aZ hs) (gS - aU hs) (fun q => gB G ≤ q)) (F0 m 0 ls []) := by
  obtain ⟨hx, hb, hml, hown, hts, hT, hK, rs, hlk, hret, hnm⟩ := id C
  have hm : ∀ w ∈ MW, w.before args s = true := fun w hw => hts w (hT w hw)
  unfold p_L_letter_0 at hp
  refine z_aload_n hx hb dL_letter_0 rfl (zl_at hl 3 rfl) ?_
  refine lv_iconst (v := iI 0) hx hb dL_letter_1 rfl ?_
  refine z_aload_n hx hb dL_letter_2 rfl (zl_at hl 0 rfl) ?_
  refine lv_iload_n hx hb dL_letter_3 rfl (zl_at hl 1 rfl) ?_
  refine lv_iload_n hx hb dL_letter_4 rfl (zl_at hl 2 rfl) ?_
  obtain ⟨k1, hp⟩ := ck_i hp
  rcases bC_i hp with ⟨r2, h3, er2, hp⟩ | ⟨e4, h3, er2, hp⟩
  · refine r_runVX (ci := 11) (r := (RX10, TX10, 7)) (n := 2) (As := [.int v1, .int v2]) (rest := [.int (iI 0), zr v3]) C (c_X10_letter l hfl G v0 v1 v2 h (.ok r2) h3 er2) hR rfl k1 mw_672 mw_673 mw_674 mw_1 mw_675 (by decide +kernel) (by decide) rfl (zl_size hl) rfl (by simp [zr_cat, in_cat]) dL_letter_5 (fun cells slots hr => ?_)
    refine r_okRun hR hL hr (fun H locs cells slots hR hL => ?_)
    refine W.eq (g2 := F0 m 8 ls [.int r2, .int (iI 0), zr v3]) rfl ?_
    refine lv_i2l (v := (r2).toInt64) hx hb dL_letter_8 rfl ?_
    obtain ⟨k5, hp⟩ := ck_i hp
    refine r_last hx hb hK hR hL k5.1 k5.2 dL_letter_9 (fun H locs hR hL => ?_)
    obtain ⟨h7, hp, hR⟩ := nm_h hp hR
    refine lv_goto (tgt := 17) hx hb dL_letter_10 (by decide) ?_
    refine lv_iconst (v := iI 0) hx hb dL_letter_17 rfl ?_
    cases hp
    exact r_zret C hR hL rfl dL_letter_18
  · refine r_runVX (ci := 11) (r := (RX10, TX10, 7)) (n := 2) (As := [.int v1, .int v2]) (rest := [.int (iI 0), zr v3]) C (c_X10_letter l hfl G v0 v1 v2 h (.error e4) h3 er2) hR rfl k1 mw_672 mw_673 mw_674 mw_1 mw_675 (by decide +kernel) (by decide) rfl (zl_size hl) rfl (by simp [zr_cat, in_cat]) dL_letter_5 (fun cells slots hr => ?_)
    refine r_exRun hR hL hr (fun q9 ce H locs cells slots hR hL hce hcv hcl => ?_)
    by_cases c8 : e4 = 1
    · subst c8
      replace hp := ite_p hp rfl
      refine r_catch (e0 := 1) (name := "java/lang/IndexOutOfBoundsException") hown hK [] ⟨0, 10, 13, 13⟩ [] (htb.trans rfl) (fun _ hz => nomatch hz) (by decide) (by decide) (hm _ mw_299) (KW_t 312 (by decide +kernel) (by decide +kernel)) hce hcv hcl ?_
      refine z_astore (lv' := [(4, zr (q9 + 1)), (0, zr v0), (1, .int v1), (2, .int v2), (3, zr v3)]) hx hb dL_letter_13 hl (by decide) rfl (fun ls hl => ?_)
      refine lv_iconst (v := iI 1) hx hb dL_letter_15 rfl ?_
      cases hp
      exact r_zret C hR hL rfl dL_letter_16
    replace hp := ite_n hp c8
    exact absurd hp (by simp)
def p_L_letter (v0 : Nat) (v1 : Int32) (v2 : Int32) (v3 : Nat) (h : AH) : Option (Int32 × AH) := ck (v0 ≠ 0) <| ck (v3 ≠ 0) <| p_L_letter_0 v0 v1 v2 v3 h
theorem c_L_letter (l : Launch) (hfl : l.stackTraces = false) (G : GG) (v0 : Nat) (v1 : Int32) (v2 : Int32) (v3 : Nat) (h : AH) (r : Int32) (h' : AH) (hp : p_L_letter v0 v1 v2 v3 h = some (r, h')) : Ct l yL_letter (.codeWith yL_letter cL_letter 5 (some .int) [(0, 10, 13, 13)] :: MW) G 8 154 [zr v0, .int v1, .int v2, zr v3] h (some (.int r)) h' := by
  obtain ⟨hz0, hp⟩ := ck_i hp
  obtain ⟨hz3, hp⟩ := ck_i hp
  rw [show zr v0 = .ref (v0 - 1) from zr_p hz0]
  rw [show zr v3 = .ref (v3 - 1) from zr_p hz3]
  refine Ct.ofH (by decide +kernel) (Nat.le_of_ble_eq_true rfl) ?_
  intro p e s m args below meth c C htb hR ls hl
  have hl : zl ls 5 [(0, zr v0), (1, .int v1), (2, .int v2), (3, zr v3)] := ⟨by rw [zr_p hz0, zr_p hz3]; exact hl, by simp [zr_cat, in_cat]⟩
  exact s_L_letter_0 hfl htb C hR (fun _ hq => nomatch hq) hl hp
/-! CursorKeepLaw.letterAnew(LCursorKeep;II[J)I -/
def p_L_letterAnew_0  (v0 : Nat) (v1 : Int32) (v2 : Int32) (v3 : Nat) (h : AH) : Option (Int32 × AH) :=
  ck (aK h v0 = 12) <|
  bC (p_X10_letterAnew v0 v1 v2 h) (fun r2 h3 =>
    ck (aK h3 v3 = 23 ∧ ix (iI 0) (aN h3 v3)) <|
    nm (uL h3 v3 (iI 0).toNatClampNeg ((r2).toInt64)) fun h7 =>
    some ((iI 0), h7))
  (fun e4 h3 =>
    if e4 = 1 then
      some ((iI 1), h3)
    else
      none)
set_option maxHeartbeats 4000000 in
set_option maxRecDepth 100000 in
theorem s_L_letterAnew_0 {p : Program} {l : Launch} {e : Env} {s : State} {m : MethodId} {args : Array Value} {below : List Frame} {meth : Method} {c : Code} {G : GG} {hs : AH} {r : Int32} {h' : AH} (hfl : l.stackTraces = false) (htb : c.exceptionTable.toList = tableOf [(0, 10, 13, 13)]) (C : Cx G hs p s m args meth c cL_letterAnew 5 RL (.codeWith yL_letterAnew cL_letterAnew 5 (some .int) [(0, 10, 13, 13)] :: MW) (some .int) "letterAnew")   {v0 : Nat} {v1 : Int32} {v2 : Int32} {v3 : Nat} {h : AH} {H : Heap} {locs : List Loc} {cells slots : Nat} {ls : Array Slot} (hR : Rp G h H) (hL : ∀ q ∈ locs, gB G ≤ q.base) (hl : zl ls 5 [(0, zr v0), (1, .int v1), (2, .int v2), (3, zr v3)]) (hp : p_L_letterAnew_0  v0 v1 v2 v3 h = some (r, h')) : W p l e (gR G hs 8 154) s m args below meth c H locs cells slots (MQ below (Qcc G (some (.int r)) h') args s (gC G - aZ hs) (gS - aU hs) (fun q => gB G ≤ q)) (F0 m 0 ls []) := by
  obtain ⟨hx, hb, hml, hown, hts, hT, hK, rs, hlk, hret, hnm⟩ := id C
  have hm : ∀ w ∈ MW, w.before args s = true := fun w hw => hts w (hT w hw)
  unfold p_L_letterAnew_0 at hp
  refine z_aload_n hx hb dL_letterAnew_0 rfl (zl_at hl 3 rfl) ?_
  refine lv_iconst (v := iI 0) hx hb dL_letterAnew_1 rfl ?_
  refine z_aload_n hx hb dL_letterAnew_2 rfl (zl_at hl 0 rfl) ?_
  refine lv_iload_n hx hb dL_letterAnew_3 rfl (zl_at hl 1 rfl) ?_
  refine lv_iload_n hx hb dL_letterAnew_4 rfl (zl_at hl 2 rfl) ?_
  obtain ⟨k1, hp⟩ := ck_i hp
  rcases bC_i hp with ⟨r2, h3, er2, hp⟩ | ⟨e4, h3, er2, hp⟩
  · refine r_runVX (ci := 11) (r := (RX10, TX10, 7)) (n := 2) (As := [.int v1, .int v2]) (rest := [.int (iI 0), zr v3]) C (c_X10_letterAnew l hfl G v0 v1 v2 h (.ok r2) h3 er2) hR rfl k1 mw_683 mw_684 mw_685 mw_1 mw_686 (by decide +kernel) (by decide) rfl (zl_size hl) rfl (by simp [zr_cat, in_cat]) dL_letterAnew_5 (fun cells slots hr => ?_)
    refine r_okRun hR hL hr (fun H locs cells slots hR hL => ?_)
    refine W.eq (g2 := F0 m 8 ls [.int r2, .int (iI 0), zr v3]) rfl ?_
    refine lv_i2l (v := (r2).toInt64) hx hb dL_letterAnew_8 rfl ?_
    obtain ⟨k5, hp⟩ := ck_i hp
    refine r_last hx hb hK hR hL k5.1 k5.2 dL_letterAnew_9 (fun H locs hR hL => ?_)
    obtain ⟨h7, hp, hR⟩ := nm_h hp hR
    refine lv_goto (tgt := 17) hx hb dL_letterAnew_10 (by decide) ?_
    refine lv_iconst (v := iI 0) hx hb dL_letterAnew_17 rfl ?_
    cases hp
    exact r_zret C hR hL rfl dL_letterAnew_18
  · refine r_runVX (ci := 11) (r := (RX10, TX10, 7)) (n := 2) (As := [.int v1, .int v2]) (rest := [.int (iI 0), zr v3]) C (c_X10_letterAnew l hfl G v0 v1 v2 h (.error e4) h3 er2) hR rfl k1 mw_683 mw_684 mw_685 mw_1 mw_686 (by decide +kernel) (by decide) rfl (zl_size hl) rfl (by simp [zr_cat, in_cat]) dL_letterAnew_5 (fun cells slots hr => ?_)
    refine r_exRun hR hL hr (fun q9 ce H locs cells slots hR hL hce hcv hcl => ?_)
    by_cases c8 : e4 = 1
    · subst c8
      replace hp := ite_p hp rfl
      refine r_catch (e0 := 1) (name := "java/lang/IndexOutOfBoundsException") hown hK [] ⟨0, 10, 13, 13⟩ [] (htb.trans rfl) (fun _ hz => nomatch hz) (by decide) (by decide) (hm _ mw_299) (KW_t 312 (by decide +kernel) (by decide +kernel)) hce hcv hcl ?_
      refine z_astore (lv' := [(4, zr (q9 + 1)), (0, zr v0), (1, .int v1), (2, .int v2), (3, zr v3)]) hx hb dL_letterAnew_13 hl (by decide) rfl (fun ls hl => ?_)
      refine lv_iconst (v := iI 1) hx hb dL_letterAnew_15 rfl ?_
      cases hp
      exact r_zret C hR hL rfl dL_letterAnew_16
    replace hp := ite_n hp c8
    exact absurd hp (by simp)
def p_L_letterAnew (v0 : Nat) (v1 : Int32) (v2 : Int32) (v3 : Nat) (h : AH) : Option (Int32 × AH) := ck (v0 ≠ 0) <| ck (v3 ≠ 0) <| p_L_letterAnew_0 v0 v1 v2 v3 h
theorem c_L_letterAnew (l : Launch) (hfl : l.stackTraces = false) (G : GG) (v0 : Nat) (v1 : Int32) (v2 : Int32) (v3 : Nat) (h : AH) (r : Int32) (h' : AH) (hp : p_L_letterAnew v0 v1 v2 v3 h = some (r, h')) : Ct l yL_letterAnew (.codeWith yL_letterAnew cL_letterAnew 5 (some .int) [(0, 10, 13, 13)] :: MW) G 8 154 [zr v0, .int v1, .int v2, zr v3] h (some (.int r)) h' := by
  obtain ⟨hz0, hp⟩ := ck_i hp
  obtain ⟨hz3, hp⟩ := ck_i hp
  rw [show zr v0 = .ref (v0 - 1) from zr_p hz0]
  rw [show zr v3 = .ref (v3 - 1) from zr_p hz3]
  refine Ct.ofH (by decide +kernel) (Nat.le_of_ble_eq_true rfl) ?_
  intro p e s m args below meth c C htb hR ls hl
  have hl : zl ls 5 [(0, zr v0), (1, .int v1), (2, .int v2), (3, zr v3)] := ⟨by rw [zr_p hz0, zr_p hz3]; exact hl, by simp [zr_cat, in_cat]⟩
  exact s_L_letterAnew_0 hfl htb C hR (fun _ hq => nomatch hq) hl hp
/-! CursorKeepLaw.version(LCursorKeep;I[J)I -/
def p_L_version_0  (v0 : Nat) (v1 : Int32) (v2 : Nat) (h : AH) : Option (Int32 × AH) :=
  ck (aK h v0 = 12) <|
  bC (p_X10_version v0 v1 h) (fun r2 h3 =>
    ck (aK h3 v2 = 23 ∧ ix (iI 0) (aN h3 v2)) <|
    nm (uL h3 v2 (iI 0).toNatClampNeg ((r2).toInt64)) fun h7 =>
    some ((iI 0), h7))
  (fun e4 h3 =>
    if e4 = 1 then
      some ((iI 1), h3)
    else
      none)
set_option maxHeartbeats 4000000 in
set_option maxRecDepth 100000 in
theorem s_L_version_0 {p : Program} {l : Launch} {e : Env} {s : State} {m : MethodId} {args : Array Value} {below : List Frame} {meth : Method} {c : Code} {G : GG} {hs : AH} {r : Int32} {h' : AH} (hfl : l.stackTraces = false) (htb : c.exceptionTable.toList = tableOf [(0, 9, 12, 13)]) (C : Cx G hs p s m args meth c cL_version 4 RL (.codeWith yL_version cL_version 4 (some .int) [(0, 9, 12, 13)] :: MW) (some .int) "version")   {v0 : Nat} {v1 : Int32} {v2 : Nat} {h : AH} {H : Heap} {locs : List Loc} {cells slots : Nat} {ls : Array Slot} (hR : Rp G h H) (hL : ∀ q ∈ locs, gB G ≤ q.base) (hl : zl ls 4 [(0, zr v0), (1, .int v1), (2, zr v2)]) (hp : p_L_version_0  v0 v1 v2 h = some (r, h')) : W p l e (gR G hs 8 153) s m args below meth c H locs cells slots (MQ below (Qcc G (some (.int r)) h') args s (gC G - aZ hs) (gS - aU hs) (fun q => gB G ≤ q)) (F0 m 0 ls []) := by
  obtain ⟨hx, hb, hml, hown, hts, hT, hK, rs, hlk, hret, hnm⟩ := id C
  have hm : ∀ w ∈ MW, w.before args s = true := fun w hw => hts w (hT w hw)
  unfold p_L_version_0 at hp
  refine z_aload_n hx hb dL_version_0 rfl (zl_at hl 2 rfl) ?_
  refine lv_iconst (v := iI 0) hx hb dL_version_1 rfl ?_
  refine z_aload_n hx hb dL_version_2 rfl (zl_at hl 0 rfl) ?_
  refine lv_iload_n hx hb dL_version_3 rfl (zl_at hl 1 rfl) ?_
  obtain ⟨k1, hp⟩ := ck_i hp
  rcases bC_i hp with ⟨r2, h3, er2, hp⟩ | ⟨e4, h3, er2, hp⟩
  · refine r_runVX (ci := 11) (r := (RX10, TX10, 7)) (n := 1) (As := [.int v1]) (rest := [.int (iI 0), zr v2]) C (c_X10_version l hfl G v0 v1 h (.ok r2) h3 er2) hR rfl k1 mw_700 mw_701 mw_702 mw_1 mw_703 (by decide +kernel) (by decide) rfl (zl_size hl) rfl (by simp [zr_cat, in_cat]) dL_version_4 (fun cells slots hr => ?_)
    refine r_okRun hR hL hr (fun H locs cells slots hR hL => ?_)
    refine W.eq (g2 := F0 m 7 ls [.int r2, .int (iI 0), zr v2]) rfl ?_
    refine lv_i2l (v := (r2).toInt64) hx hb dL_version_7 rfl ?_
    obtain ⟨k5, hp⟩ := ck_i hp
    refine r_last hx hb hK hR hL k5.1 k5.2 dL_version_8 (fun H locs hR hL => ?_)
    obtain ⟨h7, hp, hR⟩ := nm_h hp hR
    refine lv_goto (tgt := 15) hx hb dL_version_9 (by decide) ?_
    refine lv_iconst (v := iI 0) hx hb dL_version_15 rfl ?_
    cases hp
    exact r_zret C hR hL rfl dL_version_16
  · refine r_runVX (ci := 11) (r := (RX10, TX10, 7)) (n := 1) (As := [.int v1]) (rest := [.int (iI 0), zr v2]) C (c_X10_version l hfl G v0 v1 h (.error e4) h3 er2) hR rfl k1 mw_700 mw_701 mw_702 mw_1 mw_703 (by decide +kernel) (by decide) rfl (zl_size hl) rfl (by simp [zr_cat, in_cat]) dL_version_4 (fun cells slots hr => ?_)
    refine r_exRun hR hL hr (fun q9 ce H locs cells slots hR hL hce hcv hcl => ?_)
    by_cases c8 : e4 = 1
    · subst c8
      replace hp := ite_p hp rfl
      refine r_catch (e0 := 1) (name := "java/lang/IndexOutOfBoundsException") hown hK [] ⟨0, 9, 12, 13⟩ [] (htb.trans rfl) (fun _ hz => nomatch hz) (by decide) (by decide) (hm _ mw_299) (KW_t 312 (by decide +kernel) (by decide +kernel)) hce hcv hcl ?_
      refine z_astore_n (lv' := [(3, zr (q9 + 1)), (0, zr v0), (1, .int v1), (2, zr v2)]) hx hb dL_version_12 rfl hl (by decide) rfl (fun ls hl => ?_)
      refine lv_iconst (v := iI 1) hx hb dL_version_13 rfl ?_
      cases hp
      exact r_zret C hR hL rfl dL_version_14
    replace hp := ite_n hp c8
    exact absurd hp (by simp)
def p_L_version (v0 : Nat) (v1 : Int32) (v2 : Nat) (h : AH) : Option (Int32 × AH) := ck (v0 ≠ 0) <| ck (v2 ≠ 0) <| p_L_version_0 v0 v1 v2 h
theorem c_L_version (l : Launch) (hfl : l.stackTraces = false) (G : GG) (v0 : Nat) (v1 : Int32) (v2 : Nat) (h : AH) (r : Int32) (h' : AH) (hp : p_L_version v0 v1 v2 h = some (r, h')) : Ct l yL_version (.codeWith yL_version cL_version 4 (some .int) [(0, 9, 12, 13)] :: MW) G 8 153 [zr v0, .int v1, zr v2] h (some (.int r)) h' := by
  obtain ⟨hz0, hp⟩ := ck_i hp
  obtain ⟨hz2, hp⟩ := ck_i hp
  rw [show zr v0 = .ref (v0 - 1) from zr_p hz0]
  rw [show zr v2 = .ref (v2 - 1) from zr_p hz2]
  refine Ct.ofH (by decide +kernel) (Nat.le_of_ble_eq_true rfl) ?_
  intro p e s m args below meth c C htb hR ls hl
  have hl : zl ls 4 [(0, zr v0), (1, .int v1), (2, zr v2)] := ⟨by rw [zr_p hz0, zr_p hz2]; exact hl, by simp [zr_cat, in_cat]⟩
  exact s_L_version_0 hfl htb C hR (fun _ hq => nomatch hq) hl hp
/-! CursorKeepLaw.ask(LCursorKeep;III[J)I -/
def p_L_ask_0  (v0 : Nat) (v1 : Int32) (v2 : Int32) (v3 : Int32) (v4 : Nat) (h : AH) : Option (Int32 × AH) :=
  ck (aK h v0 = 12) <|
  bC (p_X10_ask v0 v1 v2 v3 h) (fun r2 h3 =>
    ck (aK h3 v4 = 23 ∧ ix (iI 0) (aN h3 v4)) <|
    nm (uL h3 v4 (iI 0).toNatClampNeg ((r2).toInt64)) fun h7 =>
    some ((iI 0), h7))
  (fun e4 h3 =>
    if e4 = 1 then
      some ((iI 1), h3)
    else
      if e4 = 2 then
        some ((iI 2), h3)
      else
        if e4 = 3 then
          some ((iI 3), h3)
        else
          none)
set_option maxHeartbeats 4000000 in
set_option maxRecDepth 100000 in
theorem s_L_ask_0 {p : Program} {l : Launch} {e : Env} {s : State} {m : MethodId} {args : Array Value} {below : List Frame} {meth : Method} {c : Code} {G : GG} {hs : AH} {r : Int32} {h' : AH} (hfl : l.stackTraces = false) (htb : c.exceptionTable.toList = tableOf [(0, 12, 15, 13), (0, 12, 19, 15), (0, 12, 23, 17)]) (C : Cx G hs p s m args meth c cL_ask 6 RL (.codeWith yL_ask cL_ask 6 (some .int) [(0, 12, 15, 13), (0, 12, 19, 15), (0, 12, 23, 17)] :: MW) (some .int) "ask")   {v0 : Nat} {v1 : Int32} {v2 : Int32} {v3 : Int32} {v4 : Nat} {h : AH} {H : Heap} {locs : List Loc} {cells slots : Nat} {ls : Array Slot} (hR : Rp G h H) (hL : ∀ q ∈ locs, gB G ≤ q.base) (hl : zl ls 6 [(0, zr v0), (1, .int v1), (2, .int v2), (3, .int v3), (4, zr v4)]) (hp : p_L_ask_0  v0 v1 v2 v3 v4 h = some (r, h')) : W p l e (gR G hs 9 221) s m args below meth c H locs cells slots (MQ below (Qcc G (some (.int r)) h') args s (gC G - aZ hs) (gS - aU hs) (fun q => gB G ≤ q)) (F0 m 0 ls []) := by
  obtain ⟨hx, hb, hml, hown, hts, hT, hK, rs, hlk, hret, hnm⟩ := id C
  have hm : ∀ w ∈ MW, w.before args s = true := fun w hw => hts w (hT w hw)
  unfold p_L_ask_0 at hp
  refine z_aload hx hb dL_ask_0 (zl_at hl 4 rfl) ?_
  refine lv_iconst (v := iI 0) hx hb dL_ask_2 rfl ?_
  refine z_aload_n hx hb dL_ask_3 rfl (zl_at hl 0 rfl) ?_
  refine lv_iload_n hx hb dL_ask_4 rfl (zl_at hl 1 rfl) ?_
  refine lv_iload_n hx hb dL_ask_5 rfl (zl_at hl 2 rfl) ?_
  refine lv_iload_n hx hb dL_ask_6 rfl (zl_at hl 3 rfl) ?_
  obtain ⟨k1, hp⟩ := ck_i hp
  rcases bC_i hp with ⟨r2, h3, er2, hp⟩ | ⟨e4, h3, er2, hp⟩
  · refine r_runVX (ci := 11) (r := (RX10, TX10, 7)) (n := 3) (As := [.int v1, .int v2, .int v3]) (rest := [.int (iI 0), zr v4]) C (c_X10_ask l hfl G v0 v1 v2 v3 h (.ok r2) h3 er2) hR rfl k1 mw_707 mw_708 mw_709 mw_1 mw_710 (by decide +kernel) (by decide) rfl (zl_size hl) rfl (by simp [zr_cat, in_cat]) dL_ask_7 (fun cells slots hr => ?_)
    refine r_okRun hR hL hr (fun H locs cells slots hR hL => ?_)
    refine W.eq (g2 := F0 m 10 ls [.int r2, .int (iI 0), zr v4]) rfl ?_
    refine lv_i2l (v := (r2).toInt64) hx hb dL_ask_10 rfl ?_
    obtain ⟨k5, hp⟩ := ck_i hp
    refine r_last hx hb hK hR hL k5.1 k5.2 dL_ask_11 (fun H locs hR hL => ?_)
    obtain ⟨h7, hp, hR⟩ := nm_h hp hR
    refine lv_goto (tgt := 27) hx hb dL_ask_12 (by decide) ?_
    refine lv_iconst (v := iI 0) hx hb dL_ask_27 rfl ?_
    cases hp
    exact r_zret C hR hL rfl dL_ask_28
  · refine r_runVX (ci := 11) (r := (RX10, TX10, 7)) (n := 3) (As := [.int v1, .int v2, .int v3]) (rest := [.int (iI 0), zr v4]) C (c_X10_ask l hfl G v0 v1 v2 v3 h (.error e4) h3 er2) hR rfl k1 mw_707 mw_708 mw_709 mw_1 mw_710 (by decide +kernel) (by decide) rfl (zl_size hl) rfl (by simp [zr_cat, in_cat]) dL_ask_7 (fun cells slots hr => ?_)
    refine r_exRun hR hL hr (fun q9 ce H locs cells slots hR hL hce hcv hcl => ?_)
    by_cases c8 : e4 = 1
    · subst c8
      replace hp := ite_p hp rfl
      refine r_catch (e0 := 1) (name := "java/lang/IndexOutOfBoundsException") hown hK [] ⟨0, 12, 15, 13⟩ [⟨0, 12, 19, 15⟩, ⟨0, 12, 23, 17⟩] (htb.trans rfl) (fun _ hz => nomatch hz) (by decide) (by decide) (hm _ mw_299) (KW_t 312 (by decide +kernel) (by decide +kernel)) hce hcv hcl ?_
      refine z_astore (lv' := [(5, zr (q9 + 1)), (0, zr v0), (1, .int v1), (2, .int v2), (3, .int v3), (4, zr v4)]) hx hb dL_ask_15 hl (by decide) rfl (fun ls hl => ?_)
      refine lv_iconst (v := iI 1) hx hb dL_ask_17 rfl ?_
      cases hp
      exact r_zret C hR hL rfl dL_ask_18
    replace hp := ite_n hp c8
    by_cases c9 : e4 = 2
    · subst c9
      replace hp := ite_p hp rfl
      refine r_catch (e0 := 2) (name := "java/lang/IllegalArgumentException") hown hK [⟨0, 12, 15, 13⟩] ⟨0, 12, 19, 15⟩ [⟨0, 12, 23, 17⟩] (htb.trans rfl) (fun z hz => by rw [List.mem_singleton.mp hz]; exact ⟨by decide, _, hm _ mw_299, by decide +kernel⟩) (by decide) (by decide) (hm _ mw_300) (KW_t 388 (by decide +kernel) (by decide +kernel)) hce hcv hcl ?_
      refine z_astore (lv' := [(5, zr (q9 + 1)), (0, zr v0), (1, .int v1), (2, .int v2), (3, .int v3), (4, zr v4)]) hx hb dL_ask_19 hl (by decide) rfl (fun ls hl => ?_)
      refine lv_iconst (v := iI 2) hx hb dL_ask_21 rfl ?_
      cases hp
      exact r_zret C hR hL rfl dL_ask_22
    replace hp := ite_n hp c9
    by_cases c10 : e4 = 3
    · subst c10
      replace hp := ite_p hp rfl
      refine r_catch (e0 := 3) (name := "java/lang/IllegalStateException") hown hK [⟨0, 12, 15, 13⟩, ⟨0, 12, 19, 15⟩] ⟨0, 12, 23, 17⟩ [] (htb.trans rfl) (fun z hz => (List.mem_cons.mp hz).elim (fun h9 => by rw [h9]; exact ⟨by decide, _, hm _ mw_299, by decide +kernel⟩) (fun h9 => by rw [List.mem_singleton.mp h9]; exact ⟨by decide, _, hm _ mw_300, by decide +kernel⟩)) (by decide) (by decide) (hm _ mw_301) (KW_t 408 (by decide +kernel) (by decide +kernel)) hce hcv hcl ?_
      refine z_astore (lv' := [(5, zr (q9 + 1)), (0, zr v0), (1, .int v1), (2, .int v2), (3, .int v3), (4, zr v4)]) hx hb dL_ask_23 hl (by decide) rfl (fun ls hl => ?_)
      refine lv_iconst (v := iI 3) hx hb dL_ask_25 rfl ?_
      cases hp
      exact r_zret C hR hL rfl dL_ask_26
    replace hp := ite_n hp c10
    exact absurd hp (by simp)
def p_L_ask (v0 : Nat) (v1 : Int32) (v2 : Int32) (v3 : Int32) (v4 : Nat) (h : AH) : Option (Int32 × AH) := ck (v0 ≠ 0) <| ck (v4 ≠ 0) <| p_L_ask_0 v0 v1 v2 v3 v4 h
theorem c_L_ask (l : Launch) (hfl : l.stackTraces = false) (G : GG) (v0 : Nat) (v1 : Int32) (v2 : Int32) (v3 : Int32) (v4 : Nat) (h : AH) (r : Int32) (h' : AH) (hp : p_L_ask v0 v1 v2 v3 v4 h = some (r, h')) : Ct l yL_ask (.codeWith yL_ask cL_ask 6 (some .int) [(0, 12, 15, 13), (0, 12, 19, 15), (0, 12, 23, 17)] :: MW) G 9 221 [zr v0, .int v1, .int v2, .int v3, zr v4] h (some (.int r)) h' := by
  obtain ⟨hz0, hp⟩ := ck_i hp
  obtain ⟨hz4, hp⟩ := ck_i hp
  rw [show zr v0 = .ref (v0 - 1) from zr_p hz0]
  rw [show zr v4 = .ref (v4 - 1) from zr_p hz4]
  refine Ct.ofH (by decide +kernel) (Nat.le_of_ble_eq_true rfl) ?_
  intro p e s m args below meth c C htb hR ls hl
  have hl : zl ls 6 [(0, zr v0), (1, .int v1), (2, .int v2), (3, .int v3), (4, zr v4)] := ⟨by rw [zr_p hz0, zr_p hz4]; exact hl, by simp [zr_cat, in_cat]⟩
  exact s_L_ask_0 hfl htb C hR (fun _ hq => nomatch hq) hl hp
/-! CursorKeepLaw.come(LCursorKeep;I[J)I -/
def p_L_come_0  (v0 : Nat) (v1 : Int32) (v2 : Nat) (h : AH) : Option (Int32 × AH) :=
  ck (aK h v0 = 12) <|
  bC (p_X10_come v0 v1 h) (fun r2 h3 =>
    ck (aK h3 v2 = 23 ∧ ix (iI 0) (aN h3 v2)) <|
    nm (uL h3 v2 (iI 0).toNatClampNeg ((r2).toInt64)) fun h7 =>
    some ((iI 0), h7))
  (fun e4 h3 =>
    if e4 = 1 then
      some ((iI 1), h3)
    else
      if e4 = 3 then
        some ((iI 2), h3)
      else
        none)
set_option maxHeartbeats 4000000 in
set_option maxRecDepth 100000 in
theorem s_L_come_0 {p : Program} {l : Launch} {e : Env} {s : State} {m : MethodId} {args : Array Value} {below : List Frame} {meth : Method} {c : Code} {G : GG} {hs : AH} {r : Int32} {h' : AH} (hfl : l.stackTraces = false) (htb : c.exceptionTable.toList = tableOf [(0, 9, 12, 13), (0, 9, 15, 17)]) (C : Cx G hs p s m args meth c cL_come 4 RL (.codeWith yL_come cL_come 4 (some .int) [(0, 9, 12, 13), (0, 9, 15, 17)] :: MW) (some .int) "come")   {v0 : Nat} {v1 : Int32} {v2 : Nat} {h : AH} {H : Heap} {locs : List Loc} {cells slots : Nat} {ls : Array Slot} (hR : Rp G h H) (hL : ∀ q ∈ locs, gB G ≤ q.base) (hl : zl ls 4 [(0, zr v0), (1, .int v1), (2, zr v2)]) (hp : p_L_come_0  v0 v1 v2 h = some (r, h')) : W p l e (gR G hs 11 262) s m args below meth c H locs cells slots (MQ below (Qcc G (some (.int r)) h') args s (gC G - aZ hs) (gS - aU hs) (fun q => gB G ≤ q)) (F0 m 0 ls []) := by
  obtain ⟨hx, hb, hml, hown, hts, hT, hK, rs, hlk, hret, hnm⟩ := id C
  have hm : ∀ w ∈ MW, w.before args s = true := fun w hw => hts w (hT w hw)
  unfold p_L_come_0 at hp
  refine z_aload_n hx hb dL_come_0 rfl (zl_at hl 2 rfl) ?_
  refine lv_iconst (v := iI 0) hx hb dL_come_1 rfl ?_
  refine z_aload_n hx hb dL_come_2 rfl (zl_at hl 0 rfl) ?_
  refine lv_iload_n hx hb dL_come_3 rfl (zl_at hl 1 rfl) ?_
  obtain ⟨k1, hp⟩ := ck_i hp
  rcases bC_i hp with ⟨r2, h3, er2, hp⟩ | ⟨e4, h3, er2, hp⟩
  · refine r_runVX (ci := 11) (r := (RX10, TX10, 7)) (n := 1) (As := [.int v1]) (rest := [.int (iI 0), zr v2]) C (c_X10_come l hfl G v0 v1 h (.ok r2) h3 er2) hR rfl k1 mw_841 mw_842 mw_843 mw_1 mw_844 (by decide +kernel) (by decide) rfl (zl_size hl) rfl (by simp [zr_cat, in_cat]) dL_come_4 (fun cells slots hr => ?_)
    refine r_okRun hR hL hr (fun H locs cells slots hR hL => ?_)
    refine W.eq (g2 := F0 m 7 ls [.int r2, .int (iI 0), zr v2]) rfl ?_
    refine lv_i2l (v := (r2).toInt64) hx hb dL_come_7 rfl ?_
    obtain ⟨k5, hp⟩ := ck_i hp
    refine r_last hx hb hK hR hL k5.1 k5.2 dL_come_8 (fun H locs hR hL => ?_)
    obtain ⟨h7, hp, hR⟩ := nm_h hp hR
    refine lv_goto (tgt := 18) hx hb dL_come_9 (by decide) ?_
    refine lv_iconst (v := iI 0) hx hb dL_come_18 rfl ?_
    cases hp
    exact r_zret C hR hL rfl dL_come_19
  · refine r_runVX (ci := 11) (r := (RX10, TX10, 7)) (n := 1) (As := [.int v1]) (rest := [.int (iI 0), zr v2]) C (c_X10_come l hfl G v0 v1 h (.error e4) h3 er2) hR rfl k1 mw_841 mw_842 mw_843 mw_1 mw_844 (by decide +kernel) (by decide) rfl (zl_size hl) rfl (by simp [zr_cat, in_cat]) dL_come_4 (fun cells slots hr => ?_)
    refine r_exRun hR hL hr (fun q9 ce H locs cells slots hR hL hce hcv hcl => ?_)
    by_cases c8 : e4 = 1
    · subst c8
      replace hp := ite_p hp rfl
      refine r_catch (e0 := 1) (name := "java/lang/IndexOutOfBoundsException") hown hK [] ⟨0, 9, 12, 13⟩ [⟨0, 9, 15, 17⟩] (htb.trans rfl) (fun _ hz => nomatch hz) (by decide) (by decide) (hm _ mw_299) (KW_t 312 (by decide +kernel) (by decide +kernel)) hce hcv hcl ?_
      refine z_astore_n (lv' := [(3, zr (q9 + 1)), (0, zr v0), (1, .int v1), (2, zr v2)]) hx hb dL_come_12 rfl hl (by decide) rfl (fun ls hl => ?_)
      refine lv_iconst (v := iI 1) hx hb dL_come_13 rfl ?_
      cases hp
      exact r_zret C hR hL rfl dL_come_14
    replace hp := ite_n hp c8
    by_cases c9 : e4 = 3
    · subst c9
      replace hp := ite_p hp rfl
      refine r_catch (e0 := 3) (name := "java/lang/IllegalStateException") hown hK [⟨0, 9, 12, 13⟩] ⟨0, 9, 15, 17⟩ [] (htb.trans rfl) (fun z hz => by rw [List.mem_singleton.mp hz]; exact ⟨by decide, _, hm _ mw_299, by decide +kernel⟩) (by decide) (by decide) (hm _ mw_301) (KW_t 408 (by decide +kernel) (by decide +kernel)) hce hcv hcl ?_
      refine z_astore_n (lv' := [(3, zr (q9 + 1)), (0, zr v0), (1, .int v1), (2, zr v2)]) hx hb dL_come_15 rfl hl (by decide) rfl (fun ls hl => ?_)
      refine lv_iconst (v := iI 2) hx hb dL_come_16 rfl ?_
      cases hp
      exact r_zret C hR hL rfl dL_come_17
    replace hp := ite_n hp c9
    exact absurd hp (by simp)
def p_L_come (v0 : Nat) (v1 : Int32) (v2 : Nat) (h : AH) : Option (Int32 × AH) := ck (v0 ≠ 0) <| ck (v2 ≠ 0) <| p_L_come_0 v0 v1 v2 h
theorem c_L_come (l : Launch) (hfl : l.stackTraces = false) (G : GG) (v0 : Nat) (v1 : Int32) (v2 : Nat) (h : AH) (r : Int32) (h' : AH) (hp : p_L_come v0 v1 v2 h = some (r, h')) : Ct l yL_come (.codeWith yL_come cL_come 4 (some .int) [(0, 9, 12, 13), (0, 9, 15, 17)] :: MW) G 11 262 [zr v0, .int v1, zr v2] h (some (.int r)) h' := by
  obtain ⟨hz0, hp⟩ := ck_i hp
  obtain ⟨hz2, hp⟩ := ck_i hp
  rw [show zr v0 = .ref (v0 - 1) from zr_p hz0]
  rw [show zr v2 = .ref (v2 - 1) from zr_p hz2]
  refine Ct.ofH (by decide +kernel) (Nat.le_of_ble_eq_true rfl) ?_
  intro p e s m args below meth c C htb hR ls hl
  have hl : zl ls 4 [(0, zr v0), (1, .int v1), (2, zr v2)] := ⟨by rw [zr_p hz0, zr_p hz2]; exact hl, by simp [zr_cat, in_cat]⟩
  exact s_L_come_0 hfl htb C hR (fun _ hq => nomatch hq) hl hp
/-! CursorKeepLaw.drop(LCursorKeep;I[J)I -/
def p_L_drop_0  (v0 : Nat) (v1 : Int32) (v2 : Nat) (h : AH) : Option (Int32 × AH) :=
  ck (aK h v0 = 12) <|
  bC (p_X10_drop v0 v1 h) (fun r2 h3 =>
    ck (aK h3 v2 = 23 ∧ ix (iI 0) (aN h3 v2)) <|
    nm (uL h3 v2 (iI 0).toNatClampNeg ((r2).toInt64)) fun h7 =>
    some ((iI 0), h7))
  (fun e4 h3 =>
    if e4 = 1 then
      some ((iI 1), h3)
    else
      if e4 = 3 then
        some ((iI 2), h3)
      else
        none)
set_option maxHeartbeats 4000000 in
set_option maxRecDepth 100000 in
theorem s_L_drop_0 {p : Program} {l : Launch} {e : Env} {s : State} {m : MethodId} {args : Array Value} {below : List Frame} {meth : Method} {c : Code} {G : GG} {hs : AH} {r : Int32} {h' : AH} (hfl : l.stackTraces = false) (htb : c.exceptionTable.toList = tableOf [(0, 9, 12, 13), (0, 9, 15, 17)]) (C : Cx G hs p s m args meth c cL_drop 4 RL (.codeWith yL_drop cL_drop 4 (some .int) [(0, 9, 12, 13), (0, 9, 15, 17)] :: MW) (some .int) "drop")   {v0 : Nat} {v1 : Int32} {v2 : Nat} {h : AH} {H : Heap} {locs : List Loc} {cells slots : Nat} {ls : Array Slot} (hR : Rp G h H) (hL : ∀ q ∈ locs, gB G ≤ q.base) (hl : zl ls 4 [(0, zr v0), (1, .int v1), (2, zr v2)]) (hp : p_L_drop_0  v0 v1 v2 h = some (r, h')) : W p l e (gR G hs 9 175) s m args below meth c H locs cells slots (MQ below (Qcc G (some (.int r)) h') args s (gC G - aZ hs) (gS - aU hs) (fun q => gB G ≤ q)) (F0 m 0 ls []) := by
  obtain ⟨hx, hb, hml, hown, hts, hT, hK, rs, hlk, hret, hnm⟩ := id C
  have hm : ∀ w ∈ MW, w.before args s = true := fun w hw => hts w (hT w hw)
  unfold p_L_drop_0 at hp
  refine z_aload_n hx hb dL_drop_0 rfl (zl_at hl 2 rfl) ?_
  refine lv_iconst (v := iI 0) hx hb dL_drop_1 rfl ?_
  refine z_aload_n hx hb dL_drop_2 rfl (zl_at hl 0 rfl) ?_
  refine lv_iload_n hx hb dL_drop_3 rfl (zl_at hl 1 rfl) ?_
  obtain ⟨k1, hp⟩ := ck_i hp
  rcases bC_i hp with ⟨r2, h3, er2, hp⟩ | ⟨e4, h3, er2, hp⟩
  · refine r_runVX (ci := 11) (r := (RX10, TX10, 7)) (n := 1) (As := [.int v1]) (rest := [.int (iI 0), zr v2]) C (c_X10_drop l hfl G v0 v1 h (.ok r2) h3 er2) hR rfl k1 mw_899 mw_900 mw_901 mw_1 mw_902 (by decide +kernel) (by decide) rfl (zl_size hl) rfl (by simp [zr_cat, in_cat]) dL_drop_4 (fun cells slots hr => ?_)
    refine r_okRun hR hL hr (fun H locs cells slots hR hL => ?_)
    refine W.eq (g2 := F0 m 7 ls [.int r2, .int (iI 0), zr v2]) rfl ?_
    refine lv_i2l (v := (r2).toInt64) hx hb dL_drop_7 rfl ?_
    obtain ⟨k5, hp⟩ := ck_i hp
    refine r_last hx hb hK hR hL k5.1 k5.2 dL_drop_8 (fun H locs hR hL => ?_)
    obtain ⟨h7, hp, hR⟩ := nm_h hp hR
    refine lv_goto (tgt := 18) hx hb dL_drop_9 (by decide) ?_
    refine lv_iconst (v := iI 0) hx hb dL_drop_18 rfl ?_
    cases hp
    exact r_zret C hR hL rfl dL_drop_19
  · refine r_runVX (ci := 11) (r := (RX10, TX10, 7)) (n := 1) (As := [.int v1]) (rest := [.int (iI 0), zr v2]) C (c_X10_drop l hfl G v0 v1 h (.error e4) h3 er2) hR rfl k1 mw_899 mw_900 mw_901 mw_1 mw_902 (by decide +kernel) (by decide) rfl (zl_size hl) rfl (by simp [zr_cat, in_cat]) dL_drop_4 (fun cells slots hr => ?_)
    refine r_exRun hR hL hr (fun q9 ce H locs cells slots hR hL hce hcv hcl => ?_)
    by_cases c8 : e4 = 1
    · subst c8
      replace hp := ite_p hp rfl
      refine r_catch (e0 := 1) (name := "java/lang/IndexOutOfBoundsException") hown hK [] ⟨0, 9, 12, 13⟩ [⟨0, 9, 15, 17⟩] (htb.trans rfl) (fun _ hz => nomatch hz) (by decide) (by decide) (hm _ mw_299) (KW_t 312 (by decide +kernel) (by decide +kernel)) hce hcv hcl ?_
      refine z_astore_n (lv' := [(3, zr (q9 + 1)), (0, zr v0), (1, .int v1), (2, zr v2)]) hx hb dL_drop_12 rfl hl (by decide) rfl (fun ls hl => ?_)
      refine lv_iconst (v := iI 1) hx hb dL_drop_13 rfl ?_
      cases hp
      exact r_zret C hR hL rfl dL_drop_14
    replace hp := ite_n hp c8
    by_cases c9 : e4 = 3
    · subst c9
      replace hp := ite_p hp rfl
      refine r_catch (e0 := 3) (name := "java/lang/IllegalStateException") hown hK [⟨0, 9, 12, 13⟩] ⟨0, 9, 15, 17⟩ [] (htb.trans rfl) (fun z hz => by rw [List.mem_singleton.mp hz]; exact ⟨by decide, _, hm _ mw_299, by decide +kernel⟩) (by decide) (by decide) (hm _ mw_301) (KW_t 408 (by decide +kernel) (by decide +kernel)) hce hcv hcl ?_
      refine z_astore_n (lv' := [(3, zr (q9 + 1)), (0, zr v0), (1, .int v1), (2, zr v2)]) hx hb dL_drop_15 rfl hl (by decide) rfl (fun ls hl => ?_)
      refine lv_iconst (v := iI 2) hx hb dL_drop_16 rfl ?_
      cases hp
      exact r_zret C hR hL rfl dL_drop_17
    replace hp := ite_n hp c9
    exact absurd hp (by simp)
def p_L_drop (v0 : Nat) (v1 : Int32) (v2 : Nat) (h : AH) : Option (Int32 × AH) := ck (v0 ≠ 0) <| ck (v2 ≠ 0) <| p_L_drop_0 v0 v1 v2 h
theorem c_L_drop (l : Launch) (hfl : l.stackTraces = false) (G : GG) (v0 : Nat) (v1 : Int32) (v2 : Nat) (h : AH) (r : Int32) (h' : AH) (hp : p_L_drop v0 v1 v2 h = some (r, h')) : Ct l yL_drop (.codeWith yL_drop cL_drop 4 (some .int) [(0, 9, 12, 13), (0, 9, 15, 17)] :: MW) G 9 175 [zr v0, .int v1, zr v2] h (some (.int r)) h' := by
  obtain ⟨hz0, hp⟩ := ck_i hp
  obtain ⟨hz2, hp⟩ := ck_i hp
  rw [show zr v0 = .ref (v0 - 1) from zr_p hz0]
  rw [show zr v2 = .ref (v2 - 1) from zr_p hz2]
  refine Ct.ofH (by decide +kernel) (Nat.le_of_ble_eq_true rfl) ?_
  intro p e s m args below meth c C htb hR ls hl
  have hl : zl ls 4 [(0, zr v0), (1, .int v1), (2, zr v2)] := ⟨by rw [zr_p hz0, zr_p hz2]; exact hl, by simp [zr_cat, in_cat]⟩
  exact s_L_drop_0 hfl htb C hR (fun _ hq => nomatch hq) hl hp
/-! CursorKeepLaw.state(LCursorKeep;I[J)I -/
def p_L_state_0  (v0 : Nat) (v1 : Int32) (v2 : Nat) (h : AH) : Option (Int32 × AH) :=
  ck (aK h v0 = 12) <|
  bC (p_X10_state v0 v1 h) (fun r2 h3 =>
    ck (aK h3 v2 = 23 ∧ ix (iI 0) (aN h3 v2)) <|
    nm (uL h3 v2 (iI 0).toNatClampNeg ((r2).toInt64)) fun h7 =>
    some ((iI 0), h7))
  (fun e4 h3 =>
    if e4 = 1 then
      some ((iI 1), h3)
    else
      none)
set_option maxHeartbeats 4000000 in
set_option maxRecDepth 100000 in
theorem s_L_state_0 {p : Program} {l : Launch} {e : Env} {s : State} {m : MethodId} {args : Array Value} {below : List Frame} {meth : Method} {c : Code} {G : GG} {hs : AH} {r : Int32} {h' : AH} (hfl : l.stackTraces = false) (htb : c.exceptionTable.toList = tableOf [(0, 9, 12, 13)]) (C : Cx G hs p s m args meth c cL_state 4 RL (.codeWith yL_state cL_state 4 (some .int) [(0, 9, 12, 13)] :: MW) (some .int) "state")   {v0 : Nat} {v1 : Int32} {v2 : Nat} {h : AH} {H : Heap} {locs : List Loc} {cells slots : Nat} {ls : Array Slot} (hR : Rp G h H) (hL : ∀ q ∈ locs, gB G ≤ q.base) (hl : zl ls 4 [(0, zr v0), (1, .int v1), (2, zr v2)]) (hp : p_L_state_0  v0 v1 v2 h = some (r, h')) : W p l e (gR G hs 8 152) s m args below meth c H locs cells slots (MQ below (Qcc G (some (.int r)) h') args s (gC G - aZ hs) (gS - aU hs) (fun q => gB G ≤ q)) (F0 m 0 ls []) := by
  obtain ⟨hx, hb, hml, hown, hts, hT, hK, rs, hlk, hret, hnm⟩ := id C
  have hm : ∀ w ∈ MW, w.before args s = true := fun w hw => hts w (hT w hw)
  unfold p_L_state_0 at hp
  refine z_aload_n hx hb dL_state_0 rfl (zl_at hl 2 rfl) ?_
  refine lv_iconst (v := iI 0) hx hb dL_state_1 rfl ?_
  refine z_aload_n hx hb dL_state_2 rfl (zl_at hl 0 rfl) ?_
  refine lv_iload_n hx hb dL_state_3 rfl (zl_at hl 1 rfl) ?_
  obtain ⟨k1, hp⟩ := ck_i hp
  rcases bC_i hp with ⟨r2, h3, er2, hp⟩ | ⟨e4, h3, er2, hp⟩
  · refine r_runVX (ci := 11) (r := (RX10, TX10, 7)) (n := 1) (As := [.int v1]) (rest := [.int (iI 0), zr v2]) C (c_X10_state l hfl G v0 v1 h (.ok r2) h3 er2) hR rfl k1 mw_906 mw_907 mw_908 mw_1 mw_909 (by decide +kernel) (by decide) rfl (zl_size hl) rfl (by simp [zr_cat, in_cat]) dL_state_4 (fun cells slots hr => ?_)
    refine r_okRun hR hL hr (fun H locs cells slots hR hL => ?_)
    refine W.eq (g2 := F0 m 7 ls [.int r2, .int (iI 0), zr v2]) rfl ?_
    refine lv_i2l (v := (r2).toInt64) hx hb dL_state_7 rfl ?_
    obtain ⟨k5, hp⟩ := ck_i hp
    refine r_last hx hb hK hR hL k5.1 k5.2 dL_state_8 (fun H locs hR hL => ?_)
    obtain ⟨h7, hp, hR⟩ := nm_h hp hR
    refine lv_goto (tgt := 15) hx hb dL_state_9 (by decide) ?_
    refine lv_iconst (v := iI 0) hx hb dL_state_15 rfl ?_
    cases hp
    exact r_zret C hR hL rfl dL_state_16
  · refine r_runVX (ci := 11) (r := (RX10, TX10, 7)) (n := 1) (As := [.int v1]) (rest := [.int (iI 0), zr v2]) C (c_X10_state l hfl G v0 v1 h (.error e4) h3 er2) hR rfl k1 mw_906 mw_907 mw_908 mw_1 mw_909 (by decide +kernel) (by decide) rfl (zl_size hl) rfl (by simp [zr_cat, in_cat]) dL_state_4 (fun cells slots hr => ?_)
    refine r_exRun hR hL hr (fun q9 ce H locs cells slots hR hL hce hcv hcl => ?_)
    by_cases c8 : e4 = 1
    · subst c8
      replace hp := ite_p hp rfl
      refine r_catch (e0 := 1) (name := "java/lang/IndexOutOfBoundsException") hown hK [] ⟨0, 9, 12, 13⟩ [] (htb.trans rfl) (fun _ hz => nomatch hz) (by decide) (by decide) (hm _ mw_299) (KW_t 312 (by decide +kernel) (by decide +kernel)) hce hcv hcl ?_
      refine z_astore_n (lv' := [(3, zr (q9 + 1)), (0, zr v0), (1, .int v1), (2, zr v2)]) hx hb dL_state_12 rfl hl (by decide) rfl (fun ls hl => ?_)
      refine lv_iconst (v := iI 1) hx hb dL_state_13 rfl ?_
      cases hp
      exact r_zret C hR hL rfl dL_state_14
    replace hp := ite_n hp c8
    exact absurd hp (by simp)
def p_L_state (v0 : Nat) (v1 : Int32) (v2 : Nat) (h : AH) : Option (Int32 × AH) := ck (v0 ≠ 0) <| ck (v2 ≠ 0) <| p_L_state_0 v0 v1 v2 h
theorem c_L_state (l : Launch) (hfl : l.stackTraces = false) (G : GG) (v0 : Nat) (v1 : Int32) (v2 : Nat) (h : AH) (r : Int32) (h' : AH) (hp : p_L_state v0 v1 v2 h = some (r, h')) : Ct l yL_state (.codeWith yL_state cL_state 4 (some .int) [(0, 9, 12, 13)] :: MW) G 8 152 [zr v0, .int v1, zr v2] h (some (.int r)) h' := by
  obtain ⟨hz0, hp⟩ := ck_i hp
  obtain ⟨hz2, hp⟩ := ck_i hp
  rw [show zr v0 = .ref (v0 - 1) from zr_p hz0]
  rw [show zr v2 = .ref (v2 - 1) from zr_p hz2]
  refine Ct.ofH (by decide +kernel) (Nat.le_of_ble_eq_true rfl) ?_
  intro p e s m args below meth c C htb hR ls hl
  have hl : zl ls 4 [(0, zr v0), (1, .int v1), (2, zr v2)] := ⟨by rw [zr_p hz0, zr_p hz2]; exact hl, by simp [zr_cat, in_cat]⟩
  exact s_L_state_0 hfl htb C hR (fun _ hq => nomatch hq) hl hp
/-! CursorKeepLaw.spared(LCursorKeep;I[J)I -/
def p_L_spared_0  (v0 : Nat) (v1 : Int32) (v2 : Nat) (h : AH) : Option (Int32 × AH) :=
  ck (aK h v0 = 12) <|
  bC (p_X10_spared v0 v1 h) (fun r2 h3 =>
    ck (aK h3 v2 = 23 ∧ ix (iI 0) (aN h3 v2)) <|
    nm (uL h3 v2 (iI 0).toNatClampNeg ((r2).toInt64)) fun h7 =>
    some ((iI 0), h7))
  (fun e4 h3 =>
    if e4 = 1 then
      some ((iI 1), h3)
    else
      none)
set_option maxHeartbeats 4000000 in
set_option maxRecDepth 100000 in
theorem s_L_spared_0 {p : Program} {l : Launch} {e : Env} {s : State} {m : MethodId} {args : Array Value} {below : List Frame} {meth : Method} {c : Code} {G : GG} {hs : AH} {r : Int32} {h' : AH} (hfl : l.stackTraces = false) (htb : c.exceptionTable.toList = tableOf [(0, 9, 12, 13)]) (C : Cx G hs p s m args meth c cL_spared 4 RL (.codeWith yL_spared cL_spared 4 (some .int) [(0, 9, 12, 13)] :: MW) (some .int) "spared")   {v0 : Nat} {v1 : Int32} {v2 : Nat} {h : AH} {H : Heap} {locs : List Loc} {cells slots : Nat} {ls : Array Slot} (hR : Rp G h H) (hL : ∀ q ∈ locs, gB G ≤ q.base) (hl : zl ls 4 [(0, zr v0), (1, .int v1), (2, zr v2)]) (hp : p_L_spared_0  v0 v1 v2 h = some (r, h')) : W p l e (gR G hs 8 175) s m args below meth c H locs cells slots (MQ below (Qcc G (some (.int r)) h') args s (gC G - aZ hs) (gS - aU hs) (fun q => gB G ≤ q)) (F0 m 0 ls []) := by
  obtain ⟨hx, hb, hml, hown, hts, hT, hK, rs, hlk, hret, hnm⟩ := id C
  have hm : ∀ w ∈ MW, w.before args s = true := fun w hw => hts w (hT w hw)
  unfold p_L_spared_0 at hp
  refine z_aload_n hx hb dL_spared_0 rfl (zl_at hl 2 rfl) ?_
  refine lv_iconst (v := iI 0) hx hb dL_spared_1 rfl ?_
  refine z_aload_n hx hb dL_spared_2 rfl (zl_at hl 0 rfl) ?_
  refine lv_iload_n hx hb dL_spared_3 rfl (zl_at hl 1 rfl) ?_
  obtain ⟨k1, hp⟩ := ck_i hp
  rcases bC_i hp with ⟨r2, h3, er2, hp⟩ | ⟨e4, h3, er2, hp⟩
  · refine r_runVX (ci := 11) (r := (RX10, TX10, 7)) (n := 1) (As := [.int v1]) (rest := [.int (iI 0), zr v2]) C (c_X10_spared l hfl G v0 v1 h (.ok r2) h3 er2) hR rfl k1 mw_913 mw_914 mw_915 mw_1 mw_916 (by decide +kernel) (by decide) rfl (zl_size hl) rfl (by simp [zr_cat, in_cat]) dL_spared_4 (fun cells slots hr => ?_)
    refine r_okRun hR hL hr (fun H locs cells slots hR hL => ?_)
    refine W.eq (g2 := F0 m 7 ls [.int r2, .int (iI 0), zr v2]) rfl ?_
    refine lv_i2l (v := (r2).toInt64) hx hb dL_spared_7 rfl ?_
    obtain ⟨k5, hp⟩ := ck_i hp
    refine r_last hx hb hK hR hL k5.1 k5.2 dL_spared_8 (fun H locs hR hL => ?_)
    obtain ⟨h7, hp, hR⟩ := nm_h hp hR
    refine lv_goto (tgt := 15) hx hb dL_spared_9 (by decide) ?_
    refine lv_iconst (v := iI 0) hx hb dL_spared_15 rfl ?_
    cases hp
    exact r_zret C hR hL rfl dL_spared_16
  · refine r_runVX (ci := 11) (r := (RX10, TX10, 7)) (n := 1) (As := [.int v1]) (rest := [.int (iI 0), zr v2]) C (c_X10_spared l hfl G v0 v1 h (.error e4) h3 er2) hR rfl k1 mw_913 mw_914 mw_915 mw_1 mw_916 (by decide +kernel) (by decide) rfl (zl_size hl) rfl (by simp [zr_cat, in_cat]) dL_spared_4 (fun cells slots hr => ?_)
    refine r_exRun hR hL hr (fun q9 ce H locs cells slots hR hL hce hcv hcl => ?_)
    by_cases c8 : e4 = 1
    · subst c8
      replace hp := ite_p hp rfl
      refine r_catch (e0 := 1) (name := "java/lang/IndexOutOfBoundsException") hown hK [] ⟨0, 9, 12, 13⟩ [] (htb.trans rfl) (fun _ hz => nomatch hz) (by decide) (by decide) (hm _ mw_299) (KW_t 312 (by decide +kernel) (by decide +kernel)) hce hcv hcl ?_
      refine z_astore_n (lv' := [(3, zr (q9 + 1)), (0, zr v0), (1, .int v1), (2, zr v2)]) hx hb dL_spared_12 rfl hl (by decide) rfl (fun ls hl => ?_)
      refine lv_iconst (v := iI 1) hx hb dL_spared_13 rfl ?_
      cases hp
      exact r_zret C hR hL rfl dL_spared_14
    replace hp := ite_n hp c8
    exact absurd hp (by simp)
def p_L_spared (v0 : Nat) (v1 : Int32) (v2 : Nat) (h : AH) : Option (Int32 × AH) := ck (v0 ≠ 0) <| ck (v2 ≠ 0) <| p_L_spared_0 v0 v1 v2 h
theorem c_L_spared (l : Launch) (hfl : l.stackTraces = false) (G : GG) (v0 : Nat) (v1 : Int32) (v2 : Nat) (h : AH) (r : Int32) (h' : AH) (hp : p_L_spared v0 v1 v2 h = some (r, h')) : Ct l yL_spared (.codeWith yL_spared cL_spared 4 (some .int) [(0, 9, 12, 13)] :: MW) G 8 175 [zr v0, .int v1, zr v2] h (some (.int r)) h' := by
  obtain ⟨hz0, hp⟩ := ck_i hp
  obtain ⟨hz2, hp⟩ := ck_i hp
  rw [show zr v0 = .ref (v0 - 1) from zr_p hz0]
  rw [show zr v2 = .ref (v2 - 1) from zr_p hz2]
  refine Ct.ofH (by decide +kernel) (Nat.le_of_ble_eq_true rfl) ?_
  intro p e s m args below meth c C htb hR ls hl
  have hl : zl ls 4 [(0, zr v0), (1, .int v1), (2, zr v2)] := ⟨by rw [zr_p hz0, zr_p hz2]; exact hl, by simp [zr_cat, in_cat]⟩
  exact s_L_spared_0 hfl htb C hR (fun _ hq => nomatch hq) hl hp
/-! CursorKeepLaw.lock(LCursorKeep;II[J)I -/
def p_L_lock_16  (s0 : Nat) (s1 : Int32) (s2 : Int64) (h : AH) : Option (Int32 × AH) :=
  ck (aK h s0 = 23 ∧ ix s1 (aN h s0)) <|
  nm (uL h s0 s1.toNatClampNeg s2) fun h3 =>
  some ((iI 0), h3)
set_option maxHeartbeats 4000000 in
set_option maxRecDepth 100000 in
theorem s_L_lock_16 {p : Program} {l : Launch} {e : Env} {s : State} {m : MethodId} {args : Array Value} {below : List Frame} {meth : Method} {c : Code} {G : GG} {hs : AH} {r : Int32} {h' : AH} (hfl : l.stackTraces = false) (htb : c.exceptionTable.toList = tableOf [(0, 17, 20, 13), (0, 17, 24, 17)]) (C : Cx G hs p s m args meth c cL_lock 5 RL (.codeWith yL_lock cL_lock 5 (some .int) [(0, 17, 20, 13), (0, 17, 24, 17)] :: MW) (some .int) "lock")   {s0 : Nat} {s1 : Int32} {s2 : Int64} {h : AH} {H : Heap} {locs : List Loc} {cells slots : Nat} {ls : Array Slot} (hR : Rp G h H) (hL : ∀ q ∈ locs, gB G ≤ q.base) (hl : zl ls 5 []) (hp : p_L_lock_16  s0 s1 s2 h = some (r, h')) : W p l e (gR G hs 8 155) s m args below meth c H locs cells slots (MQ below (Qcc G (some (.int r)) h') args s (gC G - aZ hs) (gS - aU hs) (fun q => gB G ≤ q)) (F0 m 16 ls [.long s2, .int s1, zr s0]) := by
  obtain ⟨hx, hb, hml, hown, hts, hT, hK, rs, hlk, hret, hnm⟩ := id C
  have hm : ∀ w ∈ MW, w.before args s = true := fun w hw => hts w (hT w hw)
  unfold p_L_lock_16 at hp
  obtain ⟨k1, hp⟩ := ck_i hp
  refine r_last hx hb hK hR hL k1.1 k1.2 dL_lock_16 (fun H locs hR hL => ?_)
  obtain ⟨h3, hp, hR⟩ := nm_h hp hR
  refine lv_goto (tgt := 28) hx hb dL_lock_17 (by decide) ?_
  refine lv_iconst (v := iI 0) hx hb dL_lock_28 rfl ?_
  cases hp
  exact r_zret C hR hL rfl dL_lock_29
def p_L_lock_0  (v0 : Nat) (v1 : Int32) (v2 : Int32) (v3 : Nat) (h : AH) : Option (Int32 × AH) :=
  ck (aK h v0 = 12) <|
  bC (p_X10_lock v0 v1 v2 h) (fun r2 h3 =>
    if r2 = 0 then
      p_L_lock_16  v3 (iI 0) 0 h3
    else
      p_L_lock_16  v3 (iI 0) 1 h3)
  (fun e4 h3 =>
    if e4 = 1 then
      some ((iI 1), h3)
    else
      if e4 = 3 then
        some ((iI 2), h3)
      else
        none)
set_option maxHeartbeats 4000000 in
set_option maxRecDepth 100000 in
theorem s_L_lock_0 {p : Program} {l : Launch} {e : Env} {s : State} {m : MethodId} {args : Array Value} {below : List Frame} {meth : Method} {c : Code} {G : GG} {hs : AH} {r : Int32} {h' : AH} (hfl : l.stackTraces = false) (htb : c.exceptionTable.toList = tableOf [(0, 17, 20, 13), (0, 17, 24, 17)]) (C : Cx G hs p s m args meth c cL_lock 5 RL (.codeWith yL_lock cL_lock 5 (some .int) [(0, 17, 20, 13), (0, 17, 24, 17)] :: MW) (some .int) "lock")   {v0 : Nat} {v1 : Int32} {v2 : Int32} {v3 : Nat} {h : AH} {H : Heap} {locs : List Loc} {cells slots : Nat} {ls : Array Slot} (hR : Rp G h H) (hL : ∀ q ∈ locs, gB G ≤ q.base) (hl : zl ls 5 [(0, zr v0), (1, .int v1), (2, .int v2), (3, zr v3)]) (hp : p_L_lock_0  v0 v1 v2 v3 h = some (r, h')) : W p l e (gR G hs 8 155) s m args below meth c H locs cells slots (MQ below (Qcc G (some (.int r)) h') args s (gC G - aZ hs) (gS - aU hs) (fun q => gB G ≤ q)) (F0 m 0 ls []) := by
  obtain ⟨hx, hb, hml, hown, hts, hT, hK, rs, hlk, hret, hnm⟩ := id C
  have hm : ∀ w ∈ MW, w.before args s = true := fun w hw => hts w (hT w hw)
  unfold p_L_lock_0 at hp
  refine z_aload_n hx hb dL_lock_0 rfl (zl_at hl 3 rfl) ?_
  refine lv_iconst (v := iI 0) hx hb dL_lock_1 rfl ?_
  refine z_aload_n hx hb dL_lock_2 rfl (zl_at hl 0 rfl) ?_
  refine lv_iload_n hx hb dL_lock_3 rfl (zl_at hl 1 rfl) ?_
  refine lv_iload_n hx hb dL_lock_4 rfl (zl_at hl 2 rfl) ?_
  obtain ⟨k1, hp⟩ := ck_i hp
  rcases bC_i hp with ⟨r2, h3, er2, hp⟩ | ⟨e4, h3, er2, hp⟩
  · refine r_runVX (ci := 11) (r := (RX10, TX10, 7)) (n := 2) (As := [.int v1, .int v2]) (rest := [.int (iI 0), zr v3]) C (c_X10_lock l hfl G v0 v1 v2 h (.ok r2) h3 er2) hR rfl k1 mw_920 mw_921 mw_922 mw_1 mw_923 (by decide +kernel) (by decide) rfl (zl_size hl) rfl (by simp [zr_cat, in_cat]) dL_lock_5 (fun cells slots hr => ?_)
    refine r_okRun hR hL hr (fun H locs cells slots hR hL => ?_)
    refine W.eq (g2 := F0 m 8 ls [.int r2, .int (iI 0), zr v3]) rfl ?_
    refine lv_if_eq (tgt := 15) hx hb dL_lock_8 (by decide) (fun c5 => ?_) (fun c5 => ?_)
    · replace hp := ite_p hp c5
      refine lv_lconst (v := 0) hx hb dL_lock_15 rfl ?_
      exact s_L_lock_16 hfl htb C  hR hL (zl_sub hl [] rfl) hp
    · replace hp := ite_n hp c5
      refine lv_lconst (v := 1) hx hb dL_lock_11 rfl ?_
      refine lv_goto (tgt := 16) hx hb dL_lock_12 (by decide) ?_
      exact s_L_lock_16 hfl htb C  hR hL (zl_sub hl [] rfl) hp
  · refine r_runVX (ci := 11) (r := (RX10, TX10, 7)) (n := 2) (As := [.int v1, .int v2]) (rest := [.int (iI 0), zr v3]) C (c_X10_lock l hfl G v0 v1 v2 h (.error e4) h3 er2) hR rfl k1 mw_920 mw_921 mw_922 mw_1 mw_923 (by decide +kernel) (by decide) rfl (zl_size hl) rfl (by simp [zr_cat, in_cat]) dL_lock_5 (fun cells slots hr => ?_)
    refine r_exRun hR hL hr (fun q9 ce H locs cells slots hR hL hce hcv hcl => ?_)
    by_cases c6 : e4 = 1
    · subst c6
      replace hp := ite_p hp rfl
      refine r_catch (e0 := 1) (name := "java/lang/IndexOutOfBoundsException") hown hK [] ⟨0, 17, 20, 13⟩ [⟨0, 17, 24, 17⟩] (htb.trans rfl) (fun _ hz => nomatch hz) (by decide) (by decide) (hm _ mw_299) (KW_t 312 (by decide +kernel) (by decide +kernel)) hce hcv hcl ?_
      refine z_astore (lv' := [(4, zr (q9 + 1)), (0, zr v0), (1, .int v1), (2, .int v2), (3, zr v3)]) hx hb dL_lock_20 hl (by decide) rfl (fun ls hl => ?_)
      refine lv_iconst (v := iI 1) hx hb dL_lock_22 rfl ?_
      cases hp
      exact r_zret C hR hL rfl dL_lock_23
    replace hp := ite_n hp c6
    by_cases c7 : e4 = 3
    · subst c7
      replace hp := ite_p hp rfl
      refine r_catch (e0 := 3) (name := "java/lang/IllegalStateException") hown hK [⟨0, 17, 20, 13⟩] ⟨0, 17, 24, 17⟩ [] (htb.trans rfl) (fun z hz => by rw [List.mem_singleton.mp hz]; exact ⟨by decide, _, hm _ mw_299, by decide +kernel⟩) (by decide) (by decide) (hm _ mw_301) (KW_t 408 (by decide +kernel) (by decide +kernel)) hce hcv hcl ?_
      refine z_astore (lv' := [(4, zr (q9 + 1)), (0, zr v0), (1, .int v1), (2, .int v2), (3, zr v3)]) hx hb dL_lock_24 hl (by decide) rfl (fun ls hl => ?_)
      refine lv_iconst (v := iI 2) hx hb dL_lock_26 rfl ?_
      cases hp
      exact r_zret C hR hL rfl dL_lock_27
    replace hp := ite_n hp c7
    exact absurd hp (by simp)
def p_L_lock (v0 : Nat) (v1 : Int32) (v2 : Int32) (v3 : Nat) (h : AH) : Option (Int32 × AH) := ck (v0 ≠ 0) <| ck (v3 ≠ 0) <| p_L_lock_0 v0 v1 v2 v3 h
theorem c_L_lock (l : Launch) (hfl : l.stackTraces = false) (G : GG) (v0 : Nat) (v1 : Int32) (v2 : Int32) (v3 : Nat) (h : AH) (r : Int32) (h' : AH) (hp : p_L_lock v0 v1 v2 v3 h = some (r, h')) : Ct l yL_lock (.codeWith yL_lock cL_lock 5 (some .int) [(0, 17, 20, 13), (0, 17, 24, 17)] :: MW) G 8 155 [zr v0, .int v1, .int v2, zr v3] h (some (.int r)) h' := by
  obtain ⟨hz0, hp⟩ := ck_i hp
  obtain ⟨hz3, hp⟩ := ck_i hp
  rw [show zr v0 = .ref (v0 - 1) from zr_p hz0]
  rw [show zr v3 = .ref (v3 - 1) from zr_p hz3]
  refine Ct.ofH (by decide +kernel) (Nat.le_of_ble_eq_true rfl) ?_
  intro p e s m args below meth c C htb hR ls hl
  have hl : zl ls 5 [(0, zr v0), (1, .int v1), (2, .int v2), (3, zr v3)] := ⟨by rw [zr_p hz0, zr_p hz3]; exact hl, by simp [zr_cat, in_cat]⟩
  exact s_L_lock_0 hfl htb C hR (fun _ hq => nomatch hq) hl hp
/-! CursorKeepLaw.save(LCursorKeep;III[J)I -/
def p_L_save_0  (v0 : Nat) (v1 : Int32) (v2 : Int32) (v3 : Int32) (v4 : Nat) (h : AH) : Option (Int32 × AH) :=
  ck (aK h v0 = 12) <|
  bC (p_X10_save v0 v1 v2 v3 h) (fun r2 h3 =>
    ck (aK h3 v4 = 23 ∧ ix (iI 0) (aN h3 v4)) <|
    nm (uL h3 v4 (iI 0).toNatClampNeg ((r2).toInt64)) fun h7 =>
    some ((iI 0), h7))
  (fun e4 h3 =>
    if e4 = 1 then
      some ((iI 1), h3)
    else
      if e4 = 2 then
        some ((iI 2), h3)
      else
        if e4 = 3 then
          some ((iI 3), h3)
        else
          none)
set_option maxHeartbeats 4000000 in
set_option maxRecDepth 100000 in
theorem s_L_save_0 {p : Program} {l : Launch} {e : Env} {s : State} {m : MethodId} {args : Array Value} {below : List Frame} {meth : Method} {c : Code} {G : GG} {hs : AH} {r : Int32} {h' : AH} (hfl : l.stackTraces = false) (htb : c.exceptionTable.toList = tableOf [(0, 12, 15, 13), (0, 12, 19, 15), (0, 12, 23, 17)]) (C : Cx G hs p s m args meth c cL_save 6 RL (.codeWith yL_save cL_save 6 (some .int) [(0, 12, 15, 13), (0, 12, 19, 15), (0, 12, 23, 17)] :: MW) (some .int) "save")   {v0 : Nat} {v1 : Int32} {v2 : Int32} {v3 : Int32} {v4 : Nat} {h : AH} {H : Heap} {locs : List Loc} {cells slots : Nat} {ls : Array Slot} (hR : Rp G h H) (hL : ∀ q ∈ locs, gB G ≤ q.base) (hl : zl ls 6 [(0, zr v0), (1, .int v1), (2, .int v2), (3, .int v3), (4, zr v4)]) (hp : p_L_save_0  v0 v1 v2 v3 v4 h = some (r, h')) : W p l e (gR G hs 8 197) s m args below meth c H locs cells slots (MQ below (Qcc G (some (.int r)) h') args s (gC G - aZ hs) (gS - aU hs) (fun q => gB G ≤ q)) (F0 m 0 ls []) := by
  obtain ⟨hx, hb, hml, hown, hts, hT, hK, rs, hlk, hret, hnm⟩ := id C
  have hm : ∀ w ∈ MW, w.before args s = true := fun w hw => hts w (hT w hw)
  unfold p_L_save_0 at hp
  refine z_aload hx hb dL_save_0 (zl_at hl 4 rfl) ?_
  refine lv_iconst (v := iI 0) hx hb dL_save_2 rfl ?_
  refine z_aload_n hx hb dL_save_3 rfl (zl_at hl 0 rfl) ?_
  refine lv_iload_n hx hb dL_save_4 rfl (zl_at hl 1 rfl) ?_
  refine lv_iload_n hx hb dL_save_5 rfl (zl_at hl 2 rfl) ?_
  refine lv_iload_n hx hb dL_save_6 rfl (zl_at hl 3 rfl) ?_
  obtain ⟨k1, hp⟩ := ck_i hp
  rcases bC_i hp with ⟨r2, h3, er2, hp⟩ | ⟨e4, h3, er2, hp⟩
  · refine r_runVX (ci := 11) (r := (RX10, TX10, 7)) (n := 3) (As := [.int v1, .int v2, .int v3]) (rest := [.int (iI 0), zr v4]) C (c_X10_save l hfl G v0 v1 v2 v3 h (.ok r2) h3 er2) hR rfl k1 mw_929 mw_930 mw_931 mw_1 mw_932 (by decide +kernel) (by decide) rfl (zl_size hl) rfl (by simp [zr_cat, in_cat]) dL_save_7 (fun cells slots hr => ?_)
    refine r_okRun hR hL hr (fun H locs cells slots hR hL => ?_)
    refine W.eq (g2 := F0 m 10 ls [.int r2, .int (iI 0), zr v4]) rfl ?_
    refine lv_i2l (v := (r2).toInt64) hx hb dL_save_10 rfl ?_
    obtain ⟨k5, hp⟩ := ck_i hp
    refine r_last hx hb hK hR hL k5.1 k5.2 dL_save_11 (fun H locs hR hL => ?_)
    obtain ⟨h7, hp, hR⟩ := nm_h hp hR
    refine lv_goto (tgt := 27) hx hb dL_save_12 (by decide) ?_
    refine lv_iconst (v := iI 0) hx hb dL_save_27 rfl ?_
    cases hp
    exact r_zret C hR hL rfl dL_save_28
  · refine r_runVX (ci := 11) (r := (RX10, TX10, 7)) (n := 3) (As := [.int v1, .int v2, .int v3]) (rest := [.int (iI 0), zr v4]) C (c_X10_save l hfl G v0 v1 v2 v3 h (.error e4) h3 er2) hR rfl k1 mw_929 mw_930 mw_931 mw_1 mw_932 (by decide +kernel) (by decide) rfl (zl_size hl) rfl (by simp [zr_cat, in_cat]) dL_save_7 (fun cells slots hr => ?_)
    refine r_exRun hR hL hr (fun q9 ce H locs cells slots hR hL hce hcv hcl => ?_)
    by_cases c8 : e4 = 1
    · subst c8
      replace hp := ite_p hp rfl
      refine r_catch (e0 := 1) (name := "java/lang/IndexOutOfBoundsException") hown hK [] ⟨0, 12, 15, 13⟩ [⟨0, 12, 19, 15⟩, ⟨0, 12, 23, 17⟩] (htb.trans rfl) (fun _ hz => nomatch hz) (by decide) (by decide) (hm _ mw_299) (KW_t 312 (by decide +kernel) (by decide +kernel)) hce hcv hcl ?_
      refine z_astore (lv' := [(5, zr (q9 + 1)), (0, zr v0), (1, .int v1), (2, .int v2), (3, .int v3), (4, zr v4)]) hx hb dL_save_15 hl (by decide) rfl (fun ls hl => ?_)
      refine lv_iconst (v := iI 1) hx hb dL_save_17 rfl ?_
      cases hp
      exact r_zret C hR hL rfl dL_save_18
    replace hp := ite_n hp c8
    by_cases c9 : e4 = 2
    · subst c9
      replace hp := ite_p hp rfl
      refine r_catch (e0 := 2) (name := "java/lang/IllegalArgumentException") hown hK [⟨0, 12, 15, 13⟩] ⟨0, 12, 19, 15⟩ [⟨0, 12, 23, 17⟩] (htb.trans rfl) (fun z hz => by rw [List.mem_singleton.mp hz]; exact ⟨by decide, _, hm _ mw_299, by decide +kernel⟩) (by decide) (by decide) (hm _ mw_300) (KW_t 388 (by decide +kernel) (by decide +kernel)) hce hcv hcl ?_
      refine z_astore (lv' := [(5, zr (q9 + 1)), (0, zr v0), (1, .int v1), (2, .int v2), (3, .int v3), (4, zr v4)]) hx hb dL_save_19 hl (by decide) rfl (fun ls hl => ?_)
      refine lv_iconst (v := iI 2) hx hb dL_save_21 rfl ?_
      cases hp
      exact r_zret C hR hL rfl dL_save_22
    replace hp := ite_n hp c9
    by_cases c10 : e4 = 3
    · subst c10
      replace hp := ite_p hp rfl
      refine r_catch (e0 := 3) (name := "java/lang/IllegalStateException") hown hK [⟨0, 12, 15, 13⟩, ⟨0, 12, 19, 15⟩] ⟨0, 12, 23, 17⟩ [] (htb.trans rfl) (fun z hz => (List.mem_cons.mp hz).elim (fun h9 => by rw [h9]; exact ⟨by decide, _, hm _ mw_299, by decide +kernel⟩) (fun h9 => by rw [List.mem_singleton.mp h9]; exact ⟨by decide, _, hm _ mw_300, by decide +kernel⟩)) (by decide) (by decide) (hm _ mw_301) (KW_t 408 (by decide +kernel) (by decide +kernel)) hce hcv hcl ?_
      refine z_astore (lv' := [(5, zr (q9 + 1)), (0, zr v0), (1, .int v1), (2, .int v2), (3, .int v3), (4, zr v4)]) hx hb dL_save_23 hl (by decide) rfl (fun ls hl => ?_)
      refine lv_iconst (v := iI 3) hx hb dL_save_25 rfl ?_
      cases hp
      exact r_zret C hR hL rfl dL_save_26
    replace hp := ite_n hp c10
    exact absurd hp (by simp)
def p_L_save (v0 : Nat) (v1 : Int32) (v2 : Int32) (v3 : Int32) (v4 : Nat) (h : AH) : Option (Int32 × AH) := ck (v0 ≠ 0) <| ck (v4 ≠ 0) <| p_L_save_0 v0 v1 v2 v3 v4 h
theorem c_L_save (l : Launch) (hfl : l.stackTraces = false) (G : GG) (v0 : Nat) (v1 : Int32) (v2 : Int32) (v3 : Int32) (v4 : Nat) (h : AH) (r : Int32) (h' : AH) (hp : p_L_save v0 v1 v2 v3 v4 h = some (r, h')) : Ct l yL_save (.codeWith yL_save cL_save 6 (some .int) [(0, 12, 15, 13), (0, 12, 19, 15), (0, 12, 23, 17)] :: MW) G 8 197 [zr v0, .int v1, .int v2, .int v3, zr v4] h (some (.int r)) h' := by
  obtain ⟨hz0, hp⟩ := ck_i hp
  obtain ⟨hz4, hp⟩ := ck_i hp
  rw [show zr v0 = .ref (v0 - 1) from zr_p hz0]
  rw [show zr v4 = .ref (v4 - 1) from zr_p hz4]
  refine Ct.ofH (by decide +kernel) (Nat.le_of_ble_eq_true rfl) ?_
  intro p e s m args below meth c C htb hR ls hl
  have hl : zl ls 6 [(0, zr v0), (1, .int v1), (2, .int v2), (3, .int v3), (4, zr v4)] := ⟨by rw [zr_p hz0, zr_p hz4]; exact hl, by simp [zr_cat, in_cat]⟩
  exact s_L_save_0 hfl htb C hR (fun _ hq => nomatch hq) hl hp
/-! CursorKeepLaw.savedVersion(LCursorKeep;I[J)I -/
def p_L_savedVersion_0  (v0 : Nat) (v1 : Int32) (v2 : Nat) (h : AH) : Option (Int32 × AH) :=
  ck (aK h v0 = 12) <|
  bC (p_X10_savedVersion v0 v1 h) (fun r2 h3 =>
    ck (aK h3 v2 = 23 ∧ ix (iI 0) (aN h3 v2)) <|
    nm (uL h3 v2 (iI 0).toNatClampNeg ((r2).toInt64)) fun h7 =>
    some ((iI 0), h7))
  (fun e4 h3 =>
    if e4 = 1 then
      some ((iI 1), h3)
    else
      none)
set_option maxHeartbeats 4000000 in
set_option maxRecDepth 100000 in
theorem s_L_savedVersion_0 {p : Program} {l : Launch} {e : Env} {s : State} {m : MethodId} {args : Array Value} {below : List Frame} {meth : Method} {c : Code} {G : GG} {hs : AH} {r : Int32} {h' : AH} (hfl : l.stackTraces = false) (htb : c.exceptionTable.toList = tableOf [(0, 9, 12, 13)]) (C : Cx G hs p s m args meth c cL_savedVersion 4 RL (.codeWith yL_savedVersion cL_savedVersion 4 (some .int) [(0, 9, 12, 13)] :: MW) (some .int) "savedVersion")   {v0 : Nat} {v1 : Int32} {v2 : Nat} {h : AH} {H : Heap} {locs : List Loc} {cells slots : Nat} {ls : Array Slot} (hR : Rp G h H) (hL : ∀ q ∈ locs, gB G ≤ q.base) (hl : zl ls 4 [(0, zr v0), (1, .int v1), (2, zr v2)]) (hp : p_L_savedVersion_0  v0 v1 v2 h = some (r, h')) : W p l e (gR G hs 8 153) s m args below meth c H locs cells slots (MQ below (Qcc G (some (.int r)) h') args s (gC G - aZ hs) (gS - aU hs) (fun q => gB G ≤ q)) (F0 m 0 ls []) := by
  obtain ⟨hx, hb, hml, hown, hts, hT, hK, rs, hlk, hret, hnm⟩ := id C
  have hm : ∀ w ∈ MW, w.before args s = true := fun w hw => hts w (hT w hw)
  unfold p_L_savedVersion_0 at hp
  refine z_aload_n hx hb dL_savedVersion_0 rfl (zl_at hl 2 rfl) ?_
  refine lv_iconst (v := iI 0) hx hb dL_savedVersion_1 rfl ?_
  refine z_aload_n hx hb dL_savedVersion_2 rfl (zl_at hl 0 rfl) ?_
  refine lv_iload_n hx hb dL_savedVersion_3 rfl (zl_at hl 1 rfl) ?_
  obtain ⟨k1, hp⟩ := ck_i hp
  rcases bC_i hp with ⟨r2, h3, er2, hp⟩ | ⟨e4, h3, er2, hp⟩
  · refine r_runVX (ci := 11) (r := (RX10, TX10, 7)) (n := 1) (As := [.int v1]) (rest := [.int (iI 0), zr v2]) C (c_X10_savedVersion l hfl G v0 v1 h (.ok r2) h3 er2) hR rfl k1 mw_958 mw_959 mw_960 mw_1 mw_961 (by decide +kernel) (by decide) rfl (zl_size hl) rfl (by simp [zr_cat, in_cat]) dL_savedVersion_4 (fun cells slots hr => ?_)
    refine r_okRun hR hL hr (fun H locs cells slots hR hL => ?_)
    refine W.eq (g2 := F0 m 7 ls [.int r2, .int (iI 0), zr v2]) rfl ?_
    refine lv_i2l (v := (r2).toInt64) hx hb dL_savedVersion_7 rfl ?_
    obtain ⟨k5, hp⟩ := ck_i hp
    refine r_last hx hb hK hR hL k5.1 k5.2 dL_savedVersion_8 (fun H locs hR hL => ?_)
    obtain ⟨h7, hp, hR⟩ := nm_h hp hR
    refine lv_goto (tgt := 15) hx hb dL_savedVersion_9 (by decide) ?_
    refine lv_iconst (v := iI 0) hx hb dL_savedVersion_15 rfl ?_
    cases hp
    exact r_zret C hR hL rfl dL_savedVersion_16
  · refine r_runVX (ci := 11) (r := (RX10, TX10, 7)) (n := 1) (As := [.int v1]) (rest := [.int (iI 0), zr v2]) C (c_X10_savedVersion l hfl G v0 v1 h (.error e4) h3 er2) hR rfl k1 mw_958 mw_959 mw_960 mw_1 mw_961 (by decide +kernel) (by decide) rfl (zl_size hl) rfl (by simp [zr_cat, in_cat]) dL_savedVersion_4 (fun cells slots hr => ?_)
    refine r_exRun hR hL hr (fun q9 ce H locs cells slots hR hL hce hcv hcl => ?_)
    by_cases c8 : e4 = 1
    · subst c8
      replace hp := ite_p hp rfl
      refine r_catch (e0 := 1) (name := "java/lang/IndexOutOfBoundsException") hown hK [] ⟨0, 9, 12, 13⟩ [] (htb.trans rfl) (fun _ hz => nomatch hz) (by decide) (by decide) (hm _ mw_299) (KW_t 312 (by decide +kernel) (by decide +kernel)) hce hcv hcl ?_
      refine z_astore_n (lv' := [(3, zr (q9 + 1)), (0, zr v0), (1, .int v1), (2, zr v2)]) hx hb dL_savedVersion_12 rfl hl (by decide) rfl (fun ls hl => ?_)
      refine lv_iconst (v := iI 1) hx hb dL_savedVersion_13 rfl ?_
      cases hp
      exact r_zret C hR hL rfl dL_savedVersion_14
    replace hp := ite_n hp c8
    exact absurd hp (by simp)
def p_L_savedVersion (v0 : Nat) (v1 : Int32) (v2 : Nat) (h : AH) : Option (Int32 × AH) := ck (v0 ≠ 0) <| ck (v2 ≠ 0) <| p_L_savedVersion_0 v0 v1 v2 h
theorem c_L_savedVersion (l : Launch) (hfl : l.stackTraces = false) (G : GG) (v0 : Nat) (v1 : Int32) (v2 : Nat) (h : AH) (r : Int32) (h' : AH) (hp : p_L_savedVersion v0 v1 v2 h = some (r, h')) : Ct l yL_savedVersion (.codeWith yL_savedVersion cL_savedVersion 4 (some .int) [(0, 9, 12, 13)] :: MW) G 8 153 [zr v0, .int v1, zr v2] h (some (.int r)) h' := by
  obtain ⟨hz0, hp⟩ := ck_i hp
  obtain ⟨hz2, hp⟩ := ck_i hp
  rw [show zr v0 = .ref (v0 - 1) from zr_p hz0]
  rw [show zr v2 = .ref (v2 - 1) from zr_p hz2]
  refine Ct.ofH (by decide +kernel) (Nat.le_of_ble_eq_true rfl) ?_
  intro p e s m args below meth c C htb hR ls hl
  have hl : zl ls 4 [(0, zr v0), (1, .int v1), (2, zr v2)] := ⟨by rw [zr_p hz0, zr_p hz2]; exact hl, by simp [zr_cat, in_cat]⟩
  exact s_L_savedVersion_0 hfl htb C hR (fun _ hq => nomatch hq) hl hp
/-! CursorKeepLaw.savedLength(LCursorKeep;I[J)I -/
def p_L_savedLength_0  (v0 : Nat) (v1 : Int32) (v2 : Nat) (h : AH) : Option (Int32 × AH) :=
  ck (aK h v0 = 12) <|
  bC (p_X10_savedLength v0 v1 h) (fun r2 h3 =>
    ck (aK h3 v2 = 23 ∧ ix (iI 0) (aN h3 v2)) <|
    nm (uL h3 v2 (iI 0).toNatClampNeg ((r2).toInt64)) fun h7 =>
    some ((iI 0), h7))
  (fun e4 h3 =>
    if e4 = 1 then
      some ((iI 1), h3)
    else
      none)
set_option maxHeartbeats 4000000 in
set_option maxRecDepth 100000 in
theorem s_L_savedLength_0 {p : Program} {l : Launch} {e : Env} {s : State} {m : MethodId} {args : Array Value} {below : List Frame} {meth : Method} {c : Code} {G : GG} {hs : AH} {r : Int32} {h' : AH} (hfl : l.stackTraces = false) (htb : c.exceptionTable.toList = tableOf [(0, 9, 12, 13)]) (C : Cx G hs p s m args meth c cL_savedLength 4 RL (.codeWith yL_savedLength cL_savedLength 4 (some .int) [(0, 9, 12, 13)] :: MW) (some .int) "savedLength")   {v0 : Nat} {v1 : Int32} {v2 : Nat} {h : AH} {H : Heap} {locs : List Loc} {cells slots : Nat} {ls : Array Slot} (hR : Rp G h H) (hL : ∀ q ∈ locs, gB G ≤ q.base) (hl : zl ls 4 [(0, zr v0), (1, .int v1), (2, zr v2)]) (hp : p_L_savedLength_0  v0 v1 v2 h = some (r, h')) : W p l e (gR G hs 8 153) s m args below meth c H locs cells slots (MQ below (Qcc G (some (.int r)) h') args s (gC G - aZ hs) (gS - aU hs) (fun q => gB G ≤ q)) (F0 m 0 ls []) := by
  obtain ⟨hx, hb, hml, hown, hts, hT, hK, rs, hlk, hret, hnm⟩ := id C
  have hm : ∀ w ∈ MW, w.before args s = true := fun w hw => hts w (hT w hw)
  unfold p_L_savedLength_0 at hp
  refine z_aload_n hx hb dL_savedLength_0 rfl (zl_at hl 2 rfl) ?_
  refine lv_iconst (v := iI 0) hx hb dL_savedLength_1 rfl ?_
  refine z_aload_n hx hb dL_savedLength_2 rfl (zl_at hl 0 rfl) ?_
  refine lv_iload_n hx hb dL_savedLength_3 rfl (zl_at hl 1 rfl) ?_
  obtain ⟨k1, hp⟩ := ck_i hp
  rcases bC_i hp with ⟨r2, h3, er2, hp⟩ | ⟨e4, h3, er2, hp⟩
  · refine r_runVX (ci := 11) (r := (RX10, TX10, 7)) (n := 1) (As := [.int v1]) (rest := [.int (iI 0), zr v2]) C (c_X10_savedLength l hfl G v0 v1 h (.ok r2) h3 er2) hR rfl k1 mw_965 mw_966 mw_967 mw_1 mw_968 (by decide +kernel) (by decide) rfl (zl_size hl) rfl (by simp [zr_cat, in_cat]) dL_savedLength_4 (fun cells slots hr => ?_)
    refine r_okRun hR hL hr (fun H locs cells slots hR hL => ?_)
    refine W.eq (g2 := F0 m 7 ls [.int r2, .int (iI 0), zr v2]) rfl ?_
    refine lv_i2l (v := (r2).toInt64) hx hb dL_savedLength_7 rfl ?_
    obtain ⟨k5, hp⟩ := ck_i hp
    refine r_last hx hb hK hR hL k5.1 k5.2 dL_savedLength_8 (fun H locs hR hL => ?_)
    obtain ⟨h7, hp, hR⟩ := nm_h hp hR
    refine lv_goto (tgt := 15) hx hb dL_savedLength_9 (by decide) ?_
    refine lv_iconst (v := iI 0) hx hb dL_savedLength_15 rfl ?_
    cases hp
    exact r_zret C hR hL rfl dL_savedLength_16
  · refine r_runVX (ci := 11) (r := (RX10, TX10, 7)) (n := 1) (As := [.int v1]) (rest := [.int (iI 0), zr v2]) C (c_X10_savedLength l hfl G v0 v1 h (.error e4) h3 er2) hR rfl k1 mw_965 mw_966 mw_967 mw_1 mw_968 (by decide +kernel) (by decide) rfl (zl_size hl) rfl (by simp [zr_cat, in_cat]) dL_savedLength_4 (fun cells slots hr => ?_)
    refine r_exRun hR hL hr (fun q9 ce H locs cells slots hR hL hce hcv hcl => ?_)
    by_cases c8 : e4 = 1
    · subst c8
      replace hp := ite_p hp rfl
      refine r_catch (e0 := 1) (name := "java/lang/IndexOutOfBoundsException") hown hK [] ⟨0, 9, 12, 13⟩ [] (htb.trans rfl) (fun _ hz => nomatch hz) (by decide) (by decide) (hm _ mw_299) (KW_t 312 (by decide +kernel) (by decide +kernel)) hce hcv hcl ?_
      refine z_astore_n (lv' := [(3, zr (q9 + 1)), (0, zr v0), (1, .int v1), (2, zr v2)]) hx hb dL_savedLength_12 rfl hl (by decide) rfl (fun ls hl => ?_)
      refine lv_iconst (v := iI 1) hx hb dL_savedLength_13 rfl ?_
      cases hp
      exact r_zret C hR hL rfl dL_savedLength_14
    replace hp := ite_n hp c8
    exact absurd hp (by simp)
def p_L_savedLength (v0 : Nat) (v1 : Int32) (v2 : Nat) (h : AH) : Option (Int32 × AH) := ck (v0 ≠ 0) <| ck (v2 ≠ 0) <| p_L_savedLength_0 v0 v1 v2 h
theorem c_L_savedLength (l : Launch) (hfl : l.stackTraces = false) (G : GG) (v0 : Nat) (v1 : Int32) (v2 : Nat) (h : AH) (r : Int32) (h' : AH) (hp : p_L_savedLength v0 v1 v2 h = some (r, h')) : Ct l yL_savedLength (.codeWith yL_savedLength cL_savedLength 4 (some .int) [(0, 9, 12, 13)] :: MW) G 8 153 [zr v0, .int v1, zr v2] h (some (.int r)) h' := by
  obtain ⟨hz0, hp⟩ := ck_i hp
  obtain ⟨hz2, hp⟩ := ck_i hp
  rw [show zr v0 = .ref (v0 - 1) from zr_p hz0]
  rw [show zr v2 = .ref (v2 - 1) from zr_p hz2]
  refine Ct.ofH (by decide +kernel) (Nat.le_of_ble_eq_true rfl) ?_
  intro p e s m args below meth c C htb hR ls hl
  have hl : zl ls 4 [(0, zr v0), (1, .int v1), (2, zr v2)] := ⟨by rw [zr_p hz0, zr_p hz2]; exact hl, by simp [zr_cat, in_cat]⟩
  exact s_L_savedLength_0 hfl htb C hR (fun _ hq => nomatch hq) hl hp
/-! CursorKeepLaw.savedLetter(LCursorKeep;II[J)I -/
def p_L_savedLetter_0  (v0 : Nat) (v1 : Int32) (v2 : Int32) (v3 : Nat) (h : AH) : Option (Int32 × AH) :=
  ck (aK h v0 = 12) <|
  bC (p_X10_savedLetter v0 v1 v2 h) (fun r2 h3 =>
    ck (aK h3 v3 = 23 ∧ ix (iI 0) (aN h3 v3)) <|
    nm (uL h3 v3 (iI 0).toNatClampNeg ((r2).toInt64)) fun h7 =>
    some ((iI 0), h7))
  (fun e4 h3 =>
    if e4 = 1 then
      some ((iI 1), h3)
    else
      none)
set_option maxHeartbeats 4000000 in
set_option maxRecDepth 100000 in
theorem s_L_savedLetter_0 {p : Program} {l : Launch} {e : Env} {s : State} {m : MethodId} {args : Array Value} {below : List Frame} {meth : Method} {c : Code} {G : GG} {hs : AH} {r : Int32} {h' : AH} (hfl : l.stackTraces = false) (htb : c.exceptionTable.toList = tableOf [(0, 10, 13, 13)]) (C : Cx G hs p s m args meth c cL_savedLetter 5 RL (.codeWith yL_savedLetter cL_savedLetter 5 (some .int) [(0, 10, 13, 13)] :: MW) (some .int) "savedLetter")   {v0 : Nat} {v1 : Int32} {v2 : Int32} {v3 : Nat} {h : AH} {H : Heap} {locs : List Loc} {cells slots : Nat} {ls : Array Slot} (hR : Rp G h H) (hL : ∀ q ∈ locs, gB G ≤ q.base) (hl : zl ls 5 [(0, zr v0), (1, .int v1), (2, .int v2), (3, zr v3)]) (hp : p_L_savedLetter_0  v0 v1 v2 v3 h = some (r, h')) : W p l e (gR G hs 8 155) s m args below meth c H locs cells slots (MQ below (Qcc G (some (.int r)) h') args s (gC G - aZ hs) (gS - aU hs) (fun q => gB G ≤ q)) (F0 m 0 ls []) := by
  obtain ⟨hx, hb, hml, hown, hts, hT, hK, rs, hlk, hret, hnm⟩ := id C
  have hm : ∀ w ∈ MW, w.before args s = true := fun w hw => hts w (hT w hw)
  unfold p_L_savedLetter_0 at hp
  refine z_aload_n hx hb dL_savedLetter_0 rfl (zl_at hl 3 rfl) ?_
  refine lv_iconst (v := iI 0) hx hb dL_savedLetter_1 rfl ?_
  refine z_aload_n hx hb dL_savedLetter_2 rfl (zl_at hl 0 rfl) ?_
  refine lv_iload_n hx hb dL_savedLetter_3 rfl (zl_at hl 1 rfl) ?_
  refine lv_iload_n hx hb dL_savedLetter_4 rfl (zl_at hl 2 rfl) ?_
  obtain ⟨k1, hp⟩ := ck_i hp
  rcases bC_i hp with ⟨r2, h3, er2, hp⟩ | ⟨e4, h3, er2, hp⟩
  · refine r_runVX (ci := 11) (r := (RX10, TX10, 7)) (n := 2) (As := [.int v1, .int v2]) (rest := [.int (iI 0), zr v3]) C (c_X10_savedLetter l hfl G v0 v1 v2 h (.ok r2) h3 er2) hR rfl k1 mw_972 mw_973 mw_974 mw_1 mw_975 (by decide +kernel) (by decide) rfl (zl_size hl) rfl (by simp [zr_cat, in_cat]) dL_savedLetter_5 (fun cells slots hr => ?_)
    refine r_okRun hR hL hr (fun H locs cells slots hR hL => ?_)
    refine W.eq (g2 := F0 m 8 ls [.int r2, .int (iI 0), zr v3]) rfl ?_
    refine lv_i2l (v := (r2).toInt64) hx hb dL_savedLetter_8 rfl ?_
    obtain ⟨k5, hp⟩ := ck_i hp
    refine r_last hx hb hK hR hL k5.1 k5.2 dL_savedLetter_9 (fun H locs hR hL => ?_)
    obtain ⟨h7, hp, hR⟩ := nm_h hp hR
    refine lv_goto (tgt := 17) hx hb dL_savedLetter_10 (by decide) ?_
    refine lv_iconst (v := iI 0) hx hb dL_savedLetter_17 rfl ?_
    cases hp
    exact r_zret C hR hL rfl dL_savedLetter_18
  · refine r_runVX (ci := 11) (r := (RX10, TX10, 7)) (n := 2) (As := [.int v1, .int v2]) (rest := [.int (iI 0), zr v3]) C (c_X10_savedLetter l hfl G v0 v1 v2 h (.error e4) h3 er2) hR rfl k1 mw_972 mw_973 mw_974 mw_1 mw_975 (by decide +kernel) (by decide) rfl (zl_size hl) rfl (by simp [zr_cat, in_cat]) dL_savedLetter_5 (fun cells slots hr => ?_)
    refine r_exRun hR hL hr (fun q9 ce H locs cells slots hR hL hce hcv hcl => ?_)
    by_cases c8 : e4 = 1
    · subst c8
      replace hp := ite_p hp rfl
      refine r_catch (e0 := 1) (name := "java/lang/IndexOutOfBoundsException") hown hK [] ⟨0, 10, 13, 13⟩ [] (htb.trans rfl) (fun _ hz => nomatch hz) (by decide) (by decide) (hm _ mw_299) (KW_t 312 (by decide +kernel) (by decide +kernel)) hce hcv hcl ?_
      refine z_astore (lv' := [(4, zr (q9 + 1)), (0, zr v0), (1, .int v1), (2, .int v2), (3, zr v3)]) hx hb dL_savedLetter_13 hl (by decide) rfl (fun ls hl => ?_)
      refine lv_iconst (v := iI 1) hx hb dL_savedLetter_15 rfl ?_
      cases hp
      exact r_zret C hR hL rfl dL_savedLetter_16
    replace hp := ite_n hp c8
    exact absurd hp (by simp)
def p_L_savedLetter (v0 : Nat) (v1 : Int32) (v2 : Int32) (v3 : Nat) (h : AH) : Option (Int32 × AH) := ck (v0 ≠ 0) <| ck (v3 ≠ 0) <| p_L_savedLetter_0 v0 v1 v2 v3 h
theorem c_L_savedLetter (l : Launch) (hfl : l.stackTraces = false) (G : GG) (v0 : Nat) (v1 : Int32) (v2 : Int32) (v3 : Nat) (h : AH) (r : Int32) (h' : AH) (hp : p_L_savedLetter v0 v1 v2 v3 h = some (r, h')) : Ct l yL_savedLetter (.codeWith yL_savedLetter cL_savedLetter 5 (some .int) [(0, 10, 13, 13)] :: MW) G 8 155 [zr v0, .int v1, .int v2, zr v3] h (some (.int r)) h' := by
  obtain ⟨hz0, hp⟩ := ck_i hp
  obtain ⟨hz3, hp⟩ := ck_i hp
  rw [show zr v0 = .ref (v0 - 1) from zr_p hz0]
  rw [show zr v3 = .ref (v3 - 1) from zr_p hz3]
  refine Ct.ofH (by decide +kernel) (Nat.le_of_ble_eq_true rfl) ?_
  intro p e s m args below meth c C htb hR ls hl
  have hl : zl ls 5 [(0, zr v0), (1, .int v1), (2, .int v2), (3, zr v3)] := ⟨by rw [zr_p hz0, zr_p hz3]; exact hl, by simp [zr_cat, in_cat]⟩
  exact s_L_savedLetter_0 hfl htb C hR (fun _ hq => nomatch hq) hl hp
