/-! CursorKeep.<init>()V -/
def p_X10_init_93  : Nat → Nat → Int32 → AH → Option (Unit × AH)
  | 0, _, _, _ => none
  | n + 1, v0, v1, h =>
    if (iI 5) ≤ v1 then
      some ((), h)
    else
      ck (aK h v0 = 12) <|
      ck (aZ h + 1 ≤ aC h ∧ aU h + 2 ≤ gS) <|
      nm (uN h 6 2) fun h4 =>
      ck (aK h4 (aZ h) ≠ 0) <|
      bR (p_X4_init (aZ h) h4) fun r6 h7 =>
      ck (aK h7 (aR h v0 1) = 25 ∧ ix v1 (aN h7 (aR h v0 1))) <|
      ck (aK h7 (aZ h) = 6) <|
      nm (uR h7 (aR h v0 1) v1.toNatClampNeg (aZ h)) fun h11 =>
      nm (v1 + iI 1) fun (x12 : Int32) =>
      p_X10_init_93  n v0 x12 h11
set_option maxHeartbeats 4000000 in
set_option maxRecDepth 100000 in
theorem s_X10_init_93 {p : Program} {l : Launch} {e : Env} {s : State} {m : MethodId} {args : Array Value} {below : List Frame} {meth : Method} {c : Code} {G : GG} {hs : AH} {r : Unit} {h' : AH} (C : Cx G hs p s m args meth c cX10_init 2 RX10 (.code yX10_init cX10_init 2 none :: MW) none "<init>")   : ∀ (n : Nat) (v0 : Nat) (v1 : Int32) (h : AH) (H : Heap) (locs : List Loc) (cells slots : Nat) (ls : Array Slot) (hR : Rp G h H) (hL : ∀ q ∈ locs, gB G ≤ q.base) (hl : zl ls 2 [(0, zr v0), (1, .int v1)]) (hp : p_X10_init_93  n v0 v1 h = some (r, h')), W p l e (gR G hs 5 122) s m args below meth c H locs cells slots (MQ below (Qcc G (none) h') args s (gC G - aZ hs) (gS - aU hs) (fun q => gB G ≤ q)) (F0 m 93 ls []) := by
  obtain ⟨hx, hb, hml, hown, hts, hT, hK, rs, hlk, hret, hnm⟩ := id C
  have hm : ∀ w ∈ MW, w.before args s = true := fun w hw => hts w (hT w hw)
  intro n
  induction n with
  | zero =>
    intro v0 v1 h H locs cells slots ls hR hL hl hp
    exact absurd (show none = some (r, h') from hp) (by simp)
  | succ n ih =>
    intro v0 v1 h H locs cells slots ls hR hL hl hp
    rw [p_X10_init_93.eq_2] at hp
    refine lv_iload_n hx hb dX10_init_93 rfl (zl_at hl 1 rfl) ?_
    refine lv_iconst (v := iI 5) hx hb dX10_init_94 rfl ?_
    refine lv_icmp_ge (tgt := 117) hx hb dX10_init_95 (by decide) (fun c1 => ?_) (fun c1 => ?_)
    · replace hp := ite_p hp c1
      cases hp
      exact r_vret C hR hL dX10_init_117
    · replace hp := ite_n hp c1
      refine z_aload_n hx hb dX10_init_98 rfl (zl_at hl 0 rfl) ?_
      obtain ⟨k2, hp⟩ := ck_i hp
      refine r_get (ci := 11) (C := RX10) (T := TX10) (N := 7) (v := zr (aR h v0 1)) hx hb hm ii_X10 hown hK hR rfl k2 1 (by decide) (hm _ mw_184) (fun _ h9 => h9) rfl dX10_init_99 ?_
      refine lv_iload_n hx hb dX10_init_102 rfl (zl_at hl 1 rfl) ?_
      obtain ⟨k3, hp⟩ := ck_i hp
      refine r_new (ci := 5) (C := RX4) (T := TX4) (N := 2) (ty0 := tyX4) C hR hL rfl ii_X4 tyX4_ok (fun _ => rfl) (by decide +kernel) mw_37 mw_169 mw_9 k3 dX10_init_103 (fun H cells slots hR => ?_)
      obtain ⟨h4, hp, hR⟩ := nm_h hp hR
      refine lv_dup hx hb dX10_init_106 (zr_cat _) ?_
      obtain ⟨k5, hp⟩ := ck_i hp
      obtain ⟨r6, h7, er6, hp⟩ := bR_i hp
      refine r_callI (n := 0) (As := []) (rest := [zr (aZ h), .int v1, zr (aR h v0 1)]) C (c_X4_init l G (aZ h) h4 r6 h7 er6) hR hL k5 mw_170 mw_171 mw_9 mw_172 rfl (by decide +kernel) (by decide) rfl (zl_size hl) rfl (by simp [zr_cat, in_cat]) dX10_init_107 (st2 := [zr (aZ h), .int v1, zr (aR h v0 1)]) rfl (fun H locs cells slots hR hL => ?_)
      obtain ⟨k8, hp⟩ := ck_i hp
      obtain ⟨k10, hp⟩ := ck_i hp
      refine r_aast (t := 5) (ci := 5) (r := (RX4, TX4, 2)) (by decide) rfl hx hb hK hR hL (Or.inl rfl) rfl k10 k8.1 k8.2 dX10_init_110 (fun H locs hR hL => ?_)
      obtain ⟨h11, hp, hR⟩ := nm_h hp hR
      obtain ⟨x12, ex12⟩ : ∃ y : Int32, y = v1 + iI 1 := ⟨_, rfl⟩
      replace hp := nm_i hp ex12
      refine z_iinc (v := x12) (lv' := [(1, .int x12), (0, zr v0)]) hx hb dX10_init_111 hl (k := 1) rfl ex12 (by decide) rfl (fun ls hl => ?_)
      refine lv_goto (tgt := 93) hx hb dX10_init_114 (by decide) ?_
      exact ih _ _ _ _ _ _ _ _ hR hL (zl_sub hl [1, 0] rfl) hp
def p_X10_init_66  : Nat → Nat → Int32 → AH → Option (Unit × AH)
  | 0, _, _, _ => none
  | n + 1, v0, v1, h =>
    if (iI 3) ≤ v1 then
      nm ((iI 0)) fun (x2 : Int32) =>
      p_X10_init_93  FU v0 x2 h
    else
      ck (aK h v0 = 12) <|
      ck (aZ h + 1 ≤ aC h ∧ aU h + 10 ≤ gS) <|
      nm (uN h 11 10) fun h5 =>
      ck (aK h5 (aZ h) ≠ 0) <|
      bR (p_X9_init (aZ h) v1 h5) fun r7 h8 =>
      ck (aK h8 (aR h v0 0) = 24 ∧ ix v1 (aN h8 (aR h v0 0))) <|
      ck (aK h8 (aZ h) = 11) <|
      nm (uR h8 (aR h v0 0) v1.toNatClampNeg (aZ h)) fun h12 =>
      nm (v1 + iI 1) fun (x13 : Int32) =>
      p_X10_init_66  n v0 x13 h12
set_option maxHeartbeats 4000000 in
set_option maxRecDepth 100000 in
theorem s_X10_init_66 {p : Program} {l : Launch} {e : Env} {s : State} {m : MethodId} {args : Array Value} {below : List Frame} {meth : Method} {c : Code} {G : GG} {hs : AH} {r : Unit} {h' : AH} (C : Cx G hs p s m args meth c cX10_init 2 RX10 (.code yX10_init cX10_init 2 none :: MW) none "<init>")   : ∀ (n : Nat) (v0 : Nat) (v1 : Int32) (h : AH) (H : Heap) (locs : List Loc) (cells slots : Nat) (ls : Array Slot) (hR : Rp G h H) (hL : ∀ q ∈ locs, gB G ≤ q.base) (hl : zl ls 2 [(0, zr v0), (1, .int v1)]) (hp : p_X10_init_66  n v0 v1 h = some (r, h')), W p l e (gR G hs 5 122) s m args below meth c H locs cells slots (MQ below (Qcc G (none) h') args s (gC G - aZ hs) (gS - aU hs) (fun q => gB G ≤ q)) (F0 m 66 ls []) := by
  obtain ⟨hx, hb, hml, hown, hts, hT, hK, rs, hlk, hret, hnm⟩ := id C
  have hm : ∀ w ∈ MW, w.before args s = true := fun w hw => hts w (hT w hw)
  intro n
  induction n with
  | zero =>
    intro v0 v1 h H locs cells slots ls hR hL hl hp
    exact absurd (show none = some (r, h') from hp) (by simp)
  | succ n ih =>
    intro v0 v1 h H locs cells slots ls hR hL hl hp
    rw [p_X10_init_66.eq_2] at hp
    refine lv_iload_n hx hb dX10_init_66 rfl (zl_at hl 1 rfl) ?_
    refine lv_iconst (v := iI 3) hx hb dX10_init_67 rfl ?_
    refine lv_icmp_ge (tgt := 91) hx hb dX10_init_68 (by decide) (fun c1 => ?_) (fun c1 => ?_)
    · replace hp := ite_p hp c1
      refine lv_iconst (v := iI 0) hx hb dX10_init_91 rfl ?_
      refine lv_topi (fun x2 ex2 => ?_)
      replace hp := nm_i hp ex2
      refine z_istore_n (lv' := [(1, .int x2), (0, zr v0)]) hx hb dX10_init_92 rfl hl (by decide) rfl (fun ls hl => ?_)
      exact s_X10_init_93 C  _ _ _ _ _ _ _ _ _ hR hL (zl_sub hl [1, 0] rfl) hp
    · replace hp := ite_n hp c1
      refine z_aload_n hx hb dX10_init_71 rfl (zl_at hl 0 rfl) ?_
      obtain ⟨k3, hp⟩ := ck_i hp
      refine r_get (ci := 11) (C := RX10) (T := TX10) (N := 7) (v := zr (aR h v0 0)) hx hb hm ii_X10 hown hK hR rfl k3 0 (by decide) (hm _ mw_183) (fun _ h9 => h9) rfl dX10_init_72 ?_
      refine lv_iload_n hx hb dX10_init_75 rfl (zl_at hl 1 rfl) ?_
      obtain ⟨k4, hp⟩ := ck_i hp
      refine r_new (ci := 10) (C := RX9) (T := TX9) (N := 10) (ty0 := tyX9) C hR hL rfl ii_X9 tyX9_ok (fun _ => rfl) (by decide +kernel) mw_35 mw_103 mw_7 k4 dX10_init_76 (fun H cells slots hR => ?_)
      obtain ⟨h5, hp, hR⟩ := nm_h hp hR
      refine lv_dup hx hb dX10_init_79 (zr_cat _) ?_
      refine lv_iload_n hx hb dX10_init_80 rfl (zl_at hl 1 rfl) ?_
      obtain ⟨k6, hp⟩ := ck_i hp
      obtain ⟨r7, h8, er7, hp⟩ := bR_i hp
      refine r_callI (n := 1) (As := [.int v1]) (rest := [zr (aZ h), .int v1, zr (aR h v0 0)]) C (c_X9_init l G (aZ h) v1 h5 r7 h8 er7) hR hL k6 mw_104 mw_105 mw_7 mw_106 rfl (by decide +kernel) (by decide) rfl (zl_size hl) rfl (by simp [zr_cat, in_cat]) dX10_init_81 (st2 := [zr (aZ h), .int v1, zr (aR h v0 0)]) rfl (fun H locs cells slots hR hL => ?_)
      obtain ⟨k9, hp⟩ := ck_i hp
      obtain ⟨k11, hp⟩ := ck_i hp
      refine r_aast (t := 4) (ci := 10) (r := (RX9, TX9, 10)) (by decide) rfl hx hb hK hR hL (Or.inl rfl) rfl k11 k9.1 k9.2 dX10_init_84 (fun H locs hR hL => ?_)
      obtain ⟨h12, hp, hR⟩ := nm_h hp hR
      obtain ⟨x13, ex13⟩ : ∃ y : Int32, y = v1 + iI 1 := ⟨_, rfl⟩
      replace hp := nm_i hp ex13
      refine z_iinc (v := x13) (lv' := [(1, .int x13), (0, zr v0)]) hx hb dX10_init_85 hl (k := 1) rfl ex13 (by decide) rfl (fun ls hl => ?_)
      refine lv_goto (tgt := 66) hx hb dX10_init_88 (by decide) ?_
      exact ih _ _ _ _ _ _ _ _ hR hL (zl_sub hl [1, 0] rfl) hp
def p_X10_init_0  (v0 : Nat) (h : AH) : Option (Unit × AH) :=
  ck (v0 ≠ 0) <|
  ck ((0 ≤ (iI 3) ∧ (iI 3).toNatClampNeg ≤ 100000) ∧ aZ h + 1 ≤ aC h ∧ aU h + (iI 3).toNatClampNeg ≤ gS) <|
  nm (uN h 24 (iI 3).toNatClampNeg) fun h4 =>
  ck (aK h4 v0 = 12) <|
  nm (uR h4 v0 0 (aZ h)) fun h6 =>
  ck ((0 ≤ (iI 5) ∧ (iI 5).toNatClampNeg ≤ 100000) ∧ aZ h6 + 1 ≤ aC h6 ∧ aU h6 + (iI 5).toNatClampNeg ≤ gS) <|
  nm (uN h6 25 (iI 5).toNatClampNeg) fun h9 =>
  ck (aK h9 v0 = 12) <|
  nm (uR h9 v0 1 (aZ h6)) fun h11 =>
  ck (aZ h11 + 1 ≤ aC h11 ∧ aU h11 + 3 ≤ gS) <|
  nm (uN h11 1 3) fun h13 =>
  ck (aK h13 (aZ h11) ≠ 0) <|
  bR (p_Jx4a65c_init_da8c8 (aZ h11) h13) fun r15 h16 =>
  ck (aK h16 v0 = 12) <|
  nm (uR h16 v0 2 (aZ h11)) fun h18 =>
  ck (aZ h18 + 1 ≤ aC h18 ∧ aU h18 + 3 ≤ gS) <|
  nm (uN h18 1 3) fun h20 =>
  ck (aK h20 (aZ h18) ≠ 0) <|
  bR (p_Jx4a65c_init_da8c8 (aZ h18) h20) fun r22 h23 =>
  ck (aK h23 v0 = 12) <|
  nm (uR h23 v0 3 (aZ h18)) fun h25 =>
  ck (aZ h25 + 1 ≤ aC h25 ∧ aU h25 + 4 ≤ gS) <|
  nm (uN h25 8 4) fun h27 =>
  ck (aK h27 (aZ h25) ≠ 0) <|
  bR (p_X6_init (aZ h25) h27) fun r29 h30 =>
  ck (aK h30 v0 = 12) <|
  nm (uR h30 v0 4 (aZ h25)) fun h32 =>
  ck (aZ h32 + 1 ≤ aC h32 ∧ aU h32 + 3 ≤ gS) <|
  nm (uN h32 7 3) fun h34 =>
  ck (aK h34 (aZ h32) ≠ 0) <|
  bR (p_X5_init (aZ h32) h34) fun r36 h37 =>
  ck (aK h37 v0 = 12) <|
  nm (uR h37 v0 5 (aZ h32)) fun h39 =>
  nm ((iI 0)) fun (x40 : Int32) =>
  p_X10_init_66  FU v0 x40 h39
set_option maxHeartbeats 4000000 in
set_option maxRecDepth 100000 in
theorem s_X10_init_0 {p : Program} {l : Launch} {e : Env} {s : State} {m : MethodId} {args : Array Value} {below : List Frame} {meth : Method} {c : Code} {G : GG} {hs : AH} {r : Unit} {h' : AH} (C : Cx G hs p s m args meth c cX10_init 2 RX10 (.code yX10_init cX10_init 2 none :: MW) none "<init>")   {v0 : Nat} {h : AH} {H : Heap} {locs : List Loc} {cells slots : Nat} {ls : Array Slot} (hR : Rp G h H) (hL : ∀ q ∈ locs, gB G ≤ q.base) (hl : zl ls 2 [(0, zr v0)]) (hp : p_X10_init_0  v0 h = some (r, h')) : W p l e (gR G hs 5 122) s m args below meth c H locs cells slots (MQ below (Qcc G (none) h') args s (gC G - aZ hs) (gS - aU hs) (fun q => gB G ≤ q)) (F0 m 0 ls []) := by
  obtain ⟨hx, hb, hml, hown, hts, hT, hK, rs, hlk, hret, hnm⟩ := id C
  have hm : ∀ w ∈ MW, w.before args s = true := fun w hw => hts w (hT w hw)
  unfold p_X10_init_0 at hp
  refine z_aload_n hx hb dX10_init_0 rfl (zl_at hl 0 rfl) ?_
  obtain ⟨k1, hp⟩ := ck_i hp
  refine r_objInit C k1 (hm _ mw_32) (hm _ mw_33) (hm _ mw_34) (zl_size hl) dX10_init_1 (by decide) (by simp [zr_cat, in_cat]) ?_
  refine z_aload_n hx hb dX10_init_4 rfl (zl_at hl 0 rfl) ?_
  refine lv_iconst (v := iI 3) hx hb dX10_init_5 rfl ?_
  obtain ⟨k2, hp⟩ := ck_i hp
  refine r_anew (t := 4) (by decide) rfl C hK.2.2.2.2.2.2.1 hR mw_35 k2.1 k2.2 dX10_init_6 (fun H cells slots hR => ?_)
  obtain ⟨h4, hp, hR⟩ := nm_h hp hR
  obtain ⟨k5, hp⟩ := ck_i hp
  refine r_putR (ci := 11) (C := RX10) (T := TX10) (N := 7) hx hb hm ii_X10 tyX10_ok nmX10 hown hK hR hL rfl k5 0 (by decide) (hm _ mw_183) (fun _ h9 => h9) (Or.inr ⟨rfl, hnm, rfl⟩) (zr_fitsA _ _) (fun _ _ _ => rfl) dX10_init_9 (fun H locs hR hL => ?_)
  obtain ⟨h6, hp, hR⟩ := nm_h hp hR
  refine z_aload_n hx hb dX10_init_12 rfl (zl_at hl 0 rfl) ?_
  refine lv_iconst (v := iI 5) hx hb dX10_init_13 rfl ?_
  obtain ⟨k7, hp⟩ := ck_i hp
  refine r_anew (t := 5) (by decide) rfl C hK.2.2.2.2.2.2.2.1 hR mw_37 k7.1 k7.2 dX10_init_14 (fun H cells slots hR => ?_)
  obtain ⟨h9, hp, hR⟩ := nm_h hp hR
  obtain ⟨k10, hp⟩ := ck_i hp
  refine r_putR (ci := 11) (C := RX10) (T := TX10) (N := 7) hx hb hm ii_X10 tyX10_ok nmX10 hown hK hR hL rfl k10 1 (by decide) (hm _ mw_184) (fun _ h9 => h9) (Or.inr ⟨rfl, hnm, rfl⟩) (zr_fitsA _ _) (fun _ _ _ => rfl) dX10_init_17 (fun H locs hR hL => ?_)
  obtain ⟨h11, hp, hR⟩ := nm_h hp hR
  refine z_aload_n hx hb dX10_init_20 rfl (zl_at hl 0 rfl) ?_
  obtain ⟨k12, hp⟩ := ck_i hp
  refine r_new (ci := 0) (C := RJx4a65c) (T := TJx4a65c) (N := 3) (ty0 := tyJx4a65c) C hR hL rfl ii_Jx4a65c tyJx4a65c_ok (fun _ => rfl) (by decide +kernel) mw_39 mw_40 mw_4 k12 dX10_init_21 (fun H cells slots hR => ?_)
  obtain ⟨h13, hp, hR⟩ := nm_h hp hR
  refine lv_dup hx hb dX10_init_24 (zr_cat _) ?_
  obtain ⟨k14, hp⟩ := ck_i hp
  obtain ⟨r15, h16, er15, hp⟩ := bR_i hp
  refine r_callI (n := 0) (As := []) (rest := [zr (aZ h11), zr v0]) C (c_Jx4a65c_init_da8c8 l G (aZ h11) h13 r15 h16 er15) hR hL k14 mw_41 mw_42 mw_4 mw_43 rfl (by decide +kernel) (by decide) rfl (zl_size hl) rfl (by simp [zr_cat, in_cat]) dX10_init_25 (st2 := [zr (aZ h11), zr v0]) rfl (fun H locs cells slots hR hL => ?_)
  obtain ⟨k17, hp⟩ := ck_i hp
  refine r_putR (ci := 11) (C := RX10) (T := TX10) (N := 7) hx hb hm ii_X10 tyX10_ok nmX10 hown hK hR hL rfl k17 2 (by decide) (hm _ mw_185) (fun _ h9 => h9) (Or.inr ⟨rfl, hnm, rfl⟩) (zr_fitsO _ _) (fun _ _ _ => rfl) dX10_init_28 (fun H locs hR hL => ?_)
  obtain ⟨h18, hp, hR⟩ := nm_h hp hR
  refine z_aload_n hx hb dX10_init_31 rfl (zl_at hl 0 rfl) ?_
  obtain ⟨k19, hp⟩ := ck_i hp
  refine r_new (ci := 0) (C := RJx4a65c) (T := TJx4a65c) (N := 3) (ty0 := tyJx4a65c) C hR hL rfl ii_Jx4a65c tyJx4a65c_ok (fun _ => rfl) (by decide +kernel) mw_39 mw_40 mw_4 k19 dX10_init_32 (fun H cells slots hR => ?_)
  obtain ⟨h20, hp, hR⟩ := nm_h hp hR
  refine lv_dup hx hb dX10_init_35 (zr_cat _) ?_
  obtain ⟨k21, hp⟩ := ck_i hp
  obtain ⟨r22, h23, er22, hp⟩ := bR_i hp
  refine r_callI (n := 0) (As := []) (rest := [zr (aZ h18), zr v0]) C (c_Jx4a65c_init_da8c8 l G (aZ h18) h20 r22 h23 er22) hR hL k21 mw_41 mw_42 mw_4 mw_43 rfl (by decide +kernel) (by decide) rfl (zl_size hl) rfl (by simp [zr_cat, in_cat]) dX10_init_36 (st2 := [zr (aZ h18), zr v0]) rfl (fun H locs cells slots hR hL => ?_)
  obtain ⟨k24, hp⟩ := ck_i hp
  refine r_putR (ci := 11) (C := RX10) (T := TX10) (N := 7) hx hb hm ii_X10 tyX10_ok nmX10 hown hK hR hL rfl k24 3 (by decide) (hm _ mw_186) (fun _ h9 => h9) (Or.inr ⟨rfl, hnm, rfl⟩) (zr_fitsO _ _) (fun _ _ _ => rfl) dX10_init_39 (fun H locs hR hL => ?_)
  obtain ⟨h25, hp, hR⟩ := nm_h hp hR
  refine z_aload_n hx hb dX10_init_42 rfl (zl_at hl 0 rfl) ?_
  obtain ⟨k26, hp⟩ := ck_i hp
  refine r_new (ci := 7) (C := RX6) (T := TX6) (N := 4) (ty0 := tyX6) C hR hL rfl ii_X6 tyX6_ok (fun _ => rfl) (by decide +kernel) mw_65 mw_66 mw_5 k26 dX10_init_43 (fun H cells slots hR => ?_)
  obtain ⟨h27, hp, hR⟩ := nm_h hp hR
  refine lv_dup hx hb dX10_init_46 (zr_cat _) ?_
  obtain ⟨k28, hp⟩ := ck_i hp
  obtain ⟨r29, h30, er29, hp⟩ := bR_i hp
  refine r_callI (n := 0) (As := []) (rest := [zr (aZ h25), zr v0]) C (c_X6_init l G (aZ h25) h27 r29 h30 er29) hR hL k28 mw_67 mw_68 mw_5 mw_69 rfl (by decide +kernel) (by decide) rfl (zl_size hl) rfl (by simp [zr_cat, in_cat]) dX10_init_47 (st2 := [zr (aZ h25), zr v0]) rfl (fun H locs cells slots hR hL => ?_)
  obtain ⟨k31, hp⟩ := ck_i hp
  refine r_putR (ci := 11) (C := RX10) (T := TX10) (N := 7) hx hb hm ii_X10 tyX10_ok nmX10 hown hK hR hL rfl k31 4 (by decide) (hm _ mw_187) (fun _ h9 => h9) (Or.inr ⟨rfl, hnm, rfl⟩) (zr_fitsO _ _) (fun _ _ _ => rfl) dX10_init_50 (fun H locs hR hL => ?_)
  obtain ⟨h32, hp, hR⟩ := nm_h hp hR
  refine z_aload_n hx hb dX10_init_53 rfl (zl_at hl 0 rfl) ?_
  obtain ⟨k33, hp⟩ := ck_i hp
  refine r_new (ci := 6) (C := RX5) (T := TX5) (N := 3) (ty0 := tyX5) C hR hL rfl ii_X5 tyX5_ok (fun _ => rfl) (by decide +kernel) mw_86 mw_87 mw_6 k33 dX10_init_54 (fun H cells slots hR => ?_)
  obtain ⟨h34, hp, hR⟩ := nm_h hp hR
  refine lv_dup hx hb dX10_init_57 (zr_cat _) ?_
  obtain ⟨k35, hp⟩ := ck_i hp
  obtain ⟨r36, h37, er36, hp⟩ := bR_i hp
  refine r_callI (n := 0) (As := []) (rest := [zr (aZ h32), zr v0]) C (c_X5_init l G (aZ h32) h34 r36 h37 er36) hR hL k35 mw_88 mw_89 mw_6 mw_90 rfl (by decide +kernel) (by decide) rfl (zl_size hl) rfl (by simp [zr_cat, in_cat]) dX10_init_58 (st2 := [zr (aZ h32), zr v0]) rfl (fun H locs cells slots hR hL => ?_)
  obtain ⟨k38, hp⟩ := ck_i hp
  refine r_putR (ci := 11) (C := RX10) (T := TX10) (N := 7) hx hb hm ii_X10 tyX10_ok nmX10 hown hK hR hL rfl k38 5 (by decide) (hm _ mw_188) (fun _ h9 => h9) (Or.inr ⟨rfl, hnm, rfl⟩) (zr_fitsO _ _) (fun _ _ _ => rfl) dX10_init_61 (fun H locs hR hL => ?_)
  obtain ⟨h39, hp, hR⟩ := nm_h hp hR
  refine lv_iconst (v := iI 0) hx hb dX10_init_64 rfl ?_
  refine lv_topi (fun x40 ex40 => ?_)
  replace hp := nm_i hp ex40
  refine z_istore_n (lv' := [(1, .int x40), (0, zr v0)]) hx hb dX10_init_65 rfl hl (by decide) rfl (fun ls hl => ?_)
  exact s_X10_init_66 C  _ _ _ _ _ _ _ _ _ hR hL (zl_sub hl [1, 0] rfl) hp
def p_X10_init (v0 : Nat) (h : AH) : Option (Unit × AH) := ck (v0 ≠ 0) <| p_X10_init_0 v0 h
theorem c_X10_init (l : Launch) (G : GG) (v0 : Nat) (h : AH) (r : Unit) (h' : AH) (hp : p_X10_init v0 h = some (r, h')) : Ct l yX10_init (.code yX10_init cX10_init 2 none :: MW) G 5 122 [.ref (v0 - 1)] h (none) h' := by
  obtain ⟨hz0, hp⟩ := ck_i hp
  refine Ct.of (by decide +kernel) (Nat.le_of_ble_eq_true rfl) ?_
  intro p e s m args below meth c C hR ls hl
  have hl : zl ls 2 [(0, zr v0)] := ⟨by rw [zr_p hz0]; exact hl, by simp [zr_cat, in_cat]⟩
  exact s_X10_init_0 C hR (fun _ hq => nomatch hq) hl hp
/-! CursorKeep.handAt(I)LCursorKeep$Hand; -/
def p_X10_handAt_19  (s0 : Nat) (h : AH) : Option (Except Nat Nat × AH) :=
  if s0 = 0 then
    ck (aZ h + 1 ≤ aC h ∧ aU h + 6 ≤ gS) <|
    some (.error 1, uN h 0 6)
  else
    some (.ok s0, h)
set_option maxHeartbeats 4000000 in
set_option maxRecDepth 100000 in
theorem s_X10_handAt_19 {p : Program} {l : Launch} {e : Env} {s : State} {m : MethodId} {args : Array Value} {below : List Frame} {meth : Method} {c : Code} {G : GG} {hs : AH} {r : Except Nat Nat} {h' : AH} (hfl : l.stackTraces = false) (htb : ∀ x ∈ c.exceptionTable.toList, False) (C : Cx G hs p s m args meth c cX10_handAt 3 RX10 (.code yX10_handAt cX10_handAt 3 (some (.object "CursorKeep$Hand")) :: MW) (some (.object "CursorKeep$Hand")) "handAt")   {s0 : Nat} {h : AH} {H : Heap} {locs : List Loc} {cells slots : Nat} {ls : Array Slot} (hR : Rp G h H) (hL : ∀ q ∈ locs, gB G ≤ q.base) (hl : zl ls 3 []) (hp : p_X10_handAt_19  s0 h = some (r, h')) : W p l e (gR G hs 6 110) s m args below meth c H locs cells slots (vx_MQ below (Qxx G (fun x => some (zr x)) r h') (Xxx G r h') args s (gC G - aZ hs) (gS - aU hs) (fun q => gB G ≤ q)) (F0 m 19 ls [zr s0]) := by
  obtain ⟨hx, hb, hml, hown, hts, hT, hK, rs, hlk, hret, hnm⟩ := id C
  have hm : ∀ w ∈ MW, w.before args s = true := fun w hw => hts w (hT w hw)
  unfold p_X10_handAt_19 at hp
  refine z_astore_n (lv' := [(2, zr s0)]) hx hb dX10_handAt_19 rfl hl (by decide) rfl (fun ls hl => ?_)
  refine z_aload_n hx hb dX10_handAt_20 rfl (zl_at hl 0 rfl) ?_
  refine z_ifnonnull (tgt := 35) hx hb dX10_handAt_21 (by decide) (fun c1 => ?_) (fun c1 => ?_)
  · replace hp := ite_n hp c1
    refine z_aload_n hx hb dX10_handAt_35 rfl (zl_at hl 0 rfl) ?_
    cases hp
    exact r_aretX (by first | exact Or.inl ⟨_, rfl⟩ | exact Or.inr ⟨_, rfl⟩) C hR hL dX10_handAt_36
  · replace hp := ite_p hp c1
    obtain ⟨k2, hp⟩ := ck_i hp
    cases hp
    exact r_throw (e0 := 1) (names := ["java/lang/RuntimeException", "java/lang/Exception"]) (text := "no such hand") C hfl htb hR hL (by decide +kernel) (by decide +kernel) mw_314 mw_13 (hK.2.2.2.2.2.2.2.2.2.2.2.1 (268, "no such hand") (by decide +kernel)) at_1 go_1 (zl_size hl) dX10_handAt_24 dX10_handAt_27 (Or.inr ⟨dX10_handAt_28, rfl⟩) dX10_handAt_31 dX10_handAt_34 (by decide) (by simp [zr_cat, in_cat]) (by decide +kernel) k2
def p_X10_handAt_18   (h : AH) : Option (Except Nat Nat × AH) :=
  p_X10_handAt_19  0 h
set_option maxHeartbeats 4000000 in
set_option maxRecDepth 100000 in
theorem s_X10_handAt_18 {p : Program} {l : Launch} {e : Env} {s : State} {m : MethodId} {args : Array Value} {below : List Frame} {meth : Method} {c : Code} {G : GG} {hs : AH} {r : Except Nat Nat} {h' : AH} (hfl : l.stackTraces = false) (htb : ∀ x ∈ c.exceptionTable.toList, False) (C : Cx G hs p s m args meth c cX10_handAt 3 RX10 (.code yX10_handAt cX10_handAt 3 (some (.object "CursorKeep$Hand")) :: MW) (some (.object "CursorKeep$Hand")) "handAt")    {h : AH} {H : Heap} {locs : List Loc} {cells slots : Nat} {ls : Array Slot} (hR : Rp G h H) (hL : ∀ q ∈ locs, gB G ≤ q.base) (hl : zl ls 3 []) (hp : p_X10_handAt_18   h = some (r, h')) : W p l e (gR G hs 6 110) s m args below meth c H locs cells slots (vx_MQ below (Qxx G (fun x => some (zr x)) r h') (Xxx G r h') args s (gC G - aZ hs) (gS - aU hs) (fun q => gB G ≤ q)) (F0 m 18 ls []) := by
  obtain ⟨hx, hb, hml, hown, hts, hT, hK, rs, hlk, hret, hnm⟩ := id C
  have hm : ∀ w ∈ MW, w.before args s = true := fun w hw => hts w (hT w hw)
  unfold p_X10_handAt_18 at hp
  refine z_null hx hb dX10_handAt_18 ?_
  exact s_X10_handAt_19 hfl htb C  hR hL (zl_sub hl [] rfl) hp
def p_X10_handAt_0  (v0 : Nat) (v1 : Int32) (h : AH) : Option (Except Nat Nat × AH) :=
  if v1 < 0 then
    p_X10_handAt_18   h
  else
    if (iI 5) ≤ v1 then
      p_X10_handAt_18   h
    else
      ck (aK h v0 = 12) <|
      ck (aK h (aR h v0 1) = 25 ∧ ix v1 (aN h (aR h v0 1))) <|
      p_X10_handAt_19  (aR h (aR h v0 1) v1.toNatClampNeg) h
set_option maxHeartbeats 4000000 in
set_option maxRecDepth 100000 in
theorem s_X10_handAt_0 {p : Program} {l : Launch} {e : Env} {s : State} {m : MethodId} {args : Array Value} {below : List Frame} {meth : Method} {c : Code} {G : GG} {hs : AH} {r : Except Nat Nat} {h' : AH} (hfl : l.stackTraces = false) (htb : ∀ x ∈ c.exceptionTable.toList, False) (C : Cx G hs p s m args meth c cX10_handAt 3 RX10 (.code yX10_handAt cX10_handAt 3 (some (.object "CursorKeep$Hand")) :: MW) (some (.object "CursorKeep$Hand")) "handAt")   {v0 : Nat} {v1 : Int32} {h : AH} {H : Heap} {locs : List Loc} {cells slots : Nat} {ls : Array Slot} (hR : Rp G h H) (hL : ∀ q ∈ locs, gB G ≤ q.base) (hl : zl ls 3 [(0, zr v0), (1, .int v1)]) (hp : p_X10_handAt_0  v0 v1 h = some (r, h')) : W p l e (gR G hs 6 110) s m args below meth c H locs cells slots (vx_MQ below (Qxx G (fun x => some (zr x)) r h') (Xxx G r h') args s (gC G - aZ hs) (gS - aU hs) (fun q => gB G ≤ q)) (F0 m 0 ls []) := by
  obtain ⟨hx, hb, hml, hown, hts, hT, hK, rs, hlk, hret, hnm⟩ := id C
  have hm : ∀ w ∈ MW, w.before args s = true := fun w hw => hts w (hT w hw)
  unfold p_X10_handAt_0 at hp
  refine lv_iload_n hx hb dX10_handAt_0 rfl (zl_at hl 1 rfl) ?_
  refine lv_if_lt (tgt := 18) hx hb dX10_handAt_1 (by decide) (fun c1 => ?_) (fun c1 => ?_)
  · replace hp := ite_p hp c1
    exact s_X10_handAt_18 hfl htb C  hR hL (zl_sub hl [] rfl) hp
  · replace hp := ite_n hp c1
    refine lv_iload_n hx hb dX10_handAt_4 rfl (zl_at hl 1 rfl) ?_
    refine lv_iconst (v := iI 5) hx hb dX10_handAt_5 rfl ?_
    refine lv_icmp_ge (tgt := 18) hx hb dX10_handAt_6 (by decide) (fun c2 => ?_) (fun c2 => ?_)
    · replace hp := ite_p hp c2
      exact s_X10_handAt_18 hfl htb C  hR hL (zl_sub hl [] rfl) hp
    · replace hp := ite_n hp c2
      refine z_aload_n hx hb dX10_handAt_9 rfl (zl_at hl 0 rfl) ?_
      obtain ⟨k3, hp⟩ := ck_i hp
      refine r_get (ci := 11) (C := RX10) (T := TX10) (N := 7) (v := zr (aR h v0 1)) hx hb hm ii_X10 hown hK hR rfl k3 1 (by decide) (hm _ mw_184) (fun _ h9 => h9) rfl dX10_handAt_10 ?_
      refine lv_iload_n hx hb dX10_handAt_13 rfl (zl_at hl 1 rfl) ?_
      obtain ⟨k4, hp⟩ := ck_i hp
      refine r_aald (t := 5) (by decide) rfl (fun _ _ _ => rfl) hx hb hK hR k4.1 k4.2 dX10_handAt_14 ?_
      refine lv_goto (tgt := 19) hx hb dX10_handAt_15 (by decide) ?_
      exact s_X10_handAt_19 hfl htb C  hR hL (zl_sub hl [] rfl) hp
def p_X10_handAt (v0 : Nat) (v1 : Int32) (h : AH) : Option (Except Nat Nat × AH) := ck (v0 ≠ 0) <| p_X10_handAt_0 v0 v1 h
theorem c_X10_handAt (l : Launch) (hfl : l.stackTraces = false) (G : GG) (v0 : Nat) (v1 : Int32) (h : AH) (r : Except Nat Nat) (h' : AH) (hp : p_X10_handAt v0 v1 h = some (r, h')) : Cxt l yX10_handAt (.code yX10_handAt cX10_handAt 3 (some (.object "CursorKeep$Hand")) :: MW) G 6 110 [.ref (v0 - 1), .int v1] h (fun x => some (zr x)) r h' := by
  obtain ⟨hz0, hp⟩ := ck_i hp
  refine Cxt.of (by decide +kernel) (Nat.le_of_ble_eq_true rfl) ?_
  intro p e s m args below meth c C htb hR ls hl
  have hl : zl ls 3 [(0, zr v0), (1, .int v1)] := ⟨by rw [zr_p hz0]; exact hl, by simp [zr_cat, in_cat]⟩
  exact s_X10_handAt_0 hfl htb C hR (fun _ hq => nomatch hq) hl hp
/-! CursorKeep.textAt(I)LCursorKeep$Text; -/
def p_X10_textAt_19  (s0 : Nat) (h : AH) : Option (Except Nat Nat × AH) :=
  if s0 = 0 then
    ck (aZ h + 1 ≤ aC h ∧ aU h + 6 ≤ gS) <|
    some (.error 1, uN h 0 6)
  else
    some (.ok s0, h)
set_option maxHeartbeats 4000000 in
set_option maxRecDepth 100000 in
theorem s_X10_textAt_19 {p : Program} {l : Launch} {e : Env} {s : State} {m : MethodId} {args : Array Value} {below : List Frame} {meth : Method} {c : Code} {G : GG} {hs : AH} {r : Except Nat Nat} {h' : AH} (hfl : l.stackTraces = false) (htb : ∀ x ∈ c.exceptionTable.toList, False) (C : Cx G hs p s m args meth c cX10_textAt 3 RX10 (.code yX10_textAt cX10_textAt 3 (some (.object "CursorKeep$Text")) :: MW) (some (.object "CursorKeep$Text")) "textAt")   {s0 : Nat} {h : AH} {H : Heap} {locs : List Loc} {cells slots : Nat} {ls : Array Slot} (hR : Rp G h H) (hL : ∀ q ∈ locs, gB G ≤ q.base) (hl : zl ls 3 []) (hp : p_X10_textAt_19  s0 h = some (r, h')) : W p l e (gR G hs 6 110) s m args below meth c H locs cells slots (vx_MQ below (Qxx G (fun x => some (zr x)) r h') (Xxx G r h') args s (gC G - aZ hs) (gS - aU hs) (fun q => gB G ≤ q)) (F0 m 19 ls [zr s0]) := by
  obtain ⟨hx, hb, hml, hown, hts, hT, hK, rs, hlk, hret, hnm⟩ := id C
  have hm : ∀ w ∈ MW, w.before args s = true := fun w hw => hts w (hT w hw)
  unfold p_X10_textAt_19 at hp
  refine z_astore_n (lv' := [(2, zr s0)]) hx hb dX10_textAt_19 rfl hl (by decide) rfl (fun ls hl => ?_)
  refine z_aload_n hx hb dX10_textAt_20 rfl (zl_at hl 0 rfl) ?_
  refine z_ifnonnull (tgt := 35) hx hb dX10_textAt_21 (by decide) (fun c1 => ?_) (fun c1 => ?_)
  · replace hp := ite_n hp c1
    refine z_aload_n hx hb dX10_textAt_35 rfl (zl_at hl 0 rfl) ?_
    cases hp
    exact r_aretX (by first | exact Or.inl ⟨_, rfl⟩ | exact Or.inr ⟨_, rfl⟩) C hR hL dX10_textAt_36
  · replace hp := ite_p hp c1
    obtain ⟨k2, hp⟩ := ck_i hp
    cases hp
    exact r_throw (e0 := 1) (names := ["java/lang/RuntimeException", "java/lang/Exception"]) (text := "no such text") C hfl htb hR hL (by decide +kernel) (by decide +kernel) mw_314 mw_13 (hK.2.2.2.2.2.2.2.2.2.2.2.1 (270, "no such text") (by decide +kernel)) at_1 go_1 (zl_size hl) dX10_textAt_24 dX10_textAt_27 (Or.inr ⟨dX10_textAt_28, rfl⟩) dX10_textAt_31 dX10_textAt_34 (by decide) (by simp [zr_cat, in_cat]) (by decide +kernel) k2
def p_X10_textAt_18   (h : AH) : Option (Except Nat Nat × AH) :=
  p_X10_textAt_19  0 h
set_option maxHeartbeats 4000000 in
set_option maxRecDepth 100000 in
theorem s_X10_textAt_18 {p : Program} {l : Launch} {e : Env} {s : State} {m : MethodId} {args : Array Value} {below : List Frame} {meth : Method} {c : Code} {G : GG} {hs : AH} {r : Except Nat Nat} {h' : AH} (hfl : l.stackTraces = false) (htb : ∀ x ∈ c.exceptionTable.toList, False) (C : Cx G hs p s m args meth c cX10_textAt 3 RX10 (.code yX10_textAt cX10_textAt 3 (some (.object "CursorKeep$Text")) :: MW) (some (.object "CursorKeep$Text")) "textAt")    {h : AH} {H : Heap} {locs : List Loc} {cells slots : Nat} {ls : Array Slot} (hR : Rp G h H) (hL : ∀ q ∈ locs, gB G ≤ q.base) (hl : zl ls 3 []) (hp : p_X10_textAt_18   h = some (r, h')) : W p l e (gR G hs 6 110) s m args below meth c H locs cells slots (vx_MQ below (Qxx G (fun x => some (zr x)) r h') (Xxx G r h') args s (gC G - aZ hs) (gS - aU hs) (fun q => gB G ≤ q)) (F0 m 18 ls []) := by
  obtain ⟨hx, hb, hml, hown, hts, hT, hK, rs, hlk, hret, hnm⟩ := id C
  have hm : ∀ w ∈ MW, w.before args s = true := fun w hw => hts w (hT w hw)
  unfold p_X10_textAt_18 at hp
  refine z_null hx hb dX10_textAt_18 ?_
  exact s_X10_textAt_19 hfl htb C  hR hL (zl_sub hl [] rfl) hp
def p_X10_textAt_0  (v0 : Nat) (v1 : Int32) (h : AH) : Option (Except Nat Nat × AH) :=
  if v1 < 0 then
    p_X10_textAt_18   h
  else
    if (iI 3) ≤ v1 then
      p_X10_textAt_18   h
    else
      ck (aK h v0 = 12) <|
      ck (aK h (aR h v0 0) = 24 ∧ ix v1 (aN h (aR h v0 0))) <|
      p_X10_textAt_19  (aR h (aR h v0 0) v1.toNatClampNeg) h
set_option maxHeartbeats 4000000 in
set_option maxRecDepth 100000 in
theorem s_X10_textAt_0 {p : Program} {l : Launch} {e : Env} {s : State} {m : MethodId} {args : Array Value} {below : List Frame} {meth : Method} {c : Code} {G : GG} {hs : AH} {r : Except Nat Nat} {h' : AH} (hfl : l.stackTraces = false) (htb : ∀ x ∈ c.exceptionTable.toList, False) (C : Cx G hs p s m args meth c cX10_textAt 3 RX10 (.code yX10_textAt cX10_textAt 3 (some (.object "CursorKeep$Text")) :: MW) (some (.object "CursorKeep$Text")) "textAt")   {v0 : Nat} {v1 : Int32} {h : AH} {H : Heap} {locs : List Loc} {cells slots : Nat} {ls : Array Slot} (hR : Rp G h H) (hL : ∀ q ∈ locs, gB G ≤ q.base) (hl : zl ls 3 [(0, zr v0), (1, .int v1)]) (hp : p_X10_textAt_0  v0 v1 h = some (r, h')) : W p l e (gR G hs 6 110) s m args below meth c H locs cells slots (vx_MQ below (Qxx G (fun x => some (zr x)) r h') (Xxx G r h') args s (gC G - aZ hs) (gS - aU hs) (fun q => gB G ≤ q)) (F0 m 0 ls []) := by
  obtain ⟨hx, hb, hml, hown, hts, hT, hK, rs, hlk, hret, hnm⟩ := id C
  have hm : ∀ w ∈ MW, w.before args s = true := fun w hw => hts w (hT w hw)
  unfold p_X10_textAt_0 at hp
  refine lv_iload_n hx hb dX10_textAt_0 rfl (zl_at hl 1 rfl) ?_
  refine lv_if_lt (tgt := 18) hx hb dX10_textAt_1 (by decide) (fun c1 => ?_) (fun c1 => ?_)
  · replace hp := ite_p hp c1
    exact s_X10_textAt_18 hfl htb C  hR hL (zl_sub hl [] rfl) hp
  · replace hp := ite_n hp c1
    refine lv_iload_n hx hb dX10_textAt_4 rfl (zl_at hl 1 rfl) ?_
    refine lv_iconst (v := iI 3) hx hb dX10_textAt_5 rfl ?_
    refine lv_icmp_ge (tgt := 18) hx hb dX10_textAt_6 (by decide) (fun c2 => ?_) (fun c2 => ?_)
    · replace hp := ite_p hp c2
      exact s_X10_textAt_18 hfl htb C  hR hL (zl_sub hl [] rfl) hp
    · replace hp := ite_n hp c2
      refine z_aload_n hx hb dX10_textAt_9 rfl (zl_at hl 0 rfl) ?_
      obtain ⟨k3, hp⟩ := ck_i hp
      refine r_get (ci := 11) (C := RX10) (T := TX10) (N := 7) (v := zr (aR h v0 0)) hx hb hm ii_X10 hown hK hR rfl k3 0 (by decide) (hm _ mw_183) (fun _ h9 => h9) rfl dX10_textAt_10 ?_
      refine lv_iload_n hx hb dX10_textAt_13 rfl (zl_at hl 1 rfl) ?_
      obtain ⟨k4, hp⟩ := ck_i hp
      refine r_aald (t := 4) (by decide) rfl (fun _ _ _ => rfl) hx hb hK hR k4.1 k4.2 dX10_textAt_14 ?_
      refine lv_goto (tgt := 19) hx hb dX10_textAt_15 (by decide) ?_
      exact s_X10_textAt_19 hfl htb C  hR hL (zl_sub hl [] rfl) hp
def p_X10_textAt (v0 : Nat) (v1 : Int32) (h : AH) : Option (Except Nat Nat × AH) := ck (v0 ≠ 0) <| p_X10_textAt_0 v0 v1 h
theorem c_X10_textAt (l : Launch) (hfl : l.stackTraces = false) (G : GG) (v0 : Nat) (v1 : Int32) (h : AH) (r : Except Nat Nat) (h' : AH) (hp : p_X10_textAt v0 v1 h = some (r, h')) : Cxt l yX10_textAt (.code yX10_textAt cX10_textAt 3 (some (.object "CursorKeep$Text")) :: MW) G 6 110 [.ref (v0 - 1), .int v1] h (fun x => some (zr x)) r h' := by
  obtain ⟨hz0, hp⟩ := ck_i hp
  refine Cxt.of (by decide +kernel) (Nat.le_of_ble_eq_true rfl) ?_
  intro p e s m args below meth c C htb hR ls hl
  have hl : zl ls 3 [(0, zr v0), (1, .int v1)] := ⟨by rw [zr_p hz0]; exact hl, by simp [zr_cat, in_cat]⟩
  exact s_X10_textAt_0 hfl htb C hR (fun _ hq => nomatch hq) hl hp
/-! CursorKeep.canBeTyped(C)Z -/
def p_X10_canBeTyped_53  (s0 : Int32) (h : AH) : Option (Int32 × AH) :=
  ck (okZ s0) <|
  some (s0, h)
set_option maxHeartbeats 4000000 in
set_option maxRecDepth 100000 in
theorem s_X10_canBeTyped_53 {p : Program} {l : Launch} {e : Env} {s : State} {m : MethodId} {args : Array Value} {below : List Frame} {meth : Method} {c : Code} {G : GG} {hs : AH} {r : Int32} {h' : AH} (C : Cx G hs p s m args meth c cX10_canBeTyped 1 RX10 (.code yX10_canBeTyped cX10_canBeTyped 1 (some .boolean) :: MW) (some .boolean) "canBeTyped")   {s0 : Int32} {h : AH} {H : Heap} {locs : List Loc} {cells slots : Nat} {ls : Array Slot} (hR : Rp G h H) (hL : ∀ q ∈ locs, gB G ≤ q.base) (hl : zl ls 1 []) (hp : p_X10_canBeTyped_53  s0 h = some (r, h')) : W p l e (gR G hs 1 40) s m args below meth c H locs cells slots (MQ below (Qcc G (some (.int r)) h') args s (gC G - aZ hs) (gS - aU hs) (fun q => gB G ≤ q)) (F0 m 53 ls [.int s0]) := by
  obtain ⟨hx, hb, hml, hown, hts, hT, hK, rs, hlk, hret, hnm⟩ := id C
  have hm : ∀ w ∈ MW, w.before args s = true := fun w hw => hts w (hT w hw)
  unfold p_X10_canBeTyped_53 at hp
  obtain ⟨k1, hp⟩ := ck_i hp
  cases hp
  exact r_zret C hR hL (okZ_n k1) dX10_canBeTyped_53
def p_X10_canBeTyped_48   (h : AH) : Option (Int32 × AH) :=
  p_X10_canBeTyped_53  (iI 1) h
set_option maxHeartbeats 4000000 in
set_option maxRecDepth 100000 in
theorem s_X10_canBeTyped_48 {p : Program} {l : Launch} {e : Env} {s : State} {m : MethodId} {args : Array Value} {below : List Frame} {meth : Method} {c : Code} {G : GG} {hs : AH} {r : Int32} {h' : AH} (C : Cx G hs p s m args meth c cX10_canBeTyped 1 RX10 (.code yX10_canBeTyped cX10_canBeTyped 1 (some .boolean) :: MW) (some .boolean) "canBeTyped")    {h : AH} {H : Heap} {locs : List Loc} {cells slots : Nat} {ls : Array Slot} (hR : Rp G h H) (hL : ∀ q ∈ locs, gB G ≤ q.base) (hl : zl ls 1 []) (hp : p_X10_canBeTyped_48   h = some (r, h')) : W p l e (gR G hs 1 40) s m args below meth c H locs cells slots (MQ below (Qcc G (some (.int r)) h') args s (gC G - aZ hs) (gS - aU hs) (fun q => gB G ≤ q)) (F0 m 48 ls []) := by
  obtain ⟨hx, hb, hml, hown, hts, hT, hK, rs, hlk, hret, hnm⟩ := id C
  have hm : ∀ w ∈ MW, w.before args s = true := fun w hw => hts w (hT w hw)
  unfold p_X10_canBeTyped_48 at hp
  refine lv_iconst (v := iI 1) hx hb dX10_canBeTyped_48 rfl ?_
  refine lv_goto (tgt := 53) hx hb dX10_canBeTyped_49 (by decide) ?_
  exact s_X10_canBeTyped_53 C  hR hL (zl_sub hl [] rfl) hp
def p_X10_canBeTyped_36  (v0 : Int32) (h : AH) : Option (Int32 × AH) :=
  if v0 = (iI 32) then
    p_X10_canBeTyped_48   h
  else
    if v0 = (iI 47) then
      p_X10_canBeTyped_48   h
    else
      p_X10_canBeTyped_53  (iI 0) h
set_option maxHeartbeats 4000000 in
set_option maxRecDepth 100000 in
theorem s_X10_canBeTyped_36 {p : Program} {l : Launch} {e : Env} {s : State} {m : MethodId} {args : Array Value} {below : List Frame} {meth : Method} {c : Code} {G : GG} {hs : AH} {r : Int32} {h' : AH} (C : Cx G hs p s m args meth c cX10_canBeTyped 1 RX10 (.code yX10_canBeTyped cX10_canBeTyped 1 (some .boolean) :: MW) (some .boolean) "canBeTyped")   {v0 : Int32} {h : AH} {H : Heap} {locs : List Loc} {cells slots : Nat} {ls : Array Slot} (hR : Rp G h H) (hL : ∀ q ∈ locs, gB G ≤ q.base) (hl : zl ls 1 [(0, .int v0)]) (hp : p_X10_canBeTyped_36  v0 h = some (r, h')) : W p l e (gR G hs 1 40) s m args below meth c H locs cells slots (MQ below (Qcc G (some (.int r)) h') args s (gC G - aZ hs) (gS - aU hs) (fun q => gB G ≤ q)) (F0 m 36 ls []) := by
  obtain ⟨hx, hb, hml, hown, hts, hT, hK, rs, hlk, hret, hnm⟩ := id C
  have hm : ∀ w ∈ MW, w.before args s = true := fun w hw => hts w (hT w hw)
  unfold p_X10_canBeTyped_36 at hp
  refine lv_iload_n hx hb dX10_canBeTyped_36 rfl (zl_at hl 0 rfl) ?_
  refine lv_bipush (v := iI 32) hx hb dX10_canBeTyped_37 (by decide +kernel) ?_
  refine lv_icmp_eq (tgt := 48) hx hb dX10_canBeTyped_39 (by decide) (fun c1 => ?_) (fun c1 => ?_)
  · replace hp := ite_p hp c1
    exact s_X10_canBeTyped_48 C  hR hL (zl_sub hl [] rfl) hp
  · replace hp := ite_n hp c1
    refine lv_iload_n hx hb dX10_canBeTyped_42 rfl (zl_at hl 0 rfl) ?_
    refine lv_bipush (v := iI 47) hx hb dX10_canBeTyped_43 (by decide +kernel) ?_
    refine lv_icmp_ne (tgt := 52) hx hb dX10_canBeTyped_45 (by decide) (fun c2 => ?_) (fun c2 => ?_)
    · replace hp := ite_n hp c2
      refine lv_iconst (v := iI 0) hx hb dX10_canBeTyped_52 rfl ?_
      exact s_X10_canBeTyped_53 C  hR hL (zl_sub hl [] rfl) hp
    · replace hp := ite_p hp c2
      exact s_X10_canBeTyped_48 C  hR hL (zl_sub hl [] rfl) hp
def p_X10_canBeTyped_24  (v0 : Int32) (h : AH) : Option (Int32 × AH) :=
  if v0 < (iI 48) then
    p_X10_canBeTyped_36  v0 h
  else
    if v0 ≤ (iI 57) then
      p_X10_canBeTyped_48   h
    else
      p_X10_canBeTyped_36  v0 h
set_option maxHeartbeats 4000000 in
set_option maxRecDepth 100000 in
theorem s_X10_canBeTyped_24 {p : Program} {l : Launch} {e : Env} {s : State} {m : MethodId} {args : Array Value} {below : List Frame} {meth : Method} {c : Code} {G : GG} {hs : AH} {r : Int32} {h' : AH} (C : Cx G hs p s m args meth c cX10_canBeTyped 1 RX10 (.code yX10_canBeTyped cX10_canBeTyped 1 (some .boolean) :: MW) (some .boolean) "canBeTyped")   {v0 : Int32} {h : AH} {H : Heap} {locs : List Loc} {cells slots : Nat} {ls : Array Slot} (hR : Rp G h H) (hL : ∀ q ∈ locs, gB G ≤ q.base) (hl : zl ls 1 [(0, .int v0)]) (hp : p_X10_canBeTyped_24  v0 h = some (r, h')) : W p l e (gR G hs 1 40) s m args below meth c H locs cells slots (MQ below (Qcc G (some (.int r)) h') args s (gC G - aZ hs) (gS - aU hs) (fun q => gB G ≤ q)) (F0 m 24 ls []) := by
  obtain ⟨hx, hb, hml, hown, hts, hT, hK, rs, hlk, hret, hnm⟩ := id C
  have hm : ∀ w ∈ MW, w.before args s = true := fun w hw => hts w (hT w hw)
  unfold p_X10_canBeTyped_24 at hp
  refine lv_iload_n hx hb dX10_canBeTyped_24 rfl (zl_at hl 0 rfl) ?_
  refine lv_bipush (v := iI 48) hx hb dX10_canBeTyped_25 (by decide +kernel) ?_
  refine lv_icmp_lt (tgt := 36) hx hb dX10_canBeTyped_27 (by decide) (fun c1 => ?_) (fun c1 => ?_)
  · replace hp := ite_p hp c1
    exact s_X10_canBeTyped_36 C  hR hL (zl_sub hl [0] rfl) hp
  · replace hp := ite_n hp c1
    refine lv_iload_n hx hb dX10_canBeTyped_30 rfl (zl_at hl 0 rfl) ?_
    refine lv_bipush (v := iI 57) hx hb dX10_canBeTyped_31 (by decide +kernel) ?_
    refine lv_icmp_le (tgt := 48) hx hb dX10_canBeTyped_33 (by decide) (fun c2 => ?_) (fun c2 => ?_)
    · replace hp := ite_p hp c2
      exact s_X10_canBeTyped_48 C  hR hL (zl_sub hl [] rfl) hp
    · replace hp := ite_n hp c2
      exact s_X10_canBeTyped_36 C  hR hL (zl_sub hl [0] rfl) hp
def p_X10_canBeTyped_12  (v0 : Int32) (h : AH) : Option (Int32 × AH) :=
  if v0 < (iI 65) then
    p_X10_canBeTyped_24  v0 h
  else
    if v0 ≤ (iI 90) then
      p_X10_canBeTyped_48   h
    else
      p_X10_canBeTyped_24  v0 h
set_option maxHeartbeats 4000000 in
set_option maxRecDepth 100000 in
theorem s_X10_canBeTyped_12 {p : Program} {l : Launch} {e : Env} {s : State} {m : MethodId} {args : Array Value} {below : List Frame} {meth : Method} {c : Code} {G : GG} {hs : AH} {r : Int32} {h' : AH} (C : Cx G hs p s m args meth c cX10_canBeTyped 1 RX10 (.code yX10_canBeTyped cX10_canBeTyped 1 (some .boolean) :: MW) (some .boolean) "canBeTyped")   {v0 : Int32} {h : AH} {H : Heap} {locs : List Loc} {cells slots : Nat} {ls : Array Slot} (hR : Rp G h H) (hL : ∀ q ∈ locs, gB G ≤ q.base) (hl : zl ls 1 [(0, .int v0)]) (hp : p_X10_canBeTyped_12  v0 h = some (r, h')) : W p l e (gR G hs 1 40) s m args below meth c H locs cells slots (MQ below (Qcc G (some (.int r)) h') args s (gC G - aZ hs) (gS - aU hs) (fun q => gB G ≤ q)) (F0 m 12 ls []) := by
  obtain ⟨hx, hb, hml, hown, hts, hT, hK, rs, hlk, hret, hnm⟩ := id C
  have hm : ∀ w ∈ MW, w.before args s = true := fun w hw => hts w (hT w hw)
  unfold p_X10_canBeTyped_12 at hp
  refine lv_iload_n hx hb dX10_canBeTyped_12 rfl (zl_at hl 0 rfl) ?_
  refine lv_bipush (v := iI 65) hx hb dX10_canBeTyped_13 (by decide +kernel) ?_
  refine lv_icmp_lt (tgt := 24) hx hb dX10_canBeTyped_15 (by decide) (fun c1 => ?_) (fun c1 => ?_)
  · replace hp := ite_p hp c1
    exact s_X10_canBeTyped_24 C  hR hL (zl_sub hl [0] rfl) hp
  · replace hp := ite_n hp c1
    refine lv_iload_n hx hb dX10_canBeTyped_18 rfl (zl_at hl 0 rfl) ?_
    refine lv_bipush (v := iI 90) hx hb dX10_canBeTyped_19 (by decide +kernel) ?_
    refine lv_icmp_le (tgt := 48) hx hb dX10_canBeTyped_21 (by decide) (fun c2 => ?_) (fun c2 => ?_)
    · replace hp := ite_p hp c2
      exact s_X10_canBeTyped_48 C  hR hL (zl_sub hl [] rfl) hp
    · replace hp := ite_n hp c2
      exact s_X10_canBeTyped_24 C  hR hL (zl_sub hl [0] rfl) hp
def p_X10_canBeTyped_0  (v0 : Int32) (h : AH) : Option (Int32 × AH) :=
  if v0 < (iI 97) then
    p_X10_canBeTyped_12  v0 h
  else
    if v0 ≤ (iI 122) then
      p_X10_canBeTyped_48   h
    else
      p_X10_canBeTyped_12  v0 h
set_option maxHeartbeats 4000000 in
set_option maxRecDepth 100000 in
theorem s_X10_canBeTyped_0 {p : Program} {l : Launch} {e : Env} {s : State} {m : MethodId} {args : Array Value} {below : List Frame} {meth : Method} {c : Code} {G : GG} {hs : AH} {r : Int32} {h' : AH} (C : Cx G hs p s m args meth c cX10_canBeTyped 1 RX10 (.code yX10_canBeTyped cX10_canBeTyped 1 (some .boolean) :: MW) (some .boolean) "canBeTyped")   {v0 : Int32} {h : AH} {H : Heap} {locs : List Loc} {cells slots : Nat} {ls : Array Slot} (hR : Rp G h H) (hL : ∀ q ∈ locs, gB G ≤ q.base) (hl : zl ls 1 [(0, .int v0)]) (hp : p_X10_canBeTyped_0  v0 h = some (r, h')) : W p l e (gR G hs 1 40) s m args below meth c H locs cells slots (MQ below (Qcc G (some (.int r)) h') args s (gC G - aZ hs) (gS - aU hs) (fun q => gB G ≤ q)) (F0 m 0 ls []) := by
  obtain ⟨hx, hb, hml, hown, hts, hT, hK, rs, hlk, hret, hnm⟩ := id C
  have hm : ∀ w ∈ MW, w.before args s = true := fun w hw => hts w (hT w hw)
  unfold p_X10_canBeTyped_0 at hp
  refine lv_iload_n hx hb dX10_canBeTyped_0 rfl (zl_at hl 0 rfl) ?_
  refine lv_bipush (v := iI 97) hx hb dX10_canBeTyped_1 (by decide +kernel) ?_
  refine lv_icmp_lt (tgt := 12) hx hb dX10_canBeTyped_3 (by decide) (fun c1 => ?_) (fun c1 => ?_)
  · replace hp := ite_p hp c1
    exact s_X10_canBeTyped_12 C  hR hL (zl_sub hl [0] rfl) hp
  · replace hp := ite_n hp c1
    refine lv_iload_n hx hb dX10_canBeTyped_6 rfl (zl_at hl 0 rfl) ?_
    refine lv_bipush (v := iI 122) hx hb dX10_canBeTyped_7 (by decide +kernel) ?_
    refine lv_icmp_le (tgt := 48) hx hb dX10_canBeTyped_9 (by decide) (fun c2 => ?_) (fun c2 => ?_)
    · replace hp := ite_p hp c2
      exact s_X10_canBeTyped_48 C  hR hL (zl_sub hl [] rfl) hp
    · replace hp := ite_n hp c2
      exact s_X10_canBeTyped_12 C  hR hL (zl_sub hl [0] rfl) hp
def p_X10_canBeTyped (v0 : Int32) (h : AH) : Option (Int32 × AH) := p_X10_canBeTyped_0 v0 h
theorem c_X10_canBeTyped (l : Launch) (G : GG) (v0 : Int32) (h : AH) (r : Int32) (h' : AH) (hp : p_X10_canBeTyped v0 h = some (r, h')) : Ct l yX10_canBeTyped (.code yX10_canBeTyped cX10_canBeTyped 1 (some .boolean) :: MW) G 1 40 [.int v0] h (some (.int r)) h' := by
  refine Ct.of (by decide +kernel) (Nat.le_of_ble_eq_true rfl) ?_
  intro p e s m args below meth c C hR ls hl
  have hl : zl ls 1 [(0, .int v0)] := ⟨hl, by simp [zr_cat, in_cat]⟩
  exact s_X10_canBeTyped_0 C hR (fun _ hq => nomatch hq) hl hp
/-! CursorKeep.type(IIC)I -/
def p_X10_type_0  (v0 : Nat) (v1 : Int32) (v2 : Int32) (v3 : Int32) (h : AH) : Option (Except Nat Int32 × AH) :=
  ck (aK h v0 = 12) <|
  bX (0) (p_X10_handAt v0 v1 h) fun r2 h3 =>
  ck (aK h3 v0 = 12) <|
  bX (0) (p_X10_textAt v0 v2 h3) fun r6 h7 =>
  bR (p_X10_canBeTyped v3 h7) fun r9 h10 =>
  if r9 = 0 then
    ck (aZ h10 + 1 ≤ aC h10 ∧ aU h10 + 6 ≤ gS) <|
    some (.error 2, uN h10 0 6)
  else
    ck (aK h10 r6 = 11) <|
    ck (aK h10 (aR h10 r6 1) = 9) <|
    bR (p_X7_isFull (aR h10 r6 1) h10) fun r14 h15 =>
    if r14 = 0 then
      ck (aZ h15 + 1 ≤ aC h15 ∧ aU h15 + 3 ≤ gS) <|
      nm (uN h15 2 3) fun h18 =>
      ck (aK h18 r6 = 11) <|
      bR (p_X9_putAheadOfCursor r6 v1 v3 h18) fun r20 h21 =>
      ck (aK h21 (aZ h15) ≠ 0) <|
      bR (p_X0_init (aZ h15) r6 r20 (iI 1) h21) fun r23 h24 =>
      ck (aK h24 r2 = 6) <|
      bR (p_X4_remember r2 (aZ h15) h24) fun r26 h27 =>
      ck (aK h27 r6 = 11) <|
      bR (p_X9_cursorPlace r6 v1 h27) fun r29 h30 =>
      some (.ok r29, h30)
    else
      ck (aZ h15 + 1 ≤ aC h15 ∧ aU h15 + 6 ≤ gS) <|
      some (.error 3, uN h15 0 6)
set_option maxHeartbeats 4000000 in
set_option maxRecDepth 100000 in
theorem s_X10_type_0 {p : Program} {l : Launch} {e : Env} {s : State} {m : MethodId} {args : Array Value} {below : List Frame} {meth : Method} {c : Code} {G : GG} {hs : AH} {r : Except Nat Int32} {h' : AH} (hfl : l.stackTraces = false) (htb : ∀ x ∈ c.exceptionTable.toList, False) (C : Cx G hs p s m args meth c cX10_type 6 RX10 (.code yX10_type cX10_type 6 (some .int) :: MW) (some .int) "type")   {v0 : Nat} {v1 : Int32} {v2 : Int32} {v3 : Int32} {h : AH} {H : Heap} {locs : List Loc} {cells slots : Nat} {ls : Array Slot} (hR : Rp G h H) (hL : ∀ q ∈ locs, gB G ≤ q.base) (hl : zl ls 6 [(0, zr v0), (1, .int v1), (2, .int v2), (3, .int v3)]) (hp : p_X10_type_0  v0 v1 v2 v3 h = some (r, h')) : W p l e (gR G hs 9 216) s m args below meth c H locs cells slots (vx_MQ below (Qxx G (fun x => some (.int x)) r h') (Xxx G r h') args s (gC G - aZ hs) (gS - aU hs) (fun q => gB G ≤ q)) (F0 m 0 ls []) := by
  obtain ⟨hx, hb, hml, hown, hts, hT, hK, rs, hlk, hret, hnm⟩ := id C
  have hm : ∀ w ∈ MW, w.before args s = true := fun w hw => hts w (hT w hw)
  unfold p_X10_type_0 at hp
  refine z_aload_n hx hb dX10_type_0 rfl (zl_at hl 0 rfl) ?_
  refine lv_iload_n hx hb dX10_type_1 rfl (zl_at hl 1 rfl) ?_
  obtain ⟨k1, hp⟩ := ck_i hp
  rcases bX_i hp with ⟨r2, h3, er2, hp⟩ | ⟨e4, er2, hre⟩
  · refine r_runVX (ci := 11) (r := (RX10, TX10, 7)) (n := 1) (As := [.int v1]) (rest := []) C (c_X10_handAt l hfl G v0 v1 h (.ok r2) h3 er2) hR rfl k1 mw_310 mw_312 mp_2 mw_1 mw_313 (by decide +kernel) (by decide) rfl (zl_size hl) rfl (by simp [zr_cat, in_cat]) dX10_type_2 (fun cells slots hr => ?_)
    refine r_okRun hR hL hr (fun H locs cells slots hR hL => ?_)
    refine W.eq (g2 := F0 m 5 ls [zr r2]) rfl ?_
    refine z_astore (lv' := [(4, zr r2), (0, zr v0), (1, .int v1), (2, .int v2), (3, .int v3)]) hx hb dX10_type_5 hl (by decide) rfl (fun ls hl => ?_)
    refine z_aload_n hx hb dX10_type_7 rfl (zl_at hl 1 rfl) ?_
    refine lv_iload_n hx hb dX10_type_8 rfl (zl_at hl 3 rfl) ?_
    obtain ⟨k5, hp⟩ := ck_i hp
    rcases bX_i hp with ⟨r6, h7, er6, hp⟩ | ⟨e8, er6, hre⟩
    · refine r_runVX (ci := 11) (r := (RX10, TX10, 7)) (n := 1) (As := [.int v2]) (rest := []) C (c_X10_textAt l hfl G v0 v2 h3 (.ok r6) h7 er6) hR rfl k5 mw_382 mw_384 mp_4 mw_1 mw_385 (by decide +kernel) (by decide) rfl (zl_size hl) rfl (by simp [zr_cat, in_cat]) dX10_type_9 (fun cells slots hr => ?_)
      refine r_okRun hR hL hr (fun H locs cells slots hR hL => ?_)
      refine W.eq (g2 := F0 m 12 ls [zr r6]) rfl ?_
      refine z_astore (lv' := [(5, zr r6), (4, zr r2), (0, zr v0), (1, .int v1), (2, .int v2), (3, .int v3)]) hx hb dX10_type_12 hl (by decide) rfl (fun ls hl => ?_)
      refine lv_iload_n hx hb dX10_type_14 rfl (zl_at hl 5 rfl) ?_
      obtain ⟨r9, h10, er9, hp⟩ := bR_i hp
      refine r_callS (n := 1) (As := [.int v3]) (rest := []) C (c_X10_canBeTyped l G v3 h7 r9 h10 er9) hR hL mw_387 mw_388 mw_1 mw_389 (by decide +kernel) (by decide) rfl (zl_size hl) rfl (by simp [zr_cat, in_cat]) dX10_type_15 (st2 := [.int r9]) rfl (fun H locs cells slots hR hL => ?_)
      refine lv_if_ne (tgt := 31) hx hb dX10_type_18 (by decide) (fun c11 => ?_) (fun c11 => ?_)
      · replace hp := ite_n hp c11
        refine z_aload hx hb dX10_type_31 (zl_at hl 0 rfl) ?_
        obtain ⟨k12, hp⟩ := ck_i hp
        refine r_get (ci := 10) (C := RX9) (T := TX9) (N := 10) (v := zr (aR h10 r6 1)) hx hb hm ii_X9 hown hK hR rfl k12 1 (by decide) (hm _ mw_132) (fun _ h9 => h9) rfl dX10_type_33 ?_
        obtain ⟨k13, hp⟩ := ck_i hp
        obtain ⟨r14, h15, er14, hp⟩ := bR_i hp
        refine r_callV (ci := 8) (r := (RX7, TX7, 4)) (n := 0) (As := []) (rest := []) C (c_X7_isFull l G (aR h10 r6 1) h10 r14 h15 er14) hR hL rfl k13 mw_406 mw_407 mw_408 mw_8 mw_409 (by decide +kernel) (by decide) rfl (zl_size hl) rfl (by simp [zr_cat, in_cat]) dX10_type_36 (st2 := [.int r14]) rfl (fun H locs cells slots hR hL => ?_)
        refine lv_if_eq (tgt := 52) hx hb dX10_type_39 (by decide) (fun c16 => ?_) (fun c16 => ?_)
        · replace hp := ite_p hp c16
          refine z_aload hx hb dX10_type_52 (zl_at hl 1 rfl) ?_
          obtain ⟨k17, hp⟩ := ck_i hp
          refine r_new (ci := 1) (C := RX0) (T := TX0) (N := 3) (ty0 := tyX0) C hR hL rfl ii_X0 tyX0_ok (fun _ => rfl) (by decide +kernel) mw_426 mw_427 mw_16 k17 dX10_type_54 (fun H cells slots hR => ?_)
          obtain ⟨h18, hp, hR⟩ := nm_h hp hR
          refine lv_dup hx hb dX10_type_57 (zr_cat _) ?_
          refine z_aload hx hb dX10_type_58 (zl_at hl 0 rfl) ?_
          refine z_aload hx hb dX10_type_60 (zl_at hl 0 rfl) ?_
          refine lv_iload_n hx hb dX10_type_62 rfl (zl_at hl 3 rfl) ?_
          refine lv_iload_n hx hb dX10_type_63 rfl (zl_at hl 5 rfl) ?_
          obtain ⟨k19, hp⟩ := ck_i hp
          obtain ⟨r20, h21, er20, hp⟩ := bR_i hp
          refine r_callV (ci := 10) (r := (RX9, TX9, 10)) (n := 2) (As := [.int v1, .int v3]) (rest := [zr r6, zr (aZ h15), zr (aZ h15), zr r2]) C (c_X9_putAheadOfCursor l G r6 v1 v3 h18 r20 h21 er20) hR hL rfl k19 mw_428 mw_429 mw_430 mw_7 mw_431 (by decide +kernel) (by decide) rfl (zl_size hl) rfl (by simp [zr_cat, in_cat]) dX10_type_64 (st2 := [.int r20, zr r6, zr (aZ h15), zr (aZ h15), zr r2]) rfl (fun H locs cells slots hR hL => ?_)
          refine lv_iconst (v := iI 1) hx hb dX10_type_67 rfl ?_
          obtain ⟨k22, hp⟩ := ck_i hp
          obtain ⟨r23, h24, er23, hp⟩ := bR_i hp
          refine r_callI (n := 3) (As := [zr r6, .int r20, .int (iI 1)]) (rest := [zr (aZ h15), zr r2]) C (c_X0_init l G (aZ h15) r6 r20 (iI 1) h21 r23 h24 er23) hR hL k22 mw_545 mw_546 mw_16 mw_547 rfl (by decide +kernel) (by decide) rfl (zl_size hl) rfl (by simp [zr_cat, in_cat]) dX10_type_68 (st2 := [zr (aZ h15), zr r2]) rfl (fun H locs cells slots hR hL => ?_)
          obtain ⟨k25, hp⟩ := ck_i hp
          obtain ⟨r26, h27, er26, hp⟩ := bR_i hp
          refine r_callV (ci := 5) (r := (RX4, TX4, 2)) (n := 1) (As := [zr (aZ h15)]) (rest := []) C (c_X4_remember l G r2 (aZ h15) h24 r26 h27 er26) hR hL rfl k25 mw_562 mw_563 mw_564 mw_9 mw_565 (by decide +kernel) (by decide) rfl (zl_size hl) rfl (by simp [zr_cat, in_cat]) dX10_type_71 (st2 := []) rfl (fun H locs cells slots hR hL => ?_)
          refine z_aload hx hb dX10_type_74 (zl_at hl 0 rfl) ?_
          refine lv_iload_n hx hb dX10_type_76 rfl (zl_at hl 3 rfl) ?_
          obtain ⟨k28, hp⟩ := ck_i hp
          obtain ⟨r29, h30, er29, hp⟩ := bR_i hp
          refine r_callV (ci := 10) (r := (RX9, TX9, 10)) (n := 1) (As := [.int v1]) (rest := []) C (c_X9_cursorPlace l G r6 v1 h27 r29 h30 er29) hR hL rfl k28 mw_572 mw_573 mw_574 mw_7 mw_575 (by decide +kernel) (by decide) rfl (zl_size hl) rfl (by simp [zr_cat, in_cat]) dX10_type_77 (st2 := [.int r29]) rfl (fun H locs cells slots hR hL => ?_)
          cases hp
          exact r_zretX C hR hL rfl dX10_type_80
        · replace hp := ite_n hp c16
          obtain ⟨k31, hp⟩ := ck_i hp
          cases hp
          exact r_throw (e0 := 3) (names := ["java/lang/RuntimeException", "java/lang/Exception"]) (text := "the text has had all its letters") C hfl htb hR hL (by decide +kernel) (by decide +kernel) mw_410 mw_15 (hK.2.2.2.2.2.2.2.2.2.2.2.1 (80, "the text has had all its letters") (by decide +kernel)) at_3 go_3 (zl_size hl) dX10_type_42 dX10_type_45 (Or.inl ⟨dX10_type_46, rfl⟩) dX10_type_48 dX10_type_51 (by decide) (by simp [zr_cat, in_cat]) (by decide +kernel) k31
      · replace hp := ite_p hp c11
        obtain ⟨k32, hp⟩ := ck_i hp
        cases hp
        exact r_throw (e0 := 2) (names := ["java/lang/RuntimeException", "java/lang/Exception"]) (text := "no such letter") C hfl htb hR hL (by decide +kernel) (by decide +kernel) mw_390 mw_14 (hK.2.2.2.2.2.2.2.2.2.2.2.1 (63, "no such letter") (by decide +kernel)) at_2 go_2 (zl_size hl) dX10_type_21 dX10_type_24 (Or.inl ⟨dX10_type_25, rfl⟩) dX10_type_27 dX10_type_30 (by decide) (by simp [zr_cat, in_cat]) (by decide +kernel) k32
    · subst hre
      refine r_runVX (ci := 11) (r := (RX10, TX10, 7)) (n := 1) (As := [.int v2]) (rest := []) C (c_X10_textAt l hfl G v0 v2 h3 (.error e8) h' er6) hR rfl k5 mw_382 mw_384 mp_4 mw_1 mw_385 (by decide +kernel) (by decide) rfl (zl_size hl) rfl (by simp [zr_cat, in_cat]) dX10_type_9 (fun cells slots hr => ?_)
      refine r_exRun hR hL hr (fun q9 ce H locs cells slots hR hL hce hcv hcl => ?_)
      exact r_out C htb hR hL hce hcv hcl
  · subst hre
    refine r_runVX (ci := 11) (r := (RX10, TX10, 7)) (n := 1) (As := [.int v1]) (rest := []) C (c_X10_handAt l hfl G v0 v1 h (.error e4) h' er2) hR rfl k1 mw_310 mw_312 mp_2 mw_1 mw_313 (by decide +kernel) (by decide) rfl (zl_size hl) rfl (by simp [zr_cat, in_cat]) dX10_type_2 (fun cells slots hr => ?_)
    refine r_exRun hR hL hr (fun q9 ce H locs cells slots hR hL hce hcv hcl => ?_)
    exact r_out C htb hR hL hce hcv hcl
def p_X10_type (v0 : Nat) (v1 : Int32) (v2 : Int32) (v3 : Int32) (h : AH) : Option (Except Nat Int32 × AH) := ck (v0 ≠ 0) <| p_X10_type_0 v0 v1 v2 v3 h
theorem c_X10_type (l : Launch) (hfl : l.stackTraces = false) (G : GG) (v0 : Nat) (v1 : Int32) (v2 : Int32) (v3 : Int32) (h : AH) (r : Except Nat Int32) (h' : AH) (hp : p_X10_type v0 v1 v2 v3 h = some (r, h')) : Cxt l yX10_type (.code yX10_type cX10_type 6 (some .int) :: MW) G 9 216 [.ref (v0 - 1), .int v1, .int v2, .int v3] h (fun x => some (.int x)) r h' := by
  obtain ⟨hz0, hp⟩ := ck_i hp
  refine Cxt.of (by decide +kernel) (Nat.le_of_ble_eq_true rfl) ?_
  intro p e s m args below meth c C htb hR ls hl
  have hl : zl ls 6 [(0, zr v0), (1, .int v1), (2, .int v2), (3, .int v3)] := ⟨by rw [zr_p hz0]; exact hl, by simp [zr_cat, in_cat]⟩
  exact s_X10_type_0 hfl htb C hR (fun _ hq => nomatch hq) hl hp
/-! CursorKeep.erase(II)I -/
def p_X10_erase_0  (v0 : Nat) (v1 : Int32) (v2 : Int32) (h : AH) : Option (Except Nat Int32 × AH) :=
  ck (aK h v0 = 12) <|
  bX (0) (p_X10_handAt v0 v1 h) fun r2 h3 =>
  ck (aK h3 v0 = 12) <|
  bX (0) (p_X10_textAt v0 v2 h3) fun r6 h7 =>
  ck (aK h7 r6 = 11) <|
  bR (p_X9_letterAheadOfCursor r6 v1 h7) fun r10 h11 =>
  if r10 = (iI (-1)) then
    ck (aZ h11 + 1 ≤ aC h11 ∧ aU h11 + 6 ≤ gS) <|
    some (.error 3, uN h11 0 6)
  else
    ck (aK h11 r6 = 11) <|
    bR (p_X9_turn r6 r10 (iI 0) h11) fun r14 h15 =>
    ck (aZ h15 + 1 ≤ aC h15 ∧ aU h15 + 3 ≤ gS) <|
    nm (uN h15 2 3) fun h17 =>
    ck (aK h17 (aZ h15) ≠ 0) <|
    bR (p_X0_init (aZ h15) r6 r10 (iI 0) h17) fun r19 h20 =>
    ck (aK h20 r2 = 6) <|
    bR (p_X4_remember r2 (aZ h15) h20) fun r22 h23 =>
    ck (aK h23 r6 = 11) <|
    bR (p_X9_cursorPlace r6 v1 h23) fun r25 h26 =>
    some (.ok r25, h26)
set_option maxHeartbeats 4000000 in
set_option maxRecDepth 100000 in
theorem s_X10_erase_0 {p : Program} {l : Launch} {e : Env} {s : State} {m : MethodId} {args : Array Value} {below : List Frame} {meth : Method} {c : Code} {G : GG} {hs : AH} {r : Except Nat Int32} {h' : AH} (hfl : l.stackTraces = false) (htb : ∀ x ∈ c.exceptionTable.toList, False) (C : Cx G hs p s m args meth c cX10_erase 6 RX10 (.code yX10_erase cX10_erase 6 (some .int) :: MW) (some .int) "erase")   {v0 : Nat} {v1 : Int32} {v2 : Int32} {h : AH} {H : Heap} {locs : List Loc} {cells slots : Nat} {ls : Array Slot} (hR : Rp G h H) (hL : ∀ q ∈ locs, gB G ≤ q.base) (hl : zl ls 6 [(0, zr v0), (1, .int v1), (2, .int v2)]) (hp : p_X10_erase_0  v0 v1 v2 h = some (r, h')) : W p l e (gR G hs 10 238) s m args below meth c H locs cells slots (vx_MQ below (Qxx G (fun x => some (.int x)) r h') (Xxx G r h') args s (gC G - aZ hs) (gS - aU hs) (fun q => gB G ≤ q)) (F0 m 0 ls []) := by
  obtain ⟨hx, hb, hml, hown, hts, hT, hK, rs, hlk, hret, hnm⟩ := id C
  have hm : ∀ w ∈ MW, w.before args s = true := fun w hw => hts w (hT w hw)
  unfold p_X10_erase_0 at hp
  refine z_aload_n hx hb dX10_erase_0 rfl (zl_at hl 0 rfl) ?_
  refine lv_iload_n hx hb dX10_erase_1 rfl (zl_at hl 1 rfl) ?_
  obtain ⟨k1, hp⟩ := ck_i hp
  rcases bX_i hp with ⟨r2, h3, er2, hp⟩ | ⟨e4, er2, hre⟩
  · refine r_runVX (ci := 11) (r := (RX10, TX10, 7)) (n := 1) (As := [.int v1]) (rest := []) C (c_X10_handAt l hfl G v0 v1 h (.ok r2) h3 er2) hR rfl k1 mw_310 mw_312 mp_2 mw_1 mw_313 (by decide +kernel) (by decide) rfl (zl_size hl) rfl (by simp [zr_cat, in_cat]) dX10_erase_2 (fun cells slots hr => ?_)
    refine r_okRun hR hL hr (fun H locs cells slots hR hL => ?_)
    refine W.eq (g2 := F0 m 5 ls [zr r2]) rfl ?_
    refine z_astore_n (lv' := [(3, zr r2), (0, zr v0), (1, .int v1), (2, .int v2)]) hx hb dX10_erase_5 rfl hl (by decide) rfl (fun ls hl => ?_)
    refine z_aload_n hx hb dX10_erase_6 rfl (zl_at hl 1 rfl) ?_
    refine lv_iload_n hx hb dX10_erase_7 rfl (zl_at hl 3 rfl) ?_
    obtain ⟨k5, hp⟩ := ck_i hp
    rcases bX_i hp with ⟨r6, h7, er6, hp⟩ | ⟨e8, er6, hre⟩
    · refine r_runVX (ci := 11) (r := (RX10, TX10, 7)) (n := 1) (As := [.int v2]) (rest := []) C (c_X10_textAt l hfl G v0 v2 h3 (.ok r6) h7 er6) hR rfl k5 mw_382 mw_384 mp_4 mw_1 mw_385 (by decide +kernel) (by decide) rfl (zl_size hl) rfl (by simp [zr_cat, in_cat]) dX10_erase_8 (fun cells slots hr => ?_)
      refine r_okRun hR hL hr (fun H locs cells slots hR hL => ?_)
      refine W.eq (g2 := F0 m 11 ls [zr r6]) rfl ?_
      refine z_astore (lv' := [(4, zr r6), (3, zr r2), (0, zr v0), (1, .int v1), (2, .int v2)]) hx hb dX10_erase_11 hl (by decide) rfl (fun ls hl => ?_)
      refine z_aload hx hb dX10_erase_13 (zl_at hl 0 rfl) ?_
      refine lv_iload_n hx hb dX10_erase_15 rfl (zl_at hl 3 rfl) ?_
      obtain ⟨k9, hp⟩ := ck_i hp
      obtain ⟨r10, h11, er10, hp⟩ := bR_i hp
      refine r_callV (ci := 10) (r := (RX9, TX9, 10)) (n := 1) (As := [.int v1]) (rest := []) C (c_X9_letterAheadOfCursor l G r6 v1 h7 r10 h11 er10) hR hL rfl k9 mw_589 mw_590 mw_591 mw_7 mw_592 (by decide +kernel) (by decide) rfl (zl_size hl) rfl (by simp [zr_cat, in_cat]) dX10_erase_16 (st2 := [.int r10]) rfl (fun H locs cells slots hR hL => ?_)
      refine z_istore (lv' := [(5, .int r10), (4, zr r6), (3, zr r2), (0, zr v0), (1, .int v1), (2, .int v2)]) hx hb dX10_erase_19 hl (by decide) rfl (fun ls hl => ?_)
      refine lv_iload hx hb dX10_erase_21 (zl_at hl 0 rfl) ?_
      refine lv_iconst (v := iI (-1)) hx hb dX10_erase_23 rfl ?_
      refine lv_icmp_ne (tgt := 37) hx hb dX10_erase_24 (by decide) (fun c12 => ?_) (fun c12 => ?_)
      · replace hp := ite_n hp c12
        refine z_aload hx hb dX10_erase_37 (zl_at hl 1 rfl) ?_
        refine lv_iload hx hb dX10_erase_39 (zl_at hl 0 rfl) ?_
        refine lv_iconst (v := iI 0) hx hb dX10_erase_41 rfl ?_
        obtain ⟨k13, hp⟩ := ck_i hp
        obtain ⟨r14, h15, er14, hp⟩ := bR_i hp
        refine r_callV (ci := 10) (r := (RX9, TX9, 10)) (n := 2) (As := [.int r10, .int (iI 0)]) (rest := []) C (c_X9_turn l G r6 r10 (iI 0) h11 r14 h15 er14) hR hL rfl k13 mw_598 mw_599 mw_600 mw_7 mw_601 (by decide +kernel) (by decide) rfl (zl_size hl) rfl (by simp [zr_cat, in_cat]) dX10_erase_42 (st2 := []) rfl (fun H locs cells slots hR hL => ?_)
        refine z_aload_n hx hb dX10_erase_45 rfl (zl_at hl 2 rfl) ?_
        obtain ⟨k16, hp⟩ := ck_i hp
        refine r_new (ci := 1) (C := RX0) (T := TX0) (N := 3) (ty0 := tyX0) C hR hL rfl ii_X0 tyX0_ok (fun _ => rfl) (by decide +kernel) mw_426 mw_427 mw_16 k16 dX10_erase_46 (fun H cells slots hR => ?_)
        obtain ⟨h17, hp, hR⟩ := nm_h hp hR
        refine lv_dup hx hb dX10_erase_49 (zr_cat _) ?_
        refine z_aload hx hb dX10_erase_50 (zl_at hl 1 rfl) ?_
        refine lv_iload hx hb dX10_erase_52 (zl_at hl 0 rfl) ?_
        refine lv_iconst (v := iI 0) hx hb dX10_erase_54 rfl ?_
        obtain ⟨k18, hp⟩ := ck_i hp
        obtain ⟨r19, h20, er19, hp⟩ := bR_i hp
        refine r_callI (n := 3) (As := [zr r6, .int r10, .int (iI 0)]) (rest := [zr (aZ h15), zr r2]) C (c_X0_init l G (aZ h15) r6 r10 (iI 0) h17 r19 h20 er19) hR hL k18 mw_545 mw_546 mw_16 mw_547 rfl (by decide +kernel) (by decide) rfl (zl_size hl) rfl (by simp [zr_cat, in_cat]) dX10_erase_55 (st2 := [zr (aZ h15), zr r2]) rfl (fun H locs cells slots hR hL => ?_)
        obtain ⟨k21, hp⟩ := ck_i hp
        obtain ⟨r22, h23, er22, hp⟩ := bR_i hp
        refine r_callV (ci := 5) (r := (RX4, TX4, 2)) (n := 1) (As := [zr (aZ h15)]) (rest := []) C (c_X4_remember l G r2 (aZ h15) h20 r22 h23 er22) hR hL rfl k21 mw_562 mw_563 mw_564 mw_9 mw_565 (by decide +kernel) (by decide) rfl (zl_size hl) rfl (by simp [zr_cat, in_cat]) dX10_erase_58 (st2 := []) rfl (fun H locs cells slots hR hL => ?_)
        refine z_aload hx hb dX10_erase_61 (zl_at hl 1 rfl) ?_
        refine lv_iload_n hx hb dX10_erase_63 rfl (zl_at hl 4 rfl) ?_
        obtain ⟨k24, hp⟩ := ck_i hp
        obtain ⟨r25, h26, er25, hp⟩ := bR_i hp
        refine r_callV (ci := 10) (r := (RX9, TX9, 10)) (n := 1) (As := [.int v1]) (rest := []) C (c_X9_cursorPlace l G r6 v1 h23 r25 h26 er25) hR hL rfl k24 mw_572 mw_573 mw_574 mw_7 mw_575 (by decide +kernel) (by decide) rfl (zl_size hl) rfl (by simp [zr_cat, in_cat]) dX10_erase_64 (st2 := [.int r25]) rfl (fun H locs cells slots hR hL => ?_)
        cases hp
        exact r_zretX C hR hL rfl dX10_erase_67
      · replace hp := ite_p hp c12
        obtain ⟨k27, hp⟩ := ck_i hp
        cases hp
        exact r_throw (e0 := 3) (names := ["java/lang/RuntimeException", "java/lang/Exception"]) (text := "no letter ahead of the cursor") C hfl htb hR hL (by decide +kernel) (by decide +kernel) mw_410 mw_15 (hK.2.2.2.2.2.2.2.2.2.2.2.1 (103, "no letter ahead of the cursor") (by decide +kernel)) at_3 go_3 (zl_size hl) dX10_erase_27 dX10_erase_30 (Or.inl ⟨dX10_erase_31, rfl⟩) dX10_erase_33 dX10_erase_36 (by decide) (by simp [zr_cat, in_cat]) (by decide +kernel) k27
    · subst hre
      refine r_runVX (ci := 11) (r := (RX10, TX10, 7)) (n := 1) (As := [.int v2]) (rest := []) C (c_X10_textAt l hfl G v0 v2 h3 (.error e8) h' er6) hR rfl k5 mw_382 mw_384 mp_4 mw_1 mw_385 (by decide +kernel) (by decide) rfl (zl_size hl) rfl (by simp [zr_cat, in_cat]) dX10_erase_8 (fun cells slots hr => ?_)
      refine r_exRun hR hL hr (fun q9 ce H locs cells slots hR hL hce hcv hcl => ?_)
      exact r_out C htb hR hL hce hcv hcl
  · subst hre
    refine r_runVX (ci := 11) (r := (RX10, TX10, 7)) (n := 1) (As := [.int v1]) (rest := []) C (c_X10_handAt l hfl G v0 v1 h (.error e4) h' er2) hR rfl k1 mw_310 mw_312 mp_2 mw_1 mw_313 (by decide +kernel) (by decide) rfl (zl_size hl) rfl (by simp [zr_cat, in_cat]) dX10_erase_2 (fun cells slots hr => ?_)
    refine r_exRun hR hL hr (fun q9 ce H locs cells slots hR hL hce hcv hcl => ?_)
    exact r_out C htb hR hL hce hcv hcl
def p_X10_erase (v0 : Nat) (v1 : Int32) (v2 : Int32) (h : AH) : Option (Except Nat Int32 × AH) := ck (v0 ≠ 0) <| p_X10_erase_0 v0 v1 v2 h
theorem c_X10_erase (l : Launch) (hfl : l.stackTraces = false) (G : GG) (v0 : Nat) (v1 : Int32) (v2 : Int32) (h : AH) (r : Except Nat Int32) (h' : AH) (hp : p_X10_erase v0 v1 v2 h = some (r, h')) : Cxt l yX10_erase (.code yX10_erase cX10_erase 6 (some .int) :: MW) G 10 238 [.ref (v0 - 1), .int v1, .int v2] h (fun x => some (.int x)) r h' := by
  obtain ⟨hz0, hp⟩ := ck_i hp
  refine Cxt.of (by decide +kernel) (Nat.le_of_ble_eq_true rfl) ?_
  intro p e s m args below meth c C htb hR ls hl
  have hl : zl ls 6 [(0, zr v0), (1, .int v1), (2, .int v2)] := ⟨by rw [zr_p hz0]; exact hl, by simp [zr_cat, in_cat]⟩
  exact s_X10_erase_0 hfl htb C hR (fun _ hq => nomatch hq) hl hp
/-! CursorKeep.moveTo(III)I -/
def p_X10_moveTo_29   (h : AH) : Option (Except Nat Int32 × AH) :=
  ck (aZ h + 1 ≤ aC h ∧ aU h + 6 ≤ gS) <|
  some (.error 1, uN h 0 6)
set_option maxHeartbeats 4000000 in
set_option maxRecDepth 100000 in
theorem s_X10_moveTo_29 {p : Program} {l : Launch} {e : Env} {s : State} {m : MethodId} {args : Array Value} {below : List Frame} {meth : Method} {c : Code} {G : GG} {hs : AH} {r : Except Nat Int32} {h' : AH} (hfl : l.stackTraces = false) (htb : ∀ x ∈ c.exceptionTable.toList, False) (C : Cx G hs p s m args meth c cX10_moveTo 6 RX10 (.code yX10_moveTo cX10_moveTo 6 (some .int) :: MW) (some .int) "moveTo")    {h : AH} {H : Heap} {locs : List Loc} {cells slots : Nat} {ls : Array Slot} (hR : Rp G h H) (hL : ∀ q ∈ locs, gB G ≤ q.base) (hl : zl ls 6 []) (hp : p_X10_moveTo_29   h = some (r, h')) : W p l e (gR G hs 7 132) s m args below meth c H locs cells slots (vx_MQ below (Qxx G (fun x => some (.int x)) r h') (Xxx G r h') args s (gC G - aZ hs) (gS - aU hs) (fun q => gB G ≤ q)) (F0 m 29 ls []) := by
  obtain ⟨hx, hb, hml, hown, hts, hT, hK, rs, hlk, hret, hnm⟩ := id C
  have hm : ∀ w ∈ MW, w.before args s = true := fun w hw => hts w (hT w hw)
  unfold p_X10_moveTo_29 at hp
  obtain ⟨k1, hp⟩ := ck_i hp
  cases hp
  exact r_throw (e0 := 1) (names := ["java/lang/RuntimeException", "java/lang/Exception"]) (text := "no such place") C hfl htb hR hL (by decide +kernel) (by decide +kernel) mw_314 mw_13 (hK.2.2.2.2.2.2.2.2.2.2.2.1 (115, "no such place") (by decide +kernel)) at_1 go_1 (zl_size hl) dX10_moveTo_29 dX10_moveTo_32 (Or.inl ⟨dX10_moveTo_33, rfl⟩) dX10_moveTo_35 dX10_moveTo_38 (by decide) (by simp [zr_cat, in_cat]) (by decide +kernel) k1
def p_X10_moveTo_0  (v0 : Nat) (v1 : Int32) (v2 : Int32) (v3 : Int32) (h : AH) : Option (Except Nat Int32 × AH) :=
  ck (aK h v0 = 12) <|
  bX (0) (p_X10_handAt v0 v1 h) fun r2 h3 =>
  ck (aK h3 v0 = 12) <|
  bX (0) (p_X10_textAt v0 v2 h3) fun r6 h7 =>
  if v3 < 0 then
    p_X10_moveTo_29   h7
  else
    ck (aK h7 r6 = 11) <|
    ck (aK h7 (aR h7 r6 1) = 9) <|
    bR (p_X7_shownCount (aR h7 r6 1) h7) fun r12 h13 =>
    if v3 ≤ r12 then
      ck (aK h13 r6 = 11) <|
      bR (p_X9_cursorPlace r6 v1 h13) fun r16 h17 =>
      ck (aK h17 r6 = 11) <|
      ck (aK h17 (aR h17 r6 1) = 9) <|
      bR (p_X7_shownLetter (aR h17 r6 1) v3 h17) fun r20 h21 =>
      ck (aK h21 r6 = 11) <|
      bR (p_X9_setCursor r6 v1 r20 h21) fun r23 h24 =>
      some (.ok r16, h24)
    else
      p_X10_moveTo_29   h13
set_option maxHeartbeats 4000000 in
set_option maxRecDepth 100000 in
theorem s_X10_moveTo_0 {p : Program} {l : Launch} {e : Env} {s : State} {m : MethodId} {args : Array Value} {below : List Frame} {meth : Method} {c : Code} {G : GG} {hs : AH} {r : Except Nat Int32} {h' : AH} (hfl : l.stackTraces = false) (htb : ∀ x ∈ c.exceptionTable.toList, False) (C : Cx G hs p s m args meth c cX10_moveTo 6 RX10 (.code yX10_moveTo cX10_moveTo 6 (some .int) :: MW) (some .int) "moveTo")   {v0 : Nat} {v1 : Int32} {v2 : Int32} {v3 : Int32} {h : AH} {H : Heap} {locs : List Loc} {cells slots : Nat} {ls : Array Slot} (hR : Rp G h H) (hL : ∀ q ∈ locs, gB G ≤ q.base) (hl : zl ls 6 [(0, zr v0), (1, .int v1), (2, .int v2), (3, .int v3)]) (hp : p_X10_moveTo_0  v0 v1 v2 v3 h = some (r, h')) : W p l e (gR G hs 7 132) s m args below meth c H locs cells slots (vx_MQ below (Qxx G (fun x => some (.int x)) r h') (Xxx G r h') args s (gC G - aZ hs) (gS - aU hs) (fun q => gB G ≤ q)) (F0 m 0 ls []) := by
  obtain ⟨hx, hb, hml, hown, hts, hT, hK, rs, hlk, hret, hnm⟩ := id C
  have hm : ∀ w ∈ MW, w.before args s = true := fun w hw => hts w (hT w hw)
  unfold p_X10_moveTo_0 at hp
  refine z_aload_n hx hb dX10_moveTo_0 rfl (zl_at hl 0 rfl) ?_
  refine lv_iload_n hx hb dX10_moveTo_1 rfl (zl_at hl 1 rfl) ?_
  obtain ⟨k1, hp⟩ := ck_i hp
  rcases bX_i hp with ⟨r2, h3, er2, hp⟩ | ⟨e4, er2, hre⟩
  · refine r_runVX (ci := 11) (r := (RX10, TX10, 7)) (n := 1) (As := [.int v1]) (rest := []) C (c_X10_handAt l hfl G v0 v1 h (.ok r2) h3 er2) hR rfl k1 mw_310 mw_312 mp_2 mw_1 mw_313 (by decide +kernel) (by decide) rfl (zl_size hl) rfl (by simp [zr_cat, in_cat]) dX10_moveTo_2 (fun cells slots hr => ?_)
    refine r_okRun hR hL hr (fun H locs cells slots hR hL => ?_)
    refine W.eq (g2 := F0 m 5 ls [zr r2]) rfl ?_
    refine lv_pop hx hb dX10_moveTo_5 (zr_cat _) ?_
    refine z_aload_n hx hb dX10_moveTo_6 rfl (zl_at hl 0 rfl) ?_
    refine lv_iload_n hx hb dX10_moveTo_7 rfl (zl_at hl 2 rfl) ?_
    obtain ⟨k5, hp⟩ := ck_i hp
    rcases bX_i hp with ⟨r6, h7, er6, hp⟩ | ⟨e8, er6, hre⟩
    · refine r_runVX (ci := 11) (r := (RX10, TX10, 7)) (n := 1) (As := [.int v2]) (rest := []) C (c_X10_textAt l hfl G v0 v2 h3 (.ok r6) h7 er6) hR rfl k5 mw_382 mw_384 mp_4 mw_1 mw_385 (by decide +kernel) (by decide) rfl (zl_size hl) rfl (by simp [zr_cat, in_cat]) dX10_moveTo_8 (fun cells slots hr => ?_)
      refine r_okRun hR hL hr (fun H locs cells slots hR hL => ?_)
      refine W.eq (g2 := F0 m 11 ls [zr r6]) rfl ?_
      refine z_astore (lv' := [(4, zr r6), (0, zr v0), (1, .int v1), (2, .int v2), (3, .int v3)]) hx hb dX10_moveTo_11 hl (by decide) rfl (fun ls hl => ?_)
      refine lv_iload_n hx hb dX10_moveTo_13 rfl (zl_at hl 4 rfl) ?_
      refine lv_if_lt (tgt := 29) hx hb dX10_moveTo_14 (by decide) (fun c9 => ?_) (fun c9 => ?_)
      · replace hp := ite_p hp c9
        exact s_X10_moveTo_29 hfl htb C  hR hL (zl_sub hl [] rfl) hp
      · replace hp := ite_n hp c9
        refine lv_iload_n hx hb dX10_moveTo_17 rfl (zl_at hl 4 rfl) ?_
        refine z_aload hx hb dX10_moveTo_18 (zl_at hl 0 rfl) ?_
        obtain ⟨k10, hp⟩ := ck_i hp
        refine r_get (ci := 10) (C := RX9) (T := TX9) (N := 10) (v := zr (aR h7 r6 1)) hx hb hm ii_X9 hown hK hR rfl k10 1 (by decide) (hm _ mw_132) (fun _ h9 => h9) rfl dX10_moveTo_20 ?_
        obtain ⟨k11, hp⟩ := ck_i hp
        obtain ⟨r12, h13, er12, hp⟩ := bR_i hp
        refine r_callV (ci := 8) (r := (RX7, TX7, 4)) (n := 0) (As := []) (rest := [.int v3]) C (c_X7_shownCount l G (aR h7 r6 1) h7 r12 h13 er12) hR hL rfl k11 mw_617 mw_618 mw_619 mw_8 mw_620 (by decide +kernel) (by decide) rfl (zl_size hl) rfl (by simp [zr_cat, in_cat]) dX10_moveTo_23 (st2 := [.int r12, .int v3]) rfl (fun H locs cells slots hR hL => ?_)
        refine lv_icmp_le (tgt := 39) hx hb dX10_moveTo_26 (by decide) (fun c14 => ?_) (fun c14 => ?_)
        · replace hp := ite_p hp c14
          refine z_aload hx hb dX10_moveTo_39 (zl_at hl 0 rfl) ?_
          refine lv_iload_n hx hb dX10_moveTo_41 rfl (zl_at hl 2 rfl) ?_
          obtain ⟨k15, hp⟩ := ck_i hp
          obtain ⟨r16, h17, er16, hp⟩ := bR_i hp
          refine r_callV (ci := 10) (r := (RX9, TX9, 10)) (n := 1) (As := [.int v1]) (rest := []) C (c_X9_cursorPlace l G r6 v1 h13 r16 h17 er16) hR hL rfl k15 mw_572 mw_573 mw_574 mw_7 mw_575 (by decide +kernel) (by decide) rfl (zl_size hl) rfl (by simp [zr_cat, in_cat]) dX10_moveTo_42 (st2 := [.int r16]) rfl (fun H locs cells slots hR hL => ?_)
          refine z_istore (lv' := [(5, .int r16), (4, zr r6), (0, zr v0), (1, .int v1), (2, .int v2), (3, .int v3)]) hx hb dX10_moveTo_45 hl (by decide) rfl (fun ls hl => ?_)
          refine z_aload hx hb dX10_moveTo_47 (zl_at hl 1 rfl) ?_
          refine lv_iload_n hx hb dX10_moveTo_49 rfl (zl_at hl 3 rfl) ?_
          refine z_aload hx hb dX10_moveTo_50 (zl_at hl 1 rfl) ?_
          obtain ⟨k18, hp⟩ := ck_i hp
          refine r_get (ci := 10) (C := RX9) (T := TX9) (N := 10) (v := zr (aR h17 r6 1)) hx hb hm ii_X9 hown hK hR rfl k18 1 (by decide) (hm _ mw_132) (fun _ h9 => h9) rfl dX10_moveTo_52 ?_
          refine lv_iload_n hx hb dX10_moveTo_55 rfl (zl_at hl 5 rfl) ?_
          obtain ⟨k19, hp⟩ := ck_i hp
          obtain ⟨r20, h21, er20, hp⟩ := bR_i hp
          refine r_callV (ci := 8) (r := (RX7, TX7, 4)) (n := 1) (As := [.int v3]) (rest := [.int v1, zr r6]) C (c_X7_shownLetter l G (aR h17 r6 1) v3 h17 r20 h21 er20) hR hL rfl k19 mw_623 mw_624 mw_625 mw_8 mw_626 (by decide +kernel) (by decide) rfl (zl_size hl) rfl (by simp [zr_cat, in_cat]) dX10_moveTo_56 (st2 := [.int r20, .int v1, zr r6]) rfl (fun H locs cells slots hR hL => ?_)
          obtain ⟨k22, hp⟩ := ck_i hp
          obtain ⟨r23, h24, er23, hp⟩ := bR_i hp
          refine r_callV (ci := 10) (r := (RX9, TX9, 10)) (n := 2) (As := [.int v1, .int r20]) (rest := []) C (c_X9_setCursor l G r6 v1 r20 h21 r23 h24 er23) hR hL rfl k22 mw_627 mw_628 mw_629 mw_7 mw_630 (by decide +kernel) (by decide) rfl (zl_size hl) rfl (by simp [zr_cat, in_cat]) dX10_moveTo_59 (st2 := []) rfl (fun H locs cells slots hR hL => ?_)
          refine lv_iload hx hb dX10_moveTo_62 (zl_at hl 0 rfl) ?_
          cases hp
          exact r_zretX C hR hL rfl dX10_moveTo_64
        · replace hp := ite_n hp c14
          exact s_X10_moveTo_29 hfl htb C  hR hL (zl_sub hl [] rfl) hp
    · subst hre
      refine r_runVX (ci := 11) (r := (RX10, TX10, 7)) (n := 1) (As := [.int v2]) (rest := []) C (c_X10_textAt l hfl G v0 v2 h3 (.error e8) h' er6) hR rfl k5 mw_382 mw_384 mp_4 mw_1 mw_385 (by decide +kernel) (by decide) rfl (zl_size hl) rfl (by simp [zr_cat, in_cat]) dX10_moveTo_8 (fun cells slots hr => ?_)
      refine r_exRun hR hL hr (fun q9 ce H locs cells slots hR hL hce hcv hcl => ?_)
      exact r_out C htb hR hL hce hcv hcl
  · subst hre
    refine r_runVX (ci := 11) (r := (RX10, TX10, 7)) (n := 1) (As := [.int v1]) (rest := []) C (c_X10_handAt l hfl G v0 v1 h (.error e4) h' er2) hR rfl k1 mw_310 mw_312 mp_2 mw_1 mw_313 (by decide +kernel) (by decide) rfl (zl_size hl) rfl (by simp [zr_cat, in_cat]) dX10_moveTo_2 (fun cells slots hr => ?_)
    refine r_exRun hR hL hr (fun q9 ce H locs cells slots hR hL hce hcv hcl => ?_)
    exact r_out C htb hR hL hce hcv hcl
def p_X10_moveTo (v0 : Nat) (v1 : Int32) (v2 : Int32) (v3 : Int32) (h : AH) : Option (Except Nat Int32 × AH) := ck (v0 ≠ 0) <| p_X10_moveTo_0 v0 v1 v2 v3 h
theorem c_X10_moveTo (l : Launch) (hfl : l.stackTraces = false) (G : GG) (v0 : Nat) (v1 : Int32) (v2 : Int32) (v3 : Int32) (h : AH) (r : Except Nat Int32) (h' : AH) (hp : p_X10_moveTo v0 v1 v2 v3 h = some (r, h')) : Cxt l yX10_moveTo (.code yX10_moveTo cX10_moveTo 6 (some .int) :: MW) G 7 132 [.ref (v0 - 1), .int v1, .int v2, .int v3] h (fun x => some (.int x)) r h' := by
  obtain ⟨hz0, hp⟩ := ck_i hp
  refine Cxt.of (by decide +kernel) (Nat.le_of_ble_eq_true rfl) ?_
  intro p e s m args below meth c C htb hR ls hl
  have hl : zl ls 6 [(0, zr v0), (1, .int v1), (2, .int v2), (3, .int v3)] := ⟨by rw [zr_p hz0]; exact hl, by simp [zr_cat, in_cat]⟩
  exact s_X10_moveTo_0 hfl htb C hR (fun _ hq => nomatch hq) hl hp
/-! CursorKeep.undo(I)I -/
def p_X10_undo_43  (v2 : Nat) (s0 : Nat) (s1 : Int32) (s2 : Int32) (h : AH) : Option (Except Nat Int32 × AH) :=
  ck (aK h s0 = 11) <|
  bR (p_X9_turn s0 s1 s2 h) fun r2 h3 =>
  ck (aK h3 v2 = 2) <|
  ck (aK h3 (aR h3 v2 0) = 11) <|
  some (.ok (aI h3 (aR h3 v2 0) 0), h3)
set_option maxHeartbeats 4000000 in
set_option maxRecDepth 100000 in
theorem s_X10_undo_43 {p : Program} {l : Launch} {e : Env} {s : State} {m : MethodId} {args : Array Value} {below : List Frame} {meth : Method} {c : Code} {G : GG} {hs : AH} {r : Except Nat Int32} {h' : AH} (hfl : l.stackTraces = false) (htb : ∀ x ∈ c.exceptionTable.toList, False) (C : Cx G hs p s m args meth c cX10_undo 3 RX10 (.code yX10_undo cX10_undo 3 (some .int) :: MW) (some .int) "undo")   {v2 : Nat} {s0 : Nat} {s1 : Int32} {s2 : Int32} {h : AH} {H : Heap} {locs : List Loc} {cells slots : Nat} {ls : Array Slot} (hR : Rp G h H) (hL : ∀ q ∈ locs, gB G ≤ q.base) (hl : zl ls 3 [(2, zr v2)]) (hp : p_X10_undo_43  v2 s0 s1 s2 h = some (r, h')) : W p l e (gR G hs 10 238) s m args below meth c H locs cells slots (vx_MQ below (Qxx G (fun x => some (.int x)) r h') (Xxx G r h') args s (gC G - aZ hs) (gS - aU hs) (fun q => gB G ≤ q)) (F0 m 43 ls [.int s2, .int s1, zr s0]) := by
  obtain ⟨hx, hb, hml, hown, hts, hT, hK, rs, hlk, hret, hnm⟩ := id C
  have hm : ∀ w ∈ MW, w.before args s = true := fun w hw => hts w (hT w hw)
  unfold p_X10_undo_43 at hp
  obtain ⟨k1, hp⟩ := ck_i hp
  obtain ⟨r2, h3, er2, hp⟩ := bR_i hp
  refine r_callV (ci := 10) (r := (RX9, TX9, 10)) (n := 2) (As := [.int s1, .int s2]) (rest := []) C (c_X9_turn l G s0 s1 s2 h r2 h3 er2) hR hL rfl k1 mw_598 mw_599 mw_600 mw_7 mw_601 (by decide +kernel) (by decide) rfl (zl_size hl) rfl (by simp [zr_cat, in_cat]) dX10_undo_43 (st2 := []) rfl (fun H locs cells slots hR hL => ?_)
  refine z_aload_n hx hb dX10_undo_46 rfl (zl_at hl 0 rfl) ?_
  obtain ⟨k4, hp⟩ := ck_i hp
  refine r_get (ci := 1) (C := RX0) (T := TX0) (N := 3) (v := zr (aR h3 v2 0)) hx hb hm ii_X0 hown hK hR rfl k4 0 (by decide) (hm _ mw_550) (fun _ h9 => h9) rfl dX10_undo_47 ?_
  obtain ⟨k5, hp⟩ := ck_i hp
  refine r_get (ci := 10) (C := RX9) (T := TX9) (N := 10) (v := .int (aI h3 (aR h3 v2 0) 0)) hx hb hm ii_X9 hown hK hR rfl k5 0 (by decide) (hm _ mw_130) (fun _ h9 => h9) rfl dX10_undo_50 ?_
  cases hp
  exact r_zretX C hR hL rfl dX10_undo_53
def p_X10_undo_0  (v0 : Nat) (v1 : Int32) (h : AH) : Option (Except Nat Int32 × AH) :=
  ck (aK h v0 = 12) <|
  bX (0) (p_X10_handAt v0 v1 h) fun r2 h3 =>
  ck (aK h3 r2 = 6) <|
  bR (p_X4_stepBack r2 h3) fun r6 h7 =>
  if r6 = 0 then
    ck (aZ h7 + 1 ≤ aC h7 ∧ aU h7 + 6 ≤ gS) <|
    some (.error 3, uN h7 0 6)
  else
    ck (aK h7 r6 = 2) <|
    ck (aK h7 r6 = 2) <|
    ck (aK h7 r6 = 2) <|
    if (aI h7 r6 2) = 0 then
      p_X10_undo_43  r6 (aR h7 r6 0) (aI h7 r6 1) (iI 1) h7
    else
      p_X10_undo_43  r6 (aR h7 r6 0) (aI h7 r6 1) (iI 0) h7
set_option maxHeartbeats 4000000 in
set_option maxRecDepth 100000 in
theorem s_X10_undo_0 {p : Program} {l : Launch} {e : Env} {s : State} {m : MethodId} {args : Array Value} {below : List Frame} {meth : Method} {c : Code} {G : GG} {hs : AH} {r : Except Nat Int32} {h' : AH} (hfl : l.stackTraces = false) (htb : ∀ x ∈ c.exceptionTable.toList, False) (C : Cx G hs p s m args meth c cX10_undo 3 RX10 (.code yX10_undo cX10_undo 3 (some .int) :: MW) (some .int) "undo")   {v0 : Nat} {v1 : Int32} {h : AH} {H : Heap} {locs : List Loc} {cells slots : Nat} {ls : Array Slot} (hR : Rp G h H) (hL : ∀ q ∈ locs, gB G ≤ q.base) (hl : zl ls 3 [(0, zr v0), (1, .int v1)]) (hp : p_X10_undo_0  v0 v1 h = some (r, h')) : W p l e (gR G hs 10 238) s m args below meth c H locs cells slots (vx_MQ below (Qxx G (fun x => some (.int x)) r h') (Xxx G r h') args s (gC G - aZ hs) (gS - aU hs) (fun q => gB G ≤ q)) (F0 m 0 ls []) := by
  obtain ⟨hx, hb, hml, hown, hts, hT, hK, rs, hlk, hret, hnm⟩ := id C
  have hm : ∀ w ∈ MW, w.before args s = true := fun w hw => hts w (hT w hw)
  unfold p_X10_undo_0 at hp
  refine z_aload_n hx hb dX10_undo_0 rfl (zl_at hl 0 rfl) ?_
  refine lv_iload_n hx hb dX10_undo_1 rfl (zl_at hl 1 rfl) ?_
  obtain ⟨k1, hp⟩ := ck_i hp
  rcases bX_i hp with ⟨r2, h3, er2, hp⟩ | ⟨e4, er2, hre⟩
  · refine r_runVX (ci := 11) (r := (RX10, TX10, 7)) (n := 1) (As := [.int v1]) (rest := []) C (c_X10_handAt l hfl G v0 v1 h (.ok r2) h3 er2) hR rfl k1 mw_310 mw_312 mp_2 mw_1 mw_313 (by decide +kernel) (by decide) rfl (zl_size hl) rfl (by simp [zr_cat, in_cat]) dX10_undo_2 (fun cells slots hr => ?_)
    refine r_okRun hR hL hr (fun H locs cells slots hR hL => ?_)
    refine W.eq (g2 := F0 m 5 ls [zr r2]) rfl ?_
    obtain ⟨k5, hp⟩ := ck_i hp
    obtain ⟨r6, h7, er6, hp⟩ := bR_i hp
    refine r_callV (ci := 5) (r := (RX4, TX4, 2)) (n := 0) (As := []) (rest := []) C (c_X4_stepBack l G r2 h3 r6 h7 er6) hR hL rfl k5 mw_638 mw_639 mw_640 mw_9 mw_641 (by decide +kernel) (by decide) rfl (zl_size hl) rfl (by simp [zr_cat, in_cat]) dX10_undo_5 (st2 := [zr r6]) rfl (fun H locs cells slots hR hL => ?_)
    refine z_astore_n (lv' := [(2, zr r6), (0, zr v0), (1, .int v1)]) hx hb dX10_undo_8 rfl hl (by decide) rfl (fun ls hl => ?_)
    refine z_aload_n hx hb dX10_undo_9 rfl (zl_at hl 0 rfl) ?_
    refine z_ifnonnull (tgt := 23) hx hb dX10_undo_10 (by decide) (fun c8 => ?_) (fun c8 => ?_)
    · replace hp := ite_n hp c8
      refine z_aload_n hx hb dX10_undo_23 rfl (zl_at hl 0 rfl) ?_
      obtain ⟨k9, hp⟩ := ck_i hp
      refine r_get (ci := 1) (C := RX0) (T := TX0) (N := 3) (v := zr (aR h7 r6 0)) hx hb hm ii_X0 hown hK hR rfl k9 0 (by decide) (hm _ mw_550) (fun _ h9 => h9) rfl dX10_undo_24 ?_
      refine z_aload_n hx hb dX10_undo_27 rfl (zl_at hl 0 rfl) ?_
      obtain ⟨k10, hp⟩ := ck_i hp
      refine r_get (ci := 1) (C := RX0) (T := TX0) (N := 3) (v := .int (aI h7 r6 1)) hx hb hm ii_X0 hown hK hR rfl k10 1 (by decide) (hm _ mw_552) (fun _ h9 => h9) rfl dX10_undo_28 ?_
      refine z_aload_n hx hb dX10_undo_31 rfl (zl_at hl 0 rfl) ?_
      obtain ⟨k11, hp⟩ := ck_i hp
      refine r_get (ci := 1) (C := RX0) (T := TX0) (N := 3) (v := .int (aI h7 r6 2)) hx hb hm ii_X0 hown hK hR rfl k11 2 (by decide) (hm _ mw_554) (fun _ h9 => h9) rfl dX10_undo_32 ?_
      refine lv_if_ne (tgt := 42) hx hb dX10_undo_35 (by decide) (fun c12 => ?_) (fun c12 => ?_)
      · replace hp := ite_n hp c12
        refine lv_iconst (v := iI 0) hx hb dX10_undo_42 rfl ?_
        exact s_X10_undo_43 hfl htb C  hR hL (zl_sub hl [0] rfl) hp
      · replace hp := ite_p hp c12
        refine lv_iconst (v := iI 1) hx hb dX10_undo_38 rfl ?_
        refine lv_goto (tgt := 43) hx hb dX10_undo_39 (by decide) ?_
        exact s_X10_undo_43 hfl htb C  hR hL (zl_sub hl [0] rfl) hp
    · replace hp := ite_p hp c8
      obtain ⟨k13, hp⟩ := ck_i hp
      cases hp
      exact r_throw (e0 := 3) (names := ["java/lang/RuntimeException", "java/lang/Exception"]) (text := "nothing to undo") C hfl htb hR hL (by decide +kernel) (by decide +kernel) mw_410 mw_15 (hK.2.2.2.2.2.2.2.2.2.2.2.1 (129, "nothing to undo") (by decide +kernel)) at_3 go_3 (zl_size hl) dX10_undo_13 dX10_undo_16 (Or.inl ⟨dX10_undo_17, rfl⟩) dX10_undo_19 dX10_undo_22 (by decide) (by simp [zr_cat, in_cat]) (by decide +kernel) k13
  · subst hre
    refine r_runVX (ci := 11) (r := (RX10, TX10, 7)) (n := 1) (As := [.int v1]) (rest := []) C (c_X10_handAt l hfl G v0 v1 h (.error e4) h' er2) hR rfl k1 mw_310 mw_312 mp_2 mw_1 mw_313 (by decide +kernel) (by decide) rfl (zl_size hl) rfl (by simp [zr_cat, in_cat]) dX10_undo_2 (fun cells slots hr => ?_)
    refine r_exRun hR hL hr (fun q9 ce H locs cells slots hR hL hce hcv hcl => ?_)
    exact r_out C htb hR hL hce hcv hcl
def p_X10_undo (v0 : Nat) (v1 : Int32) (h : AH) : Option (Except Nat Int32 × AH) := ck (v0 ≠ 0) <| p_X10_undo_0 v0 v1 h
theorem c_X10_undo (l : Launch) (hfl : l.stackTraces = false) (G : GG) (v0 : Nat) (v1 : Int32) (h : AH) (r : Except Nat Int32) (h' : AH) (hp : p_X10_undo v0 v1 h = some (r, h')) : Cxt l yX10_undo (.code yX10_undo cX10_undo 3 (some .int) :: MW) G 10 238 [.ref (v0 - 1), .int v1] h (fun x => some (.int x)) r h' := by
  obtain ⟨hz0, hp⟩ := ck_i hp
  refine Cxt.of (by decide +kernel) (Nat.le_of_ble_eq_true rfl) ?_
  intro p e s m args below meth c C htb hR ls hl
  have hl : zl ls 3 [(0, zr v0), (1, .int v1)] := ⟨by rw [zr_p hz0]; exact hl, by simp [zr_cat, in_cat]⟩
  exact s_X10_undo_0 hfl htb C hR (fun _ hq => nomatch hq) hl hp
/-! CursorKeep.redo(I)I -/
def p_X10_redo_0  (v0 : Nat) (v1 : Int32) (h : AH) : Option (Except Nat Int32 × AH) :=
  ck (aK h v0 = 12) <|
  bX (0) (p_X10_handAt v0 v1 h) fun r2 h3 =>
  ck (aK h3 r2 = 6) <|
  bR (p_X4_stepForth r2 h3) fun r6 h7 =>
  if r6 = 0 then
    ck (aZ h7 + 1 ≤ aC h7 ∧ aU h7 + 6 ≤ gS) <|
    some (.error 3, uN h7 0 6)
  else
    ck (aK h7 r6 = 2) <|
    ck (aK h7 r6 = 2) <|
    ck (aK h7 r6 = 2) <|
    ck (aK h7 (aR h7 r6 0) = 11) <|
    bR (p_X9_turn (aR h7 r6 0) (aI h7 r6 1) (aI h7 r6 2) h7) fun r13 h14 =>
    ck (aK h14 r6 = 2) <|
    ck (aK h14 (aR h14 r6 0) = 11) <|
    some (.ok (aI h14 (aR h14 r6 0) 0), h14)
set_option maxHeartbeats 4000000 in
set_option maxRecDepth 100000 in
theorem s_X10_redo_0 {p : Program} {l : Launch} {e : Env} {s : State} {m : MethodId} {args : Array Value} {below : List Frame} {meth : Method} {c : Code} {G : GG} {hs : AH} {r : Except Nat Int32} {h' : AH} (hfl : l.stackTraces = false) (htb : ∀ x ∈ c.exceptionTable.toList, False) (C : Cx G hs p s m args meth c cX10_redo 3 RX10 (.code yX10_redo cX10_redo 3 (some .int) :: MW) (some .int) "redo")   {v0 : Nat} {v1 : Int32} {h : AH} {H : Heap} {locs : List Loc} {cells slots : Nat} {ls : Array Slot} (hR : Rp G h H) (hL : ∀ q ∈ locs, gB G ≤ q.base) (hl : zl ls 3 [(0, zr v0), (1, .int v1)]) (hp : p_X10_redo_0  v0 v1 h = some (r, h')) : W p l e (gR G hs 10 238) s m args below meth c H locs cells slots (vx_MQ below (Qxx G (fun x => some (.int x)) r h') (Xxx G r h') args s (gC G - aZ hs) (gS - aU hs) (fun q => gB G ≤ q)) (F0 m 0 ls []) := by
  obtain ⟨hx, hb, hml, hown, hts, hT, hK, rs, hlk, hret, hnm⟩ := id C
  have hm : ∀ w ∈ MW, w.before args s = true := fun w hw => hts w (hT w hw)
  unfold p_X10_redo_0 at hp
  refine z_aload_n hx hb dX10_redo_0 rfl (zl_at hl 0 rfl) ?_
  refine lv_iload_n hx hb dX10_redo_1 rfl (zl_at hl 1 rfl) ?_
  obtain ⟨k1, hp⟩ := ck_i hp
  rcases bX_i hp with ⟨r2, h3, er2, hp⟩ | ⟨e4, er2, hre⟩
  · refine r_runVX (ci := 11) (r := (RX10, TX10, 7)) (n := 1) (As := [.int v1]) (rest := []) C (c_X10_handAt l hfl G v0 v1 h (.ok r2) h3 er2) hR rfl k1 mw_310 mw_312 mp_2 mw_1 mw_313 (by decide +kernel) (by decide) rfl (zl_size hl) rfl (by simp [zr_cat, in_cat]) dX10_redo_2 (fun cells slots hr => ?_)
    refine r_okRun hR hL hr (fun H locs cells slots hR hL => ?_)
    refine W.eq (g2 := F0 m 5 ls [zr r2]) rfl ?_
    obtain ⟨k5, hp⟩ := ck_i hp
    obtain ⟨r6, h7, er6, hp⟩ := bR_i hp
    refine r_callV (ci := 5) (r := (RX4, TX4, 2)) (n := 0) (As := []) (rest := []) C (c_X4_stepForth l G r2 h3 r6 h7 er6) hR hL rfl k5 mw_653 mw_654 mw_655 mw_9 mw_656 (by decide +kernel) (by decide) rfl (zl_size hl) rfl (by simp [zr_cat, in_cat]) dX10_redo_5 (st2 := [zr r6]) rfl (fun H locs cells slots hR hL => ?_)
    refine z_astore_n (lv' := [(2, zr r6), (0, zr v0), (1, .int v1)]) hx hb dX10_redo_8 rfl hl (by decide) rfl (fun ls hl => ?_)
    refine z_aload_n hx hb dX10_redo_9 rfl (zl_at hl 0 rfl) ?_
    refine z_ifnonnull (tgt := 23) hx hb dX10_redo_10 (by decide) (fun c8 => ?_) (fun c8 => ?_)
    · replace hp := ite_n hp c8
      refine z_aload_n hx hb dX10_redo_23 rfl (zl_at hl 0 rfl) ?_
      obtain ⟨k9, hp⟩ := ck_i hp
      refine r_get (ci := 1) (C := RX0) (T := TX0) (N := 3) (v := zr (aR h7 r6 0)) hx hb hm ii_X0 hown hK hR rfl k9 0 (by decide) (hm _ mw_550) (fun _ h9 => h9) rfl dX10_redo_24 ?_
      refine z_aload_n hx hb dX10_redo_27 rfl (zl_at hl 0 rfl) ?_
      obtain ⟨k10, hp⟩ := ck_i hp
      refine r_get (ci := 1) (C := RX0) (T := TX0) (N := 3) (v := .int (aI h7 r6 1)) hx hb hm ii_X0 hown hK hR rfl k10 1 (by decide) (hm _ mw_552) (fun _ h9 => h9) rfl dX10_redo_28 ?_
      refine z_aload_n hx hb dX10_redo_31 rfl (zl_at hl 0 rfl) ?_
      obtain ⟨k11, hp⟩ := ck_i hp
      refine r_get (ci := 1) (C := RX0) (T := TX0) (N := 3) (v := .int (aI h7 r6 2)) hx hb hm ii_X0 hown hK hR rfl k11 2 (by decide) (hm _ mw_554) (fun _ h9 => h9) rfl dX10_redo_32 ?_
      obtain ⟨k12, hp⟩ := ck_i hp
      obtain ⟨r13, h14, er13, hp⟩ := bR_i hp
      refine r_callV (ci := 10) (r := (RX9, TX9, 10)) (n := 2) (As := [.int (aI h7 r6 1), .int (aI h7 r6 2)]) (rest := []) C (c_X9_turn l G (aR h7 r6 0) (aI h7 r6 1) (aI h7 r6 2) h7 r13 h14 er13) hR hL rfl k12 mw_598 mw_599 mw_600 mw_7 mw_601 (by decide +kernel) (by decide) rfl (zl_size hl) rfl (by simp [zr_cat, in_cat]) dX10_redo_35 (st2 := []) rfl (fun H locs cells slots hR hL => ?_)
      refine z_aload_n hx hb dX10_redo_38 rfl (zl_at hl 0 rfl) ?_
      obtain ⟨k15, hp⟩ := ck_i hp
      refine r_get (ci := 1) (C := RX0) (T := TX0) (N := 3) (v := zr (aR h14 r6 0)) hx hb hm ii_X0 hown hK hR rfl k15 0 (by decide) (hm _ mw_550) (fun _ h9 => h9) rfl dX10_redo_39 ?_
      obtain ⟨k16, hp⟩ := ck_i hp
      refine r_get (ci := 10) (C := RX9) (T := TX9) (N := 10) (v := .int (aI h14 (aR h14 r6 0) 0)) hx hb hm ii_X9 hown hK hR rfl k16 0 (by decide) (hm _ mw_130) (fun _ h9 => h9) rfl dX10_redo_42 ?_
      cases hp
      exact r_zretX C hR hL rfl dX10_redo_45
    · replace hp := ite_p hp c8
      obtain ⟨k17, hp⟩ := ck_i hp
      cases hp
      exact r_throw (e0 := 3) (names := ["java/lang/RuntimeException", "java/lang/Exception"]) (text := "nothing to redo") C hfl htb hR hL (by decide +kernel) (by decide +kernel) mw_410 mw_15 (hK.2.2.2.2.2.2.2.2.2.2.2.1 (149, "nothing to redo") (by decide +kernel)) at_3 go_3 (zl_size hl) dX10_redo_13 dX10_redo_16 (Or.inl ⟨dX10_redo_17, rfl⟩) dX10_redo_19 dX10_redo_22 (by decide) (by simp [zr_cat, in_cat]) (by decide +kernel) k17
  · subst hre
    refine r_runVX (ci := 11) (r := (RX10, TX10, 7)) (n := 1) (As := [.int v1]) (rest := []) C (c_X10_handAt l hfl G v0 v1 h (.error e4) h' er2) hR rfl k1 mw_310 mw_312 mp_2 mw_1 mw_313 (by decide +kernel) (by decide) rfl (zl_size hl) rfl (by simp [zr_cat, in_cat]) dX10_redo_2 (fun cells slots hr => ?_)
    refine r_exRun hR hL hr (fun q9 ce H locs cells slots hR hL hce hcv hcl => ?_)
    exact r_out C htb hR hL hce hcv hcl
def p_X10_redo (v0 : Nat) (v1 : Int32) (h : AH) : Option (Except Nat Int32 × AH) := ck (v0 ≠ 0) <| p_X10_redo_0 v0 v1 h
theorem c_X10_redo (l : Launch) (hfl : l.stackTraces = false) (G : GG) (v0 : Nat) (v1 : Int32) (h : AH) (r : Except Nat Int32) (h' : AH) (hp : p_X10_redo v0 v1 h = some (r, h')) : Cxt l yX10_redo (.code yX10_redo cX10_redo 3 (some .int) :: MW) G 10 238 [.ref (v0 - 1), .int v1] h (fun x => some (.int x)) r h' := by
  obtain ⟨hz0, hp⟩ := ck_i hp
  refine Cxt.of (by decide +kernel) (Nat.le_of_ble_eq_true rfl) ?_
  intro p e s m args below meth c C htb hR ls hl
  have hl : zl ls 3 [(0, zr v0), (1, .int v1)] := ⟨by rw [zr_p hz0]; exact hl, by simp [zr_cat, in_cat]⟩
  exact s_X10_redo_0 hfl htb C hR (fun _ hq => nomatch hq) hl hp
/-! CursorKeep.place(II)I -/
def p_X10_place_0  (v0 : Nat) (v1 : Int32) (v2 : Int32) (h : AH) : Option (Except Nat Int32 × AH) :=
  ck (aK h v0 = 12) <|
  bX (0) (p_X10_handAt v0 v1 h) fun r2 h3 =>
  ck (aK h3 v0 = 12) <|
  bX (0) (p_X10_textAt v0 v2 h3) fun r6 h7 =>
  ck (aK h7 r6 = 11) <|
  bR (p_X9_cursorPlace r6 v1 h7) fun r10 h11 =>
  some (.ok r10, h11)
set_option maxHeartbeats 4000000 in
set_option maxRecDepth 100000 in
theorem s_X10_place_0 {p : Program} {l : Launch} {e : Env} {s : State} {m : MethodId} {args : Array Value} {below : List Frame} {meth : Method} {c : Code} {G : GG} {hs : AH} {r : Except Nat Int32} {h' : AH} (hfl : l.stackTraces = false) (htb : ∀ x ∈ c.exceptionTable.toList, False) (C : Cx G hs p s m args meth c cX10_place 3 RX10 (.code yX10_place cX10_place 3 (some .int) :: MW) (some .int) "place")   {v0 : Nat} {v1 : Int32} {v2 : Int32} {h : AH} {H : Heap} {locs : List Loc} {cells slots : Nat} {ls : Array Slot} (hR : Rp G h H) (hL : ∀ q ∈ locs, gB G ≤ q.base) (hl : zl ls 3 [(0, zr v0), (1, .int v1), (2, .int v2)]) (hp : p_X10_place_0  v0 v1 v2 h = some (r, h')) : W p l e (gR G hs 7 132) s m args below meth c H locs cells slots (vx_MQ below (Qxx G (fun x => some (.int x)) r h') (Xxx G r h') args s (gC G - aZ hs) (gS - aU hs) (fun q => gB G ≤ q)) (F0 m 0 ls []) := by
  obtain ⟨hx, hb, hml, hown, hts, hT, hK, rs, hlk, hret, hnm⟩ := id C
  have hm : ∀ w ∈ MW, w.before args s = true := fun w hw => hts w (hT w hw)
  unfold p_X10_place_0 at hp
  refine z_aload_n hx hb dX10_place_0 rfl (zl_at hl 0 rfl) ?_
  refine lv_iload_n hx hb dX10_place_1 rfl (zl_at hl 1 rfl) ?_
  obtain ⟨k1, hp⟩ := ck_i hp
  rcases bX_i hp with ⟨r2, h3, er2, hp⟩ | ⟨e4, er2, hre⟩
  · refine r_runVX (ci := 11) (r := (RX10, TX10, 7)) (n := 1) (As := [.int v1]) (rest := []) C (c_X10_handAt l hfl G v0 v1 h (.ok r2) h3 er2) hR rfl k1 mw_310 mw_312 mp_2 mw_1 mw_313 (by decide +kernel) (by decide) rfl (zl_size hl) rfl (by simp [zr_cat, in_cat]) dX10_place_2 (fun cells slots hr => ?_)
    refine r_okRun hR hL hr (fun H locs cells slots hR hL => ?_)
    refine W.eq (g2 := F0 m 5 ls [zr r2]) rfl ?_
    refine lv_pop hx hb dX10_place_5 (zr_cat _) ?_
    refine z_aload_n hx hb dX10_place_6 rfl (zl_at hl 0 rfl) ?_
    refine lv_iload_n hx hb dX10_place_7 rfl (zl_at hl 2 rfl) ?_
    obtain ⟨k5, hp⟩ := ck_i hp
    rcases bX_i hp with ⟨r6, h7, er6, hp⟩ | ⟨e8, er6, hre⟩
    · refine r_runVX (ci := 11) (r := (RX10, TX10, 7)) (n := 1) (As := [.int v2]) (rest := []) C (c_X10_textAt l hfl G v0 v2 h3 (.ok r6) h7 er6) hR rfl k5 mw_382 mw_384 mp_4 mw_1 mw_385 (by decide +kernel) (by decide) rfl (zl_size hl) rfl (by simp [zr_cat, in_cat]) dX10_place_8 (fun cells slots hr => ?_)
      refine r_okRun hR hL hr (fun H locs cells slots hR hL => ?_)
      refine W.eq (g2 := F0 m 11 ls [zr r6]) rfl ?_
      refine lv_iload_n hx hb dX10_place_11 rfl (zl_at hl 1 rfl) ?_
      obtain ⟨k9, hp⟩ := ck_i hp
      obtain ⟨r10, h11, er10, hp⟩ := bR_i hp
      refine r_callV (ci := 10) (r := (RX9, TX9, 10)) (n := 1) (As := [.int v1]) (rest := []) C (c_X9_cursorPlace l G r6 v1 h7 r10 h11 er10) hR hL rfl k9 mw_572 mw_573 mw_574 mw_7 mw_575 (by decide +kernel) (by decide) rfl (zl_size hl) rfl (by simp [zr_cat, in_cat]) dX10_place_12 (st2 := [.int r10]) rfl (fun H locs cells slots hR hL => ?_)
      cases hp
      exact r_zretX C hR hL rfl dX10_place_15
    · subst hre
      refine r_runVX (ci := 11) (r := (RX10, TX10, 7)) (n := 1) (As := [.int v2]) (rest := []) C (c_X10_textAt l hfl G v0 v2 h3 (.error e8) h' er6) hR rfl k5 mw_382 mw_384 mp_4 mw_1 mw_385 (by decide +kernel) (by decide) rfl (zl_size hl) rfl (by simp [zr_cat, in_cat]) dX10_place_8 (fun cells slots hr => ?_)
      refine r_exRun hR hL hr (fun q9 ce H locs cells slots hR hL hce hcv hcl => ?_)
      exact r_out C htb hR hL hce hcv hcl
  · subst hre
    refine r_runVX (ci := 11) (r := (RX10, TX10, 7)) (n := 1) (As := [.int v1]) (rest := []) C (c_X10_handAt l hfl G v0 v1 h (.error e4) h' er2) hR rfl k1 mw_310 mw_312 mp_2 mw_1 mw_313 (by decide +kernel) (by decide) rfl (zl_size hl) rfl (by simp [zr_cat, in_cat]) dX10_place_2 (fun cells slots hr => ?_)
    refine r_exRun hR hL hr (fun q9 ce H locs cells slots hR hL hce hcv hcl => ?_)
    exact r_out C htb hR hL hce hcv hcl
def p_X10_place (v0 : Nat) (v1 : Int32) (v2 : Int32) (h : AH) : Option (Except Nat Int32 × AH) := ck (v0 ≠ 0) <| p_X10_place_0 v0 v1 v2 h
theorem c_X10_place (l : Launch) (hfl : l.stackTraces = false) (G : GG) (v0 : Nat) (v1 : Int32) (v2 : Int32) (h : AH) (r : Except Nat Int32) (h' : AH) (hp : p_X10_place v0 v1 v2 h = some (r, h')) : Cxt l yX10_place (.code yX10_place cX10_place 3 (some .int) :: MW) G 7 132 [.ref (v0 - 1), .int v1, .int v2] h (fun x => some (.int x)) r h' := by
  obtain ⟨hz0, hp⟩ := ck_i hp
  refine Cxt.of (by decide +kernel) (Nat.le_of_ble_eq_true rfl) ?_
  intro p e s m args below meth c C htb hR ls hl
  have hl : zl ls 3 [(0, zr v0), (1, .int v1), (2, .int v2)] := ⟨by rw [zr_p hz0]; exact hl, by simp [zr_cat, in_cat]⟩
  exact s_X10_place_0 hfl htb C hR (fun _ hq => nomatch hq) hl hp
/-! CursorKeep.length(I)I -/
def p_X10_length_0  (v0 : Nat) (v1 : Int32) (h : AH) : Option (Except Nat Int32 × AH) :=
  ck (aK h v0 = 12) <|
  bX (0) (p_X10_textAt v0 v1 h) fun r2 h3 =>
  ck (aK h3 r2 = 11) <|
  ck (aK h3 (aR h3 r2 1) = 9) <|
  bR (p_X7_shownCount (aR h3 r2 1) h3) fun r7 h8 =>
  some (.ok r7, h8)
set_option maxHeartbeats 4000000 in
set_option maxRecDepth 100000 in
theorem s_X10_length_0 {p : Program} {l : Launch} {e : Env} {s : State} {m : MethodId} {args : Array Value} {below : List Frame} {meth : Method} {c : Code} {G : GG} {hs : AH} {r : Except Nat Int32} {h' : AH} (hfl : l.stackTraces = false) (htb : ∀ x ∈ c.exceptionTable.toList, False) (C : Cx G hs p s m args meth c cX10_length 2 RX10 (.code yX10_length cX10_length 2 (some .int) :: MW) (some .int) "length")   {v0 : Nat} {v1 : Int32} {h : AH} {H : Heap} {locs : List Loc} {cells slots : Nat} {ls : Array Slot} (hR : Rp G h H) (hL : ∀ q ∈ locs, gB G ≤ q.base) (hl : zl ls 2 [(0, zr v0), (1, .int v1)]) (hp : p_X10_length_0  v0 v1 h = some (r, h')) : W p l e (gR G hs 7 132) s m args below meth c H locs cells slots (vx_MQ below (Qxx G (fun x => some (.int x)) r h') (Xxx G r h') args s (gC G - aZ hs) (gS - aU hs) (fun q => gB G ≤ q)) (F0 m 0 ls []) := by
  obtain ⟨hx, hb, hml, hown, hts, hT, hK, rs, hlk, hret, hnm⟩ := id C
  have hm : ∀ w ∈ MW, w.before args s = true := fun w hw => hts w (hT w hw)
  unfold p_X10_length_0 at hp
  refine z_aload_n hx hb dX10_length_0 rfl (zl_at hl 0 rfl) ?_
  refine lv_iload_n hx hb dX10_length_1 rfl (zl_at hl 1 rfl) ?_
  obtain ⟨k1, hp⟩ := ck_i hp
  rcases bX_i hp with ⟨r2, h3, er2, hp⟩ | ⟨e4, er2, hre⟩
  · refine r_runVX (ci := 11) (r := (RX10, TX10, 7)) (n := 1) (As := [.int v1]) (rest := []) C (c_X10_textAt l hfl G v0 v1 h (.ok r2) h3 er2) hR rfl k1 mw_382 mw_384 mp_4 mw_1 mw_385 (by decide +kernel) (by decide) rfl (zl_size hl) rfl (by simp [zr_cat, in_cat]) dX10_length_2 (fun cells slots hr => ?_)
    refine r_okRun hR hL hr (fun H locs cells slots hR hL => ?_)
    refine W.eq (g2 := F0 m 5 ls [zr r2]) rfl ?_
    obtain ⟨k5, hp⟩ := ck_i hp
    refine r_get (ci := 10) (C := RX9) (T := TX9) (N := 10) (v := zr (aR h3 r2 1)) hx hb hm ii_X9 hown hK hR rfl k5 1 (by decide) (hm _ mw_132) (fun _ h9 => h9) rfl dX10_length_5 ?_
    obtain ⟨k6, hp⟩ := ck_i hp
    obtain ⟨r7, h8, er7, hp⟩ := bR_i hp
    refine r_callV (ci := 8) (r := (RX7, TX7, 4)) (n := 0) (As := []) (rest := []) C (c_X7_shownCount l G (aR h3 r2 1) h3 r7 h8 er7) hR hL rfl k6 mw_617 mw_618 mw_619 mw_8 mw_620 (by decide +kernel) (by decide) rfl (zl_size hl) rfl (by simp [zr_cat, in_cat]) dX10_length_8 (st2 := [.int r7]) rfl (fun H locs cells slots hR hL => ?_)
    cases hp
    exact r_zretX C hR hL rfl dX10_length_11
  · subst hre
    refine r_runVX (ci := 11) (r := (RX10, TX10, 7)) (n := 1) (As := [.int v1]) (rest := []) C (c_X10_textAt l hfl G v0 v1 h (.error e4) h' er2) hR rfl k1 mw_382 mw_384 mp_4 mw_1 mw_385 (by decide +kernel) (by decide) rfl (zl_size hl) rfl (by simp [zr_cat, in_cat]) dX10_length_2 (fun cells slots hr => ?_)
    refine r_exRun hR hL hr (fun q9 ce H locs cells slots hR hL hce hcv hcl => ?_)
    exact r_out C htb hR hL hce hcv hcl
def p_X10_length (v0 : Nat) (v1 : Int32) (h : AH) : Option (Except Nat Int32 × AH) := ck (v0 ≠ 0) <| p_X10_length_0 v0 v1 h
theorem c_X10_length (l : Launch) (hfl : l.stackTraces = false) (G : GG) (v0 : Nat) (v1 : Int32) (h : AH) (r : Except Nat Int32) (h' : AH) (hp : p_X10_length v0 v1 h = some (r, h')) : Cxt l yX10_length (.code yX10_length cX10_length 2 (some .int) :: MW) G 7 132 [.ref (v0 - 1), .int v1] h (fun x => some (.int x)) r h' := by
  obtain ⟨hz0, hp⟩ := ck_i hp
  refine Cxt.of (by decide +kernel) (Nat.le_of_ble_eq_true rfl) ?_
  intro p e s m args below meth c C htb hR ls hl
  have hl : zl ls 2 [(0, zr v0), (1, .int v1)] := ⟨by rw [zr_p hz0]; exact hl, by simp [zr_cat, in_cat]⟩
  exact s_X10_length_0 hfl htb C hR (fun _ hq => nomatch hq) hl hp
/-! CursorKeep.shownSign(LCursorKeep$Row;I)C -/
def p_X10_shownSign_0  (v0 : Nat) (v1 : Int32) (h : AH) : Option (Except Nat Int32 × AH) :=
  ck (aK h v0 = 9) <|
  bR (p_X7_shownLetter v0 v1 h) fun r2 h3 =>
  if r2 = (iI (-1)) then
    ck (aZ h3 + 1 ≤ aC h3 ∧ aU h3 + 6 ≤ gS) <|
    some (.error 1, uN h3 0 6)
  else
    ck (aK h3 v0 = 9) <|
    bR (p_X7_signOf v0 r2 h3) fun r6 h7 =>
    ck (okC r6) <|
    some (.ok r6, h7)
set_option maxHeartbeats 4000000 in
set_option maxRecDepth 100000 in
theorem s_X10_shownSign_0 {p : Program} {l : Launch} {e : Env} {s : State} {m : MethodId} {args : Array Value} {below : List Frame} {meth : Method} {c : Code} {G : GG} {hs : AH} {r : Except Nat Int32} {h' : AH} (hfl : l.stackTraces = false) (htb : ∀ x ∈ c.exceptionTable.toList, False) (C : Cx G hs p s m args meth c cX10_shownSign 3 RX10 (.code yX10_shownSign cX10_shownSign 3 (some .char) :: MW) (some .char) "shownSign")   {v0 : Nat} {v1 : Int32} {h : AH} {H : Heap} {locs : List Loc} {cells slots : Nat} {ls : Array Slot} (hR : Rp G h H) (hL : ∀ q ∈ locs, gB G ≤ q.base) (hl : zl ls 3 [(0, zr v0), (1, .int v1)]) (hp : p_X10_shownSign_0  v0 v1 h = some (r, h')) : W p l e (gR G hs 6 110) s m args below meth c H locs cells slots (vx_MQ below (Qxx G (fun x => some (.int x)) r h') (Xxx G r h') args s (gC G - aZ hs) (gS - aU hs) (fun q => gB G ≤ q)) (F0 m 0 ls []) := by
  obtain ⟨hx, hb, hml, hown, hts, hT, hK, rs, hlk, hret, hnm⟩ := id C
  have hm : ∀ w ∈ MW, w.before args s = true := fun w hw => hts w (hT w hw)
  unfold p_X10_shownSign_0 at hp
  refine z_aload_n hx hb dX10_shownSign_0 rfl (zl_at hl 0 rfl) ?_
  refine lv_iload_n hx hb dX10_shownSign_1 rfl (zl_at hl 1 rfl) ?_
  obtain ⟨k1, hp⟩ := ck_i hp
  obtain ⟨r2, h3, er2, hp⟩ := bR_i hp
  refine r_callV (ci := 8) (r := (RX7, TX7, 4)) (n := 1) (As := [.int v1]) (rest := []) C (c_X7_shownLetter l G v0 v1 h r2 h3 er2) hR hL rfl k1 mw_623 mw_624 mw_625 mw_8 mw_626 (by decide +kernel) (by decide) rfl (zl_size hl) rfl (by simp [zr_cat, in_cat]) dX10_shownSign_2 (st2 := [.int r2]) rfl (fun H locs cells slots hR hL => ?_)
  refine z_istore_n (lv' := [(2, .int r2), (0, zr v0), (1, .int v1)]) hx hb dX10_shownSign_5 rfl hl (by decide) rfl (fun ls hl => ?_)
  refine lv_iload_n hx hb dX10_shownSign_6 rfl (zl_at hl 0 rfl) ?_
  refine lv_iconst (v := iI (-1)) hx hb dX10_shownSign_7 rfl ?_
  refine lv_icmp_ne (tgt := 21) hx hb dX10_shownSign_8 (by decide) (fun c4 => ?_) (fun c4 => ?_)
  · replace hp := ite_n hp c4
    refine z_aload_n hx hb dX10_shownSign_21 rfl (zl_at hl 1 rfl) ?_
    refine lv_iload_n hx hb dX10_shownSign_22 rfl (zl_at hl 0 rfl) ?_
    obtain ⟨k5, hp⟩ := ck_i hp
    obtain ⟨r6, h7, er6, hp⟩ := bR_i hp
    refine r_callV (ci := 8) (r := (RX7, TX7, 4)) (n := 1) (As := [.int r2]) (rest := []) C (c_X7_signOf l G v0 r2 h3 r6 h7 er6) hR hL rfl k5 mw_682 mw_288 mw_289 mw_8 mw_290 (by decide +kernel) (by decide) rfl (zl_size hl) rfl (by simp [zr_cat, in_cat]) dX10_shownSign_23 (st2 := [.int r6]) rfl (fun H locs cells slots hR hL => ?_)
    obtain ⟨k8, hp⟩ := ck_i hp
    cases hp
    exact r_zretX C hR hL (okC_n k8) dX10_shownSign_26
  · replace hp := ite_p hp c4
    obtain ⟨k9, hp⟩ := ck_i hp
    cases hp
    exact r_throw (e0 := 1) (names := ["java/lang/RuntimeException", "java/lang/Exception"]) (text := "no such place") C hfl htb hR hL (by decide +kernel) (by decide +kernel) mw_314 mw_13 (hK.2.2.2.2.2.2.2.2.2.2.2.1 (115, "no such place") (by decide +kernel)) at_1 go_1 (zl_size hl) dX10_shownSign_11 dX10_shownSign_14 (Or.inl ⟨dX10_shownSign_15, rfl⟩) dX10_shownSign_17 dX10_shownSign_20 (by decide) (by simp [zr_cat, in_cat]) (by decide +kernel) k9
def p_X10_shownSign (v0 : Nat) (v1 : Int32) (h : AH) : Option (Except Nat Int32 × AH) := ck (v0 ≠ 0) <| p_X10_shownSign_0 v0 v1 h
theorem c_X10_shownSign (l : Launch) (hfl : l.stackTraces = false) (G : GG) (v0 : Nat) (v1 : Int32) (h : AH) (r : Except Nat Int32) (h' : AH) (hp : p_X10_shownSign v0 v1 h = some (r, h')) : Cxt l yX10_shownSign (.code yX10_shownSign cX10_shownSign 3 (some .char) :: MW) G 6 110 [zr v0, .int v1] h (fun x => some (.int x)) r h' := by
  obtain ⟨hz0, hp⟩ := ck_i hp
  rw [show zr v0 = .ref (v0 - 1) from zr_p hz0]
  refine Cxt.of (by decide +kernel) (Nat.le_of_ble_eq_true rfl) ?_
  intro p e s m args below meth c C htb hR ls hl
  have hl : zl ls 3 [(0, zr v0), (1, .int v1)] := ⟨by rw [zr_p hz0]; exact hl, by simp [zr_cat, in_cat]⟩
  exact s_X10_shownSign_0 hfl htb C hR (fun _ hq => nomatch hq) hl hp
/-! CursorKeep.letter(II)C -/
def p_X10_letter_0  (v0 : Nat) (v1 : Int32) (v2 : Int32) (h : AH) : Option (Except Nat Int32 × AH) :=
  ck (aK h v0 = 12) <|
  bX (0) (p_X10_textAt v0 v1 h) fun r2 h3 =>
  ck (aK h3 r2 = 11) <|
  bX (0) (p_X10_shownSign (aR h3 r2 1) v2 h3) fun r6 h7 =>
  ck (okC r6) <|
  some (.ok r6, h7)
set_option maxHeartbeats 4000000 in
set_option maxRecDepth 100000 in
theorem s_X10_letter_0 {p : Program} {l : Launch} {e : Env} {s : State} {m : MethodId} {args : Array Value} {below : List Frame} {meth : Method} {c : Code} {G : GG} {hs : AH} {r : Except Nat Int32} {h' : AH} (hfl : l.stackTraces = false) (htb : ∀ x ∈ c.exceptionTable.toList, False) (C : Cx G hs p s m args meth c cX10_letter 3 RX10 (.code yX10_letter cX10_letter 3 (some .char) :: MW) (some .char) "letter")   {v0 : Nat} {v1 : Int32} {v2 : Int32} {h : AH} {H : Heap} {locs : List Loc} {cells slots : Nat} {ls : Array Slot} (hR : Rp G h H) (hL : ∀ q ∈ locs, gB G ≤ q.base) (hl : zl ls 3 [(0, zr v0), (1, .int v1), (2, .int v2)]) (hp : p_X10_letter_0  v0 v1 v2 h = some (r, h')) : W p l e (gR G hs 7 132) s m args below meth c H locs cells slots (vx_MQ below (Qxx G (fun x => some (.int x)) r h') (Xxx G r h') args s (gC G - aZ hs) (gS - aU hs) (fun q => gB G ≤ q)) (F0 m 0 ls []) := by
  obtain ⟨hx, hb, hml, hown, hts, hT, hK, rs, hlk, hret, hnm⟩ := id C
  have hm : ∀ w ∈ MW, w.before args s = true := fun w hw => hts w (hT w hw)
  unfold p_X10_letter_0 at hp
  refine z_aload_n hx hb dX10_letter_0 rfl (zl_at hl 0 rfl) ?_
  refine lv_iload_n hx hb dX10_letter_1 rfl (zl_at hl 1 rfl) ?_
  obtain ⟨k1, hp⟩ := ck_i hp
  rcases bX_i hp with ⟨r2, h3, er2, hp⟩ | ⟨e4, er2, hre⟩
  · refine r_runVX (ci := 11) (r := (RX10, TX10, 7)) (n := 1) (As := [.int v1]) (rest := []) C (c_X10_textAt l hfl G v0 v1 h (.ok r2) h3 er2) hR rfl k1 mw_382 mw_384 mp_4 mw_1 mw_385 (by decide +kernel) (by decide) rfl (zl_size hl) rfl (by simp [zr_cat, in_cat]) dX10_letter_2 (fun cells slots hr => ?_)
    refine r_okRun hR hL hr (fun H locs cells slots hR hL => ?_)
    refine W.eq (g2 := F0 m 5 ls [zr r2]) rfl ?_
    obtain ⟨k5, hp⟩ := ck_i hp
    refine r_get (ci := 10) (C := RX9) (T := TX9) (N := 10) (v := zr (aR h3 r2 1)) hx hb hm ii_X9 hown hK hR rfl k5 1 (by decide) (hm _ mw_132) (fun _ h9 => h9) rfl dX10_letter_5 ?_
    refine lv_iload_n hx hb dX10_letter_8 rfl (zl_at hl 2 rfl) ?_
    rcases bX_i hp with ⟨r6, h7, er6, hp⟩ | ⟨e8, er6, hre⟩
    · refine r_runSX (n := 2) (As := [zr (aR h3 r2 1), .int v2]) (rest := []) C (c_X10_shownSign l hfl G (aR h3 r2 1) v2 h3 (.ok r6) h7 er6) hR mw_679 mw_680 mw_1 mw_681 (by decide +kernel) (by decide) rfl (zl_size hl) rfl (by simp [zr_cat, in_cat]) dX10_letter_9 (fun cells slots hr => ?_)
      refine r_okRun hR hL hr (fun H locs cells slots hR hL => ?_)
      refine W.eq (g2 := F0 m 12 ls [.int r6]) rfl ?_
      obtain ⟨k9, hp⟩ := ck_i hp
      cases hp
      exact r_zretX C hR hL (okC_n k9) dX10_letter_12
    · subst hre
      refine r_runSX (n := 2) (As := [zr (aR h3 r2 1), .int v2]) (rest := []) C (c_X10_shownSign l hfl G (aR h3 r2 1) v2 h3 (.error e8) h' er6) hR mw_679 mw_680 mw_1 mw_681 (by decide +kernel) (by decide) rfl (zl_size hl) rfl (by simp [zr_cat, in_cat]) dX10_letter_9 (fun cells slots hr => ?_)
      refine r_exRun hR hL hr (fun q9 ce H locs cells slots hR hL hce hcv hcl => ?_)
      exact r_out C htb hR hL hce hcv hcl
  · subst hre
    refine r_runVX (ci := 11) (r := (RX10, TX10, 7)) (n := 1) (As := [.int v1]) (rest := []) C (c_X10_textAt l hfl G v0 v1 h (.error e4) h' er2) hR rfl k1 mw_382 mw_384 mp_4 mw_1 mw_385 (by decide +kernel) (by decide) rfl (zl_size hl) rfl (by simp [zr_cat, in_cat]) dX10_letter_2 (fun cells slots hr => ?_)
    refine r_exRun hR hL hr (fun q9 ce H locs cells slots hR hL hce hcv hcl => ?_)
    exact r_out C htb hR hL hce hcv hcl
def p_X10_letter (v0 : Nat) (v1 : Int32) (v2 : Int32) (h : AH) : Option (Except Nat Int32 × AH) := ck (v0 ≠ 0) <| p_X10_letter_0 v0 v1 v2 h
theorem c_X10_letter (l : Launch) (hfl : l.stackTraces = false) (G : GG) (v0 : Nat) (v1 : Int32) (v2 : Int32) (h : AH) (r : Except Nat Int32) (h' : AH) (hp : p_X10_letter v0 v1 v2 h = some (r, h')) : Cxt l yX10_letter (.code yX10_letter cX10_letter 3 (some .char) :: MW) G 7 132 [.ref (v0 - 1), .int v1, .int v2] h (fun x => some (.int x)) r h' := by
  obtain ⟨hz0, hp⟩ := ck_i hp
  refine Cxt.of (by decide +kernel) (Nat.le_of_ble_eq_true rfl) ?_
  intro p e s m args below meth c C htb hR ls hl
  have hl : zl ls 3 [(0, zr v0), (1, .int v1), (2, .int v2)] := ⟨by rw [zr_p hz0]; exact hl, by simp [zr_cat, in_cat]⟩
  exact s_X10_letter_0 hfl htb C hR (fun _ hq => nomatch hq) hl hp
/-! CursorKeep.letterAnew(II)C -/
def p_X10_letterAnew_0  (v0 : Nat) (v1 : Int32) (v2 : Int32) (h : AH) : Option (Except Nat Int32 × AH) :=
  ck (aK h v0 = 12) <|
  bX (0) (p_X10_textAt v0 v1 h) fun r2 h3 =>
  ck (aK h3 r2 = 11) <|
  bR (p_X9_rowAnew r2 h3) fun r6 h7 =>
  bX (0) (p_X10_shownSign r6 v2 h7) fun r8 h9 =>
  ck (okC r8) <|
  some (.ok r8, h9)
set_option maxHeartbeats 4000000 in
set_option maxRecDepth 100000 in
theorem s_X10_letterAnew_0 {p : Program} {l : Launch} {e : Env} {s : State} {m : MethodId} {args : Array Value} {below : List Frame} {meth : Method} {c : Code} {G : GG} {hs : AH} {r : Except Nat Int32} {h' : AH} (hfl : l.stackTraces = false) (htb : ∀ x ∈ c.exceptionTable.toList, False) (C : Cx G hs p s m args meth c cX10_letterAnew 3 RX10 (.code yX10_letterAnew cX10_letterAnew 3 (some .char) :: MW) (some .char) "letterAnew")   {v0 : Nat} {v1 : Int32} {v2 : Int32} {h : AH} {H : Heap} {locs : List Loc} {cells slots : Nat} {ls : Array Slot} (hR : Rp G h H) (hL : ∀ q ∈ locs, gB G ≤ q.base) (hl : zl ls 3 [(0, zr v0), (1, .int v1), (2, .int v2)]) (hp : p_X10_letterAnew_0  v0 v1 v2 h = some (r, h')) : W p l e (gR G hs 7 132) s m args below meth c H locs cells slots (vx_MQ below (Qxx G (fun x => some (.int x)) r h') (Xxx G r h') args s (gC G - aZ hs) (gS - aU hs) (fun q => gB G ≤ q)) (F0 m 0 ls []) := by
  obtain ⟨hx, hb, hml, hown, hts, hT, hK, rs, hlk, hret, hnm⟩ := id C
  have hm : ∀ w ∈ MW, w.before args s = true := fun w hw => hts w (hT w hw)
  unfold p_X10_letterAnew_0 at hp
  refine z_aload_n hx hb dX10_letterAnew_0 rfl (zl_at hl 0 rfl) ?_
  refine lv_iload_n hx hb dX10_letterAnew_1 rfl (zl_at hl 1 rfl) ?_
  obtain ⟨k1, hp⟩ := ck_i hp
  rcases bX_i hp with ⟨r2, h3, er2, hp⟩ | ⟨e4, er2, hre⟩
  · refine r_runVX (ci := 11) (r := (RX10, TX10, 7)) (n := 1) (As := [.int v1]) (rest := []) C (c_X10_textAt l hfl G v0 v1 h (.ok r2) h3 er2) hR rfl k1 mw_382 mw_384 mp_4 mw_1 mw_385 (by decide +kernel) (by decide) rfl (zl_size hl) rfl (by simp [zr_cat, in_cat]) dX10_letterAnew_2 (fun cells slots hr => ?_)
    refine r_okRun hR hL hr (fun H locs cells slots hR hL => ?_)
    refine W.eq (g2 := F0 m 5 ls [zr r2]) rfl ?_
    obtain ⟨k5, hp⟩ := ck_i hp
    obtain ⟨r6, h7, er6, hp⟩ := bR_i hp
    refine r_callV (ci := 10) (r := (RX9, TX9, 10)) (n := 0) (As := []) (rest := []) C (c_X9_rowAnew l G r2 h3 r6 h7 er6) hR hL rfl k5 mw_978 mw_979 mw_980 mw_7 mw_981 (by decide +kernel) (by decide) rfl (zl_size hl) rfl (by simp [zr_cat, in_cat]) dX10_letterAnew_5 (st2 := [zr r6]) rfl (fun H locs cells slots hR hL => ?_)
    refine lv_iload_n hx hb dX10_letterAnew_8 rfl (zl_at hl 2 rfl) ?_
    rcases bX_i hp with ⟨r8, h9, er8, hp⟩ | ⟨e10, er8, hre⟩
    · refine r_runSX (n := 2) (As := [zr r6, .int v2]) (rest := []) C (c_X10_shownSign l hfl G r6 v2 h7 (.ok r8) h9 er8) hR mw_679 mw_680 mw_1 mw_681 (by decide +kernel) (by decide) rfl (zl_size hl) rfl (by simp [zr_cat, in_cat]) dX10_letterAnew_9 (fun cells slots hr => ?_)
      refine r_okRun hR hL hr (fun H locs cells slots hR hL => ?_)
      refine W.eq (g2 := F0 m 12 ls [.int r8]) rfl ?_
      obtain ⟨k11, hp⟩ := ck_i hp
      cases hp
      exact r_zretX C hR hL (okC_n k11) dX10_letterAnew_12
    · subst hre
      refine r_runSX (n := 2) (As := [zr r6, .int v2]) (rest := []) C (c_X10_shownSign l hfl G r6 v2 h7 (.error e10) h' er8) hR mw_679 mw_680 mw_1 mw_681 (by decide +kernel) (by decide) rfl (zl_size hl) rfl (by simp [zr_cat, in_cat]) dX10_letterAnew_9 (fun cells slots hr => ?_)
      refine r_exRun hR hL hr (fun q9 ce H locs cells slots hR hL hce hcv hcl => ?_)
      exact r_out C htb hR hL hce hcv hcl
  · subst hre
    refine r_runVX (ci := 11) (r := (RX10, TX10, 7)) (n := 1) (As := [.int v1]) (rest := []) C (c_X10_textAt l hfl G v0 v1 h (.error e4) h' er2) hR rfl k1 mw_382 mw_384 mp_4 mw_1 mw_385 (by decide +kernel) (by decide) rfl (zl_size hl) rfl (by simp [zr_cat, in_cat]) dX10_letterAnew_2 (fun cells slots hr => ?_)
    refine r_exRun hR hL hr (fun q9 ce H locs cells slots hR hL hce hcv hcl => ?_)
    exact r_out C htb hR hL hce hcv hcl
def p_X10_letterAnew (v0 : Nat) (v1 : Int32) (v2 : Int32) (h : AH) : Option (Except Nat Int32 × AH) := ck (v0 ≠ 0) <| p_X10_letterAnew_0 v0 v1 v2 h
theorem c_X10_letterAnew (l : Launch) (hfl : l.stackTraces = false) (G : GG) (v0 : Nat) (v1 : Int32) (v2 : Int32) (h : AH) (r : Except Nat Int32) (h' : AH) (hp : p_X10_letterAnew v0 v1 v2 h = some (r, h')) : Cxt l yX10_letterAnew (.code yX10_letterAnew cX10_letterAnew 3 (some .char) :: MW) G 7 132 [.ref (v0 - 1), .int v1, .int v2] h (fun x => some (.int x)) r h' := by
  obtain ⟨hz0, hp⟩ := ck_i hp
  refine Cxt.of (by decide +kernel) (Nat.le_of_ble_eq_true rfl) ?_
  intro p e s m args below meth c C htb hR ls hl
  have hl : zl ls 3 [(0, zr v0), (1, .int v1), (2, .int v2)] := ⟨by rw [zr_p hz0]; exact hl, by simp [zr_cat, in_cat]⟩
  exact s_X10_letterAnew_0 hfl htb C hR (fun _ hq => nomatch hq) hl hp
/-! CursorKeep.version(I)I -/
def p_X10_version_0  (v0 : Nat) (v1 : Int32) (h : AH) : Option (Except Nat Int32 × AH) :=
  ck (aK h v0 = 12) <|
  bX (0) (p_X10_textAt v0 v1 h) fun r2 h3 =>
  ck (aK h3 r2 = 11) <|
  some (.ok (aI h3 r2 3), h3)
set_option maxHeartbeats 4000000 in
set_option maxRecDepth 100000 in
theorem s_X10_version_0 {p : Program} {l : Launch} {e : Env} {s : State} {m : MethodId} {args : Array Value} {below : List Frame} {meth : Method} {c : Code} {G : GG} {hs : AH} {r : Except Nat Int32} {h' : AH} (hfl : l.stackTraces = false) (htb : ∀ x ∈ c.exceptionTable.toList, False) (C : Cx G hs p s m args meth c cX10_version 2 RX10 (.code yX10_version cX10_version 2 (some .int) :: MW) (some .int) "version")   {v0 : Nat} {v1 : Int32} {h : AH} {H : Heap} {locs : List Loc} {cells slots : Nat} {ls : Array Slot} (hR : Rp G h H) (hL : ∀ q ∈ locs, gB G ≤ q.base) (hl : zl ls 2 [(0, zr v0), (1, .int v1)]) (hp : p_X10_version_0  v0 v1 h = some (r, h')) : W p l e (gR G hs 7 132) s m args below meth c H locs cells slots (vx_MQ below (Qxx G (fun x => some (.int x)) r h') (Xxx G r h') args s (gC G - aZ hs) (gS - aU hs) (fun q => gB G ≤ q)) (F0 m 0 ls []) := by
  obtain ⟨hx, hb, hml, hown, hts, hT, hK, rs, hlk, hret, hnm⟩ := id C
  have hm : ∀ w ∈ MW, w.before args s = true := fun w hw => hts w (hT w hw)
  unfold p_X10_version_0 at hp
  refine z_aload_n hx hb dX10_version_0 rfl (zl_at hl 0 rfl) ?_
  refine lv_iload_n hx hb dX10_version_1 rfl (zl_at hl 1 rfl) ?_
  obtain ⟨k1, hp⟩ := ck_i hp
  rcases bX_i hp with ⟨r2, h3, er2, hp⟩ | ⟨e4, er2, hre⟩
  · refine r_runVX (ci := 11) (r := (RX10, TX10, 7)) (n := 1) (As := [.int v1]) (rest := []) C (c_X10_textAt l hfl G v0 v1 h (.ok r2) h3 er2) hR rfl k1 mw_382 mw_384 mp_4 mw_1 mw_385 (by decide +kernel) (by decide) rfl (zl_size hl) rfl (by simp [zr_cat, in_cat]) dX10_version_2 (fun cells slots hr => ?_)
    refine r_okRun hR hL hr (fun H locs cells slots hR hL => ?_)
    refine W.eq (g2 := F0 m 5 ls [zr r2]) rfl ?_
    obtain ⟨k5, hp⟩ := ck_i hp
    refine r_get (ci := 10) (C := RX9) (T := TX9) (N := 10) (v := .int (aI h3 r2 3)) hx hb hm ii_X9 hown hK hR rfl k5 3 (by decide) (hm _ mw_138) (fun _ h9 => h9) rfl dX10_version_5 ?_
    cases hp
    exact r_zretX C hR hL rfl dX10_version_8
  · subst hre
    refine r_runVX (ci := 11) (r := (RX10, TX10, 7)) (n := 1) (As := [.int v1]) (rest := []) C (c_X10_textAt l hfl G v0 v1 h (.error e4) h' er2) hR rfl k1 mw_382 mw_384 mp_4 mw_1 mw_385 (by decide +kernel) (by decide) rfl (zl_size hl) rfl (by simp [zr_cat, in_cat]) dX10_version_2 (fun cells slots hr => ?_)
    refine r_exRun hR hL hr (fun q9 ce H locs cells slots hR hL hce hcv hcl => ?_)
    exact r_out C htb hR hL hce hcv hcl
def p_X10_version (v0 : Nat) (v1 : Int32) (h : AH) : Option (Except Nat Int32 × AH) := ck (v0 ≠ 0) <| p_X10_version_0 v0 v1 h
theorem c_X10_version (l : Launch) (hfl : l.stackTraces = false) (G : GG) (v0 : Nat) (v1 : Int32) (h : AH) (r : Except Nat Int32) (h' : AH) (hp : p_X10_version v0 v1 h = some (r, h')) : Cxt l yX10_version (.code yX10_version cX10_version 2 (some .int) :: MW) G 7 132 [.ref (v0 - 1), .int v1] h (fun x => some (.int x)) r h' := by
  obtain ⟨hz0, hp⟩ := ck_i hp
  refine Cxt.of (by decide +kernel) (Nat.le_of_ble_eq_true rfl) ?_
  intro p e s m args below meth c C htb hR ls hl
  have hl : zl ls 2 [(0, zr v0), (1, .int v1)] := ⟨by rw [zr_p hz0]; exact hl, by simp [zr_cat, in_cat]⟩
  exact s_X10_version_0 hfl htb C hR (fun _ hq => nomatch hq) hl hp
/-! CursorKeep.canBeAsked(II)Z -/
def p_X10_canBeAsked_21  (s0 : Int32) (h : AH) : Option (Int32 × AH) :=
  ck (okZ s0) <|
  some (s0, h)
set_option maxHeartbeats 4000000 in
set_option maxRecDepth 100000 in
theorem s_X10_canBeAsked_21 {p : Program} {l : Launch} {e : Env} {s : State} {m : MethodId} {args : Array Value} {below : List Frame} {meth : Method} {c : Code} {G : GG} {hs : AH} {r : Int32} {h' : AH} (C : Cx G hs p s m args meth c cX10_canBeAsked 2 RX10 (.code yX10_canBeAsked cX10_canBeAsked 2 (some .boolean) :: MW) (some .boolean) "canBeAsked")   {s0 : Int32} {h : AH} {H : Heap} {locs : List Loc} {cells slots : Nat} {ls : Array Slot} (hR : Rp G h H) (hL : ∀ q ∈ locs, gB G ≤ q.base) (hl : zl ls 2 []) (hp : p_X10_canBeAsked_21  s0 h = some (r, h')) : W p l e (gR G hs 1 40) s m args below meth c H locs cells slots (MQ below (Qcc G (some (.int r)) h') args s (gC G - aZ hs) (gS - aU hs) (fun q => gB G ≤ q)) (F0 m 21 ls [.int s0]) := by
  obtain ⟨hx, hb, hml, hown, hts, hT, hK, rs, hlk, hret, hnm⟩ := id C
  have hm : ∀ w ∈ MW, w.before args s = true := fun w hw => hts w (hT w hw)
  unfold p_X10_canBeAsked_21 at hp
  obtain ⟨k1, hp⟩ := ck_i hp
  cases hp
  exact r_zret C hR hL (okZ_n k1) dX10_canBeAsked_21
def p_X10_canBeAsked_20   (h : AH) : Option (Int32 × AH) :=
  p_X10_canBeAsked_21  (iI 0) h
set_option maxHeartbeats 4000000 in
set_option maxRecDepth 100000 in
theorem s_X10_canBeAsked_20 {p : Program} {l : Launch} {e : Env} {s : State} {m : MethodId} {args : Array Value} {below : List Frame} {meth : Method} {c : Code} {G : GG} {hs : AH} {r : Int32} {h' : AH} (C : Cx G hs p s m args meth c cX10_canBeAsked 2 RX10 (.code yX10_canBeAsked cX10_canBeAsked 2 (some .boolean) :: MW) (some .boolean) "canBeAsked")    {h : AH} {H : Heap} {locs : List Loc} {cells slots : Nat} {ls : Array Slot} (hR : Rp G h H) (hL : ∀ q ∈ locs, gB G ≤ q.base) (hl : zl ls 2 []) (hp : p_X10_canBeAsked_20   h = some (r, h')) : W p l e (gR G hs 1 40) s m args below meth c H locs cells slots (MQ below (Qcc G (some (.int r)) h') args s (gC G - aZ hs) (gS - aU hs) (fun q => gB G ≤ q)) (F0 m 20 ls []) := by
  obtain ⟨hx, hb, hml, hown, hts, hT, hK, rs, hlk, hret, hnm⟩ := id C
  have hm : ∀ w ∈ MW, w.before args s = true := fun w hw => hts w (hT w hw)
  unfold p_X10_canBeAsked_20 at hp
  refine lv_iconst (v := iI 0) hx hb dX10_canBeAsked_20 rfl ?_
  exact s_X10_canBeAsked_21 C  hR hL (zl_sub hl [] rfl) hp
def p_X10_canBeAsked_45  (s0 : Int32) (h : AH) : Option (Int32 × AH) :=
  ck (okZ s0) <|
  some (s0, h)
set_option maxHeartbeats 4000000 in
set_option maxRecDepth 100000 in
theorem s_X10_canBeAsked_45 {p : Program} {l : Launch} {e : Env} {s : State} {m : MethodId} {args : Array Value} {below : List Frame} {meth : Method} {c : Code} {G : GG} {hs : AH} {r : Int32} {h' : AH} (C : Cx G hs p s m args meth c cX10_canBeAsked 2 RX10 (.code yX10_canBeAsked cX10_canBeAsked 2 (some .boolean) :: MW) (some .boolean) "canBeAsked")   {s0 : Int32} {h : AH} {H : Heap} {locs : List Loc} {cells slots : Nat} {ls : Array Slot} (hR : Rp G h H) (hL : ∀ q ∈ locs, gB G ≤ q.base) (hl : zl ls 2 []) (hp : p_X10_canBeAsked_45  s0 h = some (r, h')) : W p l e (gR G hs 1 40) s m args below meth c H locs cells slots (MQ below (Qcc G (some (.int r)) h') args s (gC G - aZ hs) (gS - aU hs) (fun q => gB G ≤ q)) (F0 m 45 ls [.int s0]) := by
  obtain ⟨hx, hb, hml, hown, hts, hT, hK, rs, hlk, hret, hnm⟩ := id C
  have hm : ∀ w ∈ MW, w.before args s = true := fun w hw => hts w (hT w hw)
  unfold p_X10_canBeAsked_45 at hp
  obtain ⟨k1, hp⟩ := ck_i hp
  cases hp
  exact r_zret C hR hL (okZ_n k1) dX10_canBeAsked_45
def p_X10_canBeAsked_44   (h : AH) : Option (Int32 × AH) :=
  p_X10_canBeAsked_45  (iI 0) h
set_option maxHeartbeats 4000000 in
set_option maxRecDepth 100000 in
theorem s_X10_canBeAsked_44 {p : Program} {l : Launch} {e : Env} {s : State} {m : MethodId} {args : Array Value} {below : List Frame} {meth : Method} {c : Code} {G : GG} {hs : AH} {r : Int32} {h' : AH} (C : Cx G hs p s m args meth c cX10_canBeAsked 2 RX10 (.code yX10_canBeAsked cX10_canBeAsked 2 (some .boolean) :: MW) (some .boolean) "canBeAsked")    {h : AH} {H : Heap} {locs : List Loc} {cells slots : Nat} {ls : Array Slot} (hR : Rp G h H) (hL : ∀ q ∈ locs, gB G ≤ q.base) (hl : zl ls 2 []) (hp : p_X10_canBeAsked_44   h = some (r, h')) : W p l e (gR G hs 1 40) s m args below meth c H locs cells slots (MQ below (Qcc G (some (.int r)) h') args s (gC G - aZ hs) (gS - aU hs) (fun q => gB G ≤ q)) (F0 m 44 ls []) := by
  obtain ⟨hx, hb, hml, hown, hts, hT, hK, rs, hlk, hret, hnm⟩ := id C
  have hm : ∀ w ∈ MW, w.before args s = true := fun w hw => hts w (hT w hw)
  unfold p_X10_canBeAsked_44 at hp
  refine lv_iconst (v := iI 0) hx hb dX10_canBeAsked_44 rfl ?_
  exact s_X10_canBeAsked_45 C  hR hL (zl_sub hl [] rfl) hp
def p_X10_canBeAsked_36  (v1 : Int32) (h : AH) : Option (Int32 × AH) :=
  if v1 = 0 then
    p_X10_canBeAsked_45  (iI 1) h
  else
    p_X10_canBeAsked_44   h
set_option maxHeartbeats 4000000 in
set_option maxRecDepth 100000 in
theorem s_X10_canBeAsked_36 {p : Program} {l : Launch} {e : Env} {s : State} {m : MethodId} {args : Array Value} {below : List Frame} {meth : Method} {c : Code} {G : GG} {hs : AH} {r : Int32} {h' : AH} (C : Cx G hs p s m args meth c cX10_canBeAsked 2 RX10 (.code yX10_canBeAsked cX10_canBeAsked 2 (some .boolean) :: MW) (some .boolean) "canBeAsked")   {v1 : Int32} {h : AH} {H : Heap} {locs : List Loc} {cells slots : Nat} {ls : Array Slot} (hR : Rp G h H) (hL : ∀ q ∈ locs, gB G ≤ q.base) (hl : zl ls 2 [(1, .int v1)]) (hp : p_X10_canBeAsked_36  v1 h = some (r, h')) : W p l e (gR G hs 1 40) s m args below meth c H locs cells slots (MQ below (Qcc G (some (.int r)) h') args s (gC G - aZ hs) (gS - aU hs) (fun q => gB G ≤ q)) (F0 m 36 ls []) := by
  obtain ⟨hx, hb, hml, hown, hts, hT, hK, rs, hlk, hret, hnm⟩ := id C
  have hm : ∀ w ∈ MW, w.before args s = true := fun w hw => hts w (hT w hw)
  unfold p_X10_canBeAsked_36 at hp
  refine lv_iload_n hx hb dX10_canBeAsked_36 rfl (zl_at hl 0 rfl) ?_
  refine lv_if_ne (tgt := 44) hx hb dX10_canBeAsked_37 (by decide) (fun c1 => ?_) (fun c1 => ?_)
  · replace hp := ite_n hp c1
    exact s_X10_canBeAsked_44 C  hR hL (zl_sub hl [] rfl) hp
  · replace hp := ite_p hp c1
    refine lv_iconst (v := iI 1) hx hb dX10_canBeAsked_40 rfl ?_
    refine lv_goto (tgt := 45) hx hb dX10_canBeAsked_41 (by decide) ?_
    exact s_X10_canBeAsked_45 C  hR hL (zl_sub hl [] rfl) hp
def p_X10_canBeAsked_0  (v0 : Int32) (v1 : Int32) (h : AH) : Option (Int32 × AH) :=
  if v0 = (iI 3) then
    if v1 < (iI 5) then
      p_X10_canBeAsked_20   h
    else
      if (iI 40) < v1 then
        p_X10_canBeAsked_20   h
      else
        p_X10_canBeAsked_21  (iI 1) h
  else
    if v0 = 0 then
      p_X10_canBeAsked_36  v1 h
    else
      if v0 = (iI 1) then
        p_X10_canBeAsked_36  v1 h
      else
        if v0 = (iI 2) then
          p_X10_canBeAsked_36  v1 h
        else
          p_X10_canBeAsked_44   h
set_option maxHeartbeats 4000000 in
set_option maxRecDepth 100000 in
theorem s_X10_canBeAsked_0 {p : Program} {l : Launch} {e : Env} {s : State} {m : MethodId} {args : Array Value} {below : List Frame} {meth : Method} {c : Code} {G : GG} {hs : AH} {r : Int32} {h' : AH} (C : Cx G hs p s m args meth c cX10_canBeAsked 2 RX10 (.code yX10_canBeAsked cX10_canBeAsked 2 (some .boolean) :: MW) (some .boolean) "canBeAsked")   {v0 : Int32} {v1 : Int32} {h : AH} {H : Heap} {locs : List Loc} {cells slots : Nat} {ls : Array Slot} (hR : Rp G h H) (hL : ∀ q ∈ locs, gB G ≤ q.base) (hl : zl ls 2 [(0, .int v0), (1, .int v1)]) (hp : p_X10_canBeAsked_0  v0 v1 h = some (r, h')) : W p l e (gR G hs 1 40) s m args below meth c H locs cells slots (MQ below (Qcc G (some (.int r)) h') args s (gC G - aZ hs) (gS - aU hs) (fun q => gB G ≤ q)) (F0 m 0 ls []) := by
  obtain ⟨hx, hb, hml, hown, hts, hT, hK, rs, hlk, hret, hnm⟩ := id C
  have hm : ∀ w ∈ MW, w.before args s = true := fun w hw => hts w (hT w hw)
  unfold p_X10_canBeAsked_0 at hp
  refine lv_iload_n hx hb dX10_canBeAsked_0 rfl (zl_at hl 0 rfl) ?_
  refine lv_iconst (v := iI 3) hx hb dX10_canBeAsked_1 rfl ?_
  refine lv_icmp_ne (tgt := 22) hx hb dX10_canBeAsked_2 (by decide) (fun c1 => ?_) (fun c1 => ?_)
  · replace hp := ite_n hp c1
    refine lv_iload_n hx hb dX10_canBeAsked_22 rfl (zl_at hl 0 rfl) ?_
    refine lv_if_eq (tgt := 36) hx hb dX10_canBeAsked_23 (by decide) (fun c2 => ?_) (fun c2 => ?_)
    · replace hp := ite_p hp c2
      exact s_X10_canBeAsked_36 C  hR hL (zl_sub hl [1] rfl) hp
    · replace hp := ite_n hp c2
      refine lv_iload_n hx hb dX10_canBeAsked_26 rfl (zl_at hl 0 rfl) ?_
      refine lv_iconst (v := iI 1) hx hb dX10_canBeAsked_27 rfl ?_
      refine lv_icmp_eq (tgt := 36) hx hb dX10_canBeAsked_28 (by decide) (fun c3 => ?_) (fun c3 => ?_)
      · replace hp := ite_p hp c3
        exact s_X10_canBeAsked_36 C  hR hL (zl_sub hl [1] rfl) hp
      · replace hp := ite_n hp c3
        refine lv_iload_n hx hb dX10_canBeAsked_31 rfl (zl_at hl 0 rfl) ?_
        refine lv_iconst (v := iI 2) hx hb dX10_canBeAsked_32 rfl ?_
        refine lv_icmp_ne (tgt := 44) hx hb dX10_canBeAsked_33 (by decide) (fun c4 => ?_) (fun c4 => ?_)
        · replace hp := ite_n hp c4
          exact s_X10_canBeAsked_44 C  hR hL (zl_sub hl [] rfl) hp
        · replace hp := ite_p hp c4
          exact s_X10_canBeAsked_36 C  hR hL (zl_sub hl [1] rfl) hp
  · replace hp := ite_p hp c1
    refine lv_iload_n hx hb dX10_canBeAsked_5 rfl (zl_at hl 1 rfl) ?_
    refine lv_iconst (v := iI 5) hx hb dX10_canBeAsked_6 rfl ?_
    refine lv_icmp_lt (tgt := 20) hx hb dX10_canBeAsked_7 (by decide) (fun c5 => ?_) (fun c5 => ?_)
    · replace hp := ite_p hp c5
      exact s_X10_canBeAsked_20 C  hR hL (zl_sub hl [] rfl) hp
    · replace hp := ite_n hp c5
      refine lv_iload_n hx hb dX10_canBeAsked_10 rfl (zl_at hl 1 rfl) ?_
      refine lv_bipush (v := iI 40) hx hb dX10_canBeAsked_11 (by decide +kernel) ?_
      refine lv_icmp_gt (tgt := 20) hx hb dX10_canBeAsked_13 (by decide) (fun c6 => ?_) (fun c6 => ?_)
      · replace hp := ite_p hp c6
        exact s_X10_canBeAsked_20 C  hR hL (zl_sub hl [] rfl) hp
      · replace hp := ite_n hp c6
        refine lv_iconst (v := iI 1) hx hb dX10_canBeAsked_16 rfl ?_
        refine lv_goto (tgt := 21) hx hb dX10_canBeAsked_17 (by decide) ?_
        exact s_X10_canBeAsked_21 C  hR hL (zl_sub hl [] rfl) hp
def p_X10_canBeAsked (v0 : Int32) (v1 : Int32) (h : AH) : Option (Int32 × AH) := p_X10_canBeAsked_0 v0 v1 h
theorem c_X10_canBeAsked (l : Launch) (G : GG) (v0 : Int32) (v1 : Int32) (h : AH) (r : Int32) (h' : AH) (hp : p_X10_canBeAsked v0 v1 h = some (r, h')) : Ct l yX10_canBeAsked (.code yX10_canBeAsked cX10_canBeAsked 2 (some .boolean) :: MW) G 1 40 [.int v0, .int v1] h (some (.int r)) h' := by
  refine Ct.of (by decide +kernel) (Nat.le_of_ble_eq_true rfl) ?_
  intro p e s m args below meth c C hR ls hl
  have hl : zl ls 2 [(0, .int v0), (1, .int v1)] := ⟨hl, by simp [zr_cat, in_cat]⟩
  exact s_X10_canBeAsked_0 C hR (fun _ hq => nomatch hq) hl hp
/-! CursorKeep.ask(III)I -/
def p_X10_ask_0  (v0 : Nat) (v1 : Int32) (v2 : Int32) (v3 : Int32) (h : AH) : Option (Except Nat Int32 × AH) :=
  ck (aK h v0 = 12) <|
  bX (0) (p_X10_textAt v0 v1 h) fun r2 h3 =>
  bR (p_X10_canBeAsked v2 v3 h3) fun r5 h6 =>
  if r5 = 0 then
    ck (aZ h6 + 1 ≤ aC h6 ∧ aU h6 + 6 ≤ gS) <|
    some (.error 2, uN h6 0 6)
  else
    ck (aK h6 v0 = 12) <|
    ck (aK h6 (aR h6 v0 2) = 1) <|
    bR (p_Jx4a65c_size_8abf5 (aR h6 v0 2) h6) fun r10 h11 =>
    if r10 < (iI 60) then
      ck (aK h11 v0 = 12) <|
      ck (aK h11 r2 = 11) <|
      ck (aK h11 (aR h11 v0 4) = 8) <|
      bR (p_X6_draw (aR h11 v0 4) (aR h11 r2 1) v2 v3 h11) fun r16 h17 =>
      ck (aK h17 v0 = 12) <|
      ck (aZ h17 + 1 ≤ aC h17 ∧ aU h17 + 4 ≤ gS) <|
      nm (uN h17 5 4) fun h20 =>
      ck (aK h20 v0 = 12) <|
      ck (aK h20 r2 = 11) <|
      ck (aK h20 v0 = 12) <|
      ck (aK h20 (aR h20 v0 4) = 8) <|
      bR (p_X6_changes (aR h20 v0 4) (aR h20 r2 1) (aR h20 v0 5) h20) fun r25 h26 =>
      ck (aK h26 (aZ h17) ≠ 0) <|
      bR (p_X3_init (aZ h17) r2 r25 h26) fun r28 h29 =>
      ck (aK h29 (aR h17 v0 2) = 1) <|
      bR (p_Jx4a65c_add_9ea2d (aR h17 v0 2) (aZ h17) h29) fun r31 h32 =>
      ck (aK h32 v0 = 12) <|
      ck (aK h32 (aR h32 v0 2) = 1) <|
      bR (p_Jx4a65c_size_8abf5 (aR h32 v0 2) h32) fun r35 h36 =>
      some (.ok (r35 - (iI 1)), h36)
    else
      ck (aZ h11 + 1 ≤ aC h11 ∧ aU h11 + 6 ≤ gS) <|
      some (.error 3, uN h11 0 6)
set_option maxHeartbeats 4000000 in
set_option maxRecDepth 100000 in
theorem s_X10_ask_0 {p : Program} {l : Launch} {e : Env} {s : State} {m : MethodId} {args : Array Value} {below : List Frame} {meth : Method} {c : Code} {G : GG} {hs : AH} {r : Except Nat Int32} {h' : AH} (hfl : l.stackTraces = false) (htb : ∀ x ∈ c.exceptionTable.toList, False) (C : Cx G hs p s m args meth c cX10_ask 5 RX10 (.code yX10_ask cX10_ask 5 (some .int) :: MW) (some .int) "ask")   {v0 : Nat} {v1 : Int32} {v2 : Int32} {v3 : Int32} {h : AH} {H : Heap} {locs : List Loc} {cells slots : Nat} {ls : Array Slot} (hR : Rp G h H) (hL : ∀ q ∈ locs, gB G ≤ q.base) (hl : zl ls 5 [(0, zr v0), (1, .int v1), (2, .int v2), (3, .int v3)]) (hp : p_X10_ask_0  v0 v1 v2 v3 h = some (r, h')) : W p l e (gR G hs 8 197) s m args below meth c H locs cells slots (vx_MQ below (Qxx G (fun x => some (.int x)) r h') (Xxx G r h') args s (gC G - aZ hs) (gS - aU hs) (fun q => gB G ≤ q)) (F0 m 0 ls []) := by
  obtain ⟨hx, hb, hml, hown, hts, hT, hK, rs, hlk, hret, hnm⟩ := id C
  have hm : ∀ w ∈ MW, w.before args s = true := fun w hw => hts w (hT w hw)
  unfold p_X10_ask_0 at hp
  refine z_aload_n hx hb dX10_ask_0 rfl (zl_at hl 0 rfl) ?_
  refine lv_iload_n hx hb dX10_ask_1 rfl (zl_at hl 1 rfl) ?_
  obtain ⟨k1, hp⟩ := ck_i hp
  rcases bX_i hp with ⟨r2, h3, er2, hp⟩ | ⟨e4, er2, hre⟩
  · refine r_runVX (ci := 11) (r := (RX10, TX10, 7)) (n := 1) (As := [.int v1]) (rest := []) C (c_X10_textAt l hfl G v0 v1 h (.ok r2) h3 er2) hR rfl k1 mw_382 mw_384 mp_4 mw_1 mw_385 (by decide +kernel) (by decide) rfl (zl_size hl) rfl (by simp [zr_cat, in_cat]) dX10_ask_2 (fun cells slots hr => ?_)
    refine r_okRun hR hL hr (fun H locs cells slots hR hL => ?_)
    refine W.eq (g2 := F0 m 5 ls [zr r2]) rfl ?_
    refine z_astore (lv' := [(4, zr r2), (0, zr v0), (1, .int v1), (2, .int v2), (3, .int v3)]) hx hb dX10_ask_5 hl (by decide) rfl (fun ls hl => ?_)
    refine lv_iload_n hx hb dX10_ask_7 rfl (zl_at hl 3 rfl) ?_
    refine lv_iload_n hx hb dX10_ask_8 rfl (zl_at hl 4 rfl) ?_
    obtain ⟨r5, h6, er5, hp⟩ := bR_i hp
    refine r_callS (n := 2) (As := [.int v2, .int v3]) (rest := []) C (c_X10_canBeAsked l G v2 v3 h3 r5 h6 er5) hR hL mw_697 mw_698 mw_1 mw_699 (by decide +kernel) (by decide) rfl (zl_size hl) rfl (by simp [zr_cat, in_cat]) dX10_ask_9 (st2 := [.int r5]) rfl (fun H locs cells slots hR hL => ?_)
    refine lv_if_ne (tgt := 25) hx hb dX10_ask_12 (by decide) (fun c7 => ?_) (fun c7 => ?_)
    · replace hp := ite_n hp c7
      refine z_aload_n hx hb dX10_ask_25 rfl (zl_at hl 1 rfl) ?_
      obtain ⟨k8, hp⟩ := ck_i hp
      refine r_get (ci := 11) (C := RX10) (T := TX10) (N := 7) (v := zr (aR h6 v0 2)) hx hb hm ii_X10 hown hK hR rfl k8 2 (by decide) (hm _ mw_185) (fun _ h9 => h9) rfl dX10_ask_26 ?_
      obtain ⟨k9, hp⟩ := ck_i hp
      obtain ⟨r10, h11, er10, hp⟩ := bR_i hp
      refine r_callF (ci := 0) (r := (RJx4a65c, TJx4a65c, 3)) (x := ⟨"java/util/List", "size", "()I"⟩) (n := 0) (As := []) (rest := []) C (c_Jx4a65c_size_8abf5 l G (aR h6 v0 2) h6 r10 h11 er10) hR hL rfl k9 mw_210 mw_214 mw_216 mw_4 mw_218 (fw_size hK) (by decide +kernel) (by decide) rfl (zl_size hl) rfl (by simp [zr_cat, in_cat]) dX10_ask_29 (st2 := [.int r10]) rfl (fun H locs cells slots hR hL => ?_)
      refine lv_bipush (v := iI 60) hx hb dX10_ask_34 (by decide +kernel) ?_
      refine lv_icmp_lt (tgt := 49) hx hb dX10_ask_36 (by decide) (fun c12 => ?_) (fun c12 => ?_)
      · replace hp := ite_p hp c12
        refine z_aload_n hx hb dX10_ask_49 rfl (zl_at hl 1 rfl) ?_
        obtain ⟨k13, hp⟩ := ck_i hp
        refine r_get (ci := 11) (C := RX10) (T := TX10) (N := 7) (v := zr (aR h11 v0 4)) hx hb hm ii_X10 hown hK hR rfl k13 4 (by decide) (hm _ mw_187) (fun _ h9 => h9) rfl dX10_ask_50 ?_
        refine z_aload hx hb dX10_ask_53 (zl_at hl 0 rfl) ?_
        obtain ⟨k14, hp⟩ := ck_i hp
        refine r_get (ci := 10) (C := RX9) (T := TX9) (N := 10) (v := zr (aR h11 r2 1)) hx hb hm ii_X9 hown hK hR rfl k14 1 (by decide) (hm _ mw_132) (fun _ h9 => h9) rfl dX10_ask_55 ?_
        refine lv_iload_n hx hb dX10_ask_58 rfl (zl_at hl 3 rfl) ?_
        refine lv_iload_n hx hb dX10_ask_59 rfl (zl_at hl 4 rfl) ?_
        obtain ⟨k15, hp⟩ := ck_i hp
        obtain ⟨r16, h17, er16, hp⟩ := bR_i hp
        refine r_callV (ci := 7) (r := (RX6, TX6, 4)) (n := 3) (As := [zr (aR h11 r2 1), .int v2, .int v3]) (rest := []) C (c_X6_draw l G (aR h11 v0 4) (aR h11 r2 1) v2 v3 h11 r16 h17 er16) hR hL rfl k15 mw_702 mw_703 mw_704 mw_5 mw_705 (by decide +kernel) (by decide) rfl (zl_size hl) rfl (by simp [zr_cat, in_cat]) dX10_ask_60 (st2 := []) rfl (fun H locs cells slots hR hL => ?_)
        refine z_aload_n hx hb dX10_ask_63 rfl (zl_at hl 1 rfl) ?_
        obtain ⟨k18, hp⟩ := ck_i hp
        refine r_get (ci := 11) (C := RX10) (T := TX10) (N := 7) (v := zr (aR h17 v0 2)) hx hb hm ii_X10 hown hK hR rfl k18 2 (by decide) (hm _ mw_185) (fun _ h9 => h9) rfl dX10_ask_64 ?_
        obtain ⟨k19, hp⟩ := ck_i hp
        refine r_new (ci := 4) (C := RX3) (T := TX3) (N := 4) (ty0 := tyX3) C hR hL rfl ii_X3 tyX3_ok (fun _ => rfl) (by decide +kernel) mw_730 mw_731 mw_24 k19 dX10_ask_67 (fun H cells slots hR => ?_)
        obtain ⟨h20, hp, hR⟩ := nm_h hp hR
        refine lv_dup hx hb dX10_ask_70 (zr_cat _) ?_
        refine z_aload hx hb dX10_ask_71 (zl_at hl 0 rfl) ?_
        refine z_aload_n hx hb dX10_ask_73 rfl (zl_at hl 1 rfl) ?_
        obtain ⟨k21, hp⟩ := ck_i hp
        refine r_get (ci := 11) (C := RX10) (T := TX10) (N := 7) (v := zr (aR h20 v0 4)) hx hb hm ii_X10 hown hK hR rfl k21 4 (by decide) (hm _ mw_187) (fun _ h9 => h9) rfl dX10_ask_74 ?_
        refine z_aload hx hb dX10_ask_77 (zl_at hl 0 rfl) ?_
        obtain ⟨k22, hp⟩ := ck_i hp
        refine r_get (ci := 10) (C := RX9) (T := TX9) (N := 10) (v := zr (aR h20 r2 1)) hx hb hm ii_X9 hown hK hR rfl k22 1 (by decide) (hm _ mw_132) (fun _ h9 => h9) rfl dX10_ask_79 ?_
        refine z_aload_n hx hb dX10_ask_82 rfl (zl_at hl 1 rfl) ?_
        obtain ⟨k23, hp⟩ := ck_i hp
        refine r_get (ci := 11) (C := RX10) (T := TX10) (N := 7) (v := zr (aR h20 v0 5)) hx hb hm ii_X10 hown hK hR rfl k23 5 (by decide) (hm _ mw_188) (fun _ h9 => h9) rfl dX10_ask_83 ?_
        obtain ⟨k24, hp⟩ := ck_i hp
        obtain ⟨r25, h26, er25, hp⟩ := bR_i hp
        refine r_callV (ci := 7) (r := (RX6, TX6, 4)) (n := 2) (As := [zr (aR h20 r2 1), zr (aR h20 v0 5)]) (rest := [zr r2, zr (aZ h17), zr (aZ h17), zr (aR h17 v0 2)]) C (c_X6_changes l G (aR h20 v0 4) (aR h20 r2 1) (aR h20 v0 5) h20 r25 h26 er25) hR hL rfl k24 mw_732 mw_733 mw_734 mw_5 mw_735 (by decide +kernel) (by decide) rfl (zl_size hl) rfl (by simp [zr_cat, in_cat]) dX10_ask_86 (st2 := [zr r25, zr r2, zr (aZ h17), zr (aZ h17), zr (aR h17 v0 2)]) rfl (fun H locs cells slots hR hL => ?_)
        obtain ⟨k27, hp⟩ := ck_i hp
        obtain ⟨r28, h29, er28, hp⟩ := bR_i hp
        refine r_callI (n := 2) (As := [zr r2, zr r25]) (rest := [zr (aZ h17), zr (aR h17 v0 2)]) C (c_X3_init l G (aZ h17) r2 r25 h26 r28 h29 er28) hR hL k27 mw_800 mw_801 mw_24 mw_802 rfl (by decide +kernel) (by decide) rfl (zl_size hl) rfl (by simp [zr_cat, in_cat]) dX10_ask_89 (st2 := [zr (aZ h17), zr (aR h17 v0 2)]) rfl (fun H locs cells slots hR hL => ?_)
        obtain ⟨k30, hp⟩ := ck_i hp
        obtain ⟨r31, h32, er31, hp⟩ := bR_i hp
        refine r_callF (ci := 0) (r := (RJx4a65c, TJx4a65c, 3)) (x := ⟨"java/util/List", "add", "(Ljava/lang/Object;)Z"⟩) (n := 1) (As := [zr (aZ h17)]) (rest := []) C (c_Jx4a65c_add_9ea2d l G (aR h17 v0 2) (aZ h17) h29 r31 h32 er31) hR hL rfl k30 mw_823 mw_484 mw_486 mw_4 mw_488 (fw_add hK) (by decide +kernel) (by decide) rfl (zl_size hl) rfl (by simp [zr_cat, in_cat]) dX10_ask_92 (st2 := [.int r31]) rfl (fun H locs cells slots hR hL => ?_)
        refine lv_pop hx hb dX10_ask_97 rfl ?_
        refine z_aload_n hx hb dX10_ask_98 rfl (zl_at hl 1 rfl) ?_
        obtain ⟨k33, hp⟩ := ck_i hp
        refine r_get (ci := 11) (C := RX10) (T := TX10) (N := 7) (v := zr (aR h32 v0 2)) hx hb hm ii_X10 hown hK hR rfl k33 2 (by decide) (hm _ mw_185) (fun _ h9 => h9) rfl dX10_ask_99 ?_
        obtain ⟨k34, hp⟩ := ck_i hp
        obtain ⟨r35, h36, er35, hp⟩ := bR_i hp
        refine r_callF (ci := 0) (r := (RJx4a65c, TJx4a65c, 3)) (x := ⟨"java/util/List", "size", "()I"⟩) (n := 0) (As := []) (rest := []) C (c_Jx4a65c_size_8abf5 l G (aR h32 v0 2) h32 r35 h36 er35) hR hL rfl k34 mw_210 mw_214 mw_216 mw_4 mw_218 (fw_size hK) (by decide +kernel) (by decide) rfl (zl_size hl) rfl (by simp [zr_cat, in_cat]) dX10_ask_102 (st2 := [.int r35]) rfl (fun H locs cells slots hR hL => ?_)
        refine lv_iconst (v := iI 1) hx hb dX10_ask_107 rfl ?_
        refine lv_isub hx hb dX10_ask_108 ?_
        cases hp
        exact r_zretX C hR hL rfl dX10_ask_109
      · replace hp := ite_n hp c12
        obtain ⟨k37, hp⟩ := ck_i hp
        cases hp
        exact r_throw (e0 := 3) (names := ["java/lang/RuntimeException", "java/lang/Exception"]) (text := "no more formats") C hfl htb hR hL (by decide +kernel) (by decide +kernel) mw_410 mw_15 (hK.2.2.2.2.2.2.2.2.2.2.2.1 (173, "no more formats") (by decide +kernel)) at_3 go_3 (zl_size hl) dX10_ask_39 dX10_ask_42 (Or.inl ⟨dX10_ask_43, rfl⟩) dX10_ask_45 dX10_ask_48 (by decide) (by simp [zr_cat, in_cat]) (by decide +kernel) k37
    · replace hp := ite_p hp c7
      obtain ⟨k38, hp⟩ := ck_i hp
      cases hp
      exact r_throw (e0 := 2) (names := ["java/lang/RuntimeException", "java/lang/Exception"]) (text := "no such kind, or its number is out of range") C hfl htb hR hL (by decide +kernel) (by decide +kernel) mw_390 mw_14 (hK.2.2.2.2.2.2.2.2.2.2.2.1 (166, "no such kind, or its number is out of range") (by decide +kernel)) at_2 go_2 (zl_size hl) dX10_ask_15 dX10_ask_18 (Or.inl ⟨dX10_ask_19, rfl⟩) dX10_ask_21 dX10_ask_24 (by decide) (by simp [zr_cat, in_cat]) (by decide +kernel) k38
  · subst hre
    refine r_runVX (ci := 11) (r := (RX10, TX10, 7)) (n := 1) (As := [.int v1]) (rest := []) C (c_X10_textAt l hfl G v0 v1 h (.error e4) h' er2) hR rfl k1 mw_382 mw_384 mp_4 mw_1 mw_385 (by decide +kernel) (by decide) rfl (zl_size hl) rfl (by simp [zr_cat, in_cat]) dX10_ask_2 (fun cells slots hr => ?_)
    refine r_exRun hR hL hr (fun q9 ce H locs cells slots hR hL hce hcv hcl => ?_)
    exact r_out C htb hR hL hce hcv hcl
def p_X10_ask (v0 : Nat) (v1 : Int32) (v2 : Int32) (v3 : Int32) (h : AH) : Option (Except Nat Int32 × AH) := ck (v0 ≠ 0) <| p_X10_ask_0 v0 v1 v2 v3 h
theorem c_X10_ask (l : Launch) (hfl : l.stackTraces = false) (G : GG) (v0 : Nat) (v1 : Int32) (v2 : Int32) (v3 : Int32) (h : AH) (r : Except Nat Int32) (h' : AH) (hp : p_X10_ask v0 v1 v2 v3 h = some (r, h')) : Cxt l yX10_ask (.code yX10_ask cX10_ask 5 (some .int) :: MW) G 8 197 [.ref (v0 - 1), .int v1, .int v2, .int v3] h (fun x => some (.int x)) r h' := by
  obtain ⟨hz0, hp⟩ := ck_i hp
  refine Cxt.of (by decide +kernel) (Nat.le_of_ble_eq_true rfl) ?_
  intro p e s m args below meth c C htb hR ls hl
  have hl : zl ls 5 [(0, zr v0), (1, .int v1), (2, .int v2), (3, .int v3)] := ⟨by rw [zr_p hz0]; exact hl, by simp [zr_cat, in_cat]⟩
  exact s_X10_ask_0 hfl htb C hR (fun _ hq => nomatch hq) hl hp
/-! CursorKeep.formatAt(I)LCursorKeep$Format; -/
def p_X10_formatAt_17   (h : AH) : Option (Except Nat Nat × AH) :=
  ck (aZ h + 1 ≤ aC h ∧ aU h + 6 ≤ gS) <|
  some (.error 1, uN h 0 6)
set_option maxHeartbeats 4000000 in
set_option maxRecDepth 100000 in
theorem s_X10_formatAt_17 {p : Program} {l : Launch} {e : Env} {s : State} {m : MethodId} {args : Array Value} {below : List Frame} {meth : Method} {c : Code} {G : GG} {hs : AH} {r : Except Nat Nat} {h' : AH} (hfl : l.stackTraces = false) (htb : ∀ x ∈ c.exceptionTable.toList, False) (C : Cx G hs p s m args meth c cX10_formatAt 2 RX10 (.code yX10_formatAt cX10_formatAt 2 (some (.object "CursorKeep$Format")) :: MW) (some (.object "CursorKeep$Format")) "formatAt")    {h : AH} {H : Heap} {locs : List Loc} {cells slots : Nat} {ls : Array Slot} (hR : Rp G h H) (hL : ∀ q ∈ locs, gB G ≤ q.base) (hl : zl ls 2 []) (hp : p_X10_formatAt_17   h = some (r, h')) : W p l e (gR G hs 6 110) s m args below meth c H locs cells slots (vx_MQ below (Qxx G (fun x => some (zr x)) r h') (Xxx G r h') args s (gC G - aZ hs) (gS - aU hs) (fun q => gB G ≤ q)) (F0 m 17 ls []) := by
  obtain ⟨hx, hb, hml, hown, hts, hT, hK, rs, hlk, hret, hnm⟩ := id C
  have hm : ∀ w ∈ MW, w.before args s = true := fun w hw => hts w (hT w hw)
  unfold p_X10_formatAt_17 at hp
  obtain ⟨k1, hp⟩ := ck_i hp
  cases hp
  exact r_throw (e0 := 1) (names := ["java/lang/RuntimeException", "java/lang/Exception"]) (text := "no such format") C hfl htb hR hL (by decide +kernel) (by decide +kernel) mw_314 mw_13 (hK.2.2.2.2.2.2.2.2.2.2.2.1 (272, "no such format") (by decide +kernel)) at_1 go_1 (zl_size hl) dX10_formatAt_17 dX10_formatAt_20 (Or.inr ⟨dX10_formatAt_21, rfl⟩) dX10_formatAt_24 dX10_formatAt_27 (by decide) (by simp [zr_cat, in_cat]) (by decide +kernel) k1
def p_X10_formatAt_0  (v0 : Nat) (v1 : Int32) (h : AH) : Option (Except Nat Nat × AH) :=
  if v1 < 0 then
    p_X10_formatAt_17   h
  else
    ck (aK h v0 = 12) <|
    ck (aK h (aR h v0 2) = 1) <|
    bR (p_Jx4a65c_size_8abf5 (aR h v0 2) h) fun r4 h5 =>
    if v1 < r4 then
      ck (aK h5 v0 = 12) <|
      ck (aK h5 (aR h5 v0 2) = 1) <|
      bR (p_Jx4a65c_get_915e3 (aR h5 v0 2) v1 h5) fun r9 h10 =>
      ck (aK h10 r9 = 5) <|
      some (.ok r9, h10)
    else
      p_X10_formatAt_17   h5
set_option maxHeartbeats 4000000 in
set_option maxRecDepth 100000 in
theorem s_X10_formatAt_0 {p : Program} {l : Launch} {e : Env} {s : State} {m : MethodId} {args : Array Value} {below : List Frame} {meth : Method} {c : Code} {G : GG} {hs : AH} {r : Except Nat Nat} {h' : AH} (hfl : l.stackTraces = false) (htb : ∀ x ∈ c.exceptionTable.toList, False) (C : Cx G hs p s m args meth c cX10_formatAt 2 RX10 (.code yX10_formatAt cX10_formatAt 2 (some (.object "CursorKeep$Format")) :: MW) (some (.object "CursorKeep$Format")) "formatAt")   {v0 : Nat} {v1 : Int32} {h : AH} {H : Heap} {locs : List Loc} {cells slots : Nat} {ls : Array Slot} (hR : Rp G h H) (hL : ∀ q ∈ locs, gB G ≤ q.base) (hl : zl ls 2 [(0, zr v0), (1, .int v1)]) (hp : p_X10_formatAt_0  v0 v1 h = some (r, h')) : W p l e (gR G hs 6 110) s m args below meth c H locs cells slots (vx_MQ below (Qxx G (fun x => some (zr x)) r h') (Xxx G r h') args s (gC G - aZ hs) (gS - aU hs) (fun q => gB G ≤ q)) (F0 m 0 ls []) := by
  obtain ⟨hx, hb, hml, hown, hts, hT, hK, rs, hlk, hret, hnm⟩ := id C
  have hm : ∀ w ∈ MW, w.before args s = true := fun w hw => hts w (hT w hw)
  unfold p_X10_formatAt_0 at hp
  refine lv_iload_n hx hb dX10_formatAt_0 rfl (zl_at hl 1 rfl) ?_
  refine lv_if_lt (tgt := 17) hx hb dX10_formatAt_1 (by decide) (fun c1 => ?_) (fun c1 => ?_)
  · replace hp := ite_p hp c1
    exact s_X10_formatAt_17 hfl htb C  hR hL (zl_sub hl [] rfl) hp
  · replace hp := ite_n hp c1
    refine lv_iload_n hx hb dX10_formatAt_4 rfl (zl_at hl 1 rfl) ?_
    refine z_aload_n hx hb dX10_formatAt_5 rfl (zl_at hl 0 rfl) ?_
    obtain ⟨k2, hp⟩ := ck_i hp
    refine r_get (ci := 11) (C := RX10) (T := TX10) (N := 7) (v := zr (aR h v0 2)) hx hb hm ii_X10 hown hK hR rfl k2 2 (by decide) (hm _ mw_185) (fun _ h9 => h9) rfl dX10_formatAt_6 ?_
    obtain ⟨k3, hp⟩ := ck_i hp
    obtain ⟨r4, h5, er4, hp⟩ := bR_i hp
    refine r_callF (ci := 0) (r := (RJx4a65c, TJx4a65c, 3)) (x := ⟨"java/util/List", "size", "()I"⟩) (n := 0) (As := []) (rest := [.int v1]) C (c_Jx4a65c_size_8abf5 l G (aR h v0 2) h r4 h5 er4) hR hL rfl k3 mw_210 mw_214 mw_216 mw_4 mw_218 (fw_size hK) (by decide +kernel) (by decide) rfl (zl_size hl) rfl (by simp [zr_cat, in_cat]) dX10_formatAt_9 (st2 := [.int r4, .int v1]) rfl (fun H locs cells slots hR hL => ?_)
    refine lv_icmp_lt (tgt := 28) hx hb dX10_formatAt_14 (by decide) (fun c6 => ?_) (fun c6 => ?_)
    · replace hp := ite_p hp c6
      refine z_aload_n hx hb dX10_formatAt_28 rfl (zl_at hl 0 rfl) ?_
      obtain ⟨k7, hp⟩ := ck_i hp
      refine r_get (ci := 11) (C := RX10) (T := TX10) (N := 7) (v := zr (aR h5 v0 2)) hx hb hm ii_X10 hown hK hR rfl k7 2 (by decide) (hm _ mw_185) (fun _ h9 => h9) rfl dX10_formatAt_29 ?_
      refine lv_iload_n hx hb dX10_formatAt_32 rfl (zl_at hl 1 rfl) ?_
      obtain ⟨k8, hp⟩ := ck_i hp
      obtain ⟨r9, h10, er9, hp⟩ := bR_i hp
      refine r_callF (ci := 0) (r := (RJx4a65c, TJx4a65c, 3)) (x := ⟨"java/util/List", "get", "(I)Ljava/lang/Object;"⟩) (n := 1) (As := [.int v1]) (rest := []) C (c_Jx4a65c_get_915e3 l G (aR h5 v0 2) v1 h5 r9 h10 er9) hR hL rfl k8 mw_220 mw_223 mw_225 mw_4 mw_227 (fw_get hK) (by decide +kernel) (by decide) rfl (zl_size hl) rfl (by simp [zr_cat, in_cat]) dX10_formatAt_33 (st2 := [zr r9]) rfl (fun H locs cells slots hR hL => ?_)
      obtain ⟨k11, hp⟩ := ck_i hp
      refine r_castC (ci := 4) (r := (RX3, TX3, 4)) hx hb hown (hm _ mw_730) hK hR rfl k11 dX10_formatAt_38 ?_
      cases hp
      exact r_aretX (by first | exact Or.inl ⟨_, rfl⟩ | exact Or.inr ⟨_, rfl⟩) C hR hL dX10_formatAt_41
    · replace hp := ite_n hp c6
      exact s_X10_formatAt_17 hfl htb C  hR hL (zl_sub hl [] rfl) hp
def p_X10_formatAt (v0 : Nat) (v1 : Int32) (h : AH) : Option (Except Nat Nat × AH) := ck (v0 ≠ 0) <| p_X10_formatAt_0 v0 v1 h
theorem c_X10_formatAt (l : Launch) (hfl : l.stackTraces = false) (G : GG) (v0 : Nat) (v1 : Int32) (h : AH) (r : Except Nat Nat) (h' : AH) (hp : p_X10_formatAt v0 v1 h = some (r, h')) : Cxt l yX10_formatAt (.code yX10_formatAt cX10_formatAt 2 (some (.object "CursorKeep$Format")) :: MW) G 6 110 [.ref (v0 - 1), .int v1] h (fun x => some (zr x)) r h' := by
  obtain ⟨hz0, hp⟩ := ck_i hp
  refine Cxt.of (by decide +kernel) (Nat.le_of_ble_eq_true rfl) ?_
  intro p e s m args below meth c C htb hR ls hl
  have hl : zl ls 2 [(0, zr v0), (1, .int v1)] := ⟨by rw [zr_p hz0]; exact hl, by simp [zr_cat, in_cat]⟩
  exact s_X10_formatAt_0 hfl htb C hR (fun _ hq => nomatch hq) hl hp
/-! CursorKeep.waitingFormatAt(I)LCursorKeep$Format; -/
def p_X10_waitingFormatAt_0  (v0 : Nat) (v1 : Int32) (h : AH) : Option (Except Nat Nat × AH) :=
  ck (aK h v0 = 12) <|
  bX (0) (p_X10_formatAt v0 v1 h) fun r2 h3 =>
  ck (aK h3 r2 = 5) <|
  if (aI h3 r2 2) = 0 then
    some (.ok r2, h3)
  else
    ck (aZ h3 + 1 ≤ aC h3 ∧ aU h3 + 6 ≤ gS) <|
    some (.error 3, uN h3 0 6)
set_option maxHeartbeats 4000000 in
set_option maxRecDepth 100000 in
theorem s_X10_waitingFormatAt_0 {p : Program} {l : Launch} {e : Env} {s : State} {m : MethodId} {args : Array Value} {below : List Frame} {meth : Method} {c : Code} {G : GG} {hs : AH} {r : Except Nat Nat} {h' : AH} (hfl : l.stackTraces = false) (htb : ∀ x ∈ c.exceptionTable.toList, False) (C : Cx G hs p s m args meth c cX10_waitingFormatAt 3 RX10 (.code yX10_waitingFormatAt cX10_waitingFormatAt 3 (some (.object "CursorKeep$Format")) :: MW) (some (.object "CursorKeep$Format")) "waitingFormatAt")   {v0 : Nat} {v1 : Int32} {h : AH} {H : Heap} {locs : List Loc} {cells slots : Nat} {ls : Array Slot} (hR : Rp G h H) (hL : ∀ q ∈ locs, gB G ≤ q.base) (hl : zl ls 3 [(0, zr v0), (1, .int v1)]) (hp : p_X10_waitingFormatAt_0  v0 v1 h = some (r, h')) : W p l e (gR G hs 7 131) s m args below meth c H locs cells slots (vx_MQ below (Qxx G (fun x => some (zr x)) r h') (Xxx G r h') args s (gC G - aZ hs) (gS - aU hs) (fun q => gB G ≤ q)) (F0 m 0 ls []) := by
  obtain ⟨hx, hb, hml, hown, hts, hT, hK, rs, hlk, hret, hnm⟩ := id C
  have hm : ∀ w ∈ MW, w.before args s = true := fun w hw => hts w (hT w hw)
  unfold p_X10_waitingFormatAt_0 at hp
  refine z_aload_n hx hb dX10_waitingFormatAt_0 rfl (zl_at hl 0 rfl) ?_
  refine lv_iload_n hx hb dX10_waitingFormatAt_1 rfl (zl_at hl 1 rfl) ?_
  obtain ⟨k1, hp⟩ := ck_i hp
  rcases bX_i hp with ⟨r2, h3, er2, hp⟩ | ⟨e4, er2, hre⟩
  · refine r_runVX (ci := 11) (r := (RX10, TX10, 7)) (n := 1) (As := [.int v1]) (rest := []) C (c_X10_formatAt l hfl G v0 v1 h (.ok r2) h3 er2) hR rfl k1 mw_835 mw_837 mp_17 mw_1 mw_838 (by decide +kernel) (by decide) rfl (zl_size hl) rfl (by simp [zr_cat, in_cat]) dX10_waitingFormatAt_2 (fun cells slots hr => ?_)
    refine r_okRun hR hL hr (fun H locs cells slots hR hL => ?_)
    refine W.eq (g2 := F0 m 5 ls [zr r2]) rfl ?_
    refine z_astore_n (lv' := [(2, zr r2), (0, zr v0), (1, .int v1)]) hx hb dX10_waitingFormatAt_5 rfl hl (by decide) rfl (fun ls hl => ?_)
    refine z_aload_n hx hb dX10_waitingFormatAt_6 rfl (zl_at hl 0 rfl) ?_
    obtain ⟨k5, hp⟩ := ck_i hp
    refine r_get (ci := 4) (C := RX3) (T := TX3) (N := 4) (v := .int (aI h3 r2 2)) hx hb hm ii_X3 hown hK hR rfl k5 2 (by decide) (hm _ mw_810) (fun _ h9 => h9) rfl dX10_waitingFormatAt_7 ?_
    refine lv_if_eq (tgt := 24) hx hb dX10_waitingFormatAt_10 (by decide) (fun c6 => ?_) (fun c6 => ?_)
    · replace hp := ite_p hp c6
      refine z_aload_n hx hb dX10_waitingFormatAt_24 rfl (zl_at hl 0 rfl) ?_
      cases hp
      exact r_aretX (by first | exact Or.inl ⟨_, rfl⟩ | exact Or.inr ⟨_, rfl⟩) C hR hL dX10_waitingFormatAt_25
    · replace hp := ite_n hp c6
      obtain ⟨k7, hp⟩ := ck_i hp
      cases hp
      exact r_throw (e0 := 3) (names := ["java/lang/RuntimeException", "java/lang/Exception"]) (text := "the format is not waiting") C hfl htb hR hL (by decide +kernel) (by decide +kernel) mw_410 mw_15 (hK.2.2.2.2.2.2.2.2.2.2.2.1 (274, "the format is not waiting") (by decide +kernel)) at_3 go_3 (zl_size hl) dX10_waitingFormatAt_13 dX10_waitingFormatAt_16 (Or.inr ⟨dX10_waitingFormatAt_17, rfl⟩) dX10_waitingFormatAt_20 dX10_waitingFormatAt_23 (by decide) (by simp [zr_cat, in_cat]) (by decide +kernel) k7
  · subst hre
    refine r_runVX (ci := 11) (r := (RX10, TX10, 7)) (n := 1) (As := [.int v1]) (rest := []) C (c_X10_formatAt l hfl G v0 v1 h (.error e4) h' er2) hR rfl k1 mw_835 mw_837 mp_17 mw_1 mw_838 (by decide +kernel) (by decide) rfl (zl_size hl) rfl (by simp [zr_cat, in_cat]) dX10_waitingFormatAt_2 (fun cells slots hr => ?_)
    refine r_exRun hR hL hr (fun q9 ce H locs cells slots hR hL hce hcv hcl => ?_)
    exact r_out C htb hR hL hce hcv hcl
def p_X10_waitingFormatAt (v0 : Nat) (v1 : Int32) (h : AH) : Option (Except Nat Nat × AH) := ck (v0 ≠ 0) <| p_X10_waitingFormatAt_0 v0 v1 h
theorem c_X10_waitingFormatAt (l : Launch) (hfl : l.stackTraces = false) (G : GG) (v0 : Nat) (v1 : Int32) (h : AH) (r : Except Nat Nat) (h' : AH) (hp : p_X10_waitingFormatAt v0 v1 h = some (r, h')) : Cxt l yX10_waitingFormatAt (.code yX10_waitingFormatAt cX10_waitingFormatAt 3 (some (.object "CursorKeep$Format")) :: MW) G 7 131 [.ref (v0 - 1), .int v1] h (fun x => some (zr x)) r h' := by
  obtain ⟨hz0, hp⟩ := ck_i hp
  refine Cxt.of (by decide +kernel) (Nat.le_of_ble_eq_true rfl) ?_
  intro p e s m args below meth c C htb hR ls hl
  have hl : zl ls 3 [(0, zr v0), (1, .int v1)] := ⟨by rw [zr_p hz0]; exact hl, by simp [zr_cat, in_cat]⟩
  exact s_X10_waitingFormatAt_0 hfl htb C hR (fun _ hq => nomatch hq) hl hp
/-! CursorKeep.come(I)I -/
def p_X10_come_0  (v0 : Nat) (v1 : Int32) (h : AH) : Option (Except Nat Int32 × AH) :=
  ck (aK h v0 = 12) <|
  bX (0) (p_X10_waitingFormatAt v0 v1 h) fun r2 h3 =>
  ck (aK h3 v0 = 12) <|
  ck (aK h3 r2 = 5) <|
  bR (p_X3_judge r2 (aR h3 v0 5) h3) fun r7 h8 =>
  ck (aK h8 r2 = 5) <|
  bR (p_X3_doChanges r2 h8) fun r10 h11 =>
  ck (aK h11 r2 = 5) <|
  bR (p_X3_end r2 (iI 1) r7 h11) fun r13 h14 =>
  ck (aK h14 r2 = 5) <|
  ck (aK h14 (aR h14 r2 1) = 1) <|
  bR (p_Jx4a65c_size_8abf5 (aR h14 r2 1) h14) fun r17 h18 =>
  some (.ok (r17 - r7), h18)
set_option maxHeartbeats 4000000 in
set_option maxRecDepth 100000 in
theorem s_X10_come_0 {p : Program} {l : Launch} {e : Env} {s : State} {m : MethodId} {args : Array Value} {below : List Frame} {meth : Method} {c : Code} {G : GG} {hs : AH} {r : Except Nat Int32} {h' : AH} (hfl : l.stackTraces = false) (htb : ∀ x ∈ c.exceptionTable.toList, False) (C : Cx G hs p s m args meth c cX10_come 4 RX10 (.code yX10_come cX10_come 4 (some .int) :: MW) (some .int) "come")   {v0 : Nat} {v1 : Int32} {h : AH} {H : Heap} {locs : List Loc} {cells slots : Nat} {ls : Array Slot} (hR : Rp G h H) (hL : ∀ q ∈ locs, gB G ≤ q.base) (hl : zl ls 4 [(0, zr v0), (1, .int v1)]) (hp : p_X10_come_0  v0 v1 h = some (r, h')) : W p l e (gR G hs 10 239) s m args below meth c H locs cells slots (vx_MQ below (Qxx G (fun x => some (.int x)) r h') (Xxx G r h') args s (gC G - aZ hs) (gS - aU hs) (fun q => gB G ≤ q)) (F0 m 0 ls []) := by
  obtain ⟨hx, hb, hml, hown, hts, hT, hK, rs, hlk, hret, hnm⟩ := id C
  have hm : ∀ w ∈ MW, w.before args s = true := fun w hw => hts w (hT w hw)
  unfold p_X10_come_0 at hp
  refine z_aload_n hx hb dX10_come_0 rfl (zl_at hl 0 rfl) ?_
  refine lv_iload_n hx hb dX10_come_1 rfl (zl_at hl 1 rfl) ?_
  obtain ⟨k1, hp⟩ := ck_i hp
  rcases bX_i hp with ⟨r2, h3, er2, hp⟩ | ⟨e4, er2, hre⟩
  · refine r_runVX (ci := 11) (r := (RX10, TX10, 7)) (n := 1) (As := [.int v1]) (rest := []) C (c_X10_waitingFormatAt l hfl G v0 v1 h (.ok r2) h3 er2) hR rfl k1 mw_831 mw_833 mp_16 mw_1 mw_834 (by decide +kernel) (by decide) rfl (zl_size hl) rfl (by simp [zr_cat, in_cat]) dX10_come_2 (fun cells slots hr => ?_)
    refine r_okRun hR hL hr (fun H locs cells slots hR hL => ?_)
    refine W.eq (g2 := F0 m 5 ls [zr r2]) rfl ?_
    refine z_astore_n (lv' := [(2, zr r2), (0, zr v0), (1, .int v1)]) hx hb dX10_come_5 rfl hl (by decide) rfl (fun ls hl => ?_)
    refine z_aload_n hx hb dX10_come_6 rfl (zl_at hl 0 rfl) ?_
    refine z_aload_n hx hb dX10_come_7 rfl (zl_at hl 1 rfl) ?_
    obtain ⟨k5, hp⟩ := ck_i hp
    refine r_get (ci := 11) (C := RX10) (T := TX10) (N := 7) (v := zr (aR h3 v0 5)) hx hb hm ii_X10 hown hK hR rfl k5 5 (by decide) (hm _ mw_188) (fun _ h9 => h9) rfl dX10_come_8 ?_
    obtain ⟨k6, hp⟩ := ck_i hp
    obtain ⟨r7, h8, er7, hp⟩ := bR_i hp
    refine r_callV (ci := 4) (r := (RX3, TX3, 4)) (n := 1) (As := [zr (aR h3 v0 5)]) (rest := []) C (c_X3_judge l G r2 (aR h3 v0 5) h3 r7 h8 er7) hR hL rfl k6 mw_841 mw_842 mw_843 mw_24 mw_844 (by decide +kernel) (by decide) rfl (zl_size hl) rfl (by simp [zr_cat, in_cat]) dX10_come_11 (st2 := [.int r7]) rfl (fun H locs cells slots hR hL => ?_)
    refine z_istore_n (lv' := [(3, .int r7), (2, zr r2), (0, zr v0), (1, .int v1)]) hx hb dX10_come_14 rfl hl (by decide) rfl (fun ls hl => ?_)
    refine z_aload_n hx hb dX10_come_15 rfl (zl_at hl 1 rfl) ?_
    obtain ⟨k9, hp⟩ := ck_i hp
    obtain ⟨r10, h11, er10, hp⟩ := bR_i hp
    refine r_callV (ci := 4) (r := (RX3, TX3, 4)) (n := 0) (As := []) (rest := []) C (c_X3_doChanges l G r2 h8 r10 h11 er10) hR hL rfl k9 mw_869 mw_870 mw_871 mw_24 mw_872 (by decide +kernel) (by decide) rfl (zl_size hl) rfl (by simp [zr_cat, in_cat]) dX10_come_16 (st2 := []) rfl (fun H locs cells slots hR hL => ?_)
    refine z_aload_n hx hb dX10_come_19 rfl (zl_at hl 1 rfl) ?_
    refine lv_iconst (v := iI 1) hx hb dX10_come_20 rfl ?_
    refine lv_iload_n hx hb dX10_come_21 rfl (zl_at hl 0 rfl) ?_
    obtain ⟨k12, hp⟩ := ck_i hp
    obtain ⟨r13, h14, er13, hp⟩ := bR_i hp
    refine r_callV (ci := 4) (r := (RX3, TX3, 4)) (n := 2) (As := [.int (iI 1), .int r7]) (rest := []) C (c_X3_end l G r2 (iI 1) r7 h11 r13 h14 er13) hR hL rfl k12 mw_878 mw_879 mw_880 mw_24 mw_881 (by decide +kernel) (by decide) rfl (zl_size hl) rfl (by simp [zr_cat, in_cat]) dX10_come_22 (st2 := []) rfl (fun H locs cells slots hR hL => ?_)
    refine z_aload_n hx hb dX10_come_25 rfl (zl_at hl 1 rfl) ?_
    obtain ⟨k15, hp⟩ := ck_i hp
    refine r_get (ci := 4) (C := RX3) (T := TX3) (N := 4) (v := zr (aR h14 r2 1)) hx hb hm ii_X3 hown hK hR rfl k15 1 (by decide) (hm _ mw_807) (fun _ h9 => h9) rfl dX10_come_26 ?_
    obtain ⟨k16, hp⟩ := ck_i hp
    obtain ⟨r17, h18, er17, hp⟩ := bR_i hp
    refine r_callF (ci := 0) (r := (RJx4a65c, TJx4a65c, 3)) (x := ⟨"java/util/List", "size", "()I"⟩) (n := 0) (As := []) (rest := []) C (c_Jx4a65c_size_8abf5 l G (aR h14 r2 1) h14 r17 h18 er17) hR hL rfl k16 mw_210 mw_214 mw_216 mw_4 mw_218 (fw_size hK) (by decide +kernel) (by decide) rfl (zl_size hl) rfl (by simp [zr_cat, in_cat]) dX10_come_29 (st2 := [.int r17]) rfl (fun H locs cells slots hR hL => ?_)
    refine lv_iload_n hx hb dX10_come_34 rfl (zl_at hl 0 rfl) ?_
    refine lv_isub hx hb dX10_come_35 ?_
    cases hp
    exact r_zretX C hR hL rfl dX10_come_36
  · subst hre
    refine r_runVX (ci := 11) (r := (RX10, TX10, 7)) (n := 1) (As := [.int v1]) (rest := []) C (c_X10_waitingFormatAt l hfl G v0 v1 h (.error e4) h' er2) hR rfl k1 mw_831 mw_833 mp_16 mw_1 mw_834 (by decide +kernel) (by decide) rfl (zl_size hl) rfl (by simp [zr_cat, in_cat]) dX10_come_2 (fun cells slots hr => ?_)
    refine r_exRun hR hL hr (fun q9 ce H locs cells slots hR hL hce hcv hcl => ?_)
    exact r_out C htb hR hL hce hcv hcl
def p_X10_come (v0 : Nat) (v1 : Int32) (h : AH) : Option (Except Nat Int32 × AH) := ck (v0 ≠ 0) <| p_X10_come_0 v0 v1 h
theorem c_X10_come (l : Launch) (hfl : l.stackTraces = false) (G : GG) (v0 : Nat) (v1 : Int32) (h : AH) (r : Except Nat Int32) (h' : AH) (hp : p_X10_come v0 v1 h = some (r, h')) : Cxt l yX10_come (.code yX10_come cX10_come 4 (some .int) :: MW) G 10 239 [.ref (v0 - 1), .int v1] h (fun x => some (.int x)) r h' := by
  obtain ⟨hz0, hp⟩ := ck_i hp
  refine Cxt.of (by decide +kernel) (Nat.le_of_ble_eq_true rfl) ?_
  intro p e s m args below meth c C htb hR ls hl
  have hl : zl ls 4 [(0, zr v0), (1, .int v1)] := ⟨by rw [zr_p hz0]; exact hl, by simp [zr_cat, in_cat]⟩
  exact s_X10_come_0 hfl htb C hR (fun _ hq => nomatch hq) hl hp
/-! CursorKeep.drop(I)I -/
def p_X10_drop_0  (v0 : Nat) (v1 : Int32) (h : AH) : Option (Except Nat Int32 × AH) :=
  ck (aK h v0 = 12) <|
  bX (0) (p_X10_waitingFormatAt v0 v1 h) fun r2 h3 =>
  ck (aK h3 r2 = 5) <|
  ck (aK h3 (aR h3 r2 1) = 1) <|
  bR (p_Jx4a65c_size_8abf5 (aR h3 r2 1) h3) fun r7 h8 =>
  ck (aK h8 r2 = 5) <|
  bR (p_X3_end r2 (iI 2) r7 h8) fun r10 h11 =>
  ck (aK h11 r2 = 5) <|
  ck (aK h11 (aR h11 r2 1) = 1) <|
  bR (p_Jx4a65c_size_8abf5 (aR h11 r2 1) h11) fun r14 h15 =>
  some (.ok r14, h15)
set_option maxHeartbeats 4000000 in
set_option maxRecDepth 100000 in
theorem s_X10_drop_0 {p : Program} {l : Launch} {e : Env} {s : State} {m : MethodId} {args : Array Value} {below : List Frame} {meth : Method} {c : Code} {G : GG} {hs : AH} {r : Except Nat Int32} {h' : AH} (hfl : l.stackTraces = false) (htb : ∀ x ∈ c.exceptionTable.toList, False) (C : Cx G hs p s m args meth c cX10_drop 3 RX10 (.code yX10_drop cX10_drop 3 (some .int) :: MW) (some .int) "drop")   {v0 : Nat} {v1 : Int32} {h : AH} {H : Heap} {locs : List Loc} {cells slots : Nat} {ls : Array Slot} (hR : Rp G h H) (hL : ∀ q ∈ locs, gB G ≤ q.base) (hl : zl ls 3 [(0, zr v0), (1, .int v1)]) (hp : p_X10_drop_0  v0 v1 h = some (r, h')) : W p l e (gR G hs 8 153) s m args below meth c H locs cells slots (vx_MQ below (Qxx G (fun x => some (.int x)) r h') (Xxx G r h') args s (gC G - aZ hs) (gS - aU hs) (fun q => gB G ≤ q)) (F0 m 0 ls []) := by
  obtain ⟨hx, hb, hml, hown, hts, hT, hK, rs, hlk, hret, hnm⟩ := id C
  have hm : ∀ w ∈ MW, w.before args s = true := fun w hw => hts w (hT w hw)
  unfold p_X10_drop_0 at hp
  refine z_aload_n hx hb dX10_drop_0 rfl (zl_at hl 0 rfl) ?_
  refine lv_iload_n hx hb dX10_drop_1 rfl (zl_at hl 1 rfl) ?_
  obtain ⟨k1, hp⟩ := ck_i hp
  rcases bX_i hp with ⟨r2, h3, er2, hp⟩ | ⟨e4, er2, hre⟩
  · refine r_runVX (ci := 11) (r := (RX10, TX10, 7)) (n := 1) (As := [.int v1]) (rest := []) C (c_X10_waitingFormatAt l hfl G v0 v1 h (.ok r2) h3 er2) hR rfl k1 mw_831 mw_833 mp_16 mw_1 mw_834 (by decide +kernel) (by decide) rfl (zl_size hl) rfl (by simp [zr_cat, in_cat]) dX10_drop_2 (fun cells slots hr => ?_)
    refine r_okRun hR hL hr (fun H locs cells slots hR hL => ?_)
    refine W.eq (g2 := F0 m 5 ls [zr r2]) rfl ?_
    refine z_astore_n (lv' := [(2, zr r2), (0, zr v0), (1, .int v1)]) hx hb dX10_drop_5 rfl hl (by decide) rfl (fun ls hl => ?_)
    refine z_aload_n hx hb dX10_drop_6 rfl (zl_at hl 0 rfl) ?_
    refine lv_iconst (v := iI 2) hx hb dX10_drop_7 rfl ?_
    refine z_aload_n hx hb dX10_drop_8 rfl (zl_at hl 0 rfl) ?_
    obtain ⟨k5, hp⟩ := ck_i hp
    refine r_get (ci := 4) (C := RX3) (T := TX3) (N := 4) (v := zr (aR h3 r2 1)) hx hb hm ii_X3 hown hK hR rfl k5 1 (by decide) (hm _ mw_807) (fun _ h9 => h9) rfl dX10_drop_9 ?_
    obtain ⟨k6, hp⟩ := ck_i hp
    obtain ⟨r7, h8, er7, hp⟩ := bR_i hp
    refine r_callF (ci := 0) (r := (RJx4a65c, TJx4a65c, 3)) (x := ⟨"java/util/List", "size", "()I"⟩) (n := 0) (As := []) (rest := [.int (iI 2), zr r2]) C (c_Jx4a65c_size_8abf5 l G (aR h3 r2 1) h3 r7 h8 er7) hR hL rfl k6 mw_210 mw_214 mw_216 mw_4 mw_218 (fw_size hK) (by decide +kernel) (by decide) rfl (zl_size hl) rfl (by simp [zr_cat, in_cat]) dX10_drop_12 (st2 := [.int r7, .int (iI 2), zr r2]) rfl (fun H locs cells slots hR hL => ?_)
    obtain ⟨k9, hp⟩ := ck_i hp
    obtain ⟨r10, h11, er10, hp⟩ := bR_i hp
    refine r_callV (ci := 4) (r := (RX3, TX3, 4)) (n := 2) (As := [.int (iI 2), .int r7]) (rest := []) C (c_X3_end l G r2 (iI 2) r7 h8 r10 h11 er10) hR hL rfl k9 mw_878 mw_879 mw_880 mw_24 mw_881 (by decide +kernel) (by decide) rfl (zl_size hl) rfl (by simp [zr_cat, in_cat]) dX10_drop_17 (st2 := []) rfl (fun H locs cells slots hR hL => ?_)
    refine z_aload_n hx hb dX10_drop_20 rfl (zl_at hl 0 rfl) ?_
    obtain ⟨k12, hp⟩ := ck_i hp
    refine r_get (ci := 4) (C := RX3) (T := TX3) (N := 4) (v := zr (aR h11 r2 1)) hx hb hm ii_X3 hown hK hR rfl k12 1 (by decide) (hm _ mw_807) (fun _ h9 => h9) rfl dX10_drop_21 ?_
    obtain ⟨k13, hp⟩ := ck_i hp
    obtain ⟨r14, h15, er14, hp⟩ := bR_i hp
    refine r_callF (ci := 0) (r := (RJx4a65c, TJx4a65c, 3)) (x := ⟨"java/util/List", "size", "()I"⟩) (n := 0) (As := []) (rest := []) C (c_Jx4a65c_size_8abf5 l G (aR h11 r2 1) h11 r14 h15 er14) hR hL rfl k13 mw_210 mw_214 mw_216 mw_4 mw_218 (fw_size hK) (by decide +kernel) (by decide) rfl (zl_size hl) rfl (by simp [zr_cat, in_cat]) dX10_drop_24 (st2 := [.int r14]) rfl (fun H locs cells slots hR hL => ?_)
    cases hp
    exact r_zretX C hR hL rfl dX10_drop_29
  · subst hre
    refine r_runVX (ci := 11) (r := (RX10, TX10, 7)) (n := 1) (As := [.int v1]) (rest := []) C (c_X10_waitingFormatAt l hfl G v0 v1 h (.error e4) h' er2) hR rfl k1 mw_831 mw_833 mp_16 mw_1 mw_834 (by decide +kernel) (by decide) rfl (zl_size hl) rfl (by simp [zr_cat, in_cat]) dX10_drop_2 (fun cells slots hr => ?_)
    refine r_exRun hR hL hr (fun q9 ce H locs cells slots hR hL hce hcv hcl => ?_)
    exact r_out C htb hR hL hce hcv hcl
def p_X10_drop (v0 : Nat) (v1 : Int32) (h : AH) : Option (Except Nat Int32 × AH) := ck (v0 ≠ 0) <| p_X10_drop_0 v0 v1 h
theorem c_X10_drop (l : Launch) (hfl : l.stackTraces = false) (G : GG) (v0 : Nat) (v1 : Int32) (h : AH) (r : Except Nat Int32) (h' : AH) (hp : p_X10_drop v0 v1 h = some (r, h')) : Cxt l yX10_drop (.code yX10_drop cX10_drop 3 (some .int) :: MW) G 8 153 [.ref (v0 - 1), .int v1] h (fun x => some (.int x)) r h' := by
  obtain ⟨hz0, hp⟩ := ck_i hp
  refine Cxt.of (by decide +kernel) (Nat.le_of_ble_eq_true rfl) ?_
  intro p e s m args below meth c C htb hR ls hl
  have hl : zl ls 3 [(0, zr v0), (1, .int v1)] := ⟨by rw [zr_p hz0]; exact hl, by simp [zr_cat, in_cat]⟩
  exact s_X10_drop_0 hfl htb C hR (fun _ hq => nomatch hq) hl hp
/-! CursorKeep.state(I)I -/
def p_X10_state_0  (v0 : Nat) (v1 : Int32) (h : AH) : Option (Except Nat Int32 × AH) :=
  ck (aK h v0 = 12) <|
  bX (0) (p_X10_formatAt v0 v1 h) fun r2 h3 =>
  ck (aK h3 r2 = 5) <|
  some (.ok (aI h3 r2 2), h3)
set_option maxHeartbeats 4000000 in
set_option maxRecDepth 100000 in
theorem s_X10_state_0 {p : Program} {l : Launch} {e : Env} {s : State} {m : MethodId} {args : Array Value} {below : List Frame} {meth : Method} {c : Code} {G : GG} {hs : AH} {r : Except Nat Int32} {h' : AH} (hfl : l.stackTraces = false) (htb : ∀ x ∈ c.exceptionTable.toList, False) (C : Cx G hs p s m args meth c cX10_state 2 RX10 (.code yX10_state cX10_state 2 (some .int) :: MW) (some .int) "state")   {v0 : Nat} {v1 : Int32} {h : AH} {H : Heap} {locs : List Loc} {cells slots : Nat} {ls : Array Slot} (hR : Rp G h H) (hL : ∀ q ∈ locs, gB G ≤ q.base) (hl : zl ls 2 [(0, zr v0), (1, .int v1)]) (hp : p_X10_state_0  v0 v1 h = some (r, h')) : W p l e (gR G hs 7 131) s m args below meth c H locs cells slots (vx_MQ below (Qxx G (fun x => some (.int x)) r h') (Xxx G r h') args s (gC G - aZ hs) (gS - aU hs) (fun q => gB G ≤ q)) (F0 m 0 ls []) := by
  obtain ⟨hx, hb, hml, hown, hts, hT, hK, rs, hlk, hret, hnm⟩ := id C
  have hm : ∀ w ∈ MW, w.before args s = true := fun w hw => hts w (hT w hw)
  unfold p_X10_state_0 at hp
  refine z_aload_n hx hb dX10_state_0 rfl (zl_at hl 0 rfl) ?_
  refine lv_iload_n hx hb dX10_state_1 rfl (zl_at hl 1 rfl) ?_
  obtain ⟨k1, hp⟩ := ck_i hp
  rcases bX_i hp with ⟨r2, h3, er2, hp⟩ | ⟨e4, er2, hre⟩
  · refine r_runVX (ci := 11) (r := (RX10, TX10, 7)) (n := 1) (As := [.int v1]) (rest := []) C (c_X10_formatAt l hfl G v0 v1 h (.ok r2) h3 er2) hR rfl k1 mw_835 mw_837 mp_17 mw_1 mw_838 (by decide +kernel) (by decide) rfl (zl_size hl) rfl (by simp [zr_cat, in_cat]) dX10_state_2 (fun cells slots hr => ?_)
    refine r_okRun hR hL hr (fun H locs cells slots hR hL => ?_)
    refine W.eq (g2 := F0 m 5 ls [zr r2]) rfl ?_
    obtain ⟨k5, hp⟩ := ck_i hp
    refine r_get (ci := 4) (C := RX3) (T := TX3) (N := 4) (v := .int (aI h3 r2 2)) hx hb hm ii_X3 hown hK hR rfl k5 2 (by decide) (hm _ mw_810) (fun _ h9 => h9) rfl dX10_state_5 ?_
    cases hp
    exact r_zretX C hR hL rfl dX10_state_8
  · subst hre
    refine r_runVX (ci := 11) (r := (RX10, TX10, 7)) (n := 1) (As := [.int v1]) (rest := []) C (c_X10_formatAt l hfl G v0 v1 h (.error e4) h' er2) hR rfl k1 mw_835 mw_837 mp_17 mw_1 mw_838 (by decide +kernel) (by decide) rfl (zl_size hl) rfl (by simp [zr_cat, in_cat]) dX10_state_2 (fun cells slots hr => ?_)
    refine r_exRun hR hL hr (fun q9 ce H locs cells slots hR hL hce hcv hcl => ?_)
    exact r_out C htb hR hL hce hcv hcl
def p_X10_state (v0 : Nat) (v1 : Int32) (h : AH) : Option (Except Nat Int32 × AH) := ck (v0 ≠ 0) <| p_X10_state_0 v0 v1 h
theorem c_X10_state (l : Launch) (hfl : l.stackTraces = false) (G : GG) (v0 : Nat) (v1 : Int32) (h : AH) (r : Except Nat Int32) (h' : AH) (hp : p_X10_state v0 v1 h = some (r, h')) : Cxt l yX10_state (.code yX10_state cX10_state 2 (some .int) :: MW) G 7 131 [.ref (v0 - 1), .int v1] h (fun x => some (.int x)) r h' := by
  obtain ⟨hz0, hp⟩ := ck_i hp
  refine Cxt.of (by decide +kernel) (Nat.le_of_ble_eq_true rfl) ?_
  intro p e s m args below meth c C htb hR ls hl
  have hl : zl ls 2 [(0, zr v0), (1, .int v1)] := ⟨by rw [zr_p hz0]; exact hl, by simp [zr_cat, in_cat]⟩
  exact s_X10_state_0 hfl htb C hR (fun _ hq => nomatch hq) hl hp
/-! CursorKeep.spared(I)I -/
def p_X10_spared_28  (s0 : Int32) (h : AH) : Option (Except Nat Int32 × AH) :=
  some (.ok s0, h)
set_option maxHeartbeats 4000000 in
set_option maxRecDepth 100000 in
theorem s_X10_spared_28 {p : Program} {l : Launch} {e : Env} {s : State} {m : MethodId} {args : Array Value} {below : List Frame} {meth : Method} {c : Code} {G : GG} {hs : AH} {r : Except Nat Int32} {h' : AH} (hfl : l.stackTraces = false) (htb : ∀ x ∈ c.exceptionTable.toList, False) (C : Cx G hs p s m args meth c cX10_spared 3 RX10 (.code yX10_spared cX10_spared 3 (some .int) :: MW) (some .int) "spared")   {s0 : Int32} {h : AH} {H : Heap} {locs : List Loc} {cells slots : Nat} {ls : Array Slot} (hR : Rp G h H) (hL : ∀ q ∈ locs, gB G ≤ q.base) (hl : zl ls 3 []) (hp : p_X10_spared_28  s0 h = some (r, h')) : W p l e (gR G hs 7 153) s m args below meth c H locs cells slots (vx_MQ below (Qxx G (fun x => some (.int x)) r h') (Xxx G r h') args s (gC G - aZ hs) (gS - aU hs) (fun q => gB G ≤ q)) (F0 m 28 ls [.int s0]) := by
  obtain ⟨hx, hb, hml, hown, hts, hT, hK, rs, hlk, hret, hnm⟩ := id C
  have hm : ∀ w ∈ MW, w.before args s = true := fun w hw => hts w (hT w hw)
  unfold p_X10_spared_28 at hp
  cases hp
  exact r_zretX C hR hL rfl dX10_spared_28
def p_X10_spared_0  (v0 : Nat) (v1 : Int32) (h : AH) : Option (Except Nat Int32 × AH) :=
  ck (aK h v0 = 12) <|
  bX (0) (p_X10_formatAt v0 v1 h) fun r2 h3 =>
  ck (aK h3 r2 = 5) <|
  if (aI h3 r2 2) = 0 then
    ck (aK h3 v0 = 12) <|
    ck (aK h3 r2 = 5) <|
    bR (p_X3_judge r2 (aR h3 v0 5) h3) fun r10 h11 =>
    p_X10_spared_28  r10 h11
  else
    ck (aK h3 r2 = 5) <|
    p_X10_spared_28  (aI h3 r2 3) h3
set_option maxHeartbeats 4000000 in
set_option maxRecDepth 100000 in
theorem s_X10_spared_0 {p : Program} {l : Launch} {e : Env} {s : State} {m : MethodId} {args : Array Value} {below : List Frame} {meth : Method} {c : Code} {G : GG} {hs : AH} {r : Except Nat Int32} {h' : AH} (hfl : l.stackTraces = false) (htb : ∀ x ∈ c.exceptionTable.toList, False) (C : Cx G hs p s m args meth c cX10_spared 3 RX10 (.code yX10_spared cX10_spared 3 (some .int) :: MW) (some .int) "spared")   {v0 : Nat} {v1 : Int32} {h : AH} {H : Heap} {locs : List Loc} {cells slots : Nat} {ls : Array Slot} (hR : Rp G h H) (hL : ∀ q ∈ locs, gB G ≤ q.base) (hl : zl ls 3 [(0, zr v0), (1, .int v1)]) (hp : p_X10_spared_0  v0 v1 h = some (r, h')) : W p l e (gR G hs 7 153) s m args below meth c H locs cells slots (vx_MQ below (Qxx G (fun x => some (.int x)) r h') (Xxx G r h') args s (gC G - aZ hs) (gS - aU hs) (fun q => gB G ≤ q)) (F0 m 0 ls []) := by
  obtain ⟨hx, hb, hml, hown, hts, hT, hK, rs, hlk, hret, hnm⟩ := id C
  have hm : ∀ w ∈ MW, w.before args s = true := fun w hw => hts w (hT w hw)
  unfold p_X10_spared_0 at hp
  refine z_aload_n hx hb dX10_spared_0 rfl (zl_at hl 0 rfl) ?_
  refine lv_iload_n hx hb dX10_spared_1 rfl (zl_at hl 1 rfl) ?_
  obtain ⟨k1, hp⟩ := ck_i hp
  rcases bX_i hp with ⟨r2, h3, er2, hp⟩ | ⟨e4, er2, hre⟩
  · refine r_runVX (ci := 11) (r := (RX10, TX10, 7)) (n := 1) (As := [.int v1]) (rest := []) C (c_X10_formatAt l hfl G v0 v1 h (.ok r2) h3 er2) hR rfl k1 mw_835 mw_837 mp_17 mw_1 mw_838 (by decide +kernel) (by decide) rfl (zl_size hl) rfl (by simp [zr_cat, in_cat]) dX10_spared_2 (fun cells slots hr => ?_)
    refine r_okRun hR hL hr (fun H locs cells slots hR hL => ?_)
    refine W.eq (g2 := F0 m 5 ls [zr r2]) rfl ?_
    refine z_astore_n (lv' := [(2, zr r2), (0, zr v0), (1, .int v1)]) hx hb dX10_spared_5 rfl hl (by decide) rfl (fun ls hl => ?_)
    refine z_aload_n hx hb dX10_spared_6 rfl (zl_at hl 0 rfl) ?_
    obtain ⟨k5, hp⟩ := ck_i hp
    refine r_get (ci := 4) (C := RX3) (T := TX3) (N := 4) (v := .int (aI h3 r2 2)) hx hb hm ii_X3 hown hK hR rfl k5 2 (by decide) (hm _ mw_810) (fun _ h9 => h9) rfl dX10_spared_7 ?_
    refine lv_if_ne (tgt := 24) hx hb dX10_spared_10 (by decide) (fun c6 => ?_) (fun c6 => ?_)
    · replace hp := ite_n hp c6
      refine z_aload_n hx hb dX10_spared_24 rfl (zl_at hl 0 rfl) ?_
      obtain ⟨k7, hp⟩ := ck_i hp
      refine r_get (ci := 4) (C := RX3) (T := TX3) (N := 4) (v := .int (aI h3 r2 3)) hx hb hm ii_X3 hown hK hR rfl k7 3 (by decide) (hm _ mw_812) (fun _ h9 => h9) rfl dX10_spared_25 ?_
      exact s_X10_spared_28 hfl htb C  hR hL (zl_sub hl [] rfl) hp
    · replace hp := ite_p hp c6
      refine z_aload_n hx hb dX10_spared_13 rfl (zl_at hl 0 rfl) ?_
      refine z_aload_n hx hb dX10_spared_14 rfl (zl_at hl 1 rfl) ?_
      obtain ⟨k8, hp⟩ := ck_i hp
      refine r_get (ci := 11) (C := RX10) (T := TX10) (N := 7) (v := zr (aR h3 v0 5)) hx hb hm ii_X10 hown hK hR rfl k8 5 (by decide) (hm _ mw_188) (fun _ h9 => h9) rfl dX10_spared_15 ?_
      obtain ⟨k9, hp⟩ := ck_i hp
      obtain ⟨r10, h11, er10, hp⟩ := bR_i hp
      refine r_callV (ci := 4) (r := (RX3, TX3, 4)) (n := 1) (As := [zr (aR h3 v0 5)]) (rest := []) C (c_X3_judge l G r2 (aR h3 v0 5) h3 r10 h11 er10) hR hL rfl k9 mw_841 mw_842 mw_843 mw_24 mw_844 (by decide +kernel) (by decide) rfl (zl_size hl) rfl (by simp [zr_cat, in_cat]) dX10_spared_18 (st2 := [.int r10]) rfl (fun H locs cells slots hR hL => ?_)
      refine lv_goto (tgt := 28) hx hb dX10_spared_21 (by decide) ?_
      exact s_X10_spared_28 hfl htb C  hR hL (zl_sub hl [] rfl) hp
  · subst hre
    refine r_runVX (ci := 11) (r := (RX10, TX10, 7)) (n := 1) (As := [.int v1]) (rest := []) C (c_X10_formatAt l hfl G v0 v1 h (.error e4) h' er2) hR rfl k1 mw_835 mw_837 mp_17 mw_1 mw_838 (by decide +kernel) (by decide) rfl (zl_size hl) rfl (by simp [zr_cat, in_cat]) dX10_spared_2 (fun cells slots hr => ?_)
    refine r_exRun hR hL hr (fun q9 ce H locs cells slots hR hL hce hcv hcl => ?_)
    exact r_out C htb hR hL hce hcv hcl
def p_X10_spared (v0 : Nat) (v1 : Int32) (h : AH) : Option (Except Nat Int32 × AH) := ck (v0 ≠ 0) <| p_X10_spared_0 v0 v1 h
theorem c_X10_spared (l : Launch) (hfl : l.stackTraces = false) (G : GG) (v0 : Nat) (v1 : Int32) (h : AH) (r : Except Nat Int32) (h' : AH) (hp : p_X10_spared v0 v1 h = some (r, h')) : Cxt l yX10_spared (.code yX10_spared cX10_spared 3 (some .int) :: MW) G 7 153 [.ref (v0 - 1), .int v1] h (fun x => some (.int x)) r h' := by
  obtain ⟨hz0, hp⟩ := ck_i hp
  refine Cxt.of (by decide +kernel) (Nat.le_of_ble_eq_true rfl) ?_
  intro p e s m args below meth c C htb hR ls hl
  have hl : zl ls 3 [(0, zr v0), (1, .int v1)] := ⟨by rw [zr_p hz0]; exact hl, by simp [zr_cat, in_cat]⟩
  exact s_X10_spared_0 hfl htb C hR (fun _ hq => nomatch hq) hl hp
/-! CursorKeep.lock(II)Z -/
def p_X10_lock_60  (s0 : Int32) (h : AH) : Option (Except Nat Int32 × AH) :=
  ck (okZ s0) <|
  some (.ok s0, h)
set_option maxHeartbeats 4000000 in
set_option maxRecDepth 100000 in
theorem s_X10_lock_60 {p : Program} {l : Launch} {e : Env} {s : State} {m : MethodId} {args : Array Value} {below : List Frame} {meth : Method} {c : Code} {G : GG} {hs : AH} {r : Except Nat Int32} {h' : AH} (hfl : l.stackTraces = false) (htb : ∀ x ∈ c.exceptionTable.toList, False) (C : Cx G hs p s m args meth c cX10_lock 4 RX10 (.code yX10_lock cX10_lock 4 (some .boolean) :: MW) (some .boolean) "lock")   {s0 : Int32} {h : AH} {H : Heap} {locs : List Loc} {cells slots : Nat} {ls : Array Slot} (hR : Rp G h H) (hL : ∀ q ∈ locs, gB G ≤ q.base) (hl : zl ls 4 []) (hp : p_X10_lock_60  s0 h = some (r, h')) : W p l e (gR G hs 7 132) s m args below meth c H locs cells slots (vx_MQ below (Qxx G (fun x => some (.int x)) r h') (Xxx G r h') args s (gC G - aZ hs) (gS - aU hs) (fun q => gB G ≤ q)) (F0 m 60 ls [.int s0]) := by
  obtain ⟨hx, hb, hml, hown, hts, hT, hK, rs, hlk, hret, hnm⟩ := id C
  have hm : ∀ w ∈ MW, w.before args s = true := fun w hw => hts w (hT w hw)
  unfold p_X10_lock_60 at hp
  obtain ⟨k1, hp⟩ := ck_i hp
  cases hp
  exact r_zretX C hR hL (okZ_n k1) dX10_lock_60
def p_X10_lock_44  (v1 : Int32) (v3 : Nat) (s0 : Nat) (s1 : Int32) (h : AH) : Option (Except Nat Int32 × AH) :=
  ck (aK h s0 = 11) <|
  nm (uI h s0 4 s1) fun h2 =>
  ck (aK h2 v3 = 11) <|
  if (aI h2 v3 4) = v1 then
    p_X10_lock_60  (iI 1) h2
  else
    p_X10_lock_60  (iI 0) h2
set_option maxHeartbeats 4000000 in
set_option maxRecDepth 100000 in
theorem s_X10_lock_44 {p : Program} {l : Launch} {e : Env} {s : State} {m : MethodId} {args : Array Value} {below : List Frame} {meth : Method} {c : Code} {G : GG} {hs : AH} {r : Except Nat Int32} {h' : AH} (hfl : l.stackTraces = false) (htb : ∀ x ∈ c.exceptionTable.toList, False) (C : Cx G hs p s m args meth c cX10_lock 4 RX10 (.code yX10_lock cX10_lock 4 (some .boolean) :: MW) (some .boolean) "lock")   {v1 : Int32} {v3 : Nat} {s0 : Nat} {s1 : Int32} {h : AH} {H : Heap} {locs : List Loc} {cells slots : Nat} {ls : Array Slot} (hR : Rp G h H) (hL : ∀ q ∈ locs, gB G ≤ q.base) (hl : zl ls 4 [(1, .int v1), (3, zr v3)]) (hp : p_X10_lock_44  v1 v3 s0 s1 h = some (r, h')) : W p l e (gR G hs 7 132) s m args below meth c H locs cells slots (vx_MQ below (Qxx G (fun x => some (.int x)) r h') (Xxx G r h') args s (gC G - aZ hs) (gS - aU hs) (fun q => gB G ≤ q)) (F0 m 44 ls [.int s1, zr s0]) := by
  obtain ⟨hx, hb, hml, hown, hts, hT, hK, rs, hlk, hret, hnm⟩ := id C
  have hm : ∀ w ∈ MW, w.before args s = true := fun w hw => hts w (hT w hw)
  unfold p_X10_lock_44 at hp
  obtain ⟨k1, hp⟩ := ck_i hp
  refine r_putI (ci := 10) (C := RX9) (T := TX9) (N := 10) hx hb hm ii_X9 tyX9_ok nmX9 hown hK hR hL rfl k1 4 (by decide) (hm _ mw_140) (fun _ h9 => h9) (Or.inl rfl) rfl rfl (fun _ _ _ => rfl) dX10_lock_44 (fun H locs hR hL => ?_)
  obtain ⟨h2, hp, hR⟩ := nm_h hp hR
  refine z_aload_n hx hb dX10_lock_47 rfl (zl_at hl 1 rfl) ?_
  obtain ⟨k3, hp⟩ := ck_i hp
  refine r_get (ci := 10) (C := RX9) (T := TX9) (N := 10) (v := .int (aI h2 v3 4)) hx hb hm ii_X9 hown hK hR rfl k3 4 (by decide) (hm _ mw_140) (fun _ h9 => h9) rfl dX10_lock_48 ?_
  refine lv_iload_n hx hb dX10_lock_51 rfl (zl_at hl 0 rfl) ?_
  refine lv_icmp_ne (tgt := 59) hx hb dX10_lock_52 (by decide) (fun c4 => ?_) (fun c4 => ?_)
  · replace hp := ite_n hp c4
    refine lv_iconst (v := iI 0) hx hb dX10_lock_59 rfl ?_
    exact s_X10_lock_60 hfl htb C  hR hL (zl_sub hl [] rfl) hp
  · replace hp := ite_p hp c4
    refine lv_iconst (v := iI 1) hx hb dX10_lock_55 rfl ?_
    refine lv_goto (tgt := 60) hx hb dX10_lock_56 (by decide) ?_
    exact s_X10_lock_60 hfl htb C  hR hL (zl_sub hl [] rfl) hp
def p_X10_lock_0  (v0 : Nat) (v1 : Int32) (v2 : Int32) (h : AH) : Option (Except Nat Int32 × AH) :=
  ck (aK h v0 = 12) <|
  bX (0) (p_X10_handAt v0 v1 h) fun r2 h3 =>
  ck (aK h3 v0 = 12) <|
  bX (0) (p_X10_textAt v0 v2 h3) fun r6 h7 =>
  ck (aK h7 r6 = 11) <|
  bR (p_X9_isFreeFor r6 v1 h7) fun r10 h11 =>
  if r10 = 0 then
    ck (aZ h11 + 1 ≤ aC h11 ∧ aU h11 + 6 ≤ gS) <|
    some (.error 3, uN h11 0 6)
  else
    ck (aK h11 r6 = 11) <|
    if (aI h11 r6 4) = v1 then
      p_X10_lock_44  v1 r6 r6 (iI (-1)) h11
    else
      p_X10_lock_44  v1 r6 r6 v1 h11
set_option maxHeartbeats 4000000 in
set_option maxRecDepth 100000 in
theorem s_X10_lock_0 {p : Program} {l : Launch} {e : Env} {s : State} {m : MethodId} {args : Array Value} {below : List Frame} {meth : Method} {c : Code} {G : GG} {hs : AH} {r : Except Nat Int32} {h' : AH} (hfl : l.stackTraces = false) (htb : ∀ x ∈ c.exceptionTable.toList, False) (C : Cx G hs p s m args meth c cX10_lock 4 RX10 (.code yX10_lock cX10_lock 4 (some .boolean) :: MW) (some .boolean) "lock")   {v0 : Nat} {v1 : Int32} {v2 : Int32} {h : AH} {H : Heap} {locs : List Loc} {cells slots : Nat} {ls : Array Slot} (hR : Rp G h H) (hL : ∀ q ∈ locs, gB G ≤ q.base) (hl : zl ls 4 [(0, zr v0), (1, .int v1), (2, .int v2)]) (hp : p_X10_lock_0  v0 v1 v2 h = some (r, h')) : W p l e (gR G hs 7 132) s m args below meth c H locs cells slots (vx_MQ below (Qxx G (fun x => some (.int x)) r h') (Xxx G r h') args s (gC G - aZ hs) (gS - aU hs) (fun q => gB G ≤ q)) (F0 m 0 ls []) := by
  obtain ⟨hx, hb, hml, hown, hts, hT, hK, rs, hlk, hret, hnm⟩ := id C
  have hm : ∀ w ∈ MW, w.before args s = true := fun w hw => hts w (hT w hw)
  unfold p_X10_lock_0 at hp
  refine z_aload_n hx hb dX10_lock_0 rfl (zl_at hl 0 rfl) ?_
  refine lv_iload_n hx hb dX10_lock_1 rfl (zl_at hl 1 rfl) ?_
  obtain ⟨k1, hp⟩ := ck_i hp
  rcases bX_i hp with ⟨r2, h3, er2, hp⟩ | ⟨e4, er2, hre⟩
  · refine r_runVX (ci := 11) (r := (RX10, TX10, 7)) (n := 1) (As := [.int v1]) (rest := []) C (c_X10_handAt l hfl G v0 v1 h (.ok r2) h3 er2) hR rfl k1 mw_310 mw_312 mp_2 mw_1 mw_313 (by decide +kernel) (by decide) rfl (zl_size hl) rfl (by simp [zr_cat, in_cat]) dX10_lock_2 (fun cells slots hr => ?_)
    refine r_okRun hR hL hr (fun H locs cells slots hR hL => ?_)
    refine W.eq (g2 := F0 m 5 ls [zr r2]) rfl ?_
    refine lv_pop hx hb dX10_lock_5 (zr_cat _) ?_
    refine z_aload_n hx hb dX10_lock_6 rfl (zl_at hl 0 rfl) ?_
    refine lv_iload_n hx hb dX10_lock_7 rfl (zl_at hl 2 rfl) ?_
    obtain ⟨k5, hp⟩ := ck_i hp
    rcases bX_i hp with ⟨r6, h7, er6, hp⟩ | ⟨e8, er6, hre⟩
    · refine r_runVX (ci := 11) (r := (RX10, TX10, 7)) (n := 1) (As := [.int v2]) (rest := []) C (c_X10_textAt l hfl G v0 v2 h3 (.ok r6) h7 er6) hR rfl k5 mw_382 mw_384 mp_4 mw_1 mw_385 (by decide +kernel) (by decide) rfl (zl_size hl) rfl (by simp [zr_cat, in_cat]) dX10_lock_8 (fun cells slots hr => ?_)
      refine r_okRun hR hL hr (fun H locs cells slots hR hL => ?_)
      refine W.eq (g2 := F0 m 11 ls [zr r6]) rfl ?_
      refine z_astore_n (lv' := [(3, zr r6), (0, zr v0), (1, .int v1), (2, .int v2)]) hx hb dX10_lock_11 rfl hl (by decide) rfl (fun ls hl => ?_)
      refine z_aload_n hx hb dX10_lock_12 rfl (zl_at hl 0 rfl) ?_
      refine lv_iload_n hx hb dX10_lock_13 rfl (zl_at hl 2 rfl) ?_
      obtain ⟨k9, hp⟩ := ck_i hp
      obtain ⟨r10, h11, er10, hp⟩ := bR_i hp
      refine r_callV (ci := 10) (r := (RX9, TX9, 10)) (n := 1) (As := [.int v1]) (rest := []) C (c_X9_isFreeFor l G r6 v1 h7 r10 h11 er10) hR hL rfl k9 mw_910 mw_244 mw_245 mw_7 mw_246 (by decide +kernel) (by decide) rfl (zl_size hl) rfl (by simp [zr_cat, in_cat]) dX10_lock_14 (st2 := [.int r10]) rfl (fun H locs cells slots hR hL => ?_)
      refine lv_if_ne (tgt := 30) hx hb dX10_lock_17 (by decide) (fun c12 => ?_) (fun c12 => ?_)
      · replace hp := ite_n hp c12
        refine z_aload_n hx hb dX10_lock_30 rfl (zl_at hl 0 rfl) ?_
        refine z_aload_n hx hb dX10_lock_31 rfl (zl_at hl 0 rfl) ?_
        obtain ⟨k13, hp⟩ := ck_i hp
        refine r_get (ci := 10) (C := RX9) (T := TX9) (N := 10) (v := .int (aI h11 r6 4)) hx hb hm ii_X9 hown hK hR rfl k13 4 (by decide) (hm _ mw_140) (fun _ h9 => h9) rfl dX10_lock_32 ?_
        refine lv_iload_n hx hb dX10_lock_35 rfl (zl_at hl 2 rfl) ?_
        refine lv_icmp_ne (tgt := 43) hx hb dX10_lock_36 (by decide) (fun c14 => ?_) (fun c14 => ?_)
        · replace hp := ite_n hp c14
          refine lv_iload_n hx hb dX10_lock_43 rfl (zl_at hl 2 rfl) ?_
          exact s_X10_lock_44 hfl htb C  hR hL (zl_sub hl [2, 0] rfl) hp
        · replace hp := ite_p hp c14
          refine lv_iconst (v := iI (-1)) hx hb dX10_lock_39 rfl ?_
          refine lv_goto (tgt := 44) hx hb dX10_lock_40 (by decide) ?_
          exact s_X10_lock_44 hfl htb C  hR hL (zl_sub hl [2, 0] rfl) hp
      · replace hp := ite_p hp c12
        obtain ⟨k15, hp⟩ := ck_i hp
        cases hp
        exact r_throw (e0 := 3) (names := ["java/lang/RuntimeException", "java/lang/Exception"]) (text := "another hand has locked the text") C hfl htb hR hL (by decide +kernel) (by decide +kernel) mw_410 mw_15 (hK.2.2.2.2.2.2.2.2.2.2.2.1 (221, "another hand has locked the text") (by decide +kernel)) at_3 go_3 (zl_size hl) dX10_lock_20 dX10_lock_23 (Or.inl ⟨dX10_lock_24, rfl⟩) dX10_lock_26 dX10_lock_29 (by decide) (by simp [zr_cat, in_cat]) (by decide +kernel) k15
    · subst hre
      refine r_runVX (ci := 11) (r := (RX10, TX10, 7)) (n := 1) (As := [.int v2]) (rest := []) C (c_X10_textAt l hfl G v0 v2 h3 (.error e8) h' er6) hR rfl k5 mw_382 mw_384 mp_4 mw_1 mw_385 (by decide +kernel) (by decide) rfl (zl_size hl) rfl (by simp [zr_cat, in_cat]) dX10_lock_8 (fun cells slots hr => ?_)
      refine r_exRun hR hL hr (fun q9 ce H locs cells slots hR hL hce hcv hcl => ?_)
      exact r_out C htb hR hL hce hcv hcl
  · subst hre
    refine r_runVX (ci := 11) (r := (RX10, TX10, 7)) (n := 1) (As := [.int v1]) (rest := []) C (c_X10_handAt l hfl G v0 v1 h (.error e4) h' er2) hR rfl k1 mw_310 mw_312 mp_2 mw_1 mw_313 (by decide +kernel) (by decide) rfl (zl_size hl) rfl (by simp [zr_cat, in_cat]) dX10_lock_2 (fun cells slots hr => ?_)
    refine r_exRun hR hL hr (fun q9 ce H locs cells slots hR hL hce hcv hcl => ?_)
    exact r_out C htb hR hL hce hcv hcl
def p_X10_lock (v0 : Nat) (v1 : Int32) (v2 : Int32) (h : AH) : Option (Except Nat Int32 × AH) := ck (v0 ≠ 0) <| p_X10_lock_0 v0 v1 v2 h
theorem c_X10_lock (l : Launch) (hfl : l.stackTraces = false) (G : GG) (v0 : Nat) (v1 : Int32) (v2 : Int32) (h : AH) (r : Except Nat Int32) (h' : AH) (hp : p_X10_lock v0 v1 v2 h = some (r, h')) : Cxt l yX10_lock (.code yX10_lock cX10_lock 4 (some .boolean) :: MW) G 7 132 [.ref (v0 - 1), .int v1, .int v2] h (fun x => some (.int x)) r h' := by
  obtain ⟨hz0, hp⟩ := ck_i hp
  refine Cxt.of (by decide +kernel) (Nat.le_of_ble_eq_true rfl) ?_
  intro p e s m args below meth c C htb hR ls hl
  have hl : zl ls 4 [(0, zr v0), (1, .int v1), (2, .int v2)] := ⟨by rw [zr_p hz0]; exact hl, by simp [zr_cat, in_cat]⟩
  exact s_X10_lock_0 hfl htb C hR (fun _ hq => nomatch hq) hl hp
/-! CursorKeep.save(III)I -/
def p_X10_save_54  (v0 : Nat) (v1 : Int32) (v4 : Nat) (v5 : Nat) (h : AH) : Option (Except Nat Int32 × AH) :=
  ck (aK h v0 = 12) <|
  if (aI h v0 6) < (iI 60) then
    ck (aK h v0 = 12) <|
    ck (aZ h + 1 ≤ aC h ∧ aU h + 4 ≤ gS) <|
    nm (uN h 10 4) fun h5 =>
    ck (aK h5 v0 = 12) <|
    ck (aK h5 (aZ h) ≠ 0) <|
    bR (p_X8_init (aZ h) (aI h5 v0 6) v1 v4 v5 h5) fun r8 h9 =>
    ck (aK h9 (aR h v0 3) = 1) <|
    bR (p_Jx4a65c_add_9ea2d (aR h v0 3) (aZ h) h9) fun r11 h12 =>
    ck (aK h12 v0 = 12) <|
    ck (aK h12 v0 = 12) <|
    nm (uI h12 v0 6 ((aI h12 v0 6) + (iI 1))) fun h15 =>
    ck (aK h15 v0 = 12) <|
    some (.ok ((aI h15 v0 6) - (iI 1)), h15)
  else
    ck (aZ h + 1 ≤ aC h ∧ aU h + 6 ≤ gS) <|
    some (.error 3, uN h 0 6)
set_option maxHeartbeats 4000000 in
set_option maxRecDepth 100000 in
theorem s_X10_save_54 {p : Program} {l : Launch} {e : Env} {s : State} {m : MethodId} {args : Array Value} {below : List Frame} {meth : Method} {c : Code} {G : GG} {hs : AH} {r : Except Nat Int32} {h' : AH} (hfl : l.stackTraces = false) (htb : ∀ x ∈ c.exceptionTable.toList, False) (C : Cx G hs p s m args meth c cX10_save 6 RX10 (.code yX10_save cX10_save 6 (some .int) :: MW) (some .int) "save")   {v0 : Nat} {v1 : Int32} {v4 : Nat} {v5 : Nat} {h : AH} {H : Heap} {locs : List Loc} {cells slots : Nat} {ls : Array Slot} (hR : Rp G h H) (hL : ∀ q ∈ locs, gB G ≤ q.base) (hl : zl ls 6 [(0, zr v0), (1, .int v1), (4, zr v4), (5, zr v5)]) (hp : p_X10_save_54  v0 v1 v4 v5 h = some (r, h')) : W p l e (gR G hs 7 172) s m args below meth c H locs cells slots (vx_MQ below (Qxx G (fun x => some (.int x)) r h') (Xxx G r h') args s (gC G - aZ hs) (gS - aU hs) (fun q => gB G ≤ q)) (F0 m 54 ls []) := by
  obtain ⟨hx, hb, hml, hown, hts, hT, hK, rs, hlk, hret, hnm⟩ := id C
  have hm : ∀ w ∈ MW, w.before args s = true := fun w hw => hts w (hT w hw)
  unfold p_X10_save_54 at hp
  refine z_aload_n hx hb dX10_save_54 rfl (zl_at hl 0 rfl) ?_
  obtain ⟨k1, hp⟩ := ck_i hp
  refine r_get (ci := 11) (C := RX10) (T := TX10) (N := 7) (v := .int (aI h v0 6)) hx hb hm ii_X10 hown hK hR rfl k1 6 (by decide) (hm _ mw_189) (fun _ h9 => h9) rfl dX10_save_55 ?_
  refine lv_bipush (v := iI 60) hx hb dX10_save_58 (by decide +kernel) ?_
  refine lv_icmp_lt (tgt := 73) hx hb dX10_save_60 (by decide) (fun c2 => ?_) (fun c2 => ?_)
  · replace hp := ite_p hp c2
    refine z_aload_n hx hb dX10_save_73 rfl (zl_at hl 0 rfl) ?_
    obtain ⟨k3, hp⟩ := ck_i hp
    refine r_get (ci := 11) (C := RX10) (T := TX10) (N := 7) (v := zr (aR h v0 3)) hx hb hm ii_X10 hown hK hR rfl k3 3 (by decide) (hm _ mw_186) (fun _ h9 => h9) rfl dX10_save_74 ?_
    obtain ⟨k4, hp⟩ := ck_i hp
    refine r_new (ci := 9) (C := RX8) (T := TX8) (N := 4) (ty0 := tyX8) C hR hL rfl ii_X8 tyX8_ok (fun _ => rfl) (by decide +kernel) mw_238 mw_921 mw_26 k4 dX10_save_77 (fun H cells slots hR => ?_)
    obtain ⟨h5, hp, hR⟩ := nm_h hp hR
    refine lv_dup hx hb dX10_save_80 (zr_cat _) ?_
    refine z_aload_n hx hb dX10_save_81 rfl (zl_at hl 0 rfl) ?_
    obtain ⟨k6, hp⟩ := ck_i hp
    refine r_get (ci := 11) (C := RX10) (T := TX10) (N := 7) (v := .int (aI h5 v0 6)) hx hb hm ii_X10 hown hK hR rfl k6 6 (by decide) (hm _ mw_189) (fun _ h9 => h9) rfl dX10_save_82 ?_
    refine lv_iload_n hx hb dX10_save_85 rfl (zl_at hl 1 rfl) ?_
    refine z_aload hx hb dX10_save_86 (zl_at hl 2 rfl) ?_
    refine z_aload hx hb dX10_save_88 (zl_at hl 3 rfl) ?_
    obtain ⟨k7, hp⟩ := ck_i hp
    obtain ⟨r8, h9, er8, hp⟩ := bR_i hp
    refine r_callI (n := 4) (As := [.int (aI h5 v0 6), .int v1, zr v4, zr v5]) (rest := [zr (aZ h), zr (aR h v0 3)]) C (c_X8_init l G (aZ h) (aI h5 v0 6) v1 v4 v5 h5 r8 h9 er8) hR hL k7 mw_922 mw_923 mw_26 mw_924 rfl (by decide +kernel) (by decide) rfl (zl_size hl) rfl (by simp [zr_cat, in_cat]) dX10_save_90 (st2 := [zr (aZ h), zr (aR h v0 3)]) rfl (fun H locs cells slots hR hL => ?_)
    obtain ⟨k10, hp⟩ := ck_i hp
    obtain ⟨r11, h12, er11, hp⟩ := bR_i hp
    refine r_callF (ci := 0) (r := (RJx4a65c, TJx4a65c, 3)) (x := ⟨"java/util/List", "add", "(Ljava/lang/Object;)Z"⟩) (n := 1) (As := [zr (aZ h)]) (rest := []) C (c_Jx4a65c_add_9ea2d l G (aR h v0 3) (aZ h) h9 r11 h12 er11) hR hL rfl k10 mw_823 mw_484 mw_486 mw_4 mw_488 (fw_add hK) (by decide +kernel) (by decide) rfl (zl_size hl) rfl (by simp [zr_cat, in_cat]) dX10_save_93 (st2 := [.int r11]) rfl (fun H locs cells slots hR hL => ?_)
    refine lv_pop hx hb dX10_save_98 rfl ?_
    refine z_aload_n hx hb dX10_save_99 rfl (zl_at hl 0 rfl) ?_
    refine lv_dup hx hb dX10_save_100 (zr_cat _) ?_
    obtain ⟨k13, hp⟩ := ck_i hp
    refine r_get (ci := 11) (C := RX10) (T := TX10) (N := 7) (v := .int (aI h12 v0 6)) hx hb hm ii_X10 hown hK hR rfl k13 6 (by decide) (hm _ mw_189) (fun _ h9 => h9) rfl dX10_save_101 ?_
    refine lv_iconst (v := iI 1) hx hb dX10_save_104 rfl ?_
    refine lv_iadd hx hb dX10_save_105 ?_
    obtain ⟨k14, hp⟩ := ck_i hp
    refine r_putI (ci := 11) (C := RX10) (T := TX10) (N := 7) hx hb hm ii_X10 tyX10_ok nmX10 hown hK hR hL rfl k14 6 (by decide) (hm _ mw_189) (fun _ h9 => h9) (Or.inl rfl) rfl rfl (fun _ _ _ => rfl) dX10_save_106 (fun H locs hR hL => ?_)
    obtain ⟨h15, hp, hR⟩ := nm_h hp hR
    refine z_aload_n hx hb dX10_save_109 rfl (zl_at hl 0 rfl) ?_
    obtain ⟨k16, hp⟩ := ck_i hp
    refine r_get (ci := 11) (C := RX10) (T := TX10) (N := 7) (v := .int (aI h15 v0 6)) hx hb hm ii_X10 hown hK hR rfl k16 6 (by decide) (hm _ mw_189) (fun _ h9 => h9) rfl dX10_save_110 ?_
    refine lv_iconst (v := iI 1) hx hb dX10_save_113 rfl ?_
    refine lv_isub hx hb dX10_save_114 ?_
    cases hp
    exact r_zretX C hR hL rfl dX10_save_115
  · replace hp := ite_n hp c2
    obtain ⟨k17, hp⟩ := ck_i hp
    cases hp
    exact r_throw (e0 := 3) (names := ["java/lang/RuntimeException", "java/lang/Exception"]) (text := "no more saves") C hfl htb hR hL (by decide +kernel) (by decide +kernel) mw_410 mw_15 (hK.2.2.2.2.2.2.2.2.2.2.2.1 (232, "no more saves") (by decide +kernel)) at_3 go_3 (zl_size hl) dX10_save_63 dX10_save_66 (Or.inl ⟨dX10_save_67, rfl⟩) dX10_save_69 dX10_save_72 (by decide) (by simp [zr_cat, in_cat]) (by decide +kernel) k17
def p_X10_save_27  (v0 : Nat) (v1 : Int32) (v4 : Nat) (s0 : Nat) (h : AH) : Option (Except Nat Int32 × AH) :=
  if s0 = 0 then
    p_X10_save_54  v0 v1 v4 s0 h
  else
    ck (aK h s0 = 5) <|
    if (aR h s0 0) = v4 then
      p_X10_save_54  v0 v1 v4 s0 h
    else
      ck (aZ h + 1 ≤ aC h ∧ aU h + 6 ≤ gS) <|
      some (.error 2, uN h 0 6)
set_option maxHeartbeats 4000000 in
set_option maxRecDepth 100000 in
theorem s_X10_save_27 {p : Program} {l : Launch} {e : Env} {s : State} {m : MethodId} {args : Array Value} {below : List Frame} {meth : Method} {c : Code} {G : GG} {hs : AH} {r : Except Nat Int32} {h' : AH} (hfl : l.stackTraces = false) (htb : ∀ x ∈ c.exceptionTable.toList, False) (C : Cx G hs p s m args meth c cX10_save 6 RX10 (.code yX10_save cX10_save 6 (some .int) :: MW) (some .int) "save")   {v0 : Nat} {v1 : Int32} {v4 : Nat} {s0 : Nat} {h : AH} {H : Heap} {locs : List Loc} {cells slots : Nat} {ls : Array Slot} (hR : Rp G h H) (hL : ∀ q ∈ locs, gB G ≤ q.base) (hl : zl ls 6 [(0, zr v0), (1, .int v1), (4, zr v4)]) (hp : p_X10_save_27  v0 v1 v4 s0 h = some (r, h')) : W p l e (gR G hs 7 172) s m args below meth c H locs cells slots (vx_MQ below (Qxx G (fun x => some (.int x)) r h') (Xxx G r h') args s (gC G - aZ hs) (gS - aU hs) (fun q => gB G ≤ q)) (F0 m 27 ls [zr s0]) := by
  obtain ⟨hx, hb, hml, hown, hts, hT, hK, rs, hlk, hret, hnm⟩ := id C
  have hm : ∀ w ∈ MW, w.before args s = true := fun w hw => hts w (hT w hw)
  unfold p_X10_save_27 at hp
  refine z_astore (lv' := [(5, zr s0), (0, zr v0), (1, .int v1), (4, zr v4)]) hx hb dX10_save_27 hl (by decide) rfl (fun ls hl => ?_)
  refine z_aload hx hb dX10_save_29 (zl_at hl 0 rfl) ?_
  refine z_ifnull (tgt := 54) hx hb dX10_save_31 (by decide) (fun c1 => ?_) (fun c1 => ?_)
  · replace hp := ite_p hp c1
    exact s_X10_save_54 hfl htb C  hR hL (zl_sub hl [1, 2, 3, 0] rfl) hp
  · replace hp := ite_n hp c1
    refine z_aload hx hb dX10_save_34 (zl_at hl 0 rfl) ?_
    obtain ⟨k2, hp⟩ := ck_i hp
    refine r_get (ci := 4) (C := RX3) (T := TX3) (N := 4) (v := zr (aR h s0 0)) hx hb hm ii_X3 hown hK hR rfl k2 0 (by decide) (hm _ mw_805) (fun _ h9 => h9) rfl dX10_save_36 ?_
    refine z_aload hx hb dX10_save_39 (zl_at hl 3 rfl) ?_
    refine z_acmp_eq (tgt := 54) hx hb dX10_save_41 (by decide) (fun c3 => ?_) (fun c3 => ?_)
    · replace hp := ite_p hp c3
      exact s_X10_save_54 hfl htb C  hR hL (zl_sub hl [1, 2, 3, 0] rfl) hp
    · replace hp := ite_n hp c3
      obtain ⟨k4, hp⟩ := ck_i hp
      cases hp
      exact r_throw (e0 := 2) (names := ["java/lang/RuntimeException", "java/lang/Exception"]) (text := "the format is for another text") C hfl htb hR hL (by decide +kernel) (by decide +kernel) mw_390 mw_14 (hK.2.2.2.2.2.2.2.2.2.2.2.1 (227, "the format is for another text") (by decide +kernel)) at_2 go_2 (zl_size hl) dX10_save_44 dX10_save_47 (Or.inl ⟨dX10_save_48, rfl⟩) dX10_save_50 dX10_save_53 (by decide) (by simp [zr_cat, in_cat]) (by decide +kernel) k4
def p_X10_save_0  (v0 : Nat) (v1 : Int32) (v2 : Int32) (v3 : Int32) (h : AH) : Option (Except Nat Int32 × AH) :=
  ck (aK h v0 = 12) <|
  bX (0) (p_X10_handAt v0 v1 h) fun r2 h3 =>
  ck (aK h3 v0 = 12) <|
  bX (0) (p_X10_textAt v0 v2 h3) fun r6 h7 =>
  if v3 = (iI (-1)) then
    p_X10_save_27  v0 v1 r6 0 h7
  else
    ck (aK h7 v0 = 12) <|
    bX (0) (p_X10_formatAt v0 v3 h7) fun r11 h12 =>
    p_X10_save_27  v0 v1 r6 r11 h12
set_option maxHeartbeats 4000000 in
set_option maxRecDepth 100000 in
theorem s_X10_save_0 {p : Program} {l : Launch} {e : Env} {s : State} {m : MethodId} {args : Array Value} {below : List Frame} {meth : Method} {c : Code} {G : GG} {hs : AH} {r : Except Nat Int32} {h' : AH} (hfl : l.stackTraces = false) (htb : ∀ x ∈ c.exceptionTable.toList, False) (C : Cx G hs p s m args meth c cX10_save 6 RX10 (.code yX10_save cX10_save 6 (some .int) :: MW) (some .int) "save")   {v0 : Nat} {v1 : Int32} {v2 : Int32} {v3 : Int32} {h : AH} {H : Heap} {locs : List Loc} {cells slots : Nat} {ls : Array Slot} (hR : Rp G h H) (hL : ∀ q ∈ locs, gB G ≤ q.base) (hl : zl ls 6 [(0, zr v0), (1, .int v1), (2, .int v2), (3, .int v3)]) (hp : p_X10_save_0  v0 v1 v2 v3 h = some (r, h')) : W p l e (gR G hs 7 172) s m args below meth c H locs cells slots (vx_MQ below (Qxx G (fun x => some (.int x)) r h') (Xxx G r h') args s (gC G - aZ hs) (gS - aU hs) (fun q => gB G ≤ q)) (F0 m 0 ls []) := by
  obtain ⟨hx, hb, hml, hown, hts, hT, hK, rs, hlk, hret, hnm⟩ := id C
  have hm : ∀ w ∈ MW, w.before args s = true := fun w hw => hts w (hT w hw)
  unfold p_X10_save_0 at hp
  refine z_aload_n hx hb dX10_save_0 rfl (zl_at hl 0 rfl) ?_
  refine lv_iload_n hx hb dX10_save_1 rfl (zl_at hl 1 rfl) ?_
  obtain ⟨k1, hp⟩ := ck_i hp
  rcases bX_i hp with ⟨r2, h3, er2, hp⟩ | ⟨e4, er2, hre⟩
  · refine r_runVX (ci := 11) (r := (RX10, TX10, 7)) (n := 1) (As := [.int v1]) (rest := []) C (c_X10_handAt l hfl G v0 v1 h (.ok r2) h3 er2) hR rfl k1 mw_310 mw_312 mp_2 mw_1 mw_313 (by decide +kernel) (by decide) rfl (zl_size hl) rfl (by simp [zr_cat, in_cat]) dX10_save_2 (fun cells slots hr => ?_)
    refine r_okRun hR hL hr (fun H locs cells slots hR hL => ?_)
    refine W.eq (g2 := F0 m 5 ls [zr r2]) rfl ?_
    refine lv_pop hx hb dX10_save_5 (zr_cat _) ?_
    refine z_aload_n hx hb dX10_save_6 rfl (zl_at hl 0 rfl) ?_
    refine lv_iload_n hx hb dX10_save_7 rfl (zl_at hl 2 rfl) ?_
    obtain ⟨k5, hp⟩ := ck_i hp
    rcases bX_i hp with ⟨r6, h7, er6, hp⟩ | ⟨e8, er6, hre⟩
    · refine r_runVX (ci := 11) (r := (RX10, TX10, 7)) (n := 1) (As := [.int v2]) (rest := []) C (c_X10_textAt l hfl G v0 v2 h3 (.ok r6) h7 er6) hR rfl k5 mw_382 mw_384 mp_4 mw_1 mw_385 (by decide +kernel) (by decide) rfl (zl_size hl) rfl (by simp [zr_cat, in_cat]) dX10_save_8 (fun cells slots hr => ?_)
      refine r_okRun hR hL hr (fun H locs cells slots hR hL => ?_)
      refine W.eq (g2 := F0 m 11 ls [zr r6]) rfl ?_
      refine z_astore (lv' := [(4, zr r6), (0, zr v0), (1, .int v1), (2, .int v2), (3, .int v3)]) hx hb dX10_save_11 hl (by decide) rfl (fun ls hl => ?_)
      refine lv_iload_n hx hb dX10_save_13 rfl (zl_at hl 4 rfl) ?_
      refine lv_iconst (v := iI (-1)) hx hb dX10_save_14 rfl ?_
      refine lv_icmp_ne (tgt := 22) hx hb dX10_save_15 (by decide) (fun c9 => ?_) (fun c9 => ?_)
      · replace hp := ite_n hp c9
        refine z_aload_n hx hb dX10_save_22 rfl (zl_at hl 1 rfl) ?_
        refine lv_iload_n hx hb dX10_save_23 rfl (zl_at hl 4 rfl) ?_
        obtain ⟨k10, hp⟩ := ck_i hp
        rcases bX_i hp with ⟨r11, h12, er11, hp⟩ | ⟨e13, er11, hre⟩
        · refine r_runVX (ci := 11) (r := (RX10, TX10, 7)) (n := 1) (As := [.int v3]) (rest := []) C (c_X10_formatAt l hfl G v0 v3 h7 (.ok r11) h12 er11) hR rfl k10 mw_835 mw_837 mp_17 mw_1 mw_838 (by decide +kernel) (by decide) rfl (zl_size hl) rfl (by simp [zr_cat, in_cat]) dX10_save_24 (fun cells slots hr => ?_)
          refine r_okRun hR hL hr (fun H locs cells slots hR hL => ?_)
          refine W.eq (g2 := F0 m 27 ls [zr r11]) rfl ?_
          exact s_X10_save_27 hfl htb C  hR hL (zl_sub hl [1, 2, 0] rfl) hp
        · subst hre
          refine r_runVX (ci := 11) (r := (RX10, TX10, 7)) (n := 1) (As := [.int v3]) (rest := []) C (c_X10_formatAt l hfl G v0 v3 h7 (.error e13) h' er11) hR rfl k10 mw_835 mw_837 mp_17 mw_1 mw_838 (by decide +kernel) (by decide) rfl (zl_size hl) rfl (by simp [zr_cat, in_cat]) dX10_save_24 (fun cells slots hr => ?_)
          refine r_exRun hR hL hr (fun q9 ce H locs cells slots hR hL hce hcv hcl => ?_)
          exact r_out C htb hR hL hce hcv hcl
      · replace hp := ite_p hp c9
        refine z_null hx hb dX10_save_18 ?_
        refine lv_goto (tgt := 27) hx hb dX10_save_19 (by decide) ?_
        exact s_X10_save_27 hfl htb C  hR hL (zl_sub hl [1, 2, 0] rfl) hp
    · subst hre
      refine r_runVX (ci := 11) (r := (RX10, TX10, 7)) (n := 1) (As := [.int v2]) (rest := []) C (c_X10_textAt l hfl G v0 v2 h3 (.error e8) h' er6) hR rfl k5 mw_382 mw_384 mp_4 mw_1 mw_385 (by decide +kernel) (by decide) rfl (zl_size hl) rfl (by simp [zr_cat, in_cat]) dX10_save_8 (fun cells slots hr => ?_)
      refine r_exRun hR hL hr (fun q9 ce H locs cells slots hR hL hce hcv hcl => ?_)
      exact r_out C htb hR hL hce hcv hcl
  · subst hre
    refine r_runVX (ci := 11) (r := (RX10, TX10, 7)) (n := 1) (As := [.int v1]) (rest := []) C (c_X10_handAt l hfl G v0 v1 h (.error e4) h' er2) hR rfl k1 mw_310 mw_312 mp_2 mw_1 mw_313 (by decide +kernel) (by decide) rfl (zl_size hl) rfl (by simp [zr_cat, in_cat]) dX10_save_2 (fun cells slots hr => ?_)
    refine r_exRun hR hL hr (fun q9 ce H locs cells slots hR hL hce hcv hcl => ?_)
    exact r_out C htb hR hL hce hcv hcl
def p_X10_save (v0 : Nat) (v1 : Int32) (v2 : Int32) (v3 : Int32) (h : AH) : Option (Except Nat Int32 × AH) := ck (v0 ≠ 0) <| p_X10_save_0 v0 v1 v2 v3 h
theorem c_X10_save (l : Launch) (hfl : l.stackTraces = false) (G : GG) (v0 : Nat) (v1 : Int32) (v2 : Int32) (v3 : Int32) (h : AH) (r : Except Nat Int32) (h' : AH) (hp : p_X10_save v0 v1 v2 v3 h = some (r, h')) : Cxt l yX10_save (.code yX10_save cX10_save 6 (some .int) :: MW) G 7 172 [.ref (v0 - 1), .int v1, .int v2, .int v3] h (fun x => some (.int x)) r h' := by
  obtain ⟨hz0, hp⟩ := ck_i hp
  refine Cxt.of (by decide +kernel) (Nat.le_of_ble_eq_true rfl) ?_
  intro p e s m args below meth c C htb hR ls hl
  have hl : zl ls 6 [(0, zr v0), (1, .int v1), (2, .int v2), (3, .int v3)] := ⟨by rw [zr_p hz0]; exact hl, by simp [zr_cat, in_cat]⟩
  exact s_X10_save_0 hfl htb C hR (fun _ hq => nomatch hq) hl hp
/-! CursorKeep.isFirstForItsText(LCursorKeep$Save;)Z -/
def p_X10_isFirstForItsText_57  (s0 : Int32) (h : AH) : Option (Int32 × AH) :=
  ck (okZ s0) <|
  some (s0, h)
set_option maxHeartbeats 4000000 in
set_option maxRecDepth 100000 in
theorem s_X10_isFirstForItsText_57 {p : Program} {l : Launch} {e : Env} {s : State} {m : MethodId} {args : Array Value} {below : List Frame} {meth : Method} {c : Code} {G : GG} {hs : AH} {r : Int32} {h' : AH} (C : Cx G hs p s m args meth c cX10_isFirstForItsText 3 RX10 (.code yX10_isFirstForItsText cX10_isFirstForItsText 3 (some .boolean) :: MW) (some .boolean) "isFirstForItsText")   {s0 : Int32} {h : AH} {H : Heap} {locs : List Loc} {cells slots : Nat} {ls : Array Slot} (hR : Rp G h H) (hL : ∀ q ∈ locs, gB G ≤ q.base) (hl : zl ls 3 []) (hp : p_X10_isFirstForItsText_57  s0 h = some (r, h')) : W p l e (gR G hs 4 104) s m args below meth c H locs cells slots (MQ below (Qcc G (some (.int r)) h') args s (gC G - aZ hs) (gS - aU hs) (fun q => gB G ≤ q)) (F0 m 57 ls [.int s0]) := by
  obtain ⟨hx, hb, hml, hown, hts, hT, hK, rs, hlk, hret, hnm⟩ := id C
  have hm : ∀ w ∈ MW, w.before args s = true := fun w hw => hts w (hT w hw)
  unfold p_X10_isFirstForItsText_57 at hp
  obtain ⟨k1, hp⟩ := ck_i hp
  cases hp
  exact r_zret C hR hL (okZ_n k1) dX10_isFirstForItsText_57
def p_X10_isFirstForItsText_2  : Nat → Nat → Nat → Int32 → AH → Option (Int32 × AH)
  | 0, _, _, _, _ => none
  | n + 1, v0, v1, v2, h =>
    ck (aK h v0 = 12) <|
    ck (aK h (aR h v0 3) = 1) <|
    bR (p_Jx4a65c_size_8abf5 (aR h v0 3) h) fun r3 h4 =>
    if r3 ≤ v2 then
      some ((iI 0), h4)
    else
      ck (aK h4 v0 = 12) <|
      ck (aK h4 (aR h4 v0 3) = 1) <|
      bR (p_Jx4a65c_get_915e3 (aR h4 v0 3) v2 h4) fun r8 h9 =>
      ck (aK h9 r8 = 10) <|
      ck (aK h9 r8 = 10) <|
      ck (aK h9 v1 = 10) <|
      if (aR h9 r8 1) = (aR h9 v1 1) then
        ck (aK h9 v0 = 12) <|
        ck (aK h9 (aR h9 v0 3) = 1) <|
        bR (p_Jx4a65c_get_915e3 (aR h9 v0 3) v2 h9) fun r17 h18 =>
        if r17 = v1 then
          p_X10_isFirstForItsText_57  (iI 1) h18
        else
          p_X10_isFirstForItsText_57  (iI 0) h18
      else
        nm (v2 + iI 1) fun (x14 : Int32) =>
        p_X10_isFirstForItsText_2  n v0 v1 x14 h9
set_option maxHeartbeats 4000000 in
set_option maxRecDepth 100000 in
theorem s_X10_isFirstForItsText_2 {p : Program} {l : Launch} {e : Env} {s : State} {m : MethodId} {args : Array Value} {below : List Frame} {meth : Method} {c : Code} {G : GG} {hs : AH} {r : Int32} {h' : AH} (C : Cx G hs p s m args meth c cX10_isFirstForItsText 3 RX10 (.code yX10_isFirstForItsText cX10_isFirstForItsText 3 (some .boolean) :: MW) (some .boolean) "isFirstForItsText")   : ∀ (n : Nat) (v0 : Nat) (v1 : Nat) (v2 : Int32) (h : AH) (H : Heap) (locs : List Loc) (cells slots : Nat) (ls : Array Slot) (hR : Rp G h H) (hL : ∀ q ∈ locs, gB G ≤ q.base) (hl : zl ls 3 [(0, zr v0), (1, zr v1), (2, .int v2)]) (hp : p_X10_isFirstForItsText_2  n v0 v1 v2 h = some (r, h')), W p l e (gR G hs 4 104) s m args below meth c H locs cells slots (MQ below (Qcc G (some (.int r)) h') args s (gC G - aZ hs) (gS - aU hs) (fun q => gB G ≤ q)) (F0 m 2 ls []) := by
  obtain ⟨hx, hb, hml, hown, hts, hT, hK, rs, hlk, hret, hnm⟩ := id C
  have hm : ∀ w ∈ MW, w.before args s = true := fun w hw => hts w (hT w hw)
  intro n
  induction n with
  | zero =>
    intro v0 v1 v2 h H locs cells slots ls hR hL hl hp
    exact absurd (show none = some (r, h') from hp) (by simp)
  | succ n ih =>
    intro v0 v1 v2 h H locs cells slots ls hR hL hl hp
    rw [p_X10_isFirstForItsText_2.eq_2] at hp
    refine lv_iload_n hx hb dX10_isFirstForItsText_2 rfl (zl_at hl 2 rfl) ?_
    refine z_aload_n hx hb dX10_isFirstForItsText_3 rfl (zl_at hl 0 rfl) ?_
    obtain ⟨k1, hp⟩ := ck_i hp
    refine r_get (ci := 11) (C := RX10) (T := TX10) (N := 7) (v := zr (aR h v0 3)) hx hb hm ii_X10 hown hK hR rfl k1 3 (by decide) (hm _ mw_186) (fun _ h9 => h9) rfl dX10_isFirstForItsText_4 ?_
    obtain ⟨k2, hp⟩ := ck_i hp
    obtain ⟨r3, h4, er3, hp⟩ := bR_i hp
    refine r_callF (ci := 0) (r := (RJx4a65c, TJx4a65c, 3)) (x := ⟨"java/util/List", "size", "()I"⟩) (n := 0) (As := []) (rest := [.int v2]) C (c_Jx4a65c_size_8abf5 l G (aR h v0 3) h r3 h4 er3) hR hL rfl k2 mw_210 mw_214 mw_216 mw_4 mw_218 (fw_size hK) (by decide +kernel) (by decide) rfl (zl_size hl) rfl (by simp [zr_cat, in_cat]) dX10_isFirstForItsText_7 (st2 := [.int r3, .int v2]) rfl (fun H locs cells slots hR hL => ?_)
    refine lv_icmp_ge (tgt := 64) hx hb dX10_isFirstForItsText_12 (by decide) (fun c5 => ?_) (fun c5 => ?_)
    · replace hp := ite_p hp c5
      refine lv_iconst (v := iI 0) hx hb dX10_isFirstForItsText_64 rfl ?_
      cases hp
      exact r_zret C hR hL (by decide +kernel) dX10_isFirstForItsText_65
    · replace hp := ite_n hp c5
      refine z_aload_n hx hb dX10_isFirstForItsText_15 rfl (zl_at hl 0 rfl) ?_
      obtain ⟨k6, hp⟩ := ck_i hp
      refine r_get (ci := 11) (C := RX10) (T := TX10) (N := 7) (v := zr (aR h4 v0 3)) hx hb hm ii_X10 hown hK hR rfl k6 3 (by decide) (hm _ mw_186) (fun _ h9 => h9) rfl dX10_isFirstForItsText_16 ?_
      refine lv_iload_n hx hb dX10_isFirstForItsText_19 rfl (zl_at hl 2 rfl) ?_
      obtain ⟨k7, hp⟩ := ck_i hp
      obtain ⟨r8, h9, er8, hp⟩ := bR_i hp
      refine r_callF (ci := 0) (r := (RJx4a65c, TJx4a65c, 3)) (x := ⟨"java/util/List", "get", "(I)Ljava/lang/Object;"⟩) (n := 1) (As := [.int v2]) (rest := []) C (c_Jx4a65c_get_915e3 l G (aR h4 v0 3) v2 h4 r8 h9 er8) hR hL rfl k7 mw_220 mw_223 mw_225 mw_4 mw_227 (fw_get hK) (by decide +kernel) (by decide) rfl (zl_size hl) rfl (by simp [zr_cat, in_cat]) dX10_isFirstForItsText_20 (st2 := [zr r8]) rfl (fun H locs cells slots hR hL => ?_)
      obtain ⟨k10, hp⟩ := ck_i hp
      refine r_castC (ci := 9) (r := (RX8, TX8, 4)) hx hb hown (hm _ mw_238) hK hR rfl k10 dX10_isFirstForItsText_25 ?_
      obtain ⟨k11, hp⟩ := ck_i hp
      refine r_get (ci := 9) (C := RX8) (T := TX8) (N := 4) (v := zr (aR h9 r8 1)) hx hb hm ii_X8 hown hK hR rfl k11 1 (by decide) (hm _ mw_929) (fun _ h9 => h9) rfl dX10_isFirstForItsText_28 ?_
      refine z_aload_n hx hb dX10_isFirstForItsText_31 rfl (zl_at hl 1 rfl) ?_
      obtain ⟨k12, hp⟩ := ck_i hp
      refine r_get (ci := 9) (C := RX8) (T := TX8) (N := 4) (v := zr (aR h9 v1 1)) hx hb hm ii_X8 hown hK hR rfl k12 1 (by decide) (hm _ mw_929) (fun _ h9 => h9) rfl dX10_isFirstForItsText_32 ?_
      refine z_acmp_ne (tgt := 58) hx hb dX10_isFirstForItsText_35 (by decide) (fun c13 => ?_) (fun c13 => ?_)
      · replace hp := ite_n hp c13
        obtain ⟨x14, ex14⟩ : ∃ y : Int32, y = v2 + iI 1 := ⟨_, rfl⟩
        replace hp := nm_i hp ex14
        refine z_iinc (v := x14) (lv' := [(2, .int x14), (0, zr v0), (1, zr v1)]) hx hb dX10_isFirstForItsText_58 hl (k := 2) rfl ex14 (by decide) rfl (fun ls hl => ?_)
        refine lv_goto (tgt := 2) hx hb dX10_isFirstForItsText_61 (by decide) ?_
        exact ih _ _ _ _ _ _ _ _ _ hR hL (zl_sub hl [1, 2, 0] rfl) hp
      · replace hp := ite_p hp c13
        refine z_aload_n hx hb dX10_isFirstForItsText_38 rfl (zl_at hl 0 rfl) ?_
        obtain ⟨k15, hp⟩ := ck_i hp
        refine r_get (ci := 11) (C := RX10) (T := TX10) (N := 7) (v := zr (aR h9 v0 3)) hx hb hm ii_X10 hown hK hR rfl k15 3 (by decide) (hm _ mw_186) (fun _ h9 => h9) rfl dX10_isFirstForItsText_39 ?_
        refine lv_iload_n hx hb dX10_isFirstForItsText_42 rfl (zl_at hl 2 rfl) ?_
        obtain ⟨k16, hp⟩ := ck_i hp
        obtain ⟨r17, h18, er17, hp⟩ := bR_i hp
        refine r_callF (ci := 0) (r := (RJx4a65c, TJx4a65c, 3)) (x := ⟨"java/util/List", "get", "(I)Ljava/lang/Object;"⟩) (n := 1) (As := [.int v2]) (rest := []) C (c_Jx4a65c_get_915e3 l G (aR h9 v0 3) v2 h9 r17 h18 er17) hR hL rfl k16 mw_220 mw_223 mw_225 mw_4 mw_227 (fw_get hK) (by decide +kernel) (by decide) rfl (zl_size hl) rfl (by simp [zr_cat, in_cat]) dX10_isFirstForItsText_43 (st2 := [zr r17]) rfl (fun H locs cells slots hR hL => ?_)
        refine z_aload_n hx hb dX10_isFirstForItsText_48 rfl (zl_at hl 1 rfl) ?_
        refine z_acmp_ne (tgt := 56) hx hb dX10_isFirstForItsText_49 (by decide) (fun c19 => ?_) (fun c19 => ?_)
        · replace hp := ite_n hp c19
          refine lv_iconst (v := iI 0) hx hb dX10_isFirstForItsText_56 rfl ?_
          exact s_X10_isFirstForItsText_57 C  hR hL (zl_sub hl [] rfl) hp
        · replace hp := ite_p hp c19
          refine lv_iconst (v := iI 1) hx hb dX10_isFirstForItsText_52 rfl ?_
          refine lv_goto (tgt := 57) hx hb dX10_isFirstForItsText_53 (by decide) ?_
          exact s_X10_isFirstForItsText_57 C  hR hL (zl_sub hl [] rfl) hp
def p_X10_isFirstForItsText_0  (v0 : Nat) (v1 : Nat) (h : AH) : Option (Int32 × AH) :=
  nm ((iI 0)) fun (x1 : Int32) =>
  p_X10_isFirstForItsText_2  FU v0 v1 x1 h
set_option maxHeartbeats 4000000 in
set_option maxRecDepth 100000 in
theorem s_X10_isFirstForItsText_0 {p : Program} {l : Launch} {e : Env} {s : State} {m : MethodId} {args : Array Value} {below : List Frame} {meth : Method} {c : Code} {G : GG} {hs : AH} {r : Int32} {h' : AH} (C : Cx G hs p s m args meth c cX10_isFirstForItsText 3 RX10 (.code yX10_isFirstForItsText cX10_isFirstForItsText 3 (some .boolean) :: MW) (some .boolean) "isFirstForItsText")   {v0 : Nat} {v1 : Nat} {h : AH} {H : Heap} {locs : List Loc} {cells slots : Nat} {ls : Array Slot} (hR : Rp G h H) (hL : ∀ q ∈ locs, gB G ≤ q.base) (hl : zl ls 3 [(0, zr v0), (1, zr v1)]) (hp : p_X10_isFirstForItsText_0  v0 v1 h = some (r, h')) : W p l e (gR G hs 4 104) s m args below meth c H locs cells slots (MQ below (Qcc G (some (.int r)) h') args s (gC G - aZ hs) (gS - aU hs) (fun q => gB G ≤ q)) (F0 m 0 ls []) := by
  obtain ⟨hx, hb, hml, hown, hts, hT, hK, rs, hlk, hret, hnm⟩ := id C
  have hm : ∀ w ∈ MW, w.before args s = true := fun w hw => hts w (hT w hw)
  unfold p_X10_isFirstForItsText_0 at hp
  refine lv_iconst (v := iI 0) hx hb dX10_isFirstForItsText_0 rfl ?_
  refine lv_topi (fun x1 ex1 => ?_)
  replace hp := nm_i hp ex1
  refine z_istore_n (lv' := [(2, .int x1), (0, zr v0), (1, zr v1)]) hx hb dX10_isFirstForItsText_1 rfl hl (by decide) rfl (fun ls hl => ?_)
  exact s_X10_isFirstForItsText_2 C  _ _ _ _ _ _ _ _ _ _ hR hL (zl_sub hl [1, 2, 0] rfl) hp
def p_X10_isFirstForItsText (v0 : Nat) (v1 : Nat) (h : AH) : Option (Int32 × AH) := ck (v0 ≠ 0) <| ck (v1 ≠ 0) <| p_X10_isFirstForItsText_0 v0 v1 h
theorem c_X10_isFirstForItsText (l : Launch) (G : GG) (v0 : Nat) (v1 : Nat) (h : AH) (r : Int32) (h' : AH) (hp : p_X10_isFirstForItsText v0 v1 h = some (r, h')) : Ct l yX10_isFirstForItsText (.code yX10_isFirstForItsText cX10_isFirstForItsText 3 (some .boolean) :: MW) G 4 104 [.ref (v0 - 1), zr v1] h (some (.int r)) h' := by
  obtain ⟨hz0, hp⟩ := ck_i hp
  obtain ⟨hz1, hp⟩ := ck_i hp
  rw [show zr v1 = .ref (v1 - 1) from zr_p hz1]
  refine Ct.of (by decide +kernel) (Nat.le_of_ble_eq_true rfl) ?_
  intro p e s m args below meth c C hR ls hl
  have hl : zl ls 3 [(0, zr v0), (1, zr v1)] := ⟨by rw [zr_p hz0, zr_p hz1]; exact hl, by simp [zr_cat, in_cat]⟩
  exact s_X10_isFirstForItsText_0 C hR (fun _ hq => nomatch hq) hl hp
/-! CursorKeep.write()I -/
def p_X10_write_67 (k2 : Nat → Int32 → AH → Option (Int32 × AH)) (v0 : Nat) (v1 : Int32) (h : AH) : Option (Int32 × AH) :=
  nm (v1 + iI 1) fun (x1 : Int32) =>
  k2 v0 x1 h
set_option maxHeartbeats 4000000 in
set_option maxRecDepth 100000 in
theorem s_X10_write_67 {p : Program} {l : Launch} {e : Env} {s : State} {m : MethodId} {args : Array Value} {below : List Frame} {meth : Method} {c : Code} {G : GG} {hs : AH} {r : Int32} {h' : AH} (C : Cx G hs p s m args meth c cX10_write 3 RX10 (.code yX10_write cX10_write 3 (some .int) :: MW) (some .int) "write") {k2 : Nat → Int32 → AH → Option (Int32 × AH)} (hk2 : ∀ {v0 : Nat} {v1 : Int32} {h : AH} {H : Heap} {locs : List Loc} {cells slots : Nat} {ls : Array Slot}, Rp G h H → (∀ q ∈ locs, gB G ≤ q.base) → zl ls 3 [(0, zr v0), (1, .int v1)] → k2 v0 v1 h = some (r, h') → W p l e (gR G hs 5 126) s m args below meth c H locs cells slots (MQ below (Qcc G (some (.int r)) h') args s (gC G - aZ hs) (gS - aU hs) (fun q => gB G ≤ q)) (F0 m 2 ls [])) {v0 : Nat} {v1 : Int32} {h : AH} {H : Heap} {locs : List Loc} {cells slots : Nat} {ls : Array Slot} (hR : Rp G h H) (hL : ∀ q ∈ locs, gB G ≤ q.base) (hl : zl ls 3 [(0, zr v0), (1, .int v1)]) (hp : p_X10_write_67 k2 v0 v1 h = some (r, h')) : W p l e (gR G hs 5 126) s m args below meth c H locs cells slots (MQ below (Qcc G (some (.int r)) h') args s (gC G - aZ hs) (gS - aU hs) (fun q => gB G ≤ q)) (F0 m 67 ls []) := by
  obtain ⟨hx, hb, hml, hown, hts, hT, hK, rs, hlk, hret, hnm⟩ := id C
  have hm : ∀ w ∈ MW, w.before args s = true := fun w hw => hts w (hT w hw)
  unfold p_X10_write_67 at hp
  obtain ⟨x1, ex1⟩ : ∃ y : Int32, y = v1 + iI 1 := ⟨_, rfl⟩
  replace hp := nm_i hp ex1
  refine z_iinc (v := x1) (lv' := [(1, .int x1), (0, zr v0)]) hx hb dX10_write_67 hl (k := 1) rfl ex1 (by decide) rfl (fun ls hl => ?_)
  refine lv_goto (tgt := 2) hx hb dX10_write_70 (by decide) ?_
  exact hk2 hR hL (zl_sub hl [1, 0] rfl) hp
def p_X10_write_2  : Nat → Nat → Int32 → AH → Option (Int32 × AH)
  | 0, _, _, _ => none
  | n + 1, v0, v1, h =>
    ck (aK h v0 = 12) <|
    ck (aK h (aR h v0 3) = 1) <|
    bR (p_Jx4a65c_size_8abf5 (aR h v0 3) h) fun r3 h4 =>
    if r3 ≤ v1 then
      some ((iI (-1)), h4)
    else
      ck (aK h4 v0 = 12) <|
      ck (aK h4 (aR h4 v0 3) = 1) <|
      bR (p_Jx4a65c_get_915e3 (aR h4 v0 3) v1 h4) fun r8 h9 =>
      ck (aK h9 r8 = 10) <|
      ck (aK h9 r8 = 10) <|
      bR (p_X8_isReady r8 h9) fun r12 h13 =>
      if r12 = 0 then
        p_X10_write_67 (p_X10_write_2  n) v0 v1 h13
      else
        ck (aK h13 v0 = 12) <|
        bR (p_X10_isFirstForItsText v0 r8 h13) fun r16 h17 =>
        if r16 = 0 then
          p_X10_write_67 (p_X10_write_2  n) v0 v1 h17
        else
          ck (aK h17 v0 = 12) <|
          ck (aK h17 (aR h17 v0 3) = 1) <|
          bR (p_Jx4a65c_remove_915e3 (aR h17 v0 3) v1 h17) fun r21 h22 =>
          ck (aK h22 r8 = 10) <|
          ck (aK h22 (aR h22 r8 1) = 11) <|
          bR (p_X9_keepAsSaved (aR h22 r8 1) h22) fun r25 h26 =>
          ck (aK h26 r8 = 10) <|
          some ((aI h26 r8 0), h26)
set_option maxHeartbeats 4000000 in
set_option maxRecDepth 100000 in
theorem s_X10_write_2 {p : Program} {l : Launch} {e : Env} {s : State} {m : MethodId} {args : Array Value} {below : List Frame} {meth : Method} {c : Code} {G : GG} {hs : AH} {r : Int32} {h' : AH} (C : Cx G hs p s m args meth c cX10_write 3 RX10 (.code yX10_write cX10_write 3 (some .int) :: MW) (some .int) "write")   : ∀ (n : Nat) (v0 : Nat) (v1 : Int32) (h : AH) (H : Heap) (locs : List Loc) (cells slots : Nat) (ls : Array Slot) (hR : Rp G h H) (hL : ∀ q ∈ locs, gB G ≤ q.base) (hl : zl ls 3 [(0, zr v0), (1, .int v1)]) (hp : p_X10_write_2  n v0 v1 h = some (r, h')), W p l e (gR G hs 5 126) s m args below meth c H locs cells slots (MQ below (Qcc G (some (.int r)) h') args s (gC G - aZ hs) (gS - aU hs) (fun q => gB G ≤ q)) (F0 m 2 ls []) := by
  obtain ⟨hx, hb, hml, hown, hts, hT, hK, rs, hlk, hret, hnm⟩ := id C
  have hm : ∀ w ∈ MW, w.before args s = true := fun w hw => hts w (hT w hw)
  intro n
  induction n with
  | zero =>
    intro v0 v1 h H locs cells slots ls hR hL hl hp
    exact absurd (show none = some (r, h') from hp) (by simp)
  | succ n ih =>
    intro v0 v1 h H locs cells slots ls hR hL hl hp
    rw [p_X10_write_2.eq_2] at hp
    refine lv_iload_n hx hb dX10_write_2 rfl (zl_at hl 1 rfl) ?_
    refine z_aload_n hx hb dX10_write_3 rfl (zl_at hl 0 rfl) ?_
    obtain ⟨k1, hp⟩ := ck_i hp
    refine r_get (ci := 11) (C := RX10) (T := TX10) (N := 7) (v := zr (aR h v0 3)) hx hb hm ii_X10 hown hK hR rfl k1 3 (by decide) (hm _ mw_186) (fun _ h9 => h9) rfl dX10_write_4 ?_
    obtain ⟨k2, hp⟩ := ck_i hp
    obtain ⟨r3, h4, er3, hp⟩ := bR_i hp
    refine r_callF (ci := 0) (r := (RJx4a65c, TJx4a65c, 3)) (x := ⟨"java/util/List", "size", "()I"⟩) (n := 0) (As := []) (rest := [.int v1]) C (c_Jx4a65c_size_8abf5 l G (aR h v0 3) h r3 h4 er3) hR hL rfl k2 mw_210 mw_214 mw_216 mw_4 mw_218 (fw_size hK) (by decide +kernel) (by decide) rfl (zl_size hl) rfl (by simp [zr_cat, in_cat]) dX10_write_7 (st2 := [.int r3, .int v1]) rfl (fun H locs cells slots hR hL => ?_)
    refine lv_icmp_ge (tgt := 73) hx hb dX10_write_12 (by decide) (fun c5 => ?_) (fun c5 => ?_)
    · replace hp := ite_p hp c5
      refine lv_iconst (v := iI (-1)) hx hb dX10_write_73 rfl ?_
      cases hp
      exact r_zret C hR hL rfl dX10_write_74
    · replace hp := ite_n hp c5
      refine z_aload_n hx hb dX10_write_15 rfl (zl_at hl 0 rfl) ?_
      obtain ⟨k6, hp⟩ := ck_i hp
      refine r_get (ci := 11) (C := RX10) (T := TX10) (N := 7) (v := zr (aR h4 v0 3)) hx hb hm ii_X10 hown hK hR rfl k6 3 (by decide) (hm _ mw_186) (fun _ h9 => h9) rfl dX10_write_16 ?_
      refine lv_iload_n hx hb dX10_write_19 rfl (zl_at hl 1 rfl) ?_
      obtain ⟨k7, hp⟩ := ck_i hp
      obtain ⟨r8, h9, er8, hp⟩ := bR_i hp
      refine r_callF (ci := 0) (r := (RJx4a65c, TJx4a65c, 3)) (x := ⟨"java/util/List", "get", "(I)Ljava/lang/Object;"⟩) (n := 1) (As := [.int v1]) (rest := []) C (c_Jx4a65c_get_915e3 l G (aR h4 v0 3) v1 h4 r8 h9 er8) hR hL rfl k7 mw_220 mw_223 mw_225 mw_4 mw_227 (fw_get hK) (by decide +kernel) (by decide) rfl (zl_size hl) rfl (by simp [zr_cat, in_cat]) dX10_write_20 (st2 := [zr r8]) rfl (fun H locs cells slots hR hL => ?_)
      obtain ⟨k10, hp⟩ := ck_i hp
      refine r_castC (ci := 9) (r := (RX8, TX8, 4)) hx hb hown (hm _ mw_238) hK hR rfl k10 dX10_write_25 ?_
      refine z_astore_n (lv' := [(2, zr r8), (0, zr v0), (1, .int v1)]) hx hb dX10_write_28 rfl hl (by decide) rfl (fun ls hl => ?_)
      refine z_aload_n hx hb dX10_write_29 rfl (zl_at hl 0 rfl) ?_
      obtain ⟨k11, hp⟩ := ck_i hp
      obtain ⟨r12, h13, er12, hp⟩ := bR_i hp
      refine r_callV (ci := 9) (r := (RX8, TX8, 4)) (n := 0) (As := []) (rest := []) C (c_X8_isReady l G r8 h9 r12 h13 er12) hR hL rfl k11 mw_239 mw_240 mw_241 mw_26 mw_242 (by decide +kernel) (by decide) rfl (zl_size hl) rfl (by simp [zr_cat, in_cat]) dX10_write_30 (st2 := [.int r12]) rfl (fun H locs cells slots hR hL => ?_)
      refine lv_if_eq (tgt := 67) hx hb dX10_write_33 (by decide) (fun c14 => ?_) (fun c14 => ?_)
      · replace hp := ite_p hp c14
        exact s_X10_write_67 C (fun hR hL hl hp => ih _ _ _ _ _ _ _ _ hR hL hl hp) hR hL (zl_sub hl [1, 2] rfl) hp
      · replace hp := ite_n hp c14
        refine z_aload_n hx hb dX10_write_36 rfl (zl_at hl 1 rfl) ?_
        refine z_aload_n hx hb dX10_write_37 rfl (zl_at hl 0 rfl) ?_
        obtain ⟨k15, hp⟩ := ck_i hp
        obtain ⟨r16, h17, er16, hp⟩ := bR_i hp
        refine r_callV (ci := 11) (r := (RX10, TX10, 7)) (n := 1) (As := [zr r8]) (rest := []) C (c_X10_isFirstForItsText l G v0 r8 h13 r16 h17 er16) hR hL rfl k15 mw_247 mw_249 mp_0 mw_1 mw_250 (by decide +kernel) (by decide) rfl (zl_size hl) rfl (by simp [zr_cat, in_cat]) dX10_write_38 (st2 := [.int r16]) rfl (fun H locs cells slots hR hL => ?_)
        refine lv_if_eq (tgt := 67) hx hb dX10_write_41 (by decide) (fun c18 => ?_) (fun c18 => ?_)
        · replace hp := ite_p hp c18
          exact s_X10_write_67 C (fun hR hL hl hp => ih _ _ _ _ _ _ _ _ hR hL hl hp) hR hL (zl_sub hl [1, 2] rfl) hp
        · replace hp := ite_n hp c18
          refine z_aload_n hx hb dX10_write_44 rfl (zl_at hl 1 rfl) ?_
          obtain ⟨k19, hp⟩ := ck_i hp
          refine r_get (ci := 11) (C := RX10) (T := TX10) (N := 7) (v := zr (aR h17 v0 3)) hx hb hm ii_X10 hown hK hR rfl k19 3 (by decide) (hm _ mw_186) (fun _ h9 => h9) rfl dX10_write_45 ?_
          refine lv_iload_n hx hb dX10_write_48 rfl (zl_at hl 2 rfl) ?_
          obtain ⟨k20, hp⟩ := ck_i hp
          obtain ⟨r21, h22, er21, hp⟩ := bR_i hp
          refine r_callF (ci := 0) (r := (RJx4a65c, TJx4a65c, 3)) (x := ⟨"java/util/List", "remove", "(I)Ljava/lang/Object;"⟩) (n := 1) (As := [.int v1]) (rest := []) C (c_Jx4a65c_remove_915e3 l G (aR h17 v0 3) v1 h17 r21 h22 er21) hR hL rfl k20 mw_252 mw_255 mw_257 mw_4 mw_259 (fw_remove hK) (by decide +kernel) (by decide) rfl (zl_size hl) rfl (by simp [zr_cat, in_cat]) dX10_write_49 (st2 := [zr r21]) rfl (fun H locs cells slots hR hL => ?_)
          refine lv_pop hx hb dX10_write_54 (zr_cat _) ?_
          refine z_aload_n hx hb dX10_write_55 rfl (zl_at hl 0 rfl) ?_
          obtain ⟨k23, hp⟩ := ck_i hp
          refine r_get (ci := 9) (C := RX8) (T := TX8) (N := 4) (v := zr (aR h22 r8 1)) hx hb hm ii_X8 hown hK hR rfl k23 1 (by decide) (hm _ mw_929) (fun _ h9 => h9) rfl dX10_write_56 ?_
          obtain ⟨k24, hp⟩ := ck_i hp
          obtain ⟨r25, h26, er25, hp⟩ := bR_i hp
          refine r_callV (ci := 10) (r := (RX9, TX9, 10)) (n := 0) (As := []) (rest := []) C (c_X9_keepAsSaved l G (aR h22 r8 1) h22 r25 h26 er25) hR hL rfl k24 mw_267 mw_268 mw_269 mw_7 mw_270 (by decide +kernel) (by decide) rfl (zl_size hl) rfl (by simp [zr_cat, in_cat]) dX10_write_59 (st2 := []) rfl (fun H locs cells slots hR hL => ?_)
          refine z_aload_n hx hb dX10_write_62 rfl (zl_at hl 0 rfl) ?_
          obtain ⟨k27, hp⟩ := ck_i hp
          refine r_get (ci := 9) (C := RX8) (T := TX8) (N := 4) (v := .int (aI h26 r8 0)) hx hb hm ii_X8 hown hK hR rfl k27 0 (by decide) (hm _ mw_927) (fun _ h9 => h9) rfl dX10_write_63 ?_
          cases hp
          exact r_zret C hR hL rfl dX10_write_66
def p_X10_write_0  (v0 : Nat) (h : AH) : Option (Int32 × AH) :=
  nm ((iI 0)) fun (x1 : Int32) =>
  p_X10_write_2  FU v0 x1 h
set_option maxHeartbeats 4000000 in
set_option maxRecDepth 100000 in
theorem s_X10_write_0 {p : Program} {l : Launch} {e : Env} {s : State} {m : MethodId} {args : Array Value} {below : List Frame} {meth : Method} {c : Code} {G : GG} {hs : AH} {r : Int32} {h' : AH} (C : Cx G hs p s m args meth c cX10_write 3 RX10 (.code yX10_write cX10_write 3 (some .int) :: MW) (some .int) "write")   {v0 : Nat} {h : AH} {H : Heap} {locs : List Loc} {cells slots : Nat} {ls : Array Slot} (hR : Rp G h H) (hL : ∀ q ∈ locs, gB G ≤ q.base) (hl : zl ls 3 [(0, zr v0)]) (hp : p_X10_write_0  v0 h = some (r, h')) : W p l e (gR G hs 5 126) s m args below meth c H locs cells slots (MQ below (Qcc G (some (.int r)) h') args s (gC G - aZ hs) (gS - aU hs) (fun q => gB G ≤ q)) (F0 m 0 ls []) := by
  obtain ⟨hx, hb, hml, hown, hts, hT, hK, rs, hlk, hret, hnm⟩ := id C
  have hm : ∀ w ∈ MW, w.before args s = true := fun w hw => hts w (hT w hw)
  unfold p_X10_write_0 at hp
  refine lv_iconst (v := iI 0) hx hb dX10_write_0 rfl ?_
  refine lv_topi (fun x1 ex1 => ?_)
  replace hp := nm_i hp ex1
  refine z_istore_n (lv' := [(1, .int x1), (0, zr v0)]) hx hb dX10_write_1 rfl hl (by decide) rfl (fun ls hl => ?_)
  exact s_X10_write_2 C  _ _ _ _ _ _ _ _ _ hR hL (zl_sub hl [1, 0] rfl) hp
def p_X10_write (v0 : Nat) (h : AH) : Option (Int32 × AH) := ck (v0 ≠ 0) <| p_X10_write_0 v0 h
theorem c_X10_write (l : Launch) (G : GG) (v0 : Nat) (h : AH) (r : Int32) (h' : AH) (hp : p_X10_write v0 h = some (r, h')) : Ct l yX10_write (.code yX10_write cX10_write 3 (some .int) :: MW) G 5 126 [.ref (v0 - 1)] h (some (.int r)) h' := by
  obtain ⟨hz0, hp⟩ := ck_i hp
  refine Ct.of (by decide +kernel) (Nat.le_of_ble_eq_true rfl) ?_
  intro p e s m args below meth c C hR ls hl
  have hl : zl ls 3 [(0, zr v0)] := ⟨by rw [zr_p hz0]; exact hl, by simp [zr_cat, in_cat]⟩
  exact s_X10_write_0 C hR (fun _ hq => nomatch hq) hl hp
/-! CursorKeep.queued()I -/
def p_X10_queued_0  (v0 : Nat) (h : AH) : Option (Int32 × AH) :=
  ck (aK h v0 = 12) <|
  ck (aK h (aR h v0 3) = 1) <|
  bR (p_Jx4a65c_size_8abf5 (aR h v0 3) h) fun r3 h4 =>
  some (r3, h4)
set_option maxHeartbeats 4000000 in
set_option maxRecDepth 100000 in
theorem s_X10_queued_0 {p : Program} {l : Launch} {e : Env} {s : State} {m : MethodId} {args : Array Value} {below : List Frame} {meth : Method} {c : Code} {G : GG} {hs : AH} {r : Int32} {h' : AH} (C : Cx G hs p s m args meth c cX10_queued 1 RX10 (.code yX10_queued cX10_queued 1 (some .int) :: MW) (some .int) "queued")   {v0 : Nat} {h : AH} {H : Heap} {locs : List Loc} {cells slots : Nat} {ls : Array Slot} (hR : Rp G h H) (hL : ∀ q ∈ locs, gB G ≤ q.base) (hl : zl ls 1 [(0, zr v0)]) (hp : p_X10_queued_0  v0 h = some (r, h')) : W p l e (gR G hs 2 60) s m args below meth c H locs cells slots (MQ below (Qcc G (some (.int r)) h') args s (gC G - aZ hs) (gS - aU hs) (fun q => gB G ≤ q)) (F0 m 0 ls []) := by
  obtain ⟨hx, hb, hml, hown, hts, hT, hK, rs, hlk, hret, hnm⟩ := id C
  have hm : ∀ w ∈ MW, w.before args s = true := fun w hw => hts w (hT w hw)
  unfold p_X10_queued_0 at hp
  refine z_aload_n hx hb dX10_queued_0 rfl (zl_at hl 0 rfl) ?_
  obtain ⟨k1, hp⟩ := ck_i hp
  refine r_get (ci := 11) (C := RX10) (T := TX10) (N := 7) (v := zr (aR h v0 3)) hx hb hm ii_X10 hown hK hR rfl k1 3 (by decide) (hm _ mw_186) (fun _ h9 => h9) rfl dX10_queued_1 ?_
  obtain ⟨k2, hp⟩ := ck_i hp
  obtain ⟨r3, h4, er3, hp⟩ := bR_i hp
  refine r_callF (ci := 0) (r := (RJx4a65c, TJx4a65c, 3)) (x := ⟨"java/util/List", "size", "()I"⟩) (n := 0) (As := []) (rest := []) C (c_Jx4a65c_size_8abf5 l G (aR h v0 3) h r3 h4 er3) hR hL rfl k2 mw_210 mw_214 mw_216 mw_4 mw_218 (fw_size hK) (by decide +kernel) (by decide) rfl (zl_size hl) rfl (by simp [zr_cat, in_cat]) dX10_queued_4 (st2 := [.int r3]) rfl (fun H locs cells slots hR hL => ?_)
  cases hp
  exact r_zret C hR hL rfl dX10_queued_9
def p_X10_queued (v0 : Nat) (h : AH) : Option (Int32 × AH) := ck (v0 ≠ 0) <| p_X10_queued_0 v0 h
theorem c_X10_queued (l : Launch) (G : GG) (v0 : Nat) (h : AH) (r : Int32) (h' : AH) (hp : p_X10_queued v0 h = some (r, h')) : Ct l yX10_queued (.code yX10_queued cX10_queued 1 (some .int) :: MW) G 2 60 [.ref (v0 - 1)] h (some (.int r)) h' := by
  obtain ⟨hz0, hp⟩ := ck_i hp
  refine Ct.of (by decide +kernel) (Nat.le_of_ble_eq_true rfl) ?_
  intro p e s m args below meth c C hR ls hl
  have hl : zl ls 1 [(0, zr v0)] := ⟨by rw [zr_p hz0]; exact hl, by simp [zr_cat, in_cat]⟩
  exact s_X10_queued_0 C hR (fun _ hq => nomatch hq) hl hp
/-! CursorKeep.savedVersion(I)I -/
def p_X10_savedVersion_0  (v0 : Nat) (v1 : Int32) (h : AH) : Option (Except Nat Int32 × AH) :=
  ck (aK h v0 = 12) <|
  bX (0) (p_X10_textAt v0 v1 h) fun r2 h3 =>
  ck (aK h3 r2 = 11) <|
  some (.ok (aI h3 r2 5), h3)
set_option maxHeartbeats 4000000 in
set_option maxRecDepth 100000 in
theorem s_X10_savedVersion_0 {p : Program} {l : Launch} {e : Env} {s : State} {m : MethodId} {args : Array Value} {below : List Frame} {meth : Method} {c : Code} {G : GG} {hs : AH} {r : Except Nat Int32} {h' : AH} (hfl : l.stackTraces = false) (htb : ∀ x ∈ c.exceptionTable.toList, False) (C : Cx G hs p s m args meth c cX10_savedVersion 2 RX10 (.code yX10_savedVersion cX10_savedVersion 2 (some .int) :: MW) (some .int) "savedVersion")   {v0 : Nat} {v1 : Int32} {h : AH} {H : Heap} {locs : List Loc} {cells slots : Nat} {ls : Array Slot} (hR : Rp G h H) (hL : ∀ q ∈ locs, gB G ≤ q.base) (hl : zl ls 2 [(0, zr v0), (1, .int v1)]) (hp : p_X10_savedVersion_0  v0 v1 h = some (r, h')) : W p l e (gR G hs 7 132) s m args below meth c H locs cells slots (vx_MQ below (Qxx G (fun x => some (.int x)) r h') (Xxx G r h') args s (gC G - aZ hs) (gS - aU hs) (fun q => gB G ≤ q)) (F0 m 0 ls []) := by
  obtain ⟨hx, hb, hml, hown, hts, hT, hK, rs, hlk, hret, hnm⟩ := id C
  have hm : ∀ w ∈ MW, w.before args s = true := fun w hw => hts w (hT w hw)
  unfold p_X10_savedVersion_0 at hp
  refine z_aload_n hx hb dX10_savedVersion_0 rfl (zl_at hl 0 rfl) ?_
  refine lv_iload_n hx hb dX10_savedVersion_1 rfl (zl_at hl 1 rfl) ?_
  obtain ⟨k1, hp⟩ := ck_i hp
  rcases bX_i hp with ⟨r2, h3, er2, hp⟩ | ⟨e4, er2, hre⟩
  · refine r_runVX (ci := 11) (r := (RX10, TX10, 7)) (n := 1) (As := [.int v1]) (rest := []) C (c_X10_textAt l hfl G v0 v1 h (.ok r2) h3 er2) hR rfl k1 mw_382 mw_384 mp_4 mw_1 mw_385 (by decide +kernel) (by decide) rfl (zl_size hl) rfl (by simp [zr_cat, in_cat]) dX10_savedVersion_2 (fun cells slots hr => ?_)
    refine r_okRun hR hL hr (fun H locs cells slots hR hL => ?_)
    refine W.eq (g2 := F0 m 5 ls [zr r2]) rfl ?_
    obtain ⟨k5, hp⟩ := ck_i hp
    refine r_get (ci := 10) (C := RX9) (T := TX9) (N := 10) (v := .int (aI h3 r2 5)) hx hb hm ii_X9 hown hK hR rfl k5 5 (by decide) (hm _ mw_142) (fun _ h9 => h9) rfl dX10_savedVersion_5 ?_
    cases hp
    exact r_zretX C hR hL rfl dX10_savedVersion_8
  · subst hre
    refine r_runVX (ci := 11) (r := (RX10, TX10, 7)) (n := 1) (As := [.int v1]) (rest := []) C (c_X10_textAt l hfl G v0 v1 h (.error e4) h' er2) hR rfl k1 mw_382 mw_384 mp_4 mw_1 mw_385 (by decide +kernel) (by decide) rfl (zl_size hl) rfl (by simp [zr_cat, in_cat]) dX10_savedVersion_2 (fun cells slots hr => ?_)
    refine r_exRun hR hL hr (fun q9 ce H locs cells slots hR hL hce hcv hcl => ?_)
    exact r_out C htb hR hL hce hcv hcl
def p_X10_savedVersion (v0 : Nat) (v1 : Int32) (h : AH) : Option (Except Nat Int32 × AH) := ck (v0 ≠ 0) <| p_X10_savedVersion_0 v0 v1 h
theorem c_X10_savedVersion (l : Launch) (hfl : l.stackTraces = false) (G : GG) (v0 : Nat) (v1 : Int32) (h : AH) (r : Except Nat Int32) (h' : AH) (hp : p_X10_savedVersion v0 v1 h = some (r, h')) : Cxt l yX10_savedVersion (.code yX10_savedVersion cX10_savedVersion 2 (some .int) :: MW) G 7 132 [.ref (v0 - 1), .int v1] h (fun x => some (.int x)) r h' := by
  obtain ⟨hz0, hp⟩ := ck_i hp
  refine Cxt.of (by decide +kernel) (Nat.le_of_ble_eq_true rfl) ?_
  intro p e s m args below meth c C htb hR ls hl
  have hl : zl ls 2 [(0, zr v0), (1, .int v1)] := ⟨by rw [zr_p hz0]; exact hl, by simp [zr_cat, in_cat]⟩
  exact s_X10_savedVersion_0 hfl htb C hR (fun _ hq => nomatch hq) hl hp
/-! CursorKeep.savedLength(I)I -/
def p_X10_savedLength_0  (v0 : Nat) (v1 : Int32) (h : AH) : Option (Except Nat Int32 × AH) :=
  ck (aK h v0 = 12) <|
  bX (0) (p_X10_textAt v0 v1 h) fun r2 h3 =>
  ck (aK h3 r2 = 11) <|
  some (.ok (aI h3 r2 6), h3)
set_option maxHeartbeats 4000000 in
set_option maxRecDepth 100000 in
theorem s_X10_savedLength_0 {p : Program} {l : Launch} {e : Env} {s : State} {m : MethodId} {args : Array Value} {below : List Frame} {meth : Method} {c : Code} {G : GG} {hs : AH} {r : Except Nat Int32} {h' : AH} (hfl : l.stackTraces = false) (htb : ∀ x ∈ c.exceptionTable.toList, False) (C : Cx G hs p s m args meth c cX10_savedLength 2 RX10 (.code yX10_savedLength cX10_savedLength 2 (some .int) :: MW) (some .int) "savedLength")   {v0 : Nat} {v1 : Int32} {h : AH} {H : Heap} {locs : List Loc} {cells slots : Nat} {ls : Array Slot} (hR : Rp G h H) (hL : ∀ q ∈ locs, gB G ≤ q.base) (hl : zl ls 2 [(0, zr v0), (1, .int v1)]) (hp : p_X10_savedLength_0  v0 v1 h = some (r, h')) : W p l e (gR G hs 7 132) s m args below meth c H locs cells slots (vx_MQ below (Qxx G (fun x => some (.int x)) r h') (Xxx G r h') args s (gC G - aZ hs) (gS - aU hs) (fun q => gB G ≤ q)) (F0 m 0 ls []) := by
  obtain ⟨hx, hb, hml, hown, hts, hT, hK, rs, hlk, hret, hnm⟩ := id C
  have hm : ∀ w ∈ MW, w.before args s = true := fun w hw => hts w (hT w hw)
  unfold p_X10_savedLength_0 at hp
  refine z_aload_n hx hb dX10_savedLength_0 rfl (zl_at hl 0 rfl) ?_
  refine lv_iload_n hx hb dX10_savedLength_1 rfl (zl_at hl 1 rfl) ?_
  obtain ⟨k1, hp⟩ := ck_i hp
  rcases bX_i hp with ⟨r2, h3, er2, hp⟩ | ⟨e4, er2, hre⟩
  · refine r_runVX (ci := 11) (r := (RX10, TX10, 7)) (n := 1) (As := [.int v1]) (rest := []) C (c_X10_textAt l hfl G v0 v1 h (.ok r2) h3 er2) hR rfl k1 mw_382 mw_384 mp_4 mw_1 mw_385 (by decide +kernel) (by decide) rfl (zl_size hl) rfl (by simp [zr_cat, in_cat]) dX10_savedLength_2 (fun cells slots hr => ?_)
    refine r_okRun hR hL hr (fun H locs cells slots hR hL => ?_)
    refine W.eq (g2 := F0 m 5 ls [zr r2]) rfl ?_
    obtain ⟨k5, hp⟩ := ck_i hp
    refine r_get (ci := 10) (C := RX9) (T := TX9) (N := 10) (v := .int (aI h3 r2 6)) hx hb hm ii_X9 hown hK hR rfl k5 6 (by decide) (hm _ mw_144) (fun _ h9 => h9) rfl dX10_savedLength_5 ?_
    cases hp
    exact r_zretX C hR hL rfl dX10_savedLength_8
  · subst hre
    refine r_runVX (ci := 11) (r := (RX10, TX10, 7)) (n := 1) (As := [.int v1]) (rest := []) C (c_X10_textAt l hfl G v0 v1 h (.error e4) h' er2) hR rfl k1 mw_382 mw_384 mp_4 mw_1 mw_385 (by decide +kernel) (by decide) rfl (zl_size hl) rfl (by simp [zr_cat, in_cat]) dX10_savedLength_2 (fun cells slots hr => ?_)
    refine r_exRun hR hL hr (fun q9 ce H locs cells slots hR hL hce hcv hcl => ?_)
    exact r_out C htb hR hL hce hcv hcl
def p_X10_savedLength (v0 : Nat) (v1 : Int32) (h : AH) : Option (Except Nat Int32 × AH) := ck (v0 ≠ 0) <| p_X10_savedLength_0 v0 v1 h
theorem c_X10_savedLength (l : Launch) (hfl : l.stackTraces = false) (G : GG) (v0 : Nat) (v1 : Int32) (h : AH) (r : Except Nat Int32) (h' : AH) (hp : p_X10_savedLength v0 v1 h = some (r, h')) : Cxt l yX10_savedLength (.code yX10_savedLength cX10_savedLength 2 (some .int) :: MW) G 7 132 [.ref (v0 - 1), .int v1] h (fun x => some (.int x)) r h' := by
  obtain ⟨hz0, hp⟩ := ck_i hp
  refine Cxt.of (by decide +kernel) (Nat.le_of_ble_eq_true rfl) ?_
  intro p e s m args below meth c C htb hR ls hl
  have hl : zl ls 2 [(0, zr v0), (1, .int v1)] := ⟨by rw [zr_p hz0]; exact hl, by simp [zr_cat, in_cat]⟩
  exact s_X10_savedLength_0 hfl htb C hR (fun _ hq => nomatch hq) hl hp
/-! CursorKeep.savedLetter(II)C -/
def p_X10_savedLetter_18   (h : AH) : Option (Except Nat Int32 × AH) :=
  ck (aZ h + 1 ≤ aC h ∧ aU h + 6 ≤ gS) <|
  some (.error 1, uN h 0 6)
set_option maxHeartbeats 4000000 in
set_option maxRecDepth 100000 in
theorem s_X10_savedLetter_18 {p : Program} {l : Launch} {e : Env} {s : State} {m : MethodId} {args : Array Value} {below : List Frame} {meth : Method} {c : Code} {G : GG} {hs : AH} {r : Except Nat Int32} {h' : AH} (hfl : l.stackTraces = false) (htb : ∀ x ∈ c.exceptionTable.toList, False) (C : Cx G hs p s m args meth c cX10_savedLetter 4 RX10 (.code yX10_savedLetter cX10_savedLetter 4 (some .char) :: MW) (some .char) "savedLetter")    {h : AH} {H : Heap} {locs : List Loc} {cells slots : Nat} {ls : Array Slot} (hR : Rp G h H) (hL : ∀ q ∈ locs, gB G ≤ q.base) (hl : zl ls 4 []) (hp : p_X10_savedLetter_18   h = some (r, h')) : W p l e (gR G hs 7 132) s m args below meth c H locs cells slots (vx_MQ below (Qxx G (fun x => some (.int x)) r h') (Xxx G r h') args s (gC G - aZ hs) (gS - aU hs) (fun q => gB G ≤ q)) (F0 m 18 ls []) := by
  obtain ⟨hx, hb, hml, hown, hts, hT, hK, rs, hlk, hret, hnm⟩ := id C
  have hm : ∀ w ∈ MW, w.before args s = true := fun w hw => hts w (hT w hw)
  unfold p_X10_savedLetter_18 at hp
  obtain ⟨k1, hp⟩ := ck_i hp
  cases hp
  exact r_throw (e0 := 1) (names := ["java/lang/RuntimeException", "java/lang/Exception"]) (text := "no such place") C hfl htb hR hL (by decide +kernel) (by decide +kernel) mw_314 mw_13 (hK.2.2.2.2.2.2.2.2.2.2.2.1 (115, "no such place") (by decide +kernel)) at_1 go_1 (zl_size hl) dX10_savedLetter_18 dX10_savedLetter_21 (Or.inl ⟨dX10_savedLetter_22, rfl⟩) dX10_savedLetter_24 dX10_savedLetter_27 (by decide) (by simp [zr_cat, in_cat]) (by decide +kernel) k1
def p_X10_savedLetter_0  (v0 : Nat) (v1 : Int32) (v2 : Int32) (h : AH) : Option (Except Nat Int32 × AH) :=
  ck (aK h v0 = 12) <|
  bX (0) (p_X10_textAt v0 v1 h) fun r2 h3 =>
  if v2 < 0 then
    p_X10_savedLetter_18   h3
  else
    ck (aK h3 r2 = 11) <|
    if v2 < (aI h3 r2 6) then
      ck (aK h3 r2 = 11) <|
      ck (aK h3 (aR h3 r2 2) = 21 ∧ ix v2 (aN h3 (aR h3 r2 2))) <|
      ck (okC (aI h3 (aR h3 r2 2) v2.toNatClampNeg)) <|
      some (.ok (aI h3 (aR h3 r2 2) v2.toNatClampNeg), h3)
    else
      p_X10_savedLetter_18   h3
set_option maxHeartbeats 4000000 in
set_option maxRecDepth 100000 in
theorem s_X10_savedLetter_0 {p : Program} {l : Launch} {e : Env} {s : State} {m : MethodId} {args : Array Value} {below : List Frame} {meth : Method} {c : Code} {G : GG} {hs : AH} {r : Except Nat Int32} {h' : AH} (hfl : l.stackTraces = false) (htb : ∀ x ∈ c.exceptionTable.toList, False) (C : Cx G hs p s m args meth c cX10_savedLetter 4 RX10 (.code yX10_savedLetter cX10_savedLetter 4 (some .char) :: MW) (some .char) "savedLetter")   {v0 : Nat} {v1 : Int32} {v2 : Int32} {h : AH} {H : Heap} {locs : List Loc} {cells slots : Nat} {ls : Array Slot} (hR : Rp G h H) (hL : ∀ q ∈ locs, gB G ≤ q.base) (hl : zl ls 4 [(0, zr v0), (1, .int v1), (2, .int v2)]) (hp : p_X10_savedLetter_0  v0 v1 v2 h = some (r, h')) : W p l e (gR G hs 7 132) s m args below meth c H locs cells slots (vx_MQ below (Qxx G (fun x => some (.int x)) r h') (Xxx G r h') args s (gC G - aZ hs) (gS - aU hs) (fun q => gB G ≤ q)) (F0 m 0 ls []) := by
  obtain ⟨hx, hb, hml, hown, hts, hT, hK, rs, hlk, hret, hnm⟩ := id C
  have hm : ∀ w ∈ MW, w.before args s = true := fun w hw => hts w (hT w hw)
  unfold p_X10_savedLetter_0 at hp
  refine z_aload_n hx hb dX10_savedLetter_0 rfl (zl_at hl 0 rfl) ?_
  refine lv_iload_n hx hb dX10_savedLetter_1 rfl (zl_at hl 1 rfl) ?_
  obtain ⟨k1, hp⟩ := ck_i hp
  rcases bX_i hp with ⟨r2, h3, er2, hp⟩ | ⟨e4, er2, hre⟩
  · refine r_runVX (ci := 11) (r := (RX10, TX10, 7)) (n := 1) (As := [.int v1]) (rest := []) C (c_X10_textAt l hfl G v0 v1 h (.ok r2) h3 er2) hR rfl k1 mw_382 mw_384 mp_4 mw_1 mw_385 (by decide +kernel) (by decide) rfl (zl_size hl) rfl (by simp [zr_cat, in_cat]) dX10_savedLetter_2 (fun cells slots hr => ?_)
    refine r_okRun hR hL hr (fun H locs cells slots hR hL => ?_)
    refine W.eq (g2 := F0 m 5 ls [zr r2]) rfl ?_
    refine z_astore_n (lv' := [(3, zr r2), (0, zr v0), (1, .int v1), (2, .int v2)]) hx hb dX10_savedLetter_5 rfl hl (by decide) rfl (fun ls hl => ?_)
    refine lv_iload_n hx hb dX10_savedLetter_6 rfl (zl_at hl 3 rfl) ?_
    refine lv_if_lt (tgt := 18) hx hb dX10_savedLetter_7 (by decide) (fun c5 => ?_) (fun c5 => ?_)
    · replace hp := ite_p hp c5
      exact s_X10_savedLetter_18 hfl htb C  hR hL (zl_sub hl [] rfl) hp
    · replace hp := ite_n hp c5
      refine lv_iload_n hx hb dX10_savedLetter_10 rfl (zl_at hl 3 rfl) ?_
      refine z_aload_n hx hb dX10_savedLetter_11 rfl (zl_at hl 0 rfl) ?_
      obtain ⟨k6, hp⟩ := ck_i hp
      refine r_get (ci := 10) (C := RX9) (T := TX9) (N := 10) (v := .int (aI h3 r2 6)) hx hb hm ii_X9 hown hK hR rfl k6 6 (by decide) (hm _ mw_144) (fun _ h9 => h9) rfl dX10_savedLetter_12 ?_
      refine lv_icmp_lt (tgt := 28) hx hb dX10_savedLetter_15 (by decide) (fun c7 => ?_) (fun c7 => ?_)
      · replace hp := ite_p hp c7
        refine z_aload_n hx hb dX10_savedLetter_28 rfl (zl_at hl 0 rfl) ?_
        obtain ⟨k8, hp⟩ := ck_i hp
        refine r_get (ci := 10) (C := RX9) (T := TX9) (N := 10) (v := zr (aR h3 r2 2)) hx hb hm ii_X9 hown hK hR rfl k8 2 (by decide) (hm _ mw_135) (fun _ h9 => h9) rfl dX10_savedLetter_29 ?_
        refine lv_iload_n hx hb dX10_savedLetter_32 rfl (zl_at hl 3 rfl) ?_
        obtain ⟨k9, hp⟩ := ck_i hp
        refine r_cald hx hb hK hR k9.1 k9.2 dX10_savedLetter_33 ?_
        obtain ⟨k11, hp⟩ := ck_i hp
        cases hp
        exact r_zretX C hR hL (okC_n k11) dX10_savedLetter_34
      · replace hp := ite_n hp c7
        exact s_X10_savedLetter_18 hfl htb C  hR hL (zl_sub hl [] rfl) hp
  · subst hre
    refine r_runVX (ci := 11) (r := (RX10, TX10, 7)) (n := 1) (As := [.int v1]) (rest := []) C (c_X10_textAt l hfl G v0 v1 h (.error e4) h' er2) hR rfl k1 mw_382 mw_384 mp_4 mw_1 mw_385 (by decide +kernel) (by decide) rfl (zl_size hl) rfl (by simp [zr_cat, in_cat]) dX10_savedLetter_2 (fun cells slots hr => ?_)
    refine r_exRun hR hL hr (fun q9 ce H locs cells slots hR hL hce hcv hcl => ?_)
    exact r_out C htb hR hL hce hcv hcl
def p_X10_savedLetter (v0 : Nat) (v1 : Int32) (v2 : Int32) (h : AH) : Option (Except Nat Int32 × AH) := ck (v0 ≠ 0) <| p_X10_savedLetter_0 v0 v1 v2 h
theorem c_X10_savedLetter (l : Launch) (hfl : l.stackTraces = false) (G : GG) (v0 : Nat) (v1 : Int32) (v2 : Int32) (h : AH) (r : Except Nat Int32) (h' : AH) (hp : p_X10_savedLetter v0 v1 v2 h = some (r, h')) : Cxt l yX10_savedLetter (.code yX10_savedLetter cX10_savedLetter 4 (some .char) :: MW) G 7 132 [.ref (v0 - 1), .int v1, .int v2] h (fun x => some (.int x)) r h' := by
  obtain ⟨hz0, hp⟩ := ck_i hp
  refine Cxt.of (by decide +kernel) (Nat.le_of_ble_eq_true rfl) ?_
  intro p e s m args below meth c C htb hR ls hl
  have hl : zl ls 4 [(0, zr v0), (1, .int v1), (2, .int v2)] := ⟨by rw [zr_p hz0]; exact hl, by simp [zr_cat, in_cat]⟩
  exact s_X10_savedLetter_0 hfl htb C hR (fun _ hq => nomatch hq) hl hp
