/-! CursorKeepModel.<init>()V -/
def p_X11_init_262  : Nat → Nat → Int32 → AH → Option (Unit × AH)
  | 0, _, _, _ => none
  | n + 1, v0, v1, h =>
    if (iI 15) ≤ v1 then
      some ((), h)
    else
      ck (aK h v0 = 13) <|
      ck (aK h (aR h v0 5) = 20 ∧ ix v1 (aN h (aR h v0 5))) <|
      nm (uI h (aR h v0 5) v1.toNatClampNeg (iI (-1))) fun h5 =>
      nm (v1 + iI 1) fun (x6 : Int32) =>
      p_X11_init_262  n v0 x6 h5
set_option maxHeartbeats 4000000 in
set_option maxRecDepth 100000 in
theorem s_X11_init_262 {p : Program} {l : Launch} {e : Env} {s : State} {m : MethodId} {args : Array Value} {below : List Frame} {meth : Method} {c : Code} {G : GG} {hs : AH} {r : Unit} {h' : AH} (C : Cx G hs p s m args meth c cX11_init 2 RX11 (.code yX11_init cX11_init 2 none :: MW) none "<init>")   : ∀ (n : Nat) (v0 : Nat) (v1 : Int32) (h : AH) (H : Heap) (locs : List Loc) (cells slots : Nat) (ls : Array Slot) (hR : Rp G h H) (hL : ∀ q ∈ locs, gB G ≤ q.base) (hl : zl ls 2 [(0, zr v0), (1, .int v1)]) (hp : p_X11_init_262  n v0 v1 h = some (r, h')), W p l e (gR G hs 1 40) s m args below meth c H locs cells slots (MQ below (Qcc G (none) h') args s (gC G - aZ hs) (gS - aU hs) (fun q => gB G ≤ q)) (F0 m 262 ls []) := by
  obtain ⟨hx, hb, hml, hown, hts, hT, hK, rs, hlk, hret, hnm⟩ := id C
  have hm : ∀ w ∈ MW, w.before args s = true := fun w hw => hts w (hT w hw)
  intro n
  induction n with
  | zero =>
    intro v0 v1 h H locs cells slots ls hR hL hl hp
    exact absurd (show none = some (r, h') from hp) (by simp)
  | succ n ih =>
    intro v0 v1 h H locs cells slots ls hR hL hl hp
    rw [p_X11_init_262.eq_2] at hp
    refine lv_iload_n hx hb dX11_init_262 rfl (zl_at hl 1 rfl) ?_
    refine lv_bipush (v := iI 15) hx hb dX11_init_263 (by decide +kernel) ?_
    refine lv_icmp_ge (tgt := 281) hx hb dX11_init_265 (by decide) (fun c1 => ?_) (fun c1 => ?_)
    · replace hp := ite_p hp c1
      cases hp
      exact r_vret C hR hL dX11_init_281
    · replace hp := ite_n hp c1
      refine z_aload_n hx hb dX11_init_268 rfl (zl_at hl 0 rfl) ?_
      obtain ⟨k2, hp⟩ := ck_i hp
      refine r_get (ci := 12) (C := RX11) (T := TX11) (N := 32) (v := zr (aR h v0 5)) hx hb hm ii_X11 hown hK hR rfl k2 5 (by decide) (hm _ mw_987) (fun _ h9 => h9) rfl dX11_init_269 ?_
      refine lv_iload_n hx hb dX11_init_272 rfl (zl_at hl 1 rfl) ?_
      refine lv_iconst (v := iI (-1)) hx hb dX11_init_273 rfl ?_
      obtain ⟨k3, hp⟩ := ck_i hp
      refine r_iast hx hb hK hR hL k3.1 k3.2 dX11_init_274 (fun H locs hR hL => ?_)
      obtain ⟨h5, hp, hR⟩ := nm_h hp hR
      obtain ⟨x6, ex6⟩ : ∃ y : Int32, y = v1 + iI 1 := ⟨_, rfl⟩
      replace hp := nm_i hp ex6
      refine z_iinc (v := x6) (lv' := [(1, .int x6), (0, zr v0)]) hx hb dX11_init_275 hl (k := 1) rfl ex6 (by decide) rfl (fun ls hl => ?_)
      refine lv_goto (tgt := 262) hx hb dX11_init_278 (by decide) ?_
      exact ih _ _ _ _ _ _ _ _ hR hL (zl_sub hl [1, 0] rfl) hp
def p_X11_init_235  : Nat → Nat → Int32 → AH → Option (Unit × AH)
  | 0, _, _, _ => none
  | n + 1, v0, v1, h =>
    if (iI 3) ≤ v1 then
      nm ((iI 0)) fun (x2 : Int32) =>
      p_X11_init_262  FU v0 x2 h
    else
      ck (aK h v0 = 13) <|
      ck (aK h (aR h v0 24) = 20 ∧ ix v1 (aN h (aR h v0 24))) <|
      nm (uI h (aR h v0 24) v1.toNatClampNeg (iI (-1))) fun h6 =>
      ck (aK h6 v0 = 13) <|
      ck (aK h6 (aR h6 v0 25) = 20 ∧ ix v1 (aN h6 (aR h6 v0 25))) <|
      nm (uI h6 (aR h6 v0 25) v1.toNatClampNeg (iI (-1))) fun h10 =>
      nm (v1 + iI 1) fun (x11 : Int32) =>
      p_X11_init_235  n v0 x11 h10
set_option maxHeartbeats 4000000 in
set_option maxRecDepth 100000 in
theorem s_X11_init_235 {p : Program} {l : Launch} {e : Env} {s : State} {m : MethodId} {args : Array Value} {below : List Frame} {meth : Method} {c : Code} {G : GG} {hs : AH} {r : Unit} {h' : AH} (C : Cx G hs p s m args meth c cX11_init 2 RX11 (.code yX11_init cX11_init 2 none :: MW) none "<init>")   : ∀ (n : Nat) (v0 : Nat) (v1 : Int32) (h : AH) (H : Heap) (locs : List Loc) (cells slots : Nat) (ls : Array Slot) (hR : Rp G h H) (hL : ∀ q ∈ locs, gB G ≤ q.base) (hl : zl ls 2 [(0, zr v0), (1, .int v1)]) (hp : p_X11_init_235  n v0 v1 h = some (r, h')), W p l e (gR G hs 1 40) s m args below meth c H locs cells slots (MQ below (Qcc G (none) h') args s (gC G - aZ hs) (gS - aU hs) (fun q => gB G ≤ q)) (F0 m 235 ls []) := by
  obtain ⟨hx, hb, hml, hown, hts, hT, hK, rs, hlk, hret, hnm⟩ := id C
  have hm : ∀ w ∈ MW, w.before args s = true := fun w hw => hts w (hT w hw)
  intro n
  induction n with
  | zero =>
    intro v0 v1 h H locs cells slots ls hR hL hl hp
    exact absurd (show none = some (r, h') from hp) (by simp)
  | succ n ih =>
    intro v0 v1 h H locs cells slots ls hR hL hl hp
    rw [p_X11_init_235.eq_2] at hp
    refine lv_iload_n hx hb dX11_init_235 rfl (zl_at hl 1 rfl) ?_
    refine lv_iconst (v := iI 3) hx hb dX11_init_236 rfl ?_
    refine lv_icmp_ge (tgt := 260) hx hb dX11_init_237 (by decide) (fun c1 => ?_) (fun c1 => ?_)
    · replace hp := ite_p hp c1
      refine lv_iconst (v := iI 0) hx hb dX11_init_260 rfl ?_
      refine lv_topi (fun x2 ex2 => ?_)
      replace hp := nm_i hp ex2
      refine z_istore_n (lv' := [(1, .int x2), (0, zr v0)]) hx hb dX11_init_261 rfl hl (by decide) rfl (fun ls hl => ?_)
      exact s_X11_init_262 C  _ _ _ _ _ _ _ _ _ hR hL (zl_sub hl [1, 0] rfl) hp
    · replace hp := ite_n hp c1
      refine z_aload_n hx hb dX11_init_240 rfl (zl_at hl 0 rfl) ?_
      obtain ⟨k3, hp⟩ := ck_i hp
      refine r_get (ci := 12) (C := RX11) (T := TX11) (N := 32) (v := zr (aR h v0 24)) hx hb hm ii_X11 hown hK hR rfl k3 24 (by decide) (hm _ mw_1006) (fun _ h9 => h9) rfl dX11_init_241 ?_
      refine lv_iload_n hx hb dX11_init_244 rfl (zl_at hl 1 rfl) ?_
      refine lv_iconst (v := iI (-1)) hx hb dX11_init_245 rfl ?_
      obtain ⟨k4, hp⟩ := ck_i hp
      refine r_iast hx hb hK hR hL k4.1 k4.2 dX11_init_246 (fun H locs hR hL => ?_)
      obtain ⟨h6, hp, hR⟩ := nm_h hp hR
      refine z_aload_n hx hb dX11_init_247 rfl (zl_at hl 0 rfl) ?_
      obtain ⟨k7, hp⟩ := ck_i hp
      refine r_get (ci := 12) (C := RX11) (T := TX11) (N := 32) (v := zr (aR h6 v0 25)) hx hb hm ii_X11 hown hK hR rfl k7 25 (by decide) (hm _ mw_1007) (fun _ h9 => h9) rfl dX11_init_248 ?_
      refine lv_iload_n hx hb dX11_init_251 rfl (zl_at hl 1 rfl) ?_
      refine lv_iconst (v := iI (-1)) hx hb dX11_init_252 rfl ?_
      obtain ⟨k8, hp⟩ := ck_i hp
      refine r_iast hx hb hK hR hL k8.1 k8.2 dX11_init_253 (fun H locs hR hL => ?_)
      obtain ⟨h10, hp, hR⟩ := nm_h hp hR
      obtain ⟨x11, ex11⟩ : ∃ y : Int32, y = v1 + iI 1 := ⟨_, rfl⟩
      replace hp := nm_i hp ex11
      refine z_iinc (v := x11) (lv' := [(1, .int x11), (0, zr v0)]) hx hb dX11_init_254 hl (k := 1) rfl ex11 (by decide) rfl (fun ls hl => ?_)
      refine lv_goto (tgt := 235) hx hb dX11_init_257 (by decide) ?_
      exact ih _ _ _ _ _ _ _ _ hR hL (zl_sub hl [1, 0] rfl) hp
def p_X11_init_0  (v0 : Nat) (h : AH) : Option (Unit × AH) :=
  ck (v0 ≠ 0) <|
  ck ((0 ≤ (iI 450) ∧ (iI 450).toNatClampNeg ≤ 100000) ∧ aZ h + 1 ≤ aC h ∧ aU h + (iI 450).toNatClampNeg ≤ gS) <|
  nm (uN h 20 (iI 450).toNatClampNeg) fun h4 =>
  ck (aK h4 v0 = 13) <|
  nm (uR h4 v0 0 (aZ h)) fun h6 =>
  ck ((0 ≤ (iI 450) ∧ (iI 450).toNatClampNeg ≤ 100000) ∧ aZ h6 + 1 ≤ aC h6 ∧ aU h6 + (iI 450).toNatClampNeg ≤ gS) <|
  nm (uN h6 20 (iI 450).toNatClampNeg) fun h9 =>
  ck (aK h9 v0 = 13) <|
  nm (uR h9 v0 1 (aZ h6)) fun h11 =>
  ck ((0 ≤ (iI 450) ∧ (iI 450).toNatClampNeg ≤ 100000) ∧ aZ h11 + 1 ≤ aC h11 ∧ aU h11 + (iI 450).toNatClampNeg ≤ gS) <|
  nm (uN h11 22 (iI 450).toNatClampNeg) fun h14 =>
  ck (aK h14 v0 = 13) <|
  nm (uR h14 v0 2 (aZ h11)) fun h16 =>
  ck ((0 ≤ (iI 3) ∧ (iI 3).toNatClampNeg ≤ 100000) ∧ aZ h16 + 1 ≤ aC h16 ∧ aU h16 + (iI 3).toNatClampNeg ≤ gS) <|
  nm (uN h16 20 (iI 3).toNatClampNeg) fun h19 =>
  ck (aK h19 v0 = 13) <|
  nm (uR h19 v0 3 (aZ h16)) fun h21 =>
  ck ((0 ≤ (iI 3) ∧ (iI 3).toNatClampNeg ≤ 100000) ∧ aZ h21 + 1 ≤ aC h21 ∧ aU h21 + (iI 3).toNatClampNeg ≤ gS) <|
  nm (uN h21 20 (iI 3).toNatClampNeg) fun h24 =>
  ck (aK h24 v0 = 13) <|
  nm (uR h24 v0 4 (aZ h21)) fun h26 =>
  ck ((0 ≤ (iI 15) ∧ (iI 15).toNatClampNeg ≤ 100000) ∧ aZ h26 + 1 ≤ aC h26 ∧ aU h26 + (iI 15).toNatClampNeg ≤ gS) <|
  nm (uN h26 20 (iI 15).toNatClampNeg) fun h29 =>
  ck (aK h29 v0 = 13) <|
  nm (uR h29 v0 5 (aZ h26)) fun h31 =>
  ck ((0 ≤ (iI 3000) ∧ (iI 3000).toNatClampNeg ≤ 100000) ∧ aZ h31 + 1 ≤ aC h31 ∧ aU h31 + (iI 3000).toNatClampNeg ≤ gS) <|
  nm (uN h31 20 (iI 3000).toNatClampNeg) fun h34 =>
  ck (aK h34 v0 = 13) <|
  nm (uR h34 v0 6 (aZ h31)) fun h36 =>
  ck ((0 ≤ (iI 5) ∧ (iI 5).toNatClampNeg ≤ 100000) ∧ aZ h36 + 1 ≤ aC h36 ∧ aU h36 + (iI 5).toNatClampNeg ≤ gS) <|
  nm (uN h36 20 (iI 5).toNatClampNeg) fun h39 =>
  ck (aK h39 v0 = 13) <|
  nm (uR h39 v0 7 (aZ h36)) fun h41 =>
  ck ((0 ≤ (iI 5) ∧ (iI 5).toNatClampNeg ≤ 100000) ∧ aZ h41 + 1 ≤ aC h41 ∧ aU h41 + (iI 5).toNatClampNeg ≤ gS) <|
  nm (uN h41 20 (iI 5).toNatClampNeg) fun h44 =>
  ck (aK h44 v0 = 13) <|
  nm (uR h44 v0 8 (aZ h41)) fun h46 =>
  ck ((0 ≤ (iI 60) ∧ (iI 60).toNatClampNeg ≤ 100000) ∧ aZ h46 + 1 ≤ aC h46 ∧ aU h46 + (iI 60).toNatClampNeg ≤ gS) <|
  nm (uN h46 20 (iI 60).toNatClampNeg) fun h49 =>
  ck (aK h49 v0 = 13) <|
  nm (uR h49 v0 9 (aZ h46)) fun h51 =>
  ck ((0 ≤ (iI 60) ∧ (iI 60).toNatClampNeg ≤ 100000) ∧ aZ h51 + 1 ≤ aC h51 ∧ aU h51 + (iI 60).toNatClampNeg ≤ gS) <|
  nm (uN h51 20 (iI 60).toNatClampNeg) fun h54 =>
  ck (aK h54 v0 = 13) <|
  nm (uR h54 v0 10 (aZ h51)) fun h56 =>
  ck ((0 ≤ (iI 60) ∧ (iI 60).toNatClampNeg ≤ 100000) ∧ aZ h56 + 1 ≤ aC h56 ∧ aU h56 + (iI 60).toNatClampNeg ≤ gS) <|
  nm (uN h56 20 (iI 60).toNatClampNeg) fun h59 =>
  ck (aK h59 v0 = 13) <|
  nm (uR h59 v0 11 (aZ h56)) fun h61 =>
  ck ((0 ≤ (iI 60) ∧ (iI 60).toNatClampNeg ≤ 100000) ∧ aZ h61 + 1 ≤ aC h61 ∧ aU h61 + (iI 60).toNatClampNeg ≤ gS) <|
  nm (uN h61 20 (iI 60).toNatClampNeg) fun h64 =>
  ck (aK h64 v0 = 13) <|
  nm (uR h64 v0 12 (aZ h61)) fun h66 =>
  ck ((0 ≤ (iI 9000) ∧ (iI 9000).toNatClampNeg ≤ 100000) ∧ aZ h66 + 1 ≤ aC h66 ∧ aU h66 + (iI 9000).toNatClampNeg ≤ gS) <|
  nm (uN h66 20 (iI 9000).toNatClampNeg) fun h69 =>
  ck (aK h69 v0 = 13) <|
  nm (uR h69 v0 13 (aZ h66)) fun h71 =>
  ck ((0 ≤ (iI 9000) ∧ (iI 9000).toNatClampNeg ≤ 100000) ∧ aZ h71 + 1 ≤ aC h71 ∧ aU h71 + (iI 9000).toNatClampNeg ≤ gS) <|
  nm (uN h71 20 (iI 9000).toNatClampNeg) fun h74 =>
  ck (aK h74 v0 = 13) <|
  nm (uR h74 v0 14 (aZ h71)) fun h76 =>
  ck ((0 ≤ (iI 9000) ∧ (iI 9000).toNatClampNeg ≤ 100000) ∧ aZ h76 + 1 ≤ aC h76 ∧ aU h76 + (iI 9000).toNatClampNeg ≤ gS) <|
  nm (uN h76 20 (iI 9000).toNatClampNeg) fun h79 =>
  ck (aK h79 v0 = 13) <|
  nm (uR h79 v0 15 (aZ h76)) fun h81 =>
  ck ((0 ≤ (iI 9000) ∧ (iI 9000).toNatClampNeg ≤ 100000) ∧ aZ h81 + 1 ≤ aC h81 ∧ aU h81 + (iI 9000).toNatClampNeg ≤ gS) <|
  nm (uN h81 20 (iI 9000).toNatClampNeg) fun h84 =>
  ck (aK h84 v0 = 13) <|
  nm (uR h84 v0 16 (aZ h81)) fun h86 =>
  ck ((0 ≤ (iI 9000) ∧ (iI 9000).toNatClampNeg ≤ 100000) ∧ aZ h86 + 1 ≤ aC h86 ∧ aU h86 + (iI 9000).toNatClampNeg ≤ gS) <|
  nm (uN h86 20 (iI 9000).toNatClampNeg) fun h89 =>
  ck (aK h89 v0 = 13) <|
  nm (uR h89 v0 17 (aZ h86)) fun h91 =>
  ck ((0 ≤ (iI 60) ∧ (iI 60).toNatClampNeg ≤ 100000) ∧ aZ h91 + 1 ≤ aC h91 ∧ aU h91 + (iI 60).toNatClampNeg ≤ gS) <|
  nm (uN h91 20 (iI 60).toNatClampNeg) fun h94 =>
  ck (aK h94 v0 = 13) <|
  nm (uR h94 v0 19 (aZ h91)) fun h96 =>
  ck ((0 ≤ (iI 60) ∧ (iI 60).toNatClampNeg ≤ 100000) ∧ aZ h96 + 1 ≤ aC h96 ∧ aU h96 + (iI 60).toNatClampNeg ≤ gS) <|
  nm (uN h96 20 (iI 60).toNatClampNeg) fun h99 =>
  ck (aK h99 v0 = 13) <|
  nm (uR h99 v0 20 (aZ h96)) fun h101 =>
  ck ((0 ≤ (iI 60) ∧ (iI 60).toNatClampNeg ≤ 100000) ∧ aZ h101 + 1 ≤ aC h101 ∧ aU h101 + (iI 60).toNatClampNeg ≤ gS) <|
  nm (uN h101 20 (iI 60).toNatClampNeg) fun h104 =>
  ck (aK h104 v0 = 13) <|
  nm (uR h104 v0 21 (aZ h101)) fun h106 =>
  ck ((0 ≤ (iI 60) ∧ (iI 60).toNatClampNeg ≤ 100000) ∧ aZ h106 + 1 ≤ aC h106 ∧ aU h106 + (iI 60).toNatClampNeg ≤ gS) <|
  nm (uN h106 22 (iI 60).toNatClampNeg) fun h109 =>
  ck (aK h109 v0 = 13) <|
  nm (uR h109 v0 22 (aZ h106)) fun h111 =>
  ck ((0 ≤ (iI 3) ∧ (iI 3).toNatClampNeg ≤ 100000) ∧ aZ h111 + 1 ≤ aC h111 ∧ aU h111 + (iI 3).toNatClampNeg ≤ gS) <|
  nm (uN h111 20 (iI 3).toNatClampNeg) fun h114 =>
  ck (aK h114 v0 = 13) <|
  nm (uR h114 v0 24 (aZ h111)) fun h116 =>
  ck ((0 ≤ (iI 3) ∧ (iI 3).toNatClampNeg ≤ 100000) ∧ aZ h116 + 1 ≤ aC h116 ∧ aU h116 + (iI 3).toNatClampNeg ≤ gS) <|
  nm (uN h116 20 (iI 3).toNatClampNeg) fun h119 =>
  ck (aK h119 v0 = 13) <|
  nm (uR h119 v0 25 (aZ h116)) fun h121 =>
  ck ((0 ≤ (iI 3) ∧ (iI 3).toNatClampNeg ≤ 100000) ∧ aZ h121 + 1 ≤ aC h121 ∧ aU h121 + (iI 3).toNatClampNeg ≤ gS) <|
  nm (uN h121 20 (iI 3).toNatClampNeg) fun h124 =>
  ck (aK h124 v0 = 13) <|
  nm (uR h124 v0 26 (aZ h121)) fun h126 =>
  ck ((0 ≤ (iI 450) ∧ (iI 450).toNatClampNeg ≤ 100000) ∧ aZ h126 + 1 ≤ aC h126 ∧ aU h126 + (iI 450).toNatClampNeg ≤ gS) <|
  nm (uN h126 20 (iI 450).toNatClampNeg) fun h129 =>
  ck (aK h129 v0 = 13) <|
  nm (uR h129 v0 27 (aZ h126)) fun h131 =>
  ck ((0 ≤ (iI 150) ∧ (iI 150).toNatClampNeg ≤ 100000) ∧ aZ h131 + 1 ≤ aC h131 ∧ aU h131 + (iI 150).toNatClampNeg ≤ gS) <|
  nm (uN h131 20 (iI 150).toNatClampNeg) fun h134 =>
  ck (aK h134 v0 = 13) <|
  nm (uR h134 v0 28 (aZ h131)) fun h136 =>
  ck ((0 ≤ (iI 150) ∧ (iI 150).toNatClampNeg ≤ 100000) ∧ aZ h136 + 1 ≤ aC h136 ∧ aU h136 + (iI 150).toNatClampNeg ≤ gS) <|
  nm (uN h136 22 (iI 150).toNatClampNeg) fun h139 =>
  ck (aK h139 v0 = 13) <|
  nm (uR h139 v0 30 (aZ h136)) fun h141 =>
  nm ((iI 0)) fun (x142 : Int32) =>
  p_X11_init_235  FU v0 x142 h141
set_option maxHeartbeats 4000000 in
set_option maxRecDepth 100000 in
theorem s_X11_init_0 {p : Program} {l : Launch} {e : Env} {s : State} {m : MethodId} {args : Array Value} {below : List Frame} {meth : Method} {c : Code} {G : GG} {hs : AH} {r : Unit} {h' : AH} (C : Cx G hs p s m args meth c cX11_init 2 RX11 (.code yX11_init cX11_init 2 none :: MW) none "<init>")   {v0 : Nat} {h : AH} {H : Heap} {locs : List Loc} {cells slots : Nat} {ls : Array Slot} (hR : Rp G h H) (hL : ∀ q ∈ locs, gB G ≤ q.base) (hl : zl ls 2 [(0, zr v0)]) (hp : p_X11_init_0  v0 h = some (r, h')) : W p l e (gR G hs 1 40) s m args below meth c H locs cells slots (MQ below (Qcc G (none) h') args s (gC G - aZ hs) (gS - aU hs) (fun q => gB G ≤ q)) (F0 m 0 ls []) := by
  obtain ⟨hx, hb, hml, hown, hts, hT, hK, rs, hlk, hret, hnm⟩ := id C
  have hm : ∀ w ∈ MW, w.before args s = true := fun w hw => hts w (hT w hw)
  unfold p_X11_init_0 at hp
  refine z_aload_n hx hb dX11_init_0 rfl (zl_at hl 0 rfl) ?_
  obtain ⟨k1, hp⟩ := ck_i hp
  refine r_objInit C k1 (hm _ mw_981) (hm _ mw_34) (hm _ mw_35) (zl_size hl) dX11_init_1 (by decide) (by simp [zr_cat, in_cat]) ?_
  refine z_aload_n hx hb dX11_init_4 rfl (zl_at hl 0 rfl) ?_
  refine lv_sipush (v := iI 450) hx hb dX11_init_5 (by decide +kernel) ?_
  obtain ⟨k2, hp⟩ := ck_i hp
  refine r_newa (t := 0) (by decide) rfl (fun _ h9 => nomatch (show FieldType.int = _ from h9)) rfl C hR mw_85 k2.1 k2.2 dX11_init_8 (fun H cells slots hR => ?_)
  obtain ⟨h4, hp, hR⟩ := nm_h hp hR
  obtain ⟨k5, hp⟩ := ck_i hp
  refine r_putR (ci := 12) (C := RX11) (T := TX11) (N := 32) hx hb hm ii_X11 tyX11_ok nmX11 hown hK hR hL rfl k5 0 (by decide) (hm _ mw_982) (fun _ h9 => h9) (Or.inr ⟨rfl, hnm, rfl⟩) (zr_fitsA _ _) (fun _ _ _ => rfl) dX11_init_10 (fun H locs hR hL => ?_)
  obtain ⟨h6, hp, hR⟩ := nm_h hp hR
  refine z_aload_n hx hb dX11_init_13 rfl (zl_at hl 0 rfl) ?_
  refine lv_sipush (v := iI 450) hx hb dX11_init_14 (by decide +kernel) ?_
  obtain ⟨k7, hp⟩ := ck_i hp
  refine r_newa (t := 0) (by decide) rfl (fun _ h9 => nomatch (show FieldType.int = _ from h9)) rfl C hR mw_85 k7.1 k7.2 dX11_init_17 (fun H cells slots hR => ?_)
  obtain ⟨h9, hp, hR⟩ := nm_h hp hR
  obtain ⟨k10, hp⟩ := ck_i hp
  refine r_putR (ci := 12) (C := RX11) (T := TX11) (N := 32) hx hb hm ii_X11 tyX11_ok nmX11 hown hK hR hL rfl k10 1 (by decide) (hm _ mw_983) (fun _ h9 => h9) (Or.inr ⟨rfl, hnm, rfl⟩) (zr_fitsA _ _) (fun _ _ _ => rfl) dX11_init_19 (fun H locs hR hL => ?_)
  obtain ⟨h11, hp, hR⟩ := nm_h hp hR
  refine z_aload_n hx hb dX11_init_22 rfl (zl_at hl 0 rfl) ?_
  refine lv_sipush (v := iI 450) hx hb dX11_init_23 (by decide +kernel) ?_
  obtain ⟨k12, hp⟩ := ck_i hp
  refine r_newa (t := 2) (by decide) rfl (fun _ h9 => nomatch (show FieldType.boolean = _ from h9)) rfl C hR mw_103 k12.1 k12.2 dX11_init_26 (fun H cells slots hR => ?_)
  obtain ⟨h14, hp, hR⟩ := nm_h hp hR
  obtain ⟨k15, hp⟩ := ck_i hp
  refine r_putR (ci := 12) (C := RX11) (T := TX11) (N := 32) hx hb hm ii_X11 tyX11_ok nmX11 hown hK hR hL rfl k15 2 (by decide) (hm _ mw_984) (fun _ h9 => h9) (Or.inr ⟨rfl, hnm, rfl⟩) (zr_fitsA _ _) (fun _ _ _ => rfl) dX11_init_28 (fun H locs hR hL => ?_)
  obtain ⟨h16, hp, hR⟩ := nm_h hp hR
  refine z_aload_n hx hb dX11_init_31 rfl (zl_at hl 0 rfl) ?_
  refine lv_iconst (v := iI 3) hx hb dX11_init_32 rfl ?_
  obtain ⟨k17, hp⟩ := ck_i hp
  refine r_newa (t := 0) (by decide) rfl (fun _ h9 => nomatch (show FieldType.int = _ from h9)) rfl C hR mw_85 k17.1 k17.2 dX11_init_33 (fun H cells slots hR => ?_)
  obtain ⟨h19, hp, hR⟩ := nm_h hp hR
  obtain ⟨k20, hp⟩ := ck_i hp
  refine r_putR (ci := 12) (C := RX11) (T := TX11) (N := 32) hx hb hm ii_X11 tyX11_ok nmX11 hown hK hR hL rfl k20 3 (by decide) (hm _ mw_985) (fun _ h9 => h9) (Or.inr ⟨rfl, hnm, rfl⟩) (zr_fitsA _ _) (fun _ _ _ => rfl) dX11_init_35 (fun H locs hR hL => ?_)
  obtain ⟨h21, hp, hR⟩ := nm_h hp hR
  refine z_aload_n hx hb dX11_init_38 rfl (zl_at hl 0 rfl) ?_
  refine lv_iconst (v := iI 3) hx hb dX11_init_39 rfl ?_
  obtain ⟨k22, hp⟩ := ck_i hp
  refine r_newa (t := 0) (by decide) rfl (fun _ h9 => nomatch (show FieldType.int = _ from h9)) rfl C hR mw_85 k22.1 k22.2 dX11_init_40 (fun H cells slots hR => ?_)
  obtain ⟨h24, hp, hR⟩ := nm_h hp hR
  obtain ⟨k25, hp⟩ := ck_i hp
  refine r_putR (ci := 12) (C := RX11) (T := TX11) (N := 32) hx hb hm ii_X11 tyX11_ok nmX11 hown hK hR hL rfl k25 4 (by decide) (hm _ mw_986) (fun _ h9 => h9) (Or.inr ⟨rfl, hnm, rfl⟩) (zr_fitsA _ _) (fun _ _ _ => rfl) dX11_init_42 (fun H locs hR hL => ?_)
  obtain ⟨h26, hp, hR⟩ := nm_h hp hR
  refine z_aload_n hx hb dX11_init_45 rfl (zl_at hl 0 rfl) ?_
  refine lv_bipush (v := iI 15) hx hb dX11_init_46 (by decide +kernel) ?_
  obtain ⟨k27, hp⟩ := ck_i hp
  refine r_newa (t := 0) (by decide) rfl (fun _ h9 => nomatch (show FieldType.int = _ from h9)) rfl C hR mw_85 k27.1 k27.2 dX11_init_48 (fun H cells slots hR => ?_)
  obtain ⟨h29, hp, hR⟩ := nm_h hp hR
  obtain ⟨k30, hp⟩ := ck_i hp
  refine r_putR (ci := 12) (C := RX11) (T := TX11) (N := 32) hx hb hm ii_X11 tyX11_ok nmX11 hown hK hR hL rfl k30 5 (by decide) (hm _ mw_987) (fun _ h9 => h9) (Or.inr ⟨rfl, hnm, rfl⟩) (zr_fitsA _ _) (fun _ _ _ => rfl) dX11_init_50 (fun H locs hR hL => ?_)
  obtain ⟨h31, hp, hR⟩ := nm_h hp hR
  refine z_aload_n hx hb dX11_init_53 rfl (zl_at hl 0 rfl) ?_
  refine lv_sipush (v := iI 3000) hx hb dX11_init_54 (by decide +kernel) ?_
  obtain ⟨k32, hp⟩ := ck_i hp
  refine r_newa (t := 0) (by decide) rfl (fun _ h9 => nomatch (show FieldType.int = _ from h9)) rfl C hR mw_85 k32.1 k32.2 dX11_init_57 (fun H cells slots hR => ?_)
  obtain ⟨h34, hp, hR⟩ := nm_h hp hR
  obtain ⟨k35, hp⟩ := ck_i hp
  refine r_putR (ci := 12) (C := RX11) (T := TX11) (N := 32) hx hb hm ii_X11 tyX11_ok nmX11 hown hK hR hL rfl k35 6 (by decide) (hm _ mw_988) (fun _ h9 => h9) (Or.inr ⟨rfl, hnm, rfl⟩) (zr_fitsA _ _) (fun _ _ _ => rfl) dX11_init_59 (fun H locs hR hL => ?_)
  obtain ⟨h36, hp, hR⟩ := nm_h hp hR
  refine z_aload_n hx hb dX11_init_62 rfl (zl_at hl 0 rfl) ?_
  refine lv_iconst (v := iI 5) hx hb dX11_init_63 rfl ?_
  obtain ⟨k37, hp⟩ := ck_i hp
  refine r_newa (t := 0) (by decide) rfl (fun _ h9 => nomatch (show FieldType.int = _ from h9)) rfl C hR mw_85 k37.1 k37.2 dX11_init_64 (fun H cells slots hR => ?_)
  obtain ⟨h39, hp, hR⟩ := nm_h hp hR
  obtain ⟨k40, hp⟩ := ck_i hp
  refine r_putR (ci := 12) (C := RX11) (T := TX11) (N := 32) hx hb hm ii_X11 tyX11_ok nmX11 hown hK hR hL rfl k40 7 (by decide) (hm _ mw_989) (fun _ h9 => h9) (Or.inr ⟨rfl, hnm, rfl⟩) (zr_fitsA _ _) (fun _ _ _ => rfl) dX11_init_66 (fun H locs hR hL => ?_)
  obtain ⟨h41, hp, hR⟩ := nm_h hp hR
  refine z_aload_n hx hb dX11_init_69 rfl (zl_at hl 0 rfl) ?_
  refine lv_iconst (v := iI 5) hx hb dX11_init_70 rfl ?_
  obtain ⟨k42, hp⟩ := ck_i hp
  refine r_newa (t := 0) (by decide) rfl (fun _ h9 => nomatch (show FieldType.int = _ from h9)) rfl C hR mw_85 k42.1 k42.2 dX11_init_71 (fun H cells slots hR => ?_)
  obtain ⟨h44, hp, hR⟩ := nm_h hp hR
  obtain ⟨k45, hp⟩ := ck_i hp
  refine r_putR (ci := 12) (C := RX11) (T := TX11) (N := 32) hx hb hm ii_X11 tyX11_ok nmX11 hown hK hR hL rfl k45 8 (by decide) (hm _ mw_990) (fun _ h9 => h9) (Or.inr ⟨rfl, hnm, rfl⟩) (zr_fitsA _ _) (fun _ _ _ => rfl) dX11_init_73 (fun H locs hR hL => ?_)
  obtain ⟨h46, hp, hR⟩ := nm_h hp hR
  refine z_aload_n hx hb dX11_init_76 rfl (zl_at hl 0 rfl) ?_
  refine lv_bipush (v := iI 60) hx hb dX11_init_77 (by decide +kernel) ?_
  obtain ⟨k47, hp⟩ := ck_i hp
  refine r_newa (t := 0) (by decide) rfl (fun _ h9 => nomatch (show FieldType.int = _ from h9)) rfl C hR mw_85 k47.1 k47.2 dX11_init_79 (fun H cells slots hR => ?_)
  obtain ⟨h49, hp, hR⟩ := nm_h hp hR
  obtain ⟨k50, hp⟩ := ck_i hp
  refine r_putR (ci := 12) (C := RX11) (T := TX11) (N := 32) hx hb hm ii_X11 tyX11_ok nmX11 hown hK hR hL rfl k50 9 (by decide) (hm _ mw_991) (fun _ h9 => h9) (Or.inr ⟨rfl, hnm, rfl⟩) (zr_fitsA _ _) (fun _ _ _ => rfl) dX11_init_81 (fun H locs hR hL => ?_)
  obtain ⟨h51, hp, hR⟩ := nm_h hp hR
  refine z_aload_n hx hb dX11_init_84 rfl (zl_at hl 0 rfl) ?_
  refine lv_bipush (v := iI 60) hx hb dX11_init_85 (by decide +kernel) ?_
  obtain ⟨k52, hp⟩ := ck_i hp
  refine r_newa (t := 0) (by decide) rfl (fun _ h9 => nomatch (show FieldType.int = _ from h9)) rfl C hR mw_85 k52.1 k52.2 dX11_init_87 (fun H cells slots hR => ?_)
  obtain ⟨h54, hp, hR⟩ := nm_h hp hR
  obtain ⟨k55, hp⟩ := ck_i hp
  refine r_putR (ci := 12) (C := RX11) (T := TX11) (N := 32) hx hb hm ii_X11 tyX11_ok nmX11 hown hK hR hL rfl k55 10 (by decide) (hm _ mw_992) (fun _ h9 => h9) (Or.inr ⟨rfl, hnm, rfl⟩) (zr_fitsA _ _) (fun _ _ _ => rfl) dX11_init_89 (fun H locs hR hL => ?_)
  obtain ⟨h56, hp, hR⟩ := nm_h hp hR
  refine z_aload_n hx hb dX11_init_92 rfl (zl_at hl 0 rfl) ?_
  refine lv_bipush (v := iI 60) hx hb dX11_init_93 (by decide +kernel) ?_
  obtain ⟨k57, hp⟩ := ck_i hp
  refine r_newa (t := 0) (by decide) rfl (fun _ h9 => nomatch (show FieldType.int = _ from h9)) rfl C hR mw_85 k57.1 k57.2 dX11_init_95 (fun H cells slots hR => ?_)
  obtain ⟨h59, hp, hR⟩ := nm_h hp hR
  obtain ⟨k60, hp⟩ := ck_i hp
  refine r_putR (ci := 12) (C := RX11) (T := TX11) (N := 32) hx hb hm ii_X11 tyX11_ok nmX11 hown hK hR hL rfl k60 11 (by decide) (hm _ mw_993) (fun _ h9 => h9) (Or.inr ⟨rfl, hnm, rfl⟩) (zr_fitsA _ _) (fun _ _ _ => rfl) dX11_init_97 (fun H locs hR hL => ?_)
  obtain ⟨h61, hp, hR⟩ := nm_h hp hR
  refine z_aload_n hx hb dX11_init_100 rfl (zl_at hl 0 rfl) ?_
  refine lv_bipush (v := iI 60) hx hb dX11_init_101 (by decide +kernel) ?_
  obtain ⟨k62, hp⟩ := ck_i hp
  refine r_newa (t := 0) (by decide) rfl (fun _ h9 => nomatch (show FieldType.int = _ from h9)) rfl C hR mw_85 k62.1 k62.2 dX11_init_103 (fun H cells slots hR => ?_)
  obtain ⟨h64, hp, hR⟩ := nm_h hp hR
  obtain ⟨k65, hp⟩ := ck_i hp
  refine r_putR (ci := 12) (C := RX11) (T := TX11) (N := 32) hx hb hm ii_X11 tyX11_ok nmX11 hown hK hR hL rfl k65 12 (by decide) (hm _ mw_994) (fun _ h9 => h9) (Or.inr ⟨rfl, hnm, rfl⟩) (zr_fitsA _ _) (fun _ _ _ => rfl) dX11_init_105 (fun H locs hR hL => ?_)
  obtain ⟨h66, hp, hR⟩ := nm_h hp hR
  refine z_aload_n hx hb dX11_init_108 rfl (zl_at hl 0 rfl) ?_
  refine lv_sipush (v := iI 9000) hx hb dX11_init_109 (by decide +kernel) ?_
  obtain ⟨k67, hp⟩ := ck_i hp
  refine r_newa (t := 0) (by decide) rfl (fun _ h9 => nomatch (show FieldType.int = _ from h9)) rfl C hR mw_85 k67.1 k67.2 dX11_init_112 (fun H cells slots hR => ?_)
  obtain ⟨h69, hp, hR⟩ := nm_h hp hR
  obtain ⟨k70, hp⟩ := ck_i hp
  refine r_putR (ci := 12) (C := RX11) (T := TX11) (N := 32) hx hb hm ii_X11 tyX11_ok nmX11 hown hK hR hL rfl k70 13 (by decide) (hm _ mw_995) (fun _ h9 => h9) (Or.inr ⟨rfl, hnm, rfl⟩) (zr_fitsA _ _) (fun _ _ _ => rfl) dX11_init_114 (fun H locs hR hL => ?_)
  obtain ⟨h71, hp, hR⟩ := nm_h hp hR
  refine z_aload_n hx hb dX11_init_117 rfl (zl_at hl 0 rfl) ?_
  refine lv_sipush (v := iI 9000) hx hb dX11_init_118 (by decide +kernel) ?_
  obtain ⟨k72, hp⟩ := ck_i hp
  refine r_newa (t := 0) (by decide) rfl (fun _ h9 => nomatch (show FieldType.int = _ from h9)) rfl C hR mw_85 k72.1 k72.2 dX11_init_121 (fun H cells slots hR => ?_)
  obtain ⟨h74, hp, hR⟩ := nm_h hp hR
  obtain ⟨k75, hp⟩ := ck_i hp
  refine r_putR (ci := 12) (C := RX11) (T := TX11) (N := 32) hx hb hm ii_X11 tyX11_ok nmX11 hown hK hR hL rfl k75 14 (by decide) (hm _ mw_996) (fun _ h9 => h9) (Or.inr ⟨rfl, hnm, rfl⟩) (zr_fitsA _ _) (fun _ _ _ => rfl) dX11_init_123 (fun H locs hR hL => ?_)
  obtain ⟨h76, hp, hR⟩ := nm_h hp hR
  refine z_aload_n hx hb dX11_init_126 rfl (zl_at hl 0 rfl) ?_
  refine lv_sipush (v := iI 9000) hx hb dX11_init_127 (by decide +kernel) ?_
  obtain ⟨k77, hp⟩ := ck_i hp
  refine r_newa (t := 0) (by decide) rfl (fun _ h9 => nomatch (show FieldType.int = _ from h9)) rfl C hR mw_85 k77.1 k77.2 dX11_init_130 (fun H cells slots hR => ?_)
  obtain ⟨h79, hp, hR⟩ := nm_h hp hR
  obtain ⟨k80, hp⟩ := ck_i hp
  refine r_putR (ci := 12) (C := RX11) (T := TX11) (N := 32) hx hb hm ii_X11 tyX11_ok nmX11 hown hK hR hL rfl k80 15 (by decide) (hm _ mw_997) (fun _ h9 => h9) (Or.inr ⟨rfl, hnm, rfl⟩) (zr_fitsA _ _) (fun _ _ _ => rfl) dX11_init_132 (fun H locs hR hL => ?_)
  obtain ⟨h81, hp, hR⟩ := nm_h hp hR
  refine z_aload_n hx hb dX11_init_135 rfl (zl_at hl 0 rfl) ?_
  refine lv_sipush (v := iI 9000) hx hb dX11_init_136 (by decide +kernel) ?_
  obtain ⟨k82, hp⟩ := ck_i hp
  refine r_newa (t := 0) (by decide) rfl (fun _ h9 => nomatch (show FieldType.int = _ from h9)) rfl C hR mw_85 k82.1 k82.2 dX11_init_139 (fun H cells slots hR => ?_)
  obtain ⟨h84, hp, hR⟩ := nm_h hp hR
  obtain ⟨k85, hp⟩ := ck_i hp
  refine r_putR (ci := 12) (C := RX11) (T := TX11) (N := 32) hx hb hm ii_X11 tyX11_ok nmX11 hown hK hR hL rfl k85 16 (by decide) (hm _ mw_998) (fun _ h9 => h9) (Or.inr ⟨rfl, hnm, rfl⟩) (zr_fitsA _ _) (fun _ _ _ => rfl) dX11_init_141 (fun H locs hR hL => ?_)
  obtain ⟨h86, hp, hR⟩ := nm_h hp hR
  refine z_aload_n hx hb dX11_init_144 rfl (zl_at hl 0 rfl) ?_
  refine lv_sipush (v := iI 9000) hx hb dX11_init_145 (by decide +kernel) ?_
  obtain ⟨k87, hp⟩ := ck_i hp
  refine r_newa (t := 0) (by decide) rfl (fun _ h9 => nomatch (show FieldType.int = _ from h9)) rfl C hR mw_85 k87.1 k87.2 dX11_init_148 (fun H cells slots hR => ?_)
  obtain ⟨h89, hp, hR⟩ := nm_h hp hR
  obtain ⟨k90, hp⟩ := ck_i hp
  refine r_putR (ci := 12) (C := RX11) (T := TX11) (N := 32) hx hb hm ii_X11 tyX11_ok nmX11 hown hK hR hL rfl k90 17 (by decide) (hm _ mw_999) (fun _ h9 => h9) (Or.inr ⟨rfl, hnm, rfl⟩) (zr_fitsA _ _) (fun _ _ _ => rfl) dX11_init_150 (fun H locs hR hL => ?_)
  obtain ⟨h91, hp, hR⟩ := nm_h hp hR
  refine z_aload_n hx hb dX11_init_153 rfl (zl_at hl 0 rfl) ?_
  refine lv_bipush (v := iI 60) hx hb dX11_init_154 (by decide +kernel) ?_
  obtain ⟨k92, hp⟩ := ck_i hp
  refine r_newa (t := 0) (by decide) rfl (fun _ h9 => nomatch (show FieldType.int = _ from h9)) rfl C hR mw_85 k92.1 k92.2 dX11_init_156 (fun H cells slots hR => ?_)
  obtain ⟨h94, hp, hR⟩ := nm_h hp hR
  obtain ⟨k95, hp⟩ := ck_i hp
  refine r_putR (ci := 12) (C := RX11) (T := TX11) (N := 32) hx hb hm ii_X11 tyX11_ok nmX11 hown hK hR hL rfl k95 19 (by decide) (hm _ mw_1001) (fun _ h9 => h9) (Or.inr ⟨rfl, hnm, rfl⟩) (zr_fitsA _ _) (fun _ _ _ => rfl) dX11_init_158 (fun H locs hR hL => ?_)
  obtain ⟨h96, hp, hR⟩ := nm_h hp hR
  refine z_aload_n hx hb dX11_init_161 rfl (zl_at hl 0 rfl) ?_
  refine lv_bipush (v := iI 60) hx hb dX11_init_162 (by decide +kernel) ?_
  obtain ⟨k97, hp⟩ := ck_i hp
  refine r_newa (t := 0) (by decide) rfl (fun _ h9 => nomatch (show FieldType.int = _ from h9)) rfl C hR mw_85 k97.1 k97.2 dX11_init_164 (fun H cells slots hR => ?_)
  obtain ⟨h99, hp, hR⟩ := nm_h hp hR
  obtain ⟨k100, hp⟩ := ck_i hp
  refine r_putR (ci := 12) (C := RX11) (T := TX11) (N := 32) hx hb hm ii_X11 tyX11_ok nmX11 hown hK hR hL rfl k100 20 (by decide) (hm _ mw_1002) (fun _ h9 => h9) (Or.inr ⟨rfl, hnm, rfl⟩) (zr_fitsA _ _) (fun _ _ _ => rfl) dX11_init_166 (fun H locs hR hL => ?_)
  obtain ⟨h101, hp, hR⟩ := nm_h hp hR
  refine z_aload_n hx hb dX11_init_169 rfl (zl_at hl 0 rfl) ?_
  refine lv_bipush (v := iI 60) hx hb dX11_init_170 (by decide +kernel) ?_
  obtain ⟨k102, hp⟩ := ck_i hp
  refine r_newa (t := 0) (by decide) rfl (fun _ h9 => nomatch (show FieldType.int = _ from h9)) rfl C hR mw_85 k102.1 k102.2 dX11_init_172 (fun H cells slots hR => ?_)
  obtain ⟨h104, hp, hR⟩ := nm_h hp hR
  obtain ⟨k105, hp⟩ := ck_i hp
  refine r_putR (ci := 12) (C := RX11) (T := TX11) (N := 32) hx hb hm ii_X11 tyX11_ok nmX11 hown hK hR hL rfl k105 21 (by decide) (hm _ mw_1003) (fun _ h9 => h9) (Or.inr ⟨rfl, hnm, rfl⟩) (zr_fitsA _ _) (fun _ _ _ => rfl) dX11_init_174 (fun H locs hR hL => ?_)
  obtain ⟨h106, hp, hR⟩ := nm_h hp hR
  refine z_aload_n hx hb dX11_init_177 rfl (zl_at hl 0 rfl) ?_
  refine lv_bipush (v := iI 60) hx hb dX11_init_178 (by decide +kernel) ?_
  obtain ⟨k107, hp⟩ := ck_i hp
  refine r_newa (t := 2) (by decide) rfl (fun _ h9 => nomatch (show FieldType.boolean = _ from h9)) rfl C hR mw_103 k107.1 k107.2 dX11_init_180 (fun H cells slots hR => ?_)
  obtain ⟨h109, hp, hR⟩ := nm_h hp hR
  obtain ⟨k110, hp⟩ := ck_i hp
  refine r_putR (ci := 12) (C := RX11) (T := TX11) (N := 32) hx hb hm ii_X11 tyX11_ok nmX11 hown hK hR hL rfl k110 22 (by decide) (hm _ mw_1004) (fun _ h9 => h9) (Or.inr ⟨rfl, hnm, rfl⟩) (zr_fitsA _ _) (fun _ _ _ => rfl) dX11_init_182 (fun H locs hR hL => ?_)
  obtain ⟨h111, hp, hR⟩ := nm_h hp hR
  refine z_aload_n hx hb dX11_init_185 rfl (zl_at hl 0 rfl) ?_
  refine lv_iconst (v := iI 3) hx hb dX11_init_186 rfl ?_
  obtain ⟨k112, hp⟩ := ck_i hp
  refine r_newa (t := 0) (by decide) rfl (fun _ h9 => nomatch (show FieldType.int = _ from h9)) rfl C hR mw_85 k112.1 k112.2 dX11_init_187 (fun H cells slots hR => ?_)
  obtain ⟨h114, hp, hR⟩ := nm_h hp hR
  obtain ⟨k115, hp⟩ := ck_i hp
  refine r_putR (ci := 12) (C := RX11) (T := TX11) (N := 32) hx hb hm ii_X11 tyX11_ok nmX11 hown hK hR hL rfl k115 24 (by decide) (hm _ mw_1006) (fun _ h9 => h9) (Or.inr ⟨rfl, hnm, rfl⟩) (zr_fitsA _ _) (fun _ _ _ => rfl) dX11_init_189 (fun H locs hR hL => ?_)
  obtain ⟨h116, hp, hR⟩ := nm_h hp hR
  refine z_aload_n hx hb dX11_init_192 rfl (zl_at hl 0 rfl) ?_
  refine lv_iconst (v := iI 3) hx hb dX11_init_193 rfl ?_
  obtain ⟨k117, hp⟩ := ck_i hp
  refine r_newa (t := 0) (by decide) rfl (fun _ h9 => nomatch (show FieldType.int = _ from h9)) rfl C hR mw_85 k117.1 k117.2 dX11_init_194 (fun H cells slots hR => ?_)
  obtain ⟨h119, hp, hR⟩ := nm_h hp hR
  obtain ⟨k120, hp⟩ := ck_i hp
  refine r_putR (ci := 12) (C := RX11) (T := TX11) (N := 32) hx hb hm ii_X11 tyX11_ok nmX11 hown hK hR hL rfl k120 25 (by decide) (hm _ mw_1007) (fun _ h9 => h9) (Or.inr ⟨rfl, hnm, rfl⟩) (zr_fitsA _ _) (fun _ _ _ => rfl) dX11_init_196 (fun H locs hR hL => ?_)
  obtain ⟨h121, hp, hR⟩ := nm_h hp hR
  refine z_aload_n hx hb dX11_init_199 rfl (zl_at hl 0 rfl) ?_
  refine lv_iconst (v := iI 3) hx hb dX11_init_200 rfl ?_
  obtain ⟨k122, hp⟩ := ck_i hp
  refine r_newa (t := 0) (by decide) rfl (fun _ h9 => nomatch (show FieldType.int = _ from h9)) rfl C hR mw_85 k122.1 k122.2 dX11_init_201 (fun H cells slots hR => ?_)
  obtain ⟨h124, hp, hR⟩ := nm_h hp hR
  obtain ⟨k125, hp⟩ := ck_i hp
  refine r_putR (ci := 12) (C := RX11) (T := TX11) (N := 32) hx hb hm ii_X11 tyX11_ok nmX11 hown hK hR hL rfl k125 26 (by decide) (hm _ mw_1008) (fun _ h9 => h9) (Or.inr ⟨rfl, hnm, rfl⟩) (zr_fitsA _ _) (fun _ _ _ => rfl) dX11_init_203 (fun H locs hR hL => ?_)
  obtain ⟨h126, hp, hR⟩ := nm_h hp hR
  refine z_aload_n hx hb dX11_init_206 rfl (zl_at hl 0 rfl) ?_
  refine lv_sipush (v := iI 450) hx hb dX11_init_207 (by decide +kernel) ?_
  obtain ⟨k127, hp⟩ := ck_i hp
  refine r_newa (t := 0) (by decide) rfl (fun _ h9 => nomatch (show FieldType.int = _ from h9)) rfl C hR mw_85 k127.1 k127.2 dX11_init_210 (fun H cells slots hR => ?_)
  obtain ⟨h129, hp, hR⟩ := nm_h hp hR
  obtain ⟨k130, hp⟩ := ck_i hp
  refine r_putR (ci := 12) (C := RX11) (T := TX11) (N := 32) hx hb hm ii_X11 tyX11_ok nmX11 hown hK hR hL rfl k130 27 (by decide) (hm _ mw_1009) (fun _ h9 => h9) (Or.inr ⟨rfl, hnm, rfl⟩) (zr_fitsA _ _) (fun _ _ _ => rfl) dX11_init_212 (fun H locs hR hL => ?_)
  obtain ⟨h131, hp, hR⟩ := nm_h hp hR
  refine z_aload_n hx hb dX11_init_215 rfl (zl_at hl 0 rfl) ?_
  refine lv_sipush (v := iI 150) hx hb dX11_init_216 (by decide +kernel) ?_
  obtain ⟨k132, hp⟩ := ck_i hp
  refine r_newa (t := 0) (by decide) rfl (fun _ h9 => nomatch (show FieldType.int = _ from h9)) rfl C hR mw_85 k132.1 k132.2 dX11_init_219 (fun H cells slots hR => ?_)
  obtain ⟨h134, hp, hR⟩ := nm_h hp hR
  obtain ⟨k135, hp⟩ := ck_i hp
  refine r_putR (ci := 12) (C := RX11) (T := TX11) (N := 32) hx hb hm ii_X11 tyX11_ok nmX11 hown hK hR hL rfl k135 28 (by decide) (hm _ mw_1010) (fun _ h9 => h9) (Or.inr ⟨rfl, hnm, rfl⟩) (zr_fitsA _ _) (fun _ _ _ => rfl) dX11_init_221 (fun H locs hR hL => ?_)
  obtain ⟨h136, hp, hR⟩ := nm_h hp hR
  refine z_aload_n hx hb dX11_init_224 rfl (zl_at hl 0 rfl) ?_
  refine lv_sipush (v := iI 150) hx hb dX11_init_225 (by decide +kernel) ?_
  obtain ⟨k137, hp⟩ := ck_i hp
  refine r_newa (t := 2) (by decide) rfl (fun _ h9 => nomatch (show FieldType.boolean = _ from h9)) rfl C hR mw_103 k137.1 k137.2 dX11_init_228 (fun H cells slots hR => ?_)
  obtain ⟨h139, hp, hR⟩ := nm_h hp hR
  obtain ⟨k140, hp⟩ := ck_i hp
  refine r_putR (ci := 12) (C := RX11) (T := TX11) (N := 32) hx hb hm ii_X11 tyX11_ok nmX11 hown hK hR hL rfl k140 30 (by decide) (hm _ mw_1012) (fun _ h9 => h9) (Or.inr ⟨rfl, hnm, rfl⟩) (zr_fitsA _ _) (fun _ _ _ => rfl) dX11_init_230 (fun H locs hR hL => ?_)
  obtain ⟨h141, hp, hR⟩ := nm_h hp hR
  refine lv_iconst (v := iI 0) hx hb dX11_init_233 rfl ?_
  refine lv_topi (fun x142 ex142 => ?_)
  replace hp := nm_i hp ex142
  refine z_istore_n (lv' := [(1, .int x142), (0, zr v0)]) hx hb dX11_init_234 rfl hl (by decide) rfl (fun ls hl => ?_)
  exact s_X11_init_235 C  _ _ _ _ _ _ _ _ _ hR hL (zl_sub hl [1, 0] rfl) hp
def p_X11_init (v0 : Nat) (h : AH) : Option (Unit × AH) := ck (v0 ≠ 0) <| p_X11_init_0 v0 h
theorem c_X11_init (l : Launch) (G : GG) (v0 : Nat) (h : AH) (r : Unit) (h' : AH) (hp : p_X11_init v0 h = some (r, h')) : Ct l yX11_init (.code yX11_init cX11_init 2 none :: MW) G 1 40 [.ref (v0 - 1)] h (none) h' := by
  obtain ⟨hz0, hp⟩ := ck_i hp
  refine Ct.of (by decide +kernel) (Nat.le_of_ble_eq_true rfl) ?_
  intro p e s m args below meth c C hR ls hl
  have hl : zl ls 2 [(0, zr v0)] := ⟨by rw [zr_p hz0]; exact hl, by simp [zr_cat, in_cat]⟩
  exact s_X11_init_0 C hR (fun _ hq => nomatch hq) hl hp
/-! CursorKeepModel.thrown()I -/
def p_X11_thrown_0  (v0 : Nat) (h : AH) : Option (Int32 × AH) :=
  ck (aK h v0 = 13) <|
  some ((aI h v0 31), h)
set_option maxHeartbeats 4000000 in
set_option maxRecDepth 100000 in
theorem s_X11_thrown_0 {p : Program} {l : Launch} {e : Env} {s : State} {m : MethodId} {args : Array Value} {below : List Frame} {meth : Method} {c : Code} {G : GG} {hs : AH} {r : Int32} {h' : AH} (C : Cx G hs p s m args meth c cX11_thrown 1 RX11 (.code yX11_thrown cX11_thrown 1 (some .int) :: MW) (some .int) "thrown")   {v0 : Nat} {h : AH} {H : Heap} {locs : List Loc} {cells slots : Nat} {ls : Array Slot} (hR : Rp G h H) (hL : ∀ q ∈ locs, gB G ≤ q.base) (hl : zl ls 1 [(0, zr v0)]) (hp : p_X11_thrown_0  v0 h = some (r, h')) : W p l e (gR G hs 1 40) s m args below meth c H locs cells slots (MQ below (Qcc G (some (.int r)) h') args s (gC G - aZ hs) (gS - aU hs) (fun q => gB G ≤ q)) (F0 m 0 ls []) := by
  obtain ⟨hx, hb, hml, hown, hts, hT, hK, rs, hlk, hret, hnm⟩ := id C
  have hm : ∀ w ∈ MW, w.before args s = true := fun w hw => hts w (hT w hw)
  unfold p_X11_thrown_0 at hp
  refine z_aload_n hx hb dX11_thrown_0 rfl (zl_at hl 0 rfl) ?_
  obtain ⟨k1, hp⟩ := ck_i hp
  refine r_get (ci := 12) (C := RX11) (T := TX11) (N := 32) (v := .int (aI h v0 31)) hx hb hm ii_X11 hown hK hR rfl k1 31 (by decide) (hm _ mw_1013) (fun _ h9 => h9) rfl dX11_thrown_1 ?_
  cases hp
  exact r_zret C hR hL rfl dX11_thrown_4
def p_X11_thrown (v0 : Nat) (h : AH) : Option (Int32 × AH) := ck (v0 ≠ 0) <| p_X11_thrown_0 v0 h
theorem c_X11_thrown (l : Launch) (G : GG) (v0 : Nat) (h : AH) (r : Int32) (h' : AH) (hp : p_X11_thrown v0 h = some (r, h')) : Ct l yX11_thrown (.code yX11_thrown cX11_thrown 1 (some .int) :: MW) G 1 40 [.ref (v0 - 1)] h (some (.int r)) h' := by
  obtain ⟨hz0, hp⟩ := ck_i hp
  refine Ct.of (by decide +kernel) (Nat.le_of_ble_eq_true rfl) ?_
  intro p e s m args below meth c C hR ls hl
  have hl : zl ls 1 [(0, zr v0)] := ⟨by rw [zr_p hz0]; exact hl, by simp [zr_cat, in_cat]⟩
  exact s_X11_thrown_0 C hR (fun _ hq => nomatch hq) hl hp
/-! CursorKeepModel.goes(ZZZ)Z -/
def p_X11_goes_41  (s0 : Int32) (h : AH) : Option (Int32 × AH) :=
  ck (okZ s0) <|
  some (s0, h)
set_option maxHeartbeats 4000000 in
set_option maxRecDepth 100000 in
theorem s_X11_goes_41 {p : Program} {l : Launch} {e : Env} {s : State} {m : MethodId} {args : Array Value} {below : List Frame} {meth : Method} {c : Code} {G : GG} {hs : AH} {r : Int32} {h' : AH} (C : Cx G hs p s m args meth c cX11_goes 4 RX11 (.code yX11_goes cX11_goes 4 (some .boolean) :: MW) (some .boolean) "goes")   {s0 : Int32} {h : AH} {H : Heap} {locs : List Loc} {cells slots : Nat} {ls : Array Slot} (hR : Rp G h H) (hL : ∀ q ∈ locs, gB G ≤ q.base) (hl : zl ls 4 []) (hp : p_X11_goes_41  s0 h = some (r, h')) : W p l e (gR G hs 1 40) s m args below meth c H locs cells slots (MQ below (Qcc G (some (.int r)) h') args s (gC G - aZ hs) (gS - aU hs) (fun q => gB G ≤ q)) (F0 m 41 ls [.int s0]) := by
  obtain ⟨hx, hb, hml, hown, hts, hT, hK, rs, hlk, hret, hnm⟩ := id C
  have hm : ∀ w ∈ MW, w.before args s = true := fun w hw => hts w (hT w hw)
  unfold p_X11_goes_41 at hp
  obtain ⟨k1, hp⟩ := ck_i hp
  cases hp
  exact r_zret C hR hL (okZ_n k1) dX11_goes_41
def p_X11_goes_26  (v0 : Nat) (s0 : Nat) (s1 : Int32) (h : AH) : Option (Int32 × AH) :=
  ck (aK h s0 = 13) <|
  nm (uI h s0 31 s1) fun h2 =>
  ck (aK h2 v0 = 13) <|
  if (aI h2 v0 31) = 0 then
    p_X11_goes_41  (iI 1) h2
  else
    p_X11_goes_41  (iI 0) h2
set_option maxHeartbeats 4000000 in
set_option maxRecDepth 100000 in
theorem s_X11_goes_26 {p : Program} {l : Launch} {e : Env} {s : State} {m : MethodId} {args : Array Value} {below : List Frame} {meth : Method} {c : Code} {G : GG} {hs : AH} {r : Int32} {h' : AH} (C : Cx G hs p s m args meth c cX11_goes 4 RX11 (.code yX11_goes cX11_goes 4 (some .boolean) :: MW) (some .boolean) "goes")   {v0 : Nat} {s0 : Nat} {s1 : Int32} {h : AH} {H : Heap} {locs : List Loc} {cells slots : Nat} {ls : Array Slot} (hR : Rp G h H) (hL : ∀ q ∈ locs, gB G ≤ q.base) (hl : zl ls 4 [(0, zr v0)]) (hp : p_X11_goes_26  v0 s0 s1 h = some (r, h')) : W p l e (gR G hs 1 40) s m args below meth c H locs cells slots (MQ below (Qcc G (some (.int r)) h') args s (gC G - aZ hs) (gS - aU hs) (fun q => gB G ≤ q)) (F0 m 26 ls [.int s1, zr s0]) := by
  obtain ⟨hx, hb, hml, hown, hts, hT, hK, rs, hlk, hret, hnm⟩ := id C
  have hm : ∀ w ∈ MW, w.before args s = true := fun w hw => hts w (hT w hw)
  unfold p_X11_goes_26 at hp
  obtain ⟨k1, hp⟩ := ck_i hp
  refine r_putI (ci := 12) (C := RX11) (T := TX11) (N := 32) hx hb hm ii_X11 tyX11_ok nmX11 hown hK hR hL rfl k1 31 (by decide) (hm _ mw_1013) (fun _ h9 => h9) (Or.inl rfl) rfl rfl (fun _ _ _ => rfl) dX11_goes_26 (fun H locs hR hL => ?_)
  obtain ⟨h2, hp, hR⟩ := nm_h hp hR
  refine z_aload_n hx hb dX11_goes_29 rfl (zl_at hl 0 rfl) ?_
  obtain ⟨k3, hp⟩ := ck_i hp
  refine r_get (ci := 12) (C := RX11) (T := TX11) (N := 32) (v := .int (aI h2 v0 31)) hx hb hm ii_X11 hown hK hR rfl k3 31 (by decide) (hm _ mw_1013) (fun _ h9 => h9) rfl dX11_goes_30 ?_
  refine lv_if_ne (tgt := 40) hx hb dX11_goes_33 (by decide) (fun c4 => ?_) (fun c4 => ?_)
  · replace hp := ite_n hp c4
    refine lv_iconst (v := iI 0) hx hb dX11_goes_40 rfl ?_
    exact s_X11_goes_41 C  hR hL (zl_sub hl [] rfl) hp
  · replace hp := ite_p hp c4
    refine lv_iconst (v := iI 1) hx hb dX11_goes_36 rfl ?_
    refine lv_goto (tgt := 41) hx hb dX11_goes_37 (by decide) ?_
    exact s_X11_goes_41 C  hR hL (zl_sub hl [] rfl) hp
def p_X11_goes_0  (v0 : Nat) (v1 : Int32) (v2 : Int32) (v3 : Int32) (h : AH) : Option (Int32 × AH) :=
  if v1 = 0 then
    p_X11_goes_26  v0 v0 (iI 1) h
  else
    if v2 = 0 then
      p_X11_goes_26  v0 v0 (iI 2) h
    else
      if v3 = 0 then
        p_X11_goes_26  v0 v0 (iI 3) h
      else
        p_X11_goes_26  v0 v0 (iI 0) h
set_option maxHeartbeats 4000000 in
set_option maxRecDepth 100000 in
theorem s_X11_goes_0 {p : Program} {l : Launch} {e : Env} {s : State} {m : MethodId} {args : Array Value} {below : List Frame} {meth : Method} {c : Code} {G : GG} {hs : AH} {r : Int32} {h' : AH} (C : Cx G hs p s m args meth c cX11_goes 4 RX11 (.code yX11_goes cX11_goes 4 (some .boolean) :: MW) (some .boolean) "goes")   {v0 : Nat} {v1 : Int32} {v2 : Int32} {v3 : Int32} {h : AH} {H : Heap} {locs : List Loc} {cells slots : Nat} {ls : Array Slot} (hR : Rp G h H) (hL : ∀ q ∈ locs, gB G ≤ q.base) (hl : zl ls 4 [(0, zr v0), (1, .int v1), (2, .int v2), (3, .int v3)]) (hp : p_X11_goes_0  v0 v1 v2 v3 h = some (r, h')) : W p l e (gR G hs 1 40) s m args below meth c H locs cells slots (MQ below (Qcc G (some (.int r)) h') args s (gC G - aZ hs) (gS - aU hs) (fun q => gB G ≤ q)) (F0 m 0 ls []) := by
  obtain ⟨hx, hb, hml, hown, hts, hT, hK, rs, hlk, hret, hnm⟩ := id C
  have hm : ∀ w ∈ MW, w.before args s = true := fun w hw => hts w (hT w hw)
  unfold p_X11_goes_0 at hp
  refine z_aload_n hx hb dX11_goes_0 rfl (zl_at hl 0 rfl) ?_
  refine lv_iload_n hx hb dX11_goes_1 rfl (zl_at hl 1 rfl) ?_
  refine lv_if_ne (tgt := 9) hx hb dX11_goes_2 (by decide) (fun c1 => ?_) (fun c1 => ?_)
  · replace hp := ite_n hp c1
    refine lv_iload_n hx hb dX11_goes_9 rfl (zl_at hl 2 rfl) ?_
    refine lv_if_ne (tgt := 17) hx hb dX11_goes_10 (by decide) (fun c2 => ?_) (fun c2 => ?_)
    · replace hp := ite_n hp c2
      refine lv_iload_n hx hb dX11_goes_17 rfl (zl_at hl 3 rfl) ?_
      refine lv_if_ne (tgt := 25) hx hb dX11_goes_18 (by decide) (fun c3 => ?_) (fun c3 => ?_)
      · replace hp := ite_n hp c3
        refine lv_iconst (v := iI 0) hx hb dX11_goes_25 rfl ?_
        exact s_X11_goes_26 C  hR hL (zl_sub hl [0] rfl) hp
      · replace hp := ite_p hp c3
        refine lv_iconst (v := iI 3) hx hb dX11_goes_21 rfl ?_
        refine lv_goto (tgt := 26) hx hb dX11_goes_22 (by decide) ?_
        exact s_X11_goes_26 C  hR hL (zl_sub hl [0] rfl) hp
    · replace hp := ite_p hp c2
      refine lv_iconst (v := iI 2) hx hb dX11_goes_13 rfl ?_
      refine lv_goto (tgt := 26) hx hb dX11_goes_14 (by decide) ?_
      exact s_X11_goes_26 C  hR hL (zl_sub hl [0] rfl) hp
  · replace hp := ite_p hp c1
    refine lv_iconst (v := iI 1) hx hb dX11_goes_5 rfl ?_
    refine lv_goto (tgt := 26) hx hb dX11_goes_6 (by decide) ?_
    exact s_X11_goes_26 C  hR hL (zl_sub hl [0] rfl) hp
def p_X11_goes (v0 : Nat) (v1 : Int32) (v2 : Int32) (v3 : Int32) (h : AH) : Option (Int32 × AH) := ck (v0 ≠ 0) <| p_X11_goes_0 v0 v1 v2 v3 h
theorem c_X11_goes (l : Launch) (G : GG) (v0 : Nat) (v1 : Int32) (v2 : Int32) (v3 : Int32) (h : AH) (r : Int32) (h' : AH) (hp : p_X11_goes v0 v1 v2 v3 h = some (r, h')) : Ct l yX11_goes (.code yX11_goes cX11_goes 4 (some .boolean) :: MW) G 1 40 [.ref (v0 - 1), .int v1, .int v2, .int v3] h (some (.int r)) h' := by
  obtain ⟨hz0, hp⟩ := ck_i hp
  refine Ct.of (by decide +kernel) (Nat.le_of_ble_eq_true rfl) ?_
  intro p e s m args below meth c C hR ls hl
  have hl : zl ls 4 [(0, zr v0), (1, .int v1), (2, .int v2), (3, .int v3)] := ⟨by rw [zr_p hz0]; exact hl, by simp [zr_cat, in_cat]⟩
  exact s_X11_goes_0 C hR (fun _ hq => nomatch hq) hl hp
/-! CursorKeepModel.isBelow(II)Z -/
def p_X11_isBelow_14  (s0 : Int32) (h : AH) : Option (Int32 × AH) :=
  ck (okZ s0) <|
  some (s0, h)
set_option maxHeartbeats 4000000 in
set_option maxRecDepth 100000 in
theorem s_X11_isBelow_14 {p : Program} {l : Launch} {e : Env} {s : State} {m : MethodId} {args : Array Value} {below : List Frame} {meth : Method} {c : Code} {G : GG} {hs : AH} {r : Int32} {h' : AH} (C : Cx G hs p s m args meth c cX11_isBelow 2 RX11 (.code yX11_isBelow cX11_isBelow 2 (some .boolean) :: MW) (some .boolean) "isBelow")   {s0 : Int32} {h : AH} {H : Heap} {locs : List Loc} {cells slots : Nat} {ls : Array Slot} (hR : Rp G h H) (hL : ∀ q ∈ locs, gB G ≤ q.base) (hl : zl ls 2 []) (hp : p_X11_isBelow_14  s0 h = some (r, h')) : W p l e (gR G hs 1 40) s m args below meth c H locs cells slots (MQ below (Qcc G (some (.int r)) h') args s (gC G - aZ hs) (gS - aU hs) (fun q => gB G ≤ q)) (F0 m 14 ls [.int s0]) := by
  obtain ⟨hx, hb, hml, hown, hts, hT, hK, rs, hlk, hret, hnm⟩ := id C
  have hm : ∀ w ∈ MW, w.before args s = true := fun w hw => hts w (hT w hw)
  unfold p_X11_isBelow_14 at hp
  obtain ⟨k1, hp⟩ := ck_i hp
  cases hp
  exact r_zret C hR hL (okZ_n k1) dX11_isBelow_14
def p_X11_isBelow_13   (h : AH) : Option (Int32 × AH) :=
  p_X11_isBelow_14  (iI 0) h
set_option maxHeartbeats 4000000 in
set_option maxRecDepth 100000 in
theorem s_X11_isBelow_13 {p : Program} {l : Launch} {e : Env} {s : State} {m : MethodId} {args : Array Value} {below : List Frame} {meth : Method} {c : Code} {G : GG} {hs : AH} {r : Int32} {h' : AH} (C : Cx G hs p s m args meth c cX11_isBelow 2 RX11 (.code yX11_isBelow cX11_isBelow 2 (some .boolean) :: MW) (some .boolean) "isBelow")    {h : AH} {H : Heap} {locs : List Loc} {cells slots : Nat} {ls : Array Slot} (hR : Rp G h H) (hL : ∀ q ∈ locs, gB G ≤ q.base) (hl : zl ls 2 []) (hp : p_X11_isBelow_13   h = some (r, h')) : W p l e (gR G hs 1 40) s m args below meth c H locs cells slots (MQ below (Qcc G (some (.int r)) h') args s (gC G - aZ hs) (gS - aU hs) (fun q => gB G ≤ q)) (F0 m 13 ls []) := by
  obtain ⟨hx, hb, hml, hown, hts, hT, hK, rs, hlk, hret, hnm⟩ := id C
  have hm : ∀ w ∈ MW, w.before args s = true := fun w hw => hts w (hT w hw)
  unfold p_X11_isBelow_13 at hp
  refine lv_iconst (v := iI 0) hx hb dX11_isBelow_13 rfl ?_
  exact s_X11_isBelow_14 C  hR hL (zl_sub hl [] rfl) hp
def p_X11_isBelow_0  (v0 : Int32) (v1 : Int32) (h : AH) : Option (Int32 × AH) :=
  if v0 < 0 then
    p_X11_isBelow_13   h
  else
    if v1 ≤ v0 then
      p_X11_isBelow_13   h
    else
      p_X11_isBelow_14  (iI 1) h
set_option maxHeartbeats 4000000 in
set_option maxRecDepth 100000 in
theorem s_X11_isBelow_0 {p : Program} {l : Launch} {e : Env} {s : State} {m : MethodId} {args : Array Value} {below : List Frame} {meth : Method} {c : Code} {G : GG} {hs : AH} {r : Int32} {h' : AH} (C : Cx G hs p s m args meth c cX11_isBelow 2 RX11 (.code yX11_isBelow cX11_isBelow 2 (some .boolean) :: MW) (some .boolean) "isBelow")   {v0 : Int32} {v1 : Int32} {h : AH} {H : Heap} {locs : List Loc} {cells slots : Nat} {ls : Array Slot} (hR : Rp G h H) (hL : ∀ q ∈ locs, gB G ≤ q.base) (hl : zl ls 2 [(0, .int v0), (1, .int v1)]) (hp : p_X11_isBelow_0  v0 v1 h = some (r, h')) : W p l e (gR G hs 1 40) s m args below meth c H locs cells slots (MQ below (Qcc G (some (.int r)) h') args s (gC G - aZ hs) (gS - aU hs) (fun q => gB G ≤ q)) (F0 m 0 ls []) := by
  obtain ⟨hx, hb, hml, hown, hts, hT, hK, rs, hlk, hret, hnm⟩ := id C
  have hm : ∀ w ∈ MW, w.before args s = true := fun w hw => hts w (hT w hw)
  unfold p_X11_isBelow_0 at hp
  refine lv_iload_n hx hb dX11_isBelow_0 rfl (zl_at hl 0 rfl) ?_
  refine lv_if_lt (tgt := 13) hx hb dX11_isBelow_1 (by decide) (fun c1 => ?_) (fun c1 => ?_)
  · replace hp := ite_p hp c1
    exact s_X11_isBelow_13 C  hR hL (zl_sub hl [] rfl) hp
  · replace hp := ite_n hp c1
    refine lv_iload_n hx hb dX11_isBelow_4 rfl (zl_at hl 0 rfl) ?_
    refine lv_iload_n hx hb dX11_isBelow_5 rfl (zl_at hl 1 rfl) ?_
    refine lv_icmp_ge (tgt := 13) hx hb dX11_isBelow_6 (by decide) (fun c2 => ?_) (fun c2 => ?_)
    · replace hp := ite_p hp c2
      exact s_X11_isBelow_13 C  hR hL (zl_sub hl [] rfl) hp
    · replace hp := ite_n hp c2
      refine lv_iconst (v := iI 1) hx hb dX11_isBelow_9 rfl ?_
      refine lv_goto (tgt := 14) hx hb dX11_isBelow_10 (by decide) ?_
      exact s_X11_isBelow_14 C  hR hL (zl_sub hl [] rfl) hp
def p_X11_isBelow (v0 : Int32) (v1 : Int32) (h : AH) : Option (Int32 × AH) := p_X11_isBelow_0 v0 v1 h
theorem c_X11_isBelow (l : Launch) (G : GG) (v0 : Int32) (v1 : Int32) (h : AH) (r : Int32) (h' : AH) (hp : p_X11_isBelow v0 v1 h = some (r, h')) : Ct l yX11_isBelow (.code yX11_isBelow cX11_isBelow 2 (some .boolean) :: MW) G 1 40 [.int v0, .int v1] h (some (.int r)) h' := by
  refine Ct.of (by decide +kernel) (Nat.le_of_ble_eq_true rfl) ?_
  intro p e s m args below meth c C hR ls hl
  have hl : zl ls 2 [(0, .int v0), (1, .int v1)] := ⟨hl, by simp [zr_cat, in_cat]⟩
  exact s_X11_isBelow_0 C hR (fun _ hq => nomatch hq) hl hp
/-! CursorKeepModel.isHand(II)Z -/
def p_X11_isHand_21  (s0 : Int32) (h : AH) : Option (Int32 × AH) :=
  ck (okZ s0) <|
  some (s0, h)
set_option maxHeartbeats 4000000 in
set_option maxRecDepth 100000 in
theorem s_X11_isHand_21 {p : Program} {l : Launch} {e : Env} {s : State} {m : MethodId} {args : Array Value} {below : List Frame} {meth : Method} {c : Code} {G : GG} {hs : AH} {r : Int32} {h' : AH} (C : Cx G hs p s m args meth c cX11_isHand 2 RX11 (.code yX11_isHand cX11_isHand 2 (some .boolean) :: MW) (some .boolean) "isHand")   {s0 : Int32} {h : AH} {H : Heap} {locs : List Loc} {cells slots : Nat} {ls : Array Slot} (hR : Rp G h H) (hL : ∀ q ∈ locs, gB G ≤ q.base) (hl : zl ls 2 []) (hp : p_X11_isHand_21  s0 h = some (r, h')) : W p l e (gR G hs 2 61) s m args below meth c H locs cells slots (MQ below (Qcc G (some (.int r)) h') args s (gC G - aZ hs) (gS - aU hs) (fun q => gB G ≤ q)) (F0 m 21 ls [.int s0]) := by
  obtain ⟨hx, hb, hml, hown, hts, hT, hK, rs, hlk, hret, hnm⟩ := id C
  have hm : ∀ w ∈ MW, w.before args s = true := fun w hw => hts w (hT w hw)
  unfold p_X11_isHand_21 at hp
  obtain ⟨k1, hp⟩ := ck_i hp
  cases hp
  exact r_zret C hR hL (okZ_n k1) dX11_isHand_21
def p_X11_isHand_20   (h : AH) : Option (Int32 × AH) :=
  p_X11_isHand_21  (iI 0) h
set_option maxHeartbeats 4000000 in
set_option maxRecDepth 100000 in
theorem s_X11_isHand_20 {p : Program} {l : Launch} {e : Env} {s : State} {m : MethodId} {args : Array Value} {below : List Frame} {meth : Method} {c : Code} {G : GG} {hs : AH} {r : Int32} {h' : AH} (C : Cx G hs p s m args meth c cX11_isHand 2 RX11 (.code yX11_isHand cX11_isHand 2 (some .boolean) :: MW) (some .boolean) "isHand")    {h : AH} {H : Heap} {locs : List Loc} {cells slots : Nat} {ls : Array Slot} (hR : Rp G h H) (hL : ∀ q ∈ locs, gB G ≤ q.base) (hl : zl ls 2 []) (hp : p_X11_isHand_20   h = some (r, h')) : W p l e (gR G hs 2 61) s m args below meth c H locs cells slots (MQ below (Qcc G (some (.int r)) h') args s (gC G - aZ hs) (gS - aU hs) (fun q => gB G ≤ q)) (F0 m 20 ls []) := by
  obtain ⟨hx, hb, hml, hown, hts, hT, hK, rs, hlk, hret, hnm⟩ := id C
  have hm : ∀ w ∈ MW, w.before args s = true := fun w hw => hts w (hT w hw)
  unfold p_X11_isHand_20 at hp
  refine lv_iconst (v := iI 0) hx hb dX11_isHand_20 rfl ?_
  exact s_X11_isHand_21 C  hR hL (zl_sub hl [] rfl) hp
def p_X11_isHand_0  (v0 : Int32) (v1 : Int32) (h : AH) : Option (Int32 × AH) :=
  bR (p_X11_isBelow v0 (iI 5) h) fun r1 h2 =>
  if r1 = 0 then
    p_X11_isHand_20   h2
  else
    bR (p_X11_isBelow v1 (iI 3) h2) fun r4 h5 =>
    if r4 = 0 then
      p_X11_isHand_20   h5
    else
      p_X11_isHand_21  (iI 1) h5
set_option maxHeartbeats 4000000 in
set_option maxRecDepth 100000 in
theorem s_X11_isHand_0 {p : Program} {l : Launch} {e : Env} {s : State} {m : MethodId} {args : Array Value} {below : List Frame} {meth : Method} {c : Code} {G : GG} {hs : AH} {r : Int32} {h' : AH} (C : Cx G hs p s m args meth c cX11_isHand 2 RX11 (.code yX11_isHand cX11_isHand 2 (some .boolean) :: MW) (some .boolean) "isHand")   {v0 : Int32} {v1 : Int32} {h : AH} {H : Heap} {locs : List Loc} {cells slots : Nat} {ls : Array Slot} (hR : Rp G h H) (hL : ∀ q ∈ locs, gB G ≤ q.base) (hl : zl ls 2 [(0, .int v0), (1, .int v1)]) (hp : p_X11_isHand_0  v0 v1 h = some (r, h')) : W p l e (gR G hs 2 61) s m args below meth c H locs cells slots (MQ below (Qcc G (some (.int r)) h') args s (gC G - aZ hs) (gS - aU hs) (fun q => gB G ≤ q)) (F0 m 0 ls []) := by
  obtain ⟨hx, hb, hml, hown, hts, hT, hK, rs, hlk, hret, hnm⟩ := id C
  have hm : ∀ w ∈ MW, w.before args s = true := fun w hw => hts w (hT w hw)
  unfold p_X11_isHand_0 at hp
  refine lv_iload_n hx hb dX11_isHand_0 rfl (zl_at hl 0 rfl) ?_
  refine lv_iconst (v := iI 5) hx hb dX11_isHand_1 rfl ?_
  obtain ⟨r1, h2, er1, hp⟩ := bR_i hp
  refine r_callS (n := 2) (As := [.int v0, .int (iI 5)]) (rest := []) C (c_X11_isBelow l G v0 (iI 5) h r1 h2 er1) hR hL mw_1090 mw_1091 mw_10 mw_1092 (by decide +kernel) (by decide) rfl (zl_size hl) rfl (by simp [zr_cat, in_cat]) dX11_isHand_2 (st2 := [.int r1]) rfl (fun H locs cells slots hR hL => ?_)
  refine lv_if_eq (tgt := 20) hx hb dX11_isHand_5 (by decide) (fun c3 => ?_) (fun c3 => ?_)
  · replace hp := ite_p hp c3
    exact s_X11_isHand_20 C  hR hL (zl_sub hl [] rfl) hp
  · replace hp := ite_n hp c3
    refine lv_iload_n hx hb dX11_isHand_8 rfl (zl_at hl 1 rfl) ?_
    refine lv_iconst (v := iI 3) hx hb dX11_isHand_9 rfl ?_
    obtain ⟨r4, h5, er4, hp⟩ := bR_i hp
    refine r_callS (n := 2) (As := [.int v1, .int (iI 3)]) (rest := []) C (c_X11_isBelow l G v1 (iI 3) h2 r4 h5 er4) hR hL mw_1090 mw_1091 mw_10 mw_1092 (by decide +kernel) (by decide) rfl (zl_size hl) rfl (by simp [zr_cat, in_cat]) dX11_isHand_10 (st2 := [.int r4]) rfl (fun H locs cells slots hR hL => ?_)
    refine lv_if_eq (tgt := 20) hx hb dX11_isHand_13 (by decide) (fun c6 => ?_) (fun c6 => ?_)
    · replace hp := ite_p hp c6
      exact s_X11_isHand_20 C  hR hL (zl_sub hl [] rfl) hp
    · replace hp := ite_n hp c6
      refine lv_iconst (v := iI 1) hx hb dX11_isHand_16 rfl ?_
      refine lv_goto (tgt := 21) hx hb dX11_isHand_17 (by decide) ?_
      exact s_X11_isHand_21 C  hR hL (zl_sub hl [] rfl) hp
def p_X11_isHand (v0 : Int32) (v1 : Int32) (h : AH) : Option (Int32 × AH) := p_X11_isHand_0 v0 v1 h
theorem c_X11_isHand (l : Launch) (G : GG) (v0 : Int32) (v1 : Int32) (h : AH) (r : Int32) (h' : AH) (hp : p_X11_isHand v0 v1 h = some (r, h')) : Ct l yX11_isHand (.code yX11_isHand cX11_isHand 2 (some .boolean) :: MW) G 2 61 [.int v0, .int v1] h (some (.int r)) h' := by
  refine Ct.of (by decide +kernel) (Nat.le_of_ble_eq_true rfl) ?_
  intro p e s m args below meth c C hR ls hl
  have hl : zl ls 2 [(0, .int v0), (1, .int v1)] := ⟨hl, by simp [zr_cat, in_cat]⟩
  exact s_X11_isHand_0 C hR (fun _ hq => nomatch hq) hl hp
/-! CursorKeepModel.shows(I)V -/
def p_X11_shows_65 (k7 : Nat → Int32 → Int32 → AH → Option (Unit × AH)) (v0 : Nat) (v1 : Int32) (v2 : Int32) (h : AH) : Option (Unit × AH) :=
  nm (v2 + iI 1) fun (x1 : Int32) =>
  k7 v0 v1 x1 h
set_option maxHeartbeats 4000000 in
set_option maxRecDepth 100000 in
theorem s_X11_shows_65 {p : Program} {l : Launch} {e : Env} {s : State} {m : MethodId} {args : Array Value} {below : List Frame} {meth : Method} {c : Code} {G : GG} {hs : AH} {r : Unit} {h' : AH} (C : Cx G hs p s m args meth c cX11_shows 4 RX11 (.code yX11_shows cX11_shows 4 none :: MW) none "shows") {k7 : Nat → Int32 → Int32 → AH → Option (Unit × AH)} (hk7 : ∀ {v0 : Nat} {v1 : Int32} {v2 : Int32} {h : AH} {H : Heap} {locs : List Loc} {cells slots : Nat} {ls : Array Slot}, Rp G h H → (∀ q ∈ locs, gB G ≤ q.base) → zl ls 4 [(0, zr v0), (1, .int v1), (2, .int v2)] → k7 v0 v1 v2 h = some (r, h') → W p l e (gR G hs 1 40) s m args below meth c H locs cells slots (MQ below (Qcc G (none) h') args s (gC G - aZ hs) (gS - aU hs) (fun q => gB G ≤ q)) (F0 m 7 ls [])) {v0 : Nat} {v1 : Int32} {v2 : Int32} {h : AH} {H : Heap} {locs : List Loc} {cells slots : Nat} {ls : Array Slot} (hR : Rp G h H) (hL : ∀ q ∈ locs, gB G ≤ q.base) (hl : zl ls 4 [(0, zr v0), (1, .int v1), (2, .int v2)]) (hp : p_X11_shows_65 k7 v0 v1 v2 h = some (r, h')) : W p l e (gR G hs 1 40) s m args below meth c H locs cells slots (MQ below (Qcc G (none) h') args s (gC G - aZ hs) (gS - aU hs) (fun q => gB G ≤ q)) (F0 m 65 ls []) := by
  obtain ⟨hx, hb, hml, hown, hts, hT, hK, rs, hlk, hret, hnm⟩ := id C
  have hm : ∀ w ∈ MW, w.before args s = true := fun w hw => hts w (hT w hw)
  unfold p_X11_shows_65 at hp
  obtain ⟨x1, ex1⟩ : ∃ y : Int32, y = v2 + iI 1 := ⟨_, rfl⟩
  replace hp := nm_i hp ex1
  refine z_iinc (v := x1) (lv' := [(2, .int x1), (0, zr v0), (1, .int v1)]) hx hb dX11_shows_65 hl (k := 2) rfl ex1 (by decide) rfl (fun ls hl => ?_)
  refine lv_goto (tgt := 7) hx hb dX11_shows_68 (by decide) ?_
  exact hk7 hR hL (zl_sub hl [1, 2, 0] rfl) hp
def p_X11_shows_7  : Nat → Nat → Int32 → Int32 → AH → Option (Unit × AH)
  | 0, _, _, _, _ => none
  | n + 1, v0, v1, v2, h =>
    ck (aK h v0 = 13) <|
    ck (aK h (aR h v0 3) = 20 ∧ ix v1 (aN h (aR h v0 3))) <|
    if (aI h (aR h v0 3) v1.toNatClampNeg) ≤ v2 then
      some ((), h)
    else
      ck (aK h v0 = 13) <|
      ck (aK h (aR h v0 0) = 20 ∧ ix (((iI 150) * v1) + v2) (aN h (aR h v0 0))) <|
      nm ((aI h (aR h v0 0) (((iI 150) * v1) + v2).toNatClampNeg)) fun (x8 : Int32) =>
      ck (aK h v0 = 13) <|
      ck (aK h (aR h v0 2) = 22 ∧ ix (((iI 150) * v1) + x8) (aN h (aR h v0 2))) <|
      if (aI h (aR h v0 2) (((iI 150) * v1) + x8).toNatClampNeg) = 0 then
        p_X11_shows_65 (p_X11_shows_7  n) v0 v1 v2 h
      else
        ck (aK h v0 = 13) <|
        ck (aK h v0 = 13) <|
        ck (aK h (aR h v0 28) = 20 ∧ ix (aI h v0 29) (aN h (aR h v0 28))) <|
        nm (uI h (aR h v0 28) (aI h v0 29).toNatClampNeg x8) fun h17 =>
        ck (aK h17 v0 = 13) <|
        ck (aK h17 v0 = 13) <|
        nm (uI h17 v0 29 ((aI h17 v0 29) + (iI 1))) fun h20 =>
        p_X11_shows_65 (p_X11_shows_7  n) v0 v1 v2 h20
set_option maxHeartbeats 4000000 in
set_option maxRecDepth 100000 in
theorem s_X11_shows_7 {p : Program} {l : Launch} {e : Env} {s : State} {m : MethodId} {args : Array Value} {below : List Frame} {meth : Method} {c : Code} {G : GG} {hs : AH} {r : Unit} {h' : AH} (C : Cx G hs p s m args meth c cX11_shows 4 RX11 (.code yX11_shows cX11_shows 4 none :: MW) none "shows")   : ∀ (n : Nat) (v0 : Nat) (v1 : Int32) (v2 : Int32) (h : AH) (H : Heap) (locs : List Loc) (cells slots : Nat) (ls : Array Slot) (hR : Rp G h H) (hL : ∀ q ∈ locs, gB G ≤ q.base) (hl : zl ls 4 [(0, zr v0), (1, .int v1), (2, .int v2)]) (hp : p_X11_shows_7  n v0 v1 v2 h = some (r, h')), W p l e (gR G hs 1 40) s m args below meth c H locs cells slots (MQ below (Qcc G (none) h') args s (gC G - aZ hs) (gS - aU hs) (fun q => gB G ≤ q)) (F0 m 7 ls []) := by
  obtain ⟨hx, hb, hml, hown, hts, hT, hK, rs, hlk, hret, hnm⟩ := id C
  have hm : ∀ w ∈ MW, w.before args s = true := fun w hw => hts w (hT w hw)
  intro n
  induction n with
  | zero =>
    intro v0 v1 v2 h H locs cells slots ls hR hL hl hp
    exact absurd (show none = some (r, h') from hp) (by simp)
  | succ n ih =>
    intro v0 v1 v2 h H locs cells slots ls hR hL hl hp
    rw [p_X11_shows_7.eq_2] at hp
    refine lv_iload_n hx hb dX11_shows_7 rfl (zl_at hl 2 rfl) ?_
    refine z_aload_n hx hb dX11_shows_8 rfl (zl_at hl 0 rfl) ?_
    obtain ⟨k1, hp⟩ := ck_i hp
    refine r_get (ci := 12) (C := RX11) (T := TX11) (N := 32) (v := zr (aR h v0 3)) hx hb hm ii_X11 hown hK hR rfl k1 3 (by decide) (hm _ mw_985) (fun _ h9 => h9) rfl dX11_shows_9 ?_
    refine lv_iload_n hx hb dX11_shows_12 rfl (zl_at hl 1 rfl) ?_
    obtain ⟨k2, hp⟩ := ck_i hp
    refine r_iald hx hb hK hR k2.1 k2.2 dX11_shows_13 ?_
    refine lv_icmp_ge (tgt := 71) hx hb dX11_shows_14 (by decide) (fun c4 => ?_) (fun c4 => ?_)
    · replace hp := ite_p hp c4
      cases hp
      exact r_vret C hR hL dX11_shows_71
    · replace hp := ite_n hp c4
      refine z_aload_n hx hb dX11_shows_17 rfl (zl_at hl 0 rfl) ?_
      obtain ⟨k5, hp⟩ := ck_i hp
      refine r_get (ci := 12) (C := RX11) (T := TX11) (N := 32) (v := zr (aR h v0 0)) hx hb hm ii_X11 hown hK hR rfl k5 0 (by decide) (hm _ mw_982) (fun _ h9 => h9) rfl dX11_shows_18 ?_
      refine lv_sipush (v := iI 150) hx hb dX11_shows_21 (by decide +kernel) ?_
      refine lv_iload_n hx hb dX11_shows_24 rfl (zl_at hl 1 rfl) ?_
      refine lv_imul hx hb dX11_shows_25 ?_
      refine lv_iload_n hx hb dX11_shows_26 rfl (zl_at hl 2 rfl) ?_
      refine lv_iadd hx hb dX11_shows_27 ?_
      obtain ⟨k6, hp⟩ := ck_i hp
      refine r_iald hx hb hK hR k6.1 k6.2 dX11_shows_28 ?_
      refine lv_topi (fun x8 ex8 => ?_)
      replace hp := nm_i hp ex8
      refine z_istore_n (lv' := [(3, .int x8), (0, zr v0), (1, .int v1), (2, .int v2)]) hx hb dX11_shows_29 rfl hl (by decide) rfl (fun ls hl => ?_)
      refine z_aload_n hx hb dX11_shows_30 rfl (zl_at hl 1 rfl) ?_
      obtain ⟨k9, hp⟩ := ck_i hp
      refine r_get (ci := 12) (C := RX11) (T := TX11) (N := 32) (v := zr (aR h v0 2)) hx hb hm ii_X11 hown hK hR rfl k9 2 (by decide) (hm _ mw_984) (fun _ h9 => h9) rfl dX11_shows_31 ?_
      refine lv_sipush (v := iI 150) hx hb dX11_shows_34 (by decide +kernel) ?_
      refine lv_iload_n hx hb dX11_shows_37 rfl (zl_at hl 2 rfl) ?_
      refine lv_imul hx hb dX11_shows_38 ?_
      refine lv_iload_n hx hb dX11_shows_39 rfl (zl_at hl 0 rfl) ?_
      refine lv_iadd hx hb dX11_shows_40 ?_
      obtain ⟨k10, hp⟩ := ck_i hp
      refine r_zald hx hb hK hR k10.1 k10.2 dX11_shows_41 ?_
      refine lv_if_eq (tgt := 65) hx hb dX11_shows_42 (by decide) (fun c12 => ?_) (fun c12 => ?_)
      · replace hp := ite_p hp c12
        exact s_X11_shows_65 C (fun hR hL hl hp => ih _ _ _ _ _ _ _ _ _ hR hL hl hp) hR hL (zl_sub hl [1, 2, 3] rfl) hp
      · replace hp := ite_n hp c12
        refine z_aload_n hx hb dX11_shows_45 rfl (zl_at hl 1 rfl) ?_
        obtain ⟨k13, hp⟩ := ck_i hp
        refine r_get (ci := 12) (C := RX11) (T := TX11) (N := 32) (v := zr (aR h v0 28)) hx hb hm ii_X11 hown hK hR rfl k13 28 (by decide) (hm _ mw_1010) (fun _ h9 => h9) rfl dX11_shows_46 ?_
        refine z_aload_n hx hb dX11_shows_49 rfl (zl_at hl 1 rfl) ?_
        obtain ⟨k14, hp⟩ := ck_i hp
        refine r_get (ci := 12) (C := RX11) (T := TX11) (N := 32) (v := .int (aI h v0 29)) hx hb hm ii_X11 hown hK hR rfl k14 29 (by decide) (hm _ mw_1011) (fun _ h9 => h9) rfl dX11_shows_50 ?_
        refine lv_iload_n hx hb dX11_shows_53 rfl (zl_at hl 0 rfl) ?_
        obtain ⟨k15, hp⟩ := ck_i hp
        refine r_iast hx hb hK hR hL k15.1 k15.2 dX11_shows_54 (fun H locs hR hL => ?_)
        obtain ⟨h17, hp, hR⟩ := nm_h hp hR
        refine z_aload_n hx hb dX11_shows_55 rfl (zl_at hl 1 rfl) ?_
        refine lv_dup hx hb dX11_shows_56 (zr_cat _) ?_
        obtain ⟨k18, hp⟩ := ck_i hp
        refine r_get (ci := 12) (C := RX11) (T := TX11) (N := 32) (v := .int (aI h17 v0 29)) hx hb hm ii_X11 hown hK hR rfl k18 29 (by decide) (hm _ mw_1011) (fun _ h9 => h9) rfl dX11_shows_57 ?_
        refine lv_iconst (v := iI 1) hx hb dX11_shows_60 rfl ?_
        refine lv_iadd hx hb dX11_shows_61 ?_
        obtain ⟨k19, hp⟩ := ck_i hp
        refine r_putI (ci := 12) (C := RX11) (T := TX11) (N := 32) hx hb hm ii_X11 tyX11_ok nmX11 hown hK hR hL rfl k19 29 (by decide) (hm _ mw_1011) (fun _ h9 => h9) (Or.inl rfl) rfl rfl (fun _ _ _ => rfl) dX11_shows_62 (fun H locs hR hL => ?_)
        obtain ⟨h20, hp, hR⟩ := nm_h hp hR
        exact s_X11_shows_65 C (fun hR hL hl hp => ih _ _ _ _ _ _ _ _ _ hR hL hl hp) hR hL (zl_sub hl [1, 2, 3] rfl) hp
def p_X11_shows_0  (v0 : Nat) (v1 : Int32) (h : AH) : Option (Unit × AH) :=
  ck (aK h v0 = 13) <|
  nm (uI h v0 29 (iI 0)) fun h2 =>
  nm ((iI 0)) fun (x3 : Int32) =>
  p_X11_shows_7  FU v0 v1 x3 h2
set_option maxHeartbeats 4000000 in
set_option maxRecDepth 100000 in
theorem s_X11_shows_0 {p : Program} {l : Launch} {e : Env} {s : State} {m : MethodId} {args : Array Value} {below : List Frame} {meth : Method} {c : Code} {G : GG} {hs : AH} {r : Unit} {h' : AH} (C : Cx G hs p s m args meth c cX11_shows 4 RX11 (.code yX11_shows cX11_shows 4 none :: MW) none "shows")   {v0 : Nat} {v1 : Int32} {h : AH} {H : Heap} {locs : List Loc} {cells slots : Nat} {ls : Array Slot} (hR : Rp G h H) (hL : ∀ q ∈ locs, gB G ≤ q.base) (hl : zl ls 4 [(0, zr v0), (1, .int v1)]) (hp : p_X11_shows_0  v0 v1 h = some (r, h')) : W p l e (gR G hs 1 40) s m args below meth c H locs cells slots (MQ below (Qcc G (none) h') args s (gC G - aZ hs) (gS - aU hs) (fun q => gB G ≤ q)) (F0 m 0 ls []) := by
  obtain ⟨hx, hb, hml, hown, hts, hT, hK, rs, hlk, hret, hnm⟩ := id C
  have hm : ∀ w ∈ MW, w.before args s = true := fun w hw => hts w (hT w hw)
  unfold p_X11_shows_0 at hp
  refine z_aload_n hx hb dX11_shows_0 rfl (zl_at hl 0 rfl) ?_
  refine lv_iconst (v := iI 0) hx hb dX11_shows_1 rfl ?_
  obtain ⟨k1, hp⟩ := ck_i hp
  refine r_putI (ci := 12) (C := RX11) (T := TX11) (N := 32) hx hb hm ii_X11 tyX11_ok nmX11 hown hK hR hL rfl k1 29 (by decide) (hm _ mw_1011) (fun _ h9 => h9) (Or.inl rfl) rfl rfl (fun _ _ _ => rfl) dX11_shows_2 (fun H locs hR hL => ?_)
  obtain ⟨h2, hp, hR⟩ := nm_h hp hR
  refine lv_iconst (v := iI 0) hx hb dX11_shows_5 rfl ?_
  refine lv_topi (fun x3 ex3 => ?_)
  replace hp := nm_i hp ex3
  refine z_istore_n (lv' := [(2, .int x3), (0, zr v0), (1, .int v1)]) hx hb dX11_shows_6 rfl hl (by decide) rfl (fun ls hl => ?_)
  exact s_X11_shows_7 C  _ _ _ _ _ _ _ _ _ _ hR hL (zl_sub hl [1, 2, 0] rfl) hp
def p_X11_shows (v0 : Nat) (v1 : Int32) (h : AH) : Option (Unit × AH) := ck (v0 ≠ 0) <| p_X11_shows_0 v0 v1 h
theorem c_X11_shows (l : Launch) (G : GG) (v0 : Nat) (v1 : Int32) (h : AH) (r : Unit) (h' : AH) (hp : p_X11_shows v0 v1 h = some (r, h')) : Ct l yX11_shows (.code yX11_shows cX11_shows 4 none :: MW) G 1 40 [.ref (v0 - 1), .int v1] h (none) h' := by
  obtain ⟨hz0, hp⟩ := ck_i hp
  refine Ct.of (by decide +kernel) (Nat.le_of_ble_eq_true rfl) ?_
  intro p e s m args below meth c C hR ls hl
  have hl : zl ls 4 [(0, zr v0), (1, .int v1)] := ⟨by rw [zr_p hz0]; exact hl, by simp [zr_cat, in_cat]⟩
  exact s_X11_shows_0 C hR (fun _ hq => nomatch hq) hl hp
/-! CursorKeepModel.at(II)I -/
def p_X11_at_34  (v3 : Int32) (h : AH) : Option (Int32 × AH) :=
  some (v3, h)
set_option maxHeartbeats 4000000 in
set_option maxRecDepth 100000 in
theorem s_X11_at_34 {p : Program} {l : Launch} {e : Env} {s : State} {m : MethodId} {args : Array Value} {below : List Frame} {meth : Method} {c : Code} {G : GG} {hs : AH} {r : Int32} {h' : AH} (C : Cx G hs p s m args meth c cX11_at 4 RX11 (.code yX11_at cX11_at 4 (some .int) :: MW) (some .int) "at")   {v3 : Int32} {h : AH} {H : Heap} {locs : List Loc} {cells slots : Nat} {ls : Array Slot} (hR : Rp G h H) (hL : ∀ q ∈ locs, gB G ≤ q.base) (hl : zl ls 4 [(3, .int v3)]) (hp : p_X11_at_34  v3 h = some (r, h')) : W p l e (gR G hs 1 40) s m args below meth c H locs cells slots (MQ below (Qcc G (some (.int r)) h') args s (gC G - aZ hs) (gS - aU hs) (fun q => gB G ≤ q)) (F0 m 34 ls []) := by
  obtain ⟨hx, hb, hml, hown, hts, hT, hK, rs, hlk, hret, hnm⟩ := id C
  have hm : ∀ w ∈ MW, w.before args s = true := fun w hw => hts w (hT w hw)
  unfold p_X11_at_34 at hp
  refine lv_iload_n hx hb dX11_at_34 rfl (zl_at hl 0 rfl) ?_
  cases hp
  exact r_zret C hR hL rfl dX11_at_35
def p_X11_at_2  : Nat → Nat → Int32 → Int32 → Int32 → AH → Option (Int32 × AH)
  | 0, _, _, _, _, _ => none
  | n + 1, v0, v1, v2, v3, h =>
    ck (aK h v0 = 13) <|
    ck (aK h (aR h v0 3) = 20 ∧ ix v1 (aN h (aR h v0 3))) <|
    if (aI h (aR h v0 3) v1.toNatClampNeg) ≤ v3 then
      p_X11_at_34  v3 h
    else
      ck (aK h v0 = 13) <|
      ck (aK h (aR h v0 0) = 20 ∧ ix (((iI 150) * v1) + v3) (aN h (aR h v0 0))) <|
      if (aI h (aR h v0 0) (((iI 150) * v1) + v3).toNatClampNeg) = v2 then
        p_X11_at_34  v3 h
      else
        nm (v3 + iI 1) fun (x9 : Int32) =>
        p_X11_at_2  n v0 v1 v2 x9 h
set_option maxHeartbeats 4000000 in
set_option maxRecDepth 100000 in
theorem s_X11_at_2 {p : Program} {l : Launch} {e : Env} {s : State} {m : MethodId} {args : Array Value} {below : List Frame} {meth : Method} {c : Code} {G : GG} {hs : AH} {r : Int32} {h' : AH} (C : Cx G hs p s m args meth c cX11_at 4 RX11 (.code yX11_at cX11_at 4 (some .int) :: MW) (some .int) "at")   : ∀ (n : Nat) (v0 : Nat) (v1 : Int32) (v2 : Int32) (v3 : Int32) (h : AH) (H : Heap) (locs : List Loc) (cells slots : Nat) (ls : Array Slot) (hR : Rp G h H) (hL : ∀ q ∈ locs, gB G ≤ q.base) (hl : zl ls 4 [(0, zr v0), (1, .int v1), (2, .int v2), (3, .int v3)]) (hp : p_X11_at_2  n v0 v1 v2 v3 h = some (r, h')), W p l e (gR G hs 1 40) s m args below meth c H locs cells slots (MQ below (Qcc G (some (.int r)) h') args s (gC G - aZ hs) (gS - aU hs) (fun q => gB G ≤ q)) (F0 m 2 ls []) := by
  obtain ⟨hx, hb, hml, hown, hts, hT, hK, rs, hlk, hret, hnm⟩ := id C
  have hm : ∀ w ∈ MW, w.before args s = true := fun w hw => hts w (hT w hw)
  intro n
  induction n with
  | zero =>
    intro v0 v1 v2 v3 h H locs cells slots ls hR hL hl hp
    exact absurd (show none = some (r, h') from hp) (by simp)
  | succ n ih =>
    intro v0 v1 v2 v3 h H locs cells slots ls hR hL hl hp
    rw [p_X11_at_2.eq_2] at hp
    refine lv_iload_n hx hb dX11_at_2 rfl (zl_at hl 3 rfl) ?_
    refine z_aload_n hx hb dX11_at_3 rfl (zl_at hl 0 rfl) ?_
    obtain ⟨k1, hp⟩ := ck_i hp
    refine r_get (ci := 12) (C := RX11) (T := TX11) (N := 32) (v := zr (aR h v0 3)) hx hb hm ii_X11 hown hK hR rfl k1 3 (by decide) (hm _ mw_985) (fun _ h9 => h9) rfl dX11_at_4 ?_
    refine lv_iload_n hx hb dX11_at_7 rfl (zl_at hl 1 rfl) ?_
    obtain ⟨k2, hp⟩ := ck_i hp
    refine r_iald hx hb hK hR k2.1 k2.2 dX11_at_8 ?_
    refine lv_icmp_ge (tgt := 34) hx hb dX11_at_9 (by decide) (fun c4 => ?_) (fun c4 => ?_)
    · replace hp := ite_p hp c4
      exact s_X11_at_34 C  hR hL (zl_sub hl [3] rfl) hp
    · replace hp := ite_n hp c4
      refine z_aload_n hx hb dX11_at_12 rfl (zl_at hl 0 rfl) ?_
      obtain ⟨k5, hp⟩ := ck_i hp
      refine r_get (ci := 12) (C := RX11) (T := TX11) (N := 32) (v := zr (aR h v0 0)) hx hb hm ii_X11 hown hK hR rfl k5 0 (by decide) (hm _ mw_982) (fun _ h9 => h9) rfl dX11_at_13 ?_
      refine lv_sipush (v := iI 150) hx hb dX11_at_16 (by decide +kernel) ?_
      refine lv_iload_n hx hb dX11_at_19 rfl (zl_at hl 1 rfl) ?_
      refine lv_imul hx hb dX11_at_20 ?_
      refine lv_iload_n hx hb dX11_at_21 rfl (zl_at hl 3 rfl) ?_
      refine lv_iadd hx hb dX11_at_22 ?_
      obtain ⟨k6, hp⟩ := ck_i hp
      refine r_iald hx hb hK hR k6.1 k6.2 dX11_at_23 ?_
      refine lv_iload_n hx hb dX11_at_24 rfl (zl_at hl 2 rfl) ?_
      refine lv_icmp_eq (tgt := 34) hx hb dX11_at_25 (by decide) (fun c8 => ?_) (fun c8 => ?_)
      · replace hp := ite_p hp c8
        exact s_X11_at_34 C  hR hL (zl_sub hl [3] rfl) hp
      · replace hp := ite_n hp c8
        obtain ⟨x9, ex9⟩ : ∃ y : Int32, y = v3 + iI 1 := ⟨_, rfl⟩
        replace hp := nm_i hp ex9
        refine z_iinc (v := x9) (lv' := [(3, .int x9), (0, zr v0), (1, .int v1), (2, .int v2)]) hx hb dX11_at_28 hl (k := 3) rfl ex9 (by decide) rfl (fun ls hl => ?_)
        refine lv_goto (tgt := 2) hx hb dX11_at_31 (by decide) ?_
        exact ih _ _ _ _ _ _ _ _ _ _ hR hL (zl_sub hl [1, 2, 3, 0] rfl) hp
def p_X11_at_0  (v0 : Nat) (v1 : Int32) (v2 : Int32) (h : AH) : Option (Int32 × AH) :=
  nm ((iI 0)) fun (x1 : Int32) =>
  p_X11_at_2  FU v0 v1 v2 x1 h
set_option maxHeartbeats 4000000 in
set_option maxRecDepth 100000 in
theorem s_X11_at_0 {p : Program} {l : Launch} {e : Env} {s : State} {m : MethodId} {args : Array Value} {below : List Frame} {meth : Method} {c : Code} {G : GG} {hs : AH} {r : Int32} {h' : AH} (C : Cx G hs p s m args meth c cX11_at 4 RX11 (.code yX11_at cX11_at 4 (some .int) :: MW) (some .int) "at")   {v0 : Nat} {v1 : Int32} {v2 : Int32} {h : AH} {H : Heap} {locs : List Loc} {cells slots : Nat} {ls : Array Slot} (hR : Rp G h H) (hL : ∀ q ∈ locs, gB G ≤ q.base) (hl : zl ls 4 [(0, zr v0), (1, .int v1), (2, .int v2)]) (hp : p_X11_at_0  v0 v1 v2 h = some (r, h')) : W p l e (gR G hs 1 40) s m args below meth c H locs cells slots (MQ below (Qcc G (some (.int r)) h') args s (gC G - aZ hs) (gS - aU hs) (fun q => gB G ≤ q)) (F0 m 0 ls []) := by
  obtain ⟨hx, hb, hml, hown, hts, hT, hK, rs, hlk, hret, hnm⟩ := id C
  have hm : ∀ w ∈ MW, w.before args s = true := fun w hw => hts w (hT w hw)
  unfold p_X11_at_0 at hp
  refine lv_iconst (v := iI 0) hx hb dX11_at_0 rfl ?_
  refine lv_topi (fun x1 ex1 => ?_)
  replace hp := nm_i hp ex1
  refine z_istore_n (lv' := [(3, .int x1), (0, zr v0), (1, .int v1), (2, .int v2)]) hx hb dX11_at_1 rfl hl (by decide) rfl (fun ls hl => ?_)
  exact s_X11_at_2 C  _ _ _ _ _ _ _ _ _ _ _ hR hL (zl_sub hl [1, 2, 3, 0] rfl) hp
def p_X11_at (v0 : Nat) (v1 : Int32) (v2 : Int32) (h : AH) : Option (Int32 × AH) := ck (v0 ≠ 0) <| p_X11_at_0 v0 v1 v2 h
theorem c_X11_at (l : Launch) (G : GG) (v0 : Nat) (v1 : Int32) (v2 : Int32) (h : AH) (r : Int32) (h' : AH) (hp : p_X11_at v0 v1 v2 h = some (r, h')) : Ct l yX11_at (.code yX11_at cX11_at 4 (some .int) :: MW) G 1 40 [.ref (v0 - 1), .int v1, .int v2] h (some (.int r)) h' := by
  obtain ⟨hz0, hp⟩ := ck_i hp
  refine Ct.of (by decide +kernel) (Nat.le_of_ble_eq_true rfl) ?_
  intro p e s m args below meth c C hR ls hl
  have hl : zl ls 4 [(0, zr v0), (1, .int v1), (2, .int v2)] := ⟨by rw [zr_p hz0]; exact hl, by simp [zr_cat, in_cat]⟩
  exact s_X11_at_0 C hR (fun _ hq => nomatch hq) hl hp
/-! CursorKeepModel.placeOf(II)I -/
def p_X11_placeOf_62 (k22 : Nat → Int32 → Int32 → Int32 → Int32 → AH → Option (Int32 × AH)) (v0 : Nat) (v2 : Int32) (v3 : Int32) (v5 : Int32) (s0 : Int32) (s1 : Int32) (h : AH) : Option (Int32 × AH) :=
  nm ((s0 + s1)) fun (x1 : Int32) =>
  nm (v5 + iI 1) fun (x2 : Int32) =>
  k22 v0 v2 v3 x1 x2 h
set_option maxHeartbeats 4000000 in
set_option maxRecDepth 100000 in
theorem s_X11_placeOf_62 {p : Program} {l : Launch} {e : Env} {s : State} {m : MethodId} {args : Array Value} {below : List Frame} {meth : Method} {c : Code} {G : GG} {hs : AH} {r : Int32} {h' : AH} (C : Cx G hs p s m args meth c cX11_placeOf 6 RX11 (.code yX11_placeOf cX11_placeOf 6 (some .int) :: MW) (some .int) "placeOf") {k22 : Nat → Int32 → Int32 → Int32 → Int32 → AH → Option (Int32 × AH)} (hk22 : ∀ {v0 : Nat} {v2 : Int32} {v3 : Int32} {v4 : Int32} {v5 : Int32} {h : AH} {H : Heap} {locs : List Loc} {cells slots : Nat} {ls : Array Slot}, Rp G h H → (∀ q ∈ locs, gB G ≤ q.base) → zl ls 6 [(0, zr v0), (2, .int v2), (3, .int v3), (4, .int v4), (5, .int v5)] → k22 v0 v2 v3 v4 v5 h = some (r, h') → W p l e (gR G hs 2 63) s m args below meth c H locs cells slots (MQ below (Qcc G (some (.int r)) h') args s (gC G - aZ hs) (gS - aU hs) (fun q => gB G ≤ q)) (F0 m 22 ls [])) {v0 : Nat} {v2 : Int32} {v3 : Int32} {v5 : Int32} {s0 : Int32} {s1 : Int32} {h : AH} {H : Heap} {locs : List Loc} {cells slots : Nat} {ls : Array Slot} (hR : Rp G h H) (hL : ∀ q ∈ locs, gB G ≤ q.base) (hl : zl ls 6 [(0, zr v0), (2, .int v2), (3, .int v3), (5, .int v5)]) (hp : p_X11_placeOf_62 k22 v0 v2 v3 v5 s0 s1 h = some (r, h')) : W p l e (gR G hs 2 63) s m args below meth c H locs cells slots (MQ below (Qcc G (some (.int r)) h') args s (gC G - aZ hs) (gS - aU hs) (fun q => gB G ≤ q)) (F0 m 62 ls [.int s1, .int s0]) := by
  obtain ⟨hx, hb, hml, hown, hts, hT, hK, rs, hlk, hret, hnm⟩ := id C
  have hm : ∀ w ∈ MW, w.before args s = true := fun w hw => hts w (hT w hw)
  unfold p_X11_placeOf_62 at hp
  refine lv_iadd hx hb dX11_placeOf_62 ?_
  refine lv_topi (fun x1 ex1 => ?_)
  replace hp := nm_i hp ex1
  refine z_istore (lv' := [(4, .int x1), (0, zr v0), (2, .int v2), (3, .int v3), (5, .int v5)]) hx hb dX11_placeOf_63 hl (by decide) rfl (fun ls hl => ?_)
  obtain ⟨x2, ex2⟩ : ∃ y : Int32, y = v5 + iI 1 := ⟨_, rfl⟩
  replace hp := nm_i hp ex2
  refine z_iinc (v := x2) (lv' := [(5, .int x2), (4, .int x1), (0, zr v0), (2, .int v2), (3, .int v3)]) hx hb dX11_placeOf_65 hl (k := 4) rfl ex2 (by decide) rfl (fun ls hl => ?_)
  refine lv_goto (tgt := 22) hx hb dX11_placeOf_68 (by decide) ?_
  exact hk22 hR hL (zl_sub hl [2, 3, 4, 1, 0] rfl) hp
def p_X11_placeOf_22  : Nat → Nat → Int32 → Int32 → Int32 → Int32 → AH → Option (Int32 × AH)
  | 0, _, _, _, _, _, _ => none
  | n + 1, v0, v2, v3, v4, v5, h =>
    if v3 ≤ v5 then
      some (v4, h)
    else
      ck (aK h v0 = 13) <|
      ck (aK h v0 = 13) <|
      ck (aK h (aR h v0 0) = 20 ∧ ix (((iI 150) * v2) + v5) (aN h (aR h v0 0))) <|
      ck (aK h (aR h v0 2) = 22 ∧ ix (((iI 150) * v2) + (aI h (aR h v0 0) (((iI 150) * v2) + v5).toNatClampNeg)) (aN h (aR h v0 2))) <|
      if (aI h (aR h v0 2) (((iI 150) * v2) + (aI h (aR h v0 0) (((iI 150) * v2) + v5).toNatClampNeg)).toNatClampNeg) = 0 then
        p_X11_placeOf_62 (p_X11_placeOf_22  n) v0 v2 v3 v5 v4 (iI 0) h
      else
        p_X11_placeOf_62 (p_X11_placeOf_22  n) v0 v2 v3 v5 v4 (iI 1) h
set_option maxHeartbeats 4000000 in
set_option maxRecDepth 100000 in
theorem s_X11_placeOf_22 {p : Program} {l : Launch} {e : Env} {s : State} {m : MethodId} {args : Array Value} {below : List Frame} {meth : Method} {c : Code} {G : GG} {hs : AH} {r : Int32} {h' : AH} (C : Cx G hs p s m args meth c cX11_placeOf 6 RX11 (.code yX11_placeOf cX11_placeOf 6 (some .int) :: MW) (some .int) "placeOf")   : ∀ (n : Nat) (v0 : Nat) (v2 : Int32) (v3 : Int32) (v4 : Int32) (v5 : Int32) (h : AH) (H : Heap) (locs : List Loc) (cells slots : Nat) (ls : Array Slot) (hR : Rp G h H) (hL : ∀ q ∈ locs, gB G ≤ q.base) (hl : zl ls 6 [(0, zr v0), (2, .int v2), (3, .int v3), (4, .int v4), (5, .int v5)]) (hp : p_X11_placeOf_22  n v0 v2 v3 v4 v5 h = some (r, h')), W p l e (gR G hs 2 63) s m args below meth c H locs cells slots (MQ below (Qcc G (some (.int r)) h') args s (gC G - aZ hs) (gS - aU hs) (fun q => gB G ≤ q)) (F0 m 22 ls []) := by
  obtain ⟨hx, hb, hml, hown, hts, hT, hK, rs, hlk, hret, hnm⟩ := id C
  have hm : ∀ w ∈ MW, w.before args s = true := fun w hw => hts w (hT w hw)
  intro n
  induction n with
  | zero =>
    intro v0 v2 v3 v4 v5 h H locs cells slots ls hR hL hl hp
    exact absurd (show none = some (r, h') from hp) (by simp)
  | succ n ih =>
    intro v0 v2 v3 v4 v5 h H locs cells slots ls hR hL hl hp
    rw [p_X11_placeOf_22.eq_2] at hp
    refine lv_iload hx hb dX11_placeOf_22 (zl_at hl 4 rfl) ?_
    refine lv_iload_n hx hb dX11_placeOf_24 rfl (zl_at hl 2 rfl) ?_
    refine lv_icmp_ge (tgt := 71) hx hb dX11_placeOf_25 (by decide) (fun c1 => ?_) (fun c1 => ?_)
    · replace hp := ite_p hp c1
      refine lv_iload hx hb dX11_placeOf_71 (zl_at hl 3 rfl) ?_
      cases hp
      exact r_zret C hR hL rfl dX11_placeOf_73
    · replace hp := ite_n hp c1
      refine lv_iload hx hb dX11_placeOf_28 (zl_at hl 3 rfl) ?_
      refine z_aload_n hx hb dX11_placeOf_30 rfl (zl_at hl 0 rfl) ?_
      obtain ⟨k2, hp⟩ := ck_i hp
      refine r_get (ci := 12) (C := RX11) (T := TX11) (N := 32) (v := zr (aR h v0 2)) hx hb hm ii_X11 hown hK hR rfl k2 2 (by decide) (hm _ mw_984) (fun _ h9 => h9) rfl dX11_placeOf_31 ?_
      refine lv_sipush (v := iI 150) hx hb dX11_placeOf_34 (by decide +kernel) ?_
      refine lv_iload_n hx hb dX11_placeOf_37 rfl (zl_at hl 1 rfl) ?_
      refine lv_imul hx hb dX11_placeOf_38 ?_
      refine z_aload_n hx hb dX11_placeOf_39 rfl (zl_at hl 0 rfl) ?_
      obtain ⟨k3, hp⟩ := ck_i hp
      refine r_get (ci := 12) (C := RX11) (T := TX11) (N := 32) (v := zr (aR h v0 0)) hx hb hm ii_X11 hown hK hR rfl k3 0 (by decide) (hm _ mw_982) (fun _ h9 => h9) rfl dX11_placeOf_40 ?_
      refine lv_sipush (v := iI 150) hx hb dX11_placeOf_43 (by decide +kernel) ?_
      refine lv_iload_n hx hb dX11_placeOf_46 rfl (zl_at hl 1 rfl) ?_
      refine lv_imul hx hb dX11_placeOf_47 ?_
      refine lv_iload hx hb dX11_placeOf_48 (zl_at hl 4 rfl) ?_
      refine lv_iadd hx hb dX11_placeOf_50 ?_
      obtain ⟨k4, hp⟩ := ck_i hp
      refine r_iald hx hb hK hR k4.1 k4.2 dX11_placeOf_51 ?_
      refine lv_iadd hx hb dX11_placeOf_52 ?_
      obtain ⟨k6, hp⟩ := ck_i hp
      refine r_zald hx hb hK hR k6.1 k6.2 dX11_placeOf_53 ?_
      refine lv_if_eq (tgt := 61) hx hb dX11_placeOf_54 (by decide) (fun c8 => ?_) (fun c8 => ?_)
      · replace hp := ite_p hp c8
        refine lv_iconst (v := iI 0) hx hb dX11_placeOf_61 rfl ?_
        exact s_X11_placeOf_62 C (fun hR hL hl hp => ih _ _ _ _ _ _ _ _ _ _ _ hR hL hl hp) hR hL (zl_sub hl [0, 1, 2, 4] rfl) hp
      · replace hp := ite_n hp c8
        refine lv_iconst (v := iI 1) hx hb dX11_placeOf_57 rfl ?_
        refine lv_goto (tgt := 62) hx hb dX11_placeOf_58 (by decide) ?_
        exact s_X11_placeOf_62 C (fun hR hL hl hp => ih _ _ _ _ _ _ _ _ _ _ _ hR hL hl hp) hR hL (zl_sub hl [0, 1, 2, 4] rfl) hp
def p_X11_placeOf_0  (v0 : Nat) (v1 : Int32) (v2 : Int32) (h : AH) : Option (Int32 × AH) :=
  ck (aK h v0 = 13) <|
  ck (aK h (aR h v0 5) = 20 ∧ ix (((iI 5) * v2) + v1) (aN h (aR h v0 5))) <|
  ck (aK h v0 = 13) <|
  bR (p_X11_at v0 v2 (aI h (aR h v0 5) (((iI 5) * v2) + v1).toNatClampNeg) h) fun r5 h6 =>
  nm ((iI 0)) fun (x7 : Int32) =>
  nm ((iI 0)) fun (x8 : Int32) =>
  p_X11_placeOf_22  FU v0 v2 r5 x7 x8 h6
set_option maxHeartbeats 4000000 in
set_option maxRecDepth 100000 in
theorem s_X11_placeOf_0 {p : Program} {l : Launch} {e : Env} {s : State} {m : MethodId} {args : Array Value} {below : List Frame} {meth : Method} {c : Code} {G : GG} {hs : AH} {r : Int32} {h' : AH} (C : Cx G hs p s m args meth c cX11_placeOf 6 RX11 (.code yX11_placeOf cX11_placeOf 6 (some .int) :: MW) (some .int) "placeOf")   {v0 : Nat} {v1 : Int32} {v2 : Int32} {h : AH} {H : Heap} {locs : List Loc} {cells slots : Nat} {ls : Array Slot} (hR : Rp G h H) (hL : ∀ q ∈ locs, gB G ≤ q.base) (hl : zl ls 6 [(0, zr v0), (1, .int v1), (2, .int v2)]) (hp : p_X11_placeOf_0  v0 v1 v2 h = some (r, h')) : W p l e (gR G hs 2 63) s m args below meth c H locs cells slots (MQ below (Qcc G (some (.int r)) h') args s (gC G - aZ hs) (gS - aU hs) (fun q => gB G ≤ q)) (F0 m 0 ls []) := by
  obtain ⟨hx, hb, hml, hown, hts, hT, hK, rs, hlk, hret, hnm⟩ := id C
  have hm : ∀ w ∈ MW, w.before args s = true := fun w hw => hts w (hT w hw)
  unfold p_X11_placeOf_0 at hp
  refine z_aload_n hx hb dX11_placeOf_0 rfl (zl_at hl 0 rfl) ?_
  refine lv_iload_n hx hb dX11_placeOf_1 rfl (zl_at hl 2 rfl) ?_
  refine z_aload_n hx hb dX11_placeOf_2 rfl (zl_at hl 0 rfl) ?_
  obtain ⟨k1, hp⟩ := ck_i hp
  refine r_get (ci := 12) (C := RX11) (T := TX11) (N := 32) (v := zr (aR h v0 5)) hx hb hm ii_X11 hown hK hR rfl k1 5 (by decide) (hm _ mw_987) (fun _ h9 => h9) rfl dX11_placeOf_3 ?_
  refine lv_iconst (v := iI 5) hx hb dX11_placeOf_6 rfl ?_
  refine lv_iload_n hx hb dX11_placeOf_7 rfl (zl_at hl 2 rfl) ?_
  refine lv_imul hx hb dX11_placeOf_8 ?_
  refine lv_iload_n hx hb dX11_placeOf_9 rfl (zl_at hl 1 rfl) ?_
  refine lv_iadd hx hb dX11_placeOf_10 ?_
  obtain ⟨k2, hp⟩ := ck_i hp
  refine r_iald hx hb hK hR k2.1 k2.2 dX11_placeOf_11 ?_
  obtain ⟨k4, hp⟩ := ck_i hp
  obtain ⟨r5, h6, er5, hp⟩ := bR_i hp
  refine r_callV (ci := 12) (r := (RX11, TX11, 32)) (n := 2) (As := [.int v2, .int (aI h (aR h v0 5) (((iI 5) * v2) + v1).toNatClampNeg)]) (rest := []) C (c_X11_at l G v0 v2 (aI h (aR h v0 5) (((iI 5) * v2) + v1).toNatClampNeg) h r5 h6 er5) hR hL rfl k4 mw_1100 mw_1102 mp_20 mw_10 mw_1103 (by decide +kernel) (by decide) rfl (zl_size hl) rfl (by simp [zr_cat, in_cat]) dX11_placeOf_12 (st2 := [.int r5]) rfl (fun H locs cells slots hR hL => ?_)
  refine z_istore_n (lv' := [(3, .int r5), (0, zr v0), (1, .int v1), (2, .int v2)]) hx hb dX11_placeOf_15 rfl hl (by decide) rfl (fun ls hl => ?_)
  refine lv_iconst (v := iI 0) hx hb dX11_placeOf_16 rfl ?_
  refine lv_topi (fun x7 ex7 => ?_)
  replace hp := nm_i hp ex7
  refine z_istore (lv' := [(4, .int x7), (3, .int r5), (0, zr v0), (1, .int v1), (2, .int v2)]) hx hb dX11_placeOf_17 hl (by decide) rfl (fun ls hl => ?_)
  refine lv_iconst (v := iI 0) hx hb dX11_placeOf_19 rfl ?_
  refine lv_topi (fun x8 ex8 => ?_)
  replace hp := nm_i hp ex8
  refine z_istore (lv' := [(5, .int x8), (4, .int x7), (3, .int r5), (0, zr v0), (1, .int v1), (2, .int v2)]) hx hb dX11_placeOf_20 hl (by decide) rfl (fun ls hl => ?_)
  exact s_X11_placeOf_22 C  _ _ _ _ _ _ _ _ _ _ _ _ hR hL (zl_sub hl [3, 5, 2, 1, 0] rfl) hp
def p_X11_placeOf (v0 : Nat) (v1 : Int32) (v2 : Int32) (h : AH) : Option (Int32 × AH) := ck (v0 ≠ 0) <| p_X11_placeOf_0 v0 v1 v2 h
theorem c_X11_placeOf (l : Launch) (G : GG) (v0 : Nat) (v1 : Int32) (v2 : Int32) (h : AH) (r : Int32) (h' : AH) (hp : p_X11_placeOf v0 v1 v2 h = some (r, h')) : Ct l yX11_placeOf (.code yX11_placeOf cX11_placeOf 6 (some .int) :: MW) G 2 63 [.ref (v0 - 1), .int v1, .int v2] h (some (.int r)) h' := by
  obtain ⟨hz0, hp⟩ := ck_i hp
  refine Ct.of (by decide +kernel) (Nat.le_of_ble_eq_true rfl) ?_
  intro p e s m args below meth c C hR ls hl
  have hl : zl ls 6 [(0, zr v0), (1, .int v1), (2, .int v2)] := ⟨by rw [zr_p hz0]; exact hl, by simp [zr_cat, in_cat]⟩
  exact s_X11_placeOf_0 C hR (fun _ hq => nomatch hq) hl hp
/-! CursorKeepModel.leaves(II)V -/
def p_X11_leaves_73 (k25 : Nat → Int32 → Int32 → Int32 → Int32 → AH → Option (Unit × AH)) (v0 : Nat) (v1 : Int32) (v2 : Int32) (v4 : Int32) (s0 : Int32) (h : AH) : Option (Unit × AH) :=
  nm (v4 + iI (-1)) fun (x1 : Int32) =>
  k25 v0 v1 v2 s0 x1 h
set_option maxHeartbeats 4000000 in
set_option maxRecDepth 100000 in
theorem s_X11_leaves_73 {p : Program} {l : Launch} {e : Env} {s : State} {m : MethodId} {args : Array Value} {below : List Frame} {meth : Method} {c : Code} {G : GG} {hs : AH} {r : Unit} {h' : AH} (C : Cx G hs p s m args meth c cX11_leaves 6 RX11 (.code yX11_leaves cX11_leaves 6 none :: MW) none "leaves") {k25 : Nat → Int32 → Int32 → Int32 → Int32 → AH → Option (Unit × AH)} (hk25 : ∀ {v0 : Nat} {v1 : Int32} {v2 : Int32} {v3 : Int32} {v4 : Int32} {h : AH} {H : Heap} {locs : List Loc} {cells slots : Nat} {ls : Array Slot}, Rp G h H → (∀ q ∈ locs, gB G ≤ q.base) → zl ls 6 [(0, zr v0), (1, .int v1), (2, .int v2), (3, .int v3), (4, .int v4)] → k25 v0 v1 v2 v3 v4 h = some (r, h') → W p l e (gR G hs 2 63) s m args below meth c H locs cells slots (MQ below (Qcc G (none) h') args s (gC G - aZ hs) (gS - aU hs) (fun q => gB G ≤ q)) (F0 m 25 ls [])) {v0 : Nat} {v1 : Int32} {v2 : Int32} {v4 : Int32} {s0 : Int32} {h : AH} {H : Heap} {locs : List Loc} {cells slots : Nat} {ls : Array Slot} (hR : Rp G h H) (hL : ∀ q ∈ locs, gB G ≤ q.base) (hl : zl ls 6 [(0, zr v0), (1, .int v1), (2, .int v2), (4, .int v4)]) (hp : p_X11_leaves_73 k25 v0 v1 v2 v4 s0 h = some (r, h')) : W p l e (gR G hs 2 63) s m args below meth c H locs cells slots (MQ below (Qcc G (none) h') args s (gC G - aZ hs) (gS - aU hs) (fun q => gB G ≤ q)) (F0 m 73 ls [.int s0]) := by
  obtain ⟨hx, hb, hml, hown, hts, hT, hK, rs, hlk, hret, hnm⟩ := id C
  have hm : ∀ w ∈ MW, w.before args s = true := fun w hw => hts w (hT w hw)
  unfold p_X11_leaves_73 at hp
  refine z_istore_n (lv' := [(3, .int s0), (0, zr v0), (1, .int v1), (2, .int v2), (4, .int v4)]) hx hb dX11_leaves_73 rfl hl (by decide) rfl (fun ls hl => ?_)
  obtain ⟨x1, ex1⟩ : ∃ y : Int32, y = v4 + iI (-1) := ⟨_, rfl⟩
  replace hp := nm_i hp ex1
  refine z_iinc (v := x1) (lv' := [(4, .int x1), (3, .int s0), (0, zr v0), (1, .int v1), (2, .int v2)]) hx hb dX11_leaves_74 hl (k := 4) rfl ex1 (by decide) rfl (fun ls hl => ?_)
  refine lv_goto (tgt := 25) hx hb dX11_leaves_77 (by decide) ?_
  exact hk25 hR hL (zl_sub hl [2, 3, 4, 1, 0] rfl) hp
def p_X11_leaves_129 (k83 : Nat → Int32 → Int32 → Int32 → Int32 → AH → Option (Unit × AH)) (v0 : Nat) (v1 : Int32) (v2 : Int32) (v3 : Int32) (v4 : Int32) (s0 : Nat) (s1 : Int32) (s2 : Int32) (h : AH) : Option (Unit × AH) :=
  ck (aK h s0 = 20 ∧ ix s1 (aN h s0)) <|
  nm (uI h s0 s1.toNatClampNeg s2) fun h3 =>
  nm (v4 + iI 1) fun (x4 : Int32) =>
  k83 v0 v1 v2 v3 x4 h3
set_option maxHeartbeats 4000000 in
set_option maxRecDepth 100000 in
theorem s_X11_leaves_129 {p : Program} {l : Launch} {e : Env} {s : State} {m : MethodId} {args : Array Value} {below : List Frame} {meth : Method} {c : Code} {G : GG} {hs : AH} {r : Unit} {h' : AH} (C : Cx G hs p s m args meth c cX11_leaves 6 RX11 (.code yX11_leaves cX11_leaves 6 none :: MW) none "leaves") {k83 : Nat → Int32 → Int32 → Int32 → Int32 → AH → Option (Unit × AH)} (hk83 : ∀ {v0 : Nat} {v1 : Int32} {v2 : Int32} {v3 : Int32} {v4 : Int32} {h : AH} {H : Heap} {locs : List Loc} {cells slots : Nat} {ls : Array Slot}, Rp G h H → (∀ q ∈ locs, gB G ≤ q.base) → zl ls 6 [(0, zr v0), (1, .int v1), (2, .int v2), (3, .int v3), (4, .int v4)] → k83 v0 v1 v2 v3 v4 h = some (r, h') → W p l e (gR G hs 2 63) s m args below meth c H locs cells slots (MQ below (Qcc G (none) h') args s (gC G - aZ hs) (gS - aU hs) (fun q => gB G ≤ q)) (F0 m 83 ls [])) {v0 : Nat} {v1 : Int32} {v2 : Int32} {v3 : Int32} {v4 : Int32} {s0 : Nat} {s1 : Int32} {s2 : Int32} {h : AH} {H : Heap} {locs : List Loc} {cells slots : Nat} {ls : Array Slot} (hR : Rp G h H) (hL : ∀ q ∈ locs, gB G ≤ q.base) (hl : zl ls 6 [(0, zr v0), (1, .int v1), (2, .int v2), (3, .int v3), (4, .int v4)]) (hp : p_X11_leaves_129 k83 v0 v1 v2 v3 v4 s0 s1 s2 h = some (r, h')) : W p l e (gR G hs 2 63) s m args below meth c H locs cells slots (MQ below (Qcc G (none) h') args s (gC G - aZ hs) (gS - aU hs) (fun q => gB G ≤ q)) (F0 m 129 ls [.int s2, .int s1, zr s0]) := by
  obtain ⟨hx, hb, hml, hown, hts, hT, hK, rs, hlk, hret, hnm⟩ := id C
  have hm : ∀ w ∈ MW, w.before args s = true := fun w hw => hts w (hT w hw)
  unfold p_X11_leaves_129 at hp
  obtain ⟨k1, hp⟩ := ck_i hp
  refine r_iast hx hb hK hR hL k1.1 k1.2 dX11_leaves_129 (fun H locs hR hL => ?_)
  obtain ⟨h3, hp, hR⟩ := nm_h hp hR
  obtain ⟨x4, ex4⟩ : ∃ y : Int32, y = v4 + iI 1 := ⟨_, rfl⟩
  replace hp := nm_i hp ex4
  refine z_iinc (v := x4) (lv' := [(4, .int x4), (0, zr v0), (1, .int v1), (2, .int v2), (3, .int v3)]) hx hb dX11_leaves_130 hl (k := 4) rfl ex4 (by decide) rfl (fun ls hl => ?_)
  refine lv_goto (tgt := 83) hx hb dX11_leaves_133 (by decide) ?_
  exact hk83 hR hL (zl_sub hl [1, 2, 3, 4, 0] rfl) hp
def p_X11_leaves_83  : Nat → Nat → Int32 → Int32 → Int32 → Int32 → AH → Option (Unit × AH)
  | 0, _, _, _, _, _, _ => none
  | n + 1, v0, v1, v2, v3, v4, h =>
    if (iI 5) ≤ v4 then
      some ((), h)
    else
      ck (aK h v0 = 13) <|
      ck (aK h v0 = 13) <|
      ck (aK h (aR h v0 5) = 20 ∧ ix (((iI 5) * v1) + v4) (aN h (aR h v0 5))) <|
      if (aI h (aR h v0 5) (((iI 5) * v1) + v4).toNatClampNeg) = v2 then
        p_X11_leaves_129 (p_X11_leaves_83  n) v0 v1 v2 v3 v4 (aR h v0 5) (((iI 5) * v1) + v4) v3 h
      else
        ck (aK h v0 = 13) <|
        ck (aK h (aR h v0 5) = 20 ∧ ix (((iI 5) * v1) + v4) (aN h (aR h v0 5))) <|
        p_X11_leaves_129 (p_X11_leaves_83  n) v0 v1 v2 v3 v4 (aR h v0 5) (((iI 5) * v1) + v4) (aI h (aR h v0 5) (((iI 5) * v1) + v4).toNatClampNeg) h
set_option maxHeartbeats 4000000 in
set_option maxRecDepth 100000 in
theorem s_X11_leaves_83 {p : Program} {l : Launch} {e : Env} {s : State} {m : MethodId} {args : Array Value} {below : List Frame} {meth : Method} {c : Code} {G : GG} {hs : AH} {r : Unit} {h' : AH} (C : Cx G hs p s m args meth c cX11_leaves 6 RX11 (.code yX11_leaves cX11_leaves 6 none :: MW) none "leaves")   : ∀ (n : Nat) (v0 : Nat) (v1 : Int32) (v2 : Int32) (v3 : Int32) (v4 : Int32) (h : AH) (H : Heap) (locs : List Loc) (cells slots : Nat) (ls : Array Slot) (hR : Rp G h H) (hL : ∀ q ∈ locs, gB G ≤ q.base) (hl : zl ls 6 [(0, zr v0), (1, .int v1), (2, .int v2), (3, .int v3), (4, .int v4)]) (hp : p_X11_leaves_83  n v0 v1 v2 v3 v4 h = some (r, h')), W p l e (gR G hs 2 63) s m args below meth c H locs cells slots (MQ below (Qcc G (none) h') args s (gC G - aZ hs) (gS - aU hs) (fun q => gB G ≤ q)) (F0 m 83 ls []) := by
  obtain ⟨hx, hb, hml, hown, hts, hT, hK, rs, hlk, hret, hnm⟩ := id C
  have hm : ∀ w ∈ MW, w.before args s = true := fun w hw => hts w (hT w hw)
  intro n
  induction n with
  | zero =>
    intro v0 v1 v2 v3 v4 h H locs cells slots ls hR hL hl hp
    exact absurd (show none = some (r, h') from hp) (by simp)
  | succ n ih =>
    intro v0 v1 v2 v3 v4 h H locs cells slots ls hR hL hl hp
    rw [p_X11_leaves_83.eq_2] at hp
    refine lv_iload hx hb dX11_leaves_83 (zl_at hl 4 rfl) ?_
    refine lv_iconst (v := iI 5) hx hb dX11_leaves_85 rfl ?_
    refine lv_icmp_ge (tgt := 136) hx hb dX11_leaves_86 (by decide) (fun c1 => ?_) (fun c1 => ?_)
    · replace hp := ite_p hp c1
      cases hp
      exact r_vret C hR hL dX11_leaves_136
    · replace hp := ite_n hp c1
      refine z_aload_n hx hb dX11_leaves_89 rfl (zl_at hl 0 rfl) ?_
      obtain ⟨k2, hp⟩ := ck_i hp
      refine r_get (ci := 12) (C := RX11) (T := TX11) (N := 32) (v := zr (aR h v0 5)) hx hb hm ii_X11 hown hK hR rfl k2 5 (by decide) (hm _ mw_987) (fun _ h9 => h9) rfl dX11_leaves_90 ?_
      refine lv_iconst (v := iI 5) hx hb dX11_leaves_93 rfl ?_
      refine lv_iload_n hx hb dX11_leaves_94 rfl (zl_at hl 1 rfl) ?_
      refine lv_imul hx hb dX11_leaves_95 ?_
      refine lv_iload hx hb dX11_leaves_96 (zl_at hl 4 rfl) ?_
      refine lv_iadd hx hb dX11_leaves_98 ?_
      refine z_aload_n hx hb dX11_leaves_99 rfl (zl_at hl 0 rfl) ?_
      obtain ⟨k3, hp⟩ := ck_i hp
      refine r_get (ci := 12) (C := RX11) (T := TX11) (N := 32) (v := zr (aR h v0 5)) hx hb hm ii_X11 hown hK hR rfl k3 5 (by decide) (hm _ mw_987) (fun _ h9 => h9) rfl dX11_leaves_100 ?_
      refine lv_iconst (v := iI 5) hx hb dX11_leaves_103 rfl ?_
      refine lv_iload_n hx hb dX11_leaves_104 rfl (zl_at hl 1 rfl) ?_
      refine lv_imul hx hb dX11_leaves_105 ?_
      refine lv_iload hx hb dX11_leaves_106 (zl_at hl 4 rfl) ?_
      refine lv_iadd hx hb dX11_leaves_108 ?_
      obtain ⟨k4, hp⟩ := ck_i hp
      refine r_iald hx hb hK hR k4.1 k4.2 dX11_leaves_109 ?_
      refine lv_iload_n hx hb dX11_leaves_110 rfl (zl_at hl 2 rfl) ?_
      refine lv_icmp_ne (tgt := 118) hx hb dX11_leaves_111 (by decide) (fun c6 => ?_) (fun c6 => ?_)
      · replace hp := ite_n hp c6
        refine z_aload_n hx hb dX11_leaves_118 rfl (zl_at hl 0 rfl) ?_
        obtain ⟨k7, hp⟩ := ck_i hp
        refine r_get (ci := 12) (C := RX11) (T := TX11) (N := 32) (v := zr (aR h v0 5)) hx hb hm ii_X11 hown hK hR rfl k7 5 (by decide) (hm _ mw_987) (fun _ h9 => h9) rfl dX11_leaves_119 ?_
        refine lv_iconst (v := iI 5) hx hb dX11_leaves_122 rfl ?_
        refine lv_iload_n hx hb dX11_leaves_123 rfl (zl_at hl 1 rfl) ?_
        refine lv_imul hx hb dX11_leaves_124 ?_
        refine lv_iload hx hb dX11_leaves_125 (zl_at hl 4 rfl) ?_
        refine lv_iadd hx hb dX11_leaves_127 ?_
        obtain ⟨k8, hp⟩ := ck_i hp
        refine r_iald hx hb hK hR k8.1 k8.2 dX11_leaves_128 ?_
        exact s_X11_leaves_129 C (fun hR hL hl hp => ih _ _ _ _ _ _ _ _ _ _ _ hR hL hl hp) hR hL (zl_sub hl [0, 1, 2, 3, 4] rfl) hp
      · replace hp := ite_p hp c6
        refine lv_iload_n hx hb dX11_leaves_114 rfl (zl_at hl 3 rfl) ?_
        refine lv_goto (tgt := 129) hx hb dX11_leaves_115 (by decide) ?_
        exact s_X11_leaves_129 C (fun hR hL hl hp => ih _ _ _ _ _ _ _ _ _ _ _ hR hL hl hp) hR hL (zl_sub hl [0, 1, 2, 3, 4] rfl) hp
def p_X11_leaves_25  : Nat → Nat → Int32 → Int32 → Int32 → Int32 → AH → Option (Unit × AH)
  | 0, _, _, _, _, _, _ => none
  | n + 1, v0, v1, v2, v3, v4, h =>
    ck (aK h v0 = 13) <|
    bR (p_X11_at v0 v1 v2 h) fun r2 h3 =>
    if v4 ≤ r2 then
      nm ((iI 0)) fun (x5 : Int32) =>
      p_X11_leaves_83  FU v0 v1 v2 v3 x5 h3
    else
      ck (aK h3 v0 = 13) <|
      ck (aK h3 (aR h3 v0 0) = 20 ∧ ix (((iI 150) * v1) + v4) (aN h3 (aR h3 v0 0))) <|
      nm ((aI h3 (aR h3 v0 0) (((iI 150) * v1) + v4).toNatClampNeg)) fun (x9 : Int32) =>
      ck (aK h3 v0 = 13) <|
      ck (aK h3 (aR h3 v0 2) = 22 ∧ ix (((iI 150) * v1) + x9) (aN h3 (aR h3 v0 2))) <|
      if (aI h3 (aR h3 v0 2) (((iI 150) * v1) + x9).toNatClampNeg) = 0 then
        p_X11_leaves_73 (p_X11_leaves_25  n) v0 v1 v2 v4 v3 h3
      else
        p_X11_leaves_73 (p_X11_leaves_25  n) v0 v1 v2 v4 x9 h3
set_option maxHeartbeats 4000000 in
set_option maxRecDepth 100000 in
theorem s_X11_leaves_25 {p : Program} {l : Launch} {e : Env} {s : State} {m : MethodId} {args : Array Value} {below : List Frame} {meth : Method} {c : Code} {G : GG} {hs : AH} {r : Unit} {h' : AH} (C : Cx G hs p s m args meth c cX11_leaves 6 RX11 (.code yX11_leaves cX11_leaves 6 none :: MW) none "leaves")   : ∀ (n : Nat) (v0 : Nat) (v1 : Int32) (v2 : Int32) (v3 : Int32) (v4 : Int32) (h : AH) (H : Heap) (locs : List Loc) (cells slots : Nat) (ls : Array Slot) (hR : Rp G h H) (hL : ∀ q ∈ locs, gB G ≤ q.base) (hl : zl ls 6 [(0, zr v0), (1, .int v1), (2, .int v2), (3, .int v3), (4, .int v4)]) (hp : p_X11_leaves_25  n v0 v1 v2 v3 v4 h = some (r, h')), W p l e (gR G hs 2 63) s m args below meth c H locs cells slots (MQ below (Qcc G (none) h') args s (gC G - aZ hs) (gS - aU hs) (fun q => gB G ≤ q)) (F0 m 25 ls []) := by
  obtain ⟨hx, hb, hml, hown, hts, hT, hK, rs, hlk, hret, hnm⟩ := id C
  have hm : ∀ w ∈ MW, w.before args s = true := fun w hw => hts w (hT w hw)
  intro n
  induction n with
  | zero =>
    intro v0 v1 v2 v3 v4 h H locs cells slots ls hR hL hl hp
    exact absurd (show none = some (r, h') from hp) (by simp)
  | succ n ih =>
    intro v0 v1 v2 v3 v4 h H locs cells slots ls hR hL hl hp
    rw [p_X11_leaves_25.eq_2] at hp
    refine lv_iload hx hb dX11_leaves_25 (zl_at hl 4 rfl) ?_
    refine z_aload_n hx hb dX11_leaves_27 rfl (zl_at hl 0 rfl) ?_
    refine lv_iload_n hx hb dX11_leaves_28 rfl (zl_at hl 1 rfl) ?_
    refine lv_iload_n hx hb dX11_leaves_29 rfl (zl_at hl 2 rfl) ?_
    obtain ⟨k1, hp⟩ := ck_i hp
    obtain ⟨r2, h3, er2, hp⟩ := bR_i hp
    refine r_callV (ci := 12) (r := (RX11, TX11, 32)) (n := 2) (As := [.int v1, .int v2]) (rest := [.int v4]) C (c_X11_at l G v0 v1 v2 h r2 h3 er2) hR hL rfl k1 mw_1100 mw_1102 mp_20 mw_10 mw_1103 (by decide +kernel) (by decide) rfl (zl_size hl) rfl (by simp [zr_cat, in_cat]) dX11_leaves_30 (st2 := [.int r2, .int v4]) rfl (fun H locs cells slots hR hL => ?_)
    refine lv_icmp_le (tgt := 80) hx hb dX11_leaves_33 (by decide) (fun c4 => ?_) (fun c4 => ?_)
    · replace hp := ite_p hp c4
      refine lv_iconst (v := iI 0) hx hb dX11_leaves_80 rfl ?_
      refine lv_topi (fun x5 ex5 => ?_)
      replace hp := nm_i hp ex5
      refine z_istore (lv' := [(4, .int x5), (0, zr v0), (1, .int v1), (2, .int v2), (3, .int v3)]) hx hb dX11_leaves_81 hl (by decide) rfl (fun ls hl => ?_)
      exact s_X11_leaves_83 C  _ _ _ _ _ _ _ _ _ _ _ _ hR hL (zl_sub hl [1, 2, 3, 4, 0] rfl) hp
    · replace hp := ite_n hp c4
      refine z_aload_n hx hb dX11_leaves_36 rfl (zl_at hl 0 rfl) ?_
      obtain ⟨k6, hp⟩ := ck_i hp
      refine r_get (ci := 12) (C := RX11) (T := TX11) (N := 32) (v := zr (aR h3 v0 0)) hx hb hm ii_X11 hown hK hR rfl k6 0 (by decide) (hm _ mw_982) (fun _ h9 => h9) rfl dX11_leaves_37 ?_
      refine lv_sipush (v := iI 150) hx hb dX11_leaves_40 (by decide +kernel) ?_
      refine lv_iload_n hx hb dX11_leaves_43 rfl (zl_at hl 1 rfl) ?_
      refine lv_imul hx hb dX11_leaves_44 ?_
      refine lv_iload hx hb dX11_leaves_45 (zl_at hl 4 rfl) ?_
      refine lv_iadd hx hb dX11_leaves_47 ?_
      obtain ⟨k7, hp⟩ := ck_i hp
      refine r_iald hx hb hK hR k7.1 k7.2 dX11_leaves_48 ?_
      refine lv_topi (fun x9 ex9 => ?_)
      replace hp := nm_i hp ex9
      refine z_istore (lv' := [(5, .int x9), (0, zr v0), (1, .int v1), (2, .int v2), (3, .int v3), (4, .int v4)]) hx hb dX11_leaves_49 hl (by decide) rfl (fun ls hl => ?_)
      refine z_aload_n hx hb dX11_leaves_51 rfl (zl_at hl 1 rfl) ?_
      obtain ⟨k10, hp⟩ := ck_i hp
      refine r_get (ci := 12) (C := RX11) (T := TX11) (N := 32) (v := zr (aR h3 v0 2)) hx hb hm ii_X11 hown hK hR rfl k10 2 (by decide) (hm _ mw_984) (fun _ h9 => h9) rfl dX11_leaves_52 ?_
      refine lv_sipush (v := iI 150) hx hb dX11_leaves_55 (by decide +kernel) ?_
      refine lv_iload_n hx hb dX11_leaves_58 rfl (zl_at hl 2 rfl) ?_
      refine lv_imul hx hb dX11_leaves_59 ?_
      refine lv_iload hx hb dX11_leaves_60 (zl_at hl 0 rfl) ?_
      refine lv_iadd hx hb dX11_leaves_62 ?_
      obtain ⟨k11, hp⟩ := ck_i hp
      refine r_zald hx hb hK hR k11.1 k11.2 dX11_leaves_63 ?_
      refine lv_if_eq (tgt := 72) hx hb dX11_leaves_64 (by decide) (fun c13 => ?_) (fun c13 => ?_)
      · replace hp := ite_p hp c13
        refine lv_iload_n hx hb dX11_leaves_72 rfl (zl_at hl 4 rfl) ?_
        exact s_X11_leaves_73 C (fun hR hL hl hp => ih _ _ _ _ _ _ _ _ _ _ _ hR hL hl hp) hR hL (zl_sub hl [1, 2, 3, 5] rfl) hp
      · replace hp := ite_n hp c13
        refine lv_iload hx hb dX11_leaves_67 (zl_at hl 0 rfl) ?_
        refine lv_goto (tgt := 73) hx hb dX11_leaves_69 (by decide) ?_
        exact s_X11_leaves_73 C (fun hR hL hl hp => ih _ _ _ _ _ _ _ _ _ _ _ hR hL hl hp) hR hL (zl_sub hl [1, 2, 3, 5] rfl) hp
def p_X11_leaves_0  (v0 : Nat) (v1 : Int32) (v2 : Int32) (h : AH) : Option (Unit × AH) :=
  ck (aK h v0 = 13) <|
  ck (aK h (aR h v0 2) = 22 ∧ ix (((iI 150) * v1) + v2) (aN h (aR h v0 2))) <|
  nm (uI h (aR h v0 2) (((iI 150) * v1) + v2).toNatClampNeg (nZ (iI 0))) fun h4 =>
  nm ((iI (-1))) fun (x5 : Int32) =>
  ck (aK h4 v0 = 13) <|
  ck (aK h4 (aR h4 v0 3) = 20 ∧ ix v1 (aN h4 (aR h4 v0 3))) <|
  nm (((aI h4 (aR h4 v0 3) v1.toNatClampNeg) - (iI 1))) fun (x9 : Int32) =>
  p_X11_leaves_25  FU v0 v1 v2 x5 x9 h4
set_option maxHeartbeats 4000000 in
set_option maxRecDepth 100000 in
theorem s_X11_leaves_0 {p : Program} {l : Launch} {e : Env} {s : State} {m : MethodId} {args : Array Value} {below : List Frame} {meth : Method} {c : Code} {G : GG} {hs : AH} {r : Unit} {h' : AH} (C : Cx G hs p s m args meth c cX11_leaves 6 RX11 (.code yX11_leaves cX11_leaves 6 none :: MW) none "leaves")   {v0 : Nat} {v1 : Int32} {v2 : Int32} {h : AH} {H : Heap} {locs : List Loc} {cells slots : Nat} {ls : Array Slot} (hR : Rp G h H) (hL : ∀ q ∈ locs, gB G ≤ q.base) (hl : zl ls 6 [(0, zr v0), (1, .int v1), (2, .int v2)]) (hp : p_X11_leaves_0  v0 v1 v2 h = some (r, h')) : W p l e (gR G hs 2 63) s m args below meth c H locs cells slots (MQ below (Qcc G (none) h') args s (gC G - aZ hs) (gS - aU hs) (fun q => gB G ≤ q)) (F0 m 0 ls []) := by
  obtain ⟨hx, hb, hml, hown, hts, hT, hK, rs, hlk, hret, hnm⟩ := id C
  have hm : ∀ w ∈ MW, w.before args s = true := fun w hw => hts w (hT w hw)
  unfold p_X11_leaves_0 at hp
  refine z_aload_n hx hb dX11_leaves_0 rfl (zl_at hl 0 rfl) ?_
  obtain ⟨k1, hp⟩ := ck_i hp
  refine r_get (ci := 12) (C := RX11) (T := TX11) (N := 32) (v := zr (aR h v0 2)) hx hb hm ii_X11 hown hK hR rfl k1 2 (by decide) (hm _ mw_984) (fun _ h9 => h9) rfl dX11_leaves_1 ?_
  refine lv_sipush (v := iI 150) hx hb dX11_leaves_4 (by decide +kernel) ?_
  refine lv_iload_n hx hb dX11_leaves_7 rfl (zl_at hl 1 rfl) ?_
  refine lv_imul hx hb dX11_leaves_8 ?_
  refine lv_iload_n hx hb dX11_leaves_9 rfl (zl_at hl 2 rfl) ?_
  refine lv_iadd hx hb dX11_leaves_10 ?_
  refine lv_iconst (v := iI 0) hx hb dX11_leaves_11 rfl ?_
  obtain ⟨k2, hp⟩ := ck_i hp
  refine r_zast hx hb hK hR hL k2.1 k2.2 dX11_leaves_12 (fun H locs hR hL => ?_)
  obtain ⟨h4, hp, hR⟩ := nm_h hp hR
  refine lv_iconst (v := iI (-1)) hx hb dX11_leaves_13 rfl ?_
  refine lv_topi (fun x5 ex5 => ?_)
  replace hp := nm_i hp ex5
  refine z_istore_n (lv' := [(3, .int x5), (0, zr v0), (1, .int v1), (2, .int v2)]) hx hb dX11_leaves_14 rfl hl (by decide) rfl (fun ls hl => ?_)
  refine z_aload_n hx hb dX11_leaves_15 rfl (zl_at hl 1 rfl) ?_
  obtain ⟨k6, hp⟩ := ck_i hp
  refine r_get (ci := 12) (C := RX11) (T := TX11) (N := 32) (v := zr (aR h4 v0 3)) hx hb hm ii_X11 hown hK hR rfl k6 3 (by decide) (hm _ mw_985) (fun _ h9 => h9) rfl dX11_leaves_16 ?_
  refine lv_iload_n hx hb dX11_leaves_19 rfl (zl_at hl 2 rfl) ?_
  obtain ⟨k7, hp⟩ := ck_i hp
  refine r_iald hx hb hK hR k7.1 k7.2 dX11_leaves_20 ?_
  refine lv_iconst (v := iI 1) hx hb dX11_leaves_21 rfl ?_
  refine lv_isub hx hb dX11_leaves_22 ?_
  refine lv_topi (fun x9 ex9 => ?_)
  replace hp := nm_i hp ex9
  refine z_istore (lv' := [(4, .int x9), (3, .int x5), (0, zr v0), (1, .int v1), (2, .int v2)]) hx hb dX11_leaves_23 hl (by decide) rfl (fun ls hl => ?_)
  exact s_X11_leaves_25 C  _ _ _ _ _ _ _ _ _ _ _ _ hR hL (zl_sub hl [2, 3, 4, 1, 0] rfl) hp
def p_X11_leaves (v0 : Nat) (v1 : Int32) (v2 : Int32) (h : AH) : Option (Unit × AH) := ck (v0 ≠ 0) <| p_X11_leaves_0 v0 v1 v2 h
theorem c_X11_leaves (l : Launch) (G : GG) (v0 : Nat) (v1 : Int32) (v2 : Int32) (h : AH) (r : Unit) (h' : AH) (hp : p_X11_leaves v0 v1 v2 h = some (r, h')) : Ct l yX11_leaves (.code yX11_leaves cX11_leaves 6 none :: MW) G 2 63 [.ref (v0 - 1), .int v1, .int v2] h (none) h' := by
  obtain ⟨hz0, hp⟩ := ck_i hp
  refine Ct.of (by decide +kernel) (Nat.le_of_ble_eq_true rfl) ?_
  intro p e s m args below meth c C hR ls hl
  have hl : zl ls 6 [(0, zr v0), (1, .int v1), (2, .int v2)] := ⟨by rw [zr_p hz0]; exact hl, by simp [zr_cat, in_cat]⟩
  exact s_X11_leaves_0 C hR (fun _ hq => nomatch hq) hl hp
/-! CursorKeepModel.keeps(II)V -/
def p_X11_keeps_0  (v0 : Nat) (v1 : Int32) (v2 : Int32) (h : AH) : Option (Unit × AH) :=
  ck (aK h v0 = 13) <|
  ck (aK h v0 = 13) <|
  ck (aK h (aR h v0 7) = 20 ∧ ix v1 (aN h (aR h v0 7))) <|
  ck (aK h (aR h v0 6) = 20 ∧ ix (((iI 600) * v1) + (aI h (aR h v0 7) v1.toNatClampNeg)) (aN h (aR h v0 6))) <|
  nm (uI h (aR h v0 6) (((iI 600) * v1) + (aI h (aR h v0 7) v1.toNatClampNeg)).toNatClampNeg v2) fun h7 =>
  ck (aK h7 v0 = 13) <|
  ck (aK h7 (aR h7 v0 7) = 20 ∧ ix v1 (aN h7 (aR h7 v0 7))) <|
  ck (aK h7 (aR h7 v0 7) = 20 ∧ ix v1 (aN h7 (aR h7 v0 7))) <|
  nm (uI h7 (aR h7 v0 7) v1.toNatClampNeg ((aI h7 (aR h7 v0 7) v1.toNatClampNeg) + (iI 1))) fun h13 =>
  ck (aK h13 v0 = 13) <|
  ck (aK h13 (aR h13 v0 8) = 20 ∧ ix v1 (aN h13 (aR h13 v0 8))) <|
  nm (uI h13 (aR h13 v0 8) v1.toNatClampNeg (iI 0)) fun h17 =>
  some ((), h17)
set_option maxHeartbeats 4000000 in
set_option maxRecDepth 100000 in
theorem s_X11_keeps_0 {p : Program} {l : Launch} {e : Env} {s : State} {m : MethodId} {args : Array Value} {below : List Frame} {meth : Method} {c : Code} {G : GG} {hs : AH} {r : Unit} {h' : AH} (C : Cx G hs p s m args meth c cX11_keeps 3 RX11 (.code yX11_keeps cX11_keeps 3 none :: MW) none "keeps")   {v0 : Nat} {v1 : Int32} {v2 : Int32} {h : AH} {H : Heap} {locs : List Loc} {cells slots : Nat} {ls : Array Slot} (hR : Rp G h H) (hL : ∀ q ∈ locs, gB G ≤ q.base) (hl : zl ls 3 [(0, zr v0), (1, .int v1), (2, .int v2)]) (hp : p_X11_keeps_0  v0 v1 v2 h = some (r, h')) : W p l e (gR G hs 1 40) s m args below meth c H locs cells slots (MQ below (Qcc G (none) h') args s (gC G - aZ hs) (gS - aU hs) (fun q => gB G ≤ q)) (F0 m 0 ls []) := by
  obtain ⟨hx, hb, hml, hown, hts, hT, hK, rs, hlk, hret, hnm⟩ := id C
  have hm : ∀ w ∈ MW, w.before args s = true := fun w hw => hts w (hT w hw)
  unfold p_X11_keeps_0 at hp
  refine z_aload_n hx hb dX11_keeps_0 rfl (zl_at hl 0 rfl) ?_
  obtain ⟨k1, hp⟩ := ck_i hp
  refine r_get (ci := 12) (C := RX11) (T := TX11) (N := 32) (v := zr (aR h v0 6)) hx hb hm ii_X11 hown hK hR rfl k1 6 (by decide) (hm _ mw_988) (fun _ h9 => h9) rfl dX11_keeps_1 ?_
  refine lv_sipush (v := iI 600) hx hb dX11_keeps_4 (by decide +kernel) ?_
  refine lv_iload_n hx hb dX11_keeps_7 rfl (zl_at hl 1 rfl) ?_
  refine lv_imul hx hb dX11_keeps_8 ?_
  refine z_aload_n hx hb dX11_keeps_9 rfl (zl_at hl 0 rfl) ?_
  obtain ⟨k2, hp⟩ := ck_i hp
  refine r_get (ci := 12) (C := RX11) (T := TX11) (N := 32) (v := zr (aR h v0 7)) hx hb hm ii_X11 hown hK hR rfl k2 7 (by decide) (hm _ mw_989) (fun _ h9 => h9) rfl dX11_keeps_10 ?_
  refine lv_iload_n hx hb dX11_keeps_13 rfl (zl_at hl 1 rfl) ?_
  obtain ⟨k3, hp⟩ := ck_i hp
  refine r_iald hx hb hK hR k3.1 k3.2 dX11_keeps_14 ?_
  refine lv_iadd hx hb dX11_keeps_15 ?_
  refine lv_iload_n hx hb dX11_keeps_16 rfl (zl_at hl 2 rfl) ?_
  obtain ⟨k5, hp⟩ := ck_i hp
  refine r_iast hx hb hK hR hL k5.1 k5.2 dX11_keeps_17 (fun H locs hR hL => ?_)
  obtain ⟨h7, hp, hR⟩ := nm_h hp hR
  refine z_aload_n hx hb dX11_keeps_18 rfl (zl_at hl 0 rfl) ?_
  obtain ⟨k8, hp⟩ := ck_i hp
  refine r_get (ci := 12) (C := RX11) (T := TX11) (N := 32) (v := zr (aR h7 v0 7)) hx hb hm ii_X11 hown hK hR rfl k8 7 (by decide) (hm _ mw_989) (fun _ h9 => h9) rfl dX11_keeps_19 ?_
  refine lv_iload_n hx hb dX11_keeps_22 rfl (zl_at hl 1 rfl) ?_
  refine lv_dup2_11 hx hb dX11_keeps_23 rfl (zr_cat _) ?_
  obtain ⟨k9, hp⟩ := ck_i hp
  refine r_iald hx hb hK hR k9.1 k9.2 dX11_keeps_24 ?_
  refine lv_iconst (v := iI 1) hx hb dX11_keeps_25 rfl ?_
  refine lv_iadd hx hb dX11_keeps_26 ?_
  obtain ⟨k11, hp⟩ := ck_i hp
  refine r_iast hx hb hK hR hL k11.1 k11.2 dX11_keeps_27 (fun H locs hR hL => ?_)
  obtain ⟨h13, hp, hR⟩ := nm_h hp hR
  refine z_aload_n hx hb dX11_keeps_28 rfl (zl_at hl 0 rfl) ?_
  obtain ⟨k14, hp⟩ := ck_i hp
  refine r_get (ci := 12) (C := RX11) (T := TX11) (N := 32) (v := zr (aR h13 v0 8)) hx hb hm ii_X11 hown hK hR rfl k14 8 (by decide) (hm _ mw_990) (fun _ h9 => h9) rfl dX11_keeps_29 ?_
  refine lv_iload_n hx hb dX11_keeps_32 rfl (zl_at hl 1 rfl) ?_
  refine lv_iconst (v := iI 0) hx hb dX11_keeps_33 rfl ?_
  obtain ⟨k15, hp⟩ := ck_i hp
  refine r_iast hx hb hK hR hL k15.1 k15.2 dX11_keeps_34 (fun H locs hR hL => ?_)
  obtain ⟨h17, hp, hR⟩ := nm_h hp hR
  cases hp
  exact r_vret C hR hL dX11_keeps_35
def p_X11_keeps (v0 : Nat) (v1 : Int32) (v2 : Int32) (h : AH) : Option (Unit × AH) := ck (v0 ≠ 0) <| p_X11_keeps_0 v0 v1 v2 h
theorem c_X11_keeps (l : Launch) (G : GG) (v0 : Nat) (v1 : Int32) (v2 : Int32) (h : AH) (r : Unit) (h' : AH) (hp : p_X11_keeps v0 v1 v2 h = some (r, h')) : Ct l yX11_keeps (.code yX11_keeps cX11_keeps 3 none :: MW) G 1 40 [.ref (v0 - 1), .int v1, .int v2] h (none) h' := by
  obtain ⟨hz0, hp⟩ := ck_i hp
  refine Ct.of (by decide +kernel) (Nat.le_of_ble_eq_true rfl) ?_
  intro p e s m args below meth c C hR ls hl
  have hl : zl ls 3 [(0, zr v0), (1, .int v1), (2, .int v2)] := ⟨by rw [zr_p hz0]; exact hl, by simp [zr_cat, in_cat]⟩
  exact s_X11_keeps_0 C hR (fun _ hq => nomatch hq) hl hp
/-! CursorKeepModel.isLetter(I)Z -/
def p_X11_isLetter_53  (s0 : Int32) (h : AH) : Option (Int32 × AH) :=
  ck (okZ s0) <|
  some (s0, h)
set_option maxHeartbeats 4000000 in
set_option maxRecDepth 100000 in
theorem s_X11_isLetter_53 {p : Program} {l : Launch} {e : Env} {s : State} {m : MethodId} {args : Array Value} {below : List Frame} {meth : Method} {c : Code} {G : GG} {hs : AH} {r : Int32} {h' : AH} (C : Cx G hs p s m args meth c cX11_isLetter 1 RX11 (.code yX11_isLetter cX11_isLetter 1 (some .boolean) :: MW) (some .boolean) "isLetter")   {s0 : Int32} {h : AH} {H : Heap} {locs : List Loc} {cells slots : Nat} {ls : Array Slot} (hR : Rp G h H) (hL : ∀ q ∈ locs, gB G ≤ q.base) (hl : zl ls 1 []) (hp : p_X11_isLetter_53  s0 h = some (r, h')) : W p l e (gR G hs 1 40) s m args below meth c H locs cells slots (MQ below (Qcc G (some (.int r)) h') args s (gC G - aZ hs) (gS - aU hs) (fun q => gB G ≤ q)) (F0 m 53 ls [.int s0]) := by
  obtain ⟨hx, hb, hml, hown, hts, hT, hK, rs, hlk, hret, hnm⟩ := id C
  have hm : ∀ w ∈ MW, w.before args s = true := fun w hw => hts w (hT w hw)
  unfold p_X11_isLetter_53 at hp
  obtain ⟨k1, hp⟩ := ck_i hp
  cases hp
  exact r_zret C hR hL (okZ_n k1) dX11_isLetter_53
def p_X11_isLetter_48   (h : AH) : Option (Int32 × AH) :=
  p_X11_isLetter_53  (iI 1) h
set_option maxHeartbeats 4000000 in
set_option maxRecDepth 100000 in
theorem s_X11_isLetter_48 {p : Program} {l : Launch} {e : Env} {s : State} {m : MethodId} {args : Array Value} {below : List Frame} {meth : Method} {c : Code} {G : GG} {hs : AH} {r : Int32} {h' : AH} (C : Cx G hs p s m args meth c cX11_isLetter 1 RX11 (.code yX11_isLetter cX11_isLetter 1 (some .boolean) :: MW) (some .boolean) "isLetter")    {h : AH} {H : Heap} {locs : List Loc} {cells slots : Nat} {ls : Array Slot} (hR : Rp G h H) (hL : ∀ q ∈ locs, gB G ≤ q.base) (hl : zl ls 1 []) (hp : p_X11_isLetter_48   h = some (r, h')) : W p l e (gR G hs 1 40) s m args below meth c H locs cells slots (MQ below (Qcc G (some (.int r)) h') args s (gC G - aZ hs) (gS - aU hs) (fun q => gB G ≤ q)) (F0 m 48 ls []) := by
  obtain ⟨hx, hb, hml, hown, hts, hT, hK, rs, hlk, hret, hnm⟩ := id C
  have hm : ∀ w ∈ MW, w.before args s = true := fun w hw => hts w (hT w hw)
  unfold p_X11_isLetter_48 at hp
  refine lv_iconst (v := iI 1) hx hb dX11_isLetter_48 rfl ?_
  refine lv_goto (tgt := 53) hx hb dX11_isLetter_49 (by decide) ?_
  exact s_X11_isLetter_53 C  hR hL (zl_sub hl [] rfl) hp
def p_X11_isLetter_36  (v0 : Int32) (h : AH) : Option (Int32 × AH) :=
  if v0 = (iI 32) then
    p_X11_isLetter_48   h
  else
    if v0 = (iI 47) then
      p_X11_isLetter_48   h
    else
      p_X11_isLetter_53  (iI 0) h
set_option maxHeartbeats 4000000 in
set_option maxRecDepth 100000 in
theorem s_X11_isLetter_36 {p : Program} {l : Launch} {e : Env} {s : State} {m : MethodId} {args : Array Value} {below : List Frame} {meth : Method} {c : Code} {G : GG} {hs : AH} {r : Int32} {h' : AH} (C : Cx G hs p s m args meth c cX11_isLetter 1 RX11 (.code yX11_isLetter cX11_isLetter 1 (some .boolean) :: MW) (some .boolean) "isLetter")   {v0 : Int32} {h : AH} {H : Heap} {locs : List Loc} {cells slots : Nat} {ls : Array Slot} (hR : Rp G h H) (hL : ∀ q ∈ locs, gB G ≤ q.base) (hl : zl ls 1 [(0, .int v0)]) (hp : p_X11_isLetter_36  v0 h = some (r, h')) : W p l e (gR G hs 1 40) s m args below meth c H locs cells slots (MQ below (Qcc G (some (.int r)) h') args s (gC G - aZ hs) (gS - aU hs) (fun q => gB G ≤ q)) (F0 m 36 ls []) := by
  obtain ⟨hx, hb, hml, hown, hts, hT, hK, rs, hlk, hret, hnm⟩ := id C
  have hm : ∀ w ∈ MW, w.before args s = true := fun w hw => hts w (hT w hw)
  unfold p_X11_isLetter_36 at hp
  refine lv_iload_n hx hb dX11_isLetter_36 rfl (zl_at hl 0 rfl) ?_
  refine lv_bipush (v := iI 32) hx hb dX11_isLetter_37 (by decide +kernel) ?_
  refine lv_icmp_eq (tgt := 48) hx hb dX11_isLetter_39 (by decide) (fun c1 => ?_) (fun c1 => ?_)
  · replace hp := ite_p hp c1
    exact s_X11_isLetter_48 C  hR hL (zl_sub hl [] rfl) hp
  · replace hp := ite_n hp c1
    refine lv_iload_n hx hb dX11_isLetter_42 rfl (zl_at hl 0 rfl) ?_
    refine lv_bipush (v := iI 47) hx hb dX11_isLetter_43 (by decide +kernel) ?_
    refine lv_icmp_ne (tgt := 52) hx hb dX11_isLetter_45 (by decide) (fun c2 => ?_) (fun c2 => ?_)
    · replace hp := ite_n hp c2
      refine lv_iconst (v := iI 0) hx hb dX11_isLetter_52 rfl ?_
      exact s_X11_isLetter_53 C  hR hL (zl_sub hl [] rfl) hp
    · replace hp := ite_p hp c2
      exact s_X11_isLetter_48 C  hR hL (zl_sub hl [] rfl) hp
def p_X11_isLetter_24  (v0 : Int32) (h : AH) : Option (Int32 × AH) :=
  if v0 < (iI 48) then
    p_X11_isLetter_36  v0 h
  else
    if v0 ≤ (iI 57) then
      p_X11_isLetter_48   h
    else
      p_X11_isLetter_36  v0 h
set_option maxHeartbeats 4000000 in
set_option maxRecDepth 100000 in
theorem s_X11_isLetter_24 {p : Program} {l : Launch} {e : Env} {s : State} {m : MethodId} {args : Array Value} {below : List Frame} {meth : Method} {c : Code} {G : GG} {hs : AH} {r : Int32} {h' : AH} (C : Cx G hs p s m args meth c cX11_isLetter 1 RX11 (.code yX11_isLetter cX11_isLetter 1 (some .boolean) :: MW) (some .boolean) "isLetter")   {v0 : Int32} {h : AH} {H : Heap} {locs : List Loc} {cells slots : Nat} {ls : Array Slot} (hR : Rp G h H) (hL : ∀ q ∈ locs, gB G ≤ q.base) (hl : zl ls 1 [(0, .int v0)]) (hp : p_X11_isLetter_24  v0 h = some (r, h')) : W p l e (gR G hs 1 40) s m args below meth c H locs cells slots (MQ below (Qcc G (some (.int r)) h') args s (gC G - aZ hs) (gS - aU hs) (fun q => gB G ≤ q)) (F0 m 24 ls []) := by
  obtain ⟨hx, hb, hml, hown, hts, hT, hK, rs, hlk, hret, hnm⟩ := id C
  have hm : ∀ w ∈ MW, w.before args s = true := fun w hw => hts w (hT w hw)
  unfold p_X11_isLetter_24 at hp
  refine lv_iload_n hx hb dX11_isLetter_24 rfl (zl_at hl 0 rfl) ?_
  refine lv_bipush (v := iI 48) hx hb dX11_isLetter_25 (by decide +kernel) ?_
  refine lv_icmp_lt (tgt := 36) hx hb dX11_isLetter_27 (by decide) (fun c1 => ?_) (fun c1 => ?_)
  · replace hp := ite_p hp c1
    exact s_X11_isLetter_36 C  hR hL (zl_sub hl [0] rfl) hp
  · replace hp := ite_n hp c1
    refine lv_iload_n hx hb dX11_isLetter_30 rfl (zl_at hl 0 rfl) ?_
    refine lv_bipush (v := iI 57) hx hb dX11_isLetter_31 (by decide +kernel) ?_
    refine lv_icmp_le (tgt := 48) hx hb dX11_isLetter_33 (by decide) (fun c2 => ?_) (fun c2 => ?_)
    · replace hp := ite_p hp c2
      exact s_X11_isLetter_48 C  hR hL (zl_sub hl [] rfl) hp
    · replace hp := ite_n hp c2
      exact s_X11_isLetter_36 C  hR hL (zl_sub hl [0] rfl) hp
def p_X11_isLetter_12  (v0 : Int32) (h : AH) : Option (Int32 × AH) :=
  if v0 < (iI 65) then
    p_X11_isLetter_24  v0 h
  else
    if v0 ≤ (iI 90) then
      p_X11_isLetter_48   h
    else
      p_X11_isLetter_24  v0 h
set_option maxHeartbeats 4000000 in
set_option maxRecDepth 100000 in
theorem s_X11_isLetter_12 {p : Program} {l : Launch} {e : Env} {s : State} {m : MethodId} {args : Array Value} {below : List Frame} {meth : Method} {c : Code} {G : GG} {hs : AH} {r : Int32} {h' : AH} (C : Cx G hs p s m args meth c cX11_isLetter 1 RX11 (.code yX11_isLetter cX11_isLetter 1 (some .boolean) :: MW) (some .boolean) "isLetter")   {v0 : Int32} {h : AH} {H : Heap} {locs : List Loc} {cells slots : Nat} {ls : Array Slot} (hR : Rp G h H) (hL : ∀ q ∈ locs, gB G ≤ q.base) (hl : zl ls 1 [(0, .int v0)]) (hp : p_X11_isLetter_12  v0 h = some (r, h')) : W p l e (gR G hs 1 40) s m args below meth c H locs cells slots (MQ below (Qcc G (some (.int r)) h') args s (gC G - aZ hs) (gS - aU hs) (fun q => gB G ≤ q)) (F0 m 12 ls []) := by
  obtain ⟨hx, hb, hml, hown, hts, hT, hK, rs, hlk, hret, hnm⟩ := id C
  have hm : ∀ w ∈ MW, w.before args s = true := fun w hw => hts w (hT w hw)
  unfold p_X11_isLetter_12 at hp
  refine lv_iload_n hx hb dX11_isLetter_12 rfl (zl_at hl 0 rfl) ?_
  refine lv_bipush (v := iI 65) hx hb dX11_isLetter_13 (by decide +kernel) ?_
  refine lv_icmp_lt (tgt := 24) hx hb dX11_isLetter_15 (by decide) (fun c1 => ?_) (fun c1 => ?_)
  · replace hp := ite_p hp c1
    exact s_X11_isLetter_24 C  hR hL (zl_sub hl [0] rfl) hp
  · replace hp := ite_n hp c1
    refine lv_iload_n hx hb dX11_isLetter_18 rfl (zl_at hl 0 rfl) ?_
    refine lv_bipush (v := iI 90) hx hb dX11_isLetter_19 (by decide +kernel) ?_
    refine lv_icmp_le (tgt := 48) hx hb dX11_isLetter_21 (by decide) (fun c2 => ?_) (fun c2 => ?_)
    · replace hp := ite_p hp c2
      exact s_X11_isLetter_48 C  hR hL (zl_sub hl [] rfl) hp
    · replace hp := ite_n hp c2
      exact s_X11_isLetter_24 C  hR hL (zl_sub hl [0] rfl) hp
def p_X11_isLetter_0  (v0 : Int32) (h : AH) : Option (Int32 × AH) :=
  if v0 < (iI 97) then
    p_X11_isLetter_12  v0 h
  else
    if v0 ≤ (iI 122) then
      p_X11_isLetter_48   h
    else
      p_X11_isLetter_12  v0 h
set_option maxHeartbeats 4000000 in
set_option maxRecDepth 100000 in
theorem s_X11_isLetter_0 {p : Program} {l : Launch} {e : Env} {s : State} {m : MethodId} {args : Array Value} {below : List Frame} {meth : Method} {c : Code} {G : GG} {hs : AH} {r : Int32} {h' : AH} (C : Cx G hs p s m args meth c cX11_isLetter 1 RX11 (.code yX11_isLetter cX11_isLetter 1 (some .boolean) :: MW) (some .boolean) "isLetter")   {v0 : Int32} {h : AH} {H : Heap} {locs : List Loc} {cells slots : Nat} {ls : Array Slot} (hR : Rp G h H) (hL : ∀ q ∈ locs, gB G ≤ q.base) (hl : zl ls 1 [(0, .int v0)]) (hp : p_X11_isLetter_0  v0 h = some (r, h')) : W p l e (gR G hs 1 40) s m args below meth c H locs cells slots (MQ below (Qcc G (some (.int r)) h') args s (gC G - aZ hs) (gS - aU hs) (fun q => gB G ≤ q)) (F0 m 0 ls []) := by
  obtain ⟨hx, hb, hml, hown, hts, hT, hK, rs, hlk, hret, hnm⟩ := id C
  have hm : ∀ w ∈ MW, w.before args s = true := fun w hw => hts w (hT w hw)
  unfold p_X11_isLetter_0 at hp
  refine lv_iload_n hx hb dX11_isLetter_0 rfl (zl_at hl 0 rfl) ?_
  refine lv_bipush (v := iI 97) hx hb dX11_isLetter_1 (by decide +kernel) ?_
  refine lv_icmp_lt (tgt := 12) hx hb dX11_isLetter_3 (by decide) (fun c1 => ?_) (fun c1 => ?_)
  · replace hp := ite_p hp c1
    exact s_X11_isLetter_12 C  hR hL (zl_sub hl [0] rfl) hp
  · replace hp := ite_n hp c1
    refine lv_iload_n hx hb dX11_isLetter_6 rfl (zl_at hl 0 rfl) ?_
    refine lv_bipush (v := iI 122) hx hb dX11_isLetter_7 (by decide +kernel) ?_
    refine lv_icmp_le (tgt := 48) hx hb dX11_isLetter_9 (by decide) (fun c2 => ?_) (fun c2 => ?_)
    · replace hp := ite_p hp c2
      exact s_X11_isLetter_48 C  hR hL (zl_sub hl [] rfl) hp
    · replace hp := ite_n hp c2
      exact s_X11_isLetter_12 C  hR hL (zl_sub hl [0] rfl) hp
def p_X11_isLetter (v0 : Int32) (h : AH) : Option (Int32 × AH) := p_X11_isLetter_0 v0 h
theorem c_X11_isLetter (l : Launch) (G : GG) (v0 : Int32) (h : AH) (r : Int32) (h' : AH) (hp : p_X11_isLetter v0 h = some (r, h')) : Ct l yX11_isLetter (.code yX11_isLetter cX11_isLetter 1 (some .boolean) :: MW) G 1 40 [.int v0] h (some (.int r)) h' := by
  refine Ct.of (by decide +kernel) (Nat.le_of_ble_eq_true rfl) ?_
  intro p e s m args below meth c C hR ls hl
  have hl : zl ls 1 [(0, .int v0)] := ⟨hl, by simp [zr_cat, in_cat]⟩
  exact s_X11_isLetter_0 C hR (fun _ hq => nomatch hq) hl hp
/-! CursorKeepModel.type(IIC)I -/
def p_X11_type_69  : Nat → Nat → Int32 → Int32 → Int32 → Int32 → Int32 → AH → Option (Int32 × AH)
  | 0, _, _, _, _, _, _, _ => none
  | n + 1, v0, v1, v2, v3, v5, v6, h =>
    if v6 ≤ v5 then
      ck (aK h v0 = 13) <|
      ck (aK h v0 = 13) <|
      ck (aK h (aR h v0 3) = 20 ∧ ix v2 (aN h (aR h v0 3))) <|
      ck (aK h (aR h v0 0) = 20 ∧ ix (((iI 150) * v2) + v5) (aN h (aR h v0 0))) <|
      nm (uI h (aR h v0 0) (((iI 150) * v2) + v5).toNatClampNeg (aI h (aR h v0 3) v2.toNatClampNeg)) fun h8 =>
      ck (aK h8 v0 = 13) <|
      ck (aK h8 v0 = 13) <|
      ck (aK h8 (aR h8 v0 3) = 20 ∧ ix v2 (aN h8 (aR h8 v0 3))) <|
      ck (aK h8 (aR h8 v0 1) = 20 ∧ ix (((iI 150) * v2) + (aI h8 (aR h8 v0 3) v2.toNatClampNeg)) (aN h8 (aR h8 v0 1))) <|
      nm (uI h8 (aR h8 v0 1) (((iI 150) * v2) + (aI h8 (aR h8 v0 3) v2.toNatClampNeg)).toNatClampNeg v3) fun h15 =>
      ck (aK h15 v0 = 13) <|
      ck (aK h15 v0 = 13) <|
      ck (aK h15 (aR h15 v0 3) = 20 ∧ ix v2 (aN h15 (aR h15 v0 3))) <|
      ck (aK h15 (aR h15 v0 2) = 22 ∧ ix (((iI 150) * v2) + (aI h15 (aR h15 v0 3) v2.toNatClampNeg)) (aN h15 (aR h15 v0 2))) <|
      nm (uI h15 (aR h15 v0 2) (((iI 150) * v2) + (aI h15 (aR h15 v0 3) v2.toNatClampNeg)).toNatClampNeg (nZ (iI 1))) fun h22 =>
      ck (aK h22 v0 = 13) <|
      ck (aK h22 (aR h22 v0 3) = 20 ∧ ix v2 (aN h22 (aR h22 v0 3))) <|
      ck (aK h22 v0 = 13) <|
      bR (p_X11_keeps v0 v1 (((iI 1000) * v2) + (aI h22 (aR h22 v0 3) v2.toNatClampNeg)) h22) fun r27 h28 =>
      ck (aK h28 v0 = 13) <|
      ck (aK h28 (aR h28 v0 3) = 20 ∧ ix v2 (aN h28 (aR h28 v0 3))) <|
      ck (aK h28 (aR h28 v0 3) = 20 ∧ ix v2 (aN h28 (aR h28 v0 3))) <|
      nm (uI h28 (aR h28 v0 3) v2.toNatClampNeg ((aI h28 (aR h28 v0 3) v2.toNatClampNeg) + (iI 1))) fun h34 =>
      ck (aK h34 v0 = 13) <|
      ck (aK h34 (aR h34 v0 4) = 20 ∧ ix v2 (aN h34 (aR h34 v0 4))) <|
      ck (aK h34 (aR h34 v0 4) = 20 ∧ ix v2 (aN h34 (aR h34 v0 4))) <|
      nm (uI h34 (aR h34 v0 4) v2.toNatClampNeg ((aI h34 (aR h34 v0 4) v2.toNatClampNeg) + (iI 1))) fun h40 =>
      ck (aK h40 v0 = 13) <|
      bR (p_X11_placeOf v0 v1 v2 h40) fun r42 h43 =>
      some (r42, h43)
    else
      ck (aK h v0 = 13) <|
      ck (aK h v0 = 13) <|
      ck (aK h (aR h v0 0) = 20 ∧ ix ((((iI 150) * v2) + v6) - (iI 1)) (aN h (aR h v0 0))) <|
      ck (aK h (aR h v0 0) = 20 ∧ ix (((iI 150) * v2) + v6) (aN h (aR h v0 0))) <|
      nm (uI h (aR h v0 0) (((iI 150) * v2) + v6).toNatClampNeg (aI h (aR h v0 0) ((((iI 150) * v2) + v6) - (iI 1)).toNatClampNeg)) fun h50 =>
      nm (v6 + iI (-1)) fun (x51 : Int32) =>
      p_X11_type_69  n v0 v1 v2 v3 v5 x51 h50
set_option maxHeartbeats 4000000 in
set_option maxRecDepth 100000 in
theorem s_X11_type_69 {p : Program} {l : Launch} {e : Env} {s : State} {m : MethodId} {args : Array Value} {below : List Frame} {meth : Method} {c : Code} {G : GG} {hs : AH} {r : Int32} {h' : AH} (C : Cx G hs p s m args meth c cX11_type 7 RX11 (.code yX11_type cX11_type 7 (some .int) :: MW) (some .int) "type")   : ∀ (n : Nat) (v0 : Nat) (v1 : Int32) (v2 : Int32) (v3 : Int32) (v5 : Int32) (v6 : Int32) (h : AH) (H : Heap) (locs : List Loc) (cells slots : Nat) (ls : Array Slot) (hR : Rp G h H) (hL : ∀ q ∈ locs, gB G ≤ q.base) (hl : zl ls 7 [(0, zr v0), (1, .int v1), (2, .int v2), (3, .int v3), (5, .int v5), (6, .int v6)]) (hp : p_X11_type_69  n v0 v1 v2 v3 v5 v6 h = some (r, h')), W p l e (gR G hs 3 88) s m args below meth c H locs cells slots (MQ below (Qcc G (some (.int r)) h') args s (gC G - aZ hs) (gS - aU hs) (fun q => gB G ≤ q)) (F0 m 69 ls []) := by
  obtain ⟨hx, hb, hml, hown, hts, hT, hK, rs, hlk, hret, hnm⟩ := id C
  have hm : ∀ w ∈ MW, w.before args s = true := fun w hw => hts w (hT w hw)
  intro n
  induction n with
  | zero =>
    intro v0 v1 v2 v3 v5 v6 h H locs cells slots ls hR hL hl hp
    exact absurd (show none = some (r, h') from hp) (by simp)
  | succ n ih =>
    intro v0 v1 v2 v3 v5 v6 h H locs cells slots ls hR hL hl hp
    rw [p_X11_type_69.eq_2] at hp
    refine lv_iload hx hb dX11_type_69 (zl_at hl 5 rfl) ?_
    refine lv_iload hx hb dX11_type_71 (zl_at hl 4 rfl) ?_
    refine lv_icmp_le (tgt := 110) hx hb dX11_type_73 (by decide) (fun c1 => ?_) (fun c1 => ?_)
    · replace hp := ite_p hp c1
      refine z_aload_n hx hb dX11_type_110 rfl (zl_at hl 0 rfl) ?_
      obtain ⟨k2, hp⟩ := ck_i hp
      refine r_get (ci := 12) (C := RX11) (T := TX11) (N := 32) (v := zr (aR h v0 0)) hx hb hm ii_X11 hown hK hR rfl k2 0 (by decide) (hm _ mw_982) (fun _ h9 => h9) rfl dX11_type_111 ?_
      refine lv_sipush (v := iI 150) hx hb dX11_type_114 (by decide +kernel) ?_
      refine lv_iload_n hx hb dX11_type_117 rfl (zl_at hl 2 rfl) ?_
      refine lv_imul hx hb dX11_type_118 ?_
      refine lv_iload hx hb dX11_type_119 (zl_at hl 4 rfl) ?_
      refine lv_iadd hx hb dX11_type_121 ?_
      refine z_aload_n hx hb dX11_type_122 rfl (zl_at hl 0 rfl) ?_
      obtain ⟨k3, hp⟩ := ck_i hp
      refine r_get (ci := 12) (C := RX11) (T := TX11) (N := 32) (v := zr (aR h v0 3)) hx hb hm ii_X11 hown hK hR rfl k3 3 (by decide) (hm _ mw_985) (fun _ h9 => h9) rfl dX11_type_123 ?_
      refine lv_iload_n hx hb dX11_type_126 rfl (zl_at hl 2 rfl) ?_
      obtain ⟨k4, hp⟩ := ck_i hp
      refine r_iald hx hb hK hR k4.1 k4.2 dX11_type_127 ?_
      obtain ⟨k6, hp⟩ := ck_i hp
      refine r_iast hx hb hK hR hL k6.1 k6.2 dX11_type_128 (fun H locs hR hL => ?_)
      obtain ⟨h8, hp, hR⟩ := nm_h hp hR
      refine z_aload_n hx hb dX11_type_129 rfl (zl_at hl 0 rfl) ?_
      obtain ⟨k9, hp⟩ := ck_i hp
      refine r_get (ci := 12) (C := RX11) (T := TX11) (N := 32) (v := zr (aR h8 v0 1)) hx hb hm ii_X11 hown hK hR rfl k9 1 (by decide) (hm _ mw_983) (fun _ h9 => h9) rfl dX11_type_130 ?_
      refine lv_sipush (v := iI 150) hx hb dX11_type_133 (by decide +kernel) ?_
      refine lv_iload_n hx hb dX11_type_136 rfl (zl_at hl 2 rfl) ?_
      refine lv_imul hx hb dX11_type_137 ?_
      refine z_aload_n hx hb dX11_type_138 rfl (zl_at hl 0 rfl) ?_
      obtain ⟨k10, hp⟩ := ck_i hp
      refine r_get (ci := 12) (C := RX11) (T := TX11) (N := 32) (v := zr (aR h8 v0 3)) hx hb hm ii_X11 hown hK hR rfl k10 3 (by decide) (hm _ mw_985) (fun _ h9 => h9) rfl dX11_type_139 ?_
      refine lv_iload_n hx hb dX11_type_142 rfl (zl_at hl 2 rfl) ?_
      obtain ⟨k11, hp⟩ := ck_i hp
      refine r_iald hx hb hK hR k11.1 k11.2 dX11_type_143 ?_
      refine lv_iadd hx hb dX11_type_144 ?_
      refine lv_iload_n hx hb dX11_type_145 rfl (zl_at hl 3 rfl) ?_
      obtain ⟨k13, hp⟩ := ck_i hp
      refine r_iast hx hb hK hR hL k13.1 k13.2 dX11_type_146 (fun H locs hR hL => ?_)
      obtain ⟨h15, hp, hR⟩ := nm_h hp hR
      refine z_aload_n hx hb dX11_type_147 rfl (zl_at hl 0 rfl) ?_
      obtain ⟨k16, hp⟩ := ck_i hp
      refine r_get (ci := 12) (C := RX11) (T := TX11) (N := 32) (v := zr (aR h15 v0 2)) hx hb hm ii_X11 hown hK hR rfl k16 2 (by decide) (hm _ mw_984) (fun _ h9 => h9) rfl dX11_type_148 ?_
      refine lv_sipush (v := iI 150) hx hb dX11_type_151 (by decide +kernel) ?_
      refine lv_iload_n hx hb dX11_type_154 rfl (zl_at hl 2 rfl) ?_
      refine lv_imul hx hb dX11_type_155 ?_
      refine z_aload_n hx hb dX11_type_156 rfl (zl_at hl 0 rfl) ?_
      obtain ⟨k17, hp⟩ := ck_i hp
      refine r_get (ci := 12) (C := RX11) (T := TX11) (N := 32) (v := zr (aR h15 v0 3)) hx hb hm ii_X11 hown hK hR rfl k17 3 (by decide) (hm _ mw_985) (fun _ h9 => h9) rfl dX11_type_157 ?_
      refine lv_iload_n hx hb dX11_type_160 rfl (zl_at hl 2 rfl) ?_
      obtain ⟨k18, hp⟩ := ck_i hp
      refine r_iald hx hb hK hR k18.1 k18.2 dX11_type_161 ?_
      refine lv_iadd hx hb dX11_type_162 ?_
      refine lv_iconst (v := iI 1) hx hb dX11_type_163 rfl ?_
      obtain ⟨k20, hp⟩ := ck_i hp
      refine r_zast hx hb hK hR hL k20.1 k20.2 dX11_type_164 (fun H locs hR hL => ?_)
      obtain ⟨h22, hp, hR⟩ := nm_h hp hR
      refine z_aload_n hx hb dX11_type_165 rfl (zl_at hl 0 rfl) ?_
      refine lv_iload_n hx hb dX11_type_166 rfl (zl_at hl 1 rfl) ?_
      refine lv_sipush (v := iI 1000) hx hb dX11_type_167 (by decide +kernel) ?_
      refine lv_iload_n hx hb dX11_type_170 rfl (zl_at hl 2 rfl) ?_
      refine lv_imul hx hb dX11_type_171 ?_
      refine z_aload_n hx hb dX11_type_172 rfl (zl_at hl 0 rfl) ?_
      obtain ⟨k23, hp⟩ := ck_i hp
      refine r_get (ci := 12) (C := RX11) (T := TX11) (N := 32) (v := zr (aR h22 v0 3)) hx hb hm ii_X11 hown hK hR rfl k23 3 (by decide) (hm _ mw_985) (fun _ h9 => h9) rfl dX11_type_173 ?_
      refine lv_iload_n hx hb dX11_type_176 rfl (zl_at hl 2 rfl) ?_
      obtain ⟨k24, hp⟩ := ck_i hp
      refine r_iald hx hb hK hR k24.1 k24.2 dX11_type_177 ?_
      refine lv_iadd hx hb dX11_type_178 ?_
      obtain ⟨k26, hp⟩ := ck_i hp
      obtain ⟨r27, h28, er27, hp⟩ := bR_i hp
      refine r_callV (ci := 12) (r := (RX11, TX11, 32)) (n := 2) (As := [.int v1, .int (((iI 1000) * v2) + (aI h22 (aR h22 v0 3) v2.toNatClampNeg))]) (rest := []) C (c_X11_keeps l G v0 v1 (((iI 1000) * v2) + (aI h22 (aR h22 v0 3) v2.toNatClampNeg)) h22 r27 h28 er27) hR hL rfl k26 mw_1104 mw_1106 mp_21 mw_10 mw_1107 (by decide +kernel) (by decide) rfl (zl_size hl) rfl (by simp [zr_cat, in_cat]) dX11_type_179 (st2 := []) rfl (fun H locs cells slots hR hL => ?_)
      refine z_aload_n hx hb dX11_type_182 rfl (zl_at hl 0 rfl) ?_
      obtain ⟨k29, hp⟩ := ck_i hp
      refine r_get (ci := 12) (C := RX11) (T := TX11) (N := 32) (v := zr (aR h28 v0 3)) hx hb hm ii_X11 hown hK hR rfl k29 3 (by decide) (hm _ mw_985) (fun _ h9 => h9) rfl dX11_type_183 ?_
      refine lv_iload_n hx hb dX11_type_186 rfl (zl_at hl 2 rfl) ?_
      refine lv_dup2_11 hx hb dX11_type_187 rfl (zr_cat _) ?_
      obtain ⟨k30, hp⟩ := ck_i hp
      refine r_iald hx hb hK hR k30.1 k30.2 dX11_type_188 ?_
      refine lv_iconst (v := iI 1) hx hb dX11_type_189 rfl ?_
      refine lv_iadd hx hb dX11_type_190 ?_
      obtain ⟨k32, hp⟩ := ck_i hp
      refine r_iast hx hb hK hR hL k32.1 k32.2 dX11_type_191 (fun H locs hR hL => ?_)
      obtain ⟨h34, hp, hR⟩ := nm_h hp hR
      refine z_aload_n hx hb dX11_type_192 rfl (zl_at hl 0 rfl) ?_
      obtain ⟨k35, hp⟩ := ck_i hp
      refine r_get (ci := 12) (C := RX11) (T := TX11) (N := 32) (v := zr (aR h34 v0 4)) hx hb hm ii_X11 hown hK hR rfl k35 4 (by decide) (hm _ mw_986) (fun _ h9 => h9) rfl dX11_type_193 ?_
      refine lv_iload_n hx hb dX11_type_196 rfl (zl_at hl 2 rfl) ?_
      refine lv_dup2_11 hx hb dX11_type_197 rfl (zr_cat _) ?_
      obtain ⟨k36, hp⟩ := ck_i hp
      refine r_iald hx hb hK hR k36.1 k36.2 dX11_type_198 ?_
      refine lv_iconst (v := iI 1) hx hb dX11_type_199 rfl ?_
      refine lv_iadd hx hb dX11_type_200 ?_
      obtain ⟨k38, hp⟩ := ck_i hp
      refine r_iast hx hb hK hR hL k38.1 k38.2 dX11_type_201 (fun H locs hR hL => ?_)
      obtain ⟨h40, hp, hR⟩ := nm_h hp hR
      refine z_aload_n hx hb dX11_type_202 rfl (zl_at hl 0 rfl) ?_
      refine lv_iload_n hx hb dX11_type_203 rfl (zl_at hl 1 rfl) ?_
      refine lv_iload_n hx hb dX11_type_204 rfl (zl_at hl 2 rfl) ?_
      obtain ⟨k41, hp⟩ := ck_i hp
      obtain ⟨r42, h43, er42, hp⟩ := bR_i hp
      refine r_callV (ci := 12) (r := (RX11, TX11, 32)) (n := 2) (As := [.int v1, .int v2]) (rest := []) C (c_X11_placeOf l G v0 v1 v2 h40 r42 h43 er42) hR hL rfl k41 mw_1108 mw_1110 mp_22 mw_10 mw_1111 (by decide +kernel) (by decide) rfl (zl_size hl) rfl (by simp [zr_cat, in_cat]) dX11_type_205 (st2 := [.int r42]) rfl (fun H locs cells slots hR hL => ?_)
      cases hp
      exact r_zret C hR hL rfl dX11_type_208
    · replace hp := ite_n hp c1
      refine z_aload_n hx hb dX11_type_76 rfl (zl_at hl 0 rfl) ?_
      obtain ⟨k44, hp⟩ := ck_i hp
      refine r_get (ci := 12) (C := RX11) (T := TX11) (N := 32) (v := zr (aR h v0 0)) hx hb hm ii_X11 hown hK hR rfl k44 0 (by decide) (hm _ mw_982) (fun _ h9 => h9) rfl dX11_type_77 ?_
      refine lv_sipush (v := iI 150) hx hb dX11_type_80 (by decide +kernel) ?_
      refine lv_iload_n hx hb dX11_type_83 rfl (zl_at hl 2 rfl) ?_
      refine lv_imul hx hb dX11_type_84 ?_
      refine lv_iload hx hb dX11_type_85 (zl_at hl 5 rfl) ?_
      refine lv_iadd hx hb dX11_type_87 ?_
      refine z_aload_n hx hb dX11_type_88 rfl (zl_at hl 0 rfl) ?_
      obtain ⟨k45, hp⟩ := ck_i hp
      refine r_get (ci := 12) (C := RX11) (T := TX11) (N := 32) (v := zr (aR h v0 0)) hx hb hm ii_X11 hown hK hR rfl k45 0 (by decide) (hm _ mw_982) (fun _ h9 => h9) rfl dX11_type_89 ?_
      refine lv_sipush (v := iI 150) hx hb dX11_type_92 (by decide +kernel) ?_
      refine lv_iload_n hx hb dX11_type_95 rfl (zl_at hl 2 rfl) ?_
      refine lv_imul hx hb dX11_type_96 ?_
      refine lv_iload hx hb dX11_type_97 (zl_at hl 5 rfl) ?_
      refine lv_iadd hx hb dX11_type_99 ?_
      refine lv_iconst (v := iI 1) hx hb dX11_type_100 rfl ?_
      refine lv_isub hx hb dX11_type_101 ?_
      obtain ⟨k46, hp⟩ := ck_i hp
      refine r_iald hx hb hK hR k46.1 k46.2 dX11_type_102 ?_
      obtain ⟨k48, hp⟩ := ck_i hp
      refine r_iast hx hb hK hR hL k48.1 k48.2 dX11_type_103 (fun H locs hR hL => ?_)
      obtain ⟨h50, hp, hR⟩ := nm_h hp hR
      obtain ⟨x51, ex51⟩ : ∃ y : Int32, y = v6 + iI (-1) := ⟨_, rfl⟩
      replace hp := nm_i hp ex51
      refine z_iinc (v := x51) (lv' := [(6, .int x51), (0, zr v0), (1, .int v1), (2, .int v2), (3, .int v3), (5, .int v5)]) hx hb dX11_type_104 hl (k := 5) rfl ex51 (by decide) rfl (fun ls hl => ?_)
      refine lv_goto (tgt := 69) hx hb dX11_type_107 (by decide) ?_
      exact ih _ _ _ _ _ _ _ _ _ _ _ _ hR hL (zl_sub hl [1, 2, 3, 4, 5, 0] rfl) hp
def p_X11_type_36  (v0 : Nat) (v1 : Int32) (v2 : Int32) (v3 : Int32) (s0 : Nat) (s1 : Int32) (s2 : Int32) (s3 : Int32) (h : AH) : Option (Int32 × AH) :=
  ck (aK h s0 = 13) <|
  bR (p_X11_goes s0 s1 s2 s3 h) fun r2 h3 =>
  if r2 = 0 then
    some ((iI 0), h3)
  else
    ck (aK h3 v0 = 13) <|
    ck (aK h3 (aR h3 v0 5) = 20 ∧ ix (((iI 5) * v2) + v1) (aN h3 (aR h3 v0 5))) <|
    ck (aK h3 v0 = 13) <|
    bR (p_X11_at v0 v2 (aI h3 (aR h3 v0 5) (((iI 5) * v2) + v1).toNatClampNeg) h3) fun r9 h10 =>
    ck (aK h10 v0 = 13) <|
    ck (aK h10 (aR h10 v0 3) = 20 ∧ ix v2 (aN h10 (aR h10 v0 3))) <|
    nm ((aI h10 (aR h10 v0 3) v2.toNatClampNeg)) fun (x14 : Int32) =>
    p_X11_type_69  FU v0 v1 v2 v3 r9 x14 h10
set_option maxHeartbeats 4000000 in
set_option maxRecDepth 100000 in
theorem s_X11_type_36 {p : Program} {l : Launch} {e : Env} {s : State} {m : MethodId} {args : Array Value} {below : List Frame} {meth : Method} {c : Code} {G : GG} {hs : AH} {r : Int32} {h' : AH} (C : Cx G hs p s m args meth c cX11_type 7 RX11 (.code yX11_type cX11_type 7 (some .int) :: MW) (some .int) "type")   {v0 : Nat} {v1 : Int32} {v2 : Int32} {v3 : Int32} {s0 : Nat} {s1 : Int32} {s2 : Int32} {s3 : Int32} {h : AH} {H : Heap} {locs : List Loc} {cells slots : Nat} {ls : Array Slot} (hR : Rp G h H) (hL : ∀ q ∈ locs, gB G ≤ q.base) (hl : zl ls 7 [(0, zr v0), (1, .int v1), (2, .int v2), (3, .int v3)]) (hp : p_X11_type_36  v0 v1 v2 v3 s0 s1 s2 s3 h = some (r, h')) : W p l e (gR G hs 3 88) s m args below meth c H locs cells slots (MQ below (Qcc G (some (.int r)) h') args s (gC G - aZ hs) (gS - aU hs) (fun q => gB G ≤ q)) (F0 m 36 ls [.int s3, .int s2, .int s1, zr s0]) := by
  obtain ⟨hx, hb, hml, hown, hts, hT, hK, rs, hlk, hret, hnm⟩ := id C
  have hm : ∀ w ∈ MW, w.before args s = true := fun w hw => hts w (hT w hw)
  unfold p_X11_type_36 at hp
  obtain ⟨k1, hp⟩ := ck_i hp
  obtain ⟨r2, h3, er2, hp⟩ := bR_i hp
  refine r_callV (ci := 12) (r := (RX11, TX11, 32)) (n := 3) (As := [.int s1, .int s2, .int s3]) (rest := []) C (c_X11_goes l G s0 s1 s2 s3 h r2 h3 er2) hR hL rfl k1 mw_1096 mw_1098 mp_19 mw_10 mw_1099 (by decide +kernel) (by decide) rfl (zl_size hl) rfl (by simp [zr_cat, in_cat]) dX11_type_36 (st2 := [.int r2]) rfl (fun H locs cells slots hR hL => ?_)
  refine lv_if_ne (tgt := 44) hx hb dX11_type_39 (by decide) (fun c4 => ?_) (fun c4 => ?_)
  · replace hp := ite_n hp c4
    refine z_aload_n hx hb dX11_type_44 rfl (zl_at hl 0 rfl) ?_
    refine lv_iload_n hx hb dX11_type_45 rfl (zl_at hl 2 rfl) ?_
    refine z_aload_n hx hb dX11_type_46 rfl (zl_at hl 0 rfl) ?_
    obtain ⟨k5, hp⟩ := ck_i hp
    refine r_get (ci := 12) (C := RX11) (T := TX11) (N := 32) (v := zr (aR h3 v0 5)) hx hb hm ii_X11 hown hK hR rfl k5 5 (by decide) (hm _ mw_987) (fun _ h9 => h9) rfl dX11_type_47 ?_
    refine lv_iconst (v := iI 5) hx hb dX11_type_50 rfl ?_
    refine lv_iload_n hx hb dX11_type_51 rfl (zl_at hl 2 rfl) ?_
    refine lv_imul hx hb dX11_type_52 ?_
    refine lv_iload_n hx hb dX11_type_53 rfl (zl_at hl 1 rfl) ?_
    refine lv_iadd hx hb dX11_type_54 ?_
    obtain ⟨k6, hp⟩ := ck_i hp
    refine r_iald hx hb hK hR k6.1 k6.2 dX11_type_55 ?_
    obtain ⟨k8, hp⟩ := ck_i hp
    obtain ⟨r9, h10, er9, hp⟩ := bR_i hp
    refine r_callV (ci := 12) (r := (RX11, TX11, 32)) (n := 2) (As := [.int v2, .int (aI h3 (aR h3 v0 5) (((iI 5) * v2) + v1).toNatClampNeg)]) (rest := []) C (c_X11_at l G v0 v2 (aI h3 (aR h3 v0 5) (((iI 5) * v2) + v1).toNatClampNeg) h3 r9 h10 er9) hR hL rfl k8 mw_1100 mw_1102 mp_20 mw_10 mw_1103 (by decide +kernel) (by decide) rfl (zl_size hl) rfl (by simp [zr_cat, in_cat]) dX11_type_56 (st2 := [.int r9]) rfl (fun H locs cells slots hR hL => ?_)
    refine z_istore (lv' := [(5, .int r9), (0, zr v0), (1, .int v1), (2, .int v2), (3, .int v3)]) hx hb dX11_type_59 hl (by decide) rfl (fun ls hl => ?_)
    refine z_aload_n hx hb dX11_type_61 rfl (zl_at hl 1 rfl) ?_
    obtain ⟨k11, hp⟩ := ck_i hp
    refine r_get (ci := 12) (C := RX11) (T := TX11) (N := 32) (v := zr (aR h10 v0 3)) hx hb hm ii_X11 hown hK hR rfl k11 3 (by decide) (hm _ mw_985) (fun _ h9 => h9) rfl dX11_type_62 ?_
    refine lv_iload_n hx hb dX11_type_65 rfl (zl_at hl 3 rfl) ?_
    obtain ⟨k12, hp⟩ := ck_i hp
    refine r_iald hx hb hK hR k12.1 k12.2 dX11_type_66 ?_
    refine lv_topi (fun x14 ex14 => ?_)
    replace hp := nm_i hp ex14
    refine z_istore (lv' := [(6, .int x14), (5, .int r9), (0, zr v0), (1, .int v1), (2, .int v2), (3, .int v3)]) hx hb dX11_type_67 hl (by decide) rfl (fun ls hl => ?_)
    exact s_X11_type_69 C  _ _ _ _ _ _ _ _ _ _ _ _ _ hR hL (zl_sub hl [2, 3, 4, 5, 1, 0] rfl) hp
  · replace hp := ite_p hp c4
    refine lv_iconst (v := iI 0) hx hb dX11_type_42 rfl ?_
    cases hp
    exact r_zret C hR hL rfl dX11_type_43
def p_X11_type_35  (v0 : Nat) (v1 : Int32) (v2 : Int32) (v3 : Int32) (s0 : Nat) (s1 : Int32) (s2 : Int32) (h : AH) : Option (Int32 × AH) :=
  p_X11_type_36  v0 v1 v2 v3 s0 s1 s2 (iI 0) h
set_option maxHeartbeats 4000000 in
set_option maxRecDepth 100000 in
theorem s_X11_type_35 {p : Program} {l : Launch} {e : Env} {s : State} {m : MethodId} {args : Array Value} {below : List Frame} {meth : Method} {c : Code} {G : GG} {hs : AH} {r : Int32} {h' : AH} (C : Cx G hs p s m args meth c cX11_type 7 RX11 (.code yX11_type cX11_type 7 (some .int) :: MW) (some .int) "type")   {v0 : Nat} {v1 : Int32} {v2 : Int32} {v3 : Int32} {s0 : Nat} {s1 : Int32} {s2 : Int32} {h : AH} {H : Heap} {locs : List Loc} {cells slots : Nat} {ls : Array Slot} (hR : Rp G h H) (hL : ∀ q ∈ locs, gB G ≤ q.base) (hl : zl ls 7 [(0, zr v0), (1, .int v1), (2, .int v2), (3, .int v3)]) (hp : p_X11_type_35  v0 v1 v2 v3 s0 s1 s2 h = some (r, h')) : W p l e (gR G hs 3 88) s m args below meth c H locs cells slots (MQ below (Qcc G (some (.int r)) h') args s (gC G - aZ hs) (gS - aU hs) (fun q => gB G ≤ q)) (F0 m 35 ls [.int s2, .int s1, zr s0]) := by
  obtain ⟨hx, hb, hml, hown, hts, hT, hK, rs, hlk, hret, hnm⟩ := id C
  have hm : ∀ w ∈ MW, w.before args s = true := fun w hw => hts w (hT w hw)
  unfold p_X11_type_35 at hp
  refine lv_iconst (v := iI 0) hx hb dX11_type_35 rfl ?_
  exact s_X11_type_36 C  hR hL (zl_sub hl [0, 1, 2, 3] rfl) hp
def p_X11_type_0  (v0 : Nat) (v1 : Int32) (v2 : Int32) (v3 : Int32) (h : AH) : Option (Int32 × AH) :=
  bR (p_X11_isHand v1 v2 h) fun r1 h2 =>
  bR (p_X11_isLetter v3 h2) fun r3 h4 =>
  if r1 = 0 then
    p_X11_type_35  v0 v1 v2 v3 v0 r1 r3 h4
  else
    ck (aK h4 v0 = 13) <|
    ck (aK h4 (aR h4 v0 3) = 20 ∧ ix v2 (aN h4 (aR h4 v0 3))) <|
    if (iI 150) ≤ (aI h4 (aR h4 v0 3) v2.toNatClampNeg) then
      p_X11_type_35  v0 v1 v2 v3 v0 r1 r3 h4
    else
      p_X11_type_36  v0 v1 v2 v3 v0 r1 r3 (iI 1) h4
set_option maxHeartbeats 4000000 in
set_option maxRecDepth 100000 in
theorem s_X11_type_0 {p : Program} {l : Launch} {e : Env} {s : State} {m : MethodId} {args : Array Value} {below : List Frame} {meth : Method} {c : Code} {G : GG} {hs : AH} {r : Int32} {h' : AH} (C : Cx G hs p s m args meth c cX11_type 7 RX11 (.code yX11_type cX11_type 7 (some .int) :: MW) (some .int) "type")   {v0 : Nat} {v1 : Int32} {v2 : Int32} {v3 : Int32} {h : AH} {H : Heap} {locs : List Loc} {cells slots : Nat} {ls : Array Slot} (hR : Rp G h H) (hL : ∀ q ∈ locs, gB G ≤ q.base) (hl : zl ls 7 [(0, zr v0), (1, .int v1), (2, .int v2), (3, .int v3)]) (hp : p_X11_type_0  v0 v1 v2 v3 h = some (r, h')) : W p l e (gR G hs 3 88) s m args below meth c H locs cells slots (MQ below (Qcc G (some (.int r)) h') args s (gC G - aZ hs) (gS - aU hs) (fun q => gB G ≤ q)) (F0 m 0 ls []) := by
  obtain ⟨hx, hb, hml, hown, hts, hT, hK, rs, hlk, hret, hnm⟩ := id C
  have hm : ∀ w ∈ MW, w.before args s = true := fun w hw => hts w (hT w hw)
  unfold p_X11_type_0 at hp
  refine lv_iload_n hx hb dX11_type_0 rfl (zl_at hl 1 rfl) ?_
  refine lv_iload_n hx hb dX11_type_1 rfl (zl_at hl 2 rfl) ?_
  obtain ⟨r1, h2, er1, hp⟩ := bR_i hp
  refine r_callS (n := 2) (As := [.int v1, .int v2]) (rest := []) C (c_X11_isHand l G v1 v2 h r1 h2 er1) hR hL mw_1087 mw_1088 mw_10 mw_1089 (by decide +kernel) (by decide) rfl (zl_size hl) rfl (by simp [zr_cat, in_cat]) dX11_type_2 (st2 := [.int r1]) rfl (fun H locs cells slots hR hL => ?_)
  refine z_istore (lv' := [(4, .int r1), (0, zr v0), (1, .int v1), (2, .int v2), (3, .int v3)]) hx hb dX11_type_5 hl (by decide) rfl (fun ls hl => ?_)
  refine z_aload_n hx hb dX11_type_7 rfl (zl_at hl 1 rfl) ?_
  refine lv_iload hx hb dX11_type_8 (zl_at hl 0 rfl) ?_
  refine lv_iload_n hx hb dX11_type_10 rfl (zl_at hl 4 rfl) ?_
  obtain ⟨r3, h4, er3, hp⟩ := bR_i hp
  refine r_callS (n := 1) (As := [.int v3]) (rest := [.int r1, zr v0]) C (c_X11_isLetter l G v3 h2 r3 h4 er3) hR hL mw_1093 mw_1094 mw_10 mw_1095 (by decide +kernel) (by decide) rfl (zl_size hl) rfl (by simp [zr_cat, in_cat]) dX11_type_11 (st2 := [.int r3, .int r1, zr v0]) rfl (fun H locs cells slots hR hL => ?_)
  refine lv_iload hx hb dX11_type_14 (zl_at hl 0 rfl) ?_
  refine lv_if_eq (tgt := 35) hx hb dX11_type_16 (by decide) (fun c5 => ?_) (fun c5 => ?_)
  · replace hp := ite_p hp c5
    exact s_X11_type_35 C  hR hL (zl_sub hl [1, 2, 3, 4] rfl) hp
  · replace hp := ite_n hp c5
    refine z_aload_n hx hb dX11_type_19 rfl (zl_at hl 1 rfl) ?_
    obtain ⟨k6, hp⟩ := ck_i hp
    refine r_get (ci := 12) (C := RX11) (T := TX11) (N := 32) (v := zr (aR h4 v0 3)) hx hb hm ii_X11 hown hK hR rfl k6 3 (by decide) (hm _ mw_985) (fun _ h9 => h9) rfl dX11_type_20 ?_
    refine lv_iload_n hx hb dX11_type_23 rfl (zl_at hl 3 rfl) ?_
    obtain ⟨k7, hp⟩ := ck_i hp
    refine r_iald hx hb hK hR k7.1 k7.2 dX11_type_24 ?_
    refine lv_sipush (v := iI 150) hx hb dX11_type_25 (by decide +kernel) ?_
    refine lv_icmp_ge (tgt := 35) hx hb dX11_type_28 (by decide) (fun c9 => ?_) (fun c9 => ?_)
    · replace hp := ite_p hp c9
      exact s_X11_type_35 C  hR hL (zl_sub hl [1, 2, 3, 4] rfl) hp
    · replace hp := ite_n hp c9
      refine lv_iconst (v := iI 1) hx hb dX11_type_31 rfl ?_
      refine lv_goto (tgt := 36) hx hb dX11_type_32 (by decide) ?_
      exact s_X11_type_36 C  hR hL (zl_sub hl [1, 2, 3, 4] rfl) hp
def p_X11_type (v0 : Nat) (v1 : Int32) (v2 : Int32) (v3 : Int32) (h : AH) : Option (Int32 × AH) := ck (v0 ≠ 0) <| p_X11_type_0 v0 v1 v2 v3 h
theorem c_X11_type (l : Launch) (G : GG) (v0 : Nat) (v1 : Int32) (v2 : Int32) (v3 : Int32) (h : AH) (r : Int32) (h' : AH) (hp : p_X11_type v0 v1 v2 v3 h = some (r, h')) : Ct l yX11_type (.code yX11_type cX11_type 7 (some .int) :: MW) G 3 88 [.ref (v0 - 1), .int v1, .int v2, .int v3] h (some (.int r)) h' := by
  obtain ⟨hz0, hp⟩ := ck_i hp
  refine Ct.of (by decide +kernel) (Nat.le_of_ble_eq_true rfl) ?_
  intro p e s m args below meth c C hR ls hl
  have hl : zl ls 7 [(0, zr v0), (1, .int v1), (2, .int v2), (3, .int v3)] := ⟨by rw [zr_p hz0]; exact hl, by simp [zr_cat, in_cat]⟩
  exact s_X11_type_0 C hR (fun _ hq => nomatch hq) hl hp
/-! CursorKeepModel.erase(II)I -/
def p_X11_erase_34  (v0 : Nat) (v1 : Int32) (v2 : Int32) (v4 : Int32) (s0 : Nat) (s1 : Int32) (s2 : Int32) (h : AH) : Option (Int32 × AH) :=
  ck (aK h s0 = 13) <|
  bR (p_X11_goes s0 s1 s2 (iI 1) h) fun r2 h3 =>
  if r2 = 0 then
    some ((iI 0), h3)
  else
    ck (aK h3 v0 = 13) <|
    bR (p_X11_shows v0 v2 h3) fun r6 h7 =>
    ck (aK h7 v0 = 13) <|
    ck (aK h7 (aR h7 v0 28) = 20 ∧ ix (v4 - (iI 1)) (aN h7 (aR h7 v0 28))) <|
    nm ((aI h7 (aR h7 v0 28) (v4 - (iI 1)).toNatClampNeg)) fun (x11 : Int32) =>
    ck (aK h7 v0 = 13) <|
    bR (p_X11_leaves v0 v2 x11 h7) fun r13 h14 =>
    ck (aK h14 v0 = 13) <|
    bR (p_X11_keeps v0 v1 ((((iI 1000) * v2) + (iI 500)) + x11) h14) fun r16 h17 =>
    ck (aK h17 v0 = 13) <|
    ck (aK h17 (aR h17 v0 4) = 20 ∧ ix v2 (aN h17 (aR h17 v0 4))) <|
    ck (aK h17 (aR h17 v0 4) = 20 ∧ ix v2 (aN h17 (aR h17 v0 4))) <|
    nm (uI h17 (aR h17 v0 4) v2.toNatClampNeg ((aI h17 (aR h17 v0 4) v2.toNatClampNeg) + (iI 1))) fun h23 =>
    ck (aK h23 v0 = 13) <|
    bR (p_X11_placeOf v0 v1 v2 h23) fun r25 h26 =>
    some (r25, h26)
set_option maxHeartbeats 4000000 in
set_option maxRecDepth 100000 in
theorem s_X11_erase_34 {p : Program} {l : Launch} {e : Env} {s : State} {m : MethodId} {args : Array Value} {below : List Frame} {meth : Method} {c : Code} {G : GG} {hs : AH} {r : Int32} {h' : AH} (C : Cx G hs p s m args meth c cX11_erase 6 RX11 (.code yX11_erase cX11_erase 6 (some .int) :: MW) (some .int) "erase")   {v0 : Nat} {v1 : Int32} {v2 : Int32} {v4 : Int32} {s0 : Nat} {s1 : Int32} {s2 : Int32} {h : AH} {H : Heap} {locs : List Loc} {cells slots : Nat} {ls : Array Slot} (hR : Rp G h H) (hL : ∀ q ∈ locs, gB G ≤ q.base) (hl : zl ls 6 [(0, zr v0), (1, .int v1), (2, .int v2), (4, .int v4)]) (hp : p_X11_erase_34  v0 v1 v2 v4 s0 s1 s2 h = some (r, h')) : W p l e (gR G hs 3 88) s m args below meth c H locs cells slots (MQ below (Qcc G (some (.int r)) h') args s (gC G - aZ hs) (gS - aU hs) (fun q => gB G ≤ q)) (F0 m 34 ls [.int s2, .int s1, zr s0]) := by
  obtain ⟨hx, hb, hml, hown, hts, hT, hK, rs, hlk, hret, hnm⟩ := id C
  have hm : ∀ w ∈ MW, w.before args s = true := fun w hw => hts w (hT w hw)
  unfold p_X11_erase_34 at hp
  refine lv_iconst (v := iI 1) hx hb dX11_erase_34 rfl ?_
  obtain ⟨k1, hp⟩ := ck_i hp
  obtain ⟨r2, h3, er2, hp⟩ := bR_i hp
  refine r_callV (ci := 12) (r := (RX11, TX11, 32)) (n := 3) (As := [.int s1, .int s2, .int (iI 1)]) (rest := []) C (c_X11_goes l G s0 s1 s2 (iI 1) h r2 h3 er2) hR hL rfl k1 mw_1096 mw_1098 mp_19 mw_10 mw_1099 (by decide +kernel) (by decide) rfl (zl_size hl) rfl (by simp [zr_cat, in_cat]) dX11_erase_35 (st2 := [.int r2]) rfl (fun H locs cells slots hR hL => ?_)
  refine lv_if_ne (tgt := 43) hx hb dX11_erase_38 (by decide) (fun c4 => ?_) (fun c4 => ?_)
  · replace hp := ite_n hp c4
    refine z_aload_n hx hb dX11_erase_43 rfl (zl_at hl 0 rfl) ?_
    refine lv_iload_n hx hb dX11_erase_44 rfl (zl_at hl 2 rfl) ?_
    obtain ⟨k5, hp⟩ := ck_i hp
    obtain ⟨r6, h7, er6, hp⟩ := bR_i hp
    refine r_callV (ci := 12) (r := (RX11, TX11, 32)) (n := 1) (As := [.int v2]) (rest := []) C (c_X11_shows l G v0 v2 h3 r6 h7 er6) hR hL rfl k5 mw_1116 mw_1118 mp_23 mw_10 mw_1119 (by decide +kernel) (by decide) rfl (zl_size hl) rfl (by simp [zr_cat, in_cat]) dX11_erase_45 (st2 := []) rfl (fun H locs cells slots hR hL => ?_)
    refine z_aload_n hx hb dX11_erase_48 rfl (zl_at hl 0 rfl) ?_
    obtain ⟨k8, hp⟩ := ck_i hp
    refine r_get (ci := 12) (C := RX11) (T := TX11) (N := 32) (v := zr (aR h7 v0 28)) hx hb hm ii_X11 hown hK hR rfl k8 28 (by decide) (hm _ mw_1010) (fun _ h9 => h9) rfl dX11_erase_49 ?_
    refine lv_iload hx hb dX11_erase_52 (zl_at hl 3 rfl) ?_
    refine lv_iconst (v := iI 1) hx hb dX11_erase_54 rfl ?_
    refine lv_isub hx hb dX11_erase_55 ?_
    obtain ⟨k9, hp⟩ := ck_i hp
    refine r_iald hx hb hK hR k9.1 k9.2 dX11_erase_56 ?_
    refine lv_topi (fun x11 ex11 => ?_)
    replace hp := nm_i hp ex11
    refine z_istore (lv' := [(5, .int x11), (0, zr v0), (1, .int v1), (2, .int v2), (4, .int v4)]) hx hb dX11_erase_57 hl (by decide) rfl (fun ls hl => ?_)
    refine z_aload_n hx hb dX11_erase_59 rfl (zl_at hl 1 rfl) ?_
    refine lv_iload_n hx hb dX11_erase_60 rfl (zl_at hl 3 rfl) ?_
    refine lv_iload hx hb dX11_erase_61 (zl_at hl 0 rfl) ?_
    obtain ⟨k12, hp⟩ := ck_i hp
    obtain ⟨r13, h14, er13, hp⟩ := bR_i hp
    refine r_callV (ci := 12) (r := (RX11, TX11, 32)) (n := 2) (As := [.int v2, .int x11]) (rest := []) C (c_X11_leaves l G v0 v2 x11 h7 r13 h14 er13) hR hL rfl k12 mw_1120 mw_1122 mp_24 mw_10 mw_1123 (by decide +kernel) (by decide) rfl (zl_size hl) rfl (by simp [zr_cat, in_cat]) dX11_erase_63 (st2 := []) rfl (fun H locs cells slots hR hL => ?_)
    refine z_aload_n hx hb dX11_erase_66 rfl (zl_at hl 1 rfl) ?_
    refine lv_iload_n hx hb dX11_erase_67 rfl (zl_at hl 2 rfl) ?_
    refine lv_sipush (v := iI 1000) hx hb dX11_erase_68 (by decide +kernel) ?_
    refine lv_iload_n hx hb dX11_erase_71 rfl (zl_at hl 3 rfl) ?_
    refine lv_imul hx hb dX11_erase_72 ?_
    refine lv_sipush (v := iI 500) hx hb dX11_erase_73 (by decide +kernel) ?_
    refine lv_iadd hx hb dX11_erase_76 ?_
    refine lv_iload hx hb dX11_erase_77 (zl_at hl 0 rfl) ?_
    refine lv_iadd hx hb dX11_erase_79 ?_
    obtain ⟨k15, hp⟩ := ck_i hp
    obtain ⟨r16, h17, er16, hp⟩ := bR_i hp
    refine r_callV (ci := 12) (r := (RX11, TX11, 32)) (n := 2) (As := [.int v1, .int ((((iI 1000) * v2) + (iI 500)) + x11)]) (rest := []) C (c_X11_keeps l G v0 v1 ((((iI 1000) * v2) + (iI 500)) + x11) h14 r16 h17 er16) hR hL rfl k15 mw_1104 mw_1106 mp_21 mw_10 mw_1107 (by decide +kernel) (by decide) rfl (zl_size hl) rfl (by simp [zr_cat, in_cat]) dX11_erase_80 (st2 := []) rfl (fun H locs cells slots hR hL => ?_)
    refine z_aload_n hx hb dX11_erase_83 rfl (zl_at hl 1 rfl) ?_
    obtain ⟨k18, hp⟩ := ck_i hp
    refine r_get (ci := 12) (C := RX11) (T := TX11) (N := 32) (v := zr (aR h17 v0 4)) hx hb hm ii_X11 hown hK hR rfl k18 4 (by decide) (hm _ mw_986) (fun _ h9 => h9) rfl dX11_erase_84 ?_
    refine lv_iload_n hx hb dX11_erase_87 rfl (zl_at hl 3 rfl) ?_
    refine lv_dup2_11 hx hb dX11_erase_88 rfl (zr_cat _) ?_
    obtain ⟨k19, hp⟩ := ck_i hp
    refine r_iald hx hb hK hR k19.1 k19.2 dX11_erase_89 ?_
    refine lv_iconst (v := iI 1) hx hb dX11_erase_90 rfl ?_
    refine lv_iadd hx hb dX11_erase_91 ?_
    obtain ⟨k21, hp⟩ := ck_i hp
    refine r_iast hx hb hK hR hL k21.1 k21.2 dX11_erase_92 (fun H locs hR hL => ?_)
    obtain ⟨h23, hp, hR⟩ := nm_h hp hR
    refine z_aload_n hx hb dX11_erase_93 rfl (zl_at hl 1 rfl) ?_
    refine lv_iload_n hx hb dX11_erase_94 rfl (zl_at hl 2 rfl) ?_
    refine lv_iload_n hx hb dX11_erase_95 rfl (zl_at hl 3 rfl) ?_
    obtain ⟨k24, hp⟩ := ck_i hp
    obtain ⟨r25, h26, er25, hp⟩ := bR_i hp
    refine r_callV (ci := 12) (r := (RX11, TX11, 32)) (n := 2) (As := [.int v1, .int v2]) (rest := []) C (c_X11_placeOf l G v0 v1 v2 h23 r25 h26 er25) hR hL rfl k24 mw_1108 mw_1110 mp_22 mw_10 mw_1111 (by decide +kernel) (by decide) rfl (zl_size hl) rfl (by simp [zr_cat, in_cat]) dX11_erase_96 (st2 := [.int r25]) rfl (fun H locs cells slots hR hL => ?_)
    cases hp
    exact r_zret C hR hL rfl dX11_erase_99
  · replace hp := ite_p hp c4
    refine lv_iconst (v := iI 0) hx hb dX11_erase_41 rfl ?_
    cases hp
    exact r_zret C hR hL rfl dX11_erase_42
def p_X11_erase_20  (v0 : Nat) (v1 : Int32) (v2 : Int32) (v3 : Int32) (s0 : Int32) (h : AH) : Option (Int32 × AH) :=
  if s0 ≤ 0 then
    p_X11_erase_34  v0 v1 v2 s0 v0 v3 (iI 0) h
  else
    p_X11_erase_34  v0 v1 v2 s0 v0 v3 (iI 1) h
set_option maxHeartbeats 4000000 in
set_option maxRecDepth 100000 in
theorem s_X11_erase_20 {p : Program} {l : Launch} {e : Env} {s : State} {m : MethodId} {args : Array Value} {below : List Frame} {meth : Method} {c : Code} {G : GG} {hs : AH} {r : Int32} {h' : AH} (C : Cx G hs p s m args meth c cX11_erase 6 RX11 (.code yX11_erase cX11_erase 6 (some .int) :: MW) (some .int) "erase")   {v0 : Nat} {v1 : Int32} {v2 : Int32} {v3 : Int32} {s0 : Int32} {h : AH} {H : Heap} {locs : List Loc} {cells slots : Nat} {ls : Array Slot} (hR : Rp G h H) (hL : ∀ q ∈ locs, gB G ≤ q.base) (hl : zl ls 6 [(0, zr v0), (1, .int v1), (2, .int v2), (3, .int v3)]) (hp : p_X11_erase_20  v0 v1 v2 v3 s0 h = some (r, h')) : W p l e (gR G hs 3 88) s m args below meth c H locs cells slots (MQ below (Qcc G (some (.int r)) h') args s (gC G - aZ hs) (gS - aU hs) (fun q => gB G ≤ q)) (F0 m 20 ls [.int s0]) := by
  obtain ⟨hx, hb, hml, hown, hts, hT, hK, rs, hlk, hret, hnm⟩ := id C
  have hm : ∀ w ∈ MW, w.before args s = true := fun w hw => hts w (hT w hw)
  unfold p_X11_erase_20 at hp
  refine z_istore (lv' := [(4, .int s0), (0, zr v0), (1, .int v1), (2, .int v2), (3, .int v3)]) hx hb dX11_erase_20 hl (by decide) rfl (fun ls hl => ?_)
  refine z_aload_n hx hb dX11_erase_22 rfl (zl_at hl 1 rfl) ?_
  refine lv_iload_n hx hb dX11_erase_23 rfl (zl_at hl 4 rfl) ?_
  refine lv_iload hx hb dX11_erase_24 (zl_at hl 0 rfl) ?_
  refine lv_if_le (tgt := 33) hx hb dX11_erase_26 (by decide) (fun c1 => ?_) (fun c1 => ?_)
  · replace hp := ite_p hp c1
    refine lv_iconst (v := iI 0) hx hb dX11_erase_33 rfl ?_
    exact s_X11_erase_34 C  hR hL (zl_sub hl [1, 2, 3, 0] rfl) hp
  · replace hp := ite_n hp c1
    refine lv_iconst (v := iI 1) hx hb dX11_erase_29 rfl ?_
    refine lv_goto (tgt := 34) hx hb dX11_erase_30 (by decide) ?_
    exact s_X11_erase_34 C  hR hL (zl_sub hl [1, 2, 3, 0] rfl) hp
def p_X11_erase_0  (v0 : Nat) (v1 : Int32) (v2 : Int32) (h : AH) : Option (Int32 × AH) :=
  bR (p_X11_isHand v1 v2 h) fun r1 h2 =>
  if r1 = 0 then
    p_X11_erase_20  v0 v1 v2 r1 (iI 0) h2
  else
    ck (aK h2 v0 = 13) <|
    bR (p_X11_placeOf v0 v1 v2 h2) fun r5 h6 =>
    p_X11_erase_20  v0 v1 v2 r1 r5 h6
set_option maxHeartbeats 4000000 in
set_option maxRecDepth 100000 in
theorem s_X11_erase_0 {p : Program} {l : Launch} {e : Env} {s : State} {m : MethodId} {args : Array Value} {below : List Frame} {meth : Method} {c : Code} {G : GG} {hs : AH} {r : Int32} {h' : AH} (C : Cx G hs p s m args meth c cX11_erase 6 RX11 (.code yX11_erase cX11_erase 6 (some .int) :: MW) (some .int) "erase")   {v0 : Nat} {v1 : Int32} {v2 : Int32} {h : AH} {H : Heap} {locs : List Loc} {cells slots : Nat} {ls : Array Slot} (hR : Rp G h H) (hL : ∀ q ∈ locs, gB G ≤ q.base) (hl : zl ls 6 [(0, zr v0), (1, .int v1), (2, .int v2)]) (hp : p_X11_erase_0  v0 v1 v2 h = some (r, h')) : W p l e (gR G hs 3 88) s m args below meth c H locs cells slots (MQ below (Qcc G (some (.int r)) h') args s (gC G - aZ hs) (gS - aU hs) (fun q => gB G ≤ q)) (F0 m 0 ls []) := by
  obtain ⟨hx, hb, hml, hown, hts, hT, hK, rs, hlk, hret, hnm⟩ := id C
  have hm : ∀ w ∈ MW, w.before args s = true := fun w hw => hts w (hT w hw)
  unfold p_X11_erase_0 at hp
  refine lv_iload_n hx hb dX11_erase_0 rfl (zl_at hl 1 rfl) ?_
  refine lv_iload_n hx hb dX11_erase_1 rfl (zl_at hl 2 rfl) ?_
  obtain ⟨r1, h2, er1, hp⟩ := bR_i hp
  refine r_callS (n := 2) (As := [.int v1, .int v2]) (rest := []) C (c_X11_isHand l G v1 v2 h r1 h2 er1) hR hL mw_1087 mw_1088 mw_10 mw_1089 (by decide +kernel) (by decide) rfl (zl_size hl) rfl (by simp [zr_cat, in_cat]) dX11_erase_2 (st2 := [.int r1]) rfl (fun H locs cells slots hR hL => ?_)
  refine z_istore_n (lv' := [(3, .int r1), (0, zr v0), (1, .int v1), (2, .int v2)]) hx hb dX11_erase_5 rfl hl (by decide) rfl (fun ls hl => ?_)
  refine lv_iload_n hx hb dX11_erase_6 rfl (zl_at hl 0 rfl) ?_
  refine lv_if_eq (tgt := 19) hx hb dX11_erase_7 (by decide) (fun c3 => ?_) (fun c3 => ?_)
  · replace hp := ite_p hp c3
    refine lv_iconst (v := iI 0) hx hb dX11_erase_19 rfl ?_
    exact s_X11_erase_20 C  hR hL (zl_sub hl [1, 2, 3, 0] rfl) hp
  · replace hp := ite_n hp c3
    refine z_aload_n hx hb dX11_erase_10 rfl (zl_at hl 1 rfl) ?_
    refine lv_iload_n hx hb dX11_erase_11 rfl (zl_at hl 2 rfl) ?_
    refine lv_iload_n hx hb dX11_erase_12 rfl (zl_at hl 3 rfl) ?_
    obtain ⟨k4, hp⟩ := ck_i hp
    obtain ⟨r5, h6, er5, hp⟩ := bR_i hp
    refine r_callV (ci := 12) (r := (RX11, TX11, 32)) (n := 2) (As := [.int v1, .int v2]) (rest := []) C (c_X11_placeOf l G v0 v1 v2 h2 r5 h6 er5) hR hL rfl k4 mw_1108 mw_1110 mp_22 mw_10 mw_1111 (by decide +kernel) (by decide) rfl (zl_size hl) rfl (by simp [zr_cat, in_cat]) dX11_erase_13 (st2 := [.int r5]) rfl (fun H locs cells slots hR hL => ?_)
    refine lv_goto (tgt := 20) hx hb dX11_erase_16 (by decide) ?_
    exact s_X11_erase_20 C  hR hL (zl_sub hl [1, 2, 3, 0] rfl) hp
def p_X11_erase (v0 : Nat) (v1 : Int32) (v2 : Int32) (h : AH) : Option (Int32 × AH) := ck (v0 ≠ 0) <| p_X11_erase_0 v0 v1 v2 h
theorem c_X11_erase (l : Launch) (G : GG) (v0 : Nat) (v1 : Int32) (v2 : Int32) (h : AH) (r : Int32) (h' : AH) (hp : p_X11_erase v0 v1 v2 h = some (r, h')) : Ct l yX11_erase (.code yX11_erase cX11_erase 6 (some .int) :: MW) G 3 88 [.ref (v0 - 1), .int v1, .int v2] h (some (.int r)) h' := by
  obtain ⟨hz0, hp⟩ := ck_i hp
  refine Ct.of (by decide +kernel) (Nat.le_of_ble_eq_true rfl) ?_
  intro p e s m args below meth c C hR ls hl
  have hl : zl ls 6 [(0, zr v0), (1, .int v1), (2, .int v2)] := ⟨by rw [zr_p hz0]; exact hl, by simp [zr_cat, in_cat]⟩
  exact s_X11_erase_0 C hR (fun _ hq => nomatch hq) hl hp
/-! CursorKeepModel.moveTo(III)I -/
def p_X11_moveTo_90  (v5 : Int32) (s0 : Nat) (s1 : Int32) (s2 : Int32) (h : AH) : Option (Int32 × AH) :=
  ck (aK h s0 = 20 ∧ ix s1 (aN h s0)) <|
  nm (uI h s0 s1.toNatClampNeg s2) fun h3 =>
  some (v5, h3)
set_option maxHeartbeats 4000000 in
set_option maxRecDepth 100000 in
theorem s_X11_moveTo_90 {p : Program} {l : Launch} {e : Env} {s : State} {m : MethodId} {args : Array Value} {below : List Frame} {meth : Method} {c : Code} {G : GG} {hs : AH} {r : Int32} {h' : AH} (C : Cx G hs p s m args meth c cX11_moveTo 6 RX11 (.code yX11_moveTo cX11_moveTo 6 (some .int) :: MW) (some .int) "moveTo")   {v5 : Int32} {s0 : Nat} {s1 : Int32} {s2 : Int32} {h : AH} {H : Heap} {locs : List Loc} {cells slots : Nat} {ls : Array Slot} (hR : Rp G h H) (hL : ∀ q ∈ locs, gB G ≤ q.base) (hl : zl ls 6 [(5, .int v5)]) (hp : p_X11_moveTo_90  v5 s0 s1 s2 h = some (r, h')) : W p l e (gR G hs 3 88) s m args below meth c H locs cells slots (MQ below (Qcc G (some (.int r)) h') args s (gC G - aZ hs) (gS - aU hs) (fun q => gB G ≤ q)) (F0 m 90 ls [.int s2, .int s1, zr s0]) := by
  obtain ⟨hx, hb, hml, hown, hts, hT, hK, rs, hlk, hret, hnm⟩ := id C
  have hm : ∀ w ∈ MW, w.before args s = true := fun w hw => hts w (hT w hw)
  unfold p_X11_moveTo_90 at hp
  obtain ⟨k1, hp⟩ := ck_i hp
  refine r_iast hx hb hK hR hL k1.1 k1.2 dX11_moveTo_90 (fun H locs hR hL => ?_)
  obtain ⟨h3, hp, hR⟩ := nm_h hp hR
  refine lv_iload hx hb dX11_moveTo_91 (zl_at hl 0 rfl) ?_
  cases hp
  exact r_zret C hR hL rfl dX11_moveTo_93
def p_X11_moveTo_40  (v0 : Nat) (v1 : Int32) (v2 : Int32) (v3 : Int32) (s0 : Nat) (s1 : Int32) (h : AH) : Option (Int32 × AH) :=
  ck (aK h s0 = 13) <|
  bR (p_X11_goes s0 s1 (iI 1) (iI 1) h) fun r2 h3 =>
  if r2 = 0 then
    some ((iI 0), h3)
  else
    ck (aK h3 v0 = 13) <|
    bR (p_X11_placeOf v0 v1 v2 h3) fun r6 h7 =>
    ck (aK h7 v0 = 13) <|
    bR (p_X11_shows v0 v2 h7) fun r9 h10 =>
    ck (aK h10 v0 = 13) <|
    ck (aK h10 v0 = 13) <|
    if (aI h10 v0 29) ≤ v3 then
      p_X11_moveTo_90  r6 (aR h10 v0 5) (((iI 5) * v2) + v1) (iI (-1)) h10
    else
      ck (aK h10 v0 = 13) <|
      ck (aK h10 (aR h10 v0 28) = 20 ∧ ix v3 (aN h10 (aR h10 v0 28))) <|
      p_X11_moveTo_90  r6 (aR h10 v0 5) (((iI 5) * v2) + v1) (aI h10 (aR h10 v0 28) v3.toNatClampNeg) h10
set_option maxHeartbeats 4000000 in
set_option maxRecDepth 100000 in
theorem s_X11_moveTo_40 {p : Program} {l : Launch} {e : Env} {s : State} {m : MethodId} {args : Array Value} {below : List Frame} {meth : Method} {c : Code} {G : GG} {hs : AH} {r : Int32} {h' : AH} (C : Cx G hs p s m args meth c cX11_moveTo 6 RX11 (.code yX11_moveTo cX11_moveTo 6 (some .int) :: MW) (some .int) "moveTo")   {v0 : Nat} {v1 : Int32} {v2 : Int32} {v3 : Int32} {s0 : Nat} {s1 : Int32} {h : AH} {H : Heap} {locs : List Loc} {cells slots : Nat} {ls : Array Slot} (hR : Rp G h H) (hL : ∀ q ∈ locs, gB G ≤ q.base) (hl : zl ls 6 [(0, zr v0), (1, .int v1), (2, .int v2), (3, .int v3)]) (hp : p_X11_moveTo_40  v0 v1 v2 v3 s0 s1 h = some (r, h')) : W p l e (gR G hs 3 88) s m args below meth c H locs cells slots (MQ below (Qcc G (some (.int r)) h') args s (gC G - aZ hs) (gS - aU hs) (fun q => gB G ≤ q)) (F0 m 40 ls [.int s1, zr s0]) := by
  obtain ⟨hx, hb, hml, hown, hts, hT, hK, rs, hlk, hret, hnm⟩ := id C
  have hm : ∀ w ∈ MW, w.before args s = true := fun w hw => hts w (hT w hw)
  unfold p_X11_moveTo_40 at hp
  refine lv_iconst (v := iI 1) hx hb dX11_moveTo_40 rfl ?_
  refine lv_iconst (v := iI 1) hx hb dX11_moveTo_41 rfl ?_
  obtain ⟨k1, hp⟩ := ck_i hp
  obtain ⟨r2, h3, er2, hp⟩ := bR_i hp
  refine r_callV (ci := 12) (r := (RX11, TX11, 32)) (n := 3) (As := [.int s1, .int (iI 1), .int (iI 1)]) (rest := []) C (c_X11_goes l G s0 s1 (iI 1) (iI 1) h r2 h3 er2) hR hL rfl k1 mw_1096 mw_1098 mp_19 mw_10 mw_1099 (by decide +kernel) (by decide) rfl (zl_size hl) rfl (by simp [zr_cat, in_cat]) dX11_moveTo_42 (st2 := [.int r2]) rfl (fun H locs cells slots hR hL => ?_)
  refine lv_if_ne (tgt := 50) hx hb dX11_moveTo_45 (by decide) (fun c4 => ?_) (fun c4 => ?_)
  · replace hp := ite_n hp c4
    refine z_aload_n hx hb dX11_moveTo_50 rfl (zl_at hl 0 rfl) ?_
    refine lv_iload_n hx hb dX11_moveTo_51 rfl (zl_at hl 1 rfl) ?_
    refine lv_iload_n hx hb dX11_moveTo_52 rfl (zl_at hl 2 rfl) ?_
    obtain ⟨k5, hp⟩ := ck_i hp
    obtain ⟨r6, h7, er6, hp⟩ := bR_i hp
    refine r_callV (ci := 12) (r := (RX11, TX11, 32)) (n := 2) (As := [.int v1, .int v2]) (rest := []) C (c_X11_placeOf l G v0 v1 v2 h3 r6 h7 er6) hR hL rfl k5 mw_1108 mw_1110 mp_22 mw_10 mw_1111 (by decide +kernel) (by decide) rfl (zl_size hl) rfl (by simp [zr_cat, in_cat]) dX11_moveTo_53 (st2 := [.int r6]) rfl (fun H locs cells slots hR hL => ?_)
    refine z_istore (lv' := [(5, .int r6), (0, zr v0), (1, .int v1), (2, .int v2), (3, .int v3)]) hx hb dX11_moveTo_56 hl (by decide) rfl (fun ls hl => ?_)
    refine z_aload_n hx hb dX11_moveTo_58 rfl (zl_at hl 1 rfl) ?_
    refine lv_iload_n hx hb dX11_moveTo_59 rfl (zl_at hl 3 rfl) ?_
    obtain ⟨k8, hp⟩ := ck_i hp
    obtain ⟨r9, h10, er9, hp⟩ := bR_i hp
    refine r_callV (ci := 12) (r := (RX11, TX11, 32)) (n := 1) (As := [.int v2]) (rest := []) C (c_X11_shows l G v0 v2 h7 r9 h10 er9) hR hL rfl k8 mw_1116 mw_1118 mp_23 mw_10 mw_1119 (by decide +kernel) (by decide) rfl (zl_size hl) rfl (by simp [zr_cat, in_cat]) dX11_moveTo_60 (st2 := []) rfl (fun H locs cells slots hR hL => ?_)
    refine z_aload_n hx hb dX11_moveTo_63 rfl (zl_at hl 1 rfl) ?_
    obtain ⟨k11, hp⟩ := ck_i hp
    refine r_get (ci := 12) (C := RX11) (T := TX11) (N := 32) (v := zr (aR h10 v0 5)) hx hb hm ii_X11 hown hK hR rfl k11 5 (by decide) (hm _ mw_987) (fun _ h9 => h9) rfl dX11_moveTo_64 ?_
    refine lv_iconst (v := iI 5) hx hb dX11_moveTo_67 rfl ?_
    refine lv_iload_n hx hb dX11_moveTo_68 rfl (zl_at hl 3 rfl) ?_
    refine lv_imul hx hb dX11_moveTo_69 ?_
    refine lv_iload_n hx hb dX11_moveTo_70 rfl (zl_at hl 2 rfl) ?_
    refine lv_iadd hx hb dX11_moveTo_71 ?_
    refine lv_iload_n hx hb dX11_moveTo_72 rfl (zl_at hl 4 rfl) ?_
    refine z_aload_n hx hb dX11_moveTo_73 rfl (zl_at hl 1 rfl) ?_
    obtain ⟨k12, hp⟩ := ck_i hp
    refine r_get (ci := 12) (C := RX11) (T := TX11) (N := 32) (v := .int (aI h10 v0 29)) hx hb hm ii_X11 hown hK hR rfl k12 29 (by decide) (hm _ mw_1011) (fun _ h9 => h9) rfl dX11_moveTo_74 ?_
    refine lv_icmp_ge (tgt := 89) hx hb dX11_moveTo_77 (by decide) (fun c13 => ?_) (fun c13 => ?_)
    · replace hp := ite_p hp c13
      refine lv_iconst (v := iI (-1)) hx hb dX11_moveTo_89 rfl ?_
      exact s_X11_moveTo_90 C  hR hL (zl_sub hl [0] rfl) hp
    · replace hp := ite_n hp c13
      refine z_aload_n hx hb dX11_moveTo_80 rfl (zl_at hl 1 rfl) ?_
      obtain ⟨k14, hp⟩ := ck_i hp
      refine r_get (ci := 12) (C := RX11) (T := TX11) (N := 32) (v := zr (aR h10 v0 28)) hx hb hm ii_X11 hown hK hR rfl k14 28 (by decide) (hm _ mw_1010) (fun _ h9 => h9) rfl dX11_moveTo_81 ?_
      refine lv_iload_n hx hb dX11_moveTo_84 rfl (zl_at hl 4 rfl) ?_
      obtain ⟨k15, hp⟩ := ck_i hp
      refine r_iald hx hb hK hR k15.1 k15.2 dX11_moveTo_85 ?_
      refine lv_goto (tgt := 90) hx hb dX11_moveTo_86 (by decide) ?_
      exact s_X11_moveTo_90 C  hR hL (zl_sub hl [0] rfl) hp
  · replace hp := ite_p hp c4
    refine lv_iconst (v := iI 0) hx hb dX11_moveTo_48 rfl ?_
    cases hp
    exact r_zret C hR hL rfl dX11_moveTo_49
def p_X11_moveTo_39  (v0 : Nat) (v1 : Int32) (v2 : Int32) (v3 : Int32) (s0 : Nat) (h : AH) : Option (Int32 × AH) :=
  p_X11_moveTo_40  v0 v1 v2 v3 s0 (iI 0) h
set_option maxHeartbeats 4000000 in
set_option maxRecDepth 100000 in
theorem s_X11_moveTo_39 {p : Program} {l : Launch} {e : Env} {s : State} {m : MethodId} {args : Array Value} {below : List Frame} {meth : Method} {c : Code} {G : GG} {hs : AH} {r : Int32} {h' : AH} (C : Cx G hs p s m args meth c cX11_moveTo 6 RX11 (.code yX11_moveTo cX11_moveTo 6 (some .int) :: MW) (some .int) "moveTo")   {v0 : Nat} {v1 : Int32} {v2 : Int32} {v3 : Int32} {s0 : Nat} {h : AH} {H : Heap} {locs : List Loc} {cells slots : Nat} {ls : Array Slot} (hR : Rp G h H) (hL : ∀ q ∈ locs, gB G ≤ q.base) (hl : zl ls 6 [(0, zr v0), (1, .int v1), (2, .int v2), (3, .int v3)]) (hp : p_X11_moveTo_39  v0 v1 v2 v3 s0 h = some (r, h')) : W p l e (gR G hs 3 88) s m args below meth c H locs cells slots (MQ below (Qcc G (some (.int r)) h') args s (gC G - aZ hs) (gS - aU hs) (fun q => gB G ≤ q)) (F0 m 39 ls [zr s0]) := by
  obtain ⟨hx, hb, hml, hown, hts, hT, hK, rs, hlk, hret, hnm⟩ := id C
  have hm : ∀ w ∈ MW, w.before args s = true := fun w hw => hts w (hT w hw)
  unfold p_X11_moveTo_39 at hp
  refine lv_iconst (v := iI 0) hx hb dX11_moveTo_39 rfl ?_
  exact s_X11_moveTo_40 C  hR hL (zl_sub hl [0, 1, 2, 3] rfl) hp
def p_X11_moveTo_17  (v0 : Nat) (v1 : Int32) (v2 : Int32) (v3 : Int32) (v4 : Int32) (h : AH) : Option (Int32 × AH) :=
  if v4 = 0 then
    p_X11_moveTo_39  v0 v1 v2 v3 v0 h
  else
    if v3 < 0 then
      p_X11_moveTo_39  v0 v1 v2 v3 v0 h
    else
      ck (aK h v0 = 13) <|
      if (aI h v0 29) < v3 then
        p_X11_moveTo_39  v0 v1 v2 v3 v0 h
      else
        p_X11_moveTo_40  v0 v1 v2 v3 v0 (iI 1) h
set_option maxHeartbeats 4000000 in
set_option maxRecDepth 100000 in
theorem s_X11_moveTo_17 {p : Program} {l : Launch} {e : Env} {s : State} {m : MethodId} {args : Array Value} {below : List Frame} {meth : Method} {c : Code} {G : GG} {hs : AH} {r : Int32} {h' : AH} (C : Cx G hs p s m args meth c cX11_moveTo 6 RX11 (.code yX11_moveTo cX11_moveTo 6 (some .int) :: MW) (some .int) "moveTo")   {v0 : Nat} {v1 : Int32} {v2 : Int32} {v3 : Int32} {v4 : Int32} {h : AH} {H : Heap} {locs : List Loc} {cells slots : Nat} {ls : Array Slot} (hR : Rp G h H) (hL : ∀ q ∈ locs, gB G ≤ q.base) (hl : zl ls 6 [(0, zr v0), (1, .int v1), (2, .int v2), (3, .int v3), (4, .int v4)]) (hp : p_X11_moveTo_17  v0 v1 v2 v3 v4 h = some (r, h')) : W p l e (gR G hs 3 88) s m args below meth c H locs cells slots (MQ below (Qcc G (some (.int r)) h') args s (gC G - aZ hs) (gS - aU hs) (fun q => gB G ≤ q)) (F0 m 17 ls []) := by
  obtain ⟨hx, hb, hml, hown, hts, hT, hK, rs, hlk, hret, hnm⟩ := id C
  have hm : ∀ w ∈ MW, w.before args s = true := fun w hw => hts w (hT w hw)
  unfold p_X11_moveTo_17 at hp
  refine z_aload_n hx hb dX11_moveTo_17 rfl (zl_at hl 0 rfl) ?_
  refine lv_iload hx hb dX11_moveTo_18 (zl_at hl 4 rfl) ?_
  refine lv_if_eq (tgt := 39) hx hb dX11_moveTo_20 (by decide) (fun c1 => ?_) (fun c1 => ?_)
  · replace hp := ite_p hp c1
    exact s_X11_moveTo_39 C  hR hL (zl_sub hl [0, 1, 2, 3] rfl) hp
  · replace hp := ite_n hp c1
    refine lv_iload_n hx hb dX11_moveTo_23 rfl (zl_at hl 3 rfl) ?_
    refine lv_if_lt (tgt := 39) hx hb dX11_moveTo_24 (by decide) (fun c2 => ?_) (fun c2 => ?_)
    · replace hp := ite_p hp c2
      exact s_X11_moveTo_39 C  hR hL (zl_sub hl [0, 1, 2, 3] rfl) hp
    · replace hp := ite_n hp c2
      refine lv_iload_n hx hb dX11_moveTo_27 rfl (zl_at hl 3 rfl) ?_
      refine z_aload_n hx hb dX11_moveTo_28 rfl (zl_at hl 0 rfl) ?_
      obtain ⟨k3, hp⟩ := ck_i hp
      refine r_get (ci := 12) (C := RX11) (T := TX11) (N := 32) (v := .int (aI h v0 29)) hx hb hm ii_X11 hown hK hR rfl k3 29 (by decide) (hm _ mw_1011) (fun _ h9 => h9) rfl dX11_moveTo_29 ?_
      refine lv_icmp_gt (tgt := 39) hx hb dX11_moveTo_32 (by decide) (fun c4 => ?_) (fun c4 => ?_)
      · replace hp := ite_p hp c4
        exact s_X11_moveTo_39 C  hR hL (zl_sub hl [0, 1, 2, 3] rfl) hp
      · replace hp := ite_n hp c4
        refine lv_iconst (v := iI 1) hx hb dX11_moveTo_35 rfl ?_
        refine lv_goto (tgt := 40) hx hb dX11_moveTo_36 (by decide) ?_
        exact s_X11_moveTo_40 C  hR hL (zl_sub hl [0, 1, 2, 3] rfl) hp
def p_X11_moveTo_0  (v0 : Nat) (v1 : Int32) (v2 : Int32) (v3 : Int32) (h : AH) : Option (Int32 × AH) :=
  bR (p_X11_isHand v1 v2 h) fun r1 h2 =>
  if r1 = 0 then
    p_X11_moveTo_17  v0 v1 v2 v3 r1 h2
  else
    ck (aK h2 v0 = 13) <|
    bR (p_X11_shows v0 v2 h2) fun r5 h6 =>
    p_X11_moveTo_17  v0 v1 v2 v3 r1 h6
set_option maxHeartbeats 4000000 in
set_option maxRecDepth 100000 in
theorem s_X11_moveTo_0 {p : Program} {l : Launch} {e : Env} {s : State} {m : MethodId} {args : Array Value} {below : List Frame} {meth : Method} {c : Code} {G : GG} {hs : AH} {r : Int32} {h' : AH} (C : Cx G hs p s m args meth c cX11_moveTo 6 RX11 (.code yX11_moveTo cX11_moveTo 6 (some .int) :: MW) (some .int) "moveTo")   {v0 : Nat} {v1 : Int32} {v2 : Int32} {v3 : Int32} {h : AH} {H : Heap} {locs : List Loc} {cells slots : Nat} {ls : Array Slot} (hR : Rp G h H) (hL : ∀ q ∈ locs, gB G ≤ q.base) (hl : zl ls 6 [(0, zr v0), (1, .int v1), (2, .int v2), (3, .int v3)]) (hp : p_X11_moveTo_0  v0 v1 v2 v3 h = some (r, h')) : W p l e (gR G hs 3 88) s m args below meth c H locs cells slots (MQ below (Qcc G (some (.int r)) h') args s (gC G - aZ hs) (gS - aU hs) (fun q => gB G ≤ q)) (F0 m 0 ls []) := by
  obtain ⟨hx, hb, hml, hown, hts, hT, hK, rs, hlk, hret, hnm⟩ := id C
  have hm : ∀ w ∈ MW, w.before args s = true := fun w hw => hts w (hT w hw)
  unfold p_X11_moveTo_0 at hp
  refine lv_iload_n hx hb dX11_moveTo_0 rfl (zl_at hl 1 rfl) ?_
  refine lv_iload_n hx hb dX11_moveTo_1 rfl (zl_at hl 2 rfl) ?_
  obtain ⟨r1, h2, er1, hp⟩ := bR_i hp
  refine r_callS (n := 2) (As := [.int v1, .int v2]) (rest := []) C (c_X11_isHand l G v1 v2 h r1 h2 er1) hR hL mw_1087 mw_1088 mw_10 mw_1089 (by decide +kernel) (by decide) rfl (zl_size hl) rfl (by simp [zr_cat, in_cat]) dX11_moveTo_2 (st2 := [.int r1]) rfl (fun H locs cells slots hR hL => ?_)
  refine z_istore (lv' := [(4, .int r1), (0, zr v0), (1, .int v1), (2, .int v2), (3, .int v3)]) hx hb dX11_moveTo_5 hl (by decide) rfl (fun ls hl => ?_)
  refine lv_iload hx hb dX11_moveTo_7 (zl_at hl 0 rfl) ?_
  refine lv_if_eq (tgt := 17) hx hb dX11_moveTo_9 (by decide) (fun c3 => ?_) (fun c3 => ?_)
  · replace hp := ite_p hp c3
    exact s_X11_moveTo_17 C  hR hL (zl_sub hl [1, 2, 3, 4, 0] rfl) hp
  · replace hp := ite_n hp c3
    refine z_aload_n hx hb dX11_moveTo_12 rfl (zl_at hl 1 rfl) ?_
    refine lv_iload_n hx hb dX11_moveTo_13 rfl (zl_at hl 3 rfl) ?_
    obtain ⟨k4, hp⟩ := ck_i hp
    obtain ⟨r5, h6, er5, hp⟩ := bR_i hp
    refine r_callV (ci := 12) (r := (RX11, TX11, 32)) (n := 1) (As := [.int v2]) (rest := []) C (c_X11_shows l G v0 v2 h2 r5 h6 er5) hR hL rfl k4 mw_1116 mw_1118 mp_23 mw_10 mw_1119 (by decide +kernel) (by decide) rfl (zl_size hl) rfl (by simp [zr_cat, in_cat]) dX11_moveTo_14 (st2 := []) rfl (fun H locs cells slots hR hL => ?_)
    exact s_X11_moveTo_17 C  hR hL (zl_sub hl [1, 2, 3, 4, 0] rfl) hp
def p_X11_moveTo (v0 : Nat) (v1 : Int32) (v2 : Int32) (v3 : Int32) (h : AH) : Option (Int32 × AH) := ck (v0 ≠ 0) <| p_X11_moveTo_0 v0 v1 v2 v3 h
theorem c_X11_moveTo (l : Launch) (G : GG) (v0 : Nat) (v1 : Int32) (v2 : Int32) (v3 : Int32) (h : AH) (r : Int32) (h' : AH) (hp : p_X11_moveTo v0 v1 v2 v3 h = some (r, h')) : Ct l yX11_moveTo (.code yX11_moveTo cX11_moveTo 6 (some .int) :: MW) G 3 88 [.ref (v0 - 1), .int v1, .int v2, .int v3] h (some (.int r)) h' := by
  obtain ⟨hz0, hp⟩ := ck_i hp
  refine Ct.of (by decide +kernel) (Nat.le_of_ble_eq_true rfl) ?_
  intro p e s m args below meth c C hR ls hl
  have hl : zl ls 6 [(0, zr v0), (1, .int v1), (2, .int v2), (3, .int v3)] := ⟨by rw [zr_p hz0]; exact hl, by simp [zr_cat, in_cat]⟩
  exact s_X11_moveTo_0 C hR (fun _ hq => nomatch hq) hl hp
/-! CursorKeepModel.turns(IZ)I -/
def p_X11_turns_65  (v3 : Int32) (h : AH) : Option (Int32 × AH) :=
  some (v3, h)
set_option maxHeartbeats 4000000 in
set_option maxRecDepth 100000 in
theorem s_X11_turns_65 {p : Program} {l : Launch} {e : Env} {s : State} {m : MethodId} {args : Array Value} {below : List Frame} {meth : Method} {c : Code} {G : GG} {hs : AH} {r : Int32} {h' : AH} (C : Cx G hs p s m args meth c cX11_turns 5 RX11 (.code yX11_turns cX11_turns 5 (some .int) :: MW) (some .int) "turns")   {v3 : Int32} {h : AH} {H : Heap} {locs : List Loc} {cells slots : Nat} {ls : Array Slot} (hR : Rp G h H) (hL : ∀ q ∈ locs, gB G ≤ q.base) (hl : zl ls 5 [(3, .int v3)]) (hp : p_X11_turns_65  v3 h = some (r, h')) : W p l e (gR G hs 3 88) s m args below meth c H locs cells slots (MQ below (Qcc G (some (.int r)) h') args s (gC G - aZ hs) (gS - aU hs) (fun q => gB G ≤ q)) (F0 m 65 ls []) := by
  obtain ⟨hx, hb, hml, hown, hts, hT, hK, rs, hlk, hret, hnm⟩ := id C
  have hm : ∀ w ∈ MW, w.before args s = true := fun w hw => hts w (hT w hw)
  unfold p_X11_turns_65 at hp
  refine lv_iload_n hx hb dX11_turns_65 rfl (zl_at hl 0 rfl) ?_
  cases hp
  exact r_zret C hR hL rfl dX11_turns_66
def p_X11_turns_0  (v0 : Nat) (v1 : Int32) (v2 : Int32) (h : AH) : Option (Int32 × AH) :=
  nm ((v1 / (iI 1000))) fun (x1 : Int32) =>
  nm ((v1 - v1 / (iI 500) * (iI 500))) fun (x2 : Int32) =>
  ck (aK h v0 = 13) <|
  ck (aK h (aR h v0 2) = 22 ∧ ix (((iI 150) * x1) + x2) (aN h (aR h v0 2))) <|
  if (aI h (aR h v0 2) (((iI 150) * x1) + x2).toNatClampNeg) = v2 then
    p_X11_turns_65  x1 h
  else
    ck (aK h v0 = 13) <|
    ck (aK h (aR h v0 4) = 20 ∧ ix x1 (aN h (aR h v0 4))) <|
    ck (aK h (aR h v0 4) = 20 ∧ ix x1 (aN h (aR h v0 4))) <|
    nm (uI h (aR h v0 4) x1.toNatClampNeg ((aI h (aR h v0 4) x1.toNatClampNeg) + (iI 1))) fun h12 =>
    ck (aK h12 v0 = 13) <|
    ck (aK h12 (aR h12 v0 2) = 22 ∧ ix (((iI 150) * x1) + x2) (aN h12 (aR h12 v0 2))) <|
    nm (uI h12 (aR h12 v0 2) (((iI 150) * x1) + x2).toNatClampNeg (nZ v2)) fun h16 =>
    if v2 = 0 then
      ck (aK h16 v0 = 13) <|
      bR (p_X11_leaves v0 x1 x2 h16) fun r19 h20 =>
      p_X11_turns_65  x1 h20
    else
      p_X11_turns_65  x1 h16
set_option maxHeartbeats 4000000 in
set_option maxRecDepth 100000 in
theorem s_X11_turns_0 {p : Program} {l : Launch} {e : Env} {s : State} {m : MethodId} {args : Array Value} {below : List Frame} {meth : Method} {c : Code} {G : GG} {hs : AH} {r : Int32} {h' : AH} (C : Cx G hs p s m args meth c cX11_turns 5 RX11 (.code yX11_turns cX11_turns 5 (some .int) :: MW) (some .int) "turns")   {v0 : Nat} {v1 : Int32} {v2 : Int32} {h : AH} {H : Heap} {locs : List Loc} {cells slots : Nat} {ls : Array Slot} (hR : Rp G h H) (hL : ∀ q ∈ locs, gB G ≤ q.base) (hl : zl ls 5 [(0, zr v0), (1, .int v1), (2, .int v2)]) (hp : p_X11_turns_0  v0 v1 v2 h = some (r, h')) : W p l e (gR G hs 3 88) s m args below meth c H locs cells slots (MQ below (Qcc G (some (.int r)) h') args s (gC G - aZ hs) (gS - aU hs) (fun q => gB G ≤ q)) (F0 m 0 ls []) := by
  obtain ⟨hx, hb, hml, hown, hts, hT, hK, rs, hlk, hret, hnm⟩ := id C
  have hm : ∀ w ∈ MW, w.before args s = true := fun w hw => hts w (hT w hw)
  unfold p_X11_turns_0 at hp
  refine lv_iload_n hx hb dX11_turns_0 rfl (zl_at hl 1 rfl) ?_
  refine lv_sipush (v := iI 1000) hx hb dX11_turns_1 (by decide +kernel) ?_
  refine lv_idiv hx hb dX11_turns_4 (by decide +kernel) ?_
  refine lv_topi (fun x1 ex1 => ?_)
  replace hp := nm_i hp ex1
  refine z_istore_n (lv' := [(3, .int x1), (0, zr v0), (1, .int v1), (2, .int v2)]) hx hb dX11_turns_5 rfl hl (by decide) rfl (fun ls hl => ?_)
  refine lv_iload_n hx hb dX11_turns_6 rfl (zl_at hl 2 rfl) ?_
  refine lv_sipush (v := iI 500) hx hb dX11_turns_7 (by decide +kernel) ?_
  refine lv_irem hx hb dX11_turns_10 (by decide +kernel) ?_
  refine lv_topi (fun x2 ex2 => ?_)
  replace hp := nm_i hp ex2
  refine z_istore (lv' := [(4, .int x2), (3, .int x1), (0, zr v0), (1, .int v1), (2, .int v2)]) hx hb dX11_turns_11 hl (by decide) rfl (fun ls hl => ?_)
  refine z_aload_n hx hb dX11_turns_13 rfl (zl_at hl 2 rfl) ?_
  obtain ⟨k3, hp⟩ := ck_i hp
  refine r_get (ci := 12) (C := RX11) (T := TX11) (N := 32) (v := zr (aR h v0 2)) hx hb hm ii_X11 hown hK hR rfl k3 2 (by decide) (hm _ mw_984) (fun _ h9 => h9) rfl dX11_turns_14 ?_
  refine lv_sipush (v := iI 150) hx hb dX11_turns_17 (by decide +kernel) ?_
  refine lv_iload_n hx hb dX11_turns_20 rfl (zl_at hl 1 rfl) ?_
  refine lv_imul hx hb dX11_turns_21 ?_
  refine lv_iload hx hb dX11_turns_22 (zl_at hl 0 rfl) ?_
  refine lv_iadd hx hb dX11_turns_24 ?_
  obtain ⟨k4, hp⟩ := ck_i hp
  refine r_zald hx hb hK hR k4.1 k4.2 dX11_turns_25 ?_
  refine lv_iload_n hx hb dX11_turns_26 rfl (zl_at hl 4 rfl) ?_
  refine lv_icmp_eq (tgt := 65) hx hb dX11_turns_27 (by decide) (fun c6 => ?_) (fun c6 => ?_)
  · replace hp := ite_p hp c6
    exact s_X11_turns_65 C  hR hL (zl_sub hl [1] rfl) hp
  · replace hp := ite_n hp c6
    refine z_aload_n hx hb dX11_turns_30 rfl (zl_at hl 2 rfl) ?_
    obtain ⟨k7, hp⟩ := ck_i hp
    refine r_get (ci := 12) (C := RX11) (T := TX11) (N := 32) (v := zr (aR h v0 4)) hx hb hm ii_X11 hown hK hR rfl k7 4 (by decide) (hm _ mw_986) (fun _ h9 => h9) rfl dX11_turns_31 ?_
    refine lv_iload_n hx hb dX11_turns_34 rfl (zl_at hl 1 rfl) ?_
    refine lv_dup2_11 hx hb dX11_turns_35 rfl (zr_cat _) ?_
    obtain ⟨k8, hp⟩ := ck_i hp
    refine r_iald hx hb hK hR k8.1 k8.2 dX11_turns_36 ?_
    refine lv_iconst (v := iI 1) hx hb dX11_turns_37 rfl ?_
    refine lv_iadd hx hb dX11_turns_38 ?_
    obtain ⟨k10, hp⟩ := ck_i hp
    refine r_iast hx hb hK hR hL k10.1 k10.2 dX11_turns_39 (fun H locs hR hL => ?_)
    obtain ⟨h12, hp, hR⟩ := nm_h hp hR
    refine z_aload_n hx hb dX11_turns_40 rfl (zl_at hl 2 rfl) ?_
    obtain ⟨k13, hp⟩ := ck_i hp
    refine r_get (ci := 12) (C := RX11) (T := TX11) (N := 32) (v := zr (aR h12 v0 2)) hx hb hm ii_X11 hown hK hR rfl k13 2 (by decide) (hm _ mw_984) (fun _ h9 => h9) rfl dX11_turns_41 ?_
    refine lv_sipush (v := iI 150) hx hb dX11_turns_44 (by decide +kernel) ?_
    refine lv_iload_n hx hb dX11_turns_47 rfl (zl_at hl 1 rfl) ?_
    refine lv_imul hx hb dX11_turns_48 ?_
    refine lv_iload hx hb dX11_turns_49 (zl_at hl 0 rfl) ?_
    refine lv_iadd hx hb dX11_turns_51 ?_
    refine lv_iload_n hx hb dX11_turns_52 rfl (zl_at hl 4 rfl) ?_
    obtain ⟨k14, hp⟩ := ck_i hp
    refine r_zast hx hb hK hR hL k14.1 k14.2 dX11_turns_53 (fun H locs hR hL => ?_)
    obtain ⟨h16, hp, hR⟩ := nm_h hp hR
    refine lv_iload_n hx hb dX11_turns_54 rfl (zl_at hl 4 rfl) ?_
    refine lv_if_ne (tgt := 65) hx hb dX11_turns_55 (by decide) (fun c17 => ?_) (fun c17 => ?_)
    · replace hp := ite_n hp c17
      exact s_X11_turns_65 C  hR hL (zl_sub hl [1] rfl) hp
    · replace hp := ite_p hp c17
      refine z_aload_n hx hb dX11_turns_58 rfl (zl_at hl 2 rfl) ?_
      refine lv_iload_n hx hb dX11_turns_59 rfl (zl_at hl 1 rfl) ?_
      refine lv_iload hx hb dX11_turns_60 (zl_at hl 0 rfl) ?_
      obtain ⟨k18, hp⟩ := ck_i hp
      obtain ⟨r19, h20, er19, hp⟩ := bR_i hp
      refine r_callV (ci := 12) (r := (RX11, TX11, 32)) (n := 2) (As := [.int x1, .int x2]) (rest := []) C (c_X11_leaves l G v0 x1 x2 h16 r19 h20 er19) hR hL rfl k18 mw_1120 mw_1122 mp_24 mw_10 mw_1123 (by decide +kernel) (by decide) rfl (zl_size hl) rfl (by simp [zr_cat, in_cat]) dX11_turns_62 (st2 := []) rfl (fun H locs cells slots hR hL => ?_)
      exact s_X11_turns_65 C  hR hL (zl_sub hl [1] rfl) hp
def p_X11_turns (v0 : Nat) (v1 : Int32) (v2 : Int32) (h : AH) : Option (Int32 × AH) := ck (v0 ≠ 0) <| p_X11_turns_0 v0 v1 v2 h
theorem c_X11_turns (l : Launch) (G : GG) (v0 : Nat) (v1 : Int32) (v2 : Int32) (h : AH) (r : Int32) (h' : AH) (hp : p_X11_turns v0 v1 v2 h = some (r, h')) : Ct l yX11_turns (.code yX11_turns cX11_turns 5 (some .int) :: MW) G 3 88 [.ref (v0 - 1), .int v1, .int v2] h (some (.int r)) h' := by
  obtain ⟨hz0, hp⟩ := ck_i hp
  refine Ct.of (by decide +kernel) (Nat.le_of_ble_eq_true rfl) ?_
  intro p e s m args below meth c C hR ls hl
  have hl : zl ls 5 [(0, zr v0), (1, .int v1), (2, .int v2)] := ⟨by rw [zr_p hz0]; exact hl, by simp [zr_cat, in_cat]⟩
  exact s_X11_turns_0 C hR (fun _ hq => nomatch hq) hl hp
/-! CursorKeepModel.undo(I)I -/
def p_X11_undo_91  (s0 : Nat) (s1 : Int32) (s2 : Int32) (h : AH) : Option (Int32 × AH) :=
  ck (aK h s0 = 13) <|
  bR (p_X11_turns s0 s1 s2 h) fun r2 h3 =>
  some (r2, h3)
set_option maxHeartbeats 4000000 in
set_option maxRecDepth 100000 in
theorem s_X11_undo_91 {p : Program} {l : Launch} {e : Env} {s : State} {m : MethodId} {args : Array Value} {below : List Frame} {meth : Method} {c : Code} {G : GG} {hs : AH} {r : Int32} {h' : AH} (C : Cx G hs p s m args meth c cX11_undo 4 RX11 (.code yX11_undo cX11_undo 4 (some .int) :: MW) (some .int) "undo")   {s0 : Nat} {s1 : Int32} {s2 : Int32} {h : AH} {H : Heap} {locs : List Loc} {cells slots : Nat} {ls : Array Slot} (hR : Rp G h H) (hL : ∀ q ∈ locs, gB G ≤ q.base) (hl : zl ls 4 []) (hp : p_X11_undo_91  s0 s1 s2 h = some (r, h')) : W p l e (gR G hs 4 112) s m args below meth c H locs cells slots (MQ below (Qcc G (some (.int r)) h') args s (gC G - aZ hs) (gS - aU hs) (fun q => gB G ≤ q)) (F0 m 91 ls [.int s2, .int s1, zr s0]) := by
  obtain ⟨hx, hb, hml, hown, hts, hT, hK, rs, hlk, hret, hnm⟩ := id C
  have hm : ∀ w ∈ MW, w.before args s = true := fun w hw => hts w (hT w hw)
  unfold p_X11_undo_91 at hp
  obtain ⟨k1, hp⟩ := ck_i hp
  obtain ⟨r2, h3, er2, hp⟩ := bR_i hp
  refine r_callV (ci := 12) (r := (RX11, TX11, 32)) (n := 2) (As := [.int s1, .int s2]) (rest := []) C (c_X11_turns l G s0 s1 s2 h r2 h3 er2) hR hL rfl k1 mw_1132 mw_1134 mp_25 mw_10 mw_1135 (by decide +kernel) (by decide) rfl (zl_size hl) rfl (by simp [zr_cat, in_cat]) dX11_undo_91 (st2 := [.int r2]) rfl (fun H locs cells slots hR hL => ?_)
  cases hp
  exact r_zret C hR hL rfl dX11_undo_94
def p_X11_undo_26  (v0 : Nat) (v1 : Int32) (s0 : Nat) (s1 : Int32) (s2 : Int32) (h : AH) : Option (Int32 × AH) :=
  ck (aK h s0 = 13) <|
  bR (p_X11_goes s0 s1 s2 (iI 1) h) fun r2 h3 =>
  if r2 = 0 then
    some ((iI 0), h3)
  else
    ck (aK h3 v0 = 13) <|
    ck (aK h3 (aR h3 v0 7) = 20 ∧ ix v1 (aN h3 (aR h3 v0 7))) <|
    ck (aK h3 (aR h3 v0 7) = 20 ∧ ix v1 (aN h3 (aR h3 v0 7))) <|
    nm (uI h3 (aR h3 v0 7) v1.toNatClampNeg ((aI h3 (aR h3 v0 7) v1.toNatClampNeg) - (iI 1))) fun h10 =>
    ck (aK h10 v0 = 13) <|
    ck (aK h10 (aR h10 v0 8) = 20 ∧ ix v1 (aN h10 (aR h10 v0 8))) <|
    ck (aK h10 (aR h10 v0 8) = 20 ∧ ix v1 (aN h10 (aR h10 v0 8))) <|
    nm (uI h10 (aR h10 v0 8) v1.toNatClampNeg ((aI h10 (aR h10 v0 8) v1.toNatClampNeg) + (iI 1))) fun h16 =>
    ck (aK h16 v0 = 13) <|
    ck (aK h16 v0 = 13) <|
    ck (aK h16 (aR h16 v0 7) = 20 ∧ ix v1 (aN h16 (aR h16 v0 7))) <|
    ck (aK h16 (aR h16 v0 6) = 20 ∧ ix (((iI 600) * v1) + (aI h16 (aR h16 v0 7) v1.toNatClampNeg)) (aN h16 (aR h16 v0 6))) <|
    nm ((aI h16 (aR h16 v0 6) (((iI 600) * v1) + (aI h16 (aR h16 v0 7) v1.toNatClampNeg)).toNatClampNeg)) fun (x23 : Int32) =>
    if (x23 - x23 / (iI 1000) * (iI 1000)) < (iI 500) then
      p_X11_undo_91  v0 x23 (iI 0) h16
    else
      p_X11_undo_91  v0 x23 (iI 1) h16
set_option maxHeartbeats 4000000 in
set_option maxRecDepth 100000 in
theorem s_X11_undo_26 {p : Program} {l : Launch} {e : Env} {s : State} {m : MethodId} {args : Array Value} {below : List Frame} {meth : Method} {c : Code} {G : GG} {hs : AH} {r : Int32} {h' : AH} (C : Cx G hs p s m args meth c cX11_undo 4 RX11 (.code yX11_undo cX11_undo 4 (some .int) :: MW) (some .int) "undo")   {v0 : Nat} {v1 : Int32} {s0 : Nat} {s1 : Int32} {s2 : Int32} {h : AH} {H : Heap} {locs : List Loc} {cells slots : Nat} {ls : Array Slot} (hR : Rp G h H) (hL : ∀ q ∈ locs, gB G ≤ q.base) (hl : zl ls 4 [(0, zr v0), (1, .int v1)]) (hp : p_X11_undo_26  v0 v1 s0 s1 s2 h = some (r, h')) : W p l e (gR G hs 4 112) s m args below meth c H locs cells slots (MQ below (Qcc G (some (.int r)) h') args s (gC G - aZ hs) (gS - aU hs) (fun q => gB G ≤ q)) (F0 m 26 ls [.int s2, .int s1, zr s0]) := by
  obtain ⟨hx, hb, hml, hown, hts, hT, hK, rs, hlk, hret, hnm⟩ := id C
  have hm : ∀ w ∈ MW, w.before args s = true := fun w hw => hts w (hT w hw)
  unfold p_X11_undo_26 at hp
  refine lv_iconst (v := iI 1) hx hb dX11_undo_26 rfl ?_
  obtain ⟨k1, hp⟩ := ck_i hp
  obtain ⟨r2, h3, er2, hp⟩ := bR_i hp
  refine r_callV (ci := 12) (r := (RX11, TX11, 32)) (n := 3) (As := [.int s1, .int s2, .int (iI 1)]) (rest := []) C (c_X11_goes l G s0 s1 s2 (iI 1) h r2 h3 er2) hR hL rfl k1 mw_1096 mw_1098 mp_19 mw_10 mw_1099 (by decide +kernel) (by decide) rfl (zl_size hl) rfl (by simp [zr_cat, in_cat]) dX11_undo_27 (st2 := [.int r2]) rfl (fun H locs cells slots hR hL => ?_)
  refine lv_if_ne (tgt := 35) hx hb dX11_undo_30 (by decide) (fun c4 => ?_) (fun c4 => ?_)
  · replace hp := ite_n hp c4
    refine z_aload_n hx hb dX11_undo_35 rfl (zl_at hl 0 rfl) ?_
    obtain ⟨k5, hp⟩ := ck_i hp
    refine r_get (ci := 12) (C := RX11) (T := TX11) (N := 32) (v := zr (aR h3 v0 7)) hx hb hm ii_X11 hown hK hR rfl k5 7 (by decide) (hm _ mw_989) (fun _ h9 => h9) rfl dX11_undo_36 ?_
    refine lv_iload_n hx hb dX11_undo_39 rfl (zl_at hl 1 rfl) ?_
    refine lv_dup2_11 hx hb dX11_undo_40 rfl (zr_cat _) ?_
    obtain ⟨k6, hp⟩ := ck_i hp
    refine r_iald hx hb hK hR k6.1 k6.2 dX11_undo_41 ?_
    refine lv_iconst (v := iI 1) hx hb dX11_undo_42 rfl ?_
    refine lv_isub hx hb dX11_undo_43 ?_
    obtain ⟨k8, hp⟩ := ck_i hp
    refine r_iast hx hb hK hR hL k8.1 k8.2 dX11_undo_44 (fun H locs hR hL => ?_)
    obtain ⟨h10, hp, hR⟩ := nm_h hp hR
    refine z_aload_n hx hb dX11_undo_45 rfl (zl_at hl 0 rfl) ?_
    obtain ⟨k11, hp⟩ := ck_i hp
    refine r_get (ci := 12) (C := RX11) (T := TX11) (N := 32) (v := zr (aR h10 v0 8)) hx hb hm ii_X11 hown hK hR rfl k11 8 (by decide) (hm _ mw_990) (fun _ h9 => h9) rfl dX11_undo_46 ?_
    refine lv_iload_n hx hb dX11_undo_49 rfl (zl_at hl 1 rfl) ?_
    refine lv_dup2_11 hx hb dX11_undo_50 rfl (zr_cat _) ?_
    obtain ⟨k12, hp⟩ := ck_i hp
    refine r_iald hx hb hK hR k12.1 k12.2 dX11_undo_51 ?_
    refine lv_iconst (v := iI 1) hx hb dX11_undo_52 rfl ?_
    refine lv_iadd hx hb dX11_undo_53 ?_
    obtain ⟨k14, hp⟩ := ck_i hp
    refine r_iast hx hb hK hR hL k14.1 k14.2 dX11_undo_54 (fun H locs hR hL => ?_)
    obtain ⟨h16, hp, hR⟩ := nm_h hp hR
    refine z_aload_n hx hb dX11_undo_55 rfl (zl_at hl 0 rfl) ?_
    obtain ⟨k17, hp⟩ := ck_i hp
    refine r_get (ci := 12) (C := RX11) (T := TX11) (N := 32) (v := zr (aR h16 v0 6)) hx hb hm ii_X11 hown hK hR rfl k17 6 (by decide) (hm _ mw_988) (fun _ h9 => h9) rfl dX11_undo_56 ?_
    refine lv_sipush (v := iI 600) hx hb dX11_undo_59 (by decide +kernel) ?_
    refine lv_iload_n hx hb dX11_undo_62 rfl (zl_at hl 1 rfl) ?_
    refine lv_imul hx hb dX11_undo_63 ?_
    refine z_aload_n hx hb dX11_undo_64 rfl (zl_at hl 0 rfl) ?_
    obtain ⟨k18, hp⟩ := ck_i hp
    refine r_get (ci := 12) (C := RX11) (T := TX11) (N := 32) (v := zr (aR h16 v0 7)) hx hb hm ii_X11 hown hK hR rfl k18 7 (by decide) (hm _ mw_989) (fun _ h9 => h9) rfl dX11_undo_65 ?_
    refine lv_iload_n hx hb dX11_undo_68 rfl (zl_at hl 1 rfl) ?_
    obtain ⟨k19, hp⟩ := ck_i hp
    refine r_iald hx hb hK hR k19.1 k19.2 dX11_undo_69 ?_
    refine lv_iadd hx hb dX11_undo_70 ?_
    obtain ⟨k21, hp⟩ := ck_i hp
    refine r_iald hx hb hK hR k21.1 k21.2 dX11_undo_71 ?_
    refine lv_topi (fun x23 ex23 => ?_)
    replace hp := nm_i hp ex23
    refine z_istore_n (lv' := [(3, .int x23), (0, zr v0), (1, .int v1)]) hx hb dX11_undo_72 rfl hl (by decide) rfl (fun ls hl => ?_)
    refine z_aload_n hx hb dX11_undo_73 rfl (zl_at hl 1 rfl) ?_
    refine lv_iload_n hx hb dX11_undo_74 rfl (zl_at hl 0 rfl) ?_
    refine lv_iload_n hx hb dX11_undo_75 rfl (zl_at hl 0 rfl) ?_
    refine lv_sipush (v := iI 1000) hx hb dX11_undo_76 (by decide +kernel) ?_
    refine lv_irem hx hb dX11_undo_79 (by decide +kernel) ?_
    refine lv_sipush (v := iI 500) hx hb dX11_undo_80 (by decide +kernel) ?_
    refine lv_icmp_lt (tgt := 90) hx hb dX11_undo_83 (by decide) (fun c24 => ?_) (fun c24 => ?_)
    · replace hp := ite_p hp c24
      refine lv_iconst (v := iI 0) hx hb dX11_undo_90 rfl ?_
      exact s_X11_undo_91 C  hR hL (zl_sub hl [] rfl) hp
    · replace hp := ite_n hp c24
      refine lv_iconst (v := iI 1) hx hb dX11_undo_86 rfl ?_
      refine lv_goto (tgt := 91) hx hb dX11_undo_87 (by decide) ?_
      exact s_X11_undo_91 C  hR hL (zl_sub hl [] rfl) hp
  · replace hp := ite_p hp c4
    refine lv_iconst (v := iI 0) hx hb dX11_undo_33 rfl ?_
    cases hp
    exact r_zret C hR hL rfl dX11_undo_34
def p_X11_undo_25  (v0 : Nat) (v1 : Int32) (s0 : Nat) (s1 : Int32) (h : AH) : Option (Int32 × AH) :=
  p_X11_undo_26  v0 v1 s0 s1 (iI 0) h
set_option maxHeartbeats 4000000 in
set_option maxRecDepth 100000 in
theorem s_X11_undo_25 {p : Program} {l : Launch} {e : Env} {s : State} {m : MethodId} {args : Array Value} {below : List Frame} {meth : Method} {c : Code} {G : GG} {hs : AH} {r : Int32} {h' : AH} (C : Cx G hs p s m args meth c cX11_undo 4 RX11 (.code yX11_undo cX11_undo 4 (some .int) :: MW) (some .int) "undo")   {v0 : Nat} {v1 : Int32} {s0 : Nat} {s1 : Int32} {h : AH} {H : Heap} {locs : List Loc} {cells slots : Nat} {ls : Array Slot} (hR : Rp G h H) (hL : ∀ q ∈ locs, gB G ≤ q.base) (hl : zl ls 4 [(0, zr v0), (1, .int v1)]) (hp : p_X11_undo_25  v0 v1 s0 s1 h = some (r, h')) : W p l e (gR G hs 4 112) s m args below meth c H locs cells slots (MQ below (Qcc G (some (.int r)) h') args s (gC G - aZ hs) (gS - aU hs) (fun q => gB G ≤ q)) (F0 m 25 ls [.int s1, zr s0]) := by
  obtain ⟨hx, hb, hml, hown, hts, hT, hK, rs, hlk, hret, hnm⟩ := id C
  have hm : ∀ w ∈ MW, w.before args s = true := fun w hw => hts w (hT w hw)
  unfold p_X11_undo_25 at hp
  refine lv_iconst (v := iI 0) hx hb dX11_undo_25 rfl ?_
  exact s_X11_undo_26 C  hR hL (zl_sub hl [0, 1] rfl) hp
def p_X11_undo_0  (v0 : Nat) (v1 : Int32) (h : AH) : Option (Int32 × AH) :=
  bR (p_X11_isBelow v1 (iI 5) h) fun r1 h2 =>
  if r1 = 0 then
    p_X11_undo_25  v0 v1 v0 r1 h2
  else
    ck (aK h2 v0 = 13) <|
    ck (aK h2 (aR h2 v0 7) = 20 ∧ ix v1 (aN h2 (aR h2 v0 7))) <|
    if (aI h2 (aR h2 v0 7) v1.toNatClampNeg) ≤ 0 then
      p_X11_undo_25  v0 v1 v0 r1 h2
    else
      p_X11_undo_26  v0 v1 v0 r1 (iI 1) h2
set_option maxHeartbeats 4000000 in
set_option maxRecDepth 100000 in
theorem s_X11_undo_0 {p : Program} {l : Launch} {e : Env} {s : State} {m : MethodId} {args : Array Value} {below : List Frame} {meth : Method} {c : Code} {G : GG} {hs : AH} {r : Int32} {h' : AH} (C : Cx G hs p s m args meth c cX11_undo 4 RX11 (.code yX11_undo cX11_undo 4 (some .int) :: MW) (some .int) "undo")   {v0 : Nat} {v1 : Int32} {h : AH} {H : Heap} {locs : List Loc} {cells slots : Nat} {ls : Array Slot} (hR : Rp G h H) (hL : ∀ q ∈ locs, gB G ≤ q.base) (hl : zl ls 4 [(0, zr v0), (1, .int v1)]) (hp : p_X11_undo_0  v0 v1 h = some (r, h')) : W p l e (gR G hs 4 112) s m args below meth c H locs cells slots (MQ below (Qcc G (some (.int r)) h') args s (gC G - aZ hs) (gS - aU hs) (fun q => gB G ≤ q)) (F0 m 0 ls []) := by
  obtain ⟨hx, hb, hml, hown, hts, hT, hK, rs, hlk, hret, hnm⟩ := id C
  have hm : ∀ w ∈ MW, w.before args s = true := fun w hw => hts w (hT w hw)
  unfold p_X11_undo_0 at hp
  refine lv_iload_n hx hb dX11_undo_0 rfl (zl_at hl 1 rfl) ?_
  refine lv_iconst (v := iI 5) hx hb dX11_undo_1 rfl ?_
  obtain ⟨r1, h2, er1, hp⟩ := bR_i hp
  refine r_callS (n := 2) (As := [.int v1, .int (iI 5)]) (rest := []) C (c_X11_isBelow l G v1 (iI 5) h r1 h2 er1) hR hL mw_1090 mw_1091 mw_10 mw_1092 (by decide +kernel) (by decide) rfl (zl_size hl) rfl (by simp [zr_cat, in_cat]) dX11_undo_2 (st2 := [.int r1]) rfl (fun H locs cells slots hR hL => ?_)
  refine z_istore_n (lv' := [(2, .int r1), (0, zr v0), (1, .int v1)]) hx hb dX11_undo_5 rfl hl (by decide) rfl (fun ls hl => ?_)
  refine z_aload_n hx hb dX11_undo_6 rfl (zl_at hl 1 rfl) ?_
  refine lv_iload_n hx hb dX11_undo_7 rfl (zl_at hl 0 rfl) ?_
  refine lv_iload_n hx hb dX11_undo_8 rfl (zl_at hl 0 rfl) ?_
  refine lv_if_eq (tgt := 25) hx hb dX11_undo_9 (by decide) (fun c3 => ?_) (fun c3 => ?_)
  · replace hp := ite_p hp c3
    exact s_X11_undo_25 C  hR hL (zl_sub hl [1, 2] rfl) hp
  · replace hp := ite_n hp c3
    refine z_aload_n hx hb dX11_undo_12 rfl (zl_at hl 1 rfl) ?_
    obtain ⟨k4, hp⟩ := ck_i hp
    refine r_get (ci := 12) (C := RX11) (T := TX11) (N := 32) (v := zr (aR h2 v0 7)) hx hb hm ii_X11 hown hK hR rfl k4 7 (by decide) (hm _ mw_989) (fun _ h9 => h9) rfl dX11_undo_13 ?_
    refine lv_iload_n hx hb dX11_undo_16 rfl (zl_at hl 2 rfl) ?_
    obtain ⟨k5, hp⟩ := ck_i hp
    refine r_iald hx hb hK hR k5.1 k5.2 dX11_undo_17 ?_
    refine lv_if_le (tgt := 25) hx hb dX11_undo_18 (by decide) (fun c7 => ?_) (fun c7 => ?_)
    · replace hp := ite_p hp c7
      exact s_X11_undo_25 C  hR hL (zl_sub hl [1, 2] rfl) hp
    · replace hp := ite_n hp c7
      refine lv_iconst (v := iI 1) hx hb dX11_undo_21 rfl ?_
      refine lv_goto (tgt := 26) hx hb dX11_undo_22 (by decide) ?_
      exact s_X11_undo_26 C  hR hL (zl_sub hl [1, 2] rfl) hp
def p_X11_undo (v0 : Nat) (v1 : Int32) (h : AH) : Option (Int32 × AH) := ck (v0 ≠ 0) <| p_X11_undo_0 v0 v1 h
theorem c_X11_undo (l : Launch) (G : GG) (v0 : Nat) (v1 : Int32) (h : AH) (r : Int32) (h' : AH) (hp : p_X11_undo v0 v1 h = some (r, h')) : Ct l yX11_undo (.code yX11_undo cX11_undo 4 (some .int) :: MW) G 4 112 [.ref (v0 - 1), .int v1] h (some (.int r)) h' := by
  obtain ⟨hz0, hp⟩ := ck_i hp
  refine Ct.of (by decide +kernel) (Nat.le_of_ble_eq_true rfl) ?_
  intro p e s m args below meth c C hR ls hl
  have hl : zl ls 4 [(0, zr v0), (1, .int v1)] := ⟨by rw [zr_p hz0]; exact hl, by simp [zr_cat, in_cat]⟩
  exact s_X11_undo_0 C hR (fun _ hq => nomatch hq) hl hp
/-! CursorKeepModel.redo(I)I -/
def p_X11_redo_91  (s0 : Nat) (s1 : Int32) (s2 : Int32) (h : AH) : Option (Int32 × AH) :=
  ck (aK h s0 = 13) <|
  bR (p_X11_turns s0 s1 s2 h) fun r2 h3 =>
  some (r2, h3)
set_option maxHeartbeats 4000000 in
set_option maxRecDepth 100000 in
theorem s_X11_redo_91 {p : Program} {l : Launch} {e : Env} {s : State} {m : MethodId} {args : Array Value} {below : List Frame} {meth : Method} {c : Code} {G : GG} {hs : AH} {r : Int32} {h' : AH} (C : Cx G hs p s m args meth c cX11_redo 4 RX11 (.code yX11_redo cX11_redo 4 (some .int) :: MW) (some .int) "redo")   {s0 : Nat} {s1 : Int32} {s2 : Int32} {h : AH} {H : Heap} {locs : List Loc} {cells slots : Nat} {ls : Array Slot} (hR : Rp G h H) (hL : ∀ q ∈ locs, gB G ≤ q.base) (hl : zl ls 4 []) (hp : p_X11_redo_91  s0 s1 s2 h = some (r, h')) : W p l e (gR G hs 4 112) s m args below meth c H locs cells slots (MQ below (Qcc G (some (.int r)) h') args s (gC G - aZ hs) (gS - aU hs) (fun q => gB G ≤ q)) (F0 m 91 ls [.int s2, .int s1, zr s0]) := by
  obtain ⟨hx, hb, hml, hown, hts, hT, hK, rs, hlk, hret, hnm⟩ := id C
  have hm : ∀ w ∈ MW, w.before args s = true := fun w hw => hts w (hT w hw)
  unfold p_X11_redo_91 at hp
  obtain ⟨k1, hp⟩ := ck_i hp
  obtain ⟨r2, h3, er2, hp⟩ := bR_i hp
  refine r_callV (ci := 12) (r := (RX11, TX11, 32)) (n := 2) (As := [.int s1, .int s2]) (rest := []) C (c_X11_turns l G s0 s1 s2 h r2 h3 er2) hR hL rfl k1 mw_1132 mw_1134 mp_25 mw_10 mw_1135 (by decide +kernel) (by decide) rfl (zl_size hl) rfl (by simp [zr_cat, in_cat]) dX11_redo_91 (st2 := [.int r2]) rfl (fun H locs cells slots hR hL => ?_)
  cases hp
  exact r_zret C hR hL rfl dX11_redo_94
def p_X11_redo_26  (v0 : Nat) (v1 : Int32) (s0 : Nat) (s1 : Int32) (s2 : Int32) (h : AH) : Option (Int32 × AH) :=
  ck (aK h s0 = 13) <|
  bR (p_X11_goes s0 s1 s2 (iI 1) h) fun r2 h3 =>
  if r2 = 0 then
    some ((iI 0), h3)
  else
    ck (aK h3 v0 = 13) <|
    ck (aK h3 v0 = 13) <|
    ck (aK h3 (aR h3 v0 7) = 20 ∧ ix v1 (aN h3 (aR h3 v0 7))) <|
    ck (aK h3 (aR h3 v0 6) = 20 ∧ ix (((iI 600) * v1) + (aI h3 (aR h3 v0 7) v1.toNatClampNeg)) (aN h3 (aR h3 v0 6))) <|
    nm ((aI h3 (aR h3 v0 6) (((iI 600) * v1) + (aI h3 (aR h3 v0 7) v1.toNatClampNeg)).toNatClampNeg)) fun (x11 : Int32) =>
    ck (aK h3 v0 = 13) <|
    ck (aK h3 (aR h3 v0 7) = 20 ∧ ix v1 (aN h3 (aR h3 v0 7))) <|
    ck (aK h3 (aR h3 v0 7) = 20 ∧ ix v1 (aN h3 (aR h3 v0 7))) <|
    nm (uI h3 (aR h3 v0 7) v1.toNatClampNeg ((aI h3 (aR h3 v0 7) v1.toNatClampNeg) + (iI 1))) fun h17 =>
    ck (aK h17 v0 = 13) <|
    ck (aK h17 (aR h17 v0 8) = 20 ∧ ix v1 (aN h17 (aR h17 v0 8))) <|
    ck (aK h17 (aR h17 v0 8) = 20 ∧ ix v1 (aN h17 (aR h17 v0 8))) <|
    nm (uI h17 (aR h17 v0 8) v1.toNatClampNeg ((aI h17 (aR h17 v0 8) v1.toNatClampNeg) - (iI 1))) fun h23 =>
    if (iI 500) ≤ (x11 - x11 / (iI 1000) * (iI 1000)) then
      p_X11_redo_91  v0 x11 (iI 0) h23
    else
      p_X11_redo_91  v0 x11 (iI 1) h23
set_option maxHeartbeats 4000000 in
set_option maxRecDepth 100000 in
theorem s_X11_redo_26 {p : Program} {l : Launch} {e : Env} {s : State} {m : MethodId} {args : Array Value} {below : List Frame} {meth : Method} {c : Code} {G : GG} {hs : AH} {r : Int32} {h' : AH} (C : Cx G hs p s m args meth c cX11_redo 4 RX11 (.code yX11_redo cX11_redo 4 (some .int) :: MW) (some .int) "redo")   {v0 : Nat} {v1 : Int32} {s0 : Nat} {s1 : Int32} {s2 : Int32} {h : AH} {H : Heap} {locs : List Loc} {cells slots : Nat} {ls : Array Slot} (hR : Rp G h H) (hL : ∀ q ∈ locs, gB G ≤ q.base) (hl : zl ls 4 [(0, zr v0), (1, .int v1)]) (hp : p_X11_redo_26  v0 v1 s0 s1 s2 h = some (r, h')) : W p l e (gR G hs 4 112) s m args below meth c H locs cells slots (MQ below (Qcc G (some (.int r)) h') args s (gC G - aZ hs) (gS - aU hs) (fun q => gB G ≤ q)) (F0 m 26 ls [.int s2, .int s1, zr s0]) := by
  obtain ⟨hx, hb, hml, hown, hts, hT, hK, rs, hlk, hret, hnm⟩ := id C
  have hm : ∀ w ∈ MW, w.before args s = true := fun w hw => hts w (hT w hw)
  unfold p_X11_redo_26 at hp
  refine lv_iconst (v := iI 1) hx hb dX11_redo_26 rfl ?_
  obtain ⟨k1, hp⟩ := ck_i hp
  obtain ⟨r2, h3, er2, hp⟩ := bR_i hp
  refine r_callV (ci := 12) (r := (RX11, TX11, 32)) (n := 3) (As := [.int s1, .int s2, .int (iI 1)]) (rest := []) C (c_X11_goes l G s0 s1 s2 (iI 1) h r2 h3 er2) hR hL rfl k1 mw_1096 mw_1098 mp_19 mw_10 mw_1099 (by decide +kernel) (by decide) rfl (zl_size hl) rfl (by simp [zr_cat, in_cat]) dX11_redo_27 (st2 := [.int r2]) rfl (fun H locs cells slots hR hL => ?_)
  refine lv_if_ne (tgt := 35) hx hb dX11_redo_30 (by decide) (fun c4 => ?_) (fun c4 => ?_)
  · replace hp := ite_n hp c4
    refine z_aload_n hx hb dX11_redo_35 rfl (zl_at hl 0 rfl) ?_
    obtain ⟨k5, hp⟩ := ck_i hp
    refine r_get (ci := 12) (C := RX11) (T := TX11) (N := 32) (v := zr (aR h3 v0 6)) hx hb hm ii_X11 hown hK hR rfl k5 6 (by decide) (hm _ mw_988) (fun _ h9 => h9) rfl dX11_redo_36 ?_
    refine lv_sipush (v := iI 600) hx hb dX11_redo_39 (by decide +kernel) ?_
    refine lv_iload_n hx hb dX11_redo_42 rfl (zl_at hl 1 rfl) ?_
    refine lv_imul hx hb dX11_redo_43 ?_
    refine z_aload_n hx hb dX11_redo_44 rfl (zl_at hl 0 rfl) ?_
    obtain ⟨k6, hp⟩ := ck_i hp
    refine r_get (ci := 12) (C := RX11) (T := TX11) (N := 32) (v := zr (aR h3 v0 7)) hx hb hm ii_X11 hown hK hR rfl k6 7 (by decide) (hm _ mw_989) (fun _ h9 => h9) rfl dX11_redo_45 ?_
    refine lv_iload_n hx hb dX11_redo_48 rfl (zl_at hl 1 rfl) ?_
    obtain ⟨k7, hp⟩ := ck_i hp
    refine r_iald hx hb hK hR k7.1 k7.2 dX11_redo_49 ?_
    refine lv_iadd hx hb dX11_redo_50 ?_
    obtain ⟨k9, hp⟩ := ck_i hp
    refine r_iald hx hb hK hR k9.1 k9.2 dX11_redo_51 ?_
    refine lv_topi (fun x11 ex11 => ?_)
    replace hp := nm_i hp ex11
    refine z_istore_n (lv' := [(3, .int x11), (0, zr v0), (1, .int v1)]) hx hb dX11_redo_52 rfl hl (by decide) rfl (fun ls hl => ?_)
    refine z_aload_n hx hb dX11_redo_53 rfl (zl_at hl 1 rfl) ?_
    obtain ⟨k12, hp⟩ := ck_i hp
    refine r_get (ci := 12) (C := RX11) (T := TX11) (N := 32) (v := zr (aR h3 v0 7)) hx hb hm ii_X11 hown hK hR rfl k12 7 (by decide) (hm _ mw_989) (fun _ h9 => h9) rfl dX11_redo_54 ?_
    refine lv_iload_n hx hb dX11_redo_57 rfl (zl_at hl 2 rfl) ?_
    refine lv_dup2_11 hx hb dX11_redo_58 rfl (zr_cat _) ?_
    obtain ⟨k13, hp⟩ := ck_i hp
    refine r_iald hx hb hK hR k13.1 k13.2 dX11_redo_59 ?_
    refine lv_iconst (v := iI 1) hx hb dX11_redo_60 rfl ?_
    refine lv_iadd hx hb dX11_redo_61 ?_
    obtain ⟨k15, hp⟩ := ck_i hp
    refine r_iast hx hb hK hR hL k15.1 k15.2 dX11_redo_62 (fun H locs hR hL => ?_)
    obtain ⟨h17, hp, hR⟩ := nm_h hp hR
    refine z_aload_n hx hb dX11_redo_63 rfl (zl_at hl 1 rfl) ?_
    obtain ⟨k18, hp⟩ := ck_i hp
    refine r_get (ci := 12) (C := RX11) (T := TX11) (N := 32) (v := zr (aR h17 v0 8)) hx hb hm ii_X11 hown hK hR rfl k18 8 (by decide) (hm _ mw_990) (fun _ h9 => h9) rfl dX11_redo_64 ?_
    refine lv_iload_n hx hb dX11_redo_67 rfl (zl_at hl 2 rfl) ?_
    refine lv_dup2_11 hx hb dX11_redo_68 rfl (zr_cat _) ?_
    obtain ⟨k19, hp⟩ := ck_i hp
    refine r_iald hx hb hK hR k19.1 k19.2 dX11_redo_69 ?_
    refine lv_iconst (v := iI 1) hx hb dX11_redo_70 rfl ?_
    refine lv_isub hx hb dX11_redo_71 ?_
    obtain ⟨k21, hp⟩ := ck_i hp
    refine r_iast hx hb hK hR hL k21.1 k21.2 dX11_redo_72 (fun H locs hR hL => ?_)
    obtain ⟨h23, hp, hR⟩ := nm_h hp hR
    refine z_aload_n hx hb dX11_redo_73 rfl (zl_at hl 1 rfl) ?_
    refine lv_iload_n hx hb dX11_redo_74 rfl (zl_at hl 0 rfl) ?_
    refine lv_iload_n hx hb dX11_redo_75 rfl (zl_at hl 0 rfl) ?_
    refine lv_sipush (v := iI 1000) hx hb dX11_redo_76 (by decide +kernel) ?_
    refine lv_irem hx hb dX11_redo_79 (by decide +kernel) ?_
    refine lv_sipush (v := iI 500) hx hb dX11_redo_80 (by decide +kernel) ?_
    refine lv_icmp_ge (tgt := 90) hx hb dX11_redo_83 (by decide) (fun c24 => ?_) (fun c24 => ?_)
    · replace hp := ite_p hp c24
      refine lv_iconst (v := iI 0) hx hb dX11_redo_90 rfl ?_
      exact s_X11_redo_91 C  hR hL (zl_sub hl [] rfl) hp
    · replace hp := ite_n hp c24
      refine lv_iconst (v := iI 1) hx hb dX11_redo_86 rfl ?_
      refine lv_goto (tgt := 91) hx hb dX11_redo_87 (by decide) ?_
      exact s_X11_redo_91 C  hR hL (zl_sub hl [] rfl) hp
  · replace hp := ite_p hp c4
    refine lv_iconst (v := iI 0) hx hb dX11_redo_33 rfl ?_
    cases hp
    exact r_zret C hR hL rfl dX11_redo_34
def p_X11_redo_25  (v0 : Nat) (v1 : Int32) (s0 : Nat) (s1 : Int32) (h : AH) : Option (Int32 × AH) :=
  p_X11_redo_26  v0 v1 s0 s1 (iI 0) h
set_option maxHeartbeats 4000000 in
set_option maxRecDepth 100000 in
theorem s_X11_redo_25 {p : Program} {l : Launch} {e : Env} {s : State} {m : MethodId} {args : Array Value} {below : List Frame} {meth : Method} {c : Code} {G : GG} {hs : AH} {r : Int32} {h' : AH} (C : Cx G hs p s m args meth c cX11_redo 4 RX11 (.code yX11_redo cX11_redo 4 (some .int) :: MW) (some .int) "redo")   {v0 : Nat} {v1 : Int32} {s0 : Nat} {s1 : Int32} {h : AH} {H : Heap} {locs : List Loc} {cells slots : Nat} {ls : Array Slot} (hR : Rp G h H) (hL : ∀ q ∈ locs, gB G ≤ q.base) (hl : zl ls 4 [(0, zr v0), (1, .int v1)]) (hp : p_X11_redo_25  v0 v1 s0 s1 h = some (r, h')) : W p l e (gR G hs 4 112) s m args below meth c H locs cells slots (MQ below (Qcc G (some (.int r)) h') args s (gC G - aZ hs) (gS - aU hs) (fun q => gB G ≤ q)) (F0 m 25 ls [.int s1, zr s0]) := by
  obtain ⟨hx, hb, hml, hown, hts, hT, hK, rs, hlk, hret, hnm⟩ := id C
  have hm : ∀ w ∈ MW, w.before args s = true := fun w hw => hts w (hT w hw)
  unfold p_X11_redo_25 at hp
  refine lv_iconst (v := iI 0) hx hb dX11_redo_25 rfl ?_
  exact s_X11_redo_26 C  hR hL (zl_sub hl [0, 1] rfl) hp
def p_X11_redo_0  (v0 : Nat) (v1 : Int32) (h : AH) : Option (Int32 × AH) :=
  bR (p_X11_isBelow v1 (iI 5) h) fun r1 h2 =>
  if r1 = 0 then
    p_X11_redo_25  v0 v1 v0 r1 h2
  else
    ck (aK h2 v0 = 13) <|
    ck (aK h2 (aR h2 v0 8) = 20 ∧ ix v1 (aN h2 (aR h2 v0 8))) <|
    if (aI h2 (aR h2 v0 8) v1.toNatClampNeg) ≤ 0 then
      p_X11_redo_25  v0 v1 v0 r1 h2
    else
      p_X11_redo_26  v0 v1 v0 r1 (iI 1) h2
set_option maxHeartbeats 4000000 in
set_option maxRecDepth 100000 in
theorem s_X11_redo_0 {p : Program} {l : Launch} {e : Env} {s : State} {m : MethodId} {args : Array Value} {below : List Frame} {meth : Method} {c : Code} {G : GG} {hs : AH} {r : Int32} {h' : AH} (C : Cx G hs p s m args meth c cX11_redo 4 RX11 (.code yX11_redo cX11_redo 4 (some .int) :: MW) (some .int) "redo")   {v0 : Nat} {v1 : Int32} {h : AH} {H : Heap} {locs : List Loc} {cells slots : Nat} {ls : Array Slot} (hR : Rp G h H) (hL : ∀ q ∈ locs, gB G ≤ q.base) (hl : zl ls 4 [(0, zr v0), (1, .int v1)]) (hp : p_X11_redo_0  v0 v1 h = some (r, h')) : W p l e (gR G hs 4 112) s m args below meth c H locs cells slots (MQ below (Qcc G (some (.int r)) h') args s (gC G - aZ hs) (gS - aU hs) (fun q => gB G ≤ q)) (F0 m 0 ls []) := by
  obtain ⟨hx, hb, hml, hown, hts, hT, hK, rs, hlk, hret, hnm⟩ := id C
  have hm : ∀ w ∈ MW, w.before args s = true := fun w hw => hts w (hT w hw)
  unfold p_X11_redo_0 at hp
  refine lv_iload_n hx hb dX11_redo_0 rfl (zl_at hl 1 rfl) ?_
  refine lv_iconst (v := iI 5) hx hb dX11_redo_1 rfl ?_
  obtain ⟨r1, h2, er1, hp⟩ := bR_i hp
  refine r_callS (n := 2) (As := [.int v1, .int (iI 5)]) (rest := []) C (c_X11_isBelow l G v1 (iI 5) h r1 h2 er1) hR hL mw_1090 mw_1091 mw_10 mw_1092 (by decide +kernel) (by decide) rfl (zl_size hl) rfl (by simp [zr_cat, in_cat]) dX11_redo_2 (st2 := [.int r1]) rfl (fun H locs cells slots hR hL => ?_)
  refine z_istore_n (lv' := [(2, .int r1), (0, zr v0), (1, .int v1)]) hx hb dX11_redo_5 rfl hl (by decide) rfl (fun ls hl => ?_)
  refine z_aload_n hx hb dX11_redo_6 rfl (zl_at hl 1 rfl) ?_
  refine lv_iload_n hx hb dX11_redo_7 rfl (zl_at hl 0 rfl) ?_
  refine lv_iload_n hx hb dX11_redo_8 rfl (zl_at hl 0 rfl) ?_
  refine lv_if_eq (tgt := 25) hx hb dX11_redo_9 (by decide) (fun c3 => ?_) (fun c3 => ?_)
  · replace hp := ite_p hp c3
    exact s_X11_redo_25 C  hR hL (zl_sub hl [1, 2] rfl) hp
  · replace hp := ite_n hp c3
    refine z_aload_n hx hb dX11_redo_12 rfl (zl_at hl 1 rfl) ?_
    obtain ⟨k4, hp⟩ := ck_i hp
    refine r_get (ci := 12) (C := RX11) (T := TX11) (N := 32) (v := zr (aR h2 v0 8)) hx hb hm ii_X11 hown hK hR rfl k4 8 (by decide) (hm _ mw_990) (fun _ h9 => h9) rfl dX11_redo_13 ?_
    refine lv_iload_n hx hb dX11_redo_16 rfl (zl_at hl 2 rfl) ?_
    obtain ⟨k5, hp⟩ := ck_i hp
    refine r_iald hx hb hK hR k5.1 k5.2 dX11_redo_17 ?_
    refine lv_if_le (tgt := 25) hx hb dX11_redo_18 (by decide) (fun c7 => ?_) (fun c7 => ?_)
    · replace hp := ite_p hp c7
      exact s_X11_redo_25 C  hR hL (zl_sub hl [1, 2] rfl) hp
    · replace hp := ite_n hp c7
      refine lv_iconst (v := iI 1) hx hb dX11_redo_21 rfl ?_
      refine lv_goto (tgt := 26) hx hb dX11_redo_22 (by decide) ?_
      exact s_X11_redo_26 C  hR hL (zl_sub hl [1, 2] rfl) hp
def p_X11_redo (v0 : Nat) (v1 : Int32) (h : AH) : Option (Int32 × AH) := ck (v0 ≠ 0) <| p_X11_redo_0 v0 v1 h
theorem c_X11_redo (l : Launch) (G : GG) (v0 : Nat) (v1 : Int32) (h : AH) (r : Int32) (h' : AH) (hp : p_X11_redo v0 v1 h = some (r, h')) : Ct l yX11_redo (.code yX11_redo cX11_redo 4 (some .int) :: MW) G 4 112 [.ref (v0 - 1), .int v1] h (some (.int r)) h' := by
  obtain ⟨hz0, hp⟩ := ck_i hp
  refine Ct.of (by decide +kernel) (Nat.le_of_ble_eq_true rfl) ?_
  intro p e s m args below meth c C hR ls hl
  have hl : zl ls 4 [(0, zr v0), (1, .int v1)] := ⟨by rw [zr_p hz0]; exact hl, by simp [zr_cat, in_cat]⟩
  exact s_X11_redo_0 C hR (fun _ hq => nomatch hq) hl hp
/-! CursorKeepModel.isText(I)Z -/
def p_X11_isText_0  (v0 : Int32) (h : AH) : Option (Int32 × AH) :=
  bR (p_X11_isBelow v0 (iI 3) h) fun r1 h2 =>
  ck (okZ r1) <|
  some (r1, h2)
set_option maxHeartbeats 4000000 in
set_option maxRecDepth 100000 in
theorem s_X11_isText_0 {p : Program} {l : Launch} {e : Env} {s : State} {m : MethodId} {args : Array Value} {below : List Frame} {meth : Method} {c : Code} {G : GG} {hs : AH} {r : Int32} {h' : AH} (C : Cx G hs p s m args meth c cX11_isText 1 RX11 (.code yX11_isText cX11_isText 1 (some .boolean) :: MW) (some .boolean) "isText")   {v0 : Int32} {h : AH} {H : Heap} {locs : List Loc} {cells slots : Nat} {ls : Array Slot} (hR : Rp G h H) (hL : ∀ q ∈ locs, gB G ≤ q.base) (hl : zl ls 1 [(0, .int v0)]) (hp : p_X11_isText_0  v0 h = some (r, h')) : W p l e (gR G hs 2 61) s m args below meth c H locs cells slots (MQ below (Qcc G (some (.int r)) h') args s (gC G - aZ hs) (gS - aU hs) (fun q => gB G ≤ q)) (F0 m 0 ls []) := by
  obtain ⟨hx, hb, hml, hown, hts, hT, hK, rs, hlk, hret, hnm⟩ := id C
  have hm : ∀ w ∈ MW, w.before args s = true := fun w hw => hts w (hT w hw)
  unfold p_X11_isText_0 at hp
  refine lv_iload_n hx hb dX11_isText_0 rfl (zl_at hl 0 rfl) ?_
  refine lv_iconst (v := iI 3) hx hb dX11_isText_1 rfl ?_
  obtain ⟨r1, h2, er1, hp⟩ := bR_i hp
  refine r_callS (n := 2) (As := [.int v0, .int (iI 3)]) (rest := []) C (c_X11_isBelow l G v0 (iI 3) h r1 h2 er1) hR hL mw_1090 mw_1091 mw_10 mw_1092 (by decide +kernel) (by decide) rfl (zl_size hl) rfl (by simp [zr_cat, in_cat]) dX11_isText_2 (st2 := [.int r1]) rfl (fun H locs cells slots hR hL => ?_)
  obtain ⟨k3, hp⟩ := ck_i hp
  cases hp
  exact r_zret C hR hL (okZ_n k3) dX11_isText_5
def p_X11_isText (v0 : Int32) (h : AH) : Option (Int32 × AH) := p_X11_isText_0 v0 h
theorem c_X11_isText (l : Launch) (G : GG) (v0 : Int32) (h : AH) (r : Int32) (h' : AH) (hp : p_X11_isText v0 h = some (r, h')) : Ct l yX11_isText (.code yX11_isText cX11_isText 1 (some .boolean) :: MW) G 2 61 [.int v0] h (some (.int r)) h' := by
  refine Ct.of (by decide +kernel) (Nat.le_of_ble_eq_true rfl) ?_
  intro p e s m args below meth c C hR ls hl
  have hl : zl ls 1 [(0, .int v0)] := ⟨hl, by simp [zr_cat, in_cat]⟩
  exact s_X11_isText_0 C hR (fun _ hq => nomatch hq) hl hp
/-! CursorKeepModel.place(II)I -/
def p_X11_place_24  (s0 : Int32) (h : AH) : Option (Int32 × AH) :=
  some (s0, h)
set_option maxHeartbeats 4000000 in
set_option maxRecDepth 100000 in
theorem s_X11_place_24 {p : Program} {l : Launch} {e : Env} {s : State} {m : MethodId} {args : Array Value} {below : List Frame} {meth : Method} {c : Code} {G : GG} {hs : AH} {r : Int32} {h' : AH} (C : Cx G hs p s m args meth c cX11_place 3 RX11 (.code yX11_place cX11_place 3 (some .int) :: MW) (some .int) "place")   {s0 : Int32} {h : AH} {H : Heap} {locs : List Loc} {cells slots : Nat} {ls : Array Slot} (hR : Rp G h H) (hL : ∀ q ∈ locs, gB G ≤ q.base) (hl : zl ls 3 []) (hp : p_X11_place_24  s0 h = some (r, h')) : W p l e (gR G hs 3 88) s m args below meth c H locs cells slots (MQ below (Qcc G (some (.int r)) h') args s (gC G - aZ hs) (gS - aU hs) (fun q => gB G ≤ q)) (F0 m 24 ls [.int s0]) := by
  obtain ⟨hx, hb, hml, hown, hts, hT, hK, rs, hlk, hret, hnm⟩ := id C
  have hm : ∀ w ∈ MW, w.before args s = true := fun w hw => hts w (hT w hw)
  unfold p_X11_place_24 at hp
  cases hp
  exact r_zret C hR hL rfl dX11_place_24
def p_X11_place_0  (v0 : Nat) (v1 : Int32) (v2 : Int32) (h : AH) : Option (Int32 × AH) :=
  bR (p_X11_isHand v1 v2 h) fun r1 h2 =>
  ck (aK h2 v0 = 13) <|
  bR (p_X11_goes v0 r1 (iI 1) (iI 1) h2) fun r4 h5 =>
  if r4 = 0 then
    p_X11_place_24  (iI 0) h5
  else
    ck (aK h5 v0 = 13) <|
    bR (p_X11_placeOf v0 v1 v2 h5) fun r8 h9 =>
    p_X11_place_24  r8 h9
set_option maxHeartbeats 4000000 in
set_option maxRecDepth 100000 in
theorem s_X11_place_0 {p : Program} {l : Launch} {e : Env} {s : State} {m : MethodId} {args : Array Value} {below : List Frame} {meth : Method} {c : Code} {G : GG} {hs : AH} {r : Int32} {h' : AH} (C : Cx G hs p s m args meth c cX11_place 3 RX11 (.code yX11_place cX11_place 3 (some .int) :: MW) (some .int) "place")   {v0 : Nat} {v1 : Int32} {v2 : Int32} {h : AH} {H : Heap} {locs : List Loc} {cells slots : Nat} {ls : Array Slot} (hR : Rp G h H) (hL : ∀ q ∈ locs, gB G ≤ q.base) (hl : zl ls 3 [(0, zr v0), (1, .int v1), (2, .int v2)]) (hp : p_X11_place_0  v0 v1 v2 h = some (r, h')) : W p l e (gR G hs 3 88) s m args below meth c H locs cells slots (MQ below (Qcc G (some (.int r)) h') args s (gC G - aZ hs) (gS - aU hs) (fun q => gB G ≤ q)) (F0 m 0 ls []) := by
  obtain ⟨hx, hb, hml, hown, hts, hT, hK, rs, hlk, hret, hnm⟩ := id C
  have hm : ∀ w ∈ MW, w.before args s = true := fun w hw => hts w (hT w hw)
  unfold p_X11_place_0 at hp
  refine z_aload_n hx hb dX11_place_0 rfl (zl_at hl 0 rfl) ?_
  refine lv_iload_n hx hb dX11_place_1 rfl (zl_at hl 1 rfl) ?_
  refine lv_iload_n hx hb dX11_place_2 rfl (zl_at hl 2 rfl) ?_
  obtain ⟨r1, h2, er1, hp⟩ := bR_i hp
  refine r_callS (n := 2) (As := [.int v1, .int v2]) (rest := [zr v0]) C (c_X11_isHand l G v1 v2 h r1 h2 er1) hR hL mw_1087 mw_1088 mw_10 mw_1089 (by decide +kernel) (by decide) rfl (zl_size hl) rfl (by simp [zr_cat, in_cat]) dX11_place_3 (st2 := [.int r1, zr v0]) rfl (fun H locs cells slots hR hL => ?_)
  refine lv_iconst (v := iI 1) hx hb dX11_place_6 rfl ?_
  refine lv_iconst (v := iI 1) hx hb dX11_place_7 rfl ?_
  obtain ⟨k3, hp⟩ := ck_i hp
  obtain ⟨r4, h5, er4, hp⟩ := bR_i hp
  refine r_callV (ci := 12) (r := (RX11, TX11, 32)) (n := 3) (As := [.int r1, .int (iI 1), .int (iI 1)]) (rest := []) C (c_X11_goes l G v0 r1 (iI 1) (iI 1) h2 r4 h5 er4) hR hL rfl k3 mw_1096 mw_1098 mp_19 mw_10 mw_1099 (by decide +kernel) (by decide) rfl (zl_size hl) rfl (by simp [zr_cat, in_cat]) dX11_place_8 (st2 := [.int r4]) rfl (fun H locs cells slots hR hL => ?_)
  refine lv_if_eq (tgt := 23) hx hb dX11_place_11 (by decide) (fun c6 => ?_) (fun c6 => ?_)
  · replace hp := ite_p hp c6
    refine lv_iconst (v := iI 0) hx hb dX11_place_23 rfl ?_
    exact s_X11_place_24 C  hR hL (zl_sub hl [] rfl) hp
  · replace hp := ite_n hp c6
    refine z_aload_n hx hb dX11_place_14 rfl (zl_at hl 0 rfl) ?_
    refine lv_iload_n hx hb dX11_place_15 rfl (zl_at hl 1 rfl) ?_
    refine lv_iload_n hx hb dX11_place_16 rfl (zl_at hl 2 rfl) ?_
    obtain ⟨k7, hp⟩ := ck_i hp
    obtain ⟨r8, h9, er8, hp⟩ := bR_i hp
    refine r_callV (ci := 12) (r := (RX11, TX11, 32)) (n := 2) (As := [.int v1, .int v2]) (rest := []) C (c_X11_placeOf l G v0 v1 v2 h5 r8 h9 er8) hR hL rfl k7 mw_1108 mw_1110 mp_22 mw_10 mw_1111 (by decide +kernel) (by decide) rfl (zl_size hl) rfl (by simp [zr_cat, in_cat]) dX11_place_17 (st2 := [.int r8]) rfl (fun H locs cells slots hR hL => ?_)
    refine lv_goto (tgt := 24) hx hb dX11_place_20 (by decide) ?_
    exact s_X11_place_24 C  hR hL (zl_sub hl [] rfl) hp
def p_X11_place (v0 : Nat) (v1 : Int32) (v2 : Int32) (h : AH) : Option (Int32 × AH) := ck (v0 ≠ 0) <| p_X11_place_0 v0 v1 v2 h
theorem c_X11_place (l : Launch) (G : GG) (v0 : Nat) (v1 : Int32) (v2 : Int32) (h : AH) (r : Int32) (h' : AH) (hp : p_X11_place v0 v1 v2 h = some (r, h')) : Ct l yX11_place (.code yX11_place cX11_place 3 (some .int) :: MW) G 3 88 [.ref (v0 - 1), .int v1, .int v2] h (some (.int r)) h' := by
  obtain ⟨hz0, hp⟩ := ck_i hp
  refine Ct.of (by decide +kernel) (Nat.le_of_ble_eq_true rfl) ?_
  intro p e s m args below meth c C hR ls hl
  have hl : zl ls 3 [(0, zr v0), (1, .int v1), (2, .int v2)] := ⟨by rw [zr_p hz0]; exact hl, by simp [zr_cat, in_cat]⟩
  exact s_X11_place_0 C hR (fun _ hq => nomatch hq) hl hp
/-! CursorKeepModel.length(I)I -/
def p_X11_length_0  (v0 : Nat) (v1 : Int32) (h : AH) : Option (Int32 × AH) :=
  bR (p_X11_isText v1 h) fun r1 h2 =>
  ck (aK h2 v0 = 13) <|
  bR (p_X11_goes v0 r1 (iI 1) (iI 1) h2) fun r4 h5 =>
  if r4 = 0 then
    some ((iI 0), h5)
  else
    ck (aK h5 v0 = 13) <|
    bR (p_X11_shows v0 v1 h5) fun r8 h9 =>
    ck (aK h9 v0 = 13) <|
    some ((aI h9 v0 29), h9)
set_option maxHeartbeats 4000000 in
set_option maxRecDepth 100000 in
theorem s_X11_length_0 {p : Program} {l : Launch} {e : Env} {s : State} {m : MethodId} {args : Array Value} {below : List Frame} {meth : Method} {c : Code} {G : GG} {hs : AH} {r : Int32} {h' : AH} (C : Cx G hs p s m args meth c cX11_length 2 RX11 (.code yX11_length cX11_length 2 (some .int) :: MW) (some .int) "length")   {v0 : Nat} {v1 : Int32} {h : AH} {H : Heap} {locs : List Loc} {cells slots : Nat} {ls : Array Slot} (hR : Rp G h H) (hL : ∀ q ∈ locs, gB G ≤ q.base) (hl : zl ls 2 [(0, zr v0), (1, .int v1)]) (hp : p_X11_length_0  v0 v1 h = some (r, h')) : W p l e (gR G hs 3 81) s m args below meth c H locs cells slots (MQ below (Qcc G (some (.int r)) h') args s (gC G - aZ hs) (gS - aU hs) (fun q => gB G ≤ q)) (F0 m 0 ls []) := by
  obtain ⟨hx, hb, hml, hown, hts, hT, hK, rs, hlk, hret, hnm⟩ := id C
  have hm : ∀ w ∈ MW, w.before args s = true := fun w hw => hts w (hT w hw)
  unfold p_X11_length_0 at hp
  refine z_aload_n hx hb dX11_length_0 rfl (zl_at hl 0 rfl) ?_
  refine lv_iload_n hx hb dX11_length_1 rfl (zl_at hl 1 rfl) ?_
  obtain ⟨r1, h2, er1, hp⟩ := bR_i hp
  refine r_callS (n := 1) (As := [.int v1]) (rest := [zr v0]) C (c_X11_isText l G v1 h r1 h2 er1) hR hL mw_1148 mw_1149 mw_10 mw_1150 (by decide +kernel) (by decide) rfl (zl_size hl) rfl (by simp [zr_cat, in_cat]) dX11_length_2 (st2 := [.int r1, zr v0]) rfl (fun H locs cells slots hR hL => ?_)
  refine lv_iconst (v := iI 1) hx hb dX11_length_5 rfl ?_
  refine lv_iconst (v := iI 1) hx hb dX11_length_6 rfl ?_
  obtain ⟨k3, hp⟩ := ck_i hp
  obtain ⟨r4, h5, er4, hp⟩ := bR_i hp
  refine r_callV (ci := 12) (r := (RX11, TX11, 32)) (n := 3) (As := [.int r1, .int (iI 1), .int (iI 1)]) (rest := []) C (c_X11_goes l G v0 r1 (iI 1) (iI 1) h2 r4 h5 er4) hR hL rfl k3 mw_1096 mw_1098 mp_19 mw_10 mw_1099 (by decide +kernel) (by decide) rfl (zl_size hl) rfl (by simp [zr_cat, in_cat]) dX11_length_7 (st2 := [.int r4]) rfl (fun H locs cells slots hR hL => ?_)
  refine lv_if_ne (tgt := 15) hx hb dX11_length_10 (by decide) (fun c6 => ?_) (fun c6 => ?_)
  · replace hp := ite_n hp c6
    refine z_aload_n hx hb dX11_length_15 rfl (zl_at hl 0 rfl) ?_
    refine lv_iload_n hx hb dX11_length_16 rfl (zl_at hl 1 rfl) ?_
    obtain ⟨k7, hp⟩ := ck_i hp
    obtain ⟨r8, h9, er8, hp⟩ := bR_i hp
    refine r_callV (ci := 12) (r := (RX11, TX11, 32)) (n := 1) (As := [.int v1]) (rest := []) C (c_X11_shows l G v0 v1 h5 r8 h9 er8) hR hL rfl k7 mw_1116 mw_1118 mp_23 mw_10 mw_1119 (by decide +kernel) (by decide) rfl (zl_size hl) rfl (by simp [zr_cat, in_cat]) dX11_length_17 (st2 := []) rfl (fun H locs cells slots hR hL => ?_)
    refine z_aload_n hx hb dX11_length_20 rfl (zl_at hl 0 rfl) ?_
    obtain ⟨k10, hp⟩ := ck_i hp
    refine r_get (ci := 12) (C := RX11) (T := TX11) (N := 32) (v := .int (aI h9 v0 29)) hx hb hm ii_X11 hown hK hR rfl k10 29 (by decide) (hm _ mw_1011) (fun _ h9 => h9) rfl dX11_length_21 ?_
    cases hp
    exact r_zret C hR hL rfl dX11_length_24
  · replace hp := ite_p hp c6
    refine lv_iconst (v := iI 0) hx hb dX11_length_13 rfl ?_
    cases hp
    exact r_zret C hR hL rfl dX11_length_14
def p_X11_length (v0 : Nat) (v1 : Int32) (h : AH) : Option (Int32 × AH) := ck (v0 ≠ 0) <| p_X11_length_0 v0 v1 h
theorem c_X11_length (l : Launch) (G : GG) (v0 : Nat) (v1 : Int32) (h : AH) (r : Int32) (h' : AH) (hp : p_X11_length v0 v1 h = some (r, h')) : Ct l yX11_length (.code yX11_length cX11_length 2 (some .int) :: MW) G 3 81 [.ref (v0 - 1), .int v1] h (some (.int r)) h' := by
  obtain ⟨hz0, hp⟩ := ck_i hp
  refine Ct.of (by decide +kernel) (Nat.le_of_ble_eq_true rfl) ?_
  intro p e s m args below meth c C hR ls hl
  have hl : zl ls 2 [(0, zr v0), (1, .int v1)] := ⟨by rw [zr_p hz0]; exact hl, by simp [zr_cat, in_cat]⟩
  exact s_X11_length_0 C hR (fun _ hq => nomatch hq) hl hp
/-! CursorKeepModel.letter(II)C -/
def p_X11_letter_65  (s0 : Int32) (h : AH) : Option (Int32 × AH) :=
  ck (okC s0) <|
  some (s0, h)
set_option maxHeartbeats 4000000 in
set_option maxRecDepth 100000 in
theorem s_X11_letter_65 {p : Program} {l : Launch} {e : Env} {s : State} {m : MethodId} {args : Array Value} {below : List Frame} {meth : Method} {c : Code} {G : GG} {hs : AH} {r : Int32} {h' : AH} (C : Cx G hs p s m args meth c cX11_letter 4 RX11 (.code yX11_letter cX11_letter 4 (some .char) :: MW) (some .char) "letter")   {s0 : Int32} {h : AH} {H : Heap} {locs : List Loc} {cells slots : Nat} {ls : Array Slot} (hR : Rp G h H) (hL : ∀ q ∈ locs, gB G ≤ q.base) (hl : zl ls 4 []) (hp : p_X11_letter_65  s0 h = some (r, h')) : W p l e (gR G hs 3 81) s m args below meth c H locs cells slots (MQ below (Qcc G (some (.int r)) h') args s (gC G - aZ hs) (gS - aU hs) (fun q => gB G ≤ q)) (F0 m 65 ls [.int s0]) := by
  obtain ⟨hx, hb, hml, hown, hts, hT, hK, rs, hlk, hret, hnm⟩ := id C
  have hm : ∀ w ∈ MW, w.before args s = true := fun w hw => hts w (hT w hw)
  unfold p_X11_letter_65 at hp
  obtain ⟨k1, hp⟩ := ck_i hp
  cases hp
  exact r_zret C hR hL (okC_n k1) dX11_letter_65
def p_X11_letter_35  (v0 : Nat) (v1 : Int32) (v2 : Int32) (s0 : Nat) (s1 : Int32) (h : AH) : Option (Int32 × AH) :=
  ck (aK h s0 = 13) <|
  bR (p_X11_goes s0 s1 (iI 1) (iI 1) h) fun r2 h3 =>
  if r2 = 0 then
    p_X11_letter_65  (iI 0) h3
  else
    ck (aK h3 v0 = 13) <|
    ck (aK h3 v0 = 13) <|
    ck (aK h3 (aR h3 v0 28) = 20 ∧ ix v2 (aN h3 (aR h3 v0 28))) <|
    ck (aK h3 (aR h3 v0 1) = 20 ∧ ix (((iI 150) * v1) + (aI h3 (aR h3 v0 28) v2.toNatClampNeg)) (aN h3 (aR h3 v0 1))) <|
    p_X11_letter_65  (nC (aI h3 (aR h3 v0 1) (((iI 150) * v1) + (aI h3 (aR h3 v0 28) v2.toNatClampNeg)).toNatClampNeg)) h3
set_option maxHeartbeats 4000000 in
set_option maxRecDepth 100000 in
theorem s_X11_letter_35 {p : Program} {l : Launch} {e : Env} {s : State} {m : MethodId} {args : Array Value} {below : List Frame} {meth : Method} {c : Code} {G : GG} {hs : AH} {r : Int32} {h' : AH} (C : Cx G hs p s m args meth c cX11_letter 4 RX11 (.code yX11_letter cX11_letter 4 (some .char) :: MW) (some .char) "letter")   {v0 : Nat} {v1 : Int32} {v2 : Int32} {s0 : Nat} {s1 : Int32} {h : AH} {H : Heap} {locs : List Loc} {cells slots : Nat} {ls : Array Slot} (hR : Rp G h H) (hL : ∀ q ∈ locs, gB G ≤ q.base) (hl : zl ls 4 [(0, zr v0), (1, .int v1), (2, .int v2)]) (hp : p_X11_letter_35  v0 v1 v2 s0 s1 h = some (r, h')) : W p l e (gR G hs 3 81) s m args below meth c H locs cells slots (MQ below (Qcc G (some (.int r)) h') args s (gC G - aZ hs) (gS - aU hs) (fun q => gB G ≤ q)) (F0 m 35 ls [.int s1, zr s0]) := by
  obtain ⟨hx, hb, hml, hown, hts, hT, hK, rs, hlk, hret, hnm⟩ := id C
  have hm : ∀ w ∈ MW, w.before args s = true := fun w hw => hts w (hT w hw)
  unfold p_X11_letter_35 at hp
  refine lv_iconst (v := iI 1) hx hb dX11_letter_35 rfl ?_
  refine lv_iconst (v := iI 1) hx hb dX11_letter_36 rfl ?_
  obtain ⟨k1, hp⟩ := ck_i hp
  obtain ⟨r2, h3, er2, hp⟩ := bR_i hp
  refine r_callV (ci := 12) (r := (RX11, TX11, 32)) (n := 3) (As := [.int s1, .int (iI 1), .int (iI 1)]) (rest := []) C (c_X11_goes l G s0 s1 (iI 1) (iI 1) h r2 h3 er2) hR hL rfl k1 mw_1096 mw_1098 mp_19 mw_10 mw_1099 (by decide +kernel) (by decide) rfl (zl_size hl) rfl (by simp [zr_cat, in_cat]) dX11_letter_37 (st2 := [.int r2]) rfl (fun H locs cells slots hR hL => ?_)
  refine lv_if_eq (tgt := 64) hx hb dX11_letter_40 (by decide) (fun c4 => ?_) (fun c4 => ?_)
  · replace hp := ite_p hp c4
    refine lv_iconst (v := iI 0) hx hb dX11_letter_64 rfl ?_
    exact s_X11_letter_65 C  hR hL (zl_sub hl [] rfl) hp
  · replace hp := ite_n hp c4
    refine z_aload_n hx hb dX11_letter_43 rfl (zl_at hl 0 rfl) ?_
    obtain ⟨k5, hp⟩ := ck_i hp
    refine r_get (ci := 12) (C := RX11) (T := TX11) (N := 32) (v := zr (aR h3 v0 1)) hx hb hm ii_X11 hown hK hR rfl k5 1 (by decide) (hm _ mw_983) (fun _ h9 => h9) rfl dX11_letter_44 ?_
    refine lv_sipush (v := iI 150) hx hb dX11_letter_47 (by decide +kernel) ?_
    refine lv_iload_n hx hb dX11_letter_50 rfl (zl_at hl 1 rfl) ?_
    refine lv_imul hx hb dX11_letter_51 ?_
    refine z_aload_n hx hb dX11_letter_52 rfl (zl_at hl 0 rfl) ?_
    obtain ⟨k6, hp⟩ := ck_i hp
    refine r_get (ci := 12) (C := RX11) (T := TX11) (N := 32) (v := zr (aR h3 v0 28)) hx hb hm ii_X11 hown hK hR rfl k6 28 (by decide) (hm _ mw_1010) (fun _ h9 => h9) rfl dX11_letter_53 ?_
    refine lv_iload_n hx hb dX11_letter_56 rfl (zl_at hl 2 rfl) ?_
    obtain ⟨k7, hp⟩ := ck_i hp
    refine r_iald hx hb hK hR k7.1 k7.2 dX11_letter_57 ?_
    refine lv_iadd hx hb dX11_letter_58 ?_
    obtain ⟨k9, hp⟩ := ck_i hp
    refine r_iald hx hb hK hR k9.1 k9.2 dX11_letter_59 ?_
    refine lv_i2c (v := nC (aI h3 (aR h3 v0 1) (((iI 150) * v1) + (aI h3 (aR h3 v0 28) v2.toNatClampNeg)).toNatClampNeg)) hx hb dX11_letter_60 rfl ?_
    refine lv_goto (tgt := 65) hx hb dX11_letter_61 (by decide) ?_
    exact s_X11_letter_65 C  hR hL (zl_sub hl [] rfl) hp
def p_X11_letter_34  (v0 : Nat) (v1 : Int32) (v2 : Int32) (s0 : Nat) (h : AH) : Option (Int32 × AH) :=
  p_X11_letter_35  v0 v1 v2 s0 (iI 0) h
set_option maxHeartbeats 4000000 in
set_option maxRecDepth 100000 in
theorem s_X11_letter_34 {p : Program} {l : Launch} {e : Env} {s : State} {m : MethodId} {args : Array Value} {below : List Frame} {meth : Method} {c : Code} {G : GG} {hs : AH} {r : Int32} {h' : AH} (C : Cx G hs p s m args meth c cX11_letter 4 RX11 (.code yX11_letter cX11_letter 4 (some .char) :: MW) (some .char) "letter")   {v0 : Nat} {v1 : Int32} {v2 : Int32} {s0 : Nat} {h : AH} {H : Heap} {locs : List Loc} {cells slots : Nat} {ls : Array Slot} (hR : Rp G h H) (hL : ∀ q ∈ locs, gB G ≤ q.base) (hl : zl ls 4 [(0, zr v0), (1, .int v1), (2, .int v2)]) (hp : p_X11_letter_34  v0 v1 v2 s0 h = some (r, h')) : W p l e (gR G hs 3 81) s m args below meth c H locs cells slots (MQ below (Qcc G (some (.int r)) h') args s (gC G - aZ hs) (gS - aU hs) (fun q => gB G ≤ q)) (F0 m 34 ls [zr s0]) := by
  obtain ⟨hx, hb, hml, hown, hts, hT, hK, rs, hlk, hret, hnm⟩ := id C
  have hm : ∀ w ∈ MW, w.before args s = true := fun w hw => hts w (hT w hw)
  unfold p_X11_letter_34 at hp
  refine lv_iconst (v := iI 0) hx hb dX11_letter_34 rfl ?_
  exact s_X11_letter_35 C  hR hL (zl_sub hl [0, 1, 2] rfl) hp
def p_X11_letter_14  (v0 : Nat) (v1 : Int32) (v2 : Int32) (v3 : Int32) (h : AH) : Option (Int32 × AH) :=
  if v3 = 0 then
    p_X11_letter_34  v0 v1 v2 v0 h
  else
    ck (aK h v0 = 13) <|
    bR (p_X11_isBelow v2 (aI h v0 29) h) fun r3 h4 =>
    if r3 = 0 then
      p_X11_letter_34  v0 v1 v2 v0 h4
    else
      p_X11_letter_35  v0 v1 v2 v0 (iI 1) h4
set_option maxHeartbeats 4000000 in
set_option maxRecDepth 100000 in
theorem s_X11_letter_14 {p : Program} {l : Launch} {e : Env} {s : State} {m : MethodId} {args : Array Value} {below : List Frame} {meth : Method} {c : Code} {G : GG} {hs : AH} {r : Int32} {h' : AH} (C : Cx G hs p s m args meth c cX11_letter 4 RX11 (.code yX11_letter cX11_letter 4 (some .char) :: MW) (some .char) "letter")   {v0 : Nat} {v1 : Int32} {v2 : Int32} {v3 : Int32} {h : AH} {H : Heap} {locs : List Loc} {cells slots : Nat} {ls : Array Slot} (hR : Rp G h H) (hL : ∀ q ∈ locs, gB G ≤ q.base) (hl : zl ls 4 [(0, zr v0), (1, .int v1), (2, .int v2), (3, .int v3)]) (hp : p_X11_letter_14  v0 v1 v2 v3 h = some (r, h')) : W p l e (gR G hs 3 81) s m args below meth c H locs cells slots (MQ below (Qcc G (some (.int r)) h') args s (gC G - aZ hs) (gS - aU hs) (fun q => gB G ≤ q)) (F0 m 14 ls []) := by
  obtain ⟨hx, hb, hml, hown, hts, hT, hK, rs, hlk, hret, hnm⟩ := id C
  have hm : ∀ w ∈ MW, w.before args s = true := fun w hw => hts w (hT w hw)
  unfold p_X11_letter_14 at hp
  refine z_aload_n hx hb dX11_letter_14 rfl (zl_at hl 0 rfl) ?_
  refine lv_iload_n hx hb dX11_letter_15 rfl (zl_at hl 3 rfl) ?_
  refine lv_if_eq (tgt := 34) hx hb dX11_letter_16 (by decide) (fun c1 => ?_) (fun c1 => ?_)
  · replace hp := ite_p hp c1
    exact s_X11_letter_34 C  hR hL (zl_sub hl [0, 1, 2] rfl) hp
  · replace hp := ite_n hp c1
    refine lv_iload_n hx hb dX11_letter_19 rfl (zl_at hl 2 rfl) ?_
    refine z_aload_n hx hb dX11_letter_20 rfl (zl_at hl 0 rfl) ?_
    obtain ⟨k2, hp⟩ := ck_i hp
    refine r_get (ci := 12) (C := RX11) (T := TX11) (N := 32) (v := .int (aI h v0 29)) hx hb hm ii_X11 hown hK hR rfl k2 29 (by decide) (hm _ mw_1011) (fun _ h9 => h9) rfl dX11_letter_21 ?_
    obtain ⟨r3, h4, er3, hp⟩ := bR_i hp
    refine r_callS (n := 2) (As := [.int v2, .int (aI h v0 29)]) (rest := [zr v0]) C (c_X11_isBelow l G v2 (aI h v0 29) h r3 h4 er3) hR hL mw_1090 mw_1091 mw_10 mw_1092 (by decide +kernel) (by decide) rfl (zl_size hl) rfl (by simp [zr_cat, in_cat]) dX11_letter_24 (st2 := [.int r3, zr v0]) rfl (fun H locs cells slots hR hL => ?_)
    refine lv_if_eq (tgt := 34) hx hb dX11_letter_27 (by decide) (fun c5 => ?_) (fun c5 => ?_)
    · replace hp := ite_p hp c5
      exact s_X11_letter_34 C  hR hL (zl_sub hl [0, 1, 2] rfl) hp
    · replace hp := ite_n hp c5
      refine lv_iconst (v := iI 1) hx hb dX11_letter_30 rfl ?_
      refine lv_goto (tgt := 35) hx hb dX11_letter_31 (by decide) ?_
      exact s_X11_letter_35 C  hR hL (zl_sub hl [0, 1, 2] rfl) hp
def p_X11_letter_0  (v0 : Nat) (v1 : Int32) (v2 : Int32) (h : AH) : Option (Int32 × AH) :=
  bR (p_X11_isText v1 h) fun r1 h2 =>
  if r1 = 0 then
    p_X11_letter_14  v0 v1 v2 r1 h2
  else
    ck (aK h2 v0 = 13) <|
    bR (p_X11_shows v0 v1 h2) fun r5 h6 =>
    p_X11_letter_14  v0 v1 v2 r1 h6
set_option maxHeartbeats 4000000 in
set_option maxRecDepth 100000 in
theorem s_X11_letter_0 {p : Program} {l : Launch} {e : Env} {s : State} {m : MethodId} {args : Array Value} {below : List Frame} {meth : Method} {c : Code} {G : GG} {hs : AH} {r : Int32} {h' : AH} (C : Cx G hs p s m args meth c cX11_letter 4 RX11 (.code yX11_letter cX11_letter 4 (some .char) :: MW) (some .char) "letter")   {v0 : Nat} {v1 : Int32} {v2 : Int32} {h : AH} {H : Heap} {locs : List Loc} {cells slots : Nat} {ls : Array Slot} (hR : Rp G h H) (hL : ∀ q ∈ locs, gB G ≤ q.base) (hl : zl ls 4 [(0, zr v0), (1, .int v1), (2, .int v2)]) (hp : p_X11_letter_0  v0 v1 v2 h = some (r, h')) : W p l e (gR G hs 3 81) s m args below meth c H locs cells slots (MQ below (Qcc G (some (.int r)) h') args s (gC G - aZ hs) (gS - aU hs) (fun q => gB G ≤ q)) (F0 m 0 ls []) := by
  obtain ⟨hx, hb, hml, hown, hts, hT, hK, rs, hlk, hret, hnm⟩ := id C
  have hm : ∀ w ∈ MW, w.before args s = true := fun w hw => hts w (hT w hw)
  unfold p_X11_letter_0 at hp
  refine lv_iload_n hx hb dX11_letter_0 rfl (zl_at hl 1 rfl) ?_
  obtain ⟨r1, h2, er1, hp⟩ := bR_i hp
  refine r_callS (n := 1) (As := [.int v1]) (rest := []) C (c_X11_isText l G v1 h r1 h2 er1) hR hL mw_1148 mw_1149 mw_10 mw_1150 (by decide +kernel) (by decide) rfl (zl_size hl) rfl (by simp [zr_cat, in_cat]) dX11_letter_1 (st2 := [.int r1]) rfl (fun H locs cells slots hR hL => ?_)
  refine z_istore_n (lv' := [(3, .int r1), (0, zr v0), (1, .int v1), (2, .int v2)]) hx hb dX11_letter_4 rfl hl (by decide) rfl (fun ls hl => ?_)
  refine lv_iload_n hx hb dX11_letter_5 rfl (zl_at hl 0 rfl) ?_
  refine lv_if_eq (tgt := 14) hx hb dX11_letter_6 (by decide) (fun c3 => ?_) (fun c3 => ?_)
  · replace hp := ite_p hp c3
    exact s_X11_letter_14 C  hR hL (zl_sub hl [1, 2, 3, 0] rfl) hp
  · replace hp := ite_n hp c3
    refine z_aload_n hx hb dX11_letter_9 rfl (zl_at hl 1 rfl) ?_
    refine lv_iload_n hx hb dX11_letter_10 rfl (zl_at hl 2 rfl) ?_
    obtain ⟨k4, hp⟩ := ck_i hp
    obtain ⟨r5, h6, er5, hp⟩ := bR_i hp
    refine r_callV (ci := 12) (r := (RX11, TX11, 32)) (n := 1) (As := [.int v1]) (rest := []) C (c_X11_shows l G v0 v1 h2 r5 h6 er5) hR hL rfl k4 mw_1116 mw_1118 mp_23 mw_10 mw_1119 (by decide +kernel) (by decide) rfl (zl_size hl) rfl (by simp [zr_cat, in_cat]) dX11_letter_11 (st2 := []) rfl (fun H locs cells slots hR hL => ?_)
    exact s_X11_letter_14 C  hR hL (zl_sub hl [1, 2, 3, 0] rfl) hp
def p_X11_letter (v0 : Nat) (v1 : Int32) (v2 : Int32) (h : AH) : Option (Int32 × AH) := ck (v0 ≠ 0) <| p_X11_letter_0 v0 v1 v2 h
theorem c_X11_letter (l : Launch) (G : GG) (v0 : Nat) (v1 : Int32) (v2 : Int32) (h : AH) (r : Int32) (h' : AH) (hp : p_X11_letter v0 v1 v2 h = some (r, h')) : Ct l yX11_letter (.code yX11_letter cX11_letter 4 (some .char) :: MW) G 3 81 [.ref (v0 - 1), .int v1, .int v2] h (some (.int r)) h' := by
  obtain ⟨hz0, hp⟩ := ck_i hp
  refine Ct.of (by decide +kernel) (Nat.le_of_ble_eq_true rfl) ?_
  intro p e s m args below meth c C hR ls hl
  have hl : zl ls 4 [(0, zr v0), (1, .int v1), (2, .int v2)] := ⟨by rw [zr_p hz0]; exact hl, by simp [zr_cat, in_cat]⟩
  exact s_X11_letter_0 C hR (fun _ hq => nomatch hq) hl hp
/-! CursorKeepModel.letterAnew(II)C -/
def p_X11_letterAnew_0  (v0 : Nat) (v1 : Int32) (v2 : Int32) (h : AH) : Option (Int32 × AH) :=
  ck (aK h v0 = 13) <|
  bR (p_X11_letter v0 v1 v2 h) fun r2 h3 =>
  ck (okC r2) <|
  some (r2, h3)
set_option maxHeartbeats 4000000 in
set_option maxRecDepth 100000 in
theorem s_X11_letterAnew_0 {p : Program} {l : Launch} {e : Env} {s : State} {m : MethodId} {args : Array Value} {below : List Frame} {meth : Method} {c : Code} {G : GG} {hs : AH} {r : Int32} {h' : AH} (C : Cx G hs p s m args meth c cX11_letterAnew 3 RX11 (.code yX11_letterAnew cX11_letterAnew 3 (some .char) :: MW) (some .char) "letterAnew")   {v0 : Nat} {v1 : Int32} {v2 : Int32} {h : AH} {H : Heap} {locs : List Loc} {cells slots : Nat} {ls : Array Slot} (hR : Rp G h H) (hL : ∀ q ∈ locs, gB G ≤ q.base) (hl : zl ls 3 [(0, zr v0), (1, .int v1), (2, .int v2)]) (hp : p_X11_letterAnew_0  v0 v1 v2 h = some (r, h')) : W p l e (gR G hs 4 104) s m args below meth c H locs cells slots (MQ below (Qcc G (some (.int r)) h') args s (gC G - aZ hs) (gS - aU hs) (fun q => gB G ≤ q)) (F0 m 0 ls []) := by
  obtain ⟨hx, hb, hml, hown, hts, hT, hK, rs, hlk, hret, hnm⟩ := id C
  have hm : ∀ w ∈ MW, w.before args s = true := fun w hw => hts w (hT w hw)
  unfold p_X11_letterAnew_0 at hp
  refine z_aload_n hx hb dX11_letterAnew_0 rfl (zl_at hl 0 rfl) ?_
  refine lv_iload_n hx hb dX11_letterAnew_1 rfl (zl_at hl 1 rfl) ?_
  refine lv_iload_n hx hb dX11_letterAnew_2 rfl (zl_at hl 2 rfl) ?_
  obtain ⟨k1, hp⟩ := ck_i hp
  obtain ⟨r2, h3, er2, hp⟩ := bR_i hp
  refine r_callV (ci := 12) (r := (RX11, TX11, 32)) (n := 2) (As := [.int v1, .int v2]) (rest := []) C (c_X11_letter l G v0 v1 v2 h r2 h3 er2) hR hL rfl k1 mw_1159 mw_1152 mw_1153 mw_10 mw_1154 (by decide +kernel) (by decide) rfl (zl_size hl) rfl (by simp [zr_cat, in_cat]) dX11_letterAnew_3 (st2 := [.int r2]) rfl (fun H locs cells slots hR hL => ?_)
  obtain ⟨k4, hp⟩ := ck_i hp
  cases hp
  exact r_zret C hR hL (okC_n k4) dX11_letterAnew_6
def p_X11_letterAnew (v0 : Nat) (v1 : Int32) (v2 : Int32) (h : AH) : Option (Int32 × AH) := ck (v0 ≠ 0) <| p_X11_letterAnew_0 v0 v1 v2 h
theorem c_X11_letterAnew (l : Launch) (G : GG) (v0 : Nat) (v1 : Int32) (v2 : Int32) (h : AH) (r : Int32) (h' : AH) (hp : p_X11_letterAnew v0 v1 v2 h = some (r, h')) : Ct l yX11_letterAnew (.code yX11_letterAnew cX11_letterAnew 3 (some .char) :: MW) G 4 104 [.ref (v0 - 1), .int v1, .int v2] h (some (.int r)) h' := by
  obtain ⟨hz0, hp⟩ := ck_i hp
  refine Ct.of (by decide +kernel) (Nat.le_of_ble_eq_true rfl) ?_
  intro p e s m args below meth c C hR ls hl
  have hl : zl ls 3 [(0, zr v0), (1, .int v1), (2, .int v2)] := ⟨by rw [zr_p hz0]; exact hl, by simp [zr_cat, in_cat]⟩
  exact s_X11_letterAnew_0 C hR (fun _ hq => nomatch hq) hl hp
/-! CursorKeepModel.version(I)I -/
def p_X11_version_23  (s0 : Int32) (h : AH) : Option (Int32 × AH) :=
  some (s0, h)
set_option maxHeartbeats 4000000 in
set_option maxRecDepth 100000 in
theorem s_X11_version_23 {p : Program} {l : Launch} {e : Env} {s : State} {m : MethodId} {args : Array Value} {below : List Frame} {meth : Method} {c : Code} {G : GG} {hs : AH} {r : Int32} {h' : AH} (C : Cx G hs p s m args meth c cX11_version 2 RX11 (.code yX11_version cX11_version 2 (some .int) :: MW) (some .int) "version")   {s0 : Int32} {h : AH} {H : Heap} {locs : List Loc} {cells slots : Nat} {ls : Array Slot} (hR : Rp G h H) (hL : ∀ q ∈ locs, gB G ≤ q.base) (hl : zl ls 2 []) (hp : p_X11_version_23  s0 h = some (r, h')) : W p l e (gR G hs 3 81) s m args below meth c H locs cells slots (MQ below (Qcc G (some (.int r)) h') args s (gC G - aZ hs) (gS - aU hs) (fun q => gB G ≤ q)) (F0 m 23 ls [.int s0]) := by
  obtain ⟨hx, hb, hml, hown, hts, hT, hK, rs, hlk, hret, hnm⟩ := id C
  have hm : ∀ w ∈ MW, w.before args s = true := fun w hw => hts w (hT w hw)
  unfold p_X11_version_23 at hp
  cases hp
  exact r_zret C hR hL rfl dX11_version_23
def p_X11_version_0  (v0 : Nat) (v1 : Int32) (h : AH) : Option (Int32 × AH) :=
  bR (p_X11_isText v1 h) fun r1 h2 =>
  ck (aK h2 v0 = 13) <|
  bR (p_X11_goes v0 r1 (iI 1) (iI 1) h2) fun r4 h5 =>
  if r4 = 0 then
    p_X11_version_23  (iI 0) h5
  else
    ck (aK h5 v0 = 13) <|
    ck (aK h5 (aR h5 v0 4) = 20 ∧ ix v1 (aN h5 (aR h5 v0 4))) <|
    p_X11_version_23  (aI h5 (aR h5 v0 4) v1.toNatClampNeg) h5
set_option maxHeartbeats 4000000 in
set_option maxRecDepth 100000 in
theorem s_X11_version_0 {p : Program} {l : Launch} {e : Env} {s : State} {m : MethodId} {args : Array Value} {below : List Frame} {meth : Method} {c : Code} {G : GG} {hs : AH} {r : Int32} {h' : AH} (C : Cx G hs p s m args meth c cX11_version 2 RX11 (.code yX11_version cX11_version 2 (some .int) :: MW) (some .int) "version")   {v0 : Nat} {v1 : Int32} {h : AH} {H : Heap} {locs : List Loc} {cells slots : Nat} {ls : Array Slot} (hR : Rp G h H) (hL : ∀ q ∈ locs, gB G ≤ q.base) (hl : zl ls 2 [(0, zr v0), (1, .int v1)]) (hp : p_X11_version_0  v0 v1 h = some (r, h')) : W p l e (gR G hs 3 81) s m args below meth c H locs cells slots (MQ below (Qcc G (some (.int r)) h') args s (gC G - aZ hs) (gS - aU hs) (fun q => gB G ≤ q)) (F0 m 0 ls []) := by
  obtain ⟨hx, hb, hml, hown, hts, hT, hK, rs, hlk, hret, hnm⟩ := id C
  have hm : ∀ w ∈ MW, w.before args s = true := fun w hw => hts w (hT w hw)
  unfold p_X11_version_0 at hp
  refine z_aload_n hx hb dX11_version_0 rfl (zl_at hl 0 rfl) ?_
  refine lv_iload_n hx hb dX11_version_1 rfl (zl_at hl 1 rfl) ?_
  obtain ⟨r1, h2, er1, hp⟩ := bR_i hp
  refine r_callS (n := 1) (As := [.int v1]) (rest := [zr v0]) C (c_X11_isText l G v1 h r1 h2 er1) hR hL mw_1148 mw_1149 mw_10 mw_1150 (by decide +kernel) (by decide) rfl (zl_size hl) rfl (by simp [zr_cat, in_cat]) dX11_version_2 (st2 := [.int r1, zr v0]) rfl (fun H locs cells slots hR hL => ?_)
  refine lv_iconst (v := iI 1) hx hb dX11_version_5 rfl ?_
  refine lv_iconst (v := iI 1) hx hb dX11_version_6 rfl ?_
  obtain ⟨k3, hp⟩ := ck_i hp
  obtain ⟨r4, h5, er4, hp⟩ := bR_i hp
  refine r_callV (ci := 12) (r := (RX11, TX11, 32)) (n := 3) (As := [.int r1, .int (iI 1), .int (iI 1)]) (rest := []) C (c_X11_goes l G v0 r1 (iI 1) (iI 1) h2 r4 h5 er4) hR hL rfl k3 mw_1096 mw_1098 mp_19 mw_10 mw_1099 (by decide +kernel) (by decide) rfl (zl_size hl) rfl (by simp [zr_cat, in_cat]) dX11_version_7 (st2 := [.int r4]) rfl (fun H locs cells slots hR hL => ?_)
  refine lv_if_eq (tgt := 22) hx hb dX11_version_10 (by decide) (fun c6 => ?_) (fun c6 => ?_)
  · replace hp := ite_p hp c6
    refine lv_iconst (v := iI 0) hx hb dX11_version_22 rfl ?_
    exact s_X11_version_23 C  hR hL (zl_sub hl [] rfl) hp
  · replace hp := ite_n hp c6
    refine z_aload_n hx hb dX11_version_13 rfl (zl_at hl 0 rfl) ?_
    obtain ⟨k7, hp⟩ := ck_i hp
    refine r_get (ci := 12) (C := RX11) (T := TX11) (N := 32) (v := zr (aR h5 v0 4)) hx hb hm ii_X11 hown hK hR rfl k7 4 (by decide) (hm _ mw_986) (fun _ h9 => h9) rfl dX11_version_14 ?_
    refine lv_iload_n hx hb dX11_version_17 rfl (zl_at hl 1 rfl) ?_
    obtain ⟨k8, hp⟩ := ck_i hp
    refine r_iald hx hb hK hR k8.1 k8.2 dX11_version_18 ?_
    refine lv_goto (tgt := 23) hx hb dX11_version_19 (by decide) ?_
    exact s_X11_version_23 C  hR hL (zl_sub hl [] rfl) hp
def p_X11_version (v0 : Nat) (v1 : Int32) (h : AH) : Option (Int32 × AH) := ck (v0 ≠ 0) <| p_X11_version_0 v0 v1 h
theorem c_X11_version (l : Launch) (G : GG) (v0 : Nat) (v1 : Int32) (h : AH) (r : Int32) (h' : AH) (hp : p_X11_version v0 v1 h = some (r, h')) : Ct l yX11_version (.code yX11_version cX11_version 2 (some .int) :: MW) G 3 81 [.ref (v0 - 1), .int v1] h (some (.int r)) h' := by
  obtain ⟨hz0, hp⟩ := ck_i hp
  refine Ct.of (by decide +kernel) (Nat.le_of_ble_eq_true rfl) ?_
  intro p e s m args below meth c C hR ls hl
  have hl : zl ls 2 [(0, zr v0), (1, .int v1)] := ⟨by rw [zr_p hz0]; exact hl, by simp [zr_cat, in_cat]⟩
  exact s_X11_version_0 C hR (fun _ hq => nomatch hq) hl hp
/-! CursorKeepModel.signAt(II)I -/
def p_X11_signAt_0  (v0 : Nat) (v1 : Int32) (v2 : Int32) (h : AH) : Option (Int32 × AH) :=
  ck (aK h v0 = 13) <|
  ck (aK h v0 = 13) <|
  ck (aK h (aR h v0 28) = 20 ∧ ix v2 (aN h (aR h v0 28))) <|
  ck (aK h (aR h v0 1) = 20 ∧ ix (((iI 150) * v1) + (aI h (aR h v0 28) v2.toNatClampNeg)) (aN h (aR h v0 1))) <|
  some ((aI h (aR h v0 1) (((iI 150) * v1) + (aI h (aR h v0 28) v2.toNatClampNeg)).toNatClampNeg), h)
set_option maxHeartbeats 4000000 in
set_option maxRecDepth 100000 in
theorem s_X11_signAt_0 {p : Program} {l : Launch} {e : Env} {s : State} {m : MethodId} {args : Array Value} {below : List Frame} {meth : Method} {c : Code} {G : GG} {hs : AH} {r : Int32} {h' : AH} (C : Cx G hs p s m args meth c cX11_signAt 3 RX11 (.code yX11_signAt cX11_signAt 3 (some .int) :: MW) (some .int) "signAt")   {v0 : Nat} {v1 : Int32} {v2 : Int32} {h : AH} {H : Heap} {locs : List Loc} {cells slots : Nat} {ls : Array Slot} (hR : Rp G h H) (hL : ∀ q ∈ locs, gB G ≤ q.base) (hl : zl ls 3 [(0, zr v0), (1, .int v1), (2, .int v2)]) (hp : p_X11_signAt_0  v0 v1 v2 h = some (r, h')) : W p l e (gR G hs 1 40) s m args below meth c H locs cells slots (MQ below (Qcc G (some (.int r)) h') args s (gC G - aZ hs) (gS - aU hs) (fun q => gB G ≤ q)) (F0 m 0 ls []) := by
  obtain ⟨hx, hb, hml, hown, hts, hT, hK, rs, hlk, hret, hnm⟩ := id C
  have hm : ∀ w ∈ MW, w.before args s = true := fun w hw => hts w (hT w hw)
  unfold p_X11_signAt_0 at hp
  refine z_aload_n hx hb dX11_signAt_0 rfl (zl_at hl 0 rfl) ?_
  obtain ⟨k1, hp⟩ := ck_i hp
  refine r_get (ci := 12) (C := RX11) (T := TX11) (N := 32) (v := zr (aR h v0 1)) hx hb hm ii_X11 hown hK hR rfl k1 1 (by decide) (hm _ mw_983) (fun _ h9 => h9) rfl dX11_signAt_1 ?_
  refine lv_sipush (v := iI 150) hx hb dX11_signAt_4 (by decide +kernel) ?_
  refine lv_iload_n hx hb dX11_signAt_7 rfl (zl_at hl 1 rfl) ?_
  refine lv_imul hx hb dX11_signAt_8 ?_
  refine z_aload_n hx hb dX11_signAt_9 rfl (zl_at hl 0 rfl) ?_
  obtain ⟨k2, hp⟩ := ck_i hp
  refine r_get (ci := 12) (C := RX11) (T := TX11) (N := 32) (v := zr (aR h v0 28)) hx hb hm ii_X11 hown hK hR rfl k2 28 (by decide) (hm _ mw_1010) (fun _ h9 => h9) rfl dX11_signAt_10 ?_
  refine lv_iload_n hx hb dX11_signAt_13 rfl (zl_at hl 2 rfl) ?_
  obtain ⟨k3, hp⟩ := ck_i hp
  refine r_iald hx hb hK hR k3.1 k3.2 dX11_signAt_14 ?_
  refine lv_iadd hx hb dX11_signAt_15 ?_
  obtain ⟨k5, hp⟩ := ck_i hp
  refine r_iald hx hb hK hR k5.1 k5.2 dX11_signAt_16 ?_
  cases hp
  exact r_zret C hR hL rfl dX11_signAt_17
def p_X11_signAt (v0 : Nat) (v1 : Int32) (v2 : Int32) (h : AH) : Option (Int32 × AH) := ck (v0 ≠ 0) <| p_X11_signAt_0 v0 v1 v2 h
theorem c_X11_signAt (l : Launch) (G : GG) (v0 : Nat) (v1 : Int32) (v2 : Int32) (h : AH) (r : Int32) (h' : AH) (hp : p_X11_signAt v0 v1 v2 h = some (r, h')) : Ct l yX11_signAt (.code yX11_signAt cX11_signAt 3 (some .int) :: MW) G 1 40 [.ref (v0 - 1), .int v1, .int v2] h (some (.int r)) h' := by
  obtain ⟨hz0, hp⟩ := ck_i hp
  refine Ct.of (by decide +kernel) (Nat.le_of_ble_eq_true rfl) ?_
  intro p e s m args below meth c C hR ls hl
  have hl : zl ls 3 [(0, zr v0), (1, .int v1), (2, .int v2)] := ⟨by rw [zr_p hz0]; exact hl, by simp [zr_cat, in_cat]⟩
  exact s_X11_signAt_0 C hR (fun _ hq => nomatch hq) hl hp
/-! CursorKeepModel.wants(III)V -/
def p_X11_wants_0  (v0 : Nat) (v1 : Int32) (v2 : Int32) (v3 : Int32) (h : AH) : Option (Unit × AH) :=
  ck (aK h v0 = 13) <|
  ck (aK h v0 = 13) <|
  ck (aK h v0 = 13) <|
  ck (aK h (aR h v0 11) = 20 ∧ ix (aI h v0 18) (aN h (aR h v0 11))) <|
  nm ((((iI 150) * (aI h v0 18)) + (aI h (aR h v0 11) (aI h v0 18).toNatClampNeg))) fun (x6 : Int32) =>
  ck (aK h v0 = 13) <|
  ck (aK h v0 = 13) <|
  ck (aK h (aR h v0 28) = 20 ∧ ix v2 (aN h (aR h v0 28))) <|
  ck (aK h (aR h v0 13) = 20 ∧ ix x6 (aN h (aR h v0 13))) <|
  nm (uI h (aR h v0 13) x6.toNatClampNeg (aI h (aR h v0 28) v2.toNatClampNeg)) fun h13 =>
  ck (aK h13 v0 = 13) <|
  ck (aK h13 v0 = 13) <|
  bR (p_X11_signAt v0 v1 v2 h13) fun r16 h17 =>
  ck (aK h17 (aR h13 v0 14) = 20 ∧ ix x6 (aN h17 (aR h13 v0 14))) <|
  nm (uI h17 (aR h13 v0 14) x6.toNatClampNeg r16) fun h20 =>
  ck (aK h20 v0 = 13) <|
  ck (aK h20 (aR h20 v0 15) = 20 ∧ ix x6 (aN h20 (aR h20 v0 15))) <|
  nm (uI h20 (aR h20 v0 15) x6.toNatClampNeg v3) fun h24 =>
  ck (aK h24 v0 = 13) <|
  ck (aK h24 v0 = 13) <|
  ck (aK h24 (aR h24 v0 11) = 20 ∧ ix (aI h24 v0 18) (aN h24 (aR h24 v0 11))) <|
  ck (aK h24 (aR h24 v0 11) = 20 ∧ ix (aI h24 v0 18) (aN h24 (aR h24 v0 11))) <|
  nm (uI h24 (aR h24 v0 11) (aI h24 v0 18).toNatClampNeg ((aI h24 (aR h24 v0 11) (aI h24 v0 18).toNatClampNeg) + (iI 1))) fun h31 =>
  some ((), h31)
set_option maxHeartbeats 4000000 in
set_option maxRecDepth 100000 in
theorem s_X11_wants_0 {p : Program} {l : Launch} {e : Env} {s : State} {m : MethodId} {args : Array Value} {below : List Frame} {meth : Method} {c : Code} {G : GG} {hs : AH} {r : Unit} {h' : AH} (C : Cx G hs p s m args meth c cX11_wants 5 RX11 (.code yX11_wants cX11_wants 5 none :: MW) none "wants")   {v0 : Nat} {v1 : Int32} {v2 : Int32} {v3 : Int32} {h : AH} {H : Heap} {locs : List Loc} {cells slots : Nat} {ls : Array Slot} (hR : Rp G h H) (hL : ∀ q ∈ locs, gB G ≤ q.base) (hl : zl ls 5 [(0, zr v0), (1, .int v1), (2, .int v2), (3, .int v3)]) (hp : p_X11_wants_0  v0 v1 v2 v3 h = some (r, h')) : W p l e (gR G hs 2 62) s m args below meth c H locs cells slots (MQ below (Qcc G (none) h') args s (gC G - aZ hs) (gS - aU hs) (fun q => gB G ≤ q)) (F0 m 0 ls []) := by
  obtain ⟨hx, hb, hml, hown, hts, hT, hK, rs, hlk, hret, hnm⟩ := id C
  have hm : ∀ w ∈ MW, w.before args s = true := fun w hw => hts w (hT w hw)
  unfold p_X11_wants_0 at hp
  refine lv_sipush (v := iI 150) hx hb dX11_wants_0 (by decide +kernel) ?_
  refine z_aload_n hx hb dX11_wants_3 rfl (zl_at hl 0 rfl) ?_
  obtain ⟨k1, hp⟩ := ck_i hp
  refine r_get (ci := 12) (C := RX11) (T := TX11) (N := 32) (v := .int (aI h v0 18)) hx hb hm ii_X11 hown hK hR rfl k1 18 (by decide) (hm _ mw_1000) (fun _ h9 => h9) rfl dX11_wants_4 ?_
  refine lv_imul hx hb dX11_wants_7 ?_
  refine z_aload_n hx hb dX11_wants_8 rfl (zl_at hl 0 rfl) ?_
  obtain ⟨k2, hp⟩ := ck_i hp
  refine r_get (ci := 12) (C := RX11) (T := TX11) (N := 32) (v := zr (aR h v0 11)) hx hb hm ii_X11 hown hK hR rfl k2 11 (by decide) (hm _ mw_993) (fun _ h9 => h9) rfl dX11_wants_9 ?_
  refine z_aload_n hx hb dX11_wants_12 rfl (zl_at hl 0 rfl) ?_
  obtain ⟨k3, hp⟩ := ck_i hp
  refine r_get (ci := 12) (C := RX11) (T := TX11) (N := 32) (v := .int (aI h v0 18)) hx hb hm ii_X11 hown hK hR rfl k3 18 (by decide) (hm _ mw_1000) (fun _ h9 => h9) rfl dX11_wants_13 ?_
  obtain ⟨k4, hp⟩ := ck_i hp
  refine r_iald hx hb hK hR k4.1 k4.2 dX11_wants_16 ?_
  refine lv_iadd hx hb dX11_wants_17 ?_
  refine lv_topi (fun x6 ex6 => ?_)
  replace hp := nm_i hp ex6
  refine z_istore (lv' := [(4, .int x6), (0, zr v0), (1, .int v1), (2, .int v2), (3, .int v3)]) hx hb dX11_wants_18 hl (by decide) rfl (fun ls hl => ?_)
  refine z_aload_n hx hb dX11_wants_20 rfl (zl_at hl 1 rfl) ?_
  obtain ⟨k7, hp⟩ := ck_i hp
  refine r_get (ci := 12) (C := RX11) (T := TX11) (N := 32) (v := zr (aR h v0 13)) hx hb hm ii_X11 hown hK hR rfl k7 13 (by decide) (hm _ mw_995) (fun _ h9 => h9) rfl dX11_wants_21 ?_
  refine lv_iload hx hb dX11_wants_24 (zl_at hl 0 rfl) ?_
  refine z_aload_n hx hb dX11_wants_26 rfl (zl_at hl 1 rfl) ?_
  obtain ⟨k8, hp⟩ := ck_i hp
  refine r_get (ci := 12) (C := RX11) (T := TX11) (N := 32) (v := zr (aR h v0 28)) hx hb hm ii_X11 hown hK hR rfl k8 28 (by decide) (hm _ mw_1010) (fun _ h9 => h9) rfl dX11_wants_27 ?_
  refine lv_iload_n hx hb dX11_wants_30 rfl (zl_at hl 3 rfl) ?_
  obtain ⟨k9, hp⟩ := ck_i hp
  refine r_iald hx hb hK hR k9.1 k9.2 dX11_wants_31 ?_
  obtain ⟨k11, hp⟩ := ck_i hp
  refine r_iast hx hb hK hR hL k11.1 k11.2 dX11_wants_32 (fun H locs hR hL => ?_)
  obtain ⟨h13, hp, hR⟩ := nm_h hp hR
  refine z_aload_n hx hb dX11_wants_33 rfl (zl_at hl 1 rfl) ?_
  obtain ⟨k14, hp⟩ := ck_i hp
  refine r_get (ci := 12) (C := RX11) (T := TX11) (N := 32) (v := zr (aR h13 v0 14)) hx hb hm ii_X11 hown hK hR rfl k14 14 (by decide) (hm _ mw_996) (fun _ h9 => h9) rfl dX11_wants_34 ?_
  refine lv_iload hx hb dX11_wants_37 (zl_at hl 0 rfl) ?_
  refine z_aload_n hx hb dX11_wants_39 rfl (zl_at hl 1 rfl) ?_
  refine lv_iload_n hx hb dX11_wants_40 rfl (zl_at hl 2 rfl) ?_
  refine lv_iload_n hx hb dX11_wants_41 rfl (zl_at hl 3 rfl) ?_
  obtain ⟨k15, hp⟩ := ck_i hp
  obtain ⟨r16, h17, er16, hp⟩ := bR_i hp
  refine r_callV (ci := 12) (r := (RX11, TX11, 32)) (n := 2) (As := [.int v1, .int v2]) (rest := [.int x6, zr (aR h13 v0 14)]) C (c_X11_signAt l G v0 v1 v2 h13 r16 h17 er16) hR hL rfl k15 mw_1176 mw_1178 mp_28 mw_10 mw_1179 (by decide +kernel) (by decide) rfl (zl_size hl) rfl (by simp [zr_cat, in_cat]) dX11_wants_42 (st2 := [.int r16, .int x6, zr (aR h13 v0 14)]) rfl (fun H locs cells slots hR hL => ?_)
  obtain ⟨k18, hp⟩ := ck_i hp
  refine r_iast hx hb hK hR hL k18.1 k18.2 dX11_wants_45 (fun H locs hR hL => ?_)
  obtain ⟨h20, hp, hR⟩ := nm_h hp hR
  refine z_aload_n hx hb dX11_wants_46 rfl (zl_at hl 1 rfl) ?_
  obtain ⟨k21, hp⟩ := ck_i hp
  refine r_get (ci := 12) (C := RX11) (T := TX11) (N := 32) (v := zr (aR h20 v0 15)) hx hb hm ii_X11 hown hK hR rfl k21 15 (by decide) (hm _ mw_997) (fun _ h9 => h9) rfl dX11_wants_47 ?_
  refine lv_iload hx hb dX11_wants_50 (zl_at hl 0 rfl) ?_
  refine lv_iload_n hx hb dX11_wants_52 rfl (zl_at hl 4 rfl) ?_
  obtain ⟨k22, hp⟩ := ck_i hp
  refine r_iast hx hb hK hR hL k22.1 k22.2 dX11_wants_53 (fun H locs hR hL => ?_)
  obtain ⟨h24, hp, hR⟩ := nm_h hp hR
  refine z_aload_n hx hb dX11_wants_54 rfl (zl_at hl 1 rfl) ?_
  obtain ⟨k25, hp⟩ := ck_i hp
  refine r_get (ci := 12) (C := RX11) (T := TX11) (N := 32) (v := zr (aR h24 v0 11)) hx hb hm ii_X11 hown hK hR rfl k25 11 (by decide) (hm _ mw_993) (fun _ h9 => h9) rfl dX11_wants_55 ?_
  refine z_aload_n hx hb dX11_wants_58 rfl (zl_at hl 1 rfl) ?_
  obtain ⟨k26, hp⟩ := ck_i hp
  refine r_get (ci := 12) (C := RX11) (T := TX11) (N := 32) (v := .int (aI h24 v0 18)) hx hb hm ii_X11 hown hK hR rfl k26 18 (by decide) (hm _ mw_1000) (fun _ h9 => h9) rfl dX11_wants_59 ?_
  refine lv_dup2_11 hx hb dX11_wants_62 rfl (zr_cat _) ?_
  obtain ⟨k27, hp⟩ := ck_i hp
  refine r_iald hx hb hK hR k27.1 k27.2 dX11_wants_63 ?_
  refine lv_iconst (v := iI 1) hx hb dX11_wants_64 rfl ?_
  refine lv_iadd hx hb dX11_wants_65 ?_
  obtain ⟨k29, hp⟩ := ck_i hp
  refine r_iast hx hb hK hR hL k29.1 k29.2 dX11_wants_66 (fun H locs hR hL => ?_)
  obtain ⟨h31, hp, hR⟩ := nm_h hp hR
  cases hp
  exact r_vret C hR hL dX11_wants_67
def p_X11_wants (v0 : Nat) (v1 : Int32) (v2 : Int32) (v3 : Int32) (h : AH) : Option (Unit × AH) := ck (v0 ≠ 0) <| p_X11_wants_0 v0 v1 v2 v3 h
theorem c_X11_wants (l : Launch) (G : GG) (v0 : Nat) (v1 : Int32) (v2 : Int32) (v3 : Int32) (h : AH) (r : Unit) (h' : AH) (hp : p_X11_wants v0 v1 v2 v3 h = some (r, h')) : Ct l yX11_wants (.code yX11_wants cX11_wants 5 none :: MW) G 2 62 [.ref (v0 - 1), .int v1, .int v2, .int v3] h (none) h' := by
  obtain ⟨hz0, hp⟩ := ck_i hp
  refine Ct.of (by decide +kernel) (Nat.le_of_ble_eq_true rfl) ?_
  intro p e s m args below meth c C hR ls hl
  have hl : zl ls 5 [(0, zr v0), (1, .int v1), (2, .int v2), (3, .int v3)] := ⟨by rw [zr_p hz0]; exact hl, by simp [zr_cat, in_cat]⟩
  exact s_X11_wants_0 C hR (fun _ hq => nomatch hq) hl hp
/-! CursorKeepModel.nextEnd(II)I -/
def p_X11_nextEnd_27  (v3 : Int32) (h : AH) : Option (Int32 × AH) :=
  some (v3, h)
set_option maxHeartbeats 4000000 in
set_option maxRecDepth 100000 in
theorem s_X11_nextEnd_27 {p : Program} {l : Launch} {e : Env} {s : State} {m : MethodId} {args : Array Value} {below : List Frame} {meth : Method} {c : Code} {G : GG} {hs : AH} {r : Int32} {h' : AH} (C : Cx G hs p s m args meth c cX11_nextEnd 4 RX11 (.code yX11_nextEnd cX11_nextEnd 4 (some .int) :: MW) (some .int) "nextEnd")   {v3 : Int32} {h : AH} {H : Heap} {locs : List Loc} {cells slots : Nat} {ls : Array Slot} (hR : Rp G h H) (hL : ∀ q ∈ locs, gB G ≤ q.base) (hl : zl ls 4 [(3, .int v3)]) (hp : p_X11_nextEnd_27  v3 h = some (r, h')) : W p l e (gR G hs 2 62) s m args below meth c H locs cells slots (MQ below (Qcc G (some (.int r)) h') args s (gC G - aZ hs) (gS - aU hs) (fun q => gB G ≤ q)) (F0 m 27 ls []) := by
  obtain ⟨hx, hb, hml, hown, hts, hT, hK, rs, hlk, hret, hnm⟩ := id C
  have hm : ∀ w ∈ MW, w.before args s = true := fun w hw => hts w (hT w hw)
  unfold p_X11_nextEnd_27 at hp
  refine lv_iload_n hx hb dX11_nextEnd_27 rfl (zl_at hl 0 rfl) ?_
  cases hp
  exact r_zret C hR hL rfl dX11_nextEnd_28
def p_X11_nextEnd_2  : Nat → Nat → Int32 → Int32 → AH → Option (Int32 × AH)
  | 0, _, _, _, _ => none
  | n + 1, v0, v1, v3, h =>
    ck (aK h v0 = 13) <|
    if (aI h v0 29) ≤ v3 then
      p_X11_nextEnd_27  v3 h
    else
      ck (aK h v0 = 13) <|
      bR (p_X11_signAt v0 v1 v3 h) fun r4 h5 =>
      if r4 = (iI 47) then
        p_X11_nextEnd_27  v3 h5
      else
        nm (v3 + iI 1) fun (x7 : Int32) =>
        p_X11_nextEnd_2  n v0 v1 x7 h5
set_option maxHeartbeats 4000000 in
set_option maxRecDepth 100000 in
theorem s_X11_nextEnd_2 {p : Program} {l : Launch} {e : Env} {s : State} {m : MethodId} {args : Array Value} {below : List Frame} {meth : Method} {c : Code} {G : GG} {hs : AH} {r : Int32} {h' : AH} (C : Cx G hs p s m args meth c cX11_nextEnd 4 RX11 (.code yX11_nextEnd cX11_nextEnd 4 (some .int) :: MW) (some .int) "nextEnd")   : ∀ (n : Nat) (v0 : Nat) (v1 : Int32) (v3 : Int32) (h : AH) (H : Heap) (locs : List Loc) (cells slots : Nat) (ls : Array Slot) (hR : Rp G h H) (hL : ∀ q ∈ locs, gB G ≤ q.base) (hl : zl ls 4 [(0, zr v0), (1, .int v1), (3, .int v3)]) (hp : p_X11_nextEnd_2  n v0 v1 v3 h = some (r, h')), W p l e (gR G hs 2 62) s m args below meth c H locs cells slots (MQ below (Qcc G (some (.int r)) h') args s (gC G - aZ hs) (gS - aU hs) (fun q => gB G ≤ q)) (F0 m 2 ls []) := by
  obtain ⟨hx, hb, hml, hown, hts, hT, hK, rs, hlk, hret, hnm⟩ := id C
  have hm : ∀ w ∈ MW, w.before args s = true := fun w hw => hts w (hT w hw)
  intro n
  induction n with
  | zero =>
    intro v0 v1 v3 h H locs cells slots ls hR hL hl hp
    exact absurd (show none = some (r, h') from hp) (by simp)
  | succ n ih =>
    intro v0 v1 v3 h H locs cells slots ls hR hL hl hp
    rw [p_X11_nextEnd_2.eq_2] at hp
    refine lv_iload_n hx hb dX11_nextEnd_2 rfl (zl_at hl 2 rfl) ?_
    refine z_aload_n hx hb dX11_nextEnd_3 rfl (zl_at hl 0 rfl) ?_
    obtain ⟨k1, hp⟩ := ck_i hp
    refine r_get (ci := 12) (C := RX11) (T := TX11) (N := 32) (v := .int (aI h v0 29)) hx hb hm ii_X11 hown hK hR rfl k1 29 (by decide) (hm _ mw_1011) (fun _ h9 => h9) rfl dX11_nextEnd_4 ?_
    refine lv_icmp_ge (tgt := 27) hx hb dX11_nextEnd_7 (by decide) (fun c2 => ?_) (fun c2 => ?_)
    · replace hp := ite_p hp c2
      exact s_X11_nextEnd_27 C  hR hL (zl_sub hl [2] rfl) hp
    · replace hp := ite_n hp c2
      refine z_aload_n hx hb dX11_nextEnd_10 rfl (zl_at hl 0 rfl) ?_
      refine lv_iload_n hx hb dX11_nextEnd_11 rfl (zl_at hl 1 rfl) ?_
      refine lv_iload_n hx hb dX11_nextEnd_12 rfl (zl_at hl 2 rfl) ?_
      obtain ⟨k3, hp⟩ := ck_i hp
      obtain ⟨r4, h5, er4, hp⟩ := bR_i hp
      refine r_callV (ci := 12) (r := (RX11, TX11, 32)) (n := 2) (As := [.int v1, .int v3]) (rest := []) C (c_X11_signAt l G v0 v1 v3 h r4 h5 er4) hR hL rfl k3 mw_1176 mw_1178 mp_28 mw_10 mw_1179 (by decide +kernel) (by decide) rfl (zl_size hl) rfl (by simp [zr_cat, in_cat]) dX11_nextEnd_13 (st2 := [.int r4]) rfl (fun H locs cells slots hR hL => ?_)
      refine lv_bipush (v := iI 47) hx hb dX11_nextEnd_16 (by decide +kernel) ?_
      refine lv_icmp_eq (tgt := 27) hx hb dX11_nextEnd_18 (by decide) (fun c6 => ?_) (fun c6 => ?_)
      · replace hp := ite_p hp c6
        exact s_X11_nextEnd_27 C  hR hL (zl_sub hl [2] rfl) hp
      · replace hp := ite_n hp c6
        obtain ⟨x7, ex7⟩ : ∃ y : Int32, y = v3 + iI 1 := ⟨_, rfl⟩
        replace hp := nm_i hp ex7
        refine z_iinc (v := x7) (lv' := [(3, .int x7), (0, zr v0), (1, .int v1)]) hx hb dX11_nextEnd_21 hl (k := 2) rfl ex7 (by decide) rfl (fun ls hl => ?_)
        refine lv_goto (tgt := 2) hx hb dX11_nextEnd_24 (by decide) ?_
        exact ih _ _ _ _ _ _ _ _ _ hR hL (zl_sub hl [1, 2, 0] rfl) hp
def p_X11_nextEnd_0  (v0 : Nat) (v1 : Int32) (v2 : Int32) (h : AH) : Option (Int32 × AH) :=
  p_X11_nextEnd_2  FU v0 v1 v2 h
set_option maxHeartbeats 4000000 in
set_option maxRecDepth 100000 in
theorem s_X11_nextEnd_0 {p : Program} {l : Launch} {e : Env} {s : State} {m : MethodId} {args : Array Value} {below : List Frame} {meth : Method} {c : Code} {G : GG} {hs : AH} {r : Int32} {h' : AH} (C : Cx G hs p s m args meth c cX11_nextEnd 4 RX11 (.code yX11_nextEnd cX11_nextEnd 4 (some .int) :: MW) (some .int) "nextEnd")   {v0 : Nat} {v1 : Int32} {v2 : Int32} {h : AH} {H : Heap} {locs : List Loc} {cells slots : Nat} {ls : Array Slot} (hR : Rp G h H) (hL : ∀ q ∈ locs, gB G ≤ q.base) (hl : zl ls 4 [(0, zr v0), (1, .int v1), (2, .int v2)]) (hp : p_X11_nextEnd_0  v0 v1 v2 h = some (r, h')) : W p l e (gR G hs 2 62) s m args below meth c H locs cells slots (MQ below (Qcc G (some (.int r)) h') args s (gC G - aZ hs) (gS - aU hs) (fun q => gB G ≤ q)) (F0 m 0 ls []) := by
  obtain ⟨hx, hb, hml, hown, hts, hT, hK, rs, hlk, hret, hnm⟩ := id C
  have hm : ∀ w ∈ MW, w.before args s = true := fun w hw => hts w (hT w hw)
  unfold p_X11_nextEnd_0 at hp
  refine lv_iload_n hx hb dX11_nextEnd_0 rfl (zl_at hl 2 rfl) ?_
  refine z_istore_n (lv' := [(3, .int v2), (0, zr v0), (1, .int v1), (2, .int v2)]) hx hb dX11_nextEnd_1 rfl hl (by decide) rfl (fun ls hl => ?_)
  exact s_X11_nextEnd_2 C  _ _ _ _ _ _ _ _ _ _ hR hL (zl_sub hl [1, 2, 0] rfl) hp
def p_X11_nextEnd (v0 : Nat) (v1 : Int32) (v2 : Int32) (h : AH) : Option (Int32 × AH) := ck (v0 ≠ 0) <| p_X11_nextEnd_0 v0 v1 v2 h
theorem c_X11_nextEnd (l : Launch) (G : GG) (v0 : Nat) (v1 : Int32) (v2 : Int32) (h : AH) (r : Int32) (h' : AH) (hp : p_X11_nextEnd v0 v1 v2 h = some (r, h')) : Ct l yX11_nextEnd (.code yX11_nextEnd cX11_nextEnd 4 (some .int) :: MW) G 2 62 [.ref (v0 - 1), .int v1, .int v2] h (some (.int r)) h' := by
  obtain ⟨hz0, hp⟩ := ck_i hp
  refine Ct.of (by decide +kernel) (Nat.le_of_ble_eq_true rfl) ?_
  intro p e s m args below meth c C hR ls hl
  have hl : zl ls 4 [(0, zr v0), (1, .int v1), (2, .int v2)] := ⟨by rw [zr_p hz0]; exact hl, by simp [zr_cat, in_cat]⟩
  exact s_X11_nextEnd_0 C hR (fun _ hq => nomatch hq) hl hp
/-! CursorKeepModel.wantsLetters(II)V -/
def p_X11_wantsLetters_195 (k2 : Nat → Int32 → Int32 → Int32 → AH → Option (Unit × AH)) (v0 : Nat) (v1 : Int32) (v2 : Int32) (v3 : Int32) (h : AH) : Option (Unit × AH) :=
  nm (v3 + iI 1) fun (x1 : Int32) =>
  k2 v0 v1 v2 x1 h
set_option maxHeartbeats 4000000 in
set_option maxRecDepth 100000 in
theorem s_X11_wantsLetters_195 {p : Program} {l : Launch} {e : Env} {s : State} {m : MethodId} {args : Array Value} {below : List Frame} {meth : Method} {c : Code} {G : GG} {hs : AH} {r : Unit} {h' : AH} (C : Cx G hs p s m args meth c cX11_wantsLetters 9 RX11 (.code yX11_wantsLetters cX11_wantsLetters 9 none :: MW) none "wantsLetters") {k2 : Nat → Int32 → Int32 → Int32 → AH → Option (Unit × AH)} (hk2 : ∀ {v0 : Nat} {v1 : Int32} {v2 : Int32} {v3 : Int32} {h : AH} {H : Heap} {locs : List Loc} {cells slots : Nat} {ls : Array Slot}, Rp G h H → (∀ q ∈ locs, gB G ≤ q.base) → zl ls 9 [(0, zr v0), (1, .int v1), (2, .int v2), (3, .int v3)] → k2 v0 v1 v2 v3 h = some (r, h') → W p l e (gR G hs 3 86) s m args below meth c H locs cells slots (MQ below (Qcc G (none) h') args s (gC G - aZ hs) (gS - aU hs) (fun q => gB G ≤ q)) (F0 m 2 ls [])) {v0 : Nat} {v1 : Int32} {v2 : Int32} {v3 : Int32} {h : AH} {H : Heap} {locs : List Loc} {cells slots : Nat} {ls : Array Slot} (hR : Rp G h H) (hL : ∀ q ∈ locs, gB G ≤ q.base) (hl : zl ls 9 [(0, zr v0), (1, .int v1), (2, .int v2), (3, .int v3)]) (hp : p_X11_wantsLetters_195 k2 v0 v1 v2 v3 h = some (r, h')) : W p l e (gR G hs 3 86) s m args below meth c H locs cells slots (MQ below (Qcc G (none) h') args s (gC G - aZ hs) (gS - aU hs) (fun q => gB G ≤ q)) (F0 m 195 ls []) := by
  obtain ⟨hx, hb, hml, hown, hts, hT, hK, rs, hlk, hret, hnm⟩ := id C
  have hm : ∀ w ∈ MW, w.before args s = true := fun w hw => hts w (hT w hw)
  unfold p_X11_wantsLetters_195 at hp
  obtain ⟨x1, ex1⟩ : ∃ y : Int32, y = v3 + iI 1 := ⟨_, rfl⟩
  replace hp := nm_i hp ex1
  refine z_iinc (v := x1) (lv' := [(3, .int x1), (0, zr v0), (1, .int v1), (2, .int v2)]) hx hb dX11_wantsLetters_195 hl (k := 3) rfl ex1 (by decide) rfl (fun ls hl => ?_)
  refine lv_goto (tgt := 2) hx hb dX11_wantsLetters_198 (by decide) ?_
  exact hk2 hR hL (zl_sub hl [1, 2, 3, 0] rfl) hp
def p_X11_wantsLetters_150 (k2 : Nat → Int32 → Int32 → Int32 → AH → Option (Unit × AH)) (v0 : Nat) (v1 : Int32) (v2 : Int32) (v3 : Int32) (h : AH) : Option (Unit × AH) :=
  ck (aK h v0 = 13) <|
  bR (p_X11_wants v0 v1 v3 (iI 0) h) fun r2 h3 =>
  p_X11_wantsLetters_195 k2 v0 v1 v2 v3 h3
set_option maxHeartbeats 4000000 in
set_option maxRecDepth 100000 in
theorem s_X11_wantsLetters_150 {p : Program} {l : Launch} {e : Env} {s : State} {m : MethodId} {args : Array Value} {below : List Frame} {meth : Method} {c : Code} {G : GG} {hs : AH} {r : Unit} {h' : AH} (C : Cx G hs p s m args meth c cX11_wantsLetters 9 RX11 (.code yX11_wantsLetters cX11_wantsLetters 9 none :: MW) none "wantsLetters") {k2 : Nat → Int32 → Int32 → Int32 → AH → Option (Unit × AH)} (hk2 : ∀ {v0 : Nat} {v1 : Int32} {v2 : Int32} {v3 : Int32} {h : AH} {H : Heap} {locs : List Loc} {cells slots : Nat} {ls : Array Slot}, Rp G h H → (∀ q ∈ locs, gB G ≤ q.base) → zl ls 9 [(0, zr v0), (1, .int v1), (2, .int v2), (3, .int v3)] → k2 v0 v1 v2 v3 h = some (r, h') → W p l e (gR G hs 3 86) s m args below meth c H locs cells slots (MQ below (Qcc G (none) h') args s (gC G - aZ hs) (gS - aU hs) (fun q => gB G ≤ q)) (F0 m 2 ls [])) {v0 : Nat} {v1 : Int32} {v2 : Int32} {v3 : Int32} {h : AH} {H : Heap} {locs : List Loc} {cells slots : Nat} {ls : Array Slot} (hR : Rp G h H) (hL : ∀ q ∈ locs, gB G ≤ q.base) (hl : zl ls 9 [(0, zr v0), (1, .int v1), (2, .int v2), (3, .int v3)]) (hp : p_X11_wantsLetters_150 k2 v0 v1 v2 v3 h = some (r, h')) : W p l e (gR G hs 3 86) s m args below meth c H locs cells slots (MQ below (Qcc G (none) h') args s (gC G - aZ hs) (gS - aU hs) (fun q => gB G ≤ q)) (F0 m 150 ls []) := by
  obtain ⟨hx, hb, hml, hown, hts, hT, hK, rs, hlk, hret, hnm⟩ := id C
  have hm : ∀ w ∈ MW, w.before args s = true := fun w hw => hts w (hT w hw)
  unfold p_X11_wantsLetters_150 at hp
  refine z_aload_n hx hb dX11_wantsLetters_150 rfl (zl_at hl 0 rfl) ?_
  refine lv_iload_n hx hb dX11_wantsLetters_151 rfl (zl_at hl 1 rfl) ?_
  refine lv_iload_n hx hb dX11_wantsLetters_152 rfl (zl_at hl 3 rfl) ?_
  refine lv_iconst (v := iI 0) hx hb dX11_wantsLetters_153 rfl ?_
  obtain ⟨k1, hp⟩ := ck_i hp
  obtain ⟨r2, h3, er2, hp⟩ := bR_i hp
  refine r_callV (ci := 12) (r := (RX11, TX11, 32)) (n := 3) (As := [.int v1, .int v3, .int (iI 0)]) (rest := []) C (c_X11_wants l G v0 v1 v3 (iI 0) h r2 h3 er2) hR hL rfl k1 mw_1180 mw_1182 mp_29 mw_10 mw_1183 (by decide +kernel) (by decide) rfl (zl_size hl) rfl (by simp [zr_cat, in_cat]) dX11_wantsLetters_154 (st2 := []) rfl (fun H locs cells slots hR hL => ?_)
  refine lv_goto (tgt := 195) hx hb dX11_wantsLetters_157 (by decide) ?_
  exact s_X11_wantsLetters_195 C hk2 hR hL (zl_sub hl [0, 1, 2, 3] rfl) hp
def p_X11_wantsLetters_160 (k2 : Nat → Int32 → Int32 → Int32 → AH → Option (Unit × AH)) (v0 : Nat) (v1 : Int32) (v2 : Int32) (v3 : Int32) (v4 : Int32) (v6 : Int32) (h : AH) : Option (Unit × AH) :=
  if v2 = (iI 2) then
    if v6 = 0 then
      p_X11_wantsLetters_195 k2 v0 v1 v2 v3 h
    else
      if v4 < (iI 97) then
        p_X11_wantsLetters_195 k2 v0 v1 v2 v3 h
      else
        if (iI 122) < v4 then
          p_X11_wantsLetters_195 k2 v0 v1 v2 v3 h
        else
          ck (aK h v0 = 13) <|
          bR (p_X11_wants v0 v1 v3 (v4 - (iI 32)) h) fun r6 h7 =>
          p_X11_wantsLetters_195 k2 v0 v1 v2 v3 h7
  else
    p_X11_wantsLetters_195 k2 v0 v1 v2 v3 h
set_option maxHeartbeats 4000000 in
set_option maxRecDepth 100000 in
theorem s_X11_wantsLetters_160 {p : Program} {l : Launch} {e : Env} {s : State} {m : MethodId} {args : Array Value} {below : List Frame} {meth : Method} {c : Code} {G : GG} {hs : AH} {r : Unit} {h' : AH} (C : Cx G hs p s m args meth c cX11_wantsLetters 9 RX11 (.code yX11_wantsLetters cX11_wantsLetters 9 none :: MW) none "wantsLetters") {k2 : Nat → Int32 → Int32 → Int32 → AH → Option (Unit × AH)} (hk2 : ∀ {v0 : Nat} {v1 : Int32} {v2 : Int32} {v3 : Int32} {h : AH} {H : Heap} {locs : List Loc} {cells slots : Nat} {ls : Array Slot}, Rp G h H → (∀ q ∈ locs, gB G ≤ q.base) → zl ls 9 [(0, zr v0), (1, .int v1), (2, .int v2), (3, .int v3)] → k2 v0 v1 v2 v3 h = some (r, h') → W p l e (gR G hs 3 86) s m args below meth c H locs cells slots (MQ below (Qcc G (none) h') args s (gC G - aZ hs) (gS - aU hs) (fun q => gB G ≤ q)) (F0 m 2 ls [])) {v0 : Nat} {v1 : Int32} {v2 : Int32} {v3 : Int32} {v4 : Int32} {v6 : Int32} {h : AH} {H : Heap} {locs : List Loc} {cells slots : Nat} {ls : Array Slot} (hR : Rp G h H) (hL : ∀ q ∈ locs, gB G ≤ q.base) (hl : zl ls 9 [(0, zr v0), (1, .int v1), (2, .int v2), (3, .int v3), (4, .int v4), (6, .int v6)]) (hp : p_X11_wantsLetters_160 k2 v0 v1 v2 v3 v4 v6 h = some (r, h')) : W p l e (gR G hs 3 86) s m args below meth c H locs cells slots (MQ below (Qcc G (none) h') args s (gC G - aZ hs) (gS - aU hs) (fun q => gB G ≤ q)) (F0 m 160 ls []) := by
  obtain ⟨hx, hb, hml, hown, hts, hT, hK, rs, hlk, hret, hnm⟩ := id C
  have hm : ∀ w ∈ MW, w.before args s = true := fun w hw => hts w (hT w hw)
  unfold p_X11_wantsLetters_160 at hp
  refine lv_iload_n hx hb dX11_wantsLetters_160 rfl (zl_at hl 2 rfl) ?_
  refine lv_iconst (v := iI 2) hx hb dX11_wantsLetters_161 rfl ?_
  refine lv_icmp_ne (tgt := 195) hx hb dX11_wantsLetters_162 (by decide) (fun c1 => ?_) (fun c1 => ?_)
  · replace hp := ite_n hp c1
    exact s_X11_wantsLetters_195 C hk2 hR hL (zl_sub hl [0, 1, 2, 3] rfl) hp
  · replace hp := ite_p hp c1
    refine lv_iload hx hb dX11_wantsLetters_165 (zl_at hl 5 rfl) ?_
    refine lv_if_eq (tgt := 195) hx hb dX11_wantsLetters_167 (by decide) (fun c2 => ?_) (fun c2 => ?_)
    · replace hp := ite_p hp c2
      exact s_X11_wantsLetters_195 C hk2 hR hL (zl_sub hl [0, 1, 2, 3] rfl) hp
    · replace hp := ite_n hp c2
      refine lv_iload hx hb dX11_wantsLetters_170 (zl_at hl 4 rfl) ?_
      refine lv_bipush (v := iI 97) hx hb dX11_wantsLetters_172 (by decide +kernel) ?_
      refine lv_icmp_lt (tgt := 195) hx hb dX11_wantsLetters_174 (by decide) (fun c3 => ?_) (fun c3 => ?_)
      · replace hp := ite_p hp c3
        exact s_X11_wantsLetters_195 C hk2 hR hL (zl_sub hl [0, 1, 2, 3] rfl) hp
      · replace hp := ite_n hp c3
        refine lv_iload hx hb dX11_wantsLetters_177 (zl_at hl 4 rfl) ?_
        refine lv_bipush (v := iI 122) hx hb dX11_wantsLetters_179 (by decide +kernel) ?_
        refine lv_icmp_gt (tgt := 195) hx hb dX11_wantsLetters_181 (by decide) (fun c4 => ?_) (fun c4 => ?_)
        · replace hp := ite_p hp c4
          exact s_X11_wantsLetters_195 C hk2 hR hL (zl_sub hl [0, 1, 2, 3] rfl) hp
        · replace hp := ite_n hp c4
          refine z_aload_n hx hb dX11_wantsLetters_184 rfl (zl_at hl 0 rfl) ?_
          refine lv_iload_n hx hb dX11_wantsLetters_185 rfl (zl_at hl 1 rfl) ?_
          refine lv_iload_n hx hb dX11_wantsLetters_186 rfl (zl_at hl 3 rfl) ?_
          refine lv_iload hx hb dX11_wantsLetters_187 (zl_at hl 4 rfl) ?_
          refine lv_bipush (v := iI 32) hx hb dX11_wantsLetters_189 (by decide +kernel) ?_
          refine lv_isub hx hb dX11_wantsLetters_191 ?_
          obtain ⟨k5, hp⟩ := ck_i hp
          obtain ⟨r6, h7, er6, hp⟩ := bR_i hp
          refine r_callV (ci := 12) (r := (RX11, TX11, 32)) (n := 3) (As := [.int v1, .int v3, .int (v4 - (iI 32))]) (rest := []) C (c_X11_wants l G v0 v1 v3 (v4 - (iI 32)) h r6 h7 er6) hR hL rfl k5 mw_1180 mw_1182 mp_29 mw_10 mw_1183 (by decide +kernel) (by decide) rfl (zl_size hl) rfl (by simp [zr_cat, in_cat]) dX11_wantsLetters_192 (st2 := []) rfl (fun H locs cells slots hR hL => ?_)
          exact s_X11_wantsLetters_195 C hk2 hR hL (zl_sub hl [0, 1, 2, 3] rfl) hp
def p_X11_wantsLetters_140 (k2 : Nat → Int32 → Int32 → Int32 → AH → Option (Unit × AH)) (v0 : Nat) (v1 : Int32) (v2 : Int32) (v3 : Int32) (v4 : Int32) (v6 : Int32) (v8 : Int32) (h : AH) : Option (Unit × AH) :=
  if v2 = (iI 1) then
    if v8 = 0 then
      p_X11_wantsLetters_160 k2 v0 v1 v2 v3 v4 v6 h
    else
      p_X11_wantsLetters_150 k2 v0 v1 v2 v3 h
  else
    p_X11_wantsLetters_160 k2 v0 v1 v2 v3 v4 v6 h
set_option maxHeartbeats 4000000 in
set_option maxRecDepth 100000 in
theorem s_X11_wantsLetters_140 {p : Program} {l : Launch} {e : Env} {s : State} {m : MethodId} {args : Array Value} {below : List Frame} {meth : Method} {c : Code} {G : GG} {hs : AH} {r : Unit} {h' : AH} (C : Cx G hs p s m args meth c cX11_wantsLetters 9 RX11 (.code yX11_wantsLetters cX11_wantsLetters 9 none :: MW) none "wantsLetters") {k2 : Nat → Int32 → Int32 → Int32 → AH → Option (Unit × AH)} (hk2 : ∀ {v0 : Nat} {v1 : Int32} {v2 : Int32} {v3 : Int32} {h : AH} {H : Heap} {locs : List Loc} {cells slots : Nat} {ls : Array Slot}, Rp G h H → (∀ q ∈ locs, gB G ≤ q.base) → zl ls 9 [(0, zr v0), (1, .int v1), (2, .int v2), (3, .int v3)] → k2 v0 v1 v2 v3 h = some (r, h') → W p l e (gR G hs 3 86) s m args below meth c H locs cells slots (MQ below (Qcc G (none) h') args s (gC G - aZ hs) (gS - aU hs) (fun q => gB G ≤ q)) (F0 m 2 ls [])) {v0 : Nat} {v1 : Int32} {v2 : Int32} {v3 : Int32} {v4 : Int32} {v6 : Int32} {v8 : Int32} {h : AH} {H : Heap} {locs : List Loc} {cells slots : Nat} {ls : Array Slot} (hR : Rp G h H) (hL : ∀ q ∈ locs, gB G ≤ q.base) (hl : zl ls 9 [(0, zr v0), (1, .int v1), (2, .int v2), (3, .int v3), (4, .int v4), (6, .int v6), (8, .int v8)]) (hp : p_X11_wantsLetters_140 k2 v0 v1 v2 v3 v4 v6 v8 h = some (r, h')) : W p l e (gR G hs 3 86) s m args below meth c H locs cells slots (MQ below (Qcc G (none) h') args s (gC G - aZ hs) (gS - aU hs) (fun q => gB G ≤ q)) (F0 m 140 ls []) := by
  obtain ⟨hx, hb, hml, hown, hts, hT, hK, rs, hlk, hret, hnm⟩ := id C
  have hm : ∀ w ∈ MW, w.before args s = true := fun w hw => hts w (hT w hw)
  unfold p_X11_wantsLetters_140 at hp
  refine lv_iload_n hx hb dX11_wantsLetters_140 rfl (zl_at hl 2 rfl) ?_
  refine lv_iconst (v := iI 1) hx hb dX11_wantsLetters_141 rfl ?_
  refine lv_icmp_ne (tgt := 160) hx hb dX11_wantsLetters_142 (by decide) (fun c1 => ?_) (fun c1 => ?_)
  · replace hp := ite_n hp c1
    exact s_X11_wantsLetters_160 C hk2 hR hL (zl_sub hl [0, 1, 2, 3, 4, 5] rfl) hp
  · replace hp := ite_p hp c1
    refine lv_iload hx hb dX11_wantsLetters_145 (zl_at hl 6 rfl) ?_
    refine lv_if_eq (tgt := 160) hx hb dX11_wantsLetters_147 (by decide) (fun c2 => ?_) (fun c2 => ?_)
    · replace hp := ite_p hp c2
      exact s_X11_wantsLetters_160 C hk2 hR hL (zl_sub hl [0, 1, 2, 3, 4, 5] rfl) hp
    · replace hp := ite_n hp c2
      exact s_X11_wantsLetters_150 C hk2 hR hL (zl_sub hl [0, 1, 2, 3] rfl) hp
def p_X11_wantsLetters_122 (k2 : Nat → Int32 → Int32 → Int32 → AH → Option (Unit × AH)) (v0 : Nat) (v1 : Int32) (v2 : Int32) (v3 : Int32) (v4 : Int32) (v5 : Int32) (v6 : Int32) (s0 : Int32) (h : AH) : Option (Unit × AH) :=
  if v4 = (iI 32) then
    if v2 = 0 then
      if v5 = 0 then
        p_X11_wantsLetters_140 k2 v0 v1 v2 v3 v4 v6 s0 h
      else
        p_X11_wantsLetters_150 k2 v0 v1 v2 v3 h
    else
      p_X11_wantsLetters_140 k2 v0 v1 v2 v3 v4 v6 s0 h
  else
    p_X11_wantsLetters_160 k2 v0 v1 v2 v3 v4 v6 h
set_option maxHeartbeats 4000000 in
set_option maxRecDepth 100000 in
theorem s_X11_wantsLetters_122 {p : Program} {l : Launch} {e : Env} {s : State} {m : MethodId} {args : Array Value} {below : List Frame} {meth : Method} {c : Code} {G : GG} {hs : AH} {r : Unit} {h' : AH} (C : Cx G hs p s m args meth c cX11_wantsLetters 9 RX11 (.code yX11_wantsLetters cX11_wantsLetters 9 none :: MW) none "wantsLetters") {k2 : Nat → Int32 → Int32 → Int32 → AH → Option (Unit × AH)} (hk2 : ∀ {v0 : Nat} {v1 : Int32} {v2 : Int32} {v3 : Int32} {h : AH} {H : Heap} {locs : List Loc} {cells slots : Nat} {ls : Array Slot}, Rp G h H → (∀ q ∈ locs, gB G ≤ q.base) → zl ls 9 [(0, zr v0), (1, .int v1), (2, .int v2), (3, .int v3)] → k2 v0 v1 v2 v3 h = some (r, h') → W p l e (gR G hs 3 86) s m args below meth c H locs cells slots (MQ below (Qcc G (none) h') args s (gC G - aZ hs) (gS - aU hs) (fun q => gB G ≤ q)) (F0 m 2 ls [])) {v0 : Nat} {v1 : Int32} {v2 : Int32} {v3 : Int32} {v4 : Int32} {v5 : Int32} {v6 : Int32} {s0 : Int32} {h : AH} {H : Heap} {locs : List Loc} {cells slots : Nat} {ls : Array Slot} (hR : Rp G h H) (hL : ∀ q ∈ locs, gB G ≤ q.base) (hl : zl ls 9 [(0, zr v0), (1, .int v1), (2, .int v2), (3, .int v3), (4, .int v4), (5, .int v5), (6, .int v6)]) (hp : p_X11_wantsLetters_122 k2 v0 v1 v2 v3 v4 v5 v6 s0 h = some (r, h')) : W p l e (gR G hs 3 86) s m args below meth c H locs cells slots (MQ below (Qcc G (none) h') args s (gC G - aZ hs) (gS - aU hs) (fun q => gB G ≤ q)) (F0 m 122 ls [.int s0]) := by
  obtain ⟨hx, hb, hml, hown, hts, hT, hK, rs, hlk, hret, hnm⟩ := id C
  have hm : ∀ w ∈ MW, w.before args s = true := fun w hw => hts w (hT w hw)
  unfold p_X11_wantsLetters_122 at hp
  refine z_istore (lv' := [(8, .int s0), (0, zr v0), (1, .int v1), (2, .int v2), (3, .int v3), (4, .int v4), (5, .int v5), (6, .int v6)]) hx hb dX11_wantsLetters_122 hl (by decide) rfl (fun ls hl => ?_)
  refine lv_iload hx hb dX11_wantsLetters_124 (zl_at hl 5 rfl) ?_
  refine lv_bipush (v := iI 32) hx hb dX11_wantsLetters_126 (by decide +kernel) ?_
  refine lv_icmp_ne (tgt := 160) hx hb dX11_wantsLetters_128 (by decide) (fun c1 => ?_) (fun c1 => ?_)
  · replace hp := ite_n hp c1
    exact s_X11_wantsLetters_160 C hk2 hR hL (zl_sub hl [1, 2, 3, 4, 5, 7] rfl) hp
  · replace hp := ite_p hp c1
    refine lv_iload_n hx hb dX11_wantsLetters_131 rfl (zl_at hl 3 rfl) ?_
    refine lv_if_ne (tgt := 140) hx hb dX11_wantsLetters_132 (by decide) (fun c2 => ?_) (fun c2 => ?_)
    · replace hp := ite_n hp c2
      exact s_X11_wantsLetters_140 C hk2 hR hL (zl_sub hl [1, 2, 3, 4, 5, 7, 0] rfl) hp
    · replace hp := ite_p hp c2
      refine lv_iload hx hb dX11_wantsLetters_135 (zl_at hl 6 rfl) ?_
      refine lv_if_ne (tgt := 150) hx hb dX11_wantsLetters_137 (by decide) (fun c3 => ?_) (fun c3 => ?_)
      · replace hp := ite_n hp c3
        exact s_X11_wantsLetters_150 C hk2 hR hL (zl_sub hl [1, 2, 3, 4] rfl) hp
      · replace hp := ite_p hp c3
        exact s_X11_wantsLetters_140 C hk2 hR hL (zl_sub hl [1, 2, 3, 4, 5, 7, 0] rfl) hp
def p_X11_wantsLetters_117 (k2 : Nat → Int32 → Int32 → Int32 → AH → Option (Unit × AH)) (v0 : Nat) (v1 : Int32) (v2 : Int32) (v3 : Int32) (v4 : Int32) (v5 : Int32) (v6 : Int32) (h : AH) : Option (Unit × AH) :=
  p_X11_wantsLetters_122 k2 v0 v1 v2 v3 v4 v5 v6 (iI 1) h
set_option maxHeartbeats 4000000 in
set_option maxRecDepth 100000 in
theorem s_X11_wantsLetters_117 {p : Program} {l : Launch} {e : Env} {s : State} {m : MethodId} {args : Array Value} {below : List Frame} {meth : Method} {c : Code} {G : GG} {hs : AH} {r : Unit} {h' : AH} (C : Cx G hs p s m args meth c cX11_wantsLetters 9 RX11 (.code yX11_wantsLetters cX11_wantsLetters 9 none :: MW) none "wantsLetters") {k2 : Nat → Int32 → Int32 → Int32 → AH → Option (Unit × AH)} (hk2 : ∀ {v0 : Nat} {v1 : Int32} {v2 : Int32} {v3 : Int32} {h : AH} {H : Heap} {locs : List Loc} {cells slots : Nat} {ls : Array Slot}, Rp G h H → (∀ q ∈ locs, gB G ≤ q.base) → zl ls 9 [(0, zr v0), (1, .int v1), (2, .int v2), (3, .int v3)] → k2 v0 v1 v2 v3 h = some (r, h') → W p l e (gR G hs 3 86) s m args below meth c H locs cells slots (MQ below (Qcc G (none) h') args s (gC G - aZ hs) (gS - aU hs) (fun q => gB G ≤ q)) (F0 m 2 ls [])) {v0 : Nat} {v1 : Int32} {v2 : Int32} {v3 : Int32} {v4 : Int32} {v5 : Int32} {v6 : Int32} {h : AH} {H : Heap} {locs : List Loc} {cells slots : Nat} {ls : Array Slot} (hR : Rp G h H) (hL : ∀ q ∈ locs, gB G ≤ q.base) (hl : zl ls 9 [(0, zr v0), (1, .int v1), (2, .int v2), (3, .int v3), (4, .int v4), (5, .int v5), (6, .int v6)]) (hp : p_X11_wantsLetters_117 k2 v0 v1 v2 v3 v4 v5 v6 h = some (r, h')) : W p l e (gR G hs 3 86) s m args below meth c H locs cells slots (MQ below (Qcc G (none) h') args s (gC G - aZ hs) (gS - aU hs) (fun q => gB G ≤ q)) (F0 m 117 ls []) := by
  obtain ⟨hx, hb, hml, hown, hts, hT, hK, rs, hlk, hret, hnm⟩ := id C
  have hm : ∀ w ∈ MW, w.before args s = true := fun w hw => hts w (hT w hw)
  unfold p_X11_wantsLetters_117 at hp
  refine lv_iconst (v := iI 1) hx hb dX11_wantsLetters_117 rfl ?_
  refine lv_goto (tgt := 122) hx hb dX11_wantsLetters_118 (by decide) ?_
  exact s_X11_wantsLetters_122 C hk2 hR hL (zl_sub hl [0, 1, 2, 3, 4, 5, 6] rfl) hp
def p_X11_wantsLetters_96 (k2 : Nat → Int32 → Int32 → Int32 → AH → Option (Unit × AH)) (v0 : Nat) (v1 : Int32) (v2 : Int32) (v3 : Int32) (v4 : Int32) (v5 : Int32) (v6 : Int32) (v7 : Int32) (h : AH) : Option (Unit × AH) :=
  ck (aK h v0 = 13) <|
  if v7 = (aI h v0 29) then
    p_X11_wantsLetters_117 k2 v0 v1 v2 v3 v4 v5 v6 h
  else
    ck (aK h v0 = 13) <|
    bR (p_X11_signAt v0 v1 v7 h) fun r4 h5 =>
    if r4 = (iI 47) then
      p_X11_wantsLetters_117 k2 v0 v1 v2 v3 v4 v5 v6 h5
    else
      p_X11_wantsLetters_122 k2 v0 v1 v2 v3 v4 v5 v6 (iI 0) h5
set_option maxHeartbeats 4000000 in
set_option maxRecDepth 100000 in
theorem s_X11_wantsLetters_96 {p : Program} {l : Launch} {e : Env} {s : State} {m : MethodId} {args : Array Value} {below : List Frame} {meth : Method} {c : Code} {G : GG} {hs : AH} {r : Unit} {h' : AH} (C : Cx G hs p s m args meth c cX11_wantsLetters 9 RX11 (.code yX11_wantsLetters cX11_wantsLetters 9 none :: MW) none "wantsLetters") {k2 : Nat → Int32 → Int32 → Int32 → AH → Option (Unit × AH)} (hk2 : ∀ {v0 : Nat} {v1 : Int32} {v2 : Int32} {v3 : Int32} {h : AH} {H : Heap} {locs : List Loc} {cells slots : Nat} {ls : Array Slot}, Rp G h H → (∀ q ∈ locs, gB G ≤ q.base) → zl ls 9 [(0, zr v0), (1, .int v1), (2, .int v2), (3, .int v3)] → k2 v0 v1 v2 v3 h = some (r, h') → W p l e (gR G hs 3 86) s m args below meth c H locs cells slots (MQ below (Qcc G (none) h') args s (gC G - aZ hs) (gS - aU hs) (fun q => gB G ≤ q)) (F0 m 2 ls [])) {v0 : Nat} {v1 : Int32} {v2 : Int32} {v3 : Int32} {v4 : Int32} {v5 : Int32} {v6 : Int32} {v7 : Int32} {h : AH} {H : Heap} {locs : List Loc} {cells slots : Nat} {ls : Array Slot} (hR : Rp G h H) (hL : ∀ q ∈ locs, gB G ≤ q.base) (hl : zl ls 9 [(0, zr v0), (1, .int v1), (2, .int v2), (3, .int v3), (4, .int v4), (5, .int v5), (6, .int v6), (7, .int v7)]) (hp : p_X11_wantsLetters_96 k2 v0 v1 v2 v3 v4 v5 v6 v7 h = some (r, h')) : W p l e (gR G hs 3 86) s m args below meth c H locs cells slots (MQ below (Qcc G (none) h') args s (gC G - aZ hs) (gS - aU hs) (fun q => gB G ≤ q)) (F0 m 96 ls []) := by
  obtain ⟨hx, hb, hml, hown, hts, hT, hK, rs, hlk, hret, hnm⟩ := id C
  have hm : ∀ w ∈ MW, w.before args s = true := fun w hw => hts w (hT w hw)
  unfold p_X11_wantsLetters_96 at hp
  refine lv_iload hx hb dX11_wantsLetters_96 (zl_at hl 7 rfl) ?_
  refine z_aload_n hx hb dX11_wantsLetters_98 rfl (zl_at hl 0 rfl) ?_
  obtain ⟨k1, hp⟩ := ck_i hp
  refine r_get (ci := 12) (C := RX11) (T := TX11) (N := 32) (v := .int (aI h v0 29)) hx hb hm ii_X11 hown hK hR rfl k1 29 (by decide) (hm _ mw_1011) (fun _ h9 => h9) rfl dX11_wantsLetters_99 ?_
  refine lv_icmp_eq (tgt := 117) hx hb dX11_wantsLetters_102 (by decide) (fun c2 => ?_) (fun c2 => ?_)
  · replace hp := ite_p hp c2
    exact s_X11_wantsLetters_117 C hk2 hR hL (zl_sub hl [0, 1, 2, 3, 4, 5, 6] rfl) hp
  · replace hp := ite_n hp c2
    refine z_aload_n hx hb dX11_wantsLetters_105 rfl (zl_at hl 0 rfl) ?_
    refine lv_iload_n hx hb dX11_wantsLetters_106 rfl (zl_at hl 1 rfl) ?_
    refine lv_iload hx hb dX11_wantsLetters_107 (zl_at hl 7 rfl) ?_
    obtain ⟨k3, hp⟩ := ck_i hp
    obtain ⟨r4, h5, er4, hp⟩ := bR_i hp
    refine r_callV (ci := 12) (r := (RX11, TX11, 32)) (n := 2) (As := [.int v1, .int v7]) (rest := []) C (c_X11_signAt l G v0 v1 v7 h r4 h5 er4) hR hL rfl k3 mw_1176 mw_1178 mp_28 mw_10 mw_1179 (by decide +kernel) (by decide) rfl (zl_size hl) rfl (by simp [zr_cat, in_cat]) dX11_wantsLetters_109 (st2 := [.int r4]) rfl (fun H locs cells slots hR hL => ?_)
    refine lv_bipush (v := iI 47) hx hb dX11_wantsLetters_112 (by decide +kernel) ?_
    refine lv_icmp_ne (tgt := 121) hx hb dX11_wantsLetters_114 (by decide) (fun c6 => ?_) (fun c6 => ?_)
    · replace hp := ite_n hp c6
      refine lv_iconst (v := iI 0) hx hb dX11_wantsLetters_121 rfl ?_
      exact s_X11_wantsLetters_122 C hk2 hR hL (zl_sub hl [0, 1, 2, 3, 4, 5, 6] rfl) hp
    · replace hp := ite_p hp c6
      exact s_X11_wantsLetters_117 C hk2 hR hL (zl_sub hl [0, 1, 2, 3, 4, 5, 6] rfl) hp
def p_X11_wantsLetters_69 (k2 : Nat → Int32 → Int32 → Int32 → AH → Option (Unit × AH)) : Nat → Nat → Int32 → Int32 → Int32 → Int32 → Int32 → Int32 → Int32 → AH → Option (Unit × AH)
  | 0, _, _, _, _, _, _, _, _, _ => none
  | n + 1, v0, v1, v2, v3, v4, v5, v6, v7, h =>
    ck (aK h v0 = 13) <|
    if (aI h v0 29) ≤ v7 then
      p_X11_wantsLetters_96 k2 v0 v1 v2 v3 v4 v5 v6 v7 h
    else
      ck (aK h v0 = 13) <|
      bR (p_X11_signAt v0 v1 v7 h) fun r4 h5 =>
      if r4 = (iI 32) then
        nm (v7 + iI 1) fun (x7 : Int32) =>
        p_X11_wantsLetters_69 k2 n v0 v1 v2 v3 v4 v5 v6 x7 h5
      else
        p_X11_wantsLetters_96 k2 v0 v1 v2 v3 v4 v5 v6 v7 h5
set_option maxHeartbeats 4000000 in
set_option maxRecDepth 100000 in
theorem s_X11_wantsLetters_69 {p : Program} {l : Launch} {e : Env} {s : State} {m : MethodId} {args : Array Value} {below : List Frame} {meth : Method} {c : Code} {G : GG} {hs : AH} {r : Unit} {h' : AH} (C : Cx G hs p s m args meth c cX11_wantsLetters 9 RX11 (.code yX11_wantsLetters cX11_wantsLetters 9 none :: MW) none "wantsLetters") {k2 : Nat → Int32 → Int32 → Int32 → AH → Option (Unit × AH)} (hk2 : ∀ {v0 : Nat} {v1 : Int32} {v2 : Int32} {v3 : Int32} {h : AH} {H : Heap} {locs : List Loc} {cells slots : Nat} {ls : Array Slot}, Rp G h H → (∀ q ∈ locs, gB G ≤ q.base) → zl ls 9 [(0, zr v0), (1, .int v1), (2, .int v2), (3, .int v3)] → k2 v0 v1 v2 v3 h = some (r, h') → W p l e (gR G hs 3 86) s m args below meth c H locs cells slots (MQ below (Qcc G (none) h') args s (gC G - aZ hs) (gS - aU hs) (fun q => gB G ≤ q)) (F0 m 2 ls [])) : ∀ (n : Nat) (v0 : Nat) (v1 : Int32) (v2 : Int32) (v3 : Int32) (v4 : Int32) (v5 : Int32) (v6 : Int32) (v7 : Int32) (h : AH) (H : Heap) (locs : List Loc) (cells slots : Nat) (ls : Array Slot) (hR : Rp G h H) (hL : ∀ q ∈ locs, gB G ≤ q.base) (hl : zl ls 9 [(0, zr v0), (1, .int v1), (2, .int v2), (3, .int v3), (4, .int v4), (5, .int v5), (6, .int v6), (7, .int v7)]) (hp : p_X11_wantsLetters_69 k2 n v0 v1 v2 v3 v4 v5 v6 v7 h = some (r, h')), W p l e (gR G hs 3 86) s m args below meth c H locs cells slots (MQ below (Qcc G (none) h') args s (gC G - aZ hs) (gS - aU hs) (fun q => gB G ≤ q)) (F0 m 69 ls []) := by
  obtain ⟨hx, hb, hml, hown, hts, hT, hK, rs, hlk, hret, hnm⟩ := id C
  have hm : ∀ w ∈ MW, w.before args s = true := fun w hw => hts w (hT w hw)
  intro n
  induction n with
  | zero =>
    intro v0 v1 v2 v3 v4 v5 v6 v7 h H locs cells slots ls hR hL hl hp
    exact absurd (show none = some (r, h') from hp) (by simp)
  | succ n ih =>
    intro v0 v1 v2 v3 v4 v5 v6 v7 h H locs cells slots ls hR hL hl hp
    rw [p_X11_wantsLetters_69.eq_2] at hp
    refine lv_iload hx hb dX11_wantsLetters_69 (zl_at hl 7 rfl) ?_
    refine z_aload_n hx hb dX11_wantsLetters_71 rfl (zl_at hl 0 rfl) ?_
    obtain ⟨k1, hp⟩ := ck_i hp
    refine r_get (ci := 12) (C := RX11) (T := TX11) (N := 32) (v := .int (aI h v0 29)) hx hb hm ii_X11 hown hK hR rfl k1 29 (by decide) (hm _ mw_1011) (fun _ h9 => h9) rfl dX11_wantsLetters_72 ?_
    refine lv_icmp_ge (tgt := 96) hx hb dX11_wantsLetters_75 (by decide) (fun c2 => ?_) (fun c2 => ?_)
    · replace hp := ite_p hp c2
      exact s_X11_wantsLetters_96 C hk2 hR hL (zl_sub hl [0, 1, 2, 3, 4, 5, 6, 7] rfl) hp
    · replace hp := ite_n hp c2
      refine z_aload_n hx hb dX11_wantsLetters_78 rfl (zl_at hl 0 rfl) ?_
      refine lv_iload_n hx hb dX11_wantsLetters_79 rfl (zl_at hl 1 rfl) ?_
      refine lv_iload hx hb dX11_wantsLetters_80 (zl_at hl 7 rfl) ?_
      obtain ⟨k3, hp⟩ := ck_i hp
      obtain ⟨r4, h5, er4, hp⟩ := bR_i hp
      refine r_callV (ci := 12) (r := (RX11, TX11, 32)) (n := 2) (As := [.int v1, .int v7]) (rest := []) C (c_X11_signAt l G v0 v1 v7 h r4 h5 er4) hR hL rfl k3 mw_1176 mw_1178 mp_28 mw_10 mw_1179 (by decide +kernel) (by decide) rfl (zl_size hl) rfl (by simp [zr_cat, in_cat]) dX11_wantsLetters_82 (st2 := [.int r4]) rfl (fun H locs cells slots hR hL => ?_)
      refine lv_bipush (v := iI 32) hx hb dX11_wantsLetters_85 (by decide +kernel) ?_
      refine lv_icmp_ne (tgt := 96) hx hb dX11_wantsLetters_87 (by decide) (fun c6 => ?_) (fun c6 => ?_)
      · replace hp := ite_n hp c6
        exact s_X11_wantsLetters_96 C hk2 hR hL (zl_sub hl [0, 1, 2, 3, 4, 5, 6, 7] rfl) hp
      · replace hp := ite_p hp c6
        obtain ⟨x7, ex7⟩ : ∃ y : Int32, y = v7 + iI 1 := ⟨_, rfl⟩
        replace hp := nm_i hp ex7
        refine z_iinc (v := x7) (lv' := [(7, .int x7), (0, zr v0), (1, .int v1), (2, .int v2), (3, .int v3), (4, .int v4), (5, .int v5), (6, .int v6)]) hx hb dX11_wantsLetters_90 hl (k := 7) rfl ex7 (by decide) rfl (fun ls hl => ?_)
        refine lv_goto (tgt := 69) hx hb dX11_wantsLetters_93 (by decide) ?_
        exact ih _ _ _ _ _ _ _ _ _ _ _ _ _ _ hR hL (zl_sub hl [1, 2, 3, 4, 5, 6, 7, 0] rfl) hp
def p_X11_wantsLetters_64 (k2 : Nat → Int32 → Int32 → Int32 → AH → Option (Unit × AH)) (v0 : Nat) (v1 : Int32) (v2 : Int32) (v3 : Int32) (v4 : Int32) (v5 : Int32) (s0 : Int32) (h : AH) : Option (Unit × AH) :=
  p_X11_wantsLetters_69 k2 FU v0 v1 v2 v3 v4 v5 s0 v3 h
set_option maxHeartbeats 4000000 in
set_option maxRecDepth 100000 in
theorem s_X11_wantsLetters_64 {p : Program} {l : Launch} {e : Env} {s : State} {m : MethodId} {args : Array Value} {below : List Frame} {meth : Method} {c : Code} {G : GG} {hs : AH} {r : Unit} {h' : AH} (C : Cx G hs p s m args meth c cX11_wantsLetters 9 RX11 (.code yX11_wantsLetters cX11_wantsLetters 9 none :: MW) none "wantsLetters") {k2 : Nat → Int32 → Int32 → Int32 → AH → Option (Unit × AH)} (hk2 : ∀ {v0 : Nat} {v1 : Int32} {v2 : Int32} {v3 : Int32} {h : AH} {H : Heap} {locs : List Loc} {cells slots : Nat} {ls : Array Slot}, Rp G h H → (∀ q ∈ locs, gB G ≤ q.base) → zl ls 9 [(0, zr v0), (1, .int v1), (2, .int v2), (3, .int v3)] → k2 v0 v1 v2 v3 h = some (r, h') → W p l e (gR G hs 3 86) s m args below meth c H locs cells slots (MQ below (Qcc G (none) h') args s (gC G - aZ hs) (gS - aU hs) (fun q => gB G ≤ q)) (F0 m 2 ls [])) {v0 : Nat} {v1 : Int32} {v2 : Int32} {v3 : Int32} {v4 : Int32} {v5 : Int32} {s0 : Int32} {h : AH} {H : Heap} {locs : List Loc} {cells slots : Nat} {ls : Array Slot} (hR : Rp G h H) (hL : ∀ q ∈ locs, gB G ≤ q.base) (hl : zl ls 9 [(0, zr v0), (1, .int v1), (2, .int v2), (3, .int v3), (4, .int v4), (5, .int v5)]) (hp : p_X11_wantsLetters_64 k2 v0 v1 v2 v3 v4 v5 s0 h = some (r, h')) : W p l e (gR G hs 3 86) s m args below meth c H locs cells slots (MQ below (Qcc G (none) h') args s (gC G - aZ hs) (gS - aU hs) (fun q => gB G ≤ q)) (F0 m 64 ls [.int s0]) := by
  obtain ⟨hx, hb, hml, hown, hts, hT, hK, rs, hlk, hret, hnm⟩ := id C
  have hm : ∀ w ∈ MW, w.before args s = true := fun w hw => hts w (hT w hw)
  unfold p_X11_wantsLetters_64 at hp
  refine z_istore (lv' := [(6, .int s0), (0, zr v0), (1, .int v1), (2, .int v2), (3, .int v3), (4, .int v4), (5, .int v5)]) hx hb dX11_wantsLetters_64 hl (by decide) rfl (fun ls hl => ?_)
  refine lv_iload_n hx hb dX11_wantsLetters_66 rfl (zl_at hl 4 rfl) ?_
  refine z_istore (lv' := [(7, .int v3), (6, .int s0), (0, zr v0), (1, .int v1), (2, .int v2), (3, .int v3), (4, .int v4), (5, .int v5)]) hx hb dX11_wantsLetters_67 hl (by decide) rfl (fun ls hl => ?_)
  exact s_X11_wantsLetters_69 C hk2 _ _ _ _ _ _ _ _ _ _ _ _ _ _ _ hR hL (zl_sub hl [2, 3, 4, 5, 6, 7, 1, 0] rfl) hp
def p_X11_wantsLetters_59 (k2 : Nat → Int32 → Int32 → Int32 → AH → Option (Unit × AH)) (v0 : Nat) (v1 : Int32) (v2 : Int32) (v3 : Int32) (v4 : Int32) (v5 : Int32) (h : AH) : Option (Unit × AH) :=
  p_X11_wantsLetters_64 k2 v0 v1 v2 v3 v4 v5 (iI 1) h
set_option maxHeartbeats 4000000 in
set_option maxRecDepth 100000 in
theorem s_X11_wantsLetters_59 {p : Program} {l : Launch} {e : Env} {s : State} {m : MethodId} {args : Array Value} {below : List Frame} {meth : Method} {c : Code} {G : GG} {hs : AH} {r : Unit} {h' : AH} (C : Cx G hs p s m args meth c cX11_wantsLetters 9 RX11 (.code yX11_wantsLetters cX11_wantsLetters 9 none :: MW) none "wantsLetters") {k2 : Nat → Int32 → Int32 → Int32 → AH → Option (Unit × AH)} (hk2 : ∀ {v0 : Nat} {v1 : Int32} {v2 : Int32} {v3 : Int32} {h : AH} {H : Heap} {locs : List Loc} {cells slots : Nat} {ls : Array Slot}, Rp G h H → (∀ q ∈ locs, gB G ≤ q.base) → zl ls 9 [(0, zr v0), (1, .int v1), (2, .int v2), (3, .int v3)] → k2 v0 v1 v2 v3 h = some (r, h') → W p l e (gR G hs 3 86) s m args below meth c H locs cells slots (MQ below (Qcc G (none) h') args s (gC G - aZ hs) (gS - aU hs) (fun q => gB G ≤ q)) (F0 m 2 ls [])) {v0 : Nat} {v1 : Int32} {v2 : Int32} {v3 : Int32} {v4 : Int32} {v5 : Int32} {h : AH} {H : Heap} {locs : List Loc} {cells slots : Nat} {ls : Array Slot} (hR : Rp G h H) (hL : ∀ q ∈ locs, gB G ≤ q.base) (hl : zl ls 9 [(0, zr v0), (1, .int v1), (2, .int v2), (3, .int v3), (4, .int v4), (5, .int v5)]) (hp : p_X11_wantsLetters_59 k2 v0 v1 v2 v3 v4 v5 h = some (r, h')) : W p l e (gR G hs 3 86) s m args below meth c H locs cells slots (MQ below (Qcc G (none) h') args s (gC G - aZ hs) (gS - aU hs) (fun q => gB G ≤ q)) (F0 m 59 ls []) := by
  obtain ⟨hx, hb, hml, hown, hts, hT, hK, rs, hlk, hret, hnm⟩ := id C
  have hm : ∀ w ∈ MW, w.before args s = true := fun w hw => hts w (hT w hw)
  unfold p_X11_wantsLetters_59 at hp
  refine lv_iconst (v := iI 1) hx hb dX11_wantsLetters_59 rfl ?_
  refine lv_goto (tgt := 64) hx hb dX11_wantsLetters_60 (by decide) ?_
  exact s_X11_wantsLetters_64 C hk2 hR hL (zl_sub hl [0, 1, 2, 3, 4, 5] rfl) hp
def p_X11_wantsLetters_40 (k2 : Nat → Int32 → Int32 → Int32 → AH → Option (Unit × AH)) (v0 : Nat) (v1 : Int32) (v2 : Int32) (v3 : Int32) (v4 : Int32) (s0 : Int32) (h : AH) : Option (Unit × AH) :=
  if v3 = 0 then
    p_X11_wantsLetters_59 k2 v0 v1 v2 v3 v4 s0 h
  else
    ck (aK h v0 = 13) <|
    bR (p_X11_signAt v0 v1 (v3 - (iI 1)) h) fun r3 h4 =>
    if r3 = (iI 47) then
      p_X11_wantsLetters_59 k2 v0 v1 v2 v3 v4 s0 h4
    else
      p_X11_wantsLetters_64 k2 v0 v1 v2 v3 v4 s0 (iI 0) h4
set_option maxHeartbeats 4000000 in
set_option maxRecDepth 100000 in
theorem s_X11_wantsLetters_40 {p : Program} {l : Launch} {e : Env} {s : State} {m : MethodId} {args : Array Value} {below : List Frame} {meth : Method} {c : Code} {G : GG} {hs : AH} {r : Unit} {h' : AH} (C : Cx G hs p s m args meth c cX11_wantsLetters 9 RX11 (.code yX11_wantsLetters cX11_wantsLetters 9 none :: MW) none "wantsLetters") {k2 : Nat → Int32 → Int32 → Int32 → AH → Option (Unit × AH)} (hk2 : ∀ {v0 : Nat} {v1 : Int32} {v2 : Int32} {v3 : Int32} {h : AH} {H : Heap} {locs : List Loc} {cells slots : Nat} {ls : Array Slot}, Rp G h H → (∀ q ∈ locs, gB G ≤ q.base) → zl ls 9 [(0, zr v0), (1, .int v1), (2, .int v2), (3, .int v3)] → k2 v0 v1 v2 v3 h = some (r, h') → W p l e (gR G hs 3 86) s m args below meth c H locs cells slots (MQ below (Qcc G (none) h') args s (gC G - aZ hs) (gS - aU hs) (fun q => gB G ≤ q)) (F0 m 2 ls [])) {v0 : Nat} {v1 : Int32} {v2 : Int32} {v3 : Int32} {v4 : Int32} {s0 : Int32} {h : AH} {H : Heap} {locs : List Loc} {cells slots : Nat} {ls : Array Slot} (hR : Rp G h H) (hL : ∀ q ∈ locs, gB G ≤ q.base) (hl : zl ls 9 [(0, zr v0), (1, .int v1), (2, .int v2), (3, .int v3), (4, .int v4)]) (hp : p_X11_wantsLetters_40 k2 v0 v1 v2 v3 v4 s0 h = some (r, h')) : W p l e (gR G hs 3 86) s m args below meth c H locs cells slots (MQ below (Qcc G (none) h') args s (gC G - aZ hs) (gS - aU hs) (fun q => gB G ≤ q)) (F0 m 40 ls [.int s0]) := by
  obtain ⟨hx, hb, hml, hown, hts, hT, hK, rs, hlk, hret, hnm⟩ := id C
  have hm : ∀ w ∈ MW, w.before args s = true := fun w hw => hts w (hT w hw)
  unfold p_X11_wantsLetters_40 at hp
  refine z_istore (lv' := [(5, .int s0), (0, zr v0), (1, .int v1), (2, .int v2), (3, .int v3), (4, .int v4)]) hx hb dX11_wantsLetters_40 hl (by decide) rfl (fun ls hl => ?_)
  refine lv_iload_n hx hb dX11_wantsLetters_42 rfl (zl_at hl 4 rfl) ?_
  refine lv_if_eq (tgt := 59) hx hb dX11_wantsLetters_43 (by decide) (fun c1 => ?_) (fun c1 => ?_)
  · replace hp := ite_p hp c1
    exact s_X11_wantsLetters_59 C hk2 hR hL (zl_sub hl [1, 2, 3, 4, 5, 0] rfl) hp
  · replace hp := ite_n hp c1
    refine z_aload_n hx hb dX11_wantsLetters_46 rfl (zl_at hl 1 rfl) ?_
    refine lv_iload_n hx hb dX11_wantsLetters_47 rfl (zl_at hl 2 rfl) ?_
    refine lv_iload_n hx hb dX11_wantsLetters_48 rfl (zl_at hl 4 rfl) ?_
    refine lv_iconst (v := iI 1) hx hb dX11_wantsLetters_49 rfl ?_
    refine lv_isub hx hb dX11_wantsLetters_50 ?_
    obtain ⟨k2, hp⟩ := ck_i hp
    obtain ⟨r3, h4, er3, hp⟩ := bR_i hp
    refine r_callV (ci := 12) (r := (RX11, TX11, 32)) (n := 2) (As := [.int v1, .int (v3 - (iI 1))]) (rest := []) C (c_X11_signAt l G v0 v1 (v3 - (iI 1)) h r3 h4 er3) hR hL rfl k2 mw_1176 mw_1178 mp_28 mw_10 mw_1179 (by decide +kernel) (by decide) rfl (zl_size hl) rfl (by simp [zr_cat, in_cat]) dX11_wantsLetters_51 (st2 := [.int r3]) rfl (fun H locs cells slots hR hL => ?_)
    refine lv_bipush (v := iI 47) hx hb dX11_wantsLetters_54 (by decide +kernel) ?_
    refine lv_icmp_ne (tgt := 63) hx hb dX11_wantsLetters_56 (by decide) (fun c5 => ?_) (fun c5 => ?_)
    · replace hp := ite_n hp c5
      refine lv_iconst (v := iI 0) hx hb dX11_wantsLetters_63 rfl ?_
      exact s_X11_wantsLetters_64 C hk2 hR hL (zl_sub hl [1, 2, 3, 4, 5, 0] rfl) hp
    · replace hp := ite_p hp c5
      exact s_X11_wantsLetters_59 C hk2 hR hL (zl_sub hl [1, 2, 3, 4, 5, 0] rfl) hp
def p_X11_wantsLetters_39 (k2 : Nat → Int32 → Int32 → Int32 → AH → Option (Unit × AH)) (v0 : Nat) (v1 : Int32) (v2 : Int32) (v3 : Int32) (v4 : Int32) (h : AH) : Option (Unit × AH) :=
  p_X11_wantsLetters_40 k2 v0 v1 v2 v3 v4 (iI 0) h
set_option maxHeartbeats 4000000 in
set_option maxRecDepth 100000 in
theorem s_X11_wantsLetters_39 {p : Program} {l : Launch} {e : Env} {s : State} {m : MethodId} {args : Array Value} {below : List Frame} {meth : Method} {c : Code} {G : GG} {hs : AH} {r : Unit} {h' : AH} (C : Cx G hs p s m args meth c cX11_wantsLetters 9 RX11 (.code yX11_wantsLetters cX11_wantsLetters 9 none :: MW) none "wantsLetters") {k2 : Nat → Int32 → Int32 → Int32 → AH → Option (Unit × AH)} (hk2 : ∀ {v0 : Nat} {v1 : Int32} {v2 : Int32} {v3 : Int32} {h : AH} {H : Heap} {locs : List Loc} {cells slots : Nat} {ls : Array Slot}, Rp G h H → (∀ q ∈ locs, gB G ≤ q.base) → zl ls 9 [(0, zr v0), (1, .int v1), (2, .int v2), (3, .int v3)] → k2 v0 v1 v2 v3 h = some (r, h') → W p l e (gR G hs 3 86) s m args below meth c H locs cells slots (MQ below (Qcc G (none) h') args s (gC G - aZ hs) (gS - aU hs) (fun q => gB G ≤ q)) (F0 m 2 ls [])) {v0 : Nat} {v1 : Int32} {v2 : Int32} {v3 : Int32} {v4 : Int32} {h : AH} {H : Heap} {locs : List Loc} {cells slots : Nat} {ls : Array Slot} (hR : Rp G h H) (hL : ∀ q ∈ locs, gB G ≤ q.base) (hl : zl ls 9 [(0, zr v0), (1, .int v1), (2, .int v2), (3, .int v3), (4, .int v4)]) (hp : p_X11_wantsLetters_39 k2 v0 v1 v2 v3 v4 h = some (r, h')) : W p l e (gR G hs 3 86) s m args below meth c H locs cells slots (MQ below (Qcc G (none) h') args s (gC G - aZ hs) (gS - aU hs) (fun q => gB G ≤ q)) (F0 m 39 ls []) := by
  obtain ⟨hx, hb, hml, hown, hts, hT, hK, rs, hlk, hret, hnm⟩ := id C
  have hm : ∀ w ∈ MW, w.before args s = true := fun w hw => hts w (hT w hw)
  unfold p_X11_wantsLetters_39 at hp
  refine lv_iconst (v := iI 0) hx hb dX11_wantsLetters_39 rfl ?_
  exact s_X11_wantsLetters_40 C hk2 hR hL (zl_sub hl [0, 1, 2, 3, 4] rfl) hp
def p_X11_wantsLetters_2  : Nat → Nat → Int32 → Int32 → Int32 → AH → Option (Unit × AH)
  | 0, _, _, _, _, _ => none
  | n + 1, v0, v1, v2, v3, h =>
    ck (aK h v0 = 13) <|
    if (aI h v0 29) ≤ v3 then
      some ((), h)
    else
      ck (aK h v0 = 13) <|
      bR (p_X11_signAt v0 v1 v3 h) fun r4 h5 =>
      if v3 ≤ 0 then
        p_X11_wantsLetters_39 (p_X11_wantsLetters_2  n) v0 v1 v2 v3 r4 h5
      else
        ck (aK h5 v0 = 13) <|
        bR (p_X11_signAt v0 v1 (v3 - (iI 1)) h5) fun r8 h9 =>
        if r8 = (iI 32) then
          p_X11_wantsLetters_40 (p_X11_wantsLetters_2  n) v0 v1 v2 v3 r4 (iI 1) h9
        else
          p_X11_wantsLetters_39 (p_X11_wantsLetters_2  n) v0 v1 v2 v3 r4 h9
set_option maxHeartbeats 4000000 in
set_option maxRecDepth 100000 in
theorem s_X11_wantsLetters_2 {p : Program} {l : Launch} {e : Env} {s : State} {m : MethodId} {args : Array Value} {below : List Frame} {meth : Method} {c : Code} {G : GG} {hs : AH} {r : Unit} {h' : AH} (C : Cx G hs p s m args meth c cX11_wantsLetters 9 RX11 (.code yX11_wantsLetters cX11_wantsLetters 9 none :: MW) none "wantsLetters")   : ∀ (n : Nat) (v0 : Nat) (v1 : Int32) (v2 : Int32) (v3 : Int32) (h : AH) (H : Heap) (locs : List Loc) (cells slots : Nat) (ls : Array Slot) (hR : Rp G h H) (hL : ∀ q ∈ locs, gB G ≤ q.base) (hl : zl ls 9 [(0, zr v0), (1, .int v1), (2, .int v2), (3, .int v3)]) (hp : p_X11_wantsLetters_2  n v0 v1 v2 v3 h = some (r, h')), W p l e (gR G hs 3 86) s m args below meth c H locs cells slots (MQ below (Qcc G (none) h') args s (gC G - aZ hs) (gS - aU hs) (fun q => gB G ≤ q)) (F0 m 2 ls []) := by
  obtain ⟨hx, hb, hml, hown, hts, hT, hK, rs, hlk, hret, hnm⟩ := id C
  have hm : ∀ w ∈ MW, w.before args s = true := fun w hw => hts w (hT w hw)
  intro n
  induction n with
  | zero =>
    intro v0 v1 v2 v3 h H locs cells slots ls hR hL hl hp
    exact absurd (show none = some (r, h') from hp) (by simp)
  | succ n ih =>
    intro v0 v1 v2 v3 h H locs cells slots ls hR hL hl hp
    rw [p_X11_wantsLetters_2.eq_2] at hp
    refine lv_iload_n hx hb dX11_wantsLetters_2 rfl (zl_at hl 3 rfl) ?_
    refine z_aload_n hx hb dX11_wantsLetters_3 rfl (zl_at hl 0 rfl) ?_
    obtain ⟨k1, hp⟩ := ck_i hp
    refine r_get (ci := 12) (C := RX11) (T := TX11) (N := 32) (v := .int (aI h v0 29)) hx hb hm ii_X11 hown hK hR rfl k1 29 (by decide) (hm _ mw_1011) (fun _ h9 => h9) rfl dX11_wantsLetters_4 ?_
    refine lv_icmp_ge (tgt := 201) hx hb dX11_wantsLetters_7 (by decide) (fun c2 => ?_) (fun c2 => ?_)
    · replace hp := ite_p hp c2
      cases hp
      exact r_vret C hR hL dX11_wantsLetters_201
    · replace hp := ite_n hp c2
      refine z_aload_n hx hb dX11_wantsLetters_10 rfl (zl_at hl 0 rfl) ?_
      refine lv_iload_n hx hb dX11_wantsLetters_11 rfl (zl_at hl 1 rfl) ?_
      refine lv_iload_n hx hb dX11_wantsLetters_12 rfl (zl_at hl 3 rfl) ?_
      obtain ⟨k3, hp⟩ := ck_i hp
      obtain ⟨r4, h5, er4, hp⟩ := bR_i hp
      refine r_callV (ci := 12) (r := (RX11, TX11, 32)) (n := 2) (As := [.int v1, .int v3]) (rest := []) C (c_X11_signAt l G v0 v1 v3 h r4 h5 er4) hR hL rfl k3 mw_1176 mw_1178 mp_28 mw_10 mw_1179 (by decide +kernel) (by decide) rfl (zl_size hl) rfl (by simp [zr_cat, in_cat]) dX11_wantsLetters_13 (st2 := [.int r4]) rfl (fun H locs cells slots hR hL => ?_)
      refine z_istore (lv' := [(4, .int r4), (0, zr v0), (1, .int v1), (2, .int v2), (3, .int v3)]) hx hb dX11_wantsLetters_16 hl (by decide) rfl (fun ls hl => ?_)
      refine lv_iload_n hx hb dX11_wantsLetters_18 rfl (zl_at hl 4 rfl) ?_
      refine lv_if_le (tgt := 39) hx hb dX11_wantsLetters_19 (by decide) (fun c6 => ?_) (fun c6 => ?_)
      · replace hp := ite_p hp c6
        exact s_X11_wantsLetters_39 C (fun hR hL hl hp => ih _ _ _ _ _ _ _ _ _ _ hR hL hl hp) hR hL (zl_sub hl [1, 2, 3, 4, 0] rfl) hp
      · replace hp := ite_n hp c6
        refine z_aload_n hx hb dX11_wantsLetters_22 rfl (zl_at hl 1 rfl) ?_
        refine lv_iload_n hx hb dX11_wantsLetters_23 rfl (zl_at hl 2 rfl) ?_
        refine lv_iload_n hx hb dX11_wantsLetters_24 rfl (zl_at hl 4 rfl) ?_
        refine lv_iconst (v := iI 1) hx hb dX11_wantsLetters_25 rfl ?_
        refine lv_isub hx hb dX11_wantsLetters_26 ?_
        obtain ⟨k7, hp⟩ := ck_i hp
        obtain ⟨r8, h9, er8, hp⟩ := bR_i hp
        refine r_callV (ci := 12) (r := (RX11, TX11, 32)) (n := 2) (As := [.int v1, .int (v3 - (iI 1))]) (rest := []) C (c_X11_signAt l G v0 v1 (v3 - (iI 1)) h5 r8 h9 er8) hR hL rfl k7 mw_1176 mw_1178 mp_28 mw_10 mw_1179 (by decide +kernel) (by decide) rfl (zl_size hl) rfl (by simp [zr_cat, in_cat]) dX11_wantsLetters_27 (st2 := [.int r8]) rfl (fun H locs cells slots hR hL => ?_)
        refine lv_bipush (v := iI 32) hx hb dX11_wantsLetters_30 (by decide +kernel) ?_
        refine lv_icmp_ne (tgt := 39) hx hb dX11_wantsLetters_32 (by decide) (fun c10 => ?_) (fun c10 => ?_)
        · replace hp := ite_n hp c10
          exact s_X11_wantsLetters_39 C (fun hR hL hl hp => ih _ _ _ _ _ _ _ _ _ _ hR hL hl hp) hR hL (zl_sub hl [1, 2, 3, 4, 0] rfl) hp
        · replace hp := ite_p hp c10
          refine lv_iconst (v := iI 1) hx hb dX11_wantsLetters_35 rfl ?_
          refine lv_goto (tgt := 40) hx hb dX11_wantsLetters_36 (by decide) ?_
          exact s_X11_wantsLetters_40 C (fun hR hL hl hp => ih _ _ _ _ _ _ _ _ _ _ hR hL hl hp) hR hL (zl_sub hl [1, 2, 3, 4, 0] rfl) hp
def p_X11_wantsLetters_0  (v0 : Nat) (v1 : Int32) (v2 : Int32) (h : AH) : Option (Unit × AH) :=
  nm ((iI 0)) fun (x1 : Int32) =>
  p_X11_wantsLetters_2  FU v0 v1 v2 x1 h
set_option maxHeartbeats 4000000 in
set_option maxRecDepth 100000 in
theorem s_X11_wantsLetters_0 {p : Program} {l : Launch} {e : Env} {s : State} {m : MethodId} {args : Array Value} {below : List Frame} {meth : Method} {c : Code} {G : GG} {hs : AH} {r : Unit} {h' : AH} (C : Cx G hs p s m args meth c cX11_wantsLetters 9 RX11 (.code yX11_wantsLetters cX11_wantsLetters 9 none :: MW) none "wantsLetters")   {v0 : Nat} {v1 : Int32} {v2 : Int32} {h : AH} {H : Heap} {locs : List Loc} {cells slots : Nat} {ls : Array Slot} (hR : Rp G h H) (hL : ∀ q ∈ locs, gB G ≤ q.base) (hl : zl ls 9 [(0, zr v0), (1, .int v1), (2, .int v2)]) (hp : p_X11_wantsLetters_0  v0 v1 v2 h = some (r, h')) : W p l e (gR G hs 3 86) s m args below meth c H locs cells slots (MQ below (Qcc G (none) h') args s (gC G - aZ hs) (gS - aU hs) (fun q => gB G ≤ q)) (F0 m 0 ls []) := by
  obtain ⟨hx, hb, hml, hown, hts, hT, hK, rs, hlk, hret, hnm⟩ := id C
  have hm : ∀ w ∈ MW, w.before args s = true := fun w hw => hts w (hT w hw)
  unfold p_X11_wantsLetters_0 at hp
  refine lv_iconst (v := iI 0) hx hb dX11_wantsLetters_0 rfl ?_
  refine lv_topi (fun x1 ex1 => ?_)
  replace hp := nm_i hp ex1
  refine z_istore_n (lv' := [(3, .int x1), (0, zr v0), (1, .int v1), (2, .int v2)]) hx hb dX11_wantsLetters_1 rfl hl (by decide) rfl (fun ls hl => ?_)
  exact s_X11_wantsLetters_2 C  _ _ _ _ _ _ _ _ _ _ _ hR hL (zl_sub hl [1, 2, 3, 0] rfl) hp
def p_X11_wantsLetters (v0 : Nat) (v1 : Int32) (v2 : Int32) (h : AH) : Option (Unit × AH) := ck (v0 ≠ 0) <| p_X11_wantsLetters_0 v0 v1 v2 h
theorem c_X11_wantsLetters (l : Launch) (G : GG) (v0 : Nat) (v1 : Int32) (v2 : Int32) (h : AH) (r : Unit) (h' : AH) (hp : p_X11_wantsLetters v0 v1 v2 h = some (r, h')) : Ct l yX11_wantsLetters (.code yX11_wantsLetters cX11_wantsLetters 9 none :: MW) G 3 86 [.ref (v0 - 1), .int v1, .int v2] h (none) h' := by
  obtain ⟨hz0, hp⟩ := ck_i hp
  refine Ct.of (by decide +kernel) (Nat.le_of_ble_eq_true rfl) ?_
  intro p e s m args below meth c C hR ls hl
  have hl : zl ls 9 [(0, zr v0), (1, .int v1), (2, .int v2)] := ⟨by rw [zr_p hz0]; exact hl, by simp [zr_cat, in_cat]⟩
  exact s_X11_wantsLetters_0 C hR (fun _ hq => nomatch hq) hl hp
/-! CursorKeepModel.wantsLines(II)V -/
def p_X11_wantsLines_59 (k2 : Nat → Int32 → Int32 → Int32 → AH → Option (Unit × AH)) (k24 : Nat → Int32 → Int32 → Int32 → Int32 → Int32 → Int32 → AH → Option (Unit × AH)) (v0 : Nat) (v1 : Int32) (v2 : Int32) (v3 : Int32) (v4 : Int32) (v6 : Int32) (s0 : Int32) (h : AH) : Option (Unit × AH) :=
  nm (v6 + iI 1) fun (x1 : Int32) =>
  k24 v0 v1 v2 v3 v4 s0 x1 h
set_option maxHeartbeats 4000000 in
set_option maxRecDepth 100000 in
theorem s_X11_wantsLines_59 {p : Program} {l : Launch} {e : Env} {s : State} {m : MethodId} {args : Array Value} {below : List Frame} {meth : Method} {c : Code} {G : GG} {hs : AH} {r : Unit} {h' : AH} (C : Cx G hs p s m args meth c cX11_wantsLines 7 RX11 (.code yX11_wantsLines cX11_wantsLines 7 none :: MW) none "wantsLines") {k2 : Nat → Int32 → Int32 → Int32 → AH → Option (Unit × AH)} {k24 : Nat → Int32 → Int32 → Int32 → Int32 → Int32 → Int32 → AH → Option (Unit × AH)} (hk2 : ∀ {v0 : Nat} {v1 : Int32} {v2 : Int32} {v3 : Int32} {h : AH} {H : Heap} {locs : List Loc} {cells slots : Nat} {ls : Array Slot}, Rp G h H → (∀ q ∈ locs, gB G ≤ q.base) → zl ls 7 [(0, zr v0), (1, .int v1), (2, .int v2), (3, .int v3)] → k2 v0 v1 v2 v3 h = some (r, h') → W p l e (gR G hs 3 86) s m args below meth c H locs cells slots (MQ below (Qcc G (none) h') args s (gC G - aZ hs) (gS - aU hs) (fun q => gB G ≤ q)) (F0 m 2 ls [])) (hk24 : ∀ {v0 : Nat} {v1 : Int32} {v2 : Int32} {v3 : Int32} {v4 : Int32} {v5 : Int32} {v6 : Int32} {h : AH} {H : Heap} {locs : List Loc} {cells slots : Nat} {ls : Array Slot}, Rp G h H → (∀ q ∈ locs, gB G ≤ q.base) → zl ls 7 [(0, zr v0), (1, .int v1), (2, .int v2), (3, .int v3), (4, .int v4), (5, .int v5), (6, .int v6)] → k24 v0 v1 v2 v3 v4 v5 v6 h = some (r, h') → W p l e (gR G hs 3 86) s m args below meth c H locs cells slots (MQ below (Qcc G (none) h') args s (gC G - aZ hs) (gS - aU hs) (fun q => gB G ≤ q)) (F0 m 24 ls [])) {v0 : Nat} {v1 : Int32} {v2 : Int32} {v3 : Int32} {v4 : Int32} {v6 : Int32} {s0 : Int32} {h : AH} {H : Heap} {locs : List Loc} {cells slots : Nat} {ls : Array Slot} (hR : Rp G h H) (hL : ∀ q ∈ locs, gB G ≤ q.base) (hl : zl ls 7 [(0, zr v0), (1, .int v1), (2, .int v2), (3, .int v3), (4, .int v4), (6, .int v6)]) (hp : p_X11_wantsLines_59 k2 k24 v0 v1 v2 v3 v4 v6 s0 h = some (r, h')) : W p l e (gR G hs 3 86) s m args below meth c H locs cells slots (MQ below (Qcc G (none) h') args s (gC G - aZ hs) (gS - aU hs) (fun q => gB G ≤ q)) (F0 m 59 ls [.int s0]) := by
  obtain ⟨hx, hb, hml, hown, hts, hT, hK, rs, hlk, hret, hnm⟩ := id C
  have hm : ∀ w ∈ MW, w.before args s = true := fun w hw => hts w (hT w hw)
  unfold p_X11_wantsLines_59 at hp
  refine z_istore (lv' := [(5, .int s0), (0, zr v0), (1, .int v1), (2, .int v2), (3, .int v3), (4, .int v4), (6, .int v6)]) hx hb dX11_wantsLines_59 hl (by decide) rfl (fun ls hl => ?_)
  obtain ⟨x1, ex1⟩ : ∃ y : Int32, y = v6 + iI 1 := ⟨_, rfl⟩
  replace hp := nm_i hp ex1
  refine z_iinc (v := x1) (lv' := [(6, .int x1), (5, .int s0), (0, zr v0), (1, .int v1), (2, .int v2), (3, .int v3), (4, .int v4)]) hx hb dX11_wantsLines_61 hl (k := 6) rfl ex1 (by decide) rfl (fun ls hl => ?_)
  refine lv_goto (tgt := 24) hx hb dX11_wantsLines_64 (by decide) ?_
  exact hk24 hR hL (zl_sub hl [2, 3, 4, 5, 6, 1, 0] rfl) hp
def p_X11_wantsLines_97 (k2 : Nat → Int32 → Int32 → Int32 → AH → Option (Unit × AH)) (v0 : Nat) (v1 : Int32) (v2 : Int32) (s0 : Int32) (h : AH) : Option (Unit × AH) :=
  k2 v0 v1 v2 s0 h
set_option maxHeartbeats 4000000 in
set_option maxRecDepth 100000 in
theorem s_X11_wantsLines_97 {p : Program} {l : Launch} {e : Env} {s : State} {m : MethodId} {args : Array Value} {below : List Frame} {meth : Method} {c : Code} {G : GG} {hs : AH} {r : Unit} {h' : AH} (C : Cx G hs p s m args meth c cX11_wantsLines 7 RX11 (.code yX11_wantsLines cX11_wantsLines 7 none :: MW) none "wantsLines") {k2 : Nat → Int32 → Int32 → Int32 → AH → Option (Unit × AH)} (hk2 : ∀ {v0 : Nat} {v1 : Int32} {v2 : Int32} {v3 : Int32} {h : AH} {H : Heap} {locs : List Loc} {cells slots : Nat} {ls : Array Slot}, Rp G h H → (∀ q ∈ locs, gB G ≤ q.base) → zl ls 7 [(0, zr v0), (1, .int v1), (2, .int v2), (3, .int v3)] → k2 v0 v1 v2 v3 h = some (r, h') → W p l e (gR G hs 3 86) s m args below meth c H locs cells slots (MQ below (Qcc G (none) h') args s (gC G - aZ hs) (gS - aU hs) (fun q => gB G ≤ q)) (F0 m 2 ls [])) {v0 : Nat} {v1 : Int32} {v2 : Int32} {s0 : Int32} {h : AH} {H : Heap} {locs : List Loc} {cells slots : Nat} {ls : Array Slot} (hR : Rp G h H) (hL : ∀ q ∈ locs, gB G ≤ q.base) (hl : zl ls 7 [(0, zr v0), (1, .int v1), (2, .int v2)]) (hp : p_X11_wantsLines_97 k2 v0 v1 v2 s0 h = some (r, h')) : W p l e (gR G hs 3 86) s m args below meth c H locs cells slots (MQ below (Qcc G (none) h') args s (gC G - aZ hs) (gS - aU hs) (fun q => gB G ≤ q)) (F0 m 97 ls [.int s0]) := by
  obtain ⟨hx, hb, hml, hown, hts, hT, hK, rs, hlk, hret, hnm⟩ := id C
  have hm : ∀ w ∈ MW, w.before args s = true := fun w hw => hts w (hT w hw)
  unfold p_X11_wantsLines_97 at hp
  refine z_istore_n (lv' := [(3, .int s0), (0, zr v0), (1, .int v1), (2, .int v2)]) hx hb dX11_wantsLines_97 rfl hl (by decide) rfl (fun ls hl => ?_)
  refine lv_goto (tgt := 2) hx hb dX11_wantsLines_98 (by decide) ?_
  exact hk2 hR hL (zl_sub hl [1, 2, 3, 0] rfl) hp
def p_X11_wantsLines_81 (k2 : Nat → Int32 → Int32 → Int32 → AH → Option (Unit × AH)) (v0 : Nat) (v1 : Int32) (v2 : Int32) (v4 : Int32) (v5 : Int32) (h : AH) : Option (Unit × AH) :=
  if v5 < 0 then
    p_X11_wantsLines_97 k2 v0 v1 v2 (v4 + (iI 1)) h
  else
    p_X11_wantsLines_97 k2 v0 v1 v2 (v5 + (iI 1)) h
set_option maxHeartbeats 4000000 in
set_option maxRecDepth 100000 in
theorem s_X11_wantsLines_81 {p : Program} {l : Launch} {e : Env} {s : State} {m : MethodId} {args : Array Value} {below : List Frame} {meth : Method} {c : Code} {G : GG} {hs : AH} {r : Unit} {h' : AH} (C : Cx G hs p s m args meth c cX11_wantsLines 7 RX11 (.code yX11_wantsLines cX11_wantsLines 7 none :: MW) none "wantsLines") {k2 : Nat → Int32 → Int32 → Int32 → AH → Option (Unit × AH)} (hk2 : ∀ {v0 : Nat} {v1 : Int32} {v2 : Int32} {v3 : Int32} {h : AH} {H : Heap} {locs : List Loc} {cells slots : Nat} {ls : Array Slot}, Rp G h H → (∀ q ∈ locs, gB G ≤ q.base) → zl ls 7 [(0, zr v0), (1, .int v1), (2, .int v2), (3, .int v3)] → k2 v0 v1 v2 v3 h = some (r, h') → W p l e (gR G hs 3 86) s m args below meth c H locs cells slots (MQ below (Qcc G (none) h') args s (gC G - aZ hs) (gS - aU hs) (fun q => gB G ≤ q)) (F0 m 2 ls [])) {v0 : Nat} {v1 : Int32} {v2 : Int32} {v4 : Int32} {v5 : Int32} {h : AH} {H : Heap} {locs : List Loc} {cells slots : Nat} {ls : Array Slot} (hR : Rp G h H) (hL : ∀ q ∈ locs, gB G ≤ q.base) (hl : zl ls 7 [(0, zr v0), (1, .int v1), (2, .int v2), (4, .int v4), (5, .int v5)]) (hp : p_X11_wantsLines_81 k2 v0 v1 v2 v4 v5 h = some (r, h')) : W p l e (gR G hs 3 86) s m args below meth c H locs cells slots (MQ below (Qcc G (none) h') args s (gC G - aZ hs) (gS - aU hs) (fun q => gB G ≤ q)) (F0 m 81 ls []) := by
  obtain ⟨hx, hb, hml, hown, hts, hT, hK, rs, hlk, hret, hnm⟩ := id C
  have hm : ∀ w ∈ MW, w.before args s = true := fun w hw => hts w (hT w hw)
  unfold p_X11_wantsLines_81 at hp
  refine lv_iload hx hb dX11_wantsLines_81 (zl_at hl 4 rfl) ?_
  refine lv_if_lt (tgt := 93) hx hb dX11_wantsLines_83 (by decide) (fun c1 => ?_) (fun c1 => ?_)
  · replace hp := ite_p hp c1
    refine lv_iload hx hb dX11_wantsLines_93 (zl_at hl 3 rfl) ?_
    refine lv_iconst (v := iI 1) hx hb dX11_wantsLines_95 rfl ?_
    refine lv_iadd hx hb dX11_wantsLines_96 ?_
    exact s_X11_wantsLines_97 C hk2 hR hL (zl_sub hl [0, 1, 2] rfl) hp
  · replace hp := ite_n hp c1
    refine lv_iload hx hb dX11_wantsLines_86 (zl_at hl 4 rfl) ?_
    refine lv_iconst (v := iI 1) hx hb dX11_wantsLines_88 rfl ?_
    refine lv_iadd hx hb dX11_wantsLines_89 ?_
    refine lv_goto (tgt := 97) hx hb dX11_wantsLines_90 (by decide) ?_
    exact s_X11_wantsLines_97 C hk2 hR hL (zl_sub hl [0, 1, 2] rfl) hp
def p_X11_wantsLines_67 (k2 : Nat → Int32 → Int32 → Int32 → AH → Option (Unit × AH)) (v0 : Nat) (v1 : Int32) (v2 : Int32) (v4 : Int32) (v5 : Int32) (h : AH) : Option (Unit × AH) :=
  if v5 < 0 then
    p_X11_wantsLines_81 k2 v0 v1 v2 v4 v5 h
  else
    ck (aK h v0 = 13) <|
    bR (p_X11_wants v0 v1 v5 (iI 47) h) fun r3 h4 =>
    p_X11_wantsLines_81 k2 v0 v1 v2 v4 v5 h4
set_option maxHeartbeats 4000000 in
set_option maxRecDepth 100000 in
theorem s_X11_wantsLines_67 {p : Program} {l : Launch} {e : Env} {s : State} {m : MethodId} {args : Array Value} {below : List Frame} {meth : Method} {c : Code} {G : GG} {hs : AH} {r : Unit} {h' : AH} (C : Cx G hs p s m args meth c cX11_wantsLines 7 RX11 (.code yX11_wantsLines cX11_wantsLines 7 none :: MW) none "wantsLines") {k2 : Nat → Int32 → Int32 → Int32 → AH → Option (Unit × AH)} (hk2 : ∀ {v0 : Nat} {v1 : Int32} {v2 : Int32} {v3 : Int32} {h : AH} {H : Heap} {locs : List Loc} {cells slots : Nat} {ls : Array Slot}, Rp G h H → (∀ q ∈ locs, gB G ≤ q.base) → zl ls 7 [(0, zr v0), (1, .int v1), (2, .int v2), (3, .int v3)] → k2 v0 v1 v2 v3 h = some (r, h') → W p l e (gR G hs 3 86) s m args below meth c H locs cells slots (MQ below (Qcc G (none) h') args s (gC G - aZ hs) (gS - aU hs) (fun q => gB G ≤ q)) (F0 m 2 ls [])) {v0 : Nat} {v1 : Int32} {v2 : Int32} {v4 : Int32} {v5 : Int32} {h : AH} {H : Heap} {locs : List Loc} {cells slots : Nat} {ls : Array Slot} (hR : Rp G h H) (hL : ∀ q ∈ locs, gB G ≤ q.base) (hl : zl ls 7 [(0, zr v0), (1, .int v1), (2, .int v2), (4, .int v4), (5, .int v5)]) (hp : p_X11_wantsLines_67 k2 v0 v1 v2 v4 v5 h = some (r, h')) : W p l e (gR G hs 3 86) s m args below meth c H locs cells slots (MQ below (Qcc G (none) h') args s (gC G - aZ hs) (gS - aU hs) (fun q => gB G ≤ q)) (F0 m 67 ls []) := by
  obtain ⟨hx, hb, hml, hown, hts, hT, hK, rs, hlk, hret, hnm⟩ := id C
  have hm : ∀ w ∈ MW, w.before args s = true := fun w hw => hts w (hT w hw)
  unfold p_X11_wantsLines_67 at hp
  refine lv_iload hx hb dX11_wantsLines_67 (zl_at hl 4 rfl) ?_
  refine lv_if_lt (tgt := 81) hx hb dX11_wantsLines_69 (by decide) (fun c1 => ?_) (fun c1 => ?_)
  · replace hp := ite_p hp c1
    exact s_X11_wantsLines_81 C hk2 hR hL (zl_sub hl [0, 1, 2, 3, 4] rfl) hp
  · replace hp := ite_n hp c1
    refine z_aload_n hx hb dX11_wantsLines_72 rfl (zl_at hl 0 rfl) ?_
    refine lv_iload_n hx hb dX11_wantsLines_73 rfl (zl_at hl 1 rfl) ?_
    refine lv_iload hx hb dX11_wantsLines_74 (zl_at hl 4 rfl) ?_
    refine lv_bipush (v := iI 47) hx hb dX11_wantsLines_76 (by decide +kernel) ?_
    obtain ⟨k2, hp⟩ := ck_i hp
    obtain ⟨r3, h4, er3, hp⟩ := bR_i hp
    refine r_callV (ci := 12) (r := (RX11, TX11, 32)) (n := 3) (As := [.int v1, .int v5, .int (iI 47)]) (rest := []) C (c_X11_wants l G v0 v1 v5 (iI 47) h r3 h4 er3) hR hL rfl k2 mw_1180 mw_1182 mp_29 mw_10 mw_1183 (by decide +kernel) (by decide) rfl (zl_size hl) rfl (by simp [zr_cat, in_cat]) dX11_wantsLines_78 (st2 := []) rfl (fun H locs cells slots hR hL => ?_)
    exact s_X11_wantsLines_81 C hk2 hR hL (zl_sub hl [0, 1, 2, 3, 4] rfl) hp
def p_X11_wantsLines_24 (k2 : Nat → Int32 → Int32 → Int32 → AH → Option (Unit × AH)) : Nat → Nat → Int32 → Int32 → Int32 → Int32 → Int32 → Int32 → AH → Option (Unit × AH)
  | 0, _, _, _, _, _, _, _, _ => none
  | n + 1, v0, v1, v2, v3, v4, v5, v6, h =>
    if (v3 + v2) < v6 then
      p_X11_wantsLines_67 k2 v0 v1 v2 v4 v5 h
    else
      if (v4 - v3) ≤ v2 then
        p_X11_wantsLines_67 k2 v0 v1 v2 v4 v5 h
      else
        ck (aK h v0 = 13) <|
        bR (p_X11_signAt v0 v1 v6 h) fun r4 h5 =>
        if r4 = (iI 32) then
          p_X11_wantsLines_59 k2 (p_X11_wantsLines_24 k2 n) v0 v1 v2 v3 v4 v6 v6 h5
        else
          p_X11_wantsLines_59 k2 (p_X11_wantsLines_24 k2 n) v0 v1 v2 v3 v4 v6 v5 h5
set_option maxHeartbeats 4000000 in
set_option maxRecDepth 100000 in
theorem s_X11_wantsLines_24 {p : Program} {l : Launch} {e : Env} {s : State} {m : MethodId} {args : Array Value} {below : List Frame} {meth : Method} {c : Code} {G : GG} {hs : AH} {r : Unit} {h' : AH} (C : Cx G hs p s m args meth c cX11_wantsLines 7 RX11 (.code yX11_wantsLines cX11_wantsLines 7 none :: MW) none "wantsLines") {k2 : Nat → Int32 → Int32 → Int32 → AH → Option (Unit × AH)} (hk2 : ∀ {v0 : Nat} {v1 : Int32} {v2 : Int32} {v3 : Int32} {h : AH} {H : Heap} {locs : List Loc} {cells slots : Nat} {ls : Array Slot}, Rp G h H → (∀ q ∈ locs, gB G ≤ q.base) → zl ls 7 [(0, zr v0), (1, .int v1), (2, .int v2), (3, .int v3)] → k2 v0 v1 v2 v3 h = some (r, h') → W p l e (gR G hs 3 86) s m args below meth c H locs cells slots (MQ below (Qcc G (none) h') args s (gC G - aZ hs) (gS - aU hs) (fun q => gB G ≤ q)) (F0 m 2 ls [])) : ∀ (n : Nat) (v0 : Nat) (v1 : Int32) (v2 : Int32) (v3 : Int32) (v4 : Int32) (v5 : Int32) (v6 : Int32) (h : AH) (H : Heap) (locs : List Loc) (cells slots : Nat) (ls : Array Slot) (hR : Rp G h H) (hL : ∀ q ∈ locs, gB G ≤ q.base) (hl : zl ls 7 [(0, zr v0), (1, .int v1), (2, .int v2), (3, .int v3), (4, .int v4), (5, .int v5), (6, .int v6)]) (hp : p_X11_wantsLines_24 k2 n v0 v1 v2 v3 v4 v5 v6 h = some (r, h')), W p l e (gR G hs 3 86) s m args below meth c H locs cells slots (MQ below (Qcc G (none) h') args s (gC G - aZ hs) (gS - aU hs) (fun q => gB G ≤ q)) (F0 m 24 ls []) := by
  obtain ⟨hx, hb, hml, hown, hts, hT, hK, rs, hlk, hret, hnm⟩ := id C
  have hm : ∀ w ∈ MW, w.before args s = true := fun w hw => hts w (hT w hw)
  intro n
  induction n with
  | zero =>
    intro v0 v1 v2 v3 v4 v5 v6 h H locs cells slots ls hR hL hl hp
    exact absurd (show none = some (r, h') from hp) (by simp)
  | succ n ih =>
    intro v0 v1 v2 v3 v4 v5 v6 h H locs cells slots ls hR hL hl hp
    rw [p_X11_wantsLines_24.eq_2] at hp
    refine lv_iload hx hb dX11_wantsLines_24 (zl_at hl 6 rfl) ?_
    refine lv_iload_n hx hb dX11_wantsLines_26 rfl (zl_at hl 3 rfl) ?_
    refine lv_iload_n hx hb dX11_wantsLines_27 rfl (zl_at hl 2 rfl) ?_
    refine lv_iadd hx hb dX11_wantsLines_28 ?_
    refine lv_icmp_gt (tgt := 67) hx hb dX11_wantsLines_29 (by decide) (fun c1 => ?_) (fun c1 => ?_)
    · replace hp := ite_p hp c1
      exact s_X11_wantsLines_67 C hk2 hR hL (zl_sub hl [0, 1, 2, 4, 5] rfl) hp
    · replace hp := ite_n hp c1
      refine lv_iload hx hb dX11_wantsLines_32 (zl_at hl 4 rfl) ?_
      refine lv_iload_n hx hb dX11_wantsLines_34 rfl (zl_at hl 3 rfl) ?_
      refine lv_isub hx hb dX11_wantsLines_35 ?_
      refine lv_iload_n hx hb dX11_wantsLines_36 rfl (zl_at hl 2 rfl) ?_
      refine lv_icmp_le (tgt := 67) hx hb dX11_wantsLines_37 (by decide) (fun c2 => ?_) (fun c2 => ?_)
      · replace hp := ite_p hp c2
        exact s_X11_wantsLines_67 C hk2 hR hL (zl_sub hl [0, 1, 2, 4, 5] rfl) hp
      · replace hp := ite_n hp c2
        refine z_aload_n hx hb dX11_wantsLines_40 rfl (zl_at hl 0 rfl) ?_
        refine lv_iload_n hx hb dX11_wantsLines_41 rfl (zl_at hl 1 rfl) ?_
        refine lv_iload hx hb dX11_wantsLines_42 (zl_at hl 6 rfl) ?_
        obtain ⟨k3, hp⟩ := ck_i hp
        obtain ⟨r4, h5, er4, hp⟩ := bR_i hp
        refine r_callV (ci := 12) (r := (RX11, TX11, 32)) (n := 2) (As := [.int v1, .int v6]) (rest := []) C (c_X11_signAt l G v0 v1 v6 h r4 h5 er4) hR hL rfl k3 mw_1176 mw_1178 mp_28 mw_10 mw_1179 (by decide +kernel) (by decide) rfl (zl_size hl) rfl (by simp [zr_cat, in_cat]) dX11_wantsLines_44 (st2 := [.int r4]) rfl (fun H locs cells slots hR hL => ?_)
        refine lv_bipush (v := iI 32) hx hb dX11_wantsLines_47 (by decide +kernel) ?_
        refine lv_icmp_ne (tgt := 57) hx hb dX11_wantsLines_49 (by decide) (fun c6 => ?_) (fun c6 => ?_)
        · replace hp := ite_n hp c6
          refine lv_iload hx hb dX11_wantsLines_57 (zl_at hl 5 rfl) ?_
          exact s_X11_wantsLines_59 C hk2 (fun hR hL hl hp => ih _ _ _ _ _ _ _ _ _ _ _ _ _ hR hL hl hp) hR hL (zl_sub hl [0, 1, 2, 3, 4, 6] rfl) hp
        · replace hp := ite_p hp c6
          refine lv_iload hx hb dX11_wantsLines_52 (zl_at hl 6 rfl) ?_
          refine lv_goto (tgt := 59) hx hb dX11_wantsLines_54 (by decide) ?_
          exact s_X11_wantsLines_59 C hk2 (fun hR hL hl hp => ih _ _ _ _ _ _ _ _ _ _ _ _ _ hR hL hl hp) hR hL (zl_sub hl [0, 1, 2, 3, 4, 6] rfl) hp
def p_X11_wantsLines_2  : Nat → Nat → Int32 → Int32 → Int32 → AH → Option (Unit × AH)
  | 0, _, _, _, _, _ => none
  | n + 1, v0, v1, v2, v3, h =>
    ck (aK h v0 = 13) <|
    if (aI h v0 29) ≤ v3 then
      some ((), h)
    else
      ck (aK h v0 = 13) <|
      bR (p_X11_nextEnd v0 v1 v3 h) fun r4 h5 =>
      nm ((iI (-1))) fun (x6 : Int32) =>
      p_X11_wantsLines_24 (p_X11_wantsLines_2  n) FU v0 v1 v2 v3 r4 x6 v3 h5
set_option maxHeartbeats 4000000 in
set_option maxRecDepth 100000 in
theorem s_X11_wantsLines_2 {p : Program} {l : Launch} {e : Env} {s : State} {m : MethodId} {args : Array Value} {below : List Frame} {meth : Method} {c : Code} {G : GG} {hs : AH} {r : Unit} {h' : AH} (C : Cx G hs p s m args meth c cX11_wantsLines 7 RX11 (.code yX11_wantsLines cX11_wantsLines 7 none :: MW) none "wantsLines")   : ∀ (n : Nat) (v0 : Nat) (v1 : Int32) (v2 : Int32) (v3 : Int32) (h : AH) (H : Heap) (locs : List Loc) (cells slots : Nat) (ls : Array Slot) (hR : Rp G h H) (hL : ∀ q ∈ locs, gB G ≤ q.base) (hl : zl ls 7 [(0, zr v0), (1, .int v1), (2, .int v2), (3, .int v3)]) (hp : p_X11_wantsLines_2  n v0 v1 v2 v3 h = some (r, h')), W p l e (gR G hs 3 86) s m args below meth c H locs cells slots (MQ below (Qcc G (none) h') args s (gC G - aZ hs) (gS - aU hs) (fun q => gB G ≤ q)) (F0 m 2 ls []) := by
  obtain ⟨hx, hb, hml, hown, hts, hT, hK, rs, hlk, hret, hnm⟩ := id C
  have hm : ∀ w ∈ MW, w.before args s = true := fun w hw => hts w (hT w hw)
  intro n
  induction n with
  | zero =>
    intro v0 v1 v2 v3 h H locs cells slots ls hR hL hl hp
    exact absurd (show none = some (r, h') from hp) (by simp)
  | succ n ih =>
    intro v0 v1 v2 v3 h H locs cells slots ls hR hL hl hp
    rw [p_X11_wantsLines_2.eq_2] at hp
    refine lv_iload_n hx hb dX11_wantsLines_2 rfl (zl_at hl 3 rfl) ?_
    refine z_aload_n hx hb dX11_wantsLines_3 rfl (zl_at hl 0 rfl) ?_
    obtain ⟨k1, hp⟩ := ck_i hp
    refine r_get (ci := 12) (C := RX11) (T := TX11) (N := 32) (v := .int (aI h v0 29)) hx hb hm ii_X11 hown hK hR rfl k1 29 (by decide) (hm _ mw_1011) (fun _ h9 => h9) rfl dX11_wantsLines_4 ?_
    refine lv_icmp_ge (tgt := 101) hx hb dX11_wantsLines_7 (by decide) (fun c2 => ?_) (fun c2 => ?_)
    · replace hp := ite_p hp c2
      cases hp
      exact r_vret C hR hL dX11_wantsLines_101
    · replace hp := ite_n hp c2
      refine z_aload_n hx hb dX11_wantsLines_10 rfl (zl_at hl 0 rfl) ?_
      refine lv_iload_n hx hb dX11_wantsLines_11 rfl (zl_at hl 1 rfl) ?_
      refine lv_iload_n hx hb dX11_wantsLines_12 rfl (zl_at hl 3 rfl) ?_
      obtain ⟨k3, hp⟩ := ck_i hp
      obtain ⟨r4, h5, er4, hp⟩ := bR_i hp
      refine r_callV (ci := 12) (r := (RX11, TX11, 32)) (n := 2) (As := [.int v1, .int v3]) (rest := []) C (c_X11_nextEnd l G v0 v1 v3 h r4 h5 er4) hR hL rfl k3 mw_1172 mw_1174 mp_27 mw_10 mw_1175 (by decide +kernel) (by decide) rfl (zl_size hl) rfl (by simp [zr_cat, in_cat]) dX11_wantsLines_13 (st2 := [.int r4]) rfl (fun H locs cells slots hR hL => ?_)
      refine z_istore (lv' := [(4, .int r4), (0, zr v0), (1, .int v1), (2, .int v2), (3, .int v3)]) hx hb dX11_wantsLines_16 hl (by decide) rfl (fun ls hl => ?_)
      refine lv_iconst (v := iI (-1)) hx hb dX11_wantsLines_18 rfl ?_
      refine lv_topi (fun x6 ex6 => ?_)
      replace hp := nm_i hp ex6
      refine z_istore (lv' := [(5, .int x6), (4, .int r4), (0, zr v0), (1, .int v1), (2, .int v2), (3, .int v3)]) hx hb dX11_wantsLines_19 hl (by decide) rfl (fun ls hl => ?_)
      refine lv_iload_n hx hb dX11_wantsLines_21 rfl (zl_at hl 5 rfl) ?_
      refine z_istore (lv' := [(6, .int v3), (5, .int x6), (4, .int r4), (0, zr v0), (1, .int v1), (2, .int v2), (3, .int v3)]) hx hb dX11_wantsLines_22 hl (by decide) rfl (fun ls hl => ?_)
      exact s_X11_wantsLines_24 C (fun hR hL hl hp => ih _ _ _ _ _ _ _ _ _ _ hR hL hl hp) _ _ _ _ _ _ _ _ _ _ _ _ _ _ hR hL (zl_sub hl [3, 4, 5, 6, 2, 1, 0] rfl) hp
def p_X11_wantsLines_0  (v0 : Nat) (v1 : Int32) (v2 : Int32) (h : AH) : Option (Unit × AH) :=
  nm ((iI 0)) fun (x1 : Int32) =>
  p_X11_wantsLines_2  FU v0 v1 v2 x1 h
set_option maxHeartbeats 4000000 in
set_option maxRecDepth 100000 in
theorem s_X11_wantsLines_0 {p : Program} {l : Launch} {e : Env} {s : State} {m : MethodId} {args : Array Value} {below : List Frame} {meth : Method} {c : Code} {G : GG} {hs : AH} {r : Unit} {h' : AH} (C : Cx G hs p s m args meth c cX11_wantsLines 7 RX11 (.code yX11_wantsLines cX11_wantsLines 7 none :: MW) none "wantsLines")   {v0 : Nat} {v1 : Int32} {v2 : Int32} {h : AH} {H : Heap} {locs : List Loc} {cells slots : Nat} {ls : Array Slot} (hR : Rp G h H) (hL : ∀ q ∈ locs, gB G ≤ q.base) (hl : zl ls 7 [(0, zr v0), (1, .int v1), (2, .int v2)]) (hp : p_X11_wantsLines_0  v0 v1 v2 h = some (r, h')) : W p l e (gR G hs 3 86) s m args below meth c H locs cells slots (MQ below (Qcc G (none) h') args s (gC G - aZ hs) (gS - aU hs) (fun q => gB G ≤ q)) (F0 m 0 ls []) := by
  obtain ⟨hx, hb, hml, hown, hts, hT, hK, rs, hlk, hret, hnm⟩ := id C
  have hm : ∀ w ∈ MW, w.before args s = true := fun w hw => hts w (hT w hw)
  unfold p_X11_wantsLines_0 at hp
  refine lv_iconst (v := iI 0) hx hb dX11_wantsLines_0 rfl ?_
  refine lv_topi (fun x1 ex1 => ?_)
  replace hp := nm_i hp ex1
  refine z_istore_n (lv' := [(3, .int x1), (0, zr v0), (1, .int v1), (2, .int v2)]) hx hb dX11_wantsLines_1 rfl hl (by decide) rfl (fun ls hl => ?_)
  exact s_X11_wantsLines_2 C  _ _ _ _ _ _ _ _ _ _ _ hR hL (zl_sub hl [1, 2, 3, 0] rfl) hp
def p_X11_wantsLines (v0 : Nat) (v1 : Int32) (v2 : Int32) (h : AH) : Option (Unit × AH) := ck (v0 ≠ 0) <| p_X11_wantsLines_0 v0 v1 v2 h
theorem c_X11_wantsLines (l : Launch) (G : GG) (v0 : Nat) (v1 : Int32) (v2 : Int32) (h : AH) (r : Unit) (h' : AH) (hp : p_X11_wantsLines v0 v1 v2 h = some (r, h')) : Ct l yX11_wantsLines (.code yX11_wantsLines cX11_wantsLines 7 none :: MW) G 3 86 [.ref (v0 - 1), .int v1, .int v2] h (none) h' := by
  obtain ⟨hz0, hp⟩ := ck_i hp
  refine Ct.of (by decide +kernel) (Nat.le_of_ble_eq_true rfl) ?_
  intro p e s m args below meth c C hR ls hl
  have hl : zl ls 7 [(0, zr v0), (1, .int v1), (2, .int v2)] := ⟨by rw [zr_p hz0]; exact hl, by simp [zr_cat, in_cat]⟩
  exact s_X11_wantsLines_0 C hR (fun _ hq => nomatch hq) hl hp
/-! CursorKeepModel.marks(I)V -/
def p_X11_marks_67 (k24 : Nat → Int32 → Int32 → AH → Option (Unit × AH)) (v0 : Nat) (v1 : Int32) (v2 : Int32) (h : AH) : Option (Unit × AH) :=
  nm (v2 + iI 1) fun (x1 : Int32) =>
  k24 v0 v1 x1 h
set_option maxHeartbeats 4000000 in
set_option maxRecDepth 100000 in
theorem s_X11_marks_67 {p : Program} {l : Launch} {e : Env} {s : State} {m : MethodId} {args : Array Value} {below : List Frame} {meth : Method} {c : Code} {G : GG} {hs : AH} {r : Unit} {h' : AH} (C : Cx G hs p s m args meth c cX11_marks 3 RX11 (.code yX11_marks cX11_marks 3 none :: MW) none "marks") {k24 : Nat → Int32 → Int32 → AH → Option (Unit × AH)} (hk24 : ∀ {v0 : Nat} {v1 : Int32} {v2 : Int32} {h : AH} {H : Heap} {locs : List Loc} {cells slots : Nat} {ls : Array Slot}, Rp G h H → (∀ q ∈ locs, gB G ≤ q.base) → zl ls 3 [(0, zr v0), (1, .int v1), (2, .int v2)] → k24 v0 v1 v2 h = some (r, h') → W p l e (gR G hs 1 40) s m args below meth c H locs cells slots (MQ below (Qcc G (none) h') args s (gC G - aZ hs) (gS - aU hs) (fun q => gB G ≤ q)) (F0 m 24 ls [])) {v0 : Nat} {v1 : Int32} {v2 : Int32} {h : AH} {H : Heap} {locs : List Loc} {cells slots : Nat} {ls : Array Slot} (hR : Rp G h H) (hL : ∀ q ∈ locs, gB G ≤ q.base) (hl : zl ls 3 [(0, zr v0), (1, .int v1), (2, .int v2)]) (hp : p_X11_marks_67 k24 v0 v1 v2 h = some (r, h')) : W p l e (gR G hs 1 40) s m args below meth c H locs cells slots (MQ below (Qcc G (none) h') args s (gC G - aZ hs) (gS - aU hs) (fun q => gB G ≤ q)) (F0 m 67 ls []) := by
  obtain ⟨hx, hb, hml, hown, hts, hT, hK, rs, hlk, hret, hnm⟩ := id C
  have hm : ∀ w ∈ MW, w.before args s = true := fun w hw => hts w (hT w hw)
  unfold p_X11_marks_67 at hp
  obtain ⟨x1, ex1⟩ : ∃ y : Int32, y = v2 + iI 1 := ⟨_, rfl⟩
  replace hp := nm_i hp ex1
  refine z_iinc (v := x1) (lv' := [(2, .int x1), (0, zr v0), (1, .int v1)]) hx hb dX11_marks_67 hl (k := 2) rfl ex1 (by decide) rfl (fun ls hl => ?_)
  refine lv_goto (tgt := 24) hx hb dX11_marks_70 (by decide) ?_
  exact hk24 hR hL (zl_sub hl [1, 2, 0] rfl) hp
def p_X11_marks_24  : Nat → Nat → Int32 → Int32 → AH → Option (Unit × AH)
  | 0, _, _, _, _ => none
  | n + 1, v0, v1, v2, h =>
    ck (aK h v0 = 13) <|
    ck (aK h (aR h v0 11) = 20 ∧ ix v1 (aN h (aR h v0 11))) <|
    if (aI h (aR h v0 11) v1.toNatClampNeg) ≤ v2 then
      some ((), h)
    else
      ck (aK h v0 = 13) <|
      ck (aK h (aR h v0 15) = 20 ∧ ix (((iI 150) * v1) + v2) (aN h (aR h v0 15))) <|
      if (aI h (aR h v0 15) (((iI 150) * v1) + v2).toNatClampNeg) = 0 then
        ck (aK h v0 = 13) <|
        ck (aK h v0 = 13) <|
        ck (aK h (aR h v0 13) = 20 ∧ ix (((iI 150) * v1) + v2) (aN h (aR h v0 13))) <|
        ck (aK h (aR h v0 30) = 22 ∧ ix (aI h (aR h v0 13) (((iI 150) * v1) + v2).toNatClampNeg) (aN h (aR h v0 30))) <|
        nm (uI h (aR h v0 30) (aI h (aR h v0 13) (((iI 150) * v1) + v2).toNatClampNeg).toNatClampNeg (nZ (iI 1))) fun h15 =>
        p_X11_marks_67 (p_X11_marks_24  n) v0 v1 v2 h15
      else
        p_X11_marks_67 (p_X11_marks_24  n) v0 v1 v2 h
set_option maxHeartbeats 4000000 in
set_option maxRecDepth 100000 in
theorem s_X11_marks_24 {p : Program} {l : Launch} {e : Env} {s : State} {m : MethodId} {args : Array Value} {below : List Frame} {meth : Method} {c : Code} {G : GG} {hs : AH} {r : Unit} {h' : AH} (C : Cx G hs p s m args meth c cX11_marks 3 RX11 (.code yX11_marks cX11_marks 3 none :: MW) none "marks")   : ∀ (n : Nat) (v0 : Nat) (v1 : Int32) (v2 : Int32) (h : AH) (H : Heap) (locs : List Loc) (cells slots : Nat) (ls : Array Slot) (hR : Rp G h H) (hL : ∀ q ∈ locs, gB G ≤ q.base) (hl : zl ls 3 [(0, zr v0), (1, .int v1), (2, .int v2)]) (hp : p_X11_marks_24  n v0 v1 v2 h = some (r, h')), W p l e (gR G hs 1 40) s m args below meth c H locs cells slots (MQ below (Qcc G (none) h') args s (gC G - aZ hs) (gS - aU hs) (fun q => gB G ≤ q)) (F0 m 24 ls []) := by
  obtain ⟨hx, hb, hml, hown, hts, hT, hK, rs, hlk, hret, hnm⟩ := id C
  have hm : ∀ w ∈ MW, w.before args s = true := fun w hw => hts w (hT w hw)
  intro n
  induction n with
  | zero =>
    intro v0 v1 v2 h H locs cells slots ls hR hL hl hp
    exact absurd (show none = some (r, h') from hp) (by simp)
  | succ n ih =>
    intro v0 v1 v2 h H locs cells slots ls hR hL hl hp
    rw [p_X11_marks_24.eq_2] at hp
    refine lv_iload_n hx hb dX11_marks_24 rfl (zl_at hl 2 rfl) ?_
    refine z_aload_n hx hb dX11_marks_25 rfl (zl_at hl 0 rfl) ?_
    obtain ⟨k1, hp⟩ := ck_i hp
    refine r_get (ci := 12) (C := RX11) (T := TX11) (N := 32) (v := zr (aR h v0 11)) hx hb hm ii_X11 hown hK hR rfl k1 11 (by decide) (hm _ mw_993) (fun _ h9 => h9) rfl dX11_marks_26 ?_
    refine lv_iload_n hx hb dX11_marks_29 rfl (zl_at hl 1 rfl) ?_
    obtain ⟨k2, hp⟩ := ck_i hp
    refine r_iald hx hb hK hR k2.1 k2.2 dX11_marks_30 ?_
    refine lv_icmp_ge (tgt := 73) hx hb dX11_marks_31 (by decide) (fun c4 => ?_) (fun c4 => ?_)
    · replace hp := ite_p hp c4
      cases hp
      exact r_vret C hR hL dX11_marks_73
    · replace hp := ite_n hp c4
      refine z_aload_n hx hb dX11_marks_34 rfl (zl_at hl 0 rfl) ?_
      obtain ⟨k5, hp⟩ := ck_i hp
      refine r_get (ci := 12) (C := RX11) (T := TX11) (N := 32) (v := zr (aR h v0 15)) hx hb hm ii_X11 hown hK hR rfl k5 15 (by decide) (hm _ mw_997) (fun _ h9 => h9) rfl dX11_marks_35 ?_
      refine lv_sipush (v := iI 150) hx hb dX11_marks_38 (by decide +kernel) ?_
      refine lv_iload_n hx hb dX11_marks_41 rfl (zl_at hl 1 rfl) ?_
      refine lv_imul hx hb dX11_marks_42 ?_
      refine lv_iload_n hx hb dX11_marks_43 rfl (zl_at hl 2 rfl) ?_
      refine lv_iadd hx hb dX11_marks_44 ?_
      obtain ⟨k6, hp⟩ := ck_i hp
      refine r_iald hx hb hK hR k6.1 k6.2 dX11_marks_45 ?_
      refine lv_if_ne (tgt := 67) hx hb dX11_marks_46 (by decide) (fun c8 => ?_) (fun c8 => ?_)
      · replace hp := ite_n hp c8
        exact s_X11_marks_67 C (fun hR hL hl hp => ih _ _ _ _ _ _ _ _ _ hR hL hl hp) hR hL (zl_sub hl [0, 1, 2] rfl) hp
      · replace hp := ite_p hp c8
        refine z_aload_n hx hb dX11_marks_49 rfl (zl_at hl 0 rfl) ?_
        obtain ⟨k9, hp⟩ := ck_i hp
        refine r_get (ci := 12) (C := RX11) (T := TX11) (N := 32) (v := zr (aR h v0 30)) hx hb hm ii_X11 hown hK hR rfl k9 30 (by decide) (hm _ mw_1012) (fun _ h9 => h9) rfl dX11_marks_50 ?_
        refine z_aload_n hx hb dX11_marks_53 rfl (zl_at hl 0 rfl) ?_
        obtain ⟨k10, hp⟩ := ck_i hp
        refine r_get (ci := 12) (C := RX11) (T := TX11) (N := 32) (v := zr (aR h v0 13)) hx hb hm ii_X11 hown hK hR rfl k10 13 (by decide) (hm _ mw_995) (fun _ h9 => h9) rfl dX11_marks_54 ?_
        refine lv_sipush (v := iI 150) hx hb dX11_marks_57 (by decide +kernel) ?_
        refine lv_iload_n hx hb dX11_marks_60 rfl (zl_at hl 1 rfl) ?_
        refine lv_imul hx hb dX11_marks_61 ?_
        refine lv_iload_n hx hb dX11_marks_62 rfl (zl_at hl 2 rfl) ?_
        refine lv_iadd hx hb dX11_marks_63 ?_
        obtain ⟨k11, hp⟩ := ck_i hp
        refine r_iald hx hb hK hR k11.1 k11.2 dX11_marks_64 ?_
        refine lv_iconst (v := iI 1) hx hb dX11_marks_65 rfl ?_
        obtain ⟨k13, hp⟩ := ck_i hp
        refine r_zast hx hb hK hR hL k13.1 k13.2 dX11_marks_66 (fun H locs hR hL => ?_)
        obtain ⟨h15, hp, hR⟩ := nm_h hp hR
        exact s_X11_marks_67 C (fun hR hL hl hp => ih _ _ _ _ _ _ _ _ _ hR hL hl hp) hR hL (zl_sub hl [0, 1, 2] rfl) hp
def p_X11_marks_2  : Nat → Nat → Int32 → Int32 → AH → Option (Unit × AH)
  | 0, _, _, _, _ => none
  | n + 1, v0, v1, v2, h =>
    if (iI 150) ≤ v2 then
      nm ((iI 0)) fun (x2 : Int32) =>
      p_X11_marks_24  FU v0 v1 x2 h
    else
      ck (aK h v0 = 13) <|
      ck (aK h (aR h v0 30) = 22 ∧ ix v2 (aN h (aR h v0 30))) <|
      nm (uI h (aR h v0 30) v2.toNatClampNeg (nZ (iI 0))) fun h6 =>
      nm (v2 + iI 1) fun (x7 : Int32) =>
      p_X11_marks_2  n v0 v1 x7 h6
set_option maxHeartbeats 4000000 in
set_option maxRecDepth 100000 in
theorem s_X11_marks_2 {p : Program} {l : Launch} {e : Env} {s : State} {m : MethodId} {args : Array Value} {below : List Frame} {meth : Method} {c : Code} {G : GG} {hs : AH} {r : Unit} {h' : AH} (C : Cx G hs p s m args meth c cX11_marks 3 RX11 (.code yX11_marks cX11_marks 3 none :: MW) none "marks")   : ∀ (n : Nat) (v0 : Nat) (v1 : Int32) (v2 : Int32) (h : AH) (H : Heap) (locs : List Loc) (cells slots : Nat) (ls : Array Slot) (hR : Rp G h H) (hL : ∀ q ∈ locs, gB G ≤ q.base) (hl : zl ls 3 [(0, zr v0), (1, .int v1), (2, .int v2)]) (hp : p_X11_marks_2  n v0 v1 v2 h = some (r, h')), W p l e (gR G hs 1 40) s m args below meth c H locs cells slots (MQ below (Qcc G (none) h') args s (gC G - aZ hs) (gS - aU hs) (fun q => gB G ≤ q)) (F0 m 2 ls []) := by
  obtain ⟨hx, hb, hml, hown, hts, hT, hK, rs, hlk, hret, hnm⟩ := id C
  have hm : ∀ w ∈ MW, w.before args s = true := fun w hw => hts w (hT w hw)
  intro n
  induction n with
  | zero =>
    intro v0 v1 v2 h H locs cells slots ls hR hL hl hp
    exact absurd (show none = some (r, h') from hp) (by simp)
  | succ n ih =>
    intro v0 v1 v2 h H locs cells slots ls hR hL hl hp
    rw [p_X11_marks_2.eq_2] at hp
    refine lv_iload_n hx hb dX11_marks_2 rfl (zl_at hl 2 rfl) ?_
    refine lv_sipush (v := iI 150) hx hb dX11_marks_3 (by decide +kernel) ?_
    refine lv_icmp_ge (tgt := 22) hx hb dX11_marks_6 (by decide) (fun c1 => ?_) (fun c1 => ?_)
    · replace hp := ite_p hp c1
      refine lv_iconst (v := iI 0) hx hb dX11_marks_22 rfl ?_
      refine lv_topi (fun x2 ex2 => ?_)
      replace hp := nm_i hp ex2
      refine z_istore_n (lv' := [(2, .int x2), (0, zr v0), (1, .int v1)]) hx hb dX11_marks_23 rfl hl (by decide) rfl (fun ls hl => ?_)
      exact s_X11_marks_24 C  _ _ _ _ _ _ _ _ _ _ hR hL (zl_sub hl [1, 2, 0] rfl) hp
    · replace hp := ite_n hp c1
      refine z_aload_n hx hb dX11_marks_9 rfl (zl_at hl 0 rfl) ?_
      obtain ⟨k3, hp⟩ := ck_i hp
      refine r_get (ci := 12) (C := RX11) (T := TX11) (N := 32) (v := zr (aR h v0 30)) hx hb hm ii_X11 hown hK hR rfl k3 30 (by decide) (hm _ mw_1012) (fun _ h9 => h9) rfl dX11_marks_10 ?_
      refine lv_iload_n hx hb dX11_marks_13 rfl (zl_at hl 2 rfl) ?_
      refine lv_iconst (v := iI 0) hx hb dX11_marks_14 rfl ?_
      obtain ⟨k4, hp⟩ := ck_i hp
      refine r_zast hx hb hK hR hL k4.1 k4.2 dX11_marks_15 (fun H locs hR hL => ?_)
      obtain ⟨h6, hp, hR⟩ := nm_h hp hR
      obtain ⟨x7, ex7⟩ : ∃ y : Int32, y = v2 + iI 1 := ⟨_, rfl⟩
      replace hp := nm_i hp ex7
      refine z_iinc (v := x7) (lv' := [(2, .int x7), (0, zr v0), (1, .int v1)]) hx hb dX11_marks_16 hl (k := 2) rfl ex7 (by decide) rfl (fun ls hl => ?_)
      refine lv_goto (tgt := 2) hx hb dX11_marks_19 (by decide) ?_
      exact ih _ _ _ _ _ _ _ _ _ hR hL (zl_sub hl [1, 2, 0] rfl) hp
def p_X11_marks_0  (v0 : Nat) (v1 : Int32) (h : AH) : Option (Unit × AH) :=
  nm ((iI 0)) fun (x1 : Int32) =>
  p_X11_marks_2  FU v0 v1 x1 h
set_option maxHeartbeats 4000000 in
set_option maxRecDepth 100000 in
theorem s_X11_marks_0 {p : Program} {l : Launch} {e : Env} {s : State} {m : MethodId} {args : Array Value} {below : List Frame} {meth : Method} {c : Code} {G : GG} {hs : AH} {r : Unit} {h' : AH} (C : Cx G hs p s m args meth c cX11_marks 3 RX11 (.code yX11_marks cX11_marks 3 none :: MW) none "marks")   {v0 : Nat} {v1 : Int32} {h : AH} {H : Heap} {locs : List Loc} {cells slots : Nat} {ls : Array Slot} (hR : Rp G h H) (hL : ∀ q ∈ locs, gB G ≤ q.base) (hl : zl ls 3 [(0, zr v0), (1, .int v1)]) (hp : p_X11_marks_0  v0 v1 h = some (r, h')) : W p l e (gR G hs 1 40) s m args below meth c H locs cells slots (MQ below (Qcc G (none) h') args s (gC G - aZ hs) (gS - aU hs) (fun q => gB G ≤ q)) (F0 m 0 ls []) := by
  obtain ⟨hx, hb, hml, hown, hts, hT, hK, rs, hlk, hret, hnm⟩ := id C
  have hm : ∀ w ∈ MW, w.before args s = true := fun w hw => hts w (hT w hw)
  unfold p_X11_marks_0 at hp
  refine lv_iconst (v := iI 0) hx hb dX11_marks_0 rfl ?_
  refine lv_topi (fun x1 ex1 => ?_)
  replace hp := nm_i hp ex1
  refine z_istore_n (lv' := [(2, .int x1), (0, zr v0), (1, .int v1)]) hx hb dX11_marks_1 rfl hl (by decide) rfl (fun ls hl => ?_)
  exact s_X11_marks_2 C  _ _ _ _ _ _ _ _ _ _ hR hL (zl_sub hl [1, 2, 0] rfl) hp
def p_X11_marks (v0 : Nat) (v1 : Int32) (h : AH) : Option (Unit × AH) := ck (v0 ≠ 0) <| p_X11_marks_0 v0 v1 h
theorem c_X11_marks (l : Launch) (G : GG) (v0 : Nat) (v1 : Int32) (h : AH) (r : Unit) (h' : AH) (hp : p_X11_marks v0 v1 h = some (r, h')) : Ct l yX11_marks (.code yX11_marks cX11_marks 3 none :: MW) G 1 40 [.ref (v0 - 1), .int v1] h (none) h' := by
  obtain ⟨hz0, hp⟩ := ck_i hp
  refine Ct.of (by decide +kernel) (Nat.le_of_ble_eq_true rfl) ?_
  intro p e s m args below meth c C hR ls hl
  have hl : zl ls 3 [(0, zr v0), (1, .int v1)] := ⟨by rw [zr_p hz0]; exact hl, by simp [zr_cat, in_cat]⟩
  exact s_X11_marks_0 C hR (fun _ hq => nomatch hq) hl hp
/-! CursorKeepModel.nearest(III)I -/
def p_X11_nearest_70 (k10 : Nat → Int32 → Int32 → Int32 → AH → Option (Int32 × AH)) (v0 : Nat) (v1 : Int32) (v3 : Int32) (v4 : Int32) (h : AH) : Option (Int32 × AH) :=
  nm ((v4 + v3)) fun (x1 : Int32) =>
  k10 v0 v1 v3 x1 h
set_option maxHeartbeats 4000000 in
set_option maxRecDepth 100000 in
theorem s_X11_nearest_70 {p : Program} {l : Launch} {e : Env} {s : State} {m : MethodId} {args : Array Value} {below : List Frame} {meth : Method} {c : Code} {G : GG} {hs : AH} {r : Int32} {h' : AH} (C : Cx G hs p s m args meth c cX11_nearest 6 RX11 (.code yX11_nearest cX11_nearest 6 (some .int) :: MW) (some .int) "nearest") {k10 : Nat → Int32 → Int32 → Int32 → AH → Option (Int32 × AH)} (hk10 : ∀ {v0 : Nat} {v1 : Int32} {v3 : Int32} {v4 : Int32} {h : AH} {H : Heap} {locs : List Loc} {cells slots : Nat} {ls : Array Slot}, Rp G h H → (∀ q ∈ locs, gB G ≤ q.base) → zl ls 6 [(0, zr v0), (1, .int v1), (3, .int v3), (4, .int v4)] → k10 v0 v1 v3 v4 h = some (r, h') → W p l e (gR G hs 2 63) s m args below meth c H locs cells slots (MQ below (Qcc G (some (.int r)) h') args s (gC G - aZ hs) (gS - aU hs) (fun q => gB G ≤ q)) (F0 m 10 ls [])) {v0 : Nat} {v1 : Int32} {v3 : Int32} {v4 : Int32} {h : AH} {H : Heap} {locs : List Loc} {cells slots : Nat} {ls : Array Slot} (hR : Rp G h H) (hL : ∀ q ∈ locs, gB G ≤ q.base) (hl : zl ls 6 [(0, zr v0), (1, .int v1), (3, .int v3), (4, .int v4)]) (hp : p_X11_nearest_70 k10 v0 v1 v3 v4 h = some (r, h')) : W p l e (gR G hs 2 63) s m args below meth c H locs cells slots (MQ below (Qcc G (some (.int r)) h') args s (gC G - aZ hs) (gS - aU hs) (fun q => gB G ≤ q)) (F0 m 70 ls []) := by
  obtain ⟨hx, hb, hml, hown, hts, hT, hK, rs, hlk, hret, hnm⟩ := id C
  have hm : ∀ w ∈ MW, w.before args s = true := fun w hw => hts w (hT w hw)
  unfold p_X11_nearest_70 at hp
  refine lv_iload hx hb dX11_nearest_70 (zl_at hl 3 rfl) ?_
  refine lv_iload_n hx hb dX11_nearest_72 rfl (zl_at hl 2 rfl) ?_
  refine lv_iadd hx hb dX11_nearest_73 ?_
  refine lv_topi (fun x1 ex1 => ?_)
  replace hp := nm_i hp ex1
  refine z_istore (lv' := [(4, .int x1), (0, zr v0), (1, .int v1), (3, .int v3)]) hx hb dX11_nearest_74 hl (by decide) rfl (fun ls hl => ?_)
  refine lv_goto (tgt := 10) hx hb dX11_nearest_76 (by decide) ?_
  exact hk10 hR hL (zl_sub hl [1, 2, 3, 0] rfl) hp
def p_X11_nearest_79   (h : AH) : Option (Int32 × AH) :=
  some ((iI (-1)), h)
set_option maxHeartbeats 4000000 in
set_option maxRecDepth 100000 in
theorem s_X11_nearest_79 {p : Program} {l : Launch} {e : Env} {s : State} {m : MethodId} {args : Array Value} {below : List Frame} {meth : Method} {c : Code} {G : GG} {hs : AH} {r : Int32} {h' : AH} (C : Cx G hs p s m args meth c cX11_nearest 6 RX11 (.code yX11_nearest cX11_nearest 6 (some .int) :: MW) (some .int) "nearest")    {h : AH} {H : Heap} {locs : List Loc} {cells slots : Nat} {ls : Array Slot} (hR : Rp G h H) (hL : ∀ q ∈ locs, gB G ≤ q.base) (hl : zl ls 6 []) (hp : p_X11_nearest_79   h = some (r, h')) : W p l e (gR G hs 2 63) s m args below meth c H locs cells slots (MQ below (Qcc G (some (.int r)) h') args s (gC G - aZ hs) (gS - aU hs) (fun q => gB G ≤ q)) (F0 m 79 ls []) := by
  obtain ⟨hx, hb, hml, hown, hts, hT, hK, rs, hlk, hret, hnm⟩ := id C
  have hm : ∀ w ∈ MW, w.before args s = true := fun w hw => hts w (hT w hw)
  unfold p_X11_nearest_79 at hp
  refine lv_iconst (v := iI (-1)) hx hb dX11_nearest_79 rfl ?_
  cases hp
  exact r_zret C hR hL rfl dX11_nearest_80
def p_X11_nearest_10  : Nat → Nat → Int32 → Int32 → Int32 → AH → Option (Int32 × AH)
  | 0, _, _, _, _, _ => none
  | n + 1, v0, v1, v3, v4, h =>
    if v4 < 0 then
      p_X11_nearest_79   h
    else
      ck (aK h v0 = 13) <|
      ck (aK h (aR h v0 3) = 20 ∧ ix v1 (aN h (aR h v0 3))) <|
      if (aI h (aR h v0 3) v1.toNatClampNeg) ≤ v4 then
        p_X11_nearest_79   h
      else
        ck (aK h v0 = 13) <|
        ck (aK h (aR h v0 0) = 20 ∧ ix (((iI 150) * v1) + v4) (aN h (aR h v0 0))) <|
        nm ((aI h (aR h v0 0) (((iI 150) * v1) + v4).toNatClampNeg)) fun (x9 : Int32) =>
        ck (aK h v0 = 13) <|
        ck (aK h (aR h v0 2) = 22 ∧ ix (((iI 150) * v1) + x9) (aN h (aR h v0 2))) <|
        if (aI h (aR h v0 2) (((iI 150) * v1) + x9).toNatClampNeg) = 0 then
          p_X11_nearest_70 (p_X11_nearest_10  n) v0 v1 v3 v4 h
        else
          ck (aK h v0 = 13) <|
          ck (aK h (aR h v0 30) = 22 ∧ ix x9 (aN h (aR h v0 30))) <|
          if (aI h (aR h v0 30) x9.toNatClampNeg) = 0 then
            some (x9, h)
          else
            p_X11_nearest_70 (p_X11_nearest_10  n) v0 v1 v3 v4 h
set_option maxHeartbeats 4000000 in
set_option maxRecDepth 100000 in
theorem s_X11_nearest_10 {p : Program} {l : Launch} {e : Env} {s : State} {m : MethodId} {args : Array Value} {below : List Frame} {meth : Method} {c : Code} {G : GG} {hs : AH} {r : Int32} {h' : AH} (C : Cx G hs p s m args meth c cX11_nearest 6 RX11 (.code yX11_nearest cX11_nearest 6 (some .int) :: MW) (some .int) "nearest")   : ∀ (n : Nat) (v0 : Nat) (v1 : Int32) (v3 : Int32) (v4 : Int32) (h : AH) (H : Heap) (locs : List Loc) (cells slots : Nat) (ls : Array Slot) (hR : Rp G h H) (hL : ∀ q ∈ locs, gB G ≤ q.base) (hl : zl ls 6 [(0, zr v0), (1, .int v1), (3, .int v3), (4, .int v4)]) (hp : p_X11_nearest_10  n v0 v1 v3 v4 h = some (r, h')), W p l e (gR G hs 2 63) s m args below meth c H locs cells slots (MQ below (Qcc G (some (.int r)) h') args s (gC G - aZ hs) (gS - aU hs) (fun q => gB G ≤ q)) (F0 m 10 ls []) := by
  obtain ⟨hx, hb, hml, hown, hts, hT, hK, rs, hlk, hret, hnm⟩ := id C
  have hm : ∀ w ∈ MW, w.before args s = true := fun w hw => hts w (hT w hw)
  intro n
  induction n with
  | zero =>
    intro v0 v1 v3 v4 h H locs cells slots ls hR hL hl hp
    exact absurd (show none = some (r, h') from hp) (by simp)
  | succ n ih =>
    intro v0 v1 v3 v4 h H locs cells slots ls hR hL hl hp
    rw [p_X11_nearest_10.eq_2] at hp
    refine lv_iload hx hb dX11_nearest_10 (zl_at hl 3 rfl) ?_
    refine lv_if_lt (tgt := 79) hx hb dX11_nearest_12 (by decide) (fun c1 => ?_) (fun c1 => ?_)
    · replace hp := ite_p hp c1
      exact s_X11_nearest_79 C  hR hL (zl_sub hl [] rfl) hp
    · replace hp := ite_n hp c1
      refine lv_iload hx hb dX11_nearest_15 (zl_at hl 3 rfl) ?_
      refine z_aload_n hx hb dX11_nearest_17 rfl (zl_at hl 0 rfl) ?_
      obtain ⟨k2, hp⟩ := ck_i hp
      refine r_get (ci := 12) (C := RX11) (T := TX11) (N := 32) (v := zr (aR h v0 3)) hx hb hm ii_X11 hown hK hR rfl k2 3 (by decide) (hm _ mw_985) (fun _ h9 => h9) rfl dX11_nearest_18 ?_
      refine lv_iload_n hx hb dX11_nearest_21 rfl (zl_at hl 1 rfl) ?_
      obtain ⟨k3, hp⟩ := ck_i hp
      refine r_iald hx hb hK hR k3.1 k3.2 dX11_nearest_22 ?_
      refine lv_icmp_ge (tgt := 79) hx hb dX11_nearest_23 (by decide) (fun c5 => ?_) (fun c5 => ?_)
      · replace hp := ite_p hp c5
        exact s_X11_nearest_79 C  hR hL (zl_sub hl [] rfl) hp
      · replace hp := ite_n hp c5
        refine z_aload_n hx hb dX11_nearest_26 rfl (zl_at hl 0 rfl) ?_
        obtain ⟨k6, hp⟩ := ck_i hp
        refine r_get (ci := 12) (C := RX11) (T := TX11) (N := 32) (v := zr (aR h v0 0)) hx hb hm ii_X11 hown hK hR rfl k6 0 (by decide) (hm _ mw_982) (fun _ h9 => h9) rfl dX11_nearest_27 ?_
        refine lv_sipush (v := iI 150) hx hb dX11_nearest_30 (by decide +kernel) ?_
        refine lv_iload_n hx hb dX11_nearest_33 rfl (zl_at hl 1 rfl) ?_
        refine lv_imul hx hb dX11_nearest_34 ?_
        refine lv_iload hx hb dX11_nearest_35 (zl_at hl 3 rfl) ?_
        refine lv_iadd hx hb dX11_nearest_37 ?_
        obtain ⟨k7, hp⟩ := ck_i hp
        refine r_iald hx hb hK hR k7.1 k7.2 dX11_nearest_38 ?_
        refine lv_topi (fun x9 ex9 => ?_)
        replace hp := nm_i hp ex9
        refine z_istore (lv' := [(5, .int x9), (0, zr v0), (1, .int v1), (3, .int v3), (4, .int v4)]) hx hb dX11_nearest_39 hl (by decide) rfl (fun ls hl => ?_)
        refine z_aload_n hx hb dX11_nearest_41 rfl (zl_at hl 1 rfl) ?_
        obtain ⟨k10, hp⟩ := ck_i hp
        refine r_get (ci := 12) (C := RX11) (T := TX11) (N := 32) (v := zr (aR h v0 2)) hx hb hm ii_X11 hown hK hR rfl k10 2 (by decide) (hm _ mw_984) (fun _ h9 => h9) rfl dX11_nearest_42 ?_
        refine lv_sipush (v := iI 150) hx hb dX11_nearest_45 (by decide +kernel) ?_
        refine lv_iload_n hx hb dX11_nearest_48 rfl (zl_at hl 2 rfl) ?_
        refine lv_imul hx hb dX11_nearest_49 ?_
        refine lv_iload hx hb dX11_nearest_50 (zl_at hl 0 rfl) ?_
        refine lv_iadd hx hb dX11_nearest_52 ?_
        obtain ⟨k11, hp⟩ := ck_i hp
        refine r_zald hx hb hK hR k11.1 k11.2 dX11_nearest_53 ?_
        refine lv_if_eq (tgt := 70) hx hb dX11_nearest_54 (by decide) (fun c13 => ?_) (fun c13 => ?_)
        · replace hp := ite_p hp c13
          exact s_X11_nearest_70 C (fun hR hL hl hp => ih _ _ _ _ _ _ _ _ _ _ hR hL hl hp) hR hL (zl_sub hl [1, 2, 3, 4] rfl) hp
        · replace hp := ite_n hp c13
          refine z_aload_n hx hb dX11_nearest_57 rfl (zl_at hl 1 rfl) ?_
          obtain ⟨k14, hp⟩ := ck_i hp
          refine r_get (ci := 12) (C := RX11) (T := TX11) (N := 32) (v := zr (aR h v0 30)) hx hb hm ii_X11 hown hK hR rfl k14 30 (by decide) (hm _ mw_1012) (fun _ h9 => h9) rfl dX11_nearest_58 ?_
          refine lv_iload hx hb dX11_nearest_61 (zl_at hl 0 rfl) ?_
          obtain ⟨k15, hp⟩ := ck_i hp
          refine r_zald hx hb hK hR k15.1 k15.2 dX11_nearest_63 ?_
          refine lv_if_ne (tgt := 70) hx hb dX11_nearest_64 (by decide) (fun c17 => ?_) (fun c17 => ?_)
          · replace hp := ite_n hp c17
            exact s_X11_nearest_70 C (fun hR hL hl hp => ih _ _ _ _ _ _ _ _ _ _ hR hL hl hp) hR hL (zl_sub hl [1, 2, 3, 4] rfl) hp
          · replace hp := ite_p hp c17
            refine lv_iload hx hb dX11_nearest_67 (zl_at hl 0 rfl) ?_
            cases hp
            exact r_zret C hR hL rfl dX11_nearest_69
def p_X11_nearest_0  (v0 : Nat) (v1 : Int32) (v2 : Int32) (v3 : Int32) (h : AH) : Option (Int32 × AH) :=
  ck (aK h v0 = 13) <|
  bR (p_X11_at v0 v1 v2 h) fun r2 h3 =>
  nm ((r2 + v3)) fun (x4 : Int32) =>
  p_X11_nearest_10  FU v0 v1 v3 x4 h3
set_option maxHeartbeats 4000000 in
set_option maxRecDepth 100000 in
theorem s_X11_nearest_0 {p : Program} {l : Launch} {e : Env} {s : State} {m : MethodId} {args : Array Value} {below : List Frame} {meth : Method} {c : Code} {G : GG} {hs : AH} {r : Int32} {h' : AH} (C : Cx G hs p s m args meth c cX11_nearest 6 RX11 (.code yX11_nearest cX11_nearest 6 (some .int) :: MW) (some .int) "nearest")   {v0 : Nat} {v1 : Int32} {v2 : Int32} {v3 : Int32} {h : AH} {H : Heap} {locs : List Loc} {cells slots : Nat} {ls : Array Slot} (hR : Rp G h H) (hL : ∀ q ∈ locs, gB G ≤ q.base) (hl : zl ls 6 [(0, zr v0), (1, .int v1), (2, .int v2), (3, .int v3)]) (hp : p_X11_nearest_0  v0 v1 v2 v3 h = some (r, h')) : W p l e (gR G hs 2 63) s m args below meth c H locs cells slots (MQ below (Qcc G (some (.int r)) h') args s (gC G - aZ hs) (gS - aU hs) (fun q => gB G ≤ q)) (F0 m 0 ls []) := by
  obtain ⟨hx, hb, hml, hown, hts, hT, hK, rs, hlk, hret, hnm⟩ := id C
  have hm : ∀ w ∈ MW, w.before args s = true := fun w hw => hts w (hT w hw)
  unfold p_X11_nearest_0 at hp
  refine z_aload_n hx hb dX11_nearest_0 rfl (zl_at hl 0 rfl) ?_
  refine lv_iload_n hx hb dX11_nearest_1 rfl (zl_at hl 1 rfl) ?_
  refine lv_iload_n hx hb dX11_nearest_2 rfl (zl_at hl 2 rfl) ?_
  obtain ⟨k1, hp⟩ := ck_i hp
  obtain ⟨r2, h3, er2, hp⟩ := bR_i hp
  refine r_callV (ci := 12) (r := (RX11, TX11, 32)) (n := 2) (As := [.int v1, .int v2]) (rest := []) C (c_X11_at l G v0 v1 v2 h r2 h3 er2) hR hL rfl k1 mw_1100 mw_1102 mp_20 mw_10 mw_1103 (by decide +kernel) (by decide) rfl (zl_size hl) rfl (by simp [zr_cat, in_cat]) dX11_nearest_3 (st2 := [.int r2]) rfl (fun H locs cells slots hR hL => ?_)
  refine lv_iload_n hx hb dX11_nearest_6 rfl (zl_at hl 3 rfl) ?_
  refine lv_iadd hx hb dX11_nearest_7 ?_
  refine lv_topi (fun x4 ex4 => ?_)
  replace hp := nm_i hp ex4
  refine z_istore (lv' := [(4, .int x4), (0, zr v0), (1, .int v1), (2, .int v2), (3, .int v3)]) hx hb dX11_nearest_8 hl (by decide) rfl (fun ls hl => ?_)
  exact s_X11_nearest_10 C  _ _ _ _ _ _ _ _ _ _ _ hR hL (zl_sub hl [1, 2, 4, 0] rfl) hp
def p_X11_nearest (v0 : Nat) (v1 : Int32) (v2 : Int32) (v3 : Int32) (h : AH) : Option (Int32 × AH) := ck (v0 ≠ 0) <| p_X11_nearest_0 v0 v1 v2 v3 h
theorem c_X11_nearest (l : Launch) (G : GG) (v0 : Nat) (v1 : Int32) (v2 : Int32) (v3 : Int32) (h : AH) (r : Int32) (h' : AH) (hp : p_X11_nearest v0 v1 v2 v3 h = some (r, h')) : Ct l yX11_nearest (.code yX11_nearest cX11_nearest 6 (some .int) :: MW) G 2 63 [.ref (v0 - 1), .int v1, .int v2, .int v3] h (some (.int r)) h' := by
  obtain ⟨hz0, hp⟩ := ck_i hp
  refine Ct.of (by decide +kernel) (Nat.le_of_ble_eq_true rfl) ?_
  intro p e s m args below meth c C hR ls hl
  have hl : zl ls 6 [(0, zr v0), (1, .int v1), (2, .int v2), (3, .int v3)] := ⟨by rw [zr_p hz0]; exact hl, by simp [zr_cat, in_cat]⟩
  exact s_X11_nearest_0 C hR (fun _ hq => nomatch hq) hl hp
/-! CursorKeepModel.ask(III)I -/
def p_X11_ask_143  : Nat → Nat → Int32 → Int32 → AH → Option (Int32 × AH)
  | 0, _, _, _, _ => none
  | n + 1, v0, v1, v6, h =>
    ck (aK h v0 = 13) <|
    ck (aK h v0 = 13) <|
    ck (aK h (aR h v0 11) = 20 ∧ ix (aI h v0 18) (aN h (aR h v0 11))) <|
    if (aI h (aR h v0 11) (aI h v0 18).toNatClampNeg) ≤ v6 then
      ck (aK h v0 = 13) <|
      ck (aK h v0 = 13) <|
      nm (uI h v0 18 ((aI h v0 18) + (iI 1))) fun h8 =>
      ck (aK h8 v0 = 13) <|
      some (((aI h8 v0 18) - (iI 1)), h8)
    else
      ck (aK h v0 = 13) <|
      nm ((((iI 150) * (aI h v0 18)) + v6)) fun (x11 : Int32) =>
      ck (aK h v0 = 13) <|
      ck (aK h v0 = 13) <|
      ck (aK h (aR h v0 13) = 20 ∧ ix x11 (aN h (aR h v0 13))) <|
      ck (aK h v0 = 13) <|
      bR (p_X11_nearest v0 v1 (aI h (aR h v0 13) x11.toNatClampNeg) (iI (-1)) h) fun r17 h18 =>
      ck (aK h18 (aR h v0 16) = 20 ∧ ix x11 (aN h18 (aR h v0 16))) <|
      nm (uI h18 (aR h v0 16) x11.toNatClampNeg r17) fun h21 =>
      ck (aK h21 v0 = 13) <|
      ck (aK h21 v0 = 13) <|
      ck (aK h21 (aR h21 v0 13) = 20 ∧ ix x11 (aN h21 (aR h21 v0 13))) <|
      ck (aK h21 v0 = 13) <|
      bR (p_X11_nearest v0 v1 (aI h21 (aR h21 v0 13) x11.toNatClampNeg) (iI 1) h21) fun r27 h28 =>
      ck (aK h28 (aR h21 v0 17) = 20 ∧ ix x11 (aN h28 (aR h21 v0 17))) <|
      nm (uI h28 (aR h21 v0 17) x11.toNatClampNeg r27) fun h31 =>
      nm (v6 + iI 1) fun (x32 : Int32) =>
      p_X11_ask_143  n v0 v1 x32 h31
set_option maxHeartbeats 4000000 in
set_option maxRecDepth 100000 in
theorem s_X11_ask_143 {p : Program} {l : Launch} {e : Env} {s : State} {m : MethodId} {args : Array Value} {below : List Frame} {meth : Method} {c : Code} {G : GG} {hs : AH} {r : Int32} {h' : AH} (C : Cx G hs p s m args meth c cX11_ask 8 RX11 (.code yX11_ask cX11_ask 8 (some .int) :: MW) (some .int) "ask")   : ∀ (n : Nat) (v0 : Nat) (v1 : Int32) (v6 : Int32) (h : AH) (H : Heap) (locs : List Loc) (cells slots : Nat) (ls : Array Slot) (hR : Rp G h H) (hL : ∀ q ∈ locs, gB G ≤ q.base) (hl : zl ls 8 [(0, zr v0), (1, .int v1), (6, .int v6)]) (hp : p_X11_ask_143  n v0 v1 v6 h = some (r, h')), W p l e (gR G hs 4 114) s m args below meth c H locs cells slots (MQ below (Qcc G (some (.int r)) h') args s (gC G - aZ hs) (gS - aU hs) (fun q => gB G ≤ q)) (F0 m 143 ls []) := by
  obtain ⟨hx, hb, hml, hown, hts, hT, hK, rs, hlk, hret, hnm⟩ := id C
  have hm : ∀ w ∈ MW, w.before args s = true := fun w hw => hts w (hT w hw)
  intro n
  induction n with
  | zero =>
    intro v0 v1 v6 h H locs cells slots ls hR hL hl hp
    exact absurd (show none = some (r, h') from hp) (by simp)
  | succ n ih =>
    intro v0 v1 v6 h H locs cells slots ls hR hL hl hp
    rw [p_X11_ask_143.eq_2] at hp
    refine lv_iload hx hb dX11_ask_143 (zl_at hl 2 rfl) ?_
    refine z_aload_n hx hb dX11_ask_145 rfl (zl_at hl 0 rfl) ?_
    obtain ⟨k1, hp⟩ := ck_i hp
    refine r_get (ci := 12) (C := RX11) (T := TX11) (N := 32) (v := zr (aR h v0 11)) hx hb hm ii_X11 hown hK hR rfl k1 11 (by decide) (hm _ mw_993) (fun _ h9 => h9) rfl dX11_ask_146 ?_
    refine z_aload_n hx hb dX11_ask_149 rfl (zl_at hl 0 rfl) ?_
    obtain ⟨k2, hp⟩ := ck_i hp
    refine r_get (ci := 12) (C := RX11) (T := TX11) (N := 32) (v := .int (aI h v0 18)) hx hb hm ii_X11 hown hK hR rfl k2 18 (by decide) (hm _ mw_1000) (fun _ h9 => h9) rfl dX11_ask_150 ?_
    obtain ⟨k3, hp⟩ := ck_i hp
    refine r_iald hx hb hK hR k3.1 k3.2 dX11_ask_153 ?_
    refine lv_icmp_ge (tgt := 216) hx hb dX11_ask_154 (by decide) (fun c5 => ?_) (fun c5 => ?_)
    · replace hp := ite_p hp c5
      refine z_aload_n hx hb dX11_ask_216 rfl (zl_at hl 0 rfl) ?_
      refine lv_dup hx hb dX11_ask_217 (zr_cat _) ?_
      obtain ⟨k6, hp⟩ := ck_i hp
      refine r_get (ci := 12) (C := RX11) (T := TX11) (N := 32) (v := .int (aI h v0 18)) hx hb hm ii_X11 hown hK hR rfl k6 18 (by decide) (hm _ mw_1000) (fun _ h9 => h9) rfl dX11_ask_218 ?_
      refine lv_iconst (v := iI 1) hx hb dX11_ask_221 rfl ?_
      refine lv_iadd hx hb dX11_ask_222 ?_
      obtain ⟨k7, hp⟩ := ck_i hp
      refine r_putI (ci := 12) (C := RX11) (T := TX11) (N := 32) hx hb hm ii_X11 tyX11_ok nmX11 hown hK hR hL rfl k7 18 (by decide) (hm _ mw_1000) (fun _ h9 => h9) (Or.inl rfl) rfl rfl (fun _ _ _ => rfl) dX11_ask_223 (fun H locs hR hL => ?_)
      obtain ⟨h8, hp, hR⟩ := nm_h hp hR
      refine z_aload_n hx hb dX11_ask_226 rfl (zl_at hl 0 rfl) ?_
      obtain ⟨k9, hp⟩ := ck_i hp
      refine r_get (ci := 12) (C := RX11) (T := TX11) (N := 32) (v := .int (aI h8 v0 18)) hx hb hm ii_X11 hown hK hR rfl k9 18 (by decide) (hm _ mw_1000) (fun _ h9 => h9) rfl dX11_ask_227 ?_
      refine lv_iconst (v := iI 1) hx hb dX11_ask_230 rfl ?_
      refine lv_isub hx hb dX11_ask_231 ?_
      cases hp
      exact r_zret C hR hL rfl dX11_ask_232
    · replace hp := ite_n hp c5
      refine lv_sipush (v := iI 150) hx hb dX11_ask_157 (by decide +kernel) ?_
      refine z_aload_n hx hb dX11_ask_160 rfl (zl_at hl 0 rfl) ?_
      obtain ⟨k10, hp⟩ := ck_i hp
      refine r_get (ci := 12) (C := RX11) (T := TX11) (N := 32) (v := .int (aI h v0 18)) hx hb hm ii_X11 hown hK hR rfl k10 18 (by decide) (hm _ mw_1000) (fun _ h9 => h9) rfl dX11_ask_161 ?_
      refine lv_imul hx hb dX11_ask_164 ?_
      refine lv_iload hx hb dX11_ask_165 (zl_at hl 2 rfl) ?_
      refine lv_iadd hx hb dX11_ask_167 ?_
      refine lv_topi (fun x11 ex11 => ?_)
      replace hp := nm_i hp ex11
      refine z_istore (lv' := [(7, .int x11), (0, zr v0), (1, .int v1), (6, .int v6)]) hx hb dX11_ask_168 hl (by decide) rfl (fun ls hl => ?_)
      refine z_aload_n hx hb dX11_ask_170 rfl (zl_at hl 1 rfl) ?_
      obtain ⟨k12, hp⟩ := ck_i hp
      refine r_get (ci := 12) (C := RX11) (T := TX11) (N := 32) (v := zr (aR h v0 16)) hx hb hm ii_X11 hown hK hR rfl k12 16 (by decide) (hm _ mw_998) (fun _ h9 => h9) rfl dX11_ask_171 ?_
      refine lv_iload hx hb dX11_ask_174 (zl_at hl 0 rfl) ?_
      refine z_aload_n hx hb dX11_ask_176 rfl (zl_at hl 1 rfl) ?_
      refine lv_iload_n hx hb dX11_ask_177 rfl (zl_at hl 2 rfl) ?_
      refine z_aload_n hx hb dX11_ask_178 rfl (zl_at hl 1 rfl) ?_
      obtain ⟨k13, hp⟩ := ck_i hp
      refine r_get (ci := 12) (C := RX11) (T := TX11) (N := 32) (v := zr (aR h v0 13)) hx hb hm ii_X11 hown hK hR rfl k13 13 (by decide) (hm _ mw_995) (fun _ h9 => h9) rfl dX11_ask_179 ?_
      refine lv_iload hx hb dX11_ask_182 (zl_at hl 0 rfl) ?_
      obtain ⟨k14, hp⟩ := ck_i hp
      refine r_iald hx hb hK hR k14.1 k14.2 dX11_ask_184 ?_
      refine lv_iconst (v := iI (-1)) hx hb dX11_ask_185 rfl ?_
      obtain ⟨k16, hp⟩ := ck_i hp
      obtain ⟨r17, h18, er17, hp⟩ := bR_i hp
      refine r_callV (ci := 12) (r := (RX11, TX11, 32)) (n := 3) (As := [.int v1, .int (aI h (aR h v0 13) x11.toNatClampNeg), .int (iI (-1))]) (rest := [.int x11, zr (aR h v0 16)]) C (c_X11_nearest l G v0 v1 (aI h (aR h v0 13) x11.toNatClampNeg) (iI (-1)) h r17 h18 er17) hR hL rfl k16 mw_1192 mw_1194 mp_32 mw_10 mw_1195 (by decide +kernel) (by decide) rfl (zl_size hl) rfl (by simp [zr_cat, in_cat]) dX11_ask_186 (st2 := [.int r17, .int x11, zr (aR h v0 16)]) rfl (fun H locs cells slots hR hL => ?_)
      obtain ⟨k19, hp⟩ := ck_i hp
      refine r_iast hx hb hK hR hL k19.1 k19.2 dX11_ask_189 (fun H locs hR hL => ?_)
      obtain ⟨h21, hp, hR⟩ := nm_h hp hR
      refine z_aload_n hx hb dX11_ask_190 rfl (zl_at hl 1 rfl) ?_
      obtain ⟨k22, hp⟩ := ck_i hp
      refine r_get (ci := 12) (C := RX11) (T := TX11) (N := 32) (v := zr (aR h21 v0 17)) hx hb hm ii_X11 hown hK hR rfl k22 17 (by decide) (hm _ mw_999) (fun _ h9 => h9) rfl dX11_ask_191 ?_
      refine lv_iload hx hb dX11_ask_194 (zl_at hl 0 rfl) ?_
      refine z_aload_n hx hb dX11_ask_196 rfl (zl_at hl 1 rfl) ?_
      refine lv_iload_n hx hb dX11_ask_197 rfl (zl_at hl 2 rfl) ?_
      refine z_aload_n hx hb dX11_ask_198 rfl (zl_at hl 1 rfl) ?_
      obtain ⟨k23, hp⟩ := ck_i hp
      refine r_get (ci := 12) (C := RX11) (T := TX11) (N := 32) (v := zr (aR h21 v0 13)) hx hb hm ii_X11 hown hK hR rfl k23 13 (by decide) (hm _ mw_995) (fun _ h9 => h9) rfl dX11_ask_199 ?_
      refine lv_iload hx hb dX11_ask_202 (zl_at hl 0 rfl) ?_
      obtain ⟨k24, hp⟩ := ck_i hp
      refine r_iald hx hb hK hR k24.1 k24.2 dX11_ask_204 ?_
      refine lv_iconst (v := iI 1) hx hb dX11_ask_205 rfl ?_
      obtain ⟨k26, hp⟩ := ck_i hp
      obtain ⟨r27, h28, er27, hp⟩ := bR_i hp
      refine r_callV (ci := 12) (r := (RX11, TX11, 32)) (n := 3) (As := [.int v1, .int (aI h21 (aR h21 v0 13) x11.toNatClampNeg), .int (iI 1)]) (rest := [.int x11, zr (aR h21 v0 17)]) C (c_X11_nearest l G v0 v1 (aI h21 (aR h21 v0 13) x11.toNatClampNeg) (iI 1) h21 r27 h28 er27) hR hL rfl k26 mw_1192 mw_1194 mp_32 mw_10 mw_1195 (by decide +kernel) (by decide) rfl (zl_size hl) rfl (by simp [zr_cat, in_cat]) dX11_ask_206 (st2 := [.int r27, .int x11, zr (aR h21 v0 17)]) rfl (fun H locs cells slots hR hL => ?_)
      obtain ⟨k29, hp⟩ := ck_i hp
      refine r_iast hx hb hK hR hL k29.1 k29.2 dX11_ask_209 (fun H locs hR hL => ?_)
      obtain ⟨h31, hp, hR⟩ := nm_h hp hR
      obtain ⟨x32, ex32⟩ : ∃ y : Int32, y = v6 + iI 1 := ⟨_, rfl⟩
      replace hp := nm_i hp ex32
      refine z_iinc (v := x32) (lv' := [(6, .int x32), (7, .int x11), (0, zr v0), (1, .int v1)]) hx hb dX11_ask_210 hl (k := 3) rfl ex32 (by decide) rfl (fun ls hl => ?_)
      refine lv_goto (tgt := 143) hx hb dX11_ask_213 (by decide) ?_
      exact ih _ _ _ _ _ _ _ _ _ hR hL (zl_sub hl [2, 3, 0] rfl) hp
def p_X11_ask_132  (v0 : Nat) (v1 : Int32) (h : AH) : Option (Int32 × AH) :=
  ck (aK h v0 = 13) <|
  ck (aK h v0 = 13) <|
  bR (p_X11_marks v0 (aI h v0 18) h) fun r3 h4 =>
  nm ((iI 0)) fun (x5 : Int32) =>
  p_X11_ask_143  FU v0 v1 x5 h4
set_option maxHeartbeats 4000000 in
set_option maxRecDepth 100000 in
theorem s_X11_ask_132 {p : Program} {l : Launch} {e : Env} {s : State} {m : MethodId} {args : Array Value} {below : List Frame} {meth : Method} {c : Code} {G : GG} {hs : AH} {r : Int32} {h' : AH} (C : Cx G hs p s m args meth c cX11_ask 8 RX11 (.code yX11_ask cX11_ask 8 (some .int) :: MW) (some .int) "ask")   {v0 : Nat} {v1 : Int32} {h : AH} {H : Heap} {locs : List Loc} {cells slots : Nat} {ls : Array Slot} (hR : Rp G h H) (hL : ∀ q ∈ locs, gB G ≤ q.base) (hl : zl ls 8 [(0, zr v0), (1, .int v1)]) (hp : p_X11_ask_132  v0 v1 h = some (r, h')) : W p l e (gR G hs 4 114) s m args below meth c H locs cells slots (MQ below (Qcc G (some (.int r)) h') args s (gC G - aZ hs) (gS - aU hs) (fun q => gB G ≤ q)) (F0 m 132 ls []) := by
  obtain ⟨hx, hb, hml, hown, hts, hT, hK, rs, hlk, hret, hnm⟩ := id C
  have hm : ∀ w ∈ MW, w.before args s = true := fun w hw => hts w (hT w hw)
  unfold p_X11_ask_132 at hp
  refine z_aload_n hx hb dX11_ask_132 rfl (zl_at hl 0 rfl) ?_
  refine z_aload_n hx hb dX11_ask_133 rfl (zl_at hl 0 rfl) ?_
  obtain ⟨k1, hp⟩ := ck_i hp
  refine r_get (ci := 12) (C := RX11) (T := TX11) (N := 32) (v := .int (aI h v0 18)) hx hb hm ii_X11 hown hK hR rfl k1 18 (by decide) (hm _ mw_1000) (fun _ h9 => h9) rfl dX11_ask_134 ?_
  obtain ⟨k2, hp⟩ := ck_i hp
  obtain ⟨r3, h4, er3, hp⟩ := bR_i hp
  refine r_callV (ci := 12) (r := (RX11, TX11, 32)) (n := 1) (As := [.int (aI h v0 18)]) (rest := []) C (c_X11_marks l G v0 (aI h v0 18) h r3 h4 er3) hR hL rfl k2 mw_1188 mw_1190 mp_31 mw_10 mw_1191 (by decide +kernel) (by decide) rfl (zl_size hl) rfl (by simp [zr_cat, in_cat]) dX11_ask_137 (st2 := []) rfl (fun H locs cells slots hR hL => ?_)
  refine lv_iconst (v := iI 0) hx hb dX11_ask_140 rfl ?_
  refine lv_topi (fun x5 ex5 => ?_)
  replace hp := nm_i hp ex5
  refine z_istore (lv' := [(6, .int x5), (0, zr v0), (1, .int v1)]) hx hb dX11_ask_141 hl (by decide) rfl (fun ls hl => ?_)
  exact s_X11_ask_143 C  _ _ _ _ _ _ _ _ _ _ hR hL (zl_sub hl [1, 2, 0] rfl) hp
def p_X11_ask_69  (v0 : Nat) (v1 : Int32) (v2 : Int32) (v3 : Int32) (s0 : Nat) (s1 : Int32) (s2 : Int32) (s3 : Int32) (h : AH) : Option (Int32 × AH) :=
  ck (aK h s0 = 13) <|
  bR (p_X11_goes s0 s1 s2 s3 h) fun r2 h3 =>
  if r2 = 0 then
    some ((iI 0), h3)
  else
    ck (aK h3 v0 = 13) <|
    ck (aK h3 v0 = 13) <|
    ck (aK h3 (aR h3 v0 9) = 20 ∧ ix (aI h3 v0 18) (aN h3 (aR h3 v0 9))) <|
    nm (uI h3 (aR h3 v0 9) (aI h3 v0 18).toNatClampNeg v1) fun h9 =>
    ck (aK h9 v0 = 13) <|
    ck (aK h9 v0 = 13) <|
    ck (aK h9 (aR h9 v0 10) = 20 ∧ ix (aI h9 v0 18) (aN h9 (aR h9 v0 10))) <|
    nm (uI h9 (aR h9 v0 10) (aI h9 v0 18).toNatClampNeg (iI 0)) fun h14 =>
    ck (aK h14 v0 = 13) <|
    ck (aK h14 v0 = 13) <|
    ck (aK h14 (aR h14 v0 11) = 20 ∧ ix (aI h14 v0 18) (aN h14 (aR h14 v0 11))) <|
    nm (uI h14 (aR h14 v0 11) (aI h14 v0 18).toNatClampNeg (iI 0)) fun h19 =>
    ck (aK h19 v0 = 13) <|
    bR (p_X11_shows v0 v1 h19) fun r21 h22 =>
    if v2 = (iI 3) then
      ck (aK h22 v0 = 13) <|
      bR (p_X11_wantsLines v0 v1 v3 h22) fun r28 h29 =>
      p_X11_ask_132  v0 v1 h29
    else
      ck (aK h22 v0 = 13) <|
      bR (p_X11_wantsLetters v0 v1 v2 h22) fun r25 h26 =>
      p_X11_ask_132  v0 v1 h26
set_option maxHeartbeats 4000000 in
set_option maxRecDepth 100000 in
theorem s_X11_ask_69 {p : Program} {l : Launch} {e : Env} {s : State} {m : MethodId} {args : Array Value} {below : List Frame} {meth : Method} {c : Code} {G : GG} {hs : AH} {r : Int32} {h' : AH} (C : Cx G hs p s m args meth c cX11_ask 8 RX11 (.code yX11_ask cX11_ask 8 (some .int) :: MW) (some .int) "ask")   {v0 : Nat} {v1 : Int32} {v2 : Int32} {v3 : Int32} {s0 : Nat} {s1 : Int32} {s2 : Int32} {s3 : Int32} {h : AH} {H : Heap} {locs : List Loc} {cells slots : Nat} {ls : Array Slot} (hR : Rp G h H) (hL : ∀ q ∈ locs, gB G ≤ q.base) (hl : zl ls 8 [(0, zr v0), (1, .int v1), (2, .int v2), (3, .int v3)]) (hp : p_X11_ask_69  v0 v1 v2 v3 s0 s1 s2 s3 h = some (r, h')) : W p l e (gR G hs 4 114) s m args below meth c H locs cells slots (MQ below (Qcc G (some (.int r)) h') args s (gC G - aZ hs) (gS - aU hs) (fun q => gB G ≤ q)) (F0 m 69 ls [.int s3, .int s2, .int s1, zr s0]) := by
  obtain ⟨hx, hb, hml, hown, hts, hT, hK, rs, hlk, hret, hnm⟩ := id C
  have hm : ∀ w ∈ MW, w.before args s = true := fun w hw => hts w (hT w hw)
  unfold p_X11_ask_69 at hp
  obtain ⟨k1, hp⟩ := ck_i hp
  obtain ⟨r2, h3, er2, hp⟩ := bR_i hp
  refine r_callV (ci := 12) (r := (RX11, TX11, 32)) (n := 3) (As := [.int s1, .int s2, .int s3]) (rest := []) C (c_X11_goes l G s0 s1 s2 s3 h r2 h3 er2) hR hL rfl k1 mw_1096 mw_1098 mp_19 mw_10 mw_1099 (by decide +kernel) (by decide) rfl (zl_size hl) rfl (by simp [zr_cat, in_cat]) dX11_ask_69 (st2 := [.int r2]) rfl (fun H locs cells slots hR hL => ?_)
  refine lv_if_ne (tgt := 77) hx hb dX11_ask_72 (by decide) (fun c4 => ?_) (fun c4 => ?_)
  · replace hp := ite_n hp c4
    refine z_aload_n hx hb dX11_ask_77 rfl (zl_at hl 0 rfl) ?_
    obtain ⟨k5, hp⟩ := ck_i hp
    refine r_get (ci := 12) (C := RX11) (T := TX11) (N := 32) (v := zr (aR h3 v0 9)) hx hb hm ii_X11 hown hK hR rfl k5 9 (by decide) (hm _ mw_991) (fun _ h9 => h9) rfl dX11_ask_78 ?_
    refine z_aload_n hx hb dX11_ask_81 rfl (zl_at hl 0 rfl) ?_
    obtain ⟨k6, hp⟩ := ck_i hp
    refine r_get (ci := 12) (C := RX11) (T := TX11) (N := 32) (v := .int (aI h3 v0 18)) hx hb hm ii_X11 hown hK hR rfl k6 18 (by decide) (hm _ mw_1000) (fun _ h9 => h9) rfl dX11_ask_82 ?_
    refine lv_iload_n hx hb dX11_ask_85 rfl (zl_at hl 1 rfl) ?_
    obtain ⟨k7, hp⟩ := ck_i hp
    refine r_iast hx hb hK hR hL k7.1 k7.2 dX11_ask_86 (fun H locs hR hL => ?_)
    obtain ⟨h9, hp, hR⟩ := nm_h hp hR
    refine z_aload_n hx hb dX11_ask_87 rfl (zl_at hl 0 rfl) ?_
    obtain ⟨k10, hp⟩ := ck_i hp
    refine r_get (ci := 12) (C := RX11) (T := TX11) (N := 32) (v := zr (aR h9 v0 10)) hx hb hm ii_X11 hown hK hR rfl k10 10 (by decide) (hm _ mw_992) (fun _ h9 => h9) rfl dX11_ask_88 ?_
    refine z_aload_n hx hb dX11_ask_91 rfl (zl_at hl 0 rfl) ?_
    obtain ⟨k11, hp⟩ := ck_i hp
    refine r_get (ci := 12) (C := RX11) (T := TX11) (N := 32) (v := .int (aI h9 v0 18)) hx hb hm ii_X11 hown hK hR rfl k11 18 (by decide) (hm _ mw_1000) (fun _ h9 => h9) rfl dX11_ask_92 ?_
    refine lv_iconst (v := iI 0) hx hb dX11_ask_95 rfl ?_
    obtain ⟨k12, hp⟩ := ck_i hp
    refine r_iast hx hb hK hR hL k12.1 k12.2 dX11_ask_96 (fun H locs hR hL => ?_)
    obtain ⟨h14, hp, hR⟩ := nm_h hp hR
    refine z_aload_n hx hb dX11_ask_97 rfl (zl_at hl 0 rfl) ?_
    obtain ⟨k15, hp⟩ := ck_i hp
    refine r_get (ci := 12) (C := RX11) (T := TX11) (N := 32) (v := zr (aR h14 v0 11)) hx hb hm ii_X11 hown hK hR rfl k15 11 (by decide) (hm _ mw_993) (fun _ h9 => h9) rfl dX11_ask_98 ?_
    refine z_aload_n hx hb dX11_ask_101 rfl (zl_at hl 0 rfl) ?_
    obtain ⟨k16, hp⟩ := ck_i hp
    refine r_get (ci := 12) (C := RX11) (T := TX11) (N := 32) (v := .int (aI h14 v0 18)) hx hb hm ii_X11 hown hK hR rfl k16 18 (by decide) (hm _ mw_1000) (fun _ h9 => h9) rfl dX11_ask_102 ?_
    refine lv_iconst (v := iI 0) hx hb dX11_ask_105 rfl ?_
    obtain ⟨k17, hp⟩ := ck_i hp
    refine r_iast hx hb hK hR hL k17.1 k17.2 dX11_ask_106 (fun H locs hR hL => ?_)
    obtain ⟨h19, hp, hR⟩ := nm_h hp hR
    refine z_aload_n hx hb dX11_ask_107 rfl (zl_at hl 0 rfl) ?_
    refine lv_iload_n hx hb dX11_ask_108 rfl (zl_at hl 1 rfl) ?_
    obtain ⟨k20, hp⟩ := ck_i hp
    obtain ⟨r21, h22, er21, hp⟩ := bR_i hp
    refine r_callV (ci := 12) (r := (RX11, TX11, 32)) (n := 1) (As := [.int v1]) (rest := []) C (c_X11_shows l G v0 v1 h19 r21 h22 er21) hR hL rfl k20 mw_1116 mw_1118 mp_23 mw_10 mw_1119 (by decide +kernel) (by decide) rfl (zl_size hl) rfl (by simp [zr_cat, in_cat]) dX11_ask_109 (st2 := []) rfl (fun H locs cells slots hR hL => ?_)
    refine lv_iload_n hx hb dX11_ask_112 rfl (zl_at hl 2 rfl) ?_
    refine lv_iconst (v := iI 3) hx hb dX11_ask_113 rfl ?_
    refine lv_icmp_ne (tgt := 126) hx hb dX11_ask_114 (by decide) (fun c23 => ?_) (fun c23 => ?_)
    · replace hp := ite_n hp c23
      refine z_aload_n hx hb dX11_ask_126 rfl (zl_at hl 0 rfl) ?_
      refine lv_iload_n hx hb dX11_ask_127 rfl (zl_at hl 1 rfl) ?_
      refine lv_iload_n hx hb dX11_ask_128 rfl (zl_at hl 2 rfl) ?_
      obtain ⟨k24, hp⟩ := ck_i hp
      obtain ⟨r25, h26, er25, hp⟩ := bR_i hp
      refine r_callV (ci := 12) (r := (RX11, TX11, 32)) (n := 2) (As := [.int v1, .int v2]) (rest := []) C (c_X11_wantsLetters l G v0 v1 v2 h22 r25 h26 er25) hR hL rfl k24 mw_1184 mw_1186 mp_30 mw_10 mw_1187 (by decide +kernel) (by decide) rfl (zl_size hl) rfl (by simp [zr_cat, in_cat]) dX11_ask_129 (st2 := []) rfl (fun H locs cells slots hR hL => ?_)
      exact s_X11_ask_132 C  hR hL (zl_sub hl [0, 1] rfl) hp
    · replace hp := ite_p hp c23
      refine z_aload_n hx hb dX11_ask_117 rfl (zl_at hl 0 rfl) ?_
      refine lv_iload_n hx hb dX11_ask_118 rfl (zl_at hl 1 rfl) ?_
      refine lv_iload_n hx hb dX11_ask_119 rfl (zl_at hl 3 rfl) ?_
      obtain ⟨k27, hp⟩ := ck_i hp
      obtain ⟨r28, h29, er28, hp⟩ := bR_i hp
      refine r_callV (ci := 12) (r := (RX11, TX11, 32)) (n := 2) (As := [.int v1, .int v3]) (rest := []) C (c_X11_wantsLines l G v0 v1 v3 h22 r28 h29 er28) hR hL rfl k27 mw_1168 mw_1170 mp_26 mw_10 mw_1171 (by decide +kernel) (by decide) rfl (zl_size hl) rfl (by simp [zr_cat, in_cat]) dX11_ask_120 (st2 := []) rfl (fun H locs cells slots hR hL => ?_)
      refine lv_goto (tgt := 132) hx hb dX11_ask_123 (by decide) ?_
      exact s_X11_ask_132 C  hR hL (zl_sub hl [0, 1] rfl) hp
  · replace hp := ite_p hp c4
    refine lv_iconst (v := iI 0) hx hb dX11_ask_75 rfl ?_
    cases hp
    exact r_zret C hR hL rfl dX11_ask_76
def p_X11_ask_48  (v0 : Nat) (v1 : Int32) (v2 : Int32) (v3 : Int32) (v4 : Int32) (s0 : Int32) (h : AH) : Option (Int32 × AH) :=
  ck (aK h v0 = 13) <|
  if (iI 60) ≤ (aI h v0 18) then
    p_X11_ask_69  v0 v1 v2 v3 v0 v4 s0 (iI 0) h
  else
    p_X11_ask_69  v0 v1 v2 v3 v0 v4 s0 (iI 1) h
set_option maxHeartbeats 4000000 in
set_option maxRecDepth 100000 in
theorem s_X11_ask_48 {p : Program} {l : Launch} {e : Env} {s : State} {m : MethodId} {args : Array Value} {below : List Frame} {meth : Method} {c : Code} {G : GG} {hs : AH} {r : Int32} {h' : AH} (C : Cx G hs p s m args meth c cX11_ask 8 RX11 (.code yX11_ask cX11_ask 8 (some .int) :: MW) (some .int) "ask")   {v0 : Nat} {v1 : Int32} {v2 : Int32} {v3 : Int32} {v4 : Int32} {s0 : Int32} {h : AH} {H : Heap} {locs : List Loc} {cells slots : Nat} {ls : Array Slot} (hR : Rp G h H) (hL : ∀ q ∈ locs, gB G ≤ q.base) (hl : zl ls 8 [(0, zr v0), (1, .int v1), (2, .int v2), (3, .int v3), (4, .int v4)]) (hp : p_X11_ask_48  v0 v1 v2 v3 v4 s0 h = some (r, h')) : W p l e (gR G hs 4 114) s m args below meth c H locs cells slots (MQ below (Qcc G (some (.int r)) h') args s (gC G - aZ hs) (gS - aU hs) (fun q => gB G ≤ q)) (F0 m 48 ls [.int s0]) := by
  obtain ⟨hx, hb, hml, hown, hts, hT, hK, rs, hlk, hret, hnm⟩ := id C
  have hm : ∀ w ∈ MW, w.before args s = true := fun w hw => hts w (hT w hw)
  unfold p_X11_ask_48 at hp
  refine z_istore (lv' := [(5, .int s0), (0, zr v0), (1, .int v1), (2, .int v2), (3, .int v3), (4, .int v4)]) hx hb dX11_ask_48 hl (by decide) rfl (fun ls hl => ?_)
  refine z_aload_n hx hb dX11_ask_50 rfl (zl_at hl 1 rfl) ?_
  refine lv_iload hx hb dX11_ask_51 (zl_at hl 5 rfl) ?_
  refine lv_iload hx hb dX11_ask_53 (zl_at hl 0 rfl) ?_
  refine z_aload_n hx hb dX11_ask_55 rfl (zl_at hl 1 rfl) ?_
  obtain ⟨k1, hp⟩ := ck_i hp
  refine r_get (ci := 12) (C := RX11) (T := TX11) (N := 32) (v := .int (aI h v0 18)) hx hb hm ii_X11 hown hK hR rfl k1 18 (by decide) (hm _ mw_1000) (fun _ h9 => h9) rfl dX11_ask_56 ?_
  refine lv_bipush (v := iI 60) hx hb dX11_ask_59 (by decide +kernel) ?_
  refine lv_icmp_ge (tgt := 68) hx hb dX11_ask_61 (by decide) (fun c2 => ?_) (fun c2 => ?_)
  · replace hp := ite_p hp c2
    refine lv_iconst (v := iI 0) hx hb dX11_ask_68 rfl ?_
    exact s_X11_ask_69 C  hR hL (zl_sub hl [1, 2, 3, 4] rfl) hp
  · replace hp := ite_n hp c2
    refine lv_iconst (v := iI 1) hx hb dX11_ask_64 rfl ?_
    refine lv_goto (tgt := 69) hx hb dX11_ask_65 (by decide) ?_
    exact s_X11_ask_69 C  hR hL (zl_sub hl [1, 2, 3, 4] rfl) hp
def p_X11_ask_26  (v0 : Nat) (v1 : Int32) (v2 : Int32) (v3 : Int32) (v4 : Int32) (h : AH) : Option (Int32 × AH) :=
  p_X11_ask_48  v0 v1 v2 v3 v4 (iI 0) h
set_option maxHeartbeats 4000000 in
set_option maxRecDepth 100000 in
theorem s_X11_ask_26 {p : Program} {l : Launch} {e : Env} {s : State} {m : MethodId} {args : Array Value} {below : List Frame} {meth : Method} {c : Code} {G : GG} {hs : AH} {r : Int32} {h' : AH} (C : Cx G hs p s m args meth c cX11_ask 8 RX11 (.code yX11_ask cX11_ask 8 (some .int) :: MW) (some .int) "ask")   {v0 : Nat} {v1 : Int32} {v2 : Int32} {v3 : Int32} {v4 : Int32} {h : AH} {H : Heap} {locs : List Loc} {cells slots : Nat} {ls : Array Slot} (hR : Rp G h H) (hL : ∀ q ∈ locs, gB G ≤ q.base) (hl : zl ls 8 [(0, zr v0), (1, .int v1), (2, .int v2), (3, .int v3), (4, .int v4)]) (hp : p_X11_ask_26  v0 v1 v2 v3 v4 h = some (r, h')) : W p l e (gR G hs 4 114) s m args below meth c H locs cells slots (MQ below (Qcc G (some (.int r)) h') args s (gC G - aZ hs) (gS - aU hs) (fun q => gB G ≤ q)) (F0 m 26 ls []) := by
  obtain ⟨hx, hb, hml, hown, hts, hT, hK, rs, hlk, hret, hnm⟩ := id C
  have hm : ∀ w ∈ MW, w.before args s = true := fun w hw => hts w (hT w hw)
  unfold p_X11_ask_26 at hp
  refine lv_iconst (v := iI 0) hx hb dX11_ask_26 rfl ?_
  refine lv_goto (tgt := 48) hx hb dX11_ask_27 (by decide) ?_
  exact s_X11_ask_48 C  hR hL (zl_sub hl [0, 1, 2, 3, 4] rfl) hp
def p_X11_ask_47  (v0 : Nat) (v1 : Int32) (v2 : Int32) (v3 : Int32) (v4 : Int32) (h : AH) : Option (Int32 × AH) :=
  p_X11_ask_48  v0 v1 v2 v3 v4 (iI 0) h
set_option maxHeartbeats 4000000 in
set_option maxRecDepth 100000 in
theorem s_X11_ask_47 {p : Program} {l : Launch} {e : Env} {s : State} {m : MethodId} {args : Array Value} {below : List Frame} {meth : Method} {c : Code} {G : GG} {hs : AH} {r : Int32} {h' : AH} (C : Cx G hs p s m args meth c cX11_ask 8 RX11 (.code yX11_ask cX11_ask 8 (some .int) :: MW) (some .int) "ask")   {v0 : Nat} {v1 : Int32} {v2 : Int32} {v3 : Int32} {v4 : Int32} {h : AH} {H : Heap} {locs : List Loc} {cells slots : Nat} {ls : Array Slot} (hR : Rp G h H) (hL : ∀ q ∈ locs, gB G ≤ q.base) (hl : zl ls 8 [(0, zr v0), (1, .int v1), (2, .int v2), (3, .int v3), (4, .int v4)]) (hp : p_X11_ask_47  v0 v1 v2 v3 v4 h = some (r, h')) : W p l e (gR G hs 4 114) s m args below meth c H locs cells slots (MQ below (Qcc G (some (.int r)) h') args s (gC G - aZ hs) (gS - aU hs) (fun q => gB G ≤ q)) (F0 m 47 ls []) := by
  obtain ⟨hx, hb, hml, hown, hts, hT, hK, rs, hlk, hret, hnm⟩ := id C
  have hm : ∀ w ∈ MW, w.before args s = true := fun w hw => hts w (hT w hw)
  unfold p_X11_ask_47 at hp
  refine lv_iconst (v := iI 0) hx hb dX11_ask_47 rfl ?_
  exact s_X11_ask_48 C  hR hL (zl_sub hl [0, 1, 2, 3, 4] rfl) hp
def p_X11_ask_0  (v0 : Nat) (v1 : Int32) (v2 : Int32) (v3 : Int32) (h : AH) : Option (Int32 × AH) :=
  bR (p_X11_isText v1 h) fun r1 h2 =>
  if v2 = (iI 3) then
    if v3 < (iI 5) then
      p_X11_ask_26  v0 v1 v2 v3 r1 h2
    else
      if (iI 40) < v3 then
        p_X11_ask_26  v0 v1 v2 v3 r1 h2
      else
        p_X11_ask_48  v0 v1 v2 v3 r1 (iI 1) h2
  else
    if v2 < 0 then
      p_X11_ask_47  v0 v1 v2 v3 r1 h2
    else
      if (iI 3) ≤ v2 then
        p_X11_ask_47  v0 v1 v2 v3 r1 h2
      else
        if v3 = 0 then
          p_X11_ask_48  v0 v1 v2 v3 r1 (iI 1) h2
        else
          p_X11_ask_47  v0 v1 v2 v3 r1 h2
set_option maxHeartbeats 4000000 in
set_option maxRecDepth 100000 in
theorem s_X11_ask_0 {p : Program} {l : Launch} {e : Env} {s : State} {m : MethodId} {args : Array Value} {below : List Frame} {meth : Method} {c : Code} {G : GG} {hs : AH} {r : Int32} {h' : AH} (C : Cx G hs p s m args meth c cX11_ask 8 RX11 (.code yX11_ask cX11_ask 8 (some .int) :: MW) (some .int) "ask")   {v0 : Nat} {v1 : Int32} {v2 : Int32} {v3 : Int32} {h : AH} {H : Heap} {locs : List Loc} {cells slots : Nat} {ls : Array Slot} (hR : Rp G h H) (hL : ∀ q ∈ locs, gB G ≤ q.base) (hl : zl ls 8 [(0, zr v0), (1, .int v1), (2, .int v2), (3, .int v3)]) (hp : p_X11_ask_0  v0 v1 v2 v3 h = some (r, h')) : W p l e (gR G hs 4 114) s m args below meth c H locs cells slots (MQ below (Qcc G (some (.int r)) h') args s (gC G - aZ hs) (gS - aU hs) (fun q => gB G ≤ q)) (F0 m 0 ls []) := by
  obtain ⟨hx, hb, hml, hown, hts, hT, hK, rs, hlk, hret, hnm⟩ := id C
  have hm : ∀ w ∈ MW, w.before args s = true := fun w hw => hts w (hT w hw)
  unfold p_X11_ask_0 at hp
  refine lv_iload_n hx hb dX11_ask_0 rfl (zl_at hl 1 rfl) ?_
  obtain ⟨r1, h2, er1, hp⟩ := bR_i hp
  refine r_callS (n := 1) (As := [.int v1]) (rest := []) C (c_X11_isText l G v1 h r1 h2 er1) hR hL mw_1148 mw_1149 mw_10 mw_1150 (by decide +kernel) (by decide) rfl (zl_size hl) rfl (by simp [zr_cat, in_cat]) dX11_ask_1 (st2 := [.int r1]) rfl (fun H locs cells slots hR hL => ?_)
  refine z_istore (lv' := [(4, .int r1), (0, zr v0), (1, .int v1), (2, .int v2), (3, .int v3)]) hx hb dX11_ask_4 hl (by decide) rfl (fun ls hl => ?_)
  refine lv_iload_n hx hb dX11_ask_6 rfl (zl_at hl 3 rfl) ?_
  refine lv_iconst (v := iI 3) hx hb dX11_ask_7 rfl ?_
  refine lv_icmp_ne (tgt := 30) hx hb dX11_ask_8 (by decide) (fun c3 => ?_) (fun c3 => ?_)
  · replace hp := ite_n hp c3
    refine lv_iload_n hx hb dX11_ask_30 rfl (zl_at hl 3 rfl) ?_
    refine lv_if_lt (tgt := 47) hx hb dX11_ask_31 (by decide) (fun c4 => ?_) (fun c4 => ?_)
    · replace hp := ite_p hp c4
      exact s_X11_ask_47 C  hR hL (zl_sub hl [1, 2, 3, 4, 0] rfl) hp
    · replace hp := ite_n hp c4
      refine lv_iload_n hx hb dX11_ask_34 rfl (zl_at hl 3 rfl) ?_
      refine lv_iconst (v := iI 3) hx hb dX11_ask_35 rfl ?_
      refine lv_icmp_ge (tgt := 47) hx hb dX11_ask_36 (by decide) (fun c5 => ?_) (fun c5 => ?_)
      · replace hp := ite_p hp c5
        exact s_X11_ask_47 C  hR hL (zl_sub hl [1, 2, 3, 4, 0] rfl) hp
      · replace hp := ite_n hp c5
        refine lv_iload_n hx hb dX11_ask_39 rfl (zl_at hl 4 rfl) ?_
        refine lv_if_ne (tgt := 47) hx hb dX11_ask_40 (by decide) (fun c6 => ?_) (fun c6 => ?_)
        · replace hp := ite_n hp c6
          exact s_X11_ask_47 C  hR hL (zl_sub hl [1, 2, 3, 4, 0] rfl) hp
        · replace hp := ite_p hp c6
          refine lv_iconst (v := iI 1) hx hb dX11_ask_43 rfl ?_
          refine lv_goto (tgt := 48) hx hb dX11_ask_44 (by decide) ?_
          exact s_X11_ask_48 C  hR hL (zl_sub hl [1, 2, 3, 4, 0] rfl) hp
  · replace hp := ite_p hp c3
    refine lv_iload_n hx hb dX11_ask_11 rfl (zl_at hl 4 rfl) ?_
    refine lv_iconst (v := iI 5) hx hb dX11_ask_12 rfl ?_
    refine lv_icmp_lt (tgt := 26) hx hb dX11_ask_13 (by decide) (fun c7 => ?_) (fun c7 => ?_)
    · replace hp := ite_p hp c7
      exact s_X11_ask_26 C  hR hL (zl_sub hl [1, 2, 3, 4, 0] rfl) hp
    · replace hp := ite_n hp c7
      refine lv_iload_n hx hb dX11_ask_16 rfl (zl_at hl 4 rfl) ?_
      refine lv_bipush (v := iI 40) hx hb dX11_ask_17 (by decide +kernel) ?_
      refine lv_icmp_gt (tgt := 26) hx hb dX11_ask_19 (by decide) (fun c8 => ?_) (fun c8 => ?_)
      · replace hp := ite_p hp c8
        exact s_X11_ask_26 C  hR hL (zl_sub hl [1, 2, 3, 4, 0] rfl) hp
      · replace hp := ite_n hp c8
        refine lv_iconst (v := iI 1) hx hb dX11_ask_22 rfl ?_
        refine lv_goto (tgt := 48) hx hb dX11_ask_23 (by decide) ?_
        exact s_X11_ask_48 C  hR hL (zl_sub hl [1, 2, 3, 4, 0] rfl) hp
def p_X11_ask (v0 : Nat) (v1 : Int32) (v2 : Int32) (v3 : Int32) (h : AH) : Option (Int32 × AH) := ck (v0 ≠ 0) <| p_X11_ask_0 v0 v1 v2 v3 h
theorem c_X11_ask (l : Launch) (G : GG) (v0 : Nat) (v1 : Int32) (v2 : Int32) (v3 : Int32) (h : AH) (r : Int32) (h' : AH) (hp : p_X11_ask v0 v1 v2 v3 h = some (r, h')) : Ct l yX11_ask (.code yX11_ask cX11_ask 8 (some .int) :: MW) G 4 114 [.ref (v0 - 1), .int v1, .int v2, .int v3] h (some (.int r)) h' := by
  obtain ⟨hz0, hp⟩ := ck_i hp
  refine Ct.of (by decide +kernel) (Nat.le_of_ble_eq_true rfl) ?_
  intro p e s m args below meth c C hR ls hl
  have hl : zl ls 8 [(0, zr v0), (1, .int v1), (2, .int v2), (3, .int v3)] := ⟨by rw [zr_p hz0]; exact hl, by simp [zr_cat, in_cat]⟩
  exact s_X11_ask_0 C hR (fun _ hq => nomatch hq) hl hp
/-! CursorKeepModel.isFormat(I)Z -/
def p_X11_isFormat_0  (v0 : Nat) (v1 : Int32) (h : AH) : Option (Int32 × AH) :=
  ck (aK h v0 = 13) <|
  bR (p_X11_isBelow v1 (aI h v0 18) h) fun r2 h3 =>
  ck (okZ r2) <|
  some (r2, h3)
set_option maxHeartbeats 4000000 in
set_option maxRecDepth 100000 in
theorem s_X11_isFormat_0 {p : Program} {l : Launch} {e : Env} {s : State} {m : MethodId} {args : Array Value} {below : List Frame} {meth : Method} {c : Code} {G : GG} {hs : AH} {r : Int32} {h' : AH} (C : Cx G hs p s m args meth c cX11_isFormat 2 RX11 (.code yX11_isFormat cX11_isFormat 2 (some .boolean) :: MW) (some .boolean) "isFormat")   {v0 : Nat} {v1 : Int32} {h : AH} {H : Heap} {locs : List Loc} {cells slots : Nat} {ls : Array Slot} (hR : Rp G h H) (hL : ∀ q ∈ locs, gB G ≤ q.base) (hl : zl ls 2 [(0, zr v0), (1, .int v1)]) (hp : p_X11_isFormat_0  v0 v1 h = some (r, h')) : W p l e (gR G hs 2 61) s m args below meth c H locs cells slots (MQ below (Qcc G (some (.int r)) h') args s (gC G - aZ hs) (gS - aU hs) (fun q => gB G ≤ q)) (F0 m 0 ls []) := by
  obtain ⟨hx, hb, hml, hown, hts, hT, hK, rs, hlk, hret, hnm⟩ := id C
  have hm : ∀ w ∈ MW, w.before args s = true := fun w hw => hts w (hT w hw)
  unfold p_X11_isFormat_0 at hp
  refine lv_iload_n hx hb dX11_isFormat_0 rfl (zl_at hl 1 rfl) ?_
  refine z_aload_n hx hb dX11_isFormat_1 rfl (zl_at hl 0 rfl) ?_
  obtain ⟨k1, hp⟩ := ck_i hp
  refine r_get (ci := 12) (C := RX11) (T := TX11) (N := 32) (v := .int (aI h v0 18)) hx hb hm ii_X11 hown hK hR rfl k1 18 (by decide) (hm _ mw_1000) (fun _ h9 => h9) rfl dX11_isFormat_2 ?_
  obtain ⟨r2, h3, er2, hp⟩ := bR_i hp
  refine r_callS (n := 2) (As := [.int v1, .int (aI h v0 18)]) (rest := []) C (c_X11_isBelow l G v1 (aI h v0 18) h r2 h3 er2) hR hL mw_1090 mw_1091 mw_10 mw_1092 (by decide +kernel) (by decide) rfl (zl_size hl) rfl (by simp [zr_cat, in_cat]) dX11_isFormat_5 (st2 := [.int r2]) rfl (fun H locs cells slots hR hL => ?_)
  obtain ⟨k4, hp⟩ := ck_i hp
  cases hp
  exact r_zret C hR hL (okZ_n k4) dX11_isFormat_8
def p_X11_isFormat (v0 : Nat) (v1 : Int32) (h : AH) : Option (Int32 × AH) := ck (v0 ≠ 0) <| p_X11_isFormat_0 v0 v1 h
theorem c_X11_isFormat (l : Launch) (G : GG) (v0 : Nat) (v1 : Int32) (h : AH) (r : Int32) (h' : AH) (hp : p_X11_isFormat v0 v1 h = some (r, h')) : Ct l yX11_isFormat (.code yX11_isFormat cX11_isFormat 2 (some .boolean) :: MW) G 2 61 [.ref (v0 - 1), .int v1] h (some (.int r)) h' := by
  obtain ⟨hz0, hp⟩ := ck_i hp
  refine Ct.of (by decide +kernel) (Nat.le_of_ble_eq_true rfl) ?_
  intro p e s m args below meth c C hR ls hl
  have hl : zl ls 2 [(0, zr v0), (1, .int v1)] := ⟨by rw [zr_p hz0]; exact hl, by simp [zr_cat, in_cat]⟩
  exact s_X11_isFormat_0 C hR (fun _ hq => nomatch hq) hl hp
/-! CursorKeepModel.hasCursor(II)Z -/
def p_X11_hasCursor_35 (k5 : Nat → Int32 → Int32 → Int32 → Int32 → AH → Option (Int32 × AH)) (v0 : Nat) (v1 : Int32) (v2 : Int32) (v4 : Int32) (s0 : Int32) (h : AH) : Option (Int32 × AH) :=
  nm (v4 + iI 1) fun (x1 : Int32) =>
  k5 v0 v1 v2 s0 x1 h
set_option maxHeartbeats 4000000 in
set_option maxRecDepth 100000 in
theorem s_X11_hasCursor_35 {p : Program} {l : Launch} {e : Env} {s : State} {m : MethodId} {args : Array Value} {below : List Frame} {meth : Method} {c : Code} {G : GG} {hs : AH} {r : Int32} {h' : AH} (C : Cx G hs p s m args meth c cX11_hasCursor 5 RX11 (.code yX11_hasCursor cX11_hasCursor 5 (some .boolean) :: MW) (some .boolean) "hasCursor") {k5 : Nat → Int32 → Int32 → Int32 → Int32 → AH → Option (Int32 × AH)} (hk5 : ∀ {v0 : Nat} {v1 : Int32} {v2 : Int32} {v3 : Int32} {v4 : Int32} {h : AH} {H : Heap} {locs : List Loc} {cells slots : Nat} {ls : Array Slot}, Rp G h H → (∀ q ∈ locs, gB G ≤ q.base) → zl ls 5 [(0, zr v0), (1, .int v1), (2, .int v2), (3, .int v3), (4, .int v4)] → k5 v0 v1 v2 v3 v4 h = some (r, h') → W p l e (gR G hs 1 40) s m args below meth c H locs cells slots (MQ below (Qcc G (some (.int r)) h') args s (gC G - aZ hs) (gS - aU hs) (fun q => gB G ≤ q)) (F0 m 5 ls [])) {v0 : Nat} {v1 : Int32} {v2 : Int32} {v4 : Int32} {s0 : Int32} {h : AH} {H : Heap} {locs : List Loc} {cells slots : Nat} {ls : Array Slot} (hR : Rp G h H) (hL : ∀ q ∈ locs, gB G ≤ q.base) (hl : zl ls 5 [(0, zr v0), (1, .int v1), (2, .int v2), (4, .int v4)]) (hp : p_X11_hasCursor_35 k5 v0 v1 v2 v4 s0 h = some (r, h')) : W p l e (gR G hs 1 40) s m args below meth c H locs cells slots (MQ below (Qcc G (some (.int r)) h') args s (gC G - aZ hs) (gS - aU hs) (fun q => gB G ≤ q)) (F0 m 35 ls [.int s0]) := by
  obtain ⟨hx, hb, hml, hown, hts, hT, hK, rs, hlk, hret, hnm⟩ := id C
  have hm : ∀ w ∈ MW, w.before args s = true := fun w hw => hts w (hT w hw)
  unfold p_X11_hasCursor_35 at hp
  refine z_istore_n (lv' := [(3, .int s0), (0, zr v0), (1, .int v1), (2, .int v2), (4, .int v4)]) hx hb dX11_hasCursor_35 rfl hl (by decide) rfl (fun ls hl => ?_)
  obtain ⟨x1, ex1⟩ : ∃ y : Int32, y = v4 + iI 1 := ⟨_, rfl⟩
  replace hp := nm_i hp ex1
  refine z_iinc (v := x1) (lv' := [(4, .int x1), (3, .int s0), (0, zr v0), (1, .int v1), (2, .int v2)]) hx hb dX11_hasCursor_36 hl (k := 4) rfl ex1 (by decide) rfl (fun ls hl => ?_)
  refine lv_goto (tgt := 5) hx hb dX11_hasCursor_39 (by decide) ?_
  exact hk5 hR hL (zl_sub hl [2, 3, 4, 1, 0] rfl) hp
def p_X11_hasCursor_30 (k5 : Nat → Int32 → Int32 → Int32 → Int32 → AH → Option (Int32 × AH)) (v0 : Nat) (v1 : Int32) (v2 : Int32) (v4 : Int32) (h : AH) : Option (Int32 × AH) :=
  p_X11_hasCursor_35 k5 v0 v1 v2 v4 (iI 1) h
set_option maxHeartbeats 4000000 in
set_option maxRecDepth 100000 in
theorem s_X11_hasCursor_30 {p : Program} {l : Launch} {e : Env} {s : State} {m : MethodId} {args : Array Value} {below : List Frame} {meth : Method} {c : Code} {G : GG} {hs : AH} {r : Int32} {h' : AH} (C : Cx G hs p s m args meth c cX11_hasCursor 5 RX11 (.code yX11_hasCursor cX11_hasCursor 5 (some .boolean) :: MW) (some .boolean) "hasCursor") {k5 : Nat → Int32 → Int32 → Int32 → Int32 → AH → Option (Int32 × AH)} (hk5 : ∀ {v0 : Nat} {v1 : Int32} {v2 : Int32} {v3 : Int32} {v4 : Int32} {h : AH} {H : Heap} {locs : List Loc} {cells slots : Nat} {ls : Array Slot}, Rp G h H → (∀ q ∈ locs, gB G ≤ q.base) → zl ls 5 [(0, zr v0), (1, .int v1), (2, .int v2), (3, .int v3), (4, .int v4)] → k5 v0 v1 v2 v3 v4 h = some (r, h') → W p l e (gR G hs 1 40) s m args below meth c H locs cells slots (MQ below (Qcc G (some (.int r)) h') args s (gC G - aZ hs) (gS - aU hs) (fun q => gB G ≤ q)) (F0 m 5 ls [])) {v0 : Nat} {v1 : Int32} {v2 : Int32} {v4 : Int32} {h : AH} {H : Heap} {locs : List Loc} {cells slots : Nat} {ls : Array Slot} (hR : Rp G h H) (hL : ∀ q ∈ locs, gB G ≤ q.base) (hl : zl ls 5 [(0, zr v0), (1, .int v1), (2, .int v2), (4, .int v4)]) (hp : p_X11_hasCursor_30 k5 v0 v1 v2 v4 h = some (r, h')) : W p l e (gR G hs 1 40) s m args below meth c H locs cells slots (MQ below (Qcc G (some (.int r)) h') args s (gC G - aZ hs) (gS - aU hs) (fun q => gB G ≤ q)) (F0 m 30 ls []) := by
  obtain ⟨hx, hb, hml, hown, hts, hT, hK, rs, hlk, hret, hnm⟩ := id C
  have hm : ∀ w ∈ MW, w.before args s = true := fun w hw => hts w (hT w hw)
  unfold p_X11_hasCursor_30 at hp
  refine lv_iconst (v := iI 1) hx hb dX11_hasCursor_30 rfl ?_
  refine lv_goto (tgt := 35) hx hb dX11_hasCursor_31 (by decide) ?_
  exact s_X11_hasCursor_35 C hk5 hR hL (zl_sub hl [0, 1, 2, 3] rfl) hp
def p_X11_hasCursor_5  : Nat → Nat → Int32 → Int32 → Int32 → Int32 → AH → Option (Int32 × AH)
  | 0, _, _, _, _, _, _ => none
  | n + 1, v0, v1, v2, v3, v4, h =>
    if (iI 5) ≤ v4 then
      ck (okZ v3) <|
      some (v3, h)
    else
      if v3 = 0 then
        ck (aK h v0 = 13) <|
        ck (aK h (aR h v0 5) = 20 ∧ ix (((iI 5) * v1) + v4) (aN h (aR h v0 5))) <|
        if (aI h (aR h v0 5) (((iI 5) * v1) + v4).toNatClampNeg) = v2 then
          p_X11_hasCursor_30 (p_X11_hasCursor_5  n) v0 v1 v2 v4 h
        else
          p_X11_hasCursor_35 (p_X11_hasCursor_5  n) v0 v1 v2 v4 (iI 0) h
      else
        p_X11_hasCursor_30 (p_X11_hasCursor_5  n) v0 v1 v2 v4 h
set_option maxHeartbeats 4000000 in
set_option maxRecDepth 100000 in
theorem s_X11_hasCursor_5 {p : Program} {l : Launch} {e : Env} {s : State} {m : MethodId} {args : Array Value} {below : List Frame} {meth : Method} {c : Code} {G : GG} {hs : AH} {r : Int32} {h' : AH} (C : Cx G hs p s m args meth c cX11_hasCursor 5 RX11 (.code yX11_hasCursor cX11_hasCursor 5 (some .boolean) :: MW) (some .boolean) "hasCursor")   : ∀ (n : Nat) (v0 : Nat) (v1 : Int32) (v2 : Int32) (v3 : Int32) (v4 : Int32) (h : AH) (H : Heap) (locs : List Loc) (cells slots : Nat) (ls : Array Slot) (hR : Rp G h H) (hL : ∀ q ∈ locs, gB G ≤ q.base) (hl : zl ls 5 [(0, zr v0), (1, .int v1), (2, .int v2), (3, .int v3), (4, .int v4)]) (hp : p_X11_hasCursor_5  n v0 v1 v2 v3 v4 h = some (r, h')), W p l e (gR G hs 1 40) s m args below meth c H locs cells slots (MQ below (Qcc G (some (.int r)) h') args s (gC G - aZ hs) (gS - aU hs) (fun q => gB G ≤ q)) (F0 m 5 ls []) := by
  obtain ⟨hx, hb, hml, hown, hts, hT, hK, rs, hlk, hret, hnm⟩ := id C
  have hm : ∀ w ∈ MW, w.before args s = true := fun w hw => hts w (hT w hw)
  intro n
  induction n with
  | zero =>
    intro v0 v1 v2 v3 v4 h H locs cells slots ls hR hL hl hp
    exact absurd (show none = some (r, h') from hp) (by simp)
  | succ n ih =>
    intro v0 v1 v2 v3 v4 h H locs cells slots ls hR hL hl hp
    rw [p_X11_hasCursor_5.eq_2] at hp
    refine lv_iload hx hb dX11_hasCursor_5 (zl_at hl 4 rfl) ?_
    refine lv_iconst (v := iI 5) hx hb dX11_hasCursor_7 rfl ?_
    refine lv_icmp_ge (tgt := 42) hx hb dX11_hasCursor_8 (by decide) (fun c1 => ?_) (fun c1 => ?_)
    · replace hp := ite_p hp c1
      refine lv_iload_n hx hb dX11_hasCursor_42 rfl (zl_at hl 3 rfl) ?_
      obtain ⟨k2, hp⟩ := ck_i hp
      cases hp
      exact r_zret C hR hL (okZ_n k2) dX11_hasCursor_43
    · replace hp := ite_n hp c1
      refine lv_iload_n hx hb dX11_hasCursor_11 rfl (zl_at hl 3 rfl) ?_
      refine lv_if_ne (tgt := 30) hx hb dX11_hasCursor_12 (by decide) (fun c3 => ?_) (fun c3 => ?_)
      · replace hp := ite_n hp c3
        exact s_X11_hasCursor_30 C (fun hR hL hl hp => ih _ _ _ _ _ _ _ _ _ _ _ hR hL hl hp) hR hL (zl_sub hl [0, 1, 2, 4] rfl) hp
      · replace hp := ite_p hp c3
        refine z_aload_n hx hb dX11_hasCursor_15 rfl (zl_at hl 0 rfl) ?_
        obtain ⟨k4, hp⟩ := ck_i hp
        refine r_get (ci := 12) (C := RX11) (T := TX11) (N := 32) (v := zr (aR h v0 5)) hx hb hm ii_X11 hown hK hR rfl k4 5 (by decide) (hm _ mw_987) (fun _ h9 => h9) rfl dX11_hasCursor_16 ?_
        refine lv_iconst (v := iI 5) hx hb dX11_hasCursor_19 rfl ?_
        refine lv_iload_n hx hb dX11_hasCursor_20 rfl (zl_at hl 1 rfl) ?_
        refine lv_imul hx hb dX11_hasCursor_21 ?_
        refine lv_iload hx hb dX11_hasCursor_22 (zl_at hl 4 rfl) ?_
        refine lv_iadd hx hb dX11_hasCursor_24 ?_
        obtain ⟨k5, hp⟩ := ck_i hp
        refine r_iald hx hb hK hR k5.1 k5.2 dX11_hasCursor_25 ?_
        refine lv_iload_n hx hb dX11_hasCursor_26 rfl (zl_at hl 2 rfl) ?_
        refine lv_icmp_ne (tgt := 34) hx hb dX11_hasCursor_27 (by decide) (fun c7 => ?_) (fun c7 => ?_)
        · replace hp := ite_n hp c7
          refine lv_iconst (v := iI 0) hx hb dX11_hasCursor_34 rfl ?_
          exact s_X11_hasCursor_35 C (fun hR hL hl hp => ih _ _ _ _ _ _ _ _ _ _ _ hR hL hl hp) hR hL (zl_sub hl [0, 1, 2, 4] rfl) hp
        · replace hp := ite_p hp c7
          exact s_X11_hasCursor_30 C (fun hR hL hl hp => ih _ _ _ _ _ _ _ _ _ _ _ hR hL hl hp) hR hL (zl_sub hl [0, 1, 2, 4] rfl) hp
def p_X11_hasCursor_0  (v0 : Nat) (v1 : Int32) (v2 : Int32) (h : AH) : Option (Int32 × AH) :=
  nm ((iI 0)) fun (x1 : Int32) =>
  nm ((iI 0)) fun (x2 : Int32) =>
  p_X11_hasCursor_5  FU v0 v1 v2 x1 x2 h
set_option maxHeartbeats 4000000 in
set_option maxRecDepth 100000 in
theorem s_X11_hasCursor_0 {p : Program} {l : Launch} {e : Env} {s : State} {m : MethodId} {args : Array Value} {below : List Frame} {meth : Method} {c : Code} {G : GG} {hs : AH} {r : Int32} {h' : AH} (C : Cx G hs p s m args meth c cX11_hasCursor 5 RX11 (.code yX11_hasCursor cX11_hasCursor 5 (some .boolean) :: MW) (some .boolean) "hasCursor")   {v0 : Nat} {v1 : Int32} {v2 : Int32} {h : AH} {H : Heap} {locs : List Loc} {cells slots : Nat} {ls : Array Slot} (hR : Rp G h H) (hL : ∀ q ∈ locs, gB G ≤ q.base) (hl : zl ls 5 [(0, zr v0), (1, .int v1), (2, .int v2)]) (hp : p_X11_hasCursor_0  v0 v1 v2 h = some (r, h')) : W p l e (gR G hs 1 40) s m args below meth c H locs cells slots (MQ below (Qcc G (some (.int r)) h') args s (gC G - aZ hs) (gS - aU hs) (fun q => gB G ≤ q)) (F0 m 0 ls []) := by
  obtain ⟨hx, hb, hml, hown, hts, hT, hK, rs, hlk, hret, hnm⟩ := id C
  have hm : ∀ w ∈ MW, w.before args s = true := fun w hw => hts w (hT w hw)
  unfold p_X11_hasCursor_0 at hp
  refine lv_iconst (v := iI 0) hx hb dX11_hasCursor_0 rfl ?_
  refine lv_topi (fun x1 ex1 => ?_)
  replace hp := nm_i hp ex1
  refine z_istore_n (lv' := [(3, .int x1), (0, zr v0), (1, .int v1), (2, .int v2)]) hx hb dX11_hasCursor_1 rfl hl (by decide) rfl (fun ls hl => ?_)
  refine lv_iconst (v := iI 0) hx hb dX11_hasCursor_2 rfl ?_
  refine lv_topi (fun x2 ex2 => ?_)
  replace hp := nm_i hp ex2
  refine z_istore (lv' := [(4, .int x2), (3, .int x1), (0, zr v0), (1, .int v1), (2, .int v2)]) hx hb dX11_hasCursor_3 hl (by decide) rfl (fun ls hl => ?_)
  exact s_X11_hasCursor_5 C  _ _ _ _ _ _ _ _ _ _ _ _ hR hL (zl_sub hl [2, 3, 4, 1, 0] rfl) hp
def p_X11_hasCursor (v0 : Nat) (v1 : Int32) (v2 : Int32) (h : AH) : Option (Int32 × AH) := ck (v0 ≠ 0) <| p_X11_hasCursor_0 v0 v1 v2 h
theorem c_X11_hasCursor (l : Launch) (G : GG) (v0 : Nat) (v1 : Int32) (v2 : Int32) (h : AH) (r : Int32) (h' : AH) (hp : p_X11_hasCursor v0 v1 v2 h = some (r, h')) : Ct l yX11_hasCursor (.code yX11_hasCursor cX11_hasCursor 5 (some .boolean) :: MW) G 1 40 [.ref (v0 - 1), .int v1, .int v2] h (some (.int r)) h' := by
  obtain ⟨hz0, hp⟩ := ck_i hp
  refine Ct.of (by decide +kernel) (Nat.le_of_ble_eq_true rfl) ?_
  intro p e s m args below meth c C hR ls hl
  have hl : zl ls 5 [(0, zr v0), (1, .int v1), (2, .int v2)] := ⟨by rw [zr_p hz0]; exact hl, by simp [zr_cat, in_cat]⟩
  exact s_X11_hasCursor_0 C hR (fun _ hq => nomatch hq) hl hp
/-! CursorKeepModel.isSpared(II)Z -/
def p_X11_isSpared_149  (s0 : Int32) (h : AH) : Option (Int32 × AH) :=
  ck (okZ s0) <|
  some (s0, h)
set_option maxHeartbeats 4000000 in
set_option maxRecDepth 100000 in
theorem s_X11_isSpared_149 {p : Program} {l : Launch} {e : Env} {s : State} {m : MethodId} {args : Array Value} {below : List Frame} {meth : Method} {c : Code} {G : GG} {hs : AH} {r : Int32} {h' : AH} (C : Cx G hs p s m args meth c cX11_isSpared 8 RX11 (.code yX11_isSpared cX11_isSpared 8 (some .boolean) :: MW) (some .boolean) "isSpared")   {s0 : Int32} {h : AH} {H : Heap} {locs : List Loc} {cells slots : Nat} {ls : Array Slot} (hR : Rp G h H) (hL : ∀ q ∈ locs, gB G ≤ q.base) (hl : zl ls 8 []) (hp : p_X11_isSpared_149  s0 h = some (r, h')) : W p l e (gR G hs 3 88) s m args below meth c H locs cells slots (MQ below (Qcc G (some (.int r)) h') args s (gC G - aZ hs) (gS - aU hs) (fun q => gB G ≤ q)) (F0 m 149 ls [.int s0]) := by
  obtain ⟨hx, hb, hml, hown, hts, hT, hK, rs, hlk, hret, hnm⟩ := id C
  have hm : ∀ w ∈ MW, w.before args s = true := fun w hw => hts w (hT w hw)
  unfold p_X11_isSpared_149 at hp
  obtain ⟨k1, hp⟩ := ck_i hp
  cases hp
  exact r_zret C hR hL (okZ_n k1) dX11_isSpared_149
def p_X11_isSpared_144   (h : AH) : Option (Int32 × AH) :=
  p_X11_isSpared_149  (iI 1) h
set_option maxHeartbeats 4000000 in
set_option maxRecDepth 100000 in
theorem s_X11_isSpared_144 {p : Program} {l : Launch} {e : Env} {s : State} {m : MethodId} {args : Array Value} {below : List Frame} {meth : Method} {c : Code} {G : GG} {hs : AH} {r : Int32} {h' : AH} (C : Cx G hs p s m args meth c cX11_isSpared 8 RX11 (.code yX11_isSpared cX11_isSpared 8 (some .boolean) :: MW) (some .boolean) "isSpared")    {h : AH} {H : Heap} {locs : List Loc} {cells slots : Nat} {ls : Array Slot} (hR : Rp G h H) (hL : ∀ q ∈ locs, gB G ≤ q.base) (hl : zl ls 8 []) (hp : p_X11_isSpared_144   h = some (r, h')) : W p l e (gR G hs 3 88) s m args below meth c H locs cells slots (MQ below (Qcc G (some (.int r)) h') args s (gC G - aZ hs) (gS - aU hs) (fun q => gB G ≤ q)) (F0 m 144 ls []) := by
  obtain ⟨hx, hb, hml, hown, hts, hT, hK, rs, hlk, hret, hnm⟩ := id C
  have hm : ∀ w ∈ MW, w.before args s = true := fun w hw => hts w (hT w hw)
  unfold p_X11_isSpared_144 at hp
  refine lv_iconst (v := iI 1) hx hb dX11_isSpared_144 rfl ?_
  refine lv_goto (tgt := 149) hx hb dX11_isSpared_145 (by decide) ?_
  exact s_X11_isSpared_149 C  hR hL (zl_sub hl [] rfl) hp
def p_X11_isSpared_96  (v0 : Nat) (v3 : Int32) (v4 : Int32) (v5 : Int32) (v6 : Int32) (s0 : Int32) (h : AH) : Option (Int32 × AH) :=
  if v6 = 0 then
    if s0 = 0 then
      ck (aK h v0 = 13) <|
      bR (p_X11_nearest v0 v3 v5 (iI (-1)) h) fun r4 h5 =>
      ck (aK h5 v0 = 13) <|
      ck (aK h5 (aR h5 v0 16) = 20 ∧ ix v4 (aN h5 (aR h5 v0 16))) <|
      if r4 = (aI h5 (aR h5 v0 16) v4.toNatClampNeg) then
        ck (aK h5 v0 = 13) <|
        bR (p_X11_nearest v0 v3 v5 (iI 1) h5) fun r11 h12 =>
        ck (aK h12 v0 = 13) <|
        ck (aK h12 (aR h12 v0 17) = 20 ∧ ix v4 (aN h12 (aR h12 v0 17))) <|
        if r11 = (aI h12 (aR h12 v0 17) v4.toNatClampNeg) then
          p_X11_isSpared_149  (iI 0) h12
        else
          p_X11_isSpared_144   h12
      else
        p_X11_isSpared_144   h5
    else
      p_X11_isSpared_144   h
  else
    p_X11_isSpared_144   h
set_option maxHeartbeats 4000000 in
set_option maxRecDepth 100000 in
theorem s_X11_isSpared_96 {p : Program} {l : Launch} {e : Env} {s : State} {m : MethodId} {args : Array Value} {below : List Frame} {meth : Method} {c : Code} {G : GG} {hs : AH} {r : Int32} {h' : AH} (C : Cx G hs p s m args meth c cX11_isSpared 8 RX11 (.code yX11_isSpared cX11_isSpared 8 (some .boolean) :: MW) (some .boolean) "isSpared")   {v0 : Nat} {v3 : Int32} {v4 : Int32} {v5 : Int32} {v6 : Int32} {s0 : Int32} {h : AH} {H : Heap} {locs : List Loc} {cells slots : Nat} {ls : Array Slot} (hR : Rp G h H) (hL : ∀ q ∈ locs, gB G ≤ q.base) (hl : zl ls 8 [(0, zr v0), (3, .int v3), (4, .int v4), (5, .int v5), (6, .int v6)]) (hp : p_X11_isSpared_96  v0 v3 v4 v5 v6 s0 h = some (r, h')) : W p l e (gR G hs 3 88) s m args below meth c H locs cells slots (MQ below (Qcc G (some (.int r)) h') args s (gC G - aZ hs) (gS - aU hs) (fun q => gB G ≤ q)) (F0 m 96 ls [.int s0]) := by
  obtain ⟨hx, hb, hml, hown, hts, hT, hK, rs, hlk, hret, hnm⟩ := id C
  have hm : ∀ w ∈ MW, w.before args s = true := fun w hw => hts w (hT w hw)
  unfold p_X11_isSpared_96 at hp
  refine z_istore (lv' := [(7, .int s0), (0, zr v0), (3, .int v3), (4, .int v4), (5, .int v5), (6, .int v6)]) hx hb dX11_isSpared_96 hl (by decide) rfl (fun ls hl => ?_)
  refine lv_iload hx hb dX11_isSpared_98 (zl_at hl 5 rfl) ?_
  refine lv_if_ne (tgt := 144) hx hb dX11_isSpared_100 (by decide) (fun c1 => ?_) (fun c1 => ?_)
  · replace hp := ite_n hp c1
    exact s_X11_isSpared_144 C  hR hL (zl_sub hl [] rfl) hp
  · replace hp := ite_p hp c1
    refine lv_iload hx hb dX11_isSpared_103 (zl_at hl 0 rfl) ?_
    refine lv_if_ne (tgt := 144) hx hb dX11_isSpared_105 (by decide) (fun c2 => ?_) (fun c2 => ?_)
    · replace hp := ite_n hp c2
      exact s_X11_isSpared_144 C  hR hL (zl_sub hl [] rfl) hp
    · replace hp := ite_p hp c2
      refine z_aload_n hx hb dX11_isSpared_108 rfl (zl_at hl 1 rfl) ?_
      refine lv_iload_n hx hb dX11_isSpared_109 rfl (zl_at hl 2 rfl) ?_
      refine lv_iload hx hb dX11_isSpared_110 (zl_at hl 4 rfl) ?_
      refine lv_iconst (v := iI (-1)) hx hb dX11_isSpared_112 rfl ?_
      obtain ⟨k3, hp⟩ := ck_i hp
      obtain ⟨r4, h5, er4, hp⟩ := bR_i hp
      refine r_callV (ci := 12) (r := (RX11, TX11, 32)) (n := 3) (As := [.int v3, .int v5, .int (iI (-1))]) (rest := []) C (c_X11_nearest l G v0 v3 v5 (iI (-1)) h r4 h5 er4) hR hL rfl k3 mw_1192 mw_1194 mp_32 mw_10 mw_1195 (by decide +kernel) (by decide) rfl (zl_size hl) rfl (by simp [zr_cat, in_cat]) dX11_isSpared_113 (st2 := [.int r4]) rfl (fun H locs cells slots hR hL => ?_)
      refine z_aload_n hx hb dX11_isSpared_116 rfl (zl_at hl 1 rfl) ?_
      obtain ⟨k6, hp⟩ := ck_i hp
      refine r_get (ci := 12) (C := RX11) (T := TX11) (N := 32) (v := zr (aR h5 v0 16)) hx hb hm ii_X11 hown hK hR rfl k6 16 (by decide) (hm _ mw_998) (fun _ h9 => h9) rfl dX11_isSpared_117 ?_
      refine lv_iload hx hb dX11_isSpared_120 (zl_at hl 3 rfl) ?_
      obtain ⟨k7, hp⟩ := ck_i hp
      refine r_iald hx hb hK hR k7.1 k7.2 dX11_isSpared_122 ?_
      refine lv_icmp_ne (tgt := 144) hx hb dX11_isSpared_123 (by decide) (fun c9 => ?_) (fun c9 => ?_)
      · replace hp := ite_n hp c9
        exact s_X11_isSpared_144 C  hR hL (zl_sub hl [] rfl) hp
      · replace hp := ite_p hp c9
        refine z_aload_n hx hb dX11_isSpared_126 rfl (zl_at hl 1 rfl) ?_
        refine lv_iload_n hx hb dX11_isSpared_127 rfl (zl_at hl 2 rfl) ?_
        refine lv_iload hx hb dX11_isSpared_128 (zl_at hl 4 rfl) ?_
        refine lv_iconst (v := iI 1) hx hb dX11_isSpared_130 rfl ?_
        obtain ⟨k10, hp⟩ := ck_i hp
        obtain ⟨r11, h12, er11, hp⟩ := bR_i hp
        refine r_callV (ci := 12) (r := (RX11, TX11, 32)) (n := 3) (As := [.int v3, .int v5, .int (iI 1)]) (rest := []) C (c_X11_nearest l G v0 v3 v5 (iI 1) h5 r11 h12 er11) hR hL rfl k10 mw_1192 mw_1194 mp_32 mw_10 mw_1195 (by decide +kernel) (by decide) rfl (zl_size hl) rfl (by simp [zr_cat, in_cat]) dX11_isSpared_131 (st2 := [.int r11]) rfl (fun H locs cells slots hR hL => ?_)
        refine z_aload_n hx hb dX11_isSpared_134 rfl (zl_at hl 1 rfl) ?_
        obtain ⟨k13, hp⟩ := ck_i hp
        refine r_get (ci := 12) (C := RX11) (T := TX11) (N := 32) (v := zr (aR h12 v0 17)) hx hb hm ii_X11 hown hK hR rfl k13 17 (by decide) (hm _ mw_999) (fun _ h9 => h9) rfl dX11_isSpared_135 ?_
        refine lv_iload hx hb dX11_isSpared_138 (zl_at hl 3 rfl) ?_
        obtain ⟨k14, hp⟩ := ck_i hp
        refine r_iald hx hb hK hR k14.1 k14.2 dX11_isSpared_140 ?_
        refine lv_icmp_eq (tgt := 148) hx hb dX11_isSpared_141 (by decide) (fun c16 => ?_) (fun c16 => ?_)
        · replace hp := ite_p hp c16
          refine lv_iconst (v := iI 0) hx hb dX11_isSpared_148 rfl ?_
          exact s_X11_isSpared_149 C  hR hL (zl_sub hl [] rfl) hp
        · replace hp := ite_n hp c16
          exact s_X11_isSpared_144 C  hR hL (zl_sub hl [] rfl) hp
def p_X11_isSpared_95  (v0 : Nat) (v3 : Int32) (v4 : Int32) (v5 : Int32) (v6 : Int32) (h : AH) : Option (Int32 × AH) :=
  p_X11_isSpared_96  v0 v3 v4 v5 v6 (iI 0) h
set_option maxHeartbeats 4000000 in
set_option maxRecDepth 100000 in
theorem s_X11_isSpared_95 {p : Program} {l : Launch} {e : Env} {s : State} {m : MethodId} {args : Array Value} {below : List Frame} {meth : Method} {c : Code} {G : GG} {hs : AH} {r : Int32} {h' : AH} (C : Cx G hs p s m args meth c cX11_isSpared 8 RX11 (.code yX11_isSpared cX11_isSpared 8 (some .boolean) :: MW) (some .boolean) "isSpared")   {v0 : Nat} {v3 : Int32} {v4 : Int32} {v5 : Int32} {v6 : Int32} {h : AH} {H : Heap} {locs : List Loc} {cells slots : Nat} {ls : Array Slot} (hR : Rp G h H) (hL : ∀ q ∈ locs, gB G ≤ q.base) (hl : zl ls 8 [(0, zr v0), (3, .int v3), (4, .int v4), (5, .int v5), (6, .int v6)]) (hp : p_X11_isSpared_95  v0 v3 v4 v5 v6 h = some (r, h')) : W p l e (gR G hs 3 88) s m args below meth c H locs cells slots (MQ below (Qcc G (some (.int r)) h') args s (gC G - aZ hs) (gS - aU hs) (fun q => gB G ≤ q)) (F0 m 95 ls []) := by
  obtain ⟨hx, hb, hml, hown, hts, hT, hK, rs, hlk, hret, hnm⟩ := id C
  have hm : ∀ w ∈ MW, w.before args s = true := fun w hw => hts w (hT w hw)
  unfold p_X11_isSpared_95 at hp
  refine lv_iconst (v := iI 0) hx hb dX11_isSpared_95 rfl ?_
  exact s_X11_isSpared_96 C  hR hL (zl_sub hl [0, 1, 2, 3, 4] rfl) hp
def p_X11_isSpared_69  (v0 : Nat) (v3 : Int32) (v4 : Int32) (v5 : Int32) (s0 : Int32) (h : AH) : Option (Int32 × AH) :=
  ck (aK h v0 = 13) <|
  ck (aK h (aR h v0 15) = 20 ∧ ix v4 (aN h (aR h v0 15))) <|
  if (aI h (aR h v0 15) v4.toNatClampNeg) = 0 then
    ck (aK h v0 = 13) <|
    bR (p_X11_hasCursor v0 v3 v5 h) fun r6 h7 =>
    if r6 = 0 then
      p_X11_isSpared_95  v0 v3 v4 v5 s0 h7
    else
      p_X11_isSpared_96  v0 v3 v4 v5 s0 (iI 1) h7
  else
    p_X11_isSpared_95  v0 v3 v4 v5 s0 h
set_option maxHeartbeats 4000000 in
set_option maxRecDepth 100000 in
theorem s_X11_isSpared_69 {p : Program} {l : Launch} {e : Env} {s : State} {m : MethodId} {args : Array Value} {below : List Frame} {meth : Method} {c : Code} {G : GG} {hs : AH} {r : Int32} {h' : AH} (C : Cx G hs p s m args meth c cX11_isSpared 8 RX11 (.code yX11_isSpared cX11_isSpared 8 (some .boolean) :: MW) (some .boolean) "isSpared")   {v0 : Nat} {v3 : Int32} {v4 : Int32} {v5 : Int32} {s0 : Int32} {h : AH} {H : Heap} {locs : List Loc} {cells slots : Nat} {ls : Array Slot} (hR : Rp G h H) (hL : ∀ q ∈ locs, gB G ≤ q.base) (hl : zl ls 8 [(0, zr v0), (3, .int v3), (4, .int v4), (5, .int v5)]) (hp : p_X11_isSpared_69  v0 v3 v4 v5 s0 h = some (r, h')) : W p l e (gR G hs 3 88) s m args below meth c H locs cells slots (MQ below (Qcc G (some (.int r)) h') args s (gC G - aZ hs) (gS - aU hs) (fun q => gB G ≤ q)) (F0 m 69 ls [.int s0]) := by
  obtain ⟨hx, hb, hml, hown, hts, hT, hK, rs, hlk, hret, hnm⟩ := id C
  have hm : ∀ w ∈ MW, w.before args s = true := fun w hw => hts w (hT w hw)
  unfold p_X11_isSpared_69 at hp
  refine z_istore (lv' := [(6, .int s0), (0, zr v0), (3, .int v3), (4, .int v4), (5, .int v5)]) hx hb dX11_isSpared_69 hl (by decide) rfl (fun ls hl => ?_)
  refine z_aload_n hx hb dX11_isSpared_71 rfl (zl_at hl 1 rfl) ?_
  obtain ⟨k1, hp⟩ := ck_i hp
  refine r_get (ci := 12) (C := RX11) (T := TX11) (N := 32) (v := zr (aR h v0 15)) hx hb hm ii_X11 hown hK hR rfl k1 15 (by decide) (hm _ mw_997) (fun _ h9 => h9) rfl dX11_isSpared_72 ?_
  refine lv_iload hx hb dX11_isSpared_75 (zl_at hl 3 rfl) ?_
  obtain ⟨k2, hp⟩ := ck_i hp
  refine r_iald hx hb hK hR k2.1 k2.2 dX11_isSpared_77 ?_
  refine lv_if_ne (tgt := 95) hx hb dX11_isSpared_78 (by decide) (fun c4 => ?_) (fun c4 => ?_)
  · replace hp := ite_n hp c4
    exact s_X11_isSpared_95 C  hR hL (zl_sub hl [1, 2, 3, 4, 0] rfl) hp
  · replace hp := ite_p hp c4
    refine z_aload_n hx hb dX11_isSpared_81 rfl (zl_at hl 1 rfl) ?_
    refine lv_iload_n hx hb dX11_isSpared_82 rfl (zl_at hl 2 rfl) ?_
    refine lv_iload hx hb dX11_isSpared_83 (zl_at hl 4 rfl) ?_
    obtain ⟨k5, hp⟩ := ck_i hp
    obtain ⟨r6, h7, er6, hp⟩ := bR_i hp
    refine r_callV (ci := 12) (r := (RX11, TX11, 32)) (n := 2) (As := [.int v3, .int v5]) (rest := []) C (c_X11_hasCursor l G v0 v3 v5 h r6 h7 er6) hR hL rfl k5 mw_1212 mw_1214 mp_36 mw_10 mw_1215 (by decide +kernel) (by decide) rfl (zl_size hl) rfl (by simp [zr_cat, in_cat]) dX11_isSpared_85 (st2 := [.int r6]) rfl (fun H locs cells slots hR hL => ?_)
    refine lv_if_eq (tgt := 95) hx hb dX11_isSpared_88 (by decide) (fun c8 => ?_) (fun c8 => ?_)
    · replace hp := ite_p hp c8
      exact s_X11_isSpared_95 C  hR hL (zl_sub hl [1, 2, 3, 4, 0] rfl) hp
    · replace hp := ite_n hp c8
      refine lv_iconst (v := iI 1) hx hb dX11_isSpared_91 rfl ?_
      refine lv_goto (tgt := 96) hx hb dX11_isSpared_92 (by decide) ?_
      exact s_X11_isSpared_96 C  hR hL (zl_sub hl [1, 2, 3, 4, 0] rfl) hp
def p_X11_isSpared_64  (v0 : Nat) (v3 : Int32) (v4 : Int32) (v5 : Int32) (h : AH) : Option (Int32 × AH) :=
  p_X11_isSpared_69  v0 v3 v4 v5 (iI 1) h
set_option maxHeartbeats 4000000 in
set_option maxRecDepth 100000 in
theorem s_X11_isSpared_64 {p : Program} {l : Launch} {e : Env} {s : State} {m : MethodId} {args : Array Value} {below : List Frame} {meth : Method} {c : Code} {G : GG} {hs : AH} {r : Int32} {h' : AH} (C : Cx G hs p s m args meth c cX11_isSpared 8 RX11 (.code yX11_isSpared cX11_isSpared 8 (some .boolean) :: MW) (some .boolean) "isSpared")   {v0 : Nat} {v3 : Int32} {v4 : Int32} {v5 : Int32} {h : AH} {H : Heap} {locs : List Loc} {cells slots : Nat} {ls : Array Slot} (hR : Rp G h H) (hL : ∀ q ∈ locs, gB G ≤ q.base) (hl : zl ls 8 [(0, zr v0), (3, .int v3), (4, .int v4), (5, .int v5)]) (hp : p_X11_isSpared_64  v0 v3 v4 v5 h = some (r, h')) : W p l e (gR G hs 3 88) s m args below meth c H locs cells slots (MQ below (Qcc G (some (.int r)) h') args s (gC G - aZ hs) (gS - aU hs) (fun q => gB G ≤ q)) (F0 m 64 ls []) := by
  obtain ⟨hx, hb, hml, hown, hts, hT, hK, rs, hlk, hret, hnm⟩ := id C
  have hm : ∀ w ∈ MW, w.before args s = true := fun w hw => hts w (hT w hw)
  unfold p_X11_isSpared_64 at hp
  refine lv_iconst (v := iI 1) hx hb dX11_isSpared_64 rfl ?_
  refine lv_goto (tgt := 69) hx hb dX11_isSpared_65 (by decide) ?_
  exact s_X11_isSpared_69 C  hR hL (zl_sub hl [0, 1, 2, 3] rfl) hp
def p_X11_isSpared_0  (v0 : Nat) (v1 : Int32) (v2 : Int32) (h : AH) : Option (Int32 × AH) :=
  ck (aK h v0 = 13) <|
  ck (aK h (aR h v0 9) = 20 ∧ ix v1 (aN h (aR h v0 9))) <|
  nm ((aI h (aR h v0 9) v1.toNatClampNeg)) fun (x4 : Int32) =>
  nm ((((iI 150) * v1) + v2)) fun (x5 : Int32) =>
  ck (aK h v0 = 13) <|
  ck (aK h (aR h v0 13) = 20 ∧ ix x5 (aN h (aR h v0 13))) <|
  nm ((aI h (aR h v0 13) x5.toNatClampNeg)) fun (x9 : Int32) =>
  ck (aK h v0 = 13) <|
  ck (aK h (aR h v0 2) = 22 ∧ ix (((iI 150) * x4) + x9) (aN h (aR h v0 2))) <|
  if (aI h (aR h v0 2) (((iI 150) * x4) + x9).toNatClampNeg) = 0 then
    p_X11_isSpared_64  v0 x4 x5 x9 h
  else
    ck (aK h v0 = 13) <|
    ck (aK h (aR h v0 1) = 20 ∧ ix (((iI 150) * x4) + x9) (aN h (aR h v0 1))) <|
    ck (aK h v0 = 13) <|
    ck (aK h (aR h v0 14) = 20 ∧ ix x5 (aN h (aR h v0 14))) <|
    if (aI h (aR h v0 1) (((iI 150) * x4) + x9).toNatClampNeg) = (aI h (aR h v0 14) x5.toNatClampNeg) then
      p_X11_isSpared_69  v0 x4 x5 x9 (iI 0) h
    else
      p_X11_isSpared_64  v0 x4 x5 x9 h
set_option maxHeartbeats 4000000 in
set_option maxRecDepth 100000 in
theorem s_X11_isSpared_0 {p : Program} {l : Launch} {e : Env} {s : State} {m : MethodId} {args : Array Value} {below : List Frame} {meth : Method} {c : Code} {G : GG} {hs : AH} {r : Int32} {h' : AH} (C : Cx G hs p s m args meth c cX11_isSpared 8 RX11 (.code yX11_isSpared cX11_isSpared 8 (some .boolean) :: MW) (some .boolean) "isSpared")   {v0 : Nat} {v1 : Int32} {v2 : Int32} {h : AH} {H : Heap} {locs : List Loc} {cells slots : Nat} {ls : Array Slot} (hR : Rp G h H) (hL : ∀ q ∈ locs, gB G ≤ q.base) (hl : zl ls 8 [(0, zr v0), (1, .int v1), (2, .int v2)]) (hp : p_X11_isSpared_0  v0 v1 v2 h = some (r, h')) : W p l e (gR G hs 3 88) s m args below meth c H locs cells slots (MQ below (Qcc G (some (.int r)) h') args s (gC G - aZ hs) (gS - aU hs) (fun q => gB G ≤ q)) (F0 m 0 ls []) := by
  obtain ⟨hx, hb, hml, hown, hts, hT, hK, rs, hlk, hret, hnm⟩ := id C
  have hm : ∀ w ∈ MW, w.before args s = true := fun w hw => hts w (hT w hw)
  unfold p_X11_isSpared_0 at hp
  refine z_aload_n hx hb dX11_isSpared_0 rfl (zl_at hl 0 rfl) ?_
  obtain ⟨k1, hp⟩ := ck_i hp
  refine r_get (ci := 12) (C := RX11) (T := TX11) (N := 32) (v := zr (aR h v0 9)) hx hb hm ii_X11 hown hK hR rfl k1 9 (by decide) (hm _ mw_991) (fun _ h9 => h9) rfl dX11_isSpared_1 ?_
  refine lv_iload_n hx hb dX11_isSpared_4 rfl (zl_at hl 1 rfl) ?_
  obtain ⟨k2, hp⟩ := ck_i hp
  refine r_iald hx hb hK hR k2.1 k2.2 dX11_isSpared_5 ?_
  refine lv_topi (fun x4 ex4 => ?_)
  replace hp := nm_i hp ex4
  refine z_istore_n (lv' := [(3, .int x4), (0, zr v0), (1, .int v1), (2, .int v2)]) hx hb dX11_isSpared_6 rfl hl (by decide) rfl (fun ls hl => ?_)
  refine lv_sipush (v := iI 150) hx hb dX11_isSpared_7 (by decide +kernel) ?_
  refine lv_iload_n hx hb dX11_isSpared_10 rfl (zl_at hl 2 rfl) ?_
  refine lv_imul hx hb dX11_isSpared_11 ?_
  refine lv_iload_n hx hb dX11_isSpared_12 rfl (zl_at hl 3 rfl) ?_
  refine lv_iadd hx hb dX11_isSpared_13 ?_
  refine lv_topi (fun x5 ex5 => ?_)
  replace hp := nm_i hp ex5
  refine z_istore (lv' := [(4, .int x5), (3, .int x4), (0, zr v0), (1, .int v1), (2, .int v2)]) hx hb dX11_isSpared_14 hl (by decide) rfl (fun ls hl => ?_)
  refine z_aload_n hx hb dX11_isSpared_16 rfl (zl_at hl 2 rfl) ?_
  obtain ⟨k6, hp⟩ := ck_i hp
  refine r_get (ci := 12) (C := RX11) (T := TX11) (N := 32) (v := zr (aR h v0 13)) hx hb hm ii_X11 hown hK hR rfl k6 13 (by decide) (hm _ mw_995) (fun _ h9 => h9) rfl dX11_isSpared_17 ?_
  refine lv_iload hx hb dX11_isSpared_20 (zl_at hl 0 rfl) ?_
  obtain ⟨k7, hp⟩ := ck_i hp
  refine r_iald hx hb hK hR k7.1 k7.2 dX11_isSpared_22 ?_
  refine lv_topi (fun x9 ex9 => ?_)
  replace hp := nm_i hp ex9
  refine z_istore (lv' := [(5, .int x9), (4, .int x5), (3, .int x4), (0, zr v0), (1, .int v1), (2, .int v2)]) hx hb dX11_isSpared_23 hl (by decide) rfl (fun ls hl => ?_)
  refine z_aload_n hx hb dX11_isSpared_25 rfl (zl_at hl 3 rfl) ?_
  obtain ⟨k10, hp⟩ := ck_i hp
  refine r_get (ci := 12) (C := RX11) (T := TX11) (N := 32) (v := zr (aR h v0 2)) hx hb hm ii_X11 hown hK hR rfl k10 2 (by decide) (hm _ mw_984) (fun _ h9 => h9) rfl dX11_isSpared_26 ?_
  refine lv_sipush (v := iI 150) hx hb dX11_isSpared_29 (by decide +kernel) ?_
  refine lv_iload_n hx hb dX11_isSpared_32 rfl (zl_at hl 2 rfl) ?_
  refine lv_imul hx hb dX11_isSpared_33 ?_
  refine lv_iload hx hb dX11_isSpared_34 (zl_at hl 0 rfl) ?_
  refine lv_iadd hx hb dX11_isSpared_36 ?_
  obtain ⟨k11, hp⟩ := ck_i hp
  refine r_zald hx hb hK hR k11.1 k11.2 dX11_isSpared_37 ?_
  refine lv_if_eq (tgt := 64) hx hb dX11_isSpared_38 (by decide) (fun c13 => ?_) (fun c13 => ?_)
  · replace hp := ite_p hp c13
    exact s_X11_isSpared_64 C  hR hL (zl_sub hl [3, 2, 1, 0] rfl) hp
  · replace hp := ite_n hp c13
    refine z_aload_n hx hb dX11_isSpared_41 rfl (zl_at hl 3 rfl) ?_
    obtain ⟨k14, hp⟩ := ck_i hp
    refine r_get (ci := 12) (C := RX11) (T := TX11) (N := 32) (v := zr (aR h v0 1)) hx hb hm ii_X11 hown hK hR rfl k14 1 (by decide) (hm _ mw_983) (fun _ h9 => h9) rfl dX11_isSpared_42 ?_
    refine lv_sipush (v := iI 150) hx hb dX11_isSpared_45 (by decide +kernel) ?_
    refine lv_iload_n hx hb dX11_isSpared_48 rfl (zl_at hl 2 rfl) ?_
    refine lv_imul hx hb dX11_isSpared_49 ?_
    refine lv_iload hx hb dX11_isSpared_50 (zl_at hl 0 rfl) ?_
    refine lv_iadd hx hb dX11_isSpared_52 ?_
    obtain ⟨k15, hp⟩ := ck_i hp
    refine r_iald hx hb hK hR k15.1 k15.2 dX11_isSpared_53 ?_
    refine z_aload_n hx hb dX11_isSpared_54 rfl (zl_at hl 3 rfl) ?_
    obtain ⟨k17, hp⟩ := ck_i hp
    refine r_get (ci := 12) (C := RX11) (T := TX11) (N := 32) (v := zr (aR h v0 14)) hx hb hm ii_X11 hown hK hR rfl k17 14 (by decide) (hm _ mw_996) (fun _ h9 => h9) rfl dX11_isSpared_55 ?_
    refine lv_iload hx hb dX11_isSpared_58 (zl_at hl 1 rfl) ?_
    obtain ⟨k18, hp⟩ := ck_i hp
    refine r_iald hx hb hK hR k18.1 k18.2 dX11_isSpared_60 ?_
    refine lv_icmp_eq (tgt := 68) hx hb dX11_isSpared_61 (by decide) (fun c20 => ?_) (fun c20 => ?_)
    · replace hp := ite_p hp c20
      refine lv_iconst (v := iI 0) hx hb dX11_isSpared_68 rfl ?_
      exact s_X11_isSpared_69 C  hR hL (zl_sub hl [3, 2, 1, 0] rfl) hp
    · replace hp := ite_n hp c20
      exact s_X11_isSpared_64 C  hR hL (zl_sub hl [3, 2, 1, 0] rfl) hp
def p_X11_isSpared (v0 : Nat) (v1 : Int32) (v2 : Int32) (h : AH) : Option (Int32 × AH) := ck (v0 ≠ 0) <| p_X11_isSpared_0 v0 v1 v2 h
theorem c_X11_isSpared (l : Launch) (G : GG) (v0 : Nat) (v1 : Int32) (v2 : Int32) (h : AH) (r : Int32) (h' : AH) (hp : p_X11_isSpared v0 v1 v2 h = some (r, h')) : Ct l yX11_isSpared (.code yX11_isSpared cX11_isSpared 8 (some .boolean) :: MW) G 3 88 [.ref (v0 - 1), .int v1, .int v2] h (some (.int r)) h' := by
  obtain ⟨hz0, hp⟩ := ck_i hp
  refine Ct.of (by decide +kernel) (Nat.le_of_ble_eq_true rfl) ?_
  intro p e s m args below meth c C hR ls hl
  have hl : zl ls 8 [(0, zr v0), (1, .int v1), (2, .int v2)] := ⟨by rw [zr_p hz0]; exact hl, by simp [zr_cat, in_cat]⟩
  exact s_X11_isSpared_0 C hR (fun _ hq => nomatch hq) hl hp
/-! CursorKeepModel.sparedNow(I)I -/
def p_X11_sparedNow_34 (k9 : Nat → Int32 → Int32 → Int32 → AH → Option (Int32 × AH)) (v0 : Nat) (v1 : Int32) (v3 : Int32) (s0 : Int32) (s1 : Int32) (h : AH) : Option (Int32 × AH) :=
  nm ((s0 + s1)) fun (x1 : Int32) =>
  nm (v3 + iI 1) fun (x2 : Int32) =>
  k9 v0 v1 x1 x2 h
set_option maxHeartbeats 4000000 in
set_option maxRecDepth 100000 in
theorem s_X11_sparedNow_34 {p : Program} {l : Launch} {e : Env} {s : State} {m : MethodId} {args : Array Value} {below : List Frame} {meth : Method} {c : Code} {G : GG} {hs : AH} {r : Int32} {h' : AH} (C : Cx G hs p s m args meth c cX11_sparedNow 4 RX11 (.code yX11_sparedNow cX11_sparedNow 4 (some .int) :: MW) (some .int) "sparedNow") {k9 : Nat → Int32 → Int32 → Int32 → AH → Option (Int32 × AH)} (hk9 : ∀ {v0 : Nat} {v1 : Int32} {v2 : Int32} {v3 : Int32} {h : AH} {H : Heap} {locs : List Loc} {cells slots : Nat} {ls : Array Slot}, Rp G h H → (∀ q ∈ locs, gB G ≤ q.base) → zl ls 4 [(0, zr v0), (1, .int v1), (2, .int v2), (3, .int v3)] → k9 v0 v1 v2 v3 h = some (r, h') → W p l e (gR G hs 4 115) s m args below meth c H locs cells slots (MQ below (Qcc G (some (.int r)) h') args s (gC G - aZ hs) (gS - aU hs) (fun q => gB G ≤ q)) (F0 m 9 ls [])) {v0 : Nat} {v1 : Int32} {v3 : Int32} {s0 : Int32} {s1 : Int32} {h : AH} {H : Heap} {locs : List Loc} {cells slots : Nat} {ls : Array Slot} (hR : Rp G h H) (hL : ∀ q ∈ locs, gB G ≤ q.base) (hl : zl ls 4 [(0, zr v0), (1, .int v1), (3, .int v3)]) (hp : p_X11_sparedNow_34 k9 v0 v1 v3 s0 s1 h = some (r, h')) : W p l e (gR G hs 4 115) s m args below meth c H locs cells slots (MQ below (Qcc G (some (.int r)) h') args s (gC G - aZ hs) (gS - aU hs) (fun q => gB G ≤ q)) (F0 m 34 ls [.int s1, .int s0]) := by
  obtain ⟨hx, hb, hml, hown, hts, hT, hK, rs, hlk, hret, hnm⟩ := id C
  have hm : ∀ w ∈ MW, w.before args s = true := fun w hw => hts w (hT w hw)
  unfold p_X11_sparedNow_34 at hp
  refine lv_iadd hx hb dX11_sparedNow_34 ?_
  refine lv_topi (fun x1 ex1 => ?_)
  replace hp := nm_i hp ex1
  refine z_istore_n (lv' := [(2, .int x1), (0, zr v0), (1, .int v1), (3, .int v3)]) hx hb dX11_sparedNow_35 rfl hl (by decide) rfl (fun ls hl => ?_)
  obtain ⟨x2, ex2⟩ : ∃ y : Int32, y = v3 + iI 1 := ⟨_, rfl⟩
  replace hp := nm_i hp ex2
  refine z_iinc (v := x2) (lv' := [(3, .int x2), (2, .int x1), (0, zr v0), (1, .int v1)]) hx hb dX11_sparedNow_36 hl (k := 3) rfl ex2 (by decide) rfl (fun ls hl => ?_)
  refine lv_goto (tgt := 9) hx hb dX11_sparedNow_39 (by decide) ?_
  exact hk9 hR hL (zl_sub hl [2, 3, 1, 0] rfl) hp
def p_X11_sparedNow_9  : Nat → Nat → Int32 → Int32 → Int32 → AH → Option (Int32 × AH)
  | 0, _, _, _, _, _ => none
  | n + 1, v0, v1, v2, v3, h =>
    ck (aK h v0 = 13) <|
    ck (aK h (aR h v0 11) = 20 ∧ ix v1 (aN h (aR h v0 11))) <|
    if (aI h (aR h v0 11) v1.toNatClampNeg) ≤ v3 then
      some (v2, h)
    else
      ck (aK h v0 = 13) <|
      bR (p_X11_isSpared v0 v1 v3 h) fun r6 h7 =>
      if r6 = 0 then
        p_X11_sparedNow_34 (p_X11_sparedNow_9  n) v0 v1 v3 v2 (iI 0) h7
      else
        p_X11_sparedNow_34 (p_X11_sparedNow_9  n) v0 v1 v3 v2 (iI 1) h7
set_option maxHeartbeats 4000000 in
set_option maxRecDepth 100000 in
theorem s_X11_sparedNow_9 {p : Program} {l : Launch} {e : Env} {s : State} {m : MethodId} {args : Array Value} {below : List Frame} {meth : Method} {c : Code} {G : GG} {hs : AH} {r : Int32} {h' : AH} (C : Cx G hs p s m args meth c cX11_sparedNow 4 RX11 (.code yX11_sparedNow cX11_sparedNow 4 (some .int) :: MW) (some .int) "sparedNow")   : ∀ (n : Nat) (v0 : Nat) (v1 : Int32) (v2 : Int32) (v3 : Int32) (h : AH) (H : Heap) (locs : List Loc) (cells slots : Nat) (ls : Array Slot) (hR : Rp G h H) (hL : ∀ q ∈ locs, gB G ≤ q.base) (hl : zl ls 4 [(0, zr v0), (1, .int v1), (2, .int v2), (3, .int v3)]) (hp : p_X11_sparedNow_9  n v0 v1 v2 v3 h = some (r, h')), W p l e (gR G hs 4 115) s m args below meth c H locs cells slots (MQ below (Qcc G (some (.int r)) h') args s (gC G - aZ hs) (gS - aU hs) (fun q => gB G ≤ q)) (F0 m 9 ls []) := by
  obtain ⟨hx, hb, hml, hown, hts, hT, hK, rs, hlk, hret, hnm⟩ := id C
  have hm : ∀ w ∈ MW, w.before args s = true := fun w hw => hts w (hT w hw)
  intro n
  induction n with
  | zero =>
    intro v0 v1 v2 v3 h H locs cells slots ls hR hL hl hp
    exact absurd (show none = some (r, h') from hp) (by simp)
  | succ n ih =>
    intro v0 v1 v2 v3 h H locs cells slots ls hR hL hl hp
    rw [p_X11_sparedNow_9.eq_2] at hp
    refine lv_iload_n hx hb dX11_sparedNow_9 rfl (zl_at hl 3 rfl) ?_
    refine z_aload_n hx hb dX11_sparedNow_10 rfl (zl_at hl 0 rfl) ?_
    obtain ⟨k1, hp⟩ := ck_i hp
    refine r_get (ci := 12) (C := RX11) (T := TX11) (N := 32) (v := zr (aR h v0 11)) hx hb hm ii_X11 hown hK hR rfl k1 11 (by decide) (hm _ mw_993) (fun _ h9 => h9) rfl dX11_sparedNow_11 ?_
    refine lv_iload_n hx hb dX11_sparedNow_14 rfl (zl_at hl 1 rfl) ?_
    obtain ⟨k2, hp⟩ := ck_i hp
    refine r_iald hx hb hK hR k2.1 k2.2 dX11_sparedNow_15 ?_
    refine lv_icmp_ge (tgt := 42) hx hb dX11_sparedNow_16 (by decide) (fun c4 => ?_) (fun c4 => ?_)
    · replace hp := ite_p hp c4
      refine lv_iload_n hx hb dX11_sparedNow_42 rfl (zl_at hl 2 rfl) ?_
      cases hp
      exact r_zret C hR hL rfl dX11_sparedNow_43
    · replace hp := ite_n hp c4
      refine lv_iload_n hx hb dX11_sparedNow_19 rfl (zl_at hl 2 rfl) ?_
      refine z_aload_n hx hb dX11_sparedNow_20 rfl (zl_at hl 0 rfl) ?_
      refine lv_iload_n hx hb dX11_sparedNow_21 rfl (zl_at hl 1 rfl) ?_
      refine lv_iload_n hx hb dX11_sparedNow_22 rfl (zl_at hl 3 rfl) ?_
      obtain ⟨k5, hp⟩ := ck_i hp
      obtain ⟨r6, h7, er6, hp⟩ := bR_i hp
      refine r_callV (ci := 12) (r := (RX11, TX11, 32)) (n := 2) (As := [.int v1, .int v3]) (rest := [.int v2]) C (c_X11_isSpared l G v0 v1 v3 h r6 h7 er6) hR hL rfl k5 mw_1208 mw_1210 mp_35 mw_10 mw_1211 (by decide +kernel) (by decide) rfl (zl_size hl) rfl (by simp [zr_cat, in_cat]) dX11_sparedNow_23 (st2 := [.int r6, .int v2]) rfl (fun H locs cells slots hR hL => ?_)
      refine lv_if_eq (tgt := 33) hx hb dX11_sparedNow_26 (by decide) (fun c8 => ?_) (fun c8 => ?_)
      · replace hp := ite_p hp c8
        refine lv_iconst (v := iI 0) hx hb dX11_sparedNow_33 rfl ?_
        exact s_X11_sparedNow_34 C (fun hR hL hl hp => ih _ _ _ _ _ _ _ _ _ _ hR hL hl hp) hR hL (zl_sub hl [0, 1, 3] rfl) hp
      · replace hp := ite_n hp c8
        refine lv_iconst (v := iI 1) hx hb dX11_sparedNow_29 rfl ?_
        refine lv_goto (tgt := 34) hx hb dX11_sparedNow_30 (by decide) ?_
        exact s_X11_sparedNow_34 C (fun hR hL hl hp => ih _ _ _ _ _ _ _ _ _ _ hR hL hl hp) hR hL (zl_sub hl [0, 1, 3] rfl) hp
def p_X11_sparedNow_0  (v0 : Nat) (v1 : Int32) (h : AH) : Option (Int32 × AH) :=
  ck (aK h v0 = 13) <|
  bR (p_X11_marks v0 v1 h) fun r2 h3 =>
  nm ((iI 0)) fun (x4 : Int32) =>
  nm ((iI 0)) fun (x5 : Int32) =>
  p_X11_sparedNow_9  FU v0 v1 x4 x5 h3
set_option maxHeartbeats 4000000 in
set_option maxRecDepth 100000 in
theorem s_X11_sparedNow_0 {p : Program} {l : Launch} {e : Env} {s : State} {m : MethodId} {args : Array Value} {below : List Frame} {meth : Method} {c : Code} {G : GG} {hs : AH} {r : Int32} {h' : AH} (C : Cx G hs p s m args meth c cX11_sparedNow 4 RX11 (.code yX11_sparedNow cX11_sparedNow 4 (some .int) :: MW) (some .int) "sparedNow")   {v0 : Nat} {v1 : Int32} {h : AH} {H : Heap} {locs : List Loc} {cells slots : Nat} {ls : Array Slot} (hR : Rp G h H) (hL : ∀ q ∈ locs, gB G ≤ q.base) (hl : zl ls 4 [(0, zr v0), (1, .int v1)]) (hp : p_X11_sparedNow_0  v0 v1 h = some (r, h')) : W p l e (gR G hs 4 115) s m args below meth c H locs cells slots (MQ below (Qcc G (some (.int r)) h') args s (gC G - aZ hs) (gS - aU hs) (fun q => gB G ≤ q)) (F0 m 0 ls []) := by
  obtain ⟨hx, hb, hml, hown, hts, hT, hK, rs, hlk, hret, hnm⟩ := id C
  have hm : ∀ w ∈ MW, w.before args s = true := fun w hw => hts w (hT w hw)
  unfold p_X11_sparedNow_0 at hp
  refine z_aload_n hx hb dX11_sparedNow_0 rfl (zl_at hl 0 rfl) ?_
  refine lv_iload_n hx hb dX11_sparedNow_1 rfl (zl_at hl 1 rfl) ?_
  obtain ⟨k1, hp⟩ := ck_i hp
  obtain ⟨r2, h3, er2, hp⟩ := bR_i hp
  refine r_callV (ci := 12) (r := (RX11, TX11, 32)) (n := 1) (As := [.int v1]) (rest := []) C (c_X11_marks l G v0 v1 h r2 h3 er2) hR hL rfl k1 mw_1188 mw_1190 mp_31 mw_10 mw_1191 (by decide +kernel) (by decide) rfl (zl_size hl) rfl (by simp [zr_cat, in_cat]) dX11_sparedNow_2 (st2 := []) rfl (fun H locs cells slots hR hL => ?_)
  refine lv_iconst (v := iI 0) hx hb dX11_sparedNow_5 rfl ?_
  refine lv_topi (fun x4 ex4 => ?_)
  replace hp := nm_i hp ex4
  refine z_istore_n (lv' := [(2, .int x4), (0, zr v0), (1, .int v1)]) hx hb dX11_sparedNow_6 rfl hl (by decide) rfl (fun ls hl => ?_)
  refine lv_iconst (v := iI 0) hx hb dX11_sparedNow_7 rfl ?_
  refine lv_topi (fun x5 ex5 => ?_)
  replace hp := nm_i hp ex5
  refine z_istore_n (lv' := [(3, .int x5), (2, .int x4), (0, zr v0), (1, .int v1)]) hx hb dX11_sparedNow_8 rfl hl (by decide) rfl (fun ls hl => ?_)
  exact s_X11_sparedNow_9 C  _ _ _ _ _ _ _ _ _ _ _ hR hL (zl_sub hl [2, 3, 1, 0] rfl) hp
def p_X11_sparedNow (v0 : Nat) (v1 : Int32) (h : AH) : Option (Int32 × AH) := ck (v0 ≠ 0) <| p_X11_sparedNow_0 v0 v1 h
theorem c_X11_sparedNow (l : Launch) (G : GG) (v0 : Nat) (v1 : Int32) (h : AH) (r : Int32) (h' : AH) (hp : p_X11_sparedNow v0 v1 h = some (r, h')) : Ct l yX11_sparedNow (.code yX11_sparedNow cX11_sparedNow 4 (some .int) :: MW) G 4 115 [.ref (v0 - 1), .int v1] h (some (.int r)) h' := by
  obtain ⟨hz0, hp⟩ := ck_i hp
  refine Ct.of (by decide +kernel) (Nat.le_of_ble_eq_true rfl) ?_
  intro p e s m args below meth c C hR ls hl
  have hl : zl ls 4 [(0, zr v0), (1, .int v1)] := ⟨by rw [zr_p hz0]; exact hl, by simp [zr_cat, in_cat]⟩
  exact s_X11_sparedNow_0 C hR (fun _ hq => nomatch hq) hl hp
/-! CursorKeepModel.come(I)I -/
def p_X11_come_104 (k56 : Nat → Int32 → Int32 → Int32 → AH → Option (Int32 × AH)) (v0 : Nat) (v1 : Int32) (v3 : Int32) (v4 : Int32) (s0 : Nat) (s1 : Int32) (s2 : Int32) (h : AH) : Option (Int32 × AH) :=
  ck (aK h s0 = 20 ∧ ix s1 (aN h s0)) <|
  nm (uI h s0 s1.toNatClampNeg s2) fun h3 =>
  nm (v4 + iI 1) fun (x4 : Int32) =>
  k56 v0 v1 v3 x4 h3
set_option maxHeartbeats 4000000 in
set_option maxRecDepth 100000 in
theorem s_X11_come_104 {p : Program} {l : Launch} {e : Env} {s : State} {m : MethodId} {args : Array Value} {below : List Frame} {meth : Method} {c : Code} {G : GG} {hs : AH} {r : Int32} {h' : AH} (C : Cx G hs p s m args meth c cX11_come 6 RX11 (.code yX11_come cX11_come 6 (some .int) :: MW) (some .int) "come") {k56 : Nat → Int32 → Int32 → Int32 → AH → Option (Int32 × AH)} (hk56 : ∀ {v0 : Nat} {v1 : Int32} {v3 : Int32} {v4 : Int32} {h : AH} {H : Heap} {locs : List Loc} {cells slots : Nat} {ls : Array Slot}, Rp G h H → (∀ q ∈ locs, gB G ≤ q.base) → zl ls 6 [(0, zr v0), (1, .int v1), (3, .int v3), (4, .int v4)] → k56 v0 v1 v3 v4 h = some (r, h') → W p l e (gR G hs 5 138) s m args below meth c H locs cells slots (MQ below (Qcc G (some (.int r)) h') args s (gC G - aZ hs) (gS - aU hs) (fun q => gB G ≤ q)) (F0 m 56 ls [])) {v0 : Nat} {v1 : Int32} {v3 : Int32} {v4 : Int32} {s0 : Nat} {s1 : Int32} {s2 : Int32} {h : AH} {H : Heap} {locs : List Loc} {cells slots : Nat} {ls : Array Slot} (hR : Rp G h H) (hL : ∀ q ∈ locs, gB G ≤ q.base) (hl : zl ls 6 [(0, zr v0), (1, .int v1), (3, .int v3), (4, .int v4)]) (hp : p_X11_come_104 k56 v0 v1 v3 v4 s0 s1 s2 h = some (r, h')) : W p l e (gR G hs 5 138) s m args below meth c H locs cells slots (MQ below (Qcc G (some (.int r)) h') args s (gC G - aZ hs) (gS - aU hs) (fun q => gB G ≤ q)) (F0 m 104 ls [.int s2, .int s1, zr s0]) := by
  obtain ⟨hx, hb, hml, hown, hts, hT, hK, rs, hlk, hret, hnm⟩ := id C
  have hm : ∀ w ∈ MW, w.before args s = true := fun w hw => hts w (hT w hw)
  unfold p_X11_come_104 at hp
  obtain ⟨k1, hp⟩ := ck_i hp
  refine r_iast hx hb hK hR hL k1.1 k1.2 dX11_come_104 (fun H locs hR hL => ?_)
  obtain ⟨h3, hp, hR⟩ := nm_h hp hR
  obtain ⟨x4, ex4⟩ : ∃ y : Int32, y = v4 + iI 1 := ⟨_, rfl⟩
  replace hp := nm_i hp ex4
  refine z_iinc (v := x4) (lv' := [(4, .int x4), (0, zr v0), (1, .int v1), (3, .int v3)]) hx hb dX11_come_105 hl (k := 3) rfl ex4 (by decide) rfl (fun ls hl => ?_)
  refine lv_goto (tgt := 56) hx hb dX11_come_108 (by decide) ?_
  exact hk56 hR hL (zl_sub hl [1, 2, 3, 0] rfl) hp
def p_X11_come_207 (k114 : Nat → Int32 → Int32 → Int32 → AH → Option (Int32 × AH)) (v0 : Nat) (v1 : Int32) (v3 : Int32) (v4 : Int32) (h : AH) : Option (Int32 × AH) :=
  nm (v4 + iI 1) fun (x1 : Int32) =>
  k114 v0 v1 v3 x1 h
set_option maxHeartbeats 4000000 in
set_option maxRecDepth 100000 in
theorem s_X11_come_207 {p : Program} {l : Launch} {e : Env} {s : State} {m : MethodId} {args : Array Value} {below : List Frame} {meth : Method} {c : Code} {G : GG} {hs : AH} {r : Int32} {h' : AH} (C : Cx G hs p s m args meth c cX11_come 6 RX11 (.code yX11_come cX11_come 6 (some .int) :: MW) (some .int) "come") {k114 : Nat → Int32 → Int32 → Int32 → AH → Option (Int32 × AH)} (hk114 : ∀ {v0 : Nat} {v1 : Int32} {v3 : Int32} {v4 : Int32} {h : AH} {H : Heap} {locs : List Loc} {cells slots : Nat} {ls : Array Slot}, Rp G h H → (∀ q ∈ locs, gB G ≤ q.base) → zl ls 6 [(0, zr v0), (1, .int v1), (3, .int v3), (4, .int v4)] → k114 v0 v1 v3 v4 h = some (r, h') → W p l e (gR G hs 5 138) s m args below meth c H locs cells slots (MQ below (Qcc G (some (.int r)) h') args s (gC G - aZ hs) (gS - aU hs) (fun q => gB G ≤ q)) (F0 m 114 ls [])) {v0 : Nat} {v1 : Int32} {v3 : Int32} {v4 : Int32} {h : AH} {H : Heap} {locs : List Loc} {cells slots : Nat} {ls : Array Slot} (hR : Rp G h H) (hL : ∀ q ∈ locs, gB G ≤ q.base) (hl : zl ls 6 [(0, zr v0), (1, .int v1), (3, .int v3), (4, .int v4)]) (hp : p_X11_come_207 k114 v0 v1 v3 v4 h = some (r, h')) : W p l e (gR G hs 5 138) s m args below meth c H locs cells slots (MQ below (Qcc G (some (.int r)) h') args s (gC G - aZ hs) (gS - aU hs) (fun q => gB G ≤ q)) (F0 m 207 ls []) := by
  obtain ⟨hx, hb, hml, hown, hts, hT, hK, rs, hlk, hret, hnm⟩ := id C
  have hm : ∀ w ∈ MW, w.before args s = true := fun w hw => hts w (hT w hw)
  unfold p_X11_come_207 at hp
  obtain ⟨x1, ex1⟩ : ∃ y : Int32, y = v4 + iI 1 := ⟨_, rfl⟩
  replace hp := nm_i hp ex1
  refine z_iinc (v := x1) (lv' := [(4, .int x1), (0, zr v0), (1, .int v1), (3, .int v3)]) hx hb dX11_come_207 hl (k := 3) rfl ex1 (by decide) rfl (fun ls hl => ?_)
  refine lv_goto (tgt := 114) hx hb dX11_come_210 (by decide) ?_
  exact hk114 hR hL (zl_sub hl [1, 2, 3, 0] rfl) hp
def p_X11_come_171 (k114 : Nat → Int32 → Int32 → Int32 → AH → Option (Int32 × AH)) (v0 : Nat) (v1 : Int32) (v3 : Int32) (v4 : Int32) (v5 : Int32) (h : AH) : Option (Int32 × AH) :=
  ck (aK h v0 = 13) <|
  ck (aK h (aR h v0 14) = 20 ∧ ix v5 (aN h (aR h v0 14))) <|
  if (aI h (aR h v0 14) v5.toNatClampNeg) = (iI (-1)) then
    p_X11_come_207 k114 v0 v1 v3 v4 h
  else
    ck (aK h v0 = 13) <|
    ck (aK h v0 = 13) <|
    ck (aK h (aR h v0 13) = 20 ∧ ix v5 (aN h (aR h v0 13))) <|
    ck (aK h v0 = 13) <|
    ck (aK h (aR h v0 15) = 20 ∧ ix v5 (aN h (aR h v0 15))) <|
    ck (aK h (aR h v0 1) = 20 ∧ ix (((iI 150) * v3) + (aI h (aR h v0 13) v5.toNatClampNeg)) (aN h (aR h v0 1))) <|
    nm (uI h (aR h v0 1) (((iI 150) * v3) + (aI h (aR h v0 13) v5.toNatClampNeg)).toNatClampNeg (aI h (aR h v0 15) v5.toNatClampNeg)) fun h14 =>
    p_X11_come_207 k114 v0 v1 v3 v4 h14
set_option maxHeartbeats 4000000 in
set_option maxRecDepth 100000 in
theorem s_X11_come_171 {p : Program} {l : Launch} {e : Env} {s : State} {m : MethodId} {args : Array Value} {below : List Frame} {meth : Method} {c : Code} {G : GG} {hs : AH} {r : Int32} {h' : AH} (C : Cx G hs p s m args meth c cX11_come 6 RX11 (.code yX11_come cX11_come 6 (some .int) :: MW) (some .int) "come") {k114 : Nat → Int32 → Int32 → Int32 → AH → Option (Int32 × AH)} (hk114 : ∀ {v0 : Nat} {v1 : Int32} {v3 : Int32} {v4 : Int32} {h : AH} {H : Heap} {locs : List Loc} {cells slots : Nat} {ls : Array Slot}, Rp G h H → (∀ q ∈ locs, gB G ≤ q.base) → zl ls 6 [(0, zr v0), (1, .int v1), (3, .int v3), (4, .int v4)] → k114 v0 v1 v3 v4 h = some (r, h') → W p l e (gR G hs 5 138) s m args below meth c H locs cells slots (MQ below (Qcc G (some (.int r)) h') args s (gC G - aZ hs) (gS - aU hs) (fun q => gB G ≤ q)) (F0 m 114 ls [])) {v0 : Nat} {v1 : Int32} {v3 : Int32} {v4 : Int32} {v5 : Int32} {h : AH} {H : Heap} {locs : List Loc} {cells slots : Nat} {ls : Array Slot} (hR : Rp G h H) (hL : ∀ q ∈ locs, gB G ≤ q.base) (hl : zl ls 6 [(0, zr v0), (1, .int v1), (3, .int v3), (4, .int v4), (5, .int v5)]) (hp : p_X11_come_171 k114 v0 v1 v3 v4 v5 h = some (r, h')) : W p l e (gR G hs 5 138) s m args below meth c H locs cells slots (MQ below (Qcc G (some (.int r)) h') args s (gC G - aZ hs) (gS - aU hs) (fun q => gB G ≤ q)) (F0 m 171 ls []) := by
  obtain ⟨hx, hb, hml, hown, hts, hT, hK, rs, hlk, hret, hnm⟩ := id C
  have hm : ∀ w ∈ MW, w.before args s = true := fun w hw => hts w (hT w hw)
  unfold p_X11_come_171 at hp
  refine z_aload_n hx hb dX11_come_171 rfl (zl_at hl 0 rfl) ?_
  obtain ⟨k1, hp⟩ := ck_i hp
  refine r_get (ci := 12) (C := RX11) (T := TX11) (N := 32) (v := zr (aR h v0 14)) hx hb hm ii_X11 hown hK hR rfl k1 14 (by decide) (hm _ mw_996) (fun _ h9 => h9) rfl dX11_come_172 ?_
  refine lv_iload hx hb dX11_come_175 (zl_at hl 4 rfl) ?_
  obtain ⟨k2, hp⟩ := ck_i hp
  refine r_iald hx hb hK hR k2.1 k2.2 dX11_come_177 ?_
  refine lv_iconst (v := iI (-1)) hx hb dX11_come_178 rfl ?_
  refine lv_icmp_eq (tgt := 207) hx hb dX11_come_179 (by decide) (fun c4 => ?_) (fun c4 => ?_)
  · replace hp := ite_p hp c4
    exact s_X11_come_207 C hk114 hR hL (zl_sub hl [0, 1, 2, 3] rfl) hp
  · replace hp := ite_n hp c4
    refine z_aload_n hx hb dX11_come_182 rfl (zl_at hl 0 rfl) ?_
    obtain ⟨k5, hp⟩ := ck_i hp
    refine r_get (ci := 12) (C := RX11) (T := TX11) (N := 32) (v := zr (aR h v0 1)) hx hb hm ii_X11 hown hK hR rfl k5 1 (by decide) (hm _ mw_983) (fun _ h9 => h9) rfl dX11_come_183 ?_
    refine lv_sipush (v := iI 150) hx hb dX11_come_186 (by decide +kernel) ?_
    refine lv_iload_n hx hb dX11_come_189 rfl (zl_at hl 2 rfl) ?_
    refine lv_imul hx hb dX11_come_190 ?_
    refine z_aload_n hx hb dX11_come_191 rfl (zl_at hl 0 rfl) ?_
    obtain ⟨k6, hp⟩ := ck_i hp
    refine r_get (ci := 12) (C := RX11) (T := TX11) (N := 32) (v := zr (aR h v0 13)) hx hb hm ii_X11 hown hK hR rfl k6 13 (by decide) (hm _ mw_995) (fun _ h9 => h9) rfl dX11_come_192 ?_
    refine lv_iload hx hb dX11_come_195 (zl_at hl 4 rfl) ?_
    obtain ⟨k7, hp⟩ := ck_i hp
    refine r_iald hx hb hK hR k7.1 k7.2 dX11_come_197 ?_
    refine lv_iadd hx hb dX11_come_198 ?_
    refine z_aload_n hx hb dX11_come_199 rfl (zl_at hl 0 rfl) ?_
    obtain ⟨k9, hp⟩ := ck_i hp
    refine r_get (ci := 12) (C := RX11) (T := TX11) (N := 32) (v := zr (aR h v0 15)) hx hb hm ii_X11 hown hK hR rfl k9 15 (by decide) (hm _ mw_997) (fun _ h9 => h9) rfl dX11_come_200 ?_
    refine lv_iload hx hb dX11_come_203 (zl_at hl 4 rfl) ?_
    obtain ⟨k10, hp⟩ := ck_i hp
    refine r_iald hx hb hK hR k10.1 k10.2 dX11_come_205 ?_
    obtain ⟨k12, hp⟩ := ck_i hp
    refine r_iast hx hb hK hR hL k12.1 k12.2 dX11_come_206 (fun H locs hR hL => ?_)
    obtain ⟨h14, hp, hR⟩ := nm_h hp hR
    exact s_X11_come_207 C hk114 hR hL (zl_sub hl [0, 1, 2, 3] rfl) hp
def p_X11_come_245  (v0 : Nat) (v1 : Int32) (v4 : Int32) (s0 : Nat) (s1 : Int32) (s2 : Int32) (s3 : Int32) (h : AH) : Option (Int32 × AH) :=
  ck (aK h s0 = 20 ∧ ix s1 (aN h s0)) <|
  nm (uI h s0 s1.toNatClampNeg (s2 + s3)) fun h3 =>
  ck (aK h3 v0 = 13) <|
  ck (aK h3 (aR h3 v0 10) = 20 ∧ ix v1 (aN h3 (aR h3 v0 10))) <|
  nm (uI h3 (aR h3 v0 10) v1.toNatClampNeg (iI 1)) fun h7 =>
  some (v4, h7)
set_option maxHeartbeats 4000000 in
set_option maxRecDepth 100000 in
theorem s_X11_come_245 {p : Program} {l : Launch} {e : Env} {s : State} {m : MethodId} {args : Array Value} {below : List Frame} {meth : Method} {c : Code} {G : GG} {hs : AH} {r : Int32} {h' : AH} (C : Cx G hs p s m args meth c cX11_come 6 RX11 (.code yX11_come cX11_come 6 (some .int) :: MW) (some .int) "come")   {v0 : Nat} {v1 : Int32} {v4 : Int32} {s0 : Nat} {s1 : Int32} {s2 : Int32} {s3 : Int32} {h : AH} {H : Heap} {locs : List Loc} {cells slots : Nat} {ls : Array Slot} (hR : Rp G h H) (hL : ∀ q ∈ locs, gB G ≤ q.base) (hl : zl ls 6 [(0, zr v0), (1, .int v1), (4, .int v4)]) (hp : p_X11_come_245  v0 v1 v4 s0 s1 s2 s3 h = some (r, h')) : W p l e (gR G hs 5 138) s m args below meth c H locs cells slots (MQ below (Qcc G (some (.int r)) h') args s (gC G - aZ hs) (gS - aU hs) (fun q => gB G ≤ q)) (F0 m 245 ls [.int s3, .int s2, .int s1, zr s0]) := by
  obtain ⟨hx, hb, hml, hown, hts, hT, hK, rs, hlk, hret, hnm⟩ := id C
  have hm : ∀ w ∈ MW, w.before args s = true := fun w hw => hts w (hT w hw)
  unfold p_X11_come_245 at hp
  refine lv_iadd hx hb dX11_come_245 ?_
  obtain ⟨k1, hp⟩ := ck_i hp
  refine r_iast hx hb hK hR hL k1.1 k1.2 dX11_come_246 (fun H locs hR hL => ?_)
  obtain ⟨h3, hp, hR⟩ := nm_h hp hR
  refine z_aload_n hx hb dX11_come_247 rfl (zl_at hl 0 rfl) ?_
  obtain ⟨k4, hp⟩ := ck_i hp
  refine r_get (ci := 12) (C := RX11) (T := TX11) (N := 32) (v := zr (aR h3 v0 10)) hx hb hm ii_X11 hown hK hR rfl k4 10 (by decide) (hm _ mw_992) (fun _ h9 => h9) rfl dX11_come_248 ?_
  refine lv_iload_n hx hb dX11_come_251 rfl (zl_at hl 1 rfl) ?_
  refine lv_iconst (v := iI 1) hx hb dX11_come_252 rfl ?_
  obtain ⟨k5, hp⟩ := ck_i hp
  refine r_iast hx hb hK hR hL k5.1 k5.2 dX11_come_253 (fun H locs hR hL => ?_)
  obtain ⟨h7, hp, hR⟩ := nm_h hp hR
  refine lv_iload hx hb dX11_come_254 (zl_at hl 2 rfl) ?_
  cases hp
  exact r_zret C hR hL rfl dX11_come_256
def p_X11_come_114  : Nat → Nat → Int32 → Int32 → Int32 → AH → Option (Int32 × AH)
  | 0, _, _, _, _, _ => none
  | n + 1, v0, v1, v3, v4, h =>
    ck (aK h v0 = 13) <|
    ck (aK h (aR h v0 11) = 20 ∧ ix v1 (aN h (aR h v0 11))) <|
    if (aI h (aR h v0 11) v1.toNatClampNeg) ≤ v4 then
      ck (aK h v0 = 13) <|
      ck (aK h (aR h v0 11) = 20 ∧ ix v1 (aN h (aR h v0 11))) <|
      ck (aK h v0 = 13) <|
      ck (aK h (aR h v0 12) = 20 ∧ ix v1 (aN h (aR h v0 12))) <|
      nm (((aI h (aR h v0 11) v1.toNatClampNeg) - (aI h (aR h v0 12) v1.toNatClampNeg))) fun (x11 : Int32) =>
      ck (aK h v0 = 13) <|
      ck (aK h (aR h v0 4) = 20 ∧ ix v3 (aN h (aR h v0 4))) <|
      if x11 ≤ 0 then
        p_X11_come_245  v0 v1 x11 (aR h v0 4) v3 (aI h (aR h v0 4) v3.toNatClampNeg) (iI 0) h
      else
        p_X11_come_245  v0 v1 x11 (aR h v0 4) v3 (aI h (aR h v0 4) v3.toNatClampNeg) (iI 1) h
    else
      nm ((((iI 150) * v1) + v4)) fun (x16 : Int32) =>
      ck (aK h v0 = 13) <|
      ck (aK h (aR h v0 14) = 20 ∧ ix x16 (aN h (aR h v0 14))) <|
      if (aI h (aR h v0 14) x16.toNatClampNeg) = (iI (-1)) then
        p_X11_come_171 (p_X11_come_114  n) v0 v1 v3 v4 x16 h
      else
        ck (aK h v0 = 13) <|
        ck (aK h (aR h v0 15) = 20 ∧ ix x16 (aN h (aR h v0 15))) <|
        if (aI h (aR h v0 15) x16.toNatClampNeg) = 0 then
          ck (aK h v0 = 13) <|
          ck (aK h (aR h v0 13) = 20 ∧ ix x16 (aN h (aR h v0 13))) <|
          ck (aK h v0 = 13) <|
          bR (p_X11_leaves v0 v3 (aI h (aR h v0 13) x16.toNatClampNeg) h) fun r29 h30 =>
          p_X11_come_207 (p_X11_come_114  n) v0 v1 v3 v4 h30
        else
          p_X11_come_171 (p_X11_come_114  n) v0 v1 v3 v4 x16 h
set_option maxHeartbeats 4000000 in
set_option maxRecDepth 100000 in
theorem s_X11_come_114 {p : Program} {l : Launch} {e : Env} {s : State} {m : MethodId} {args : Array Value} {below : List Frame} {meth : Method} {c : Code} {G : GG} {hs : AH} {r : Int32} {h' : AH} (C : Cx G hs p s m args meth c cX11_come 6 RX11 (.code yX11_come cX11_come 6 (some .int) :: MW) (some .int) "come")   : ∀ (n : Nat) (v0 : Nat) (v1 : Int32) (v3 : Int32) (v4 : Int32) (h : AH) (H : Heap) (locs : List Loc) (cells slots : Nat) (ls : Array Slot) (hR : Rp G h H) (hL : ∀ q ∈ locs, gB G ≤ q.base) (hl : zl ls 6 [(0, zr v0), (1, .int v1), (3, .int v3), (4, .int v4)]) (hp : p_X11_come_114  n v0 v1 v3 v4 h = some (r, h')), W p l e (gR G hs 5 138) s m args below meth c H locs cells slots (MQ below (Qcc G (some (.int r)) h') args s (gC G - aZ hs) (gS - aU hs) (fun q => gB G ≤ q)) (F0 m 114 ls []) := by
  obtain ⟨hx, hb, hml, hown, hts, hT, hK, rs, hlk, hret, hnm⟩ := id C
  have hm : ∀ w ∈ MW, w.before args s = true := fun w hw => hts w (hT w hw)
  intro n
  induction n with
  | zero =>
    intro v0 v1 v3 v4 h H locs cells slots ls hR hL hl hp
    exact absurd (show none = some (r, h') from hp) (by simp)
  | succ n ih =>
    intro v0 v1 v3 v4 h H locs cells slots ls hR hL hl hp
    rw [p_X11_come_114.eq_2] at hp
    refine lv_iload hx hb dX11_come_114 (zl_at hl 3 rfl) ?_
    refine z_aload_n hx hb dX11_come_116 rfl (zl_at hl 0 rfl) ?_
    obtain ⟨k1, hp⟩ := ck_i hp
    refine r_get (ci := 12) (C := RX11) (T := TX11) (N := 32) (v := zr (aR h v0 11)) hx hb hm ii_X11 hown hK hR rfl k1 11 (by decide) (hm _ mw_993) (fun _ h9 => h9) rfl dX11_come_117 ?_
    refine lv_iload_n hx hb dX11_come_120 rfl (zl_at hl 1 rfl) ?_
    obtain ⟨k2, hp⟩ := ck_i hp
    refine r_iald hx hb hK hR k2.1 k2.2 dX11_come_121 ?_
    refine lv_icmp_ge (tgt := 213) hx hb dX11_come_122 (by decide) (fun c4 => ?_) (fun c4 => ?_)
    · replace hp := ite_p hp c4
      refine z_aload_n hx hb dX11_come_213 rfl (zl_at hl 0 rfl) ?_
      obtain ⟨k5, hp⟩ := ck_i hp
      refine r_get (ci := 12) (C := RX11) (T := TX11) (N := 32) (v := zr (aR h v0 11)) hx hb hm ii_X11 hown hK hR rfl k5 11 (by decide) (hm _ mw_993) (fun _ h9 => h9) rfl dX11_come_214 ?_
      refine lv_iload_n hx hb dX11_come_217 rfl (zl_at hl 1 rfl) ?_
      obtain ⟨k6, hp⟩ := ck_i hp
      refine r_iald hx hb hK hR k6.1 k6.2 dX11_come_218 ?_
      refine z_aload_n hx hb dX11_come_219 rfl (zl_at hl 0 rfl) ?_
      obtain ⟨k8, hp⟩ := ck_i hp
      refine r_get (ci := 12) (C := RX11) (T := TX11) (N := 32) (v := zr (aR h v0 12)) hx hb hm ii_X11 hown hK hR rfl k8 12 (by decide) (hm _ mw_994) (fun _ h9 => h9) rfl dX11_come_220 ?_
      refine lv_iload_n hx hb dX11_come_223 rfl (zl_at hl 1 rfl) ?_
      obtain ⟨k9, hp⟩ := ck_i hp
      refine r_iald hx hb hK hR k9.1 k9.2 dX11_come_224 ?_
      refine lv_isub hx hb dX11_come_225 ?_
      refine lv_topi (fun x11 ex11 => ?_)
      replace hp := nm_i hp ex11
      refine z_istore (lv' := [(4, .int x11), (0, zr v0), (1, .int v1), (3, .int v3)]) hx hb dX11_come_226 hl (by decide) rfl (fun ls hl => ?_)
      refine z_aload_n hx hb dX11_come_228 rfl (zl_at hl 1 rfl) ?_
      obtain ⟨k12, hp⟩ := ck_i hp
      refine r_get (ci := 12) (C := RX11) (T := TX11) (N := 32) (v := zr (aR h v0 4)) hx hb hm ii_X11 hown hK hR rfl k12 4 (by decide) (hm _ mw_986) (fun _ h9 => h9) rfl dX11_come_229 ?_
      refine lv_iload_n hx hb dX11_come_232 rfl (zl_at hl 3 rfl) ?_
      refine lv_dup2_11 hx hb dX11_come_233 rfl (zr_cat _) ?_
      obtain ⟨k13, hp⟩ := ck_i hp
      refine r_iald hx hb hK hR k13.1 k13.2 dX11_come_234 ?_
      refine lv_iload hx hb dX11_come_235 (zl_at hl 0 rfl) ?_
      refine lv_if_le (tgt := 244) hx hb dX11_come_237 (by decide) (fun c15 => ?_) (fun c15 => ?_)
      · replace hp := ite_p hp c15
        refine lv_iconst (v := iI 0) hx hb dX11_come_244 rfl ?_
        exact s_X11_come_245 C  hR hL (zl_sub hl [1, 2, 0] rfl) hp
      · replace hp := ite_n hp c15
        refine lv_iconst (v := iI 1) hx hb dX11_come_240 rfl ?_
        refine lv_goto (tgt := 245) hx hb dX11_come_241 (by decide) ?_
        exact s_X11_come_245 C  hR hL (zl_sub hl [1, 2, 0] rfl) hp
    · replace hp := ite_n hp c4
      refine lv_sipush (v := iI 150) hx hb dX11_come_125 (by decide +kernel) ?_
      refine lv_iload_n hx hb dX11_come_128 rfl (zl_at hl 1 rfl) ?_
      refine lv_imul hx hb dX11_come_129 ?_
      refine lv_iload hx hb dX11_come_130 (zl_at hl 3 rfl) ?_
      refine lv_iadd hx hb dX11_come_132 ?_
      refine lv_topi (fun x16 ex16 => ?_)
      replace hp := nm_i hp ex16
      refine z_istore (lv' := [(5, .int x16), (0, zr v0), (1, .int v1), (3, .int v3), (4, .int v4)]) hx hb dX11_come_133 hl (by decide) rfl (fun ls hl => ?_)
      refine z_aload_n hx hb dX11_come_135 rfl (zl_at hl 1 rfl) ?_
      obtain ⟨k17, hp⟩ := ck_i hp
      refine r_get (ci := 12) (C := RX11) (T := TX11) (N := 32) (v := zr (aR h v0 14)) hx hb hm ii_X11 hown hK hR rfl k17 14 (by decide) (hm _ mw_996) (fun _ h9 => h9) rfl dX11_come_136 ?_
      refine lv_iload hx hb dX11_come_139 (zl_at hl 0 rfl) ?_
      obtain ⟨k18, hp⟩ := ck_i hp
      refine r_iald hx hb hK hR k18.1 k18.2 dX11_come_141 ?_
      refine lv_iconst (v := iI (-1)) hx hb dX11_come_142 rfl ?_
      refine lv_icmp_eq (tgt := 171) hx hb dX11_come_143 (by decide) (fun c20 => ?_) (fun c20 => ?_)
      · replace hp := ite_p hp c20
        exact s_X11_come_171 C (fun hR hL hl hp => ih _ _ _ _ _ _ _ _ _ _ hR hL hl hp) hR hL (zl_sub hl [1, 2, 3, 4, 0] rfl) hp
      · replace hp := ite_n hp c20
        refine z_aload_n hx hb dX11_come_146 rfl (zl_at hl 1 rfl) ?_
        obtain ⟨k21, hp⟩ := ck_i hp
        refine r_get (ci := 12) (C := RX11) (T := TX11) (N := 32) (v := zr (aR h v0 15)) hx hb hm ii_X11 hown hK hR rfl k21 15 (by decide) (hm _ mw_997) (fun _ h9 => h9) rfl dX11_come_147 ?_
        refine lv_iload hx hb dX11_come_150 (zl_at hl 0 rfl) ?_
        obtain ⟨k22, hp⟩ := ck_i hp
        refine r_iald hx hb hK hR k22.1 k22.2 dX11_come_152 ?_
        refine lv_if_ne (tgt := 171) hx hb dX11_come_153 (by decide) (fun c24 => ?_) (fun c24 => ?_)
        · replace hp := ite_n hp c24
          exact s_X11_come_171 C (fun hR hL hl hp => ih _ _ _ _ _ _ _ _ _ _ hR hL hl hp) hR hL (zl_sub hl [1, 2, 3, 4, 0] rfl) hp
        · replace hp := ite_p hp c24
          refine z_aload_n hx hb dX11_come_156 rfl (zl_at hl 1 rfl) ?_
          refine lv_iload_n hx hb dX11_come_157 rfl (zl_at hl 3 rfl) ?_
          refine z_aload_n hx hb dX11_come_158 rfl (zl_at hl 1 rfl) ?_
          obtain ⟨k25, hp⟩ := ck_i hp
          refine r_get (ci := 12) (C := RX11) (T := TX11) (N := 32) (v := zr (aR h v0 13)) hx hb hm ii_X11 hown hK hR rfl k25 13 (by decide) (hm _ mw_995) (fun _ h9 => h9) rfl dX11_come_159 ?_
          refine lv_iload hx hb dX11_come_162 (zl_at hl 0 rfl) ?_
          obtain ⟨k26, hp⟩ := ck_i hp
          refine r_iald hx hb hK hR k26.1 k26.2 dX11_come_164 ?_
          obtain ⟨k28, hp⟩ := ck_i hp
          obtain ⟨r29, h30, er29, hp⟩ := bR_i hp
          refine r_callV (ci := 12) (r := (RX11, TX11, 32)) (n := 2) (As := [.int v3, .int (aI h (aR h v0 13) x16.toNatClampNeg)]) (rest := []) C (c_X11_leaves l G v0 v3 (aI h (aR h v0 13) x16.toNatClampNeg) h r29 h30 er29) hR hL rfl k28 mw_1120 mw_1122 mp_24 mw_10 mw_1123 (by decide +kernel) (by decide) rfl (zl_size hl) rfl (by simp [zr_cat, in_cat]) dX11_come_165 (st2 := []) rfl (fun H locs cells slots hR hL => ?_)
          refine lv_goto (tgt := 207) hx hb dX11_come_168 (by decide) ?_
          exact s_X11_come_207 C (fun hR hL hl hp => ih _ _ _ _ _ _ _ _ _ _ hR hL hl hp) hR hL (zl_sub hl [1, 2, 3, 4] rfl) hp
def p_X11_come_56  : Nat → Nat → Int32 → Int32 → Int32 → AH → Option (Int32 × AH)
  | 0, _, _, _, _, _ => none
  | n + 1, v0, v1, v3, v4, h =>
    ck (aK h v0 = 13) <|
    ck (aK h (aR h v0 11) = 20 ∧ ix v1 (aN h (aR h v0 11))) <|
    if (aI h (aR h v0 11) v1.toNatClampNeg) ≤ v4 then
      nm ((iI 0)) fun (x5 : Int32) =>
      p_X11_come_114  FU v0 v1 v3 x5 h
    else
      nm ((((iI 150) * v1) + v4)) fun (x6 : Int32) =>
      ck (aK h v0 = 13) <|
      ck (aK h v0 = 13) <|
      bR (p_X11_isSpared v0 v1 v4 h) fun r9 h10 =>
      if r9 = 0 then
        ck (aK h10 v0 = 13) <|
        ck (aK h10 (aR h10 v0 14) = 20 ∧ ix x6 (aN h10 (aR h10 v0 14))) <|
        p_X11_come_104 (p_X11_come_56  n) v0 v1 v3 v4 (aR h v0 14) x6 (aI h10 (aR h10 v0 14) x6.toNatClampNeg) h10
      else
        p_X11_come_104 (p_X11_come_56  n) v0 v1 v3 v4 (aR h v0 14) x6 (iI (-1)) h10
set_option maxHeartbeats 4000000 in
set_option maxRecDepth 100000 in
theorem s_X11_come_56 {p : Program} {l : Launch} {e : Env} {s : State} {m : MethodId} {args : Array Value} {below : List Frame} {meth : Method} {c : Code} {G : GG} {hs : AH} {r : Int32} {h' : AH} (C : Cx G hs p s m args meth c cX11_come 6 RX11 (.code yX11_come cX11_come 6 (some .int) :: MW) (some .int) "come")   : ∀ (n : Nat) (v0 : Nat) (v1 : Int32) (v3 : Int32) (v4 : Int32) (h : AH) (H : Heap) (locs : List Loc) (cells slots : Nat) (ls : Array Slot) (hR : Rp G h H) (hL : ∀ q ∈ locs, gB G ≤ q.base) (hl : zl ls 6 [(0, zr v0), (1, .int v1), (3, .int v3), (4, .int v4)]) (hp : p_X11_come_56  n v0 v1 v3 v4 h = some (r, h')), W p l e (gR G hs 5 138) s m args below meth c H locs cells slots (MQ below (Qcc G (some (.int r)) h') args s (gC G - aZ hs) (gS - aU hs) (fun q => gB G ≤ q)) (F0 m 56 ls []) := by
  obtain ⟨hx, hb, hml, hown, hts, hT, hK, rs, hlk, hret, hnm⟩ := id C
  have hm : ∀ w ∈ MW, w.before args s = true := fun w hw => hts w (hT w hw)
  intro n
  induction n with
  | zero =>
    intro v0 v1 v3 v4 h H locs cells slots ls hR hL hl hp
    exact absurd (show none = some (r, h') from hp) (by simp)
  | succ n ih =>
    intro v0 v1 v3 v4 h H locs cells slots ls hR hL hl hp
    rw [p_X11_come_56.eq_2] at hp
    refine lv_iload hx hb dX11_come_56 (zl_at hl 3 rfl) ?_
    refine z_aload_n hx hb dX11_come_58 rfl (zl_at hl 0 rfl) ?_
    obtain ⟨k1, hp⟩ := ck_i hp
    refine r_get (ci := 12) (C := RX11) (T := TX11) (N := 32) (v := zr (aR h v0 11)) hx hb hm ii_X11 hown hK hR rfl k1 11 (by decide) (hm _ mw_993) (fun _ h9 => h9) rfl dX11_come_59 ?_
    refine lv_iload_n hx hb dX11_come_62 rfl (zl_at hl 1 rfl) ?_
    obtain ⟨k2, hp⟩ := ck_i hp
    refine r_iald hx hb hK hR k2.1 k2.2 dX11_come_63 ?_
    refine lv_icmp_ge (tgt := 111) hx hb dX11_come_64 (by decide) (fun c4 => ?_) (fun c4 => ?_)
    · replace hp := ite_p hp c4
      refine lv_iconst (v := iI 0) hx hb dX11_come_111 rfl ?_
      refine lv_topi (fun x5 ex5 => ?_)
      replace hp := nm_i hp ex5
      refine z_istore (lv' := [(4, .int x5), (0, zr v0), (1, .int v1), (3, .int v3)]) hx hb dX11_come_112 hl (by decide) rfl (fun ls hl => ?_)
      exact s_X11_come_114 C  _ _ _ _ _ _ _ _ _ _ _ hR hL (zl_sub hl [1, 2, 3, 0] rfl) hp
    · replace hp := ite_n hp c4
      refine lv_sipush (v := iI 150) hx hb dX11_come_67 (by decide +kernel) ?_
      refine lv_iload_n hx hb dX11_come_70 rfl (zl_at hl 1 rfl) ?_
      refine lv_imul hx hb dX11_come_71 ?_
      refine lv_iload hx hb dX11_come_72 (zl_at hl 3 rfl) ?_
      refine lv_iadd hx hb dX11_come_74 ?_
      refine lv_topi (fun x6 ex6 => ?_)
      replace hp := nm_i hp ex6
      refine z_istore (lv' := [(5, .int x6), (0, zr v0), (1, .int v1), (3, .int v3), (4, .int v4)]) hx hb dX11_come_75 hl (by decide) rfl (fun ls hl => ?_)
      refine z_aload_n hx hb dX11_come_77 rfl (zl_at hl 1 rfl) ?_
      obtain ⟨k7, hp⟩ := ck_i hp
      refine r_get (ci := 12) (C := RX11) (T := TX11) (N := 32) (v := zr (aR h v0 14)) hx hb hm ii_X11 hown hK hR rfl k7 14 (by decide) (hm _ mw_996) (fun _ h9 => h9) rfl dX11_come_78 ?_
      refine lv_iload hx hb dX11_come_81 (zl_at hl 0 rfl) ?_
      refine z_aload_n hx hb dX11_come_83 rfl (zl_at hl 1 rfl) ?_
      refine lv_iload_n hx hb dX11_come_84 rfl (zl_at hl 2 rfl) ?_
      refine lv_iload hx hb dX11_come_85 (zl_at hl 4 rfl) ?_
      obtain ⟨k8, hp⟩ := ck_i hp
      obtain ⟨r9, h10, er9, hp⟩ := bR_i hp
      refine r_callV (ci := 12) (r := (RX11, TX11, 32)) (n := 2) (As := [.int v1, .int v4]) (rest := [.int x6, zr (aR h v0 14)]) C (c_X11_isSpared l G v0 v1 v4 h r9 h10 er9) hR hL rfl k8 mw_1208 mw_1210 mp_35 mw_10 mw_1211 (by decide +kernel) (by decide) rfl (zl_size hl) rfl (by simp [zr_cat, in_cat]) dX11_come_87 (st2 := [.int r9, .int x6, zr (aR h v0 14)]) rfl (fun H locs cells slots hR hL => ?_)
      refine lv_if_eq (tgt := 97) hx hb dX11_come_90 (by decide) (fun c11 => ?_) (fun c11 => ?_)
      · replace hp := ite_p hp c11
        refine z_aload_n hx hb dX11_come_97 rfl (zl_at hl 1 rfl) ?_
        obtain ⟨k12, hp⟩ := ck_i hp
        refine r_get (ci := 12) (C := RX11) (T := TX11) (N := 32) (v := zr (aR h10 v0 14)) hx hb hm ii_X11 hown hK hR rfl k12 14 (by decide) (hm _ mw_996) (fun _ h9 => h9) rfl dX11_come_98 ?_
        refine lv_iload hx hb dX11_come_101 (zl_at hl 0 rfl) ?_
        obtain ⟨k13, hp⟩ := ck_i hp
        refine r_iald hx hb hK hR k13.1 k13.2 dX11_come_103 ?_
        exact s_X11_come_104 C (fun hR hL hl hp => ih _ _ _ _ _ _ _ _ _ _ hR hL hl hp) hR hL (zl_sub hl [1, 2, 3, 4] rfl) hp
      · replace hp := ite_n hp c11
        refine lv_iconst (v := iI (-1)) hx hb dX11_come_93 rfl ?_
        refine lv_goto (tgt := 104) hx hb dX11_come_94 (by decide) ?_
        exact s_X11_come_104 C (fun hR hL hl hp => ih _ _ _ _ _ _ _ _ _ _ hR hL hl hp) hR hL (zl_sub hl [1, 2, 3, 4] rfl) hp
def p_X11_come_26  (v0 : Nat) (v1 : Int32) (s0 : Nat) (s1 : Int32) (s2 : Int32) (h : AH) : Option (Int32 × AH) :=
  ck (aK h s0 = 13) <|
  bR (p_X11_goes s0 s1 s2 (iI 1) h) fun r2 h3 =>
  if r2 = 0 then
    some ((iI 0), h3)
  else
    ck (aK h3 v0 = 13) <|
    ck (aK h3 v0 = 13) <|
    bR (p_X11_sparedNow v0 v1 h3) fun r7 h8 =>
    ck (aK h8 (aR h3 v0 12) = 20 ∧ ix v1 (aN h8 (aR h3 v0 12))) <|
    nm (uI h8 (aR h3 v0 12) v1.toNatClampNeg r7) fun h11 =>
    ck (aK h11 v0 = 13) <|
    ck (aK h11 (aR h11 v0 9) = 20 ∧ ix v1 (aN h11 (aR h11 v0 9))) <|
    nm ((aI h11 (aR h11 v0 9) v1.toNatClampNeg)) fun (x15 : Int32) =>
    nm ((iI 0)) fun (x16 : Int32) =>
    p_X11_come_56  FU v0 v1 x15 x16 h11
set_option maxHeartbeats 4000000 in
set_option maxRecDepth 100000 in
theorem s_X11_come_26 {p : Program} {l : Launch} {e : Env} {s : State} {m : MethodId} {args : Array Value} {below : List Frame} {meth : Method} {c : Code} {G : GG} {hs : AH} {r : Int32} {h' : AH} (C : Cx G hs p s m args meth c cX11_come 6 RX11 (.code yX11_come cX11_come 6 (some .int) :: MW) (some .int) "come")   {v0 : Nat} {v1 : Int32} {s0 : Nat} {s1 : Int32} {s2 : Int32} {h : AH} {H : Heap} {locs : List Loc} {cells slots : Nat} {ls : Array Slot} (hR : Rp G h H) (hL : ∀ q ∈ locs, gB G ≤ q.base) (hl : zl ls 6 [(0, zr v0), (1, .int v1)]) (hp : p_X11_come_26  v0 v1 s0 s1 s2 h = some (r, h')) : W p l e (gR G hs 5 138) s m args below meth c H locs cells slots (MQ below (Qcc G (some (.int r)) h') args s (gC G - aZ hs) (gS - aU hs) (fun q => gB G ≤ q)) (F0 m 26 ls [.int s2, .int s1, zr s0]) := by
  obtain ⟨hx, hb, hml, hown, hts, hT, hK, rs, hlk, hret, hnm⟩ := id C
  have hm : ∀ w ∈ MW, w.before args s = true := fun w hw => hts w (hT w hw)
  unfold p_X11_come_26 at hp
  refine lv_iconst (v := iI 1) hx hb dX11_come_26 rfl ?_
  obtain ⟨k1, hp⟩ := ck_i hp
  obtain ⟨r2, h3, er2, hp⟩ := bR_i hp
  refine r_callV (ci := 12) (r := (RX11, TX11, 32)) (n := 3) (As := [.int s1, .int s2, .int (iI 1)]) (rest := []) C (c_X11_goes l G s0 s1 s2 (iI 1) h r2 h3 er2) hR hL rfl k1 mw_1096 mw_1098 mp_19 mw_10 mw_1099 (by decide +kernel) (by decide) rfl (zl_size hl) rfl (by simp [zr_cat, in_cat]) dX11_come_27 (st2 := [.int r2]) rfl (fun H locs cells slots hR hL => ?_)
  refine lv_if_ne (tgt := 35) hx hb dX11_come_30 (by decide) (fun c4 => ?_) (fun c4 => ?_)
  · replace hp := ite_n hp c4
    refine z_aload_n hx hb dX11_come_35 rfl (zl_at hl 0 rfl) ?_
    obtain ⟨k5, hp⟩ := ck_i hp
    refine r_get (ci := 12) (C := RX11) (T := TX11) (N := 32) (v := zr (aR h3 v0 12)) hx hb hm ii_X11 hown hK hR rfl k5 12 (by decide) (hm _ mw_994) (fun _ h9 => h9) rfl dX11_come_36 ?_
    refine lv_iload_n hx hb dX11_come_39 rfl (zl_at hl 1 rfl) ?_
    refine z_aload_n hx hb dX11_come_40 rfl (zl_at hl 0 rfl) ?_
    refine lv_iload_n hx hb dX11_come_41 rfl (zl_at hl 1 rfl) ?_
    obtain ⟨k6, hp⟩ := ck_i hp
    obtain ⟨r7, h8, er7, hp⟩ := bR_i hp
    refine r_callV (ci := 12) (r := (RX11, TX11, 32)) (n := 1) (As := [.int v1]) (rest := [.int v1, zr (aR h3 v0 12)]) C (c_X11_sparedNow l G v0 v1 h3 r7 h8 er7) hR hL rfl k6 mw_1204 mw_1206 mp_34 mw_10 mw_1207 (by decide +kernel) (by decide) rfl (zl_size hl) rfl (by simp [zr_cat, in_cat]) dX11_come_42 (st2 := [.int r7, .int v1, zr (aR h3 v0 12)]) rfl (fun H locs cells slots hR hL => ?_)
    obtain ⟨k9, hp⟩ := ck_i hp
    refine r_iast hx hb hK hR hL k9.1 k9.2 dX11_come_45 (fun H locs hR hL => ?_)
    obtain ⟨h11, hp, hR⟩ := nm_h hp hR
    refine z_aload_n hx hb dX11_come_46 rfl (zl_at hl 0 rfl) ?_
    obtain ⟨k12, hp⟩ := ck_i hp
    refine r_get (ci := 12) (C := RX11) (T := TX11) (N := 32) (v := zr (aR h11 v0 9)) hx hb hm ii_X11 hown hK hR rfl k12 9 (by decide) (hm _ mw_991) (fun _ h9 => h9) rfl dX11_come_47 ?_
    refine lv_iload_n hx hb dX11_come_50 rfl (zl_at hl 1 rfl) ?_
    obtain ⟨k13, hp⟩ := ck_i hp
    refine r_iald hx hb hK hR k13.1 k13.2 dX11_come_51 ?_
    refine lv_topi (fun x15 ex15 => ?_)
    replace hp := nm_i hp ex15
    refine z_istore_n (lv' := [(3, .int x15), (0, zr v0), (1, .int v1)]) hx hb dX11_come_52 rfl hl (by decide) rfl (fun ls hl => ?_)
    refine lv_iconst (v := iI 0) hx hb dX11_come_53 rfl ?_
    refine lv_topi (fun x16 ex16 => ?_)
    replace hp := nm_i hp ex16
    refine z_istore (lv' := [(4, .int x16), (3, .int x15), (0, zr v0), (1, .int v1)]) hx hb dX11_come_54 hl (by decide) rfl (fun ls hl => ?_)
    exact s_X11_come_56 C  _ _ _ _ _ _ _ _ _ _ _ hR hL (zl_sub hl [2, 3, 1, 0] rfl) hp
  · replace hp := ite_p hp c4
    refine lv_iconst (v := iI 0) hx hb dX11_come_33 rfl ?_
    cases hp
    exact r_zret C hR hL rfl dX11_come_34
def p_X11_come_25  (v0 : Nat) (v1 : Int32) (s0 : Nat) (s1 : Int32) (h : AH) : Option (Int32 × AH) :=
  p_X11_come_26  v0 v1 s0 s1 (iI 0) h
set_option maxHeartbeats 4000000 in
set_option maxRecDepth 100000 in
theorem s_X11_come_25 {p : Program} {l : Launch} {e : Env} {s : State} {m : MethodId} {args : Array Value} {below : List Frame} {meth : Method} {c : Code} {G : GG} {hs : AH} {r : Int32} {h' : AH} (C : Cx G hs p s m args meth c cX11_come 6 RX11 (.code yX11_come cX11_come 6 (some .int) :: MW) (some .int) "come")   {v0 : Nat} {v1 : Int32} {s0 : Nat} {s1 : Int32} {h : AH} {H : Heap} {locs : List Loc} {cells slots : Nat} {ls : Array Slot} (hR : Rp G h H) (hL : ∀ q ∈ locs, gB G ≤ q.base) (hl : zl ls 6 [(0, zr v0), (1, .int v1)]) (hp : p_X11_come_25  v0 v1 s0 s1 h = some (r, h')) : W p l e (gR G hs 5 138) s m args below meth c H locs cells slots (MQ below (Qcc G (some (.int r)) h') args s (gC G - aZ hs) (gS - aU hs) (fun q => gB G ≤ q)) (F0 m 25 ls [.int s1, zr s0]) := by
  obtain ⟨hx, hb, hml, hown, hts, hT, hK, rs, hlk, hret, hnm⟩ := id C
  have hm : ∀ w ∈ MW, w.before args s = true := fun w hw => hts w (hT w hw)
  unfold p_X11_come_25 at hp
  refine lv_iconst (v := iI 0) hx hb dX11_come_25 rfl ?_
  exact s_X11_come_26 C  hR hL (zl_sub hl [0, 1] rfl) hp
def p_X11_come_0  (v0 : Nat) (v1 : Int32) (h : AH) : Option (Int32 × AH) :=
  ck (aK h v0 = 13) <|
  bR (p_X11_isFormat v0 v1 h) fun r2 h3 =>
  if r2 = 0 then
    p_X11_come_25  v0 v1 v0 r2 h3
  else
    ck (aK h3 v0 = 13) <|
    ck (aK h3 (aR h3 v0 10) = 20 ∧ ix v1 (aN h3 (aR h3 v0 10))) <|
    if (aI h3 (aR h3 v0 10) v1.toNatClampNeg) = 0 then
      p_X11_come_26  v0 v1 v0 r2 (iI 1) h3
    else
      p_X11_come_25  v0 v1 v0 r2 h3
set_option maxHeartbeats 4000000 in
set_option maxRecDepth 100000 in
theorem s_X11_come_0 {p : Program} {l : Launch} {e : Env} {s : State} {m : MethodId} {args : Array Value} {below : List Frame} {meth : Method} {c : Code} {G : GG} {hs : AH} {r : Int32} {h' : AH} (C : Cx G hs p s m args meth c cX11_come 6 RX11 (.code yX11_come cX11_come 6 (some .int) :: MW) (some .int) "come")   {v0 : Nat} {v1 : Int32} {h : AH} {H : Heap} {locs : List Loc} {cells slots : Nat} {ls : Array Slot} (hR : Rp G h H) (hL : ∀ q ∈ locs, gB G ≤ q.base) (hl : zl ls 6 [(0, zr v0), (1, .int v1)]) (hp : p_X11_come_0  v0 v1 h = some (r, h')) : W p l e (gR G hs 5 138) s m args below meth c H locs cells slots (MQ below (Qcc G (some (.int r)) h') args s (gC G - aZ hs) (gS - aU hs) (fun q => gB G ≤ q)) (F0 m 0 ls []) := by
  obtain ⟨hx, hb, hml, hown, hts, hT, hK, rs, hlk, hret, hnm⟩ := id C
  have hm : ∀ w ∈ MW, w.before args s = true := fun w hw => hts w (hT w hw)
  unfold p_X11_come_0 at hp
  refine z_aload_n hx hb dX11_come_0 rfl (zl_at hl 0 rfl) ?_
  refine lv_iload_n hx hb dX11_come_1 rfl (zl_at hl 1 rfl) ?_
  obtain ⟨k1, hp⟩ := ck_i hp
  obtain ⟨r2, h3, er2, hp⟩ := bR_i hp
  refine r_callV (ci := 12) (r := (RX11, TX11, 32)) (n := 1) (As := [.int v1]) (rest := []) C (c_X11_isFormat l G v0 v1 h r2 h3 er2) hR hL rfl k1 mw_1200 mw_1202 mp_33 mw_10 mw_1203 (by decide +kernel) (by decide) rfl (zl_size hl) rfl (by simp [zr_cat, in_cat]) dX11_come_2 (st2 := [.int r2]) rfl (fun H locs cells slots hR hL => ?_)
  refine z_istore_n (lv' := [(2, .int r2), (0, zr v0), (1, .int v1)]) hx hb dX11_come_5 rfl hl (by decide) rfl (fun ls hl => ?_)
  refine z_aload_n hx hb dX11_come_6 rfl (zl_at hl 1 rfl) ?_
  refine lv_iload_n hx hb dX11_come_7 rfl (zl_at hl 0 rfl) ?_
  refine lv_iload_n hx hb dX11_come_8 rfl (zl_at hl 0 rfl) ?_
  refine lv_if_eq (tgt := 25) hx hb dX11_come_9 (by decide) (fun c4 => ?_) (fun c4 => ?_)
  · replace hp := ite_p hp c4
    exact s_X11_come_25 C  hR hL (zl_sub hl [1, 2] rfl) hp
  · replace hp := ite_n hp c4
    refine z_aload_n hx hb dX11_come_12 rfl (zl_at hl 1 rfl) ?_
    obtain ⟨k5, hp⟩ := ck_i hp
    refine r_get (ci := 12) (C := RX11) (T := TX11) (N := 32) (v := zr (aR h3 v0 10)) hx hb hm ii_X11 hown hK hR rfl k5 10 (by decide) (hm _ mw_992) (fun _ h9 => h9) rfl dX11_come_13 ?_
    refine lv_iload_n hx hb dX11_come_16 rfl (zl_at hl 2 rfl) ?_
    obtain ⟨k6, hp⟩ := ck_i hp
    refine r_iald hx hb hK hR k6.1 k6.2 dX11_come_17 ?_
    refine lv_if_ne (tgt := 25) hx hb dX11_come_18 (by decide) (fun c8 => ?_) (fun c8 => ?_)
    · replace hp := ite_n hp c8
      exact s_X11_come_25 C  hR hL (zl_sub hl [1, 2] rfl) hp
    · replace hp := ite_p hp c8
      refine lv_iconst (v := iI 1) hx hb dX11_come_21 rfl ?_
      refine lv_goto (tgt := 26) hx hb dX11_come_22 (by decide) ?_
      exact s_X11_come_26 C  hR hL (zl_sub hl [1, 2] rfl) hp
def p_X11_come (v0 : Nat) (v1 : Int32) (h : AH) : Option (Int32 × AH) := ck (v0 ≠ 0) <| p_X11_come_0 v0 v1 h
theorem c_X11_come (l : Launch) (G : GG) (v0 : Nat) (v1 : Int32) (h : AH) (r : Int32) (h' : AH) (hp : p_X11_come v0 v1 h = some (r, h')) : Ct l yX11_come (.code yX11_come cX11_come 6 (some .int) :: MW) G 5 138 [.ref (v0 - 1), .int v1] h (some (.int r)) h' := by
  obtain ⟨hz0, hp⟩ := ck_i hp
  refine Ct.of (by decide +kernel) (Nat.le_of_ble_eq_true rfl) ?_
  intro p e s m args below meth c C hR ls hl
  have hl : zl ls 6 [(0, zr v0), (1, .int v1)] := ⟨by rw [zr_p hz0]; exact hl, by simp [zr_cat, in_cat]⟩
  exact s_X11_come_0 C hR (fun _ hq => nomatch hq) hl hp
/-! CursorKeepModel.drop(I)I -/
def p_X11_drop_26  (v0 : Nat) (v1 : Int32) (s0 : Nat) (s1 : Int32) (s2 : Int32) (h : AH) : Option (Int32 × AH) :=
  ck (aK h s0 = 13) <|
  bR (p_X11_goes s0 s1 s2 (iI 1) h) fun r2 h3 =>
  if r2 = 0 then
    some ((iI 0), h3)
  else
    ck (aK h3 v0 = 13) <|
    ck (aK h3 (aR h3 v0 10) = 20 ∧ ix v1 (aN h3 (aR h3 v0 10))) <|
    nm (uI h3 (aR h3 v0 10) v1.toNatClampNeg (iI 2)) fun h8 =>
    ck (aK h8 v0 = 13) <|
    ck (aK h8 (aR h8 v0 11) = 20 ∧ ix v1 (aN h8 (aR h8 v0 11))) <|
    some ((aI h8 (aR h8 v0 11) v1.toNatClampNeg), h8)
set_option maxHeartbeats 4000000 in
set_option maxRecDepth 100000 in
theorem s_X11_drop_26 {p : Program} {l : Launch} {e : Env} {s : State} {m : MethodId} {args : Array Value} {below : List Frame} {meth : Method} {c : Code} {G : GG} {hs : AH} {r : Int32} {h' : AH} (C : Cx G hs p s m args meth c cX11_drop 3 RX11 (.code yX11_drop cX11_drop 3 (some .int) :: MW) (some .int) "drop")   {v0 : Nat} {v1 : Int32} {s0 : Nat} {s1 : Int32} {s2 : Int32} {h : AH} {H : Heap} {locs : List Loc} {cells slots : Nat} {ls : Array Slot} (hR : Rp G h H) (hL : ∀ q ∈ locs, gB G ≤ q.base) (hl : zl ls 3 [(0, zr v0), (1, .int v1)]) (hp : p_X11_drop_26  v0 v1 s0 s1 s2 h = some (r, h')) : W p l e (gR G hs 3 82) s m args below meth c H locs cells slots (MQ below (Qcc G (some (.int r)) h') args s (gC G - aZ hs) (gS - aU hs) (fun q => gB G ≤ q)) (F0 m 26 ls [.int s2, .int s1, zr s0]) := by
  obtain ⟨hx, hb, hml, hown, hts, hT, hK, rs, hlk, hret, hnm⟩ := id C
  have hm : ∀ w ∈ MW, w.before args s = true := fun w hw => hts w (hT w hw)
  unfold p_X11_drop_26 at hp
  refine lv_iconst (v := iI 1) hx hb dX11_drop_26 rfl ?_
  obtain ⟨k1, hp⟩ := ck_i hp
  obtain ⟨r2, h3, er2, hp⟩ := bR_i hp
  refine r_callV (ci := 12) (r := (RX11, TX11, 32)) (n := 3) (As := [.int s1, .int s2, .int (iI 1)]) (rest := []) C (c_X11_goes l G s0 s1 s2 (iI 1) h r2 h3 er2) hR hL rfl k1 mw_1096 mw_1098 mp_19 mw_10 mw_1099 (by decide +kernel) (by decide) rfl (zl_size hl) rfl (by simp [zr_cat, in_cat]) dX11_drop_27 (st2 := [.int r2]) rfl (fun H locs cells slots hR hL => ?_)
  refine lv_if_ne (tgt := 35) hx hb dX11_drop_30 (by decide) (fun c4 => ?_) (fun c4 => ?_)
  · replace hp := ite_n hp c4
    refine z_aload_n hx hb dX11_drop_35 rfl (zl_at hl 0 rfl) ?_
    obtain ⟨k5, hp⟩ := ck_i hp
    refine r_get (ci := 12) (C := RX11) (T := TX11) (N := 32) (v := zr (aR h3 v0 10)) hx hb hm ii_X11 hown hK hR rfl k5 10 (by decide) (hm _ mw_992) (fun _ h9 => h9) rfl dX11_drop_36 ?_
    refine lv_iload_n hx hb dX11_drop_39 rfl (zl_at hl 1 rfl) ?_
    refine lv_iconst (v := iI 2) hx hb dX11_drop_40 rfl ?_
    obtain ⟨k6, hp⟩ := ck_i hp
    refine r_iast hx hb hK hR hL k6.1 k6.2 dX11_drop_41 (fun H locs hR hL => ?_)
    obtain ⟨h8, hp, hR⟩ := nm_h hp hR
    refine z_aload_n hx hb dX11_drop_42 rfl (zl_at hl 0 rfl) ?_
    obtain ⟨k9, hp⟩ := ck_i hp
    refine r_get (ci := 12) (C := RX11) (T := TX11) (N := 32) (v := zr (aR h8 v0 11)) hx hb hm ii_X11 hown hK hR rfl k9 11 (by decide) (hm _ mw_993) (fun _ h9 => h9) rfl dX11_drop_43 ?_
    refine lv_iload_n hx hb dX11_drop_46 rfl (zl_at hl 1 rfl) ?_
    obtain ⟨k10, hp⟩ := ck_i hp
    refine r_iald hx hb hK hR k10.1 k10.2 dX11_drop_47 ?_
    cases hp
    exact r_zret C hR hL rfl dX11_drop_48
  · replace hp := ite_p hp c4
    refine lv_iconst (v := iI 0) hx hb dX11_drop_33 rfl ?_
    cases hp
    exact r_zret C hR hL rfl dX11_drop_34
def p_X11_drop_25  (v0 : Nat) (v1 : Int32) (s0 : Nat) (s1 : Int32) (h : AH) : Option (Int32 × AH) :=
  p_X11_drop_26  v0 v1 s0 s1 (iI 0) h
set_option maxHeartbeats 4000000 in
set_option maxRecDepth 100000 in
theorem s_X11_drop_25 {p : Program} {l : Launch} {e : Env} {s : State} {m : MethodId} {args : Array Value} {below : List Frame} {meth : Method} {c : Code} {G : GG} {hs : AH} {r : Int32} {h' : AH} (C : Cx G hs p s m args meth c cX11_drop 3 RX11 (.code yX11_drop cX11_drop 3 (some .int) :: MW) (some .int) "drop")   {v0 : Nat} {v1 : Int32} {s0 : Nat} {s1 : Int32} {h : AH} {H : Heap} {locs : List Loc} {cells slots : Nat} {ls : Array Slot} (hR : Rp G h H) (hL : ∀ q ∈ locs, gB G ≤ q.base) (hl : zl ls 3 [(0, zr v0), (1, .int v1)]) (hp : p_X11_drop_25  v0 v1 s0 s1 h = some (r, h')) : W p l e (gR G hs 3 82) s m args below meth c H locs cells slots (MQ below (Qcc G (some (.int r)) h') args s (gC G - aZ hs) (gS - aU hs) (fun q => gB G ≤ q)) (F0 m 25 ls [.int s1, zr s0]) := by
  obtain ⟨hx, hb, hml, hown, hts, hT, hK, rs, hlk, hret, hnm⟩ := id C
  have hm : ∀ w ∈ MW, w.before args s = true := fun w hw => hts w (hT w hw)
  unfold p_X11_drop_25 at hp
  refine lv_iconst (v := iI 0) hx hb dX11_drop_25 rfl ?_
  exact s_X11_drop_26 C  hR hL (zl_sub hl [0, 1] rfl) hp
def p_X11_drop_0  (v0 : Nat) (v1 : Int32) (h : AH) : Option (Int32 × AH) :=
  ck (aK h v0 = 13) <|
  bR (p_X11_isFormat v0 v1 h) fun r2 h3 =>
  if r2 = 0 then
    p_X11_drop_25  v0 v1 v0 r2 h3
  else
    ck (aK h3 v0 = 13) <|
    ck (aK h3 (aR h3 v0 10) = 20 ∧ ix v1 (aN h3 (aR h3 v0 10))) <|
    if (aI h3 (aR h3 v0 10) v1.toNatClampNeg) = 0 then
      p_X11_drop_26  v0 v1 v0 r2 (iI 1) h3
    else
      p_X11_drop_25  v0 v1 v0 r2 h3
set_option maxHeartbeats 4000000 in
set_option maxRecDepth 100000 in
theorem s_X11_drop_0 {p : Program} {l : Launch} {e : Env} {s : State} {m : MethodId} {args : Array Value} {below : List Frame} {meth : Method} {c : Code} {G : GG} {hs : AH} {r : Int32} {h' : AH} (C : Cx G hs p s m args meth c cX11_drop 3 RX11 (.code yX11_drop cX11_drop 3 (some .int) :: MW) (some .int) "drop")   {v0 : Nat} {v1 : Int32} {h : AH} {H : Heap} {locs : List Loc} {cells slots : Nat} {ls : Array Slot} (hR : Rp G h H) (hL : ∀ q ∈ locs, gB G ≤ q.base) (hl : zl ls 3 [(0, zr v0), (1, .int v1)]) (hp : p_X11_drop_0  v0 v1 h = some (r, h')) : W p l e (gR G hs 3 82) s m args below meth c H locs cells slots (MQ below (Qcc G (some (.int r)) h') args s (gC G - aZ hs) (gS - aU hs) (fun q => gB G ≤ q)) (F0 m 0 ls []) := by
  obtain ⟨hx, hb, hml, hown, hts, hT, hK, rs, hlk, hret, hnm⟩ := id C
  have hm : ∀ w ∈ MW, w.before args s = true := fun w hw => hts w (hT w hw)
  unfold p_X11_drop_0 at hp
  refine z_aload_n hx hb dX11_drop_0 rfl (zl_at hl 0 rfl) ?_
  refine lv_iload_n hx hb dX11_drop_1 rfl (zl_at hl 1 rfl) ?_
  obtain ⟨k1, hp⟩ := ck_i hp
  obtain ⟨r2, h3, er2, hp⟩ := bR_i hp
  refine r_callV (ci := 12) (r := (RX11, TX11, 32)) (n := 1) (As := [.int v1]) (rest := []) C (c_X11_isFormat l G v0 v1 h r2 h3 er2) hR hL rfl k1 mw_1200 mw_1202 mp_33 mw_10 mw_1203 (by decide +kernel) (by decide) rfl (zl_size hl) rfl (by simp [zr_cat, in_cat]) dX11_drop_2 (st2 := [.int r2]) rfl (fun H locs cells slots hR hL => ?_)
  refine z_istore_n (lv' := [(2, .int r2), (0, zr v0), (1, .int v1)]) hx hb dX11_drop_5 rfl hl (by decide) rfl (fun ls hl => ?_)
  refine z_aload_n hx hb dX11_drop_6 rfl (zl_at hl 1 rfl) ?_
  refine lv_iload_n hx hb dX11_drop_7 rfl (zl_at hl 0 rfl) ?_
  refine lv_iload_n hx hb dX11_drop_8 rfl (zl_at hl 0 rfl) ?_
  refine lv_if_eq (tgt := 25) hx hb dX11_drop_9 (by decide) (fun c4 => ?_) (fun c4 => ?_)
  · replace hp := ite_p hp c4
    exact s_X11_drop_25 C  hR hL (zl_sub hl [1, 2] rfl) hp
  · replace hp := ite_n hp c4
    refine z_aload_n hx hb dX11_drop_12 rfl (zl_at hl 1 rfl) ?_
    obtain ⟨k5, hp⟩ := ck_i hp
    refine r_get (ci := 12) (C := RX11) (T := TX11) (N := 32) (v := zr (aR h3 v0 10)) hx hb hm ii_X11 hown hK hR rfl k5 10 (by decide) (hm _ mw_992) (fun _ h9 => h9) rfl dX11_drop_13 ?_
    refine lv_iload_n hx hb dX11_drop_16 rfl (zl_at hl 2 rfl) ?_
    obtain ⟨k6, hp⟩ := ck_i hp
    refine r_iald hx hb hK hR k6.1 k6.2 dX11_drop_17 ?_
    refine lv_if_ne (tgt := 25) hx hb dX11_drop_18 (by decide) (fun c8 => ?_) (fun c8 => ?_)
    · replace hp := ite_n hp c8
      exact s_X11_drop_25 C  hR hL (zl_sub hl [1, 2] rfl) hp
    · replace hp := ite_p hp c8
      refine lv_iconst (v := iI 1) hx hb dX11_drop_21 rfl ?_
      refine lv_goto (tgt := 26) hx hb dX11_drop_22 (by decide) ?_
      exact s_X11_drop_26 C  hR hL (zl_sub hl [1, 2] rfl) hp
def p_X11_drop (v0 : Nat) (v1 : Int32) (h : AH) : Option (Int32 × AH) := ck (v0 ≠ 0) <| p_X11_drop_0 v0 v1 h
theorem c_X11_drop (l : Launch) (G : GG) (v0 : Nat) (v1 : Int32) (h : AH) (r : Int32) (h' : AH) (hp : p_X11_drop v0 v1 h = some (r, h')) : Ct l yX11_drop (.code yX11_drop cX11_drop 3 (some .int) :: MW) G 3 82 [.ref (v0 - 1), .int v1] h (some (.int r)) h' := by
  obtain ⟨hz0, hp⟩ := ck_i hp
  refine Ct.of (by decide +kernel) (Nat.le_of_ble_eq_true rfl) ?_
  intro p e s m args below meth c C hR ls hl
  have hl : zl ls 3 [(0, zr v0), (1, .int v1)] := ⟨by rw [zr_p hz0]; exact hl, by simp [zr_cat, in_cat]⟩
  exact s_X11_drop_0 C hR (fun _ hq => nomatch hq) hl hp
/-! CursorKeepModel.state(I)I -/
def p_X11_state_24  (s0 : Int32) (h : AH) : Option (Int32 × AH) :=
  some (s0, h)
set_option maxHeartbeats 4000000 in
set_option maxRecDepth 100000 in
theorem s_X11_state_24 {p : Program} {l : Launch} {e : Env} {s : State} {m : MethodId} {args : Array Value} {below : List Frame} {meth : Method} {c : Code} {G : GG} {hs : AH} {r : Int32} {h' : AH} (C : Cx G hs p s m args meth c cX11_state 2 RX11 (.code yX11_state cX11_state 2 (some .int) :: MW) (some .int) "state")   {s0 : Int32} {h : AH} {H : Heap} {locs : List Loc} {cells slots : Nat} {ls : Array Slot} (hR : Rp G h H) (hL : ∀ q ∈ locs, gB G ≤ q.base) (hl : zl ls 2 []) (hp : p_X11_state_24  s0 h = some (r, h')) : W p l e (gR G hs 3 82) s m args below meth c H locs cells slots (MQ below (Qcc G (some (.int r)) h') args s (gC G - aZ hs) (gS - aU hs) (fun q => gB G ≤ q)) (F0 m 24 ls [.int s0]) := by
  obtain ⟨hx, hb, hml, hown, hts, hT, hK, rs, hlk, hret, hnm⟩ := id C
  have hm : ∀ w ∈ MW, w.before args s = true := fun w hw => hts w (hT w hw)
  unfold p_X11_state_24 at hp
  cases hp
  exact r_zret C hR hL rfl dX11_state_24
def p_X11_state_0  (v0 : Nat) (v1 : Int32) (h : AH) : Option (Int32 × AH) :=
  ck (aK h v0 = 13) <|
  bR (p_X11_isFormat v0 v1 h) fun r2 h3 =>
  ck (aK h3 v0 = 13) <|
  bR (p_X11_goes v0 r2 (iI 1) (iI 1) h3) fun r5 h6 =>
  if r5 = 0 then
    p_X11_state_24  (iI 0) h6
  else
    ck (aK h6 v0 = 13) <|
    ck (aK h6 (aR h6 v0 10) = 20 ∧ ix v1 (aN h6 (aR h6 v0 10))) <|
    p_X11_state_24  (aI h6 (aR h6 v0 10) v1.toNatClampNeg) h6
set_option maxHeartbeats 4000000 in
set_option maxRecDepth 100000 in
theorem s_X11_state_0 {p : Program} {l : Launch} {e : Env} {s : State} {m : MethodId} {args : Array Value} {below : List Frame} {meth : Method} {c : Code} {G : GG} {hs : AH} {r : Int32} {h' : AH} (C : Cx G hs p s m args meth c cX11_state 2 RX11 (.code yX11_state cX11_state 2 (some .int) :: MW) (some .int) "state")   {v0 : Nat} {v1 : Int32} {h : AH} {H : Heap} {locs : List Loc} {cells slots : Nat} {ls : Array Slot} (hR : Rp G h H) (hL : ∀ q ∈ locs, gB G ≤ q.base) (hl : zl ls 2 [(0, zr v0), (1, .int v1)]) (hp : p_X11_state_0  v0 v1 h = some (r, h')) : W p l e (gR G hs 3 82) s m args below meth c H locs cells slots (MQ below (Qcc G (some (.int r)) h') args s (gC G - aZ hs) (gS - aU hs) (fun q => gB G ≤ q)) (F0 m 0 ls []) := by
  obtain ⟨hx, hb, hml, hown, hts, hT, hK, rs, hlk, hret, hnm⟩ := id C
  have hm : ∀ w ∈ MW, w.before args s = true := fun w hw => hts w (hT w hw)
  unfold p_X11_state_0 at hp
  refine z_aload_n hx hb dX11_state_0 rfl (zl_at hl 0 rfl) ?_
  refine z_aload_n hx hb dX11_state_1 rfl (zl_at hl 0 rfl) ?_
  refine lv_iload_n hx hb dX11_state_2 rfl (zl_at hl 1 rfl) ?_
  obtain ⟨k1, hp⟩ := ck_i hp
  obtain ⟨r2, h3, er2, hp⟩ := bR_i hp
  refine r_callV (ci := 12) (r := (RX11, TX11, 32)) (n := 1) (As := [.int v1]) (rest := [zr v0]) C (c_X11_isFormat l G v0 v1 h r2 h3 er2) hR hL rfl k1 mw_1200 mw_1202 mp_33 mw_10 mw_1203 (by decide +kernel) (by decide) rfl (zl_size hl) rfl (by simp [zr_cat, in_cat]) dX11_state_3 (st2 := [.int r2, zr v0]) rfl (fun H locs cells slots hR hL => ?_)
  refine lv_iconst (v := iI 1) hx hb dX11_state_6 rfl ?_
  refine lv_iconst (v := iI 1) hx hb dX11_state_7 rfl ?_
  obtain ⟨k4, hp⟩ := ck_i hp
  obtain ⟨r5, h6, er5, hp⟩ := bR_i hp
  refine r_callV (ci := 12) (r := (RX11, TX11, 32)) (n := 3) (As := [.int r2, .int (iI 1), .int (iI 1)]) (rest := []) C (c_X11_goes l G v0 r2 (iI 1) (iI 1) h3 r5 h6 er5) hR hL rfl k4 mw_1096 mw_1098 mp_19 mw_10 mw_1099 (by decide +kernel) (by decide) rfl (zl_size hl) rfl (by simp [zr_cat, in_cat]) dX11_state_8 (st2 := [.int r5]) rfl (fun H locs cells slots hR hL => ?_)
  refine lv_if_eq (tgt := 23) hx hb dX11_state_11 (by decide) (fun c7 => ?_) (fun c7 => ?_)
  · replace hp := ite_p hp c7
    refine lv_iconst (v := iI 0) hx hb dX11_state_23 rfl ?_
    exact s_X11_state_24 C  hR hL (zl_sub hl [] rfl) hp
  · replace hp := ite_n hp c7
    refine z_aload_n hx hb dX11_state_14 rfl (zl_at hl 0 rfl) ?_
    obtain ⟨k8, hp⟩ := ck_i hp
    refine r_get (ci := 12) (C := RX11) (T := TX11) (N := 32) (v := zr (aR h6 v0 10)) hx hb hm ii_X11 hown hK hR rfl k8 10 (by decide) (hm _ mw_992) (fun _ h9 => h9) rfl dX11_state_15 ?_
    refine lv_iload_n hx hb dX11_state_18 rfl (zl_at hl 1 rfl) ?_
    obtain ⟨k9, hp⟩ := ck_i hp
    refine r_iald hx hb hK hR k9.1 k9.2 dX11_state_19 ?_
    refine lv_goto (tgt := 24) hx hb dX11_state_20 (by decide) ?_
    exact s_X11_state_24 C  hR hL (zl_sub hl [] rfl) hp
def p_X11_state (v0 : Nat) (v1 : Int32) (h : AH) : Option (Int32 × AH) := ck (v0 ≠ 0) <| p_X11_state_0 v0 v1 h
theorem c_X11_state (l : Launch) (G : GG) (v0 : Nat) (v1 : Int32) (h : AH) (r : Int32) (h' : AH) (hp : p_X11_state v0 v1 h = some (r, h')) : Ct l yX11_state (.code yX11_state cX11_state 2 (some .int) :: MW) G 3 82 [.ref (v0 - 1), .int v1] h (some (.int r)) h' := by
  obtain ⟨hz0, hp⟩ := ck_i hp
  refine Ct.of (by decide +kernel) (Nat.le_of_ble_eq_true rfl) ?_
  intro p e s m args below meth c C hR ls hl
  have hl : zl ls 2 [(0, zr v0), (1, .int v1)] := ⟨by rw [zr_p hz0]; exact hl, by simp [zr_cat, in_cat]⟩
  exact s_X11_state_0 C hR (fun _ hq => nomatch hq) hl hp
/-! CursorKeepModel.spared(I)I -/
def p_X11_spared_58  (s0 : Int32) (h : AH) : Option (Int32 × AH) :=
  some (s0, h)
set_option maxHeartbeats 4000000 in
set_option maxRecDepth 100000 in
theorem s_X11_spared_58 {p : Program} {l : Launch} {e : Env} {s : State} {m : MethodId} {args : Array Value} {below : List Frame} {meth : Method} {c : Code} {G : GG} {hs : AH} {r : Int32} {h' : AH} (C : Cx G hs p s m args meth c cX11_spared 2 RX11 (.code yX11_spared cX11_spared 2 (some .int) :: MW) (some .int) "spared")   {s0 : Int32} {h : AH} {H : Heap} {locs : List Loc} {cells slots : Nat} {ls : Array Slot} (hR : Rp G h H) (hL : ∀ q ∈ locs, gB G ≤ q.base) (hl : zl ls 2 []) (hp : p_X11_spared_58  s0 h = some (r, h')) : W p l e (gR G hs 5 138) s m args below meth c H locs cells slots (MQ below (Qcc G (some (.int r)) h') args s (gC G - aZ hs) (gS - aU hs) (fun q => gB G ≤ q)) (F0 m 58 ls [.int s0]) := by
  obtain ⟨hx, hb, hml, hown, hts, hT, hK, rs, hlk, hret, hnm⟩ := id C
  have hm : ∀ w ∈ MW, w.before args s = true := fun w hw => hts w (hT w hw)
  unfold p_X11_spared_58 at hp
  cases hp
  exact r_zret C hR hL rfl dX11_spared_58
def p_X11_spared_0  (v0 : Nat) (v1 : Int32) (h : AH) : Option (Int32 × AH) :=
  ck (aK h v0 = 13) <|
  bR (p_X11_isFormat v0 v1 h) fun r2 h3 =>
  ck (aK h3 v0 = 13) <|
  bR (p_X11_goes v0 r2 (iI 1) (iI 1) h3) fun r5 h6 =>
  if r5 = 0 then
    some ((iI 0), h6)
  else
    ck (aK h6 v0 = 13) <|
    ck (aK h6 (aR h6 v0 10) = 20 ∧ ix v1 (aN h6 (aR h6 v0 10))) <|
    if (aI h6 (aR h6 v0 10) v1.toNatClampNeg) = 0 then
      ck (aK h6 v0 = 13) <|
      bR (p_X11_sparedNow v0 v1 h6) fun r23 h24 =>
      p_X11_spared_58  r23 h24
    else
      ck (aK h6 v0 = 13) <|
      ck (aK h6 (aR h6 v0 10) = 20 ∧ ix v1 (aN h6 (aR h6 v0 10))) <|
      if (aI h6 (aR h6 v0 10) v1.toNatClampNeg) = (iI 1) then
        ck (aK h6 v0 = 13) <|
        ck (aK h6 (aR h6 v0 12) = 20 ∧ ix v1 (aN h6 (aR h6 v0 12))) <|
        p_X11_spared_58  (aI h6 (aR h6 v0 12) v1.toNatClampNeg) h6
      else
        ck (aK h6 v0 = 13) <|
        ck (aK h6 (aR h6 v0 11) = 20 ∧ ix v1 (aN h6 (aR h6 v0 11))) <|
        p_X11_spared_58  (aI h6 (aR h6 v0 11) v1.toNatClampNeg) h6
set_option maxHeartbeats 4000000 in
set_option maxRecDepth 100000 in
theorem s_X11_spared_0 {p : Program} {l : Launch} {e : Env} {s : State} {m : MethodId} {args : Array Value} {below : List Frame} {meth : Method} {c : Code} {G : GG} {hs : AH} {r : Int32} {h' : AH} (C : Cx G hs p s m args meth c cX11_spared 2 RX11 (.code yX11_spared cX11_spared 2 (some .int) :: MW) (some .int) "spared")   {v0 : Nat} {v1 : Int32} {h : AH} {H : Heap} {locs : List Loc} {cells slots : Nat} {ls : Array Slot} (hR : Rp G h H) (hL : ∀ q ∈ locs, gB G ≤ q.base) (hl : zl ls 2 [(0, zr v0), (1, .int v1)]) (hp : p_X11_spared_0  v0 v1 h = some (r, h')) : W p l e (gR G hs 5 138) s m args below meth c H locs cells slots (MQ below (Qcc G (some (.int r)) h') args s (gC G - aZ hs) (gS - aU hs) (fun q => gB G ≤ q)) (F0 m 0 ls []) := by
  obtain ⟨hx, hb, hml, hown, hts, hT, hK, rs, hlk, hret, hnm⟩ := id C
  have hm : ∀ w ∈ MW, w.before args s = true := fun w hw => hts w (hT w hw)
  unfold p_X11_spared_0 at hp
  refine z_aload_n hx hb dX11_spared_0 rfl (zl_at hl 0 rfl) ?_
  refine z_aload_n hx hb dX11_spared_1 rfl (zl_at hl 0 rfl) ?_
  refine lv_iload_n hx hb dX11_spared_2 rfl (zl_at hl 1 rfl) ?_
  obtain ⟨k1, hp⟩ := ck_i hp
  obtain ⟨r2, h3, er2, hp⟩ := bR_i hp
  refine r_callV (ci := 12) (r := (RX11, TX11, 32)) (n := 1) (As := [.int v1]) (rest := [zr v0]) C (c_X11_isFormat l G v0 v1 h r2 h3 er2) hR hL rfl k1 mw_1200 mw_1202 mp_33 mw_10 mw_1203 (by decide +kernel) (by decide) rfl (zl_size hl) rfl (by simp [zr_cat, in_cat]) dX11_spared_3 (st2 := [.int r2, zr v0]) rfl (fun H locs cells slots hR hL => ?_)
  refine lv_iconst (v := iI 1) hx hb dX11_spared_6 rfl ?_
  refine lv_iconst (v := iI 1) hx hb dX11_spared_7 rfl ?_
  obtain ⟨k4, hp⟩ := ck_i hp
  obtain ⟨r5, h6, er5, hp⟩ := bR_i hp
  refine r_callV (ci := 12) (r := (RX11, TX11, 32)) (n := 3) (As := [.int r2, .int (iI 1), .int (iI 1)]) (rest := []) C (c_X11_goes l G v0 r2 (iI 1) (iI 1) h3 r5 h6 er5) hR hL rfl k4 mw_1096 mw_1098 mp_19 mw_10 mw_1099 (by decide +kernel) (by decide) rfl (zl_size hl) rfl (by simp [zr_cat, in_cat]) dX11_spared_8 (st2 := [.int r5]) rfl (fun H locs cells slots hR hL => ?_)
  refine lv_if_ne (tgt := 16) hx hb dX11_spared_11 (by decide) (fun c7 => ?_) (fun c7 => ?_)
  · replace hp := ite_n hp c7
    refine z_aload_n hx hb dX11_spared_16 rfl (zl_at hl 0 rfl) ?_
    obtain ⟨k8, hp⟩ := ck_i hp
    refine r_get (ci := 12) (C := RX11) (T := TX11) (N := 32) (v := zr (aR h6 v0 10)) hx hb hm ii_X11 hown hK hR rfl k8 10 (by decide) (hm _ mw_992) (fun _ h9 => h9) rfl dX11_spared_17 ?_
    refine lv_iload_n hx hb dX11_spared_20 rfl (zl_at hl 1 rfl) ?_
    obtain ⟨k9, hp⟩ := ck_i hp
    refine r_iald hx hb hK hR k9.1 k9.2 dX11_spared_21 ?_
    refine lv_if_ne (tgt := 33) hx hb dX11_spared_22 (by decide) (fun c11 => ?_) (fun c11 => ?_)
    · replace hp := ite_n hp c11
      refine z_aload_n hx hb dX11_spared_33 rfl (zl_at hl 0 rfl) ?_
      obtain ⟨k12, hp⟩ := ck_i hp
      refine r_get (ci := 12) (C := RX11) (T := TX11) (N := 32) (v := zr (aR h6 v0 10)) hx hb hm ii_X11 hown hK hR rfl k12 10 (by decide) (hm _ mw_992) (fun _ h9 => h9) rfl dX11_spared_34 ?_
      refine lv_iload_n hx hb dX11_spared_37 rfl (zl_at hl 1 rfl) ?_
      obtain ⟨k13, hp⟩ := ck_i hp
      refine r_iald hx hb hK hR k13.1 k13.2 dX11_spared_38 ?_
      refine lv_iconst (v := iI 1) hx hb dX11_spared_39 rfl ?_
      refine lv_icmp_ne (tgt := 52) hx hb dX11_spared_40 (by decide) (fun c15 => ?_) (fun c15 => ?_)
      · replace hp := ite_n hp c15
        refine z_aload_n hx hb dX11_spared_52 rfl (zl_at hl 0 rfl) ?_
        obtain ⟨k16, hp⟩ := ck_i hp
        refine r_get (ci := 12) (C := RX11) (T := TX11) (N := 32) (v := zr (aR h6 v0 11)) hx hb hm ii_X11 hown hK hR rfl k16 11 (by decide) (hm _ mw_993) (fun _ h9 => h9) rfl dX11_spared_53 ?_
        refine lv_iload_n hx hb dX11_spared_56 rfl (zl_at hl 1 rfl) ?_
        obtain ⟨k17, hp⟩ := ck_i hp
        refine r_iald hx hb hK hR k17.1 k17.2 dX11_spared_57 ?_
        exact s_X11_spared_58 C  hR hL (zl_sub hl [] rfl) hp
      · replace hp := ite_p hp c15
        refine z_aload_n hx hb dX11_spared_43 rfl (zl_at hl 0 rfl) ?_
        obtain ⟨k19, hp⟩ := ck_i hp
        refine r_get (ci := 12) (C := RX11) (T := TX11) (N := 32) (v := zr (aR h6 v0 12)) hx hb hm ii_X11 hown hK hR rfl k19 12 (by decide) (hm _ mw_994) (fun _ h9 => h9) rfl dX11_spared_44 ?_
        refine lv_iload_n hx hb dX11_spared_47 rfl (zl_at hl 1 rfl) ?_
        obtain ⟨k20, hp⟩ := ck_i hp
        refine r_iald hx hb hK hR k20.1 k20.2 dX11_spared_48 ?_
        refine lv_goto (tgt := 58) hx hb dX11_spared_49 (by decide) ?_
        exact s_X11_spared_58 C  hR hL (zl_sub hl [] rfl) hp
    · replace hp := ite_p hp c11
      refine z_aload_n hx hb dX11_spared_25 rfl (zl_at hl 0 rfl) ?_
      refine lv_iload_n hx hb dX11_spared_26 rfl (zl_at hl 1 rfl) ?_
      obtain ⟨k22, hp⟩ := ck_i hp
      obtain ⟨r23, h24, er23, hp⟩ := bR_i hp
      refine r_callV (ci := 12) (r := (RX11, TX11, 32)) (n := 1) (As := [.int v1]) (rest := []) C (c_X11_sparedNow l G v0 v1 h6 r23 h24 er23) hR hL rfl k22 mw_1204 mw_1206 mp_34 mw_10 mw_1207 (by decide +kernel) (by decide) rfl (zl_size hl) rfl (by simp [zr_cat, in_cat]) dX11_spared_27 (st2 := [.int r23]) rfl (fun H locs cells slots hR hL => ?_)
      refine lv_goto (tgt := 58) hx hb dX11_spared_30 (by decide) ?_
      exact s_X11_spared_58 C  hR hL (zl_sub hl [] rfl) hp
  · replace hp := ite_p hp c7
    refine lv_iconst (v := iI 0) hx hb dX11_spared_14 rfl ?_
    cases hp
    exact r_zret C hR hL rfl dX11_spared_15
def p_X11_spared (v0 : Nat) (v1 : Int32) (h : AH) : Option (Int32 × AH) := ck (v0 ≠ 0) <| p_X11_spared_0 v0 v1 h
theorem c_X11_spared (l : Launch) (G : GG) (v0 : Nat) (v1 : Int32) (h : AH) (r : Int32) (h' : AH) (hp : p_X11_spared v0 v1 h = some (r, h')) : Ct l yX11_spared (.code yX11_spared cX11_spared 2 (some .int) :: MW) G 5 138 [.ref (v0 - 1), .int v1] h (some (.int r)) h' := by
  obtain ⟨hz0, hp⟩ := ck_i hp
  refine Ct.of (by decide +kernel) (Nat.le_of_ble_eq_true rfl) ?_
  intro p e s m args below meth c C hR ls hl
  have hl : zl ls 2 [(0, zr v0), (1, .int v1)] := ⟨by rw [zr_p hz0]; exact hl, by simp [zr_cat, in_cat]⟩
  exact s_X11_spared_0 C hR (fun _ hq => nomatch hq) hl hp
/-! CursorKeepModel.lock(II)Z -/
def p_X11_lock_82  (s0 : Int32) (h : AH) : Option (Int32 × AH) :=
  ck (okZ s0) <|
  some (s0, h)
set_option maxHeartbeats 4000000 in
set_option maxRecDepth 100000 in
theorem s_X11_lock_82 {p : Program} {l : Launch} {e : Env} {s : State} {m : MethodId} {args : Array Value} {below : List Frame} {meth : Method} {c : Code} {G : GG} {hs : AH} {r : Int32} {h' : AH} (C : Cx G hs p s m args meth c cX11_lock 4 RX11 (.code yX11_lock cX11_lock 4 (some .boolean) :: MW) (some .boolean) "lock")   {s0 : Int32} {h : AH} {H : Heap} {locs : List Loc} {cells slots : Nat} {ls : Array Slot} (hR : Rp G h H) (hL : ∀ q ∈ locs, gB G ≤ q.base) (hl : zl ls 4 []) (hp : p_X11_lock_82  s0 h = some (r, h')) : W p l e (gR G hs 3 82) s m args below meth c H locs cells slots (MQ below (Qcc G (some (.int r)) h') args s (gC G - aZ hs) (gS - aU hs) (fun q => gB G ≤ q)) (F0 m 82 ls [.int s0]) := by
  obtain ⟨hx, hb, hml, hown, hts, hT, hK, rs, hlk, hret, hnm⟩ := id C
  have hm : ∀ w ∈ MW, w.before args s = true := fun w hw => hts w (hT w hw)
  unfold p_X11_lock_82 at hp
  obtain ⟨k1, hp⟩ := ck_i hp
  cases hp
  exact r_zret C hR hL (okZ_n k1) dX11_lock_82
def p_X11_lock_66  (v0 : Nat) (v2 : Int32) (s0 : Nat) (s1 : Int32) (s2 : Int32) (h : AH) : Option (Int32 × AH) :=
  ck (aK h s0 = 20 ∧ ix s1 (aN h s0)) <|
  nm (uI h s0 s1.toNatClampNeg s2) fun h3 =>
  ck (aK h3 v0 = 13) <|
  ck (aK h3 (aR h3 v0 24) = 20 ∧ ix v2 (aN h3 (aR h3 v0 24))) <|
  if (aI h3 (aR h3 v0 24) v2.toNatClampNeg) = (iI (-1)) then
    p_X11_lock_82  (iI 0) h3
  else
    p_X11_lock_82  (iI 1) h3
set_option maxHeartbeats 4000000 in
set_option maxRecDepth 100000 in
theorem s_X11_lock_66 {p : Program} {l : Launch} {e : Env} {s : State} {m : MethodId} {args : Array Value} {below : List Frame} {meth : Method} {c : Code} {G : GG} {hs : AH} {r : Int32} {h' : AH} (C : Cx G hs p s m args meth c cX11_lock 4 RX11 (.code yX11_lock cX11_lock 4 (some .boolean) :: MW) (some .boolean) "lock")   {v0 : Nat} {v2 : Int32} {s0 : Nat} {s1 : Int32} {s2 : Int32} {h : AH} {H : Heap} {locs : List Loc} {cells slots : Nat} {ls : Array Slot} (hR : Rp G h H) (hL : ∀ q ∈ locs, gB G ≤ q.base) (hl : zl ls 4 [(0, zr v0), (2, .int v2)]) (hp : p_X11_lock_66  v0 v2 s0 s1 s2 h = some (r, h')) : W p l e (gR G hs 3 82) s m args below meth c H locs cells slots (MQ below (Qcc G (some (.int r)) h') args s (gC G - aZ hs) (gS - aU hs) (fun q => gB G ≤ q)) (F0 m 66 ls [.int s2, .int s1, zr s0]) := by
  obtain ⟨hx, hb, hml, hown, hts, hT, hK, rs, hlk, hret, hnm⟩ := id C
  have hm : ∀ w ∈ MW, w.before args s = true := fun w hw => hts w (hT w hw)
  unfold p_X11_lock_66 at hp
  obtain ⟨k1, hp⟩ := ck_i hp
  refine r_iast hx hb hK hR hL k1.1 k1.2 dX11_lock_66 (fun H locs hR hL => ?_)
  obtain ⟨h3, hp, hR⟩ := nm_h hp hR
  refine z_aload_n hx hb dX11_lock_67 rfl (zl_at hl 0 rfl) ?_
  obtain ⟨k4, hp⟩ := ck_i hp
  refine r_get (ci := 12) (C := RX11) (T := TX11) (N := 32) (v := zr (aR h3 v0 24)) hx hb hm ii_X11 hown hK hR rfl k4 24 (by decide) (hm _ mw_1006) (fun _ h9 => h9) rfl dX11_lock_68 ?_
  refine lv_iload_n hx hb dX11_lock_71 rfl (zl_at hl 1 rfl) ?_
  obtain ⟨k5, hp⟩ := ck_i hp
  refine r_iald hx hb hK hR k5.1 k5.2 dX11_lock_72 ?_
  refine lv_iconst (v := iI (-1)) hx hb dX11_lock_73 rfl ?_
  refine lv_icmp_eq (tgt := 81) hx hb dX11_lock_74 (by decide) (fun c7 => ?_) (fun c7 => ?_)
  · replace hp := ite_p hp c7
    refine lv_iconst (v := iI 0) hx hb dX11_lock_81 rfl ?_
    exact s_X11_lock_82 C  hR hL (zl_sub hl [] rfl) hp
  · replace hp := ite_n hp c7
    refine lv_iconst (v := iI 1) hx hb dX11_lock_77 rfl ?_
    refine lv_goto (tgt := 82) hx hb dX11_lock_78 (by decide) ?_
    exact s_X11_lock_82 C  hR hL (zl_sub hl [] rfl) hp
def p_X11_lock_37  (v0 : Nat) (v1 : Int32) (v2 : Int32) (s0 : Nat) (s1 : Int32) (s2 : Int32) (h : AH) : Option (Int32 × AH) :=
  ck (aK h s0 = 13) <|
  bR (p_X11_goes s0 s1 s2 (iI 1) h) fun r2 h3 =>
  if r2 = 0 then
    some ((iI 0), h3)
  else
    ck (aK h3 v0 = 13) <|
    ck (aK h3 v0 = 13) <|
    ck (aK h3 (aR h3 v0 24) = 20 ∧ ix v2 (aN h3 (aR h3 v0 24))) <|
    if (aI h3 (aR h3 v0 24) v2.toNatClampNeg) = (iI (-1)) then
      p_X11_lock_66  v0 v2 (aR h3 v0 24) v2 v1 h3
    else
      p_X11_lock_66  v0 v2 (aR h3 v0 24) v2 (iI (-1)) h3
set_option maxHeartbeats 4000000 in
set_option maxRecDepth 100000 in
theorem s_X11_lock_37 {p : Program} {l : Launch} {e : Env} {s : State} {m : MethodId} {args : Array Value} {below : List Frame} {meth : Method} {c : Code} {G : GG} {hs : AH} {r : Int32} {h' : AH} (C : Cx G hs p s m args meth c cX11_lock 4 RX11 (.code yX11_lock cX11_lock 4 (some .boolean) :: MW) (some .boolean) "lock")   {v0 : Nat} {v1 : Int32} {v2 : Int32} {s0 : Nat} {s1 : Int32} {s2 : Int32} {h : AH} {H : Heap} {locs : List Loc} {cells slots : Nat} {ls : Array Slot} (hR : Rp G h H) (hL : ∀ q ∈ locs, gB G ≤ q.base) (hl : zl ls 4 [(0, zr v0), (1, .int v1), (2, .int v2)]) (hp : p_X11_lock_37  v0 v1 v2 s0 s1 s2 h = some (r, h')) : W p l e (gR G hs 3 82) s m args below meth c H locs cells slots (MQ below (Qcc G (some (.int r)) h') args s (gC G - aZ hs) (gS - aU hs) (fun q => gB G ≤ q)) (F0 m 37 ls [.int s2, .int s1, zr s0]) := by
  obtain ⟨hx, hb, hml, hown, hts, hT, hK, rs, hlk, hret, hnm⟩ := id C
  have hm : ∀ w ∈ MW, w.before args s = true := fun w hw => hts w (hT w hw)
  unfold p_X11_lock_37 at hp
  refine lv_iconst (v := iI 1) hx hb dX11_lock_37 rfl ?_
  obtain ⟨k1, hp⟩ := ck_i hp
  obtain ⟨r2, h3, er2, hp⟩ := bR_i hp
  refine r_callV (ci := 12) (r := (RX11, TX11, 32)) (n := 3) (As := [.int s1, .int s2, .int (iI 1)]) (rest := []) C (c_X11_goes l G s0 s1 s2 (iI 1) h r2 h3 er2) hR hL rfl k1 mw_1096 mw_1098 mp_19 mw_10 mw_1099 (by decide +kernel) (by decide) rfl (zl_size hl) rfl (by simp [zr_cat, in_cat]) dX11_lock_38 (st2 := [.int r2]) rfl (fun H locs cells slots hR hL => ?_)
  refine lv_if_ne (tgt := 46) hx hb dX11_lock_41 (by decide) (fun c4 => ?_) (fun c4 => ?_)
  · replace hp := ite_n hp c4
    refine z_aload_n hx hb dX11_lock_46 rfl (zl_at hl 0 rfl) ?_
    obtain ⟨k5, hp⟩ := ck_i hp
    refine r_get (ci := 12) (C := RX11) (T := TX11) (N := 32) (v := zr (aR h3 v0 24)) hx hb hm ii_X11 hown hK hR rfl k5 24 (by decide) (hm _ mw_1006) (fun _ h9 => h9) rfl dX11_lock_47 ?_
    refine lv_iload_n hx hb dX11_lock_50 rfl (zl_at hl 2 rfl) ?_
    refine z_aload_n hx hb dX11_lock_51 rfl (zl_at hl 0 rfl) ?_
    obtain ⟨k6, hp⟩ := ck_i hp
    refine r_get (ci := 12) (C := RX11) (T := TX11) (N := 32) (v := zr (aR h3 v0 24)) hx hb hm ii_X11 hown hK hR rfl k6 24 (by decide) (hm _ mw_1006) (fun _ h9 => h9) rfl dX11_lock_52 ?_
    refine lv_iload_n hx hb dX11_lock_55 rfl (zl_at hl 2 rfl) ?_
    obtain ⟨k7, hp⟩ := ck_i hp
    refine r_iald hx hb hK hR k7.1 k7.2 dX11_lock_56 ?_
    refine lv_iconst (v := iI (-1)) hx hb dX11_lock_57 rfl ?_
    refine lv_icmp_ne (tgt := 65) hx hb dX11_lock_58 (by decide) (fun c9 => ?_) (fun c9 => ?_)
    · replace hp := ite_n hp c9
      refine lv_iconst (v := iI (-1)) hx hb dX11_lock_65 rfl ?_
      exact s_X11_lock_66 C  hR hL (zl_sub hl [0, 2] rfl) hp
    · replace hp := ite_p hp c9
      refine lv_iload_n hx hb dX11_lock_61 rfl (zl_at hl 1 rfl) ?_
      refine lv_goto (tgt := 66) hx hb dX11_lock_62 (by decide) ?_
      exact s_X11_lock_66 C  hR hL (zl_sub hl [0, 2] rfl) hp
  · replace hp := ite_p hp c4
    refine lv_iconst (v := iI 0) hx hb dX11_lock_44 rfl ?_
    cases hp
    exact r_zret C hR hL (by decide +kernel) dX11_lock_45
def p_X11_lock_32  (v0 : Nat) (v1 : Int32) (v2 : Int32) (s0 : Nat) (s1 : Int32) (h : AH) : Option (Int32 × AH) :=
  p_X11_lock_37  v0 v1 v2 s0 s1 (iI 1) h
set_option maxHeartbeats 4000000 in
set_option maxRecDepth 100000 in
theorem s_X11_lock_32 {p : Program} {l : Launch} {e : Env} {s : State} {m : MethodId} {args : Array Value} {below : List Frame} {meth : Method} {c : Code} {G : GG} {hs : AH} {r : Int32} {h' : AH} (C : Cx G hs p s m args meth c cX11_lock 4 RX11 (.code yX11_lock cX11_lock 4 (some .boolean) :: MW) (some .boolean) "lock")   {v0 : Nat} {v1 : Int32} {v2 : Int32} {s0 : Nat} {s1 : Int32} {h : AH} {H : Heap} {locs : List Loc} {cells slots : Nat} {ls : Array Slot} (hR : Rp G h H) (hL : ∀ q ∈ locs, gB G ≤ q.base) (hl : zl ls 4 [(0, zr v0), (1, .int v1), (2, .int v2)]) (hp : p_X11_lock_32  v0 v1 v2 s0 s1 h = some (r, h')) : W p l e (gR G hs 3 82) s m args below meth c H locs cells slots (MQ below (Qcc G (some (.int r)) h') args s (gC G - aZ hs) (gS - aU hs) (fun q => gB G ≤ q)) (F0 m 32 ls [.int s1, zr s0]) := by
  obtain ⟨hx, hb, hml, hown, hts, hT, hK, rs, hlk, hret, hnm⟩ := id C
  have hm : ∀ w ∈ MW, w.before args s = true := fun w hw => hts w (hT w hw)
  unfold p_X11_lock_32 at hp
  refine lv_iconst (v := iI 1) hx hb dX11_lock_32 rfl ?_
  refine lv_goto (tgt := 37) hx hb dX11_lock_33 (by decide) ?_
  exact s_X11_lock_37 C  hR hL (zl_sub hl [0, 1, 2] rfl) hp
def p_X11_lock_36  (v0 : Nat) (v1 : Int32) (v2 : Int32) (s0 : Nat) (s1 : Int32) (h : AH) : Option (Int32 × AH) :=
  p_X11_lock_37  v0 v1 v2 s0 s1 (iI 0) h
set_option maxHeartbeats 4000000 in
set_option maxRecDepth 100000 in
theorem s_X11_lock_36 {p : Program} {l : Launch} {e : Env} {s : State} {m : MethodId} {args : Array Value} {below : List Frame} {meth : Method} {c : Code} {G : GG} {hs : AH} {r : Int32} {h' : AH} (C : Cx G hs p s m args meth c cX11_lock 4 RX11 (.code yX11_lock cX11_lock 4 (some .boolean) :: MW) (some .boolean) "lock")   {v0 : Nat} {v1 : Int32} {v2 : Int32} {s0 : Nat} {s1 : Int32} {h : AH} {H : Heap} {locs : List Loc} {cells slots : Nat} {ls : Array Slot} (hR : Rp G h H) (hL : ∀ q ∈ locs, gB G ≤ q.base) (hl : zl ls 4 [(0, zr v0), (1, .int v1), (2, .int v2)]) (hp : p_X11_lock_36  v0 v1 v2 s0 s1 h = some (r, h')) : W p l e (gR G hs 3 82) s m args below meth c H locs cells slots (MQ below (Qcc G (some (.int r)) h') args s (gC G - aZ hs) (gS - aU hs) (fun q => gB G ≤ q)) (F0 m 36 ls [.int s1, zr s0]) := by
  obtain ⟨hx, hb, hml, hown, hts, hT, hK, rs, hlk, hret, hnm⟩ := id C
  have hm : ∀ w ∈ MW, w.before args s = true := fun w hw => hts w (hT w hw)
  unfold p_X11_lock_36 at hp
  refine lv_iconst (v := iI 0) hx hb dX11_lock_36 rfl ?_
  exact s_X11_lock_37 C  hR hL (zl_sub hl [0, 1, 2] rfl) hp
def p_X11_lock_0  (v0 : Nat) (v1 : Int32) (v2 : Int32) (h : AH) : Option (Int32 × AH) :=
  bR (p_X11_isHand v1 v2 h) fun r1 h2 =>
  if r1 = 0 then
    p_X11_lock_36  v0 v1 v2 v0 r1 h2
  else
    ck (aK h2 v0 = 13) <|
    ck (aK h2 (aR h2 v0 24) = 20 ∧ ix v2 (aN h2 (aR h2 v0 24))) <|
    if (aI h2 (aR h2 v0 24) v2.toNatClampNeg) = (iI (-1)) then
      p_X11_lock_32  v0 v1 v2 v0 r1 h2
    else
      ck (aK h2 v0 = 13) <|
      ck (aK h2 (aR h2 v0 24) = 20 ∧ ix v2 (aN h2 (aR h2 v0 24))) <|
      if (aI h2 (aR h2 v0 24) v2.toNatClampNeg) = v1 then
        p_X11_lock_32  v0 v1 v2 v0 r1 h2
      else
        p_X11_lock_36  v0 v1 v2 v0 r1 h2
set_option maxHeartbeats 4000000 in
set_option maxRecDepth 100000 in
theorem s_X11_lock_0 {p : Program} {l : Launch} {e : Env} {s : State} {m : MethodId} {args : Array Value} {below : List Frame} {meth : Method} {c : Code} {G : GG} {hs : AH} {r : Int32} {h' : AH} (C : Cx G hs p s m args meth c cX11_lock 4 RX11 (.code yX11_lock cX11_lock 4 (some .boolean) :: MW) (some .boolean) "lock")   {v0 : Nat} {v1 : Int32} {v2 : Int32} {h : AH} {H : Heap} {locs : List Loc} {cells slots : Nat} {ls : Array Slot} (hR : Rp G h H) (hL : ∀ q ∈ locs, gB G ≤ q.base) (hl : zl ls 4 [(0, zr v0), (1, .int v1), (2, .int v2)]) (hp : p_X11_lock_0  v0 v1 v2 h = some (r, h')) : W p l e (gR G hs 3 82) s m args below meth c H locs cells slots (MQ below (Qcc G (some (.int r)) h') args s (gC G - aZ hs) (gS - aU hs) (fun q => gB G ≤ q)) (F0 m 0 ls []) := by
  obtain ⟨hx, hb, hml, hown, hts, hT, hK, rs, hlk, hret, hnm⟩ := id C
  have hm : ∀ w ∈ MW, w.before args s = true := fun w hw => hts w (hT w hw)
  unfold p_X11_lock_0 at hp
  refine lv_iload_n hx hb dX11_lock_0 rfl (zl_at hl 1 rfl) ?_
  refine lv_iload_n hx hb dX11_lock_1 rfl (zl_at hl 2 rfl) ?_
  obtain ⟨r1, h2, er1, hp⟩ := bR_i hp
  refine r_callS (n := 2) (As := [.int v1, .int v2]) (rest := []) C (c_X11_isHand l G v1 v2 h r1 h2 er1) hR hL mw_1087 mw_1088 mw_10 mw_1089 (by decide +kernel) (by decide) rfl (zl_size hl) rfl (by simp [zr_cat, in_cat]) dX11_lock_2 (st2 := [.int r1]) rfl (fun H locs cells slots hR hL => ?_)
  refine z_istore_n (lv' := [(3, .int r1), (0, zr v0), (1, .int v1), (2, .int v2)]) hx hb dX11_lock_5 rfl hl (by decide) rfl (fun ls hl => ?_)
  refine z_aload_n hx hb dX11_lock_6 rfl (zl_at hl 1 rfl) ?_
  refine lv_iload_n hx hb dX11_lock_7 rfl (zl_at hl 0 rfl) ?_
  refine lv_iload_n hx hb dX11_lock_8 rfl (zl_at hl 0 rfl) ?_
  refine lv_if_eq (tgt := 36) hx hb dX11_lock_9 (by decide) (fun c3 => ?_) (fun c3 => ?_)
  · replace hp := ite_p hp c3
    exact s_X11_lock_36 C  hR hL (zl_sub hl [1, 2, 3] rfl) hp
  · replace hp := ite_n hp c3
    refine z_aload_n hx hb dX11_lock_12 rfl (zl_at hl 1 rfl) ?_
    obtain ⟨k4, hp⟩ := ck_i hp
    refine r_get (ci := 12) (C := RX11) (T := TX11) (N := 32) (v := zr (aR h2 v0 24)) hx hb hm ii_X11 hown hK hR rfl k4 24 (by decide) (hm _ mw_1006) (fun _ h9 => h9) rfl dX11_lock_13 ?_
    refine lv_iload_n hx hb dX11_lock_16 rfl (zl_at hl 3 rfl) ?_
    obtain ⟨k5, hp⟩ := ck_i hp
    refine r_iald hx hb hK hR k5.1 k5.2 dX11_lock_17 ?_
    refine lv_iconst (v := iI (-1)) hx hb dX11_lock_18 rfl ?_
    refine lv_icmp_eq (tgt := 32) hx hb dX11_lock_19 (by decide) (fun c7 => ?_) (fun c7 => ?_)
    · replace hp := ite_p hp c7
      exact s_X11_lock_32 C  hR hL (zl_sub hl [1, 2, 3] rfl) hp
    · replace hp := ite_n hp c7
      refine z_aload_n hx hb dX11_lock_22 rfl (zl_at hl 1 rfl) ?_
      obtain ⟨k8, hp⟩ := ck_i hp
      refine r_get (ci := 12) (C := RX11) (T := TX11) (N := 32) (v := zr (aR h2 v0 24)) hx hb hm ii_X11 hown hK hR rfl k8 24 (by decide) (hm _ mw_1006) (fun _ h9 => h9) rfl dX11_lock_23 ?_
      refine lv_iload_n hx hb dX11_lock_26 rfl (zl_at hl 3 rfl) ?_
      obtain ⟨k9, hp⟩ := ck_i hp
      refine r_iald hx hb hK hR k9.1 k9.2 dX11_lock_27 ?_
      refine lv_iload_n hx hb dX11_lock_28 rfl (zl_at hl 2 rfl) ?_
      refine lv_icmp_ne (tgt := 36) hx hb dX11_lock_29 (by decide) (fun c11 => ?_) (fun c11 => ?_)
      · replace hp := ite_n hp c11
        exact s_X11_lock_36 C  hR hL (zl_sub hl [1, 2, 3] rfl) hp
      · replace hp := ite_p hp c11
        exact s_X11_lock_32 C  hR hL (zl_sub hl [1, 2, 3] rfl) hp
def p_X11_lock (v0 : Nat) (v1 : Int32) (v2 : Int32) (h : AH) : Option (Int32 × AH) := ck (v0 ≠ 0) <| p_X11_lock_0 v0 v1 v2 h
theorem c_X11_lock (l : Launch) (G : GG) (v0 : Nat) (v1 : Int32) (v2 : Int32) (h : AH) (r : Int32) (h' : AH) (hp : p_X11_lock v0 v1 v2 h = some (r, h')) : Ct l yX11_lock (.code yX11_lock cX11_lock 4 (some .boolean) :: MW) G 3 82 [.ref (v0 - 1), .int v1, .int v2] h (some (.int r)) h' := by
  obtain ⟨hz0, hp⟩ := ck_i hp
  refine Ct.of (by decide +kernel) (Nat.le_of_ble_eq_true rfl) ?_
  intro p e s m args below meth c C hR ls hl
  have hl : zl ls 4 [(0, zr v0), (1, .int v1), (2, .int v2)] := ⟨by rw [zr_p hz0]; exact hl, by simp [zr_cat, in_cat]⟩
  exact s_X11_lock_0 C hR (fun _ hq => nomatch hq) hl hp
/-! CursorKeepModel.save(III)I -/
def p_X11_save_70  (v0 : Nat) (v1 : Int32) (v2 : Int32) (v3 : Int32) (s0 : Nat) (s1 : Int32) (s2 : Int32) (s3 : Int32) (h : AH) : Option (Int32 × AH) :=
  ck (aK h s0 = 13) <|
  bR (p_X11_goes s0 s1 s2 s3 h) fun r2 h3 =>
  if r2 = 0 then
    some ((iI 0), h3)
  else
    ck (aK h3 v0 = 13) <|
    ck (aK h3 v0 = 13) <|
    ck (aK h3 (aR h3 v0 19) = 20 ∧ ix (aI h3 v0 23) (aN h3 (aR h3 v0 19))) <|
    nm (uI h3 (aR h3 v0 19) (aI h3 v0 23).toNatClampNeg v1) fun h9 =>
    ck (aK h9 v0 = 13) <|
    ck (aK h9 v0 = 13) <|
    ck (aK h9 (aR h9 v0 20) = 20 ∧ ix (aI h9 v0 23) (aN h9 (aR h9 v0 20))) <|
    nm (uI h9 (aR h9 v0 20) (aI h9 v0 23).toNatClampNeg v2) fun h14 =>
    ck (aK h14 v0 = 13) <|
    ck (aK h14 v0 = 13) <|
    ck (aK h14 (aR h14 v0 21) = 20 ∧ ix (aI h14 v0 23) (aN h14 (aR h14 v0 21))) <|
    nm (uI h14 (aR h14 v0 21) (aI h14 v0 23).toNatClampNeg v3) fun h19 =>
    ck (aK h19 v0 = 13) <|
    ck (aK h19 v0 = 13) <|
    nm (uI h19 v0 23 ((aI h19 v0 23) + (iI 1))) fun h22 =>
    ck (aK h22 v0 = 13) <|
    some (((aI h22 v0 23) - (iI 1)), h22)
set_option maxHeartbeats 4000000 in
set_option maxRecDepth 100000 in
theorem s_X11_save_70 {p : Program} {l : Launch} {e : Env} {s : State} {m : MethodId} {args : Array Value} {below : List Frame} {meth : Method} {c : Code} {G : GG} {hs : AH} {r : Int32} {h' : AH} (C : Cx G hs p s m args meth c cX11_save 5 RX11 (.code yX11_save cX11_save 5 (some .int) :: MW) (some .int) "save")   {v0 : Nat} {v1 : Int32} {v2 : Int32} {v3 : Int32} {s0 : Nat} {s1 : Int32} {s2 : Int32} {s3 : Int32} {h : AH} {H : Heap} {locs : List Loc} {cells slots : Nat} {ls : Array Slot} (hR : Rp G h H) (hL : ∀ q ∈ locs, gB G ≤ q.base) (hl : zl ls 5 [(0, zr v0), (1, .int v1), (2, .int v2), (3, .int v3)]) (hp : p_X11_save_70  v0 v1 v2 v3 s0 s1 s2 s3 h = some (r, h')) : W p l e (gR G hs 3 82) s m args below meth c H locs cells slots (MQ below (Qcc G (some (.int r)) h') args s (gC G - aZ hs) (gS - aU hs) (fun q => gB G ≤ q)) (F0 m 70 ls [.int s3, .int s2, .int s1, zr s0]) := by
  obtain ⟨hx, hb, hml, hown, hts, hT, hK, rs, hlk, hret, hnm⟩ := id C
  have hm : ∀ w ∈ MW, w.before args s = true := fun w hw => hts w (hT w hw)
  unfold p_X11_save_70 at hp
  obtain ⟨k1, hp⟩ := ck_i hp
  obtain ⟨r2, h3, er2, hp⟩ := bR_i hp
  refine r_callV (ci := 12) (r := (RX11, TX11, 32)) (n := 3) (As := [.int s1, .int s2, .int s3]) (rest := []) C (c_X11_goes l G s0 s1 s2 s3 h r2 h3 er2) hR hL rfl k1 mw_1096 mw_1098 mp_19 mw_10 mw_1099 (by decide +kernel) (by decide) rfl (zl_size hl) rfl (by simp [zr_cat, in_cat]) dX11_save_70 (st2 := [.int r2]) rfl (fun H locs cells slots hR hL => ?_)
  refine lv_if_ne (tgt := 78) hx hb dX11_save_73 (by decide) (fun c4 => ?_) (fun c4 => ?_)
  · replace hp := ite_n hp c4
    refine z_aload_n hx hb dX11_save_78 rfl (zl_at hl 0 rfl) ?_
    obtain ⟨k5, hp⟩ := ck_i hp
    refine r_get (ci := 12) (C := RX11) (T := TX11) (N := 32) (v := zr (aR h3 v0 19)) hx hb hm ii_X11 hown hK hR rfl k5 19 (by decide) (hm _ mw_1001) (fun _ h9 => h9) rfl dX11_save_79 ?_
    refine z_aload_n hx hb dX11_save_82 rfl (zl_at hl 0 rfl) ?_
    obtain ⟨k6, hp⟩ := ck_i hp
    refine r_get (ci := 12) (C := RX11) (T := TX11) (N := 32) (v := .int (aI h3 v0 23)) hx hb hm ii_X11 hown hK hR rfl k6 23 (by decide) (hm _ mw_1005) (fun _ h9 => h9) rfl dX11_save_83 ?_
    refine lv_iload_n hx hb dX11_save_86 rfl (zl_at hl 1 rfl) ?_
    obtain ⟨k7, hp⟩ := ck_i hp
    refine r_iast hx hb hK hR hL k7.1 k7.2 dX11_save_87 (fun H locs hR hL => ?_)
    obtain ⟨h9, hp, hR⟩ := nm_h hp hR
    refine z_aload_n hx hb dX11_save_88 rfl (zl_at hl 0 rfl) ?_
    obtain ⟨k10, hp⟩ := ck_i hp
    refine r_get (ci := 12) (C := RX11) (T := TX11) (N := 32) (v := zr (aR h9 v0 20)) hx hb hm ii_X11 hown hK hR rfl k10 20 (by decide) (hm _ mw_1002) (fun _ h9 => h9) rfl dX11_save_89 ?_
    refine z_aload_n hx hb dX11_save_92 rfl (zl_at hl 0 rfl) ?_
    obtain ⟨k11, hp⟩ := ck_i hp
    refine r_get (ci := 12) (C := RX11) (T := TX11) (N := 32) (v := .int (aI h9 v0 23)) hx hb hm ii_X11 hown hK hR rfl k11 23 (by decide) (hm _ mw_1005) (fun _ h9 => h9) rfl dX11_save_93 ?_
    refine lv_iload_n hx hb dX11_save_96 rfl (zl_at hl 2 rfl) ?_
    obtain ⟨k12, hp⟩ := ck_i hp
    refine r_iast hx hb hK hR hL k12.1 k12.2 dX11_save_97 (fun H locs hR hL => ?_)
    obtain ⟨h14, hp, hR⟩ := nm_h hp hR
    refine z_aload_n hx hb dX11_save_98 rfl (zl_at hl 0 rfl) ?_
    obtain ⟨k15, hp⟩ := ck_i hp
    refine r_get (ci := 12) (C := RX11) (T := TX11) (N := 32) (v := zr (aR h14 v0 21)) hx hb hm ii_X11 hown hK hR rfl k15 21 (by decide) (hm _ mw_1003) (fun _ h9 => h9) rfl dX11_save_99 ?_
    refine z_aload_n hx hb dX11_save_102 rfl (zl_at hl 0 rfl) ?_
    obtain ⟨k16, hp⟩ := ck_i hp
    refine r_get (ci := 12) (C := RX11) (T := TX11) (N := 32) (v := .int (aI h14 v0 23)) hx hb hm ii_X11 hown hK hR rfl k16 23 (by decide) (hm _ mw_1005) (fun _ h9 => h9) rfl dX11_save_103 ?_
    refine lv_iload_n hx hb dX11_save_106 rfl (zl_at hl 3 rfl) ?_
    obtain ⟨k17, hp⟩ := ck_i hp
    refine r_iast hx hb hK hR hL k17.1 k17.2 dX11_save_107 (fun H locs hR hL => ?_)
    obtain ⟨h19, hp, hR⟩ := nm_h hp hR
    refine z_aload_n hx hb dX11_save_108 rfl (zl_at hl 0 rfl) ?_
    refine lv_dup hx hb dX11_save_109 (zr_cat _) ?_
    obtain ⟨k20, hp⟩ := ck_i hp
    refine r_get (ci := 12) (C := RX11) (T := TX11) (N := 32) (v := .int (aI h19 v0 23)) hx hb hm ii_X11 hown hK hR rfl k20 23 (by decide) (hm _ mw_1005) (fun _ h9 => h9) rfl dX11_save_110 ?_
    refine lv_iconst (v := iI 1) hx hb dX11_save_113 rfl ?_
    refine lv_iadd hx hb dX11_save_114 ?_
    obtain ⟨k21, hp⟩ := ck_i hp
    refine r_putI (ci := 12) (C := RX11) (T := TX11) (N := 32) hx hb hm ii_X11 tyX11_ok nmX11 hown hK hR hL rfl k21 23 (by decide) (hm _ mw_1005) (fun _ h9 => h9) (Or.inl rfl) rfl rfl (fun _ _ _ => rfl) dX11_save_115 (fun H locs hR hL => ?_)
    obtain ⟨h22, hp, hR⟩ := nm_h hp hR
    refine z_aload_n hx hb dX11_save_118 rfl (zl_at hl 0 rfl) ?_
    obtain ⟨k23, hp⟩ := ck_i hp
    refine r_get (ci := 12) (C := RX11) (T := TX11) (N := 32) (v := .int (aI h22 v0 23)) hx hb hm ii_X11 hown hK hR rfl k23 23 (by decide) (hm _ mw_1005) (fun _ h9 => h9) rfl dX11_save_119 ?_
    refine lv_iconst (v := iI 1) hx hb dX11_save_122 rfl ?_
    refine lv_isub hx hb dX11_save_123 ?_
    cases hp
    exact r_zret C hR hL rfl dX11_save_124
  · replace hp := ite_p hp c4
    refine lv_iconst (v := iI 0) hx hb dX11_save_76 rfl ?_
    cases hp
    exact r_zret C hR hL rfl dX11_save_77
def p_X11_save_56  (v0 : Nat) (v1 : Int32) (v2 : Int32) (v3 : Int32) (s0 : Nat) (s1 : Int32) (s2 : Int32) (h : AH) : Option (Int32 × AH) :=
  ck (aK h v0 = 13) <|
  if (iI 60) ≤ (aI h v0 23) then
    p_X11_save_70  v0 v1 v2 v3 s0 s1 s2 (iI 0) h
  else
    p_X11_save_70  v0 v1 v2 v3 s0 s1 s2 (iI 1) h
set_option maxHeartbeats 4000000 in
set_option maxRecDepth 100000 in
theorem s_X11_save_56 {p : Program} {l : Launch} {e : Env} {s : State} {m : MethodId} {args : Array Value} {below : List Frame} {meth : Method} {c : Code} {G : GG} {hs : AH} {r : Int32} {h' : AH} (C : Cx G hs p s m args meth c cX11_save 5 RX11 (.code yX11_save cX11_save 5 (some .int) :: MW) (some .int) "save")   {v0 : Nat} {v1 : Int32} {v2 : Int32} {v3 : Int32} {s0 : Nat} {s1 : Int32} {s2 : Int32} {h : AH} {H : Heap} {locs : List Loc} {cells slots : Nat} {ls : Array Slot} (hR : Rp G h H) (hL : ∀ q ∈ locs, gB G ≤ q.base) (hl : zl ls 5 [(0, zr v0), (1, .int v1), (2, .int v2), (3, .int v3)]) (hp : p_X11_save_56  v0 v1 v2 v3 s0 s1 s2 h = some (r, h')) : W p l e (gR G hs 3 82) s m args below meth c H locs cells slots (MQ below (Qcc G (some (.int r)) h') args s (gC G - aZ hs) (gS - aU hs) (fun q => gB G ≤ q)) (F0 m 56 ls [.int s2, .int s1, zr s0]) := by
  obtain ⟨hx, hb, hml, hown, hts, hT, hK, rs, hlk, hret, hnm⟩ := id C
  have hm : ∀ w ∈ MW, w.before args s = true := fun w hw => hts w (hT w hw)
  unfold p_X11_save_56 at hp
  refine z_aload_n hx hb dX11_save_56 rfl (zl_at hl 0 rfl) ?_
  obtain ⟨k1, hp⟩ := ck_i hp
  refine r_get (ci := 12) (C := RX11) (T := TX11) (N := 32) (v := .int (aI h v0 23)) hx hb hm ii_X11 hown hK hR rfl k1 23 (by decide) (hm _ mw_1005) (fun _ h9 => h9) rfl dX11_save_57 ?_
  refine lv_bipush (v := iI 60) hx hb dX11_save_60 (by decide +kernel) ?_
  refine lv_icmp_ge (tgt := 69) hx hb dX11_save_62 (by decide) (fun c2 => ?_) (fun c2 => ?_)
  · replace hp := ite_p hp c2
    refine lv_iconst (v := iI 0) hx hb dX11_save_69 rfl ?_
    exact s_X11_save_70 C  hR hL (zl_sub hl [0, 1, 2, 3] rfl) hp
  · replace hp := ite_n hp c2
    refine lv_iconst (v := iI 1) hx hb dX11_save_65 rfl ?_
    refine lv_goto (tgt := 70) hx hb dX11_save_66 (by decide) ?_
    exact s_X11_save_70 C  hR hL (zl_sub hl [0, 1, 2, 3] rfl) hp
def p_X11_save_51  (v0 : Nat) (v1 : Int32) (v2 : Int32) (v3 : Int32) (s0 : Nat) (s1 : Int32) (h : AH) : Option (Int32 × AH) :=
  p_X11_save_56  v0 v1 v2 v3 s0 s1 (iI 1) h
set_option maxHeartbeats 4000000 in
set_option maxRecDepth 100000 in
theorem s_X11_save_51 {p : Program} {l : Launch} {e : Env} {s : State} {m : MethodId} {args : Array Value} {below : List Frame} {meth : Method} {c : Code} {G : GG} {hs : AH} {r : Int32} {h' : AH} (C : Cx G hs p s m args meth c cX11_save 5 RX11 (.code yX11_save cX11_save 5 (some .int) :: MW) (some .int) "save")   {v0 : Nat} {v1 : Int32} {v2 : Int32} {v3 : Int32} {s0 : Nat} {s1 : Int32} {h : AH} {H : Heap} {locs : List Loc} {cells slots : Nat} {ls : Array Slot} (hR : Rp G h H) (hL : ∀ q ∈ locs, gB G ≤ q.base) (hl : zl ls 5 [(0, zr v0), (1, .int v1), (2, .int v2), (3, .int v3)]) (hp : p_X11_save_51  v0 v1 v2 v3 s0 s1 h = some (r, h')) : W p l e (gR G hs 3 82) s m args below meth c H locs cells slots (MQ below (Qcc G (some (.int r)) h') args s (gC G - aZ hs) (gS - aU hs) (fun q => gB G ≤ q)) (F0 m 51 ls [.int s1, zr s0]) := by
  obtain ⟨hx, hb, hml, hown, hts, hT, hK, rs, hlk, hret, hnm⟩ := id C
  have hm : ∀ w ∈ MW, w.before args s = true := fun w hw => hts w (hT w hw)
  unfold p_X11_save_51 at hp
  refine lv_iconst (v := iI 1) hx hb dX11_save_51 rfl ?_
  refine lv_goto (tgt := 56) hx hb dX11_save_52 (by decide) ?_
  exact s_X11_save_56 C  hR hL (zl_sub hl [0, 1, 2, 3] rfl) hp
def p_X11_save_55  (v0 : Nat) (v1 : Int32) (v2 : Int32) (v3 : Int32) (s0 : Nat) (s1 : Int32) (h : AH) : Option (Int32 × AH) :=
  p_X11_save_56  v0 v1 v2 v3 s0 s1 (iI 0) h
set_option maxHeartbeats 4000000 in
set_option maxRecDepth 100000 in
theorem s_X11_save_55 {p : Program} {l : Launch} {e : Env} {s : State} {m : MethodId} {args : Array Value} {below : List Frame} {meth : Method} {c : Code} {G : GG} {hs : AH} {r : Int32} {h' : AH} (C : Cx G hs p s m args meth c cX11_save 5 RX11 (.code yX11_save cX11_save 5 (some .int) :: MW) (some .int) "save")   {v0 : Nat} {v1 : Int32} {v2 : Int32} {v3 : Int32} {s0 : Nat} {s1 : Int32} {h : AH} {H : Heap} {locs : List Loc} {cells slots : Nat} {ls : Array Slot} (hR : Rp G h H) (hL : ∀ q ∈ locs, gB G ≤ q.base) (hl : zl ls 5 [(0, zr v0), (1, .int v1), (2, .int v2), (3, .int v3)]) (hp : p_X11_save_55  v0 v1 v2 v3 s0 s1 h = some (r, h')) : W p l e (gR G hs 3 82) s m args below meth c H locs cells slots (MQ below (Qcc G (some (.int r)) h') args s (gC G - aZ hs) (gS - aU hs) (fun q => gB G ≤ q)) (F0 m 55 ls [.int s1, zr s0]) := by
  obtain ⟨hx, hb, hml, hown, hts, hT, hK, rs, hlk, hret, hnm⟩ := id C
  have hm : ∀ w ∈ MW, w.before args s = true := fun w hw => hts w (hT w hw)
  unfold p_X11_save_55 at hp
  refine lv_iconst (v := iI 0) hx hb dX11_save_55 rfl ?_
  exact s_X11_save_56 C  hR hL (zl_sub hl [0, 1, 2, 3] rfl) hp
def p_X11_save_26  (v0 : Nat) (v1 : Int32) (v2 : Int32) (v3 : Int32) (s0 : Int32) (h : AH) : Option (Int32 × AH) :=
  if s0 = 0 then
    p_X11_save_55  v0 v1 v2 v3 v0 s0 h
  else
    if v3 = (iI (-1)) then
      p_X11_save_51  v0 v1 v2 v3 v0 s0 h
    else
      ck (aK h v0 = 13) <|
      ck (aK h (aR h v0 9) = 20 ∧ ix v3 (aN h (aR h v0 9))) <|
      if (aI h (aR h v0 9) v3.toNatClampNeg) = v2 then
        p_X11_save_51  v0 v1 v2 v3 v0 s0 h
      else
        p_X11_save_55  v0 v1 v2 v3 v0 s0 h
set_option maxHeartbeats 4000000 in
set_option maxRecDepth 100000 in
theorem s_X11_save_26 {p : Program} {l : Launch} {e : Env} {s : State} {m : MethodId} {args : Array Value} {below : List Frame} {meth : Method} {c : Code} {G : GG} {hs : AH} {r : Int32} {h' : AH} (C : Cx G hs p s m args meth c cX11_save 5 RX11 (.code yX11_save cX11_save 5 (some .int) :: MW) (some .int) "save")   {v0 : Nat} {v1 : Int32} {v2 : Int32} {v3 : Int32} {s0 : Int32} {h : AH} {H : Heap} {locs : List Loc} {cells slots : Nat} {ls : Array Slot} (hR : Rp G h H) (hL : ∀ q ∈ locs, gB G ≤ q.base) (hl : zl ls 5 [(0, zr v0), (1, .int v1), (2, .int v2), (3, .int v3)]) (hp : p_X11_save_26  v0 v1 v2 v3 s0 h = some (r, h')) : W p l e (gR G hs 3 82) s m args below meth c H locs cells slots (MQ below (Qcc G (some (.int r)) h') args s (gC G - aZ hs) (gS - aU hs) (fun q => gB G ≤ q)) (F0 m 26 ls [.int s0]) := by
  obtain ⟨hx, hb, hml, hown, hts, hT, hK, rs, hlk, hret, hnm⟩ := id C
  have hm : ∀ w ∈ MW, w.before args s = true := fun w hw => hts w (hT w hw)
  unfold p_X11_save_26 at hp
  refine z_istore (lv' := [(4, .int s0), (0, zr v0), (1, .int v1), (2, .int v2), (3, .int v3)]) hx hb dX11_save_26 hl (by decide) rfl (fun ls hl => ?_)
  refine z_aload_n hx hb dX11_save_28 rfl (zl_at hl 1 rfl) ?_
  refine lv_iload hx hb dX11_save_29 (zl_at hl 0 rfl) ?_
  refine lv_iload hx hb dX11_save_31 (zl_at hl 0 rfl) ?_
  refine lv_if_eq (tgt := 55) hx hb dX11_save_33 (by decide) (fun c1 => ?_) (fun c1 => ?_)
  · replace hp := ite_p hp c1
    exact s_X11_save_55 C  hR hL (zl_sub hl [1, 2, 3, 4] rfl) hp
  · replace hp := ite_n hp c1
    refine lv_iload_n hx hb dX11_save_36 rfl (zl_at hl 4 rfl) ?_
    refine lv_iconst (v := iI (-1)) hx hb dX11_save_37 rfl ?_
    refine lv_icmp_eq (tgt := 51) hx hb dX11_save_38 (by decide) (fun c2 => ?_) (fun c2 => ?_)
    · replace hp := ite_p hp c2
      exact s_X11_save_51 C  hR hL (zl_sub hl [1, 2, 3, 4] rfl) hp
    · replace hp := ite_n hp c2
      refine z_aload_n hx hb dX11_save_41 rfl (zl_at hl 1 rfl) ?_
      obtain ⟨k3, hp⟩ := ck_i hp
      refine r_get (ci := 12) (C := RX11) (T := TX11) (N := 32) (v := zr (aR h v0 9)) hx hb hm ii_X11 hown hK hR rfl k3 9 (by decide) (hm _ mw_991) (fun _ h9 => h9) rfl dX11_save_42 ?_
      refine lv_iload_n hx hb dX11_save_45 rfl (zl_at hl 4 rfl) ?_
      obtain ⟨k4, hp⟩ := ck_i hp
      refine r_iald hx hb hK hR k4.1 k4.2 dX11_save_46 ?_
      refine lv_iload_n hx hb dX11_save_47 rfl (zl_at hl 3 rfl) ?_
      refine lv_icmp_ne (tgt := 55) hx hb dX11_save_48 (by decide) (fun c6 => ?_) (fun c6 => ?_)
      · replace hp := ite_n hp c6
        exact s_X11_save_55 C  hR hL (zl_sub hl [1, 2, 3, 4] rfl) hp
      · replace hp := ite_p hp c6
        exact s_X11_save_51 C  hR hL (zl_sub hl [1, 2, 3, 4] rfl) hp
def p_X11_save_21  (v0 : Nat) (v1 : Int32) (v2 : Int32) (v3 : Int32) (h : AH) : Option (Int32 × AH) :=
  p_X11_save_26  v0 v1 v2 v3 (iI 1) h
set_option maxHeartbeats 4000000 in
set_option maxRecDepth 100000 in
theorem s_X11_save_21 {p : Program} {l : Launch} {e : Env} {s : State} {m : MethodId} {args : Array Value} {below : List Frame} {meth : Method} {c : Code} {G : GG} {hs : AH} {r : Int32} {h' : AH} (C : Cx G hs p s m args meth c cX11_save 5 RX11 (.code yX11_save cX11_save 5 (some .int) :: MW) (some .int) "save")   {v0 : Nat} {v1 : Int32} {v2 : Int32} {v3 : Int32} {h : AH} {H : Heap} {locs : List Loc} {cells slots : Nat} {ls : Array Slot} (hR : Rp G h H) (hL : ∀ q ∈ locs, gB G ≤ q.base) (hl : zl ls 5 [(0, zr v0), (1, .int v1), (2, .int v2), (3, .int v3)]) (hp : p_X11_save_21  v0 v1 v2 v3 h = some (r, h')) : W p l e (gR G hs 3 82) s m args below meth c H locs cells slots (MQ below (Qcc G (some (.int r)) h') args s (gC G - aZ hs) (gS - aU hs) (fun q => gB G ≤ q)) (F0 m 21 ls []) := by
  obtain ⟨hx, hb, hml, hown, hts, hT, hK, rs, hlk, hret, hnm⟩ := id C
  have hm : ∀ w ∈ MW, w.before args s = true := fun w hw => hts w (hT w hw)
  unfold p_X11_save_21 at hp
  refine lv_iconst (v := iI 1) hx hb dX11_save_21 rfl ?_
  refine lv_goto (tgt := 26) hx hb dX11_save_22 (by decide) ?_
  exact s_X11_save_26 C  hR hL (zl_sub hl [0, 1, 2, 3] rfl) hp
def p_X11_save_25  (v0 : Nat) (v1 : Int32) (v2 : Int32) (v3 : Int32) (h : AH) : Option (Int32 × AH) :=
  p_X11_save_26  v0 v1 v2 v3 (iI 0) h
set_option maxHeartbeats 4000000 in
set_option maxRecDepth 100000 in
theorem s_X11_save_25 {p : Program} {l : Launch} {e : Env} {s : State} {m : MethodId} {args : Array Value} {below : List Frame} {meth : Method} {c : Code} {G : GG} {hs : AH} {r : Int32} {h' : AH} (C : Cx G hs p s m args meth c cX11_save 5 RX11 (.code yX11_save cX11_save 5 (some .int) :: MW) (some .int) "save")   {v0 : Nat} {v1 : Int32} {v2 : Int32} {v3 : Int32} {h : AH} {H : Heap} {locs : List Loc} {cells slots : Nat} {ls : Array Slot} (hR : Rp G h H) (hL : ∀ q ∈ locs, gB G ≤ q.base) (hl : zl ls 5 [(0, zr v0), (1, .int v1), (2, .int v2), (3, .int v3)]) (hp : p_X11_save_25  v0 v1 v2 v3 h = some (r, h')) : W p l e (gR G hs 3 82) s m args below meth c H locs cells slots (MQ below (Qcc G (some (.int r)) h') args s (gC G - aZ hs) (gS - aU hs) (fun q => gB G ≤ q)) (F0 m 25 ls []) := by
  obtain ⟨hx, hb, hml, hown, hts, hT, hK, rs, hlk, hret, hnm⟩ := id C
  have hm : ∀ w ∈ MW, w.before args s = true := fun w hw => hts w (hT w hw)
  unfold p_X11_save_25 at hp
  refine lv_iconst (v := iI 0) hx hb dX11_save_25 rfl ?_
  exact s_X11_save_26 C  hR hL (zl_sub hl [0, 1, 2, 3] rfl) hp
def p_X11_save_0  (v0 : Nat) (v1 : Int32) (v2 : Int32) (v3 : Int32) (h : AH) : Option (Int32 × AH) :=
  bR (p_X11_isHand v1 v2 h) fun r1 h2 =>
  if r1 = 0 then
    p_X11_save_25  v0 v1 v2 v3 h2
  else
    if v3 = (iI (-1)) then
      p_X11_save_21  v0 v1 v2 v3 h2
    else
      ck (aK h2 v0 = 13) <|
      bR (p_X11_isFormat v0 v3 h2) fun r6 h7 =>
      if r6 = 0 then
        p_X11_save_25  v0 v1 v2 v3 h7
      else
        p_X11_save_21  v0 v1 v2 v3 h7
set_option maxHeartbeats 4000000 in
set_option maxRecDepth 100000 in
theorem s_X11_save_0 {p : Program} {l : Launch} {e : Env} {s : State} {m : MethodId} {args : Array Value} {below : List Frame} {meth : Method} {c : Code} {G : GG} {hs : AH} {r : Int32} {h' : AH} (C : Cx G hs p s m args meth c cX11_save 5 RX11 (.code yX11_save cX11_save 5 (some .int) :: MW) (some .int) "save")   {v0 : Nat} {v1 : Int32} {v2 : Int32} {v3 : Int32} {h : AH} {H : Heap} {locs : List Loc} {cells slots : Nat} {ls : Array Slot} (hR : Rp G h H) (hL : ∀ q ∈ locs, gB G ≤ q.base) (hl : zl ls 5 [(0, zr v0), (1, .int v1), (2, .int v2), (3, .int v3)]) (hp : p_X11_save_0  v0 v1 v2 v3 h = some (r, h')) : W p l e (gR G hs 3 82) s m args below meth c H locs cells slots (MQ below (Qcc G (some (.int r)) h') args s (gC G - aZ hs) (gS - aU hs) (fun q => gB G ≤ q)) (F0 m 0 ls []) := by
  obtain ⟨hx, hb, hml, hown, hts, hT, hK, rs, hlk, hret, hnm⟩ := id C
  have hm : ∀ w ∈ MW, w.before args s = true := fun w hw => hts w (hT w hw)
  unfold p_X11_save_0 at hp
  refine lv_iload_n hx hb dX11_save_0 rfl (zl_at hl 1 rfl) ?_
  refine lv_iload_n hx hb dX11_save_1 rfl (zl_at hl 2 rfl) ?_
  obtain ⟨r1, h2, er1, hp⟩ := bR_i hp
  refine r_callS (n := 2) (As := [.int v1, .int v2]) (rest := []) C (c_X11_isHand l G v1 v2 h r1 h2 er1) hR hL mw_1087 mw_1088 mw_10 mw_1089 (by decide +kernel) (by decide) rfl (zl_size hl) rfl (by simp [zr_cat, in_cat]) dX11_save_2 (st2 := [.int r1]) rfl (fun H locs cells slots hR hL => ?_)
  refine lv_if_eq (tgt := 25) hx hb dX11_save_5 (by decide) (fun c3 => ?_) (fun c3 => ?_)
  · replace hp := ite_p hp c3
    exact s_X11_save_25 C  hR hL (zl_sub hl [0, 1, 2, 3] rfl) hp
  · replace hp := ite_n hp c3
    refine lv_iload_n hx hb dX11_save_8 rfl (zl_at hl 3 rfl) ?_
    refine lv_iconst (v := iI (-1)) hx hb dX11_save_9 rfl ?_
    refine lv_icmp_eq (tgt := 21) hx hb dX11_save_10 (by decide) (fun c4 => ?_) (fun c4 => ?_)
    · replace hp := ite_p hp c4
      exact s_X11_save_21 C  hR hL (zl_sub hl [0, 1, 2, 3] rfl) hp
    · replace hp := ite_n hp c4
      refine z_aload_n hx hb dX11_save_13 rfl (zl_at hl 0 rfl) ?_
      refine lv_iload_n hx hb dX11_save_14 rfl (zl_at hl 3 rfl) ?_
      obtain ⟨k5, hp⟩ := ck_i hp
      obtain ⟨r6, h7, er6, hp⟩ := bR_i hp
      refine r_callV (ci := 12) (r := (RX11, TX11, 32)) (n := 1) (As := [.int v3]) (rest := []) C (c_X11_isFormat l G v0 v3 h2 r6 h7 er6) hR hL rfl k5 mw_1200 mw_1202 mp_33 mw_10 mw_1203 (by decide +kernel) (by decide) rfl (zl_size hl) rfl (by simp [zr_cat, in_cat]) dX11_save_15 (st2 := [.int r6]) rfl (fun H locs cells slots hR hL => ?_)
      refine lv_if_eq (tgt := 25) hx hb dX11_save_18 (by decide) (fun c8 => ?_) (fun c8 => ?_)
      · replace hp := ite_p hp c8
        exact s_X11_save_25 C  hR hL (zl_sub hl [0, 1, 2, 3] rfl) hp
      · replace hp := ite_n hp c8
        exact s_X11_save_21 C  hR hL (zl_sub hl [0, 1, 2, 3] rfl) hp
def p_X11_save (v0 : Nat) (v1 : Int32) (v2 : Int32) (v3 : Int32) (h : AH) : Option (Int32 × AH) := ck (v0 ≠ 0) <| p_X11_save_0 v0 v1 v2 v3 h
theorem c_X11_save (l : Launch) (G : GG) (v0 : Nat) (v1 : Int32) (v2 : Int32) (v3 : Int32) (h : AH) (r : Int32) (h' : AH) (hp : p_X11_save v0 v1 v2 v3 h = some (r, h')) : Ct l yX11_save (.code yX11_save cX11_save 5 (some .int) :: MW) G 3 82 [.ref (v0 - 1), .int v1, .int v2, .int v3] h (some (.int r)) h' := by
  obtain ⟨hz0, hp⟩ := ck_i hp
  refine Ct.of (by decide +kernel) (Nat.le_of_ble_eq_true rfl) ?_
  intro p e s m args below meth c C hR ls hl
  have hl : zl ls 5 [(0, zr v0), (1, .int v1), (2, .int v2), (3, .int v3)] := ⟨by rw [zr_p hz0]; exact hl, by simp [zr_cat, in_cat]⟩
  exact s_X11_save_0 C hR (fun _ hq => nomatch hq) hl hp
/-! CursorKeepModel.canWrite(I)Z -/
def p_X11_canWrite_110 (k74 : Nat → Int32 → Int32 → Int32 → Int32 → AH → Option (Int32 × AH)) (v0 : Nat) (v1 : Int32) (v2 : Int32) (v4 : Int32) (s0 : Int32) (h : AH) : Option (Int32 × AH) :=
  nm (v4 + iI 1) fun (x1 : Int32) =>
  k74 v0 v1 v2 s0 x1 h
set_option maxHeartbeats 4000000 in
set_option maxRecDepth 100000 in
theorem s_X11_canWrite_110 {p : Program} {l : Launch} {e : Env} {s : State} {m : MethodId} {args : Array Value} {below : List Frame} {meth : Method} {c : Code} {G : GG} {hs : AH} {r : Int32} {h' : AH} (C : Cx G hs p s m args meth c cX11_canWrite 5 RX11 (.code yX11_canWrite cX11_canWrite 5 (some .boolean) :: MW) (some .boolean) "canWrite") {k74 : Nat → Int32 → Int32 → Int32 → Int32 → AH → Option (Int32 × AH)} (hk74 : ∀ {v0 : Nat} {v1 : Int32} {v2 : Int32} {v3 : Int32} {v4 : Int32} {h : AH} {H : Heap} {locs : List Loc} {cells slots : Nat} {ls : Array Slot}, Rp G h H → (∀ q ∈ locs, gB G ≤ q.base) → zl ls 5 [(0, zr v0), (1, .int v1), (2, .int v2), (3, .int v3), (4, .int v4)] → k74 v0 v1 v2 v3 v4 h = some (r, h') → W p l e (gR G hs 1 40) s m args below meth c H locs cells slots (MQ below (Qcc G (some (.int r)) h') args s (gC G - aZ hs) (gS - aU hs) (fun q => gB G ≤ q)) (F0 m 74 ls [])) {v0 : Nat} {v1 : Int32} {v2 : Int32} {v4 : Int32} {s0 : Int32} {h : AH} {H : Heap} {locs : List Loc} {cells slots : Nat} {ls : Array Slot} (hR : Rp G h H) (hL : ∀ q ∈ locs, gB G ≤ q.base) (hl : zl ls 5 [(0, zr v0), (1, .int v1), (2, .int v2), (4, .int v4)]) (hp : p_X11_canWrite_110 k74 v0 v1 v2 v4 s0 h = some (r, h')) : W p l e (gR G hs 1 40) s m args below meth c H locs cells slots (MQ below (Qcc G (some (.int r)) h') args s (gC G - aZ hs) (gS - aU hs) (fun q => gB G ≤ q)) (F0 m 110 ls [.int s0]) := by
  obtain ⟨hx, hb, hml, hown, hts, hT, hK, rs, hlk, hret, hnm⟩ := id C
  have hm : ∀ w ∈ MW, w.before args s = true := fun w hw => hts w (hT w hw)
  unfold p_X11_canWrite_110 at hp
  refine z_istore_n (lv' := [(3, .int s0), (0, zr v0), (1, .int v1), (2, .int v2), (4, .int v4)]) hx hb dX11_canWrite_110 rfl hl (by decide) rfl (fun ls hl => ?_)
  obtain ⟨x1, ex1⟩ : ∃ y : Int32, y = v4 + iI 1 := ⟨_, rfl⟩
  replace hp := nm_i hp ex1
  refine z_iinc (v := x1) (lv' := [(4, .int x1), (3, .int s0), (0, zr v0), (1, .int v1), (2, .int v2)]) hx hb dX11_canWrite_111 hl (k := 4) rfl ex1 (by decide) rfl (fun ls hl => ?_)
  refine lv_goto (tgt := 74) hx hb dX11_canWrite_114 (by decide) ?_
  exact hk74 hR hL (zl_sub hl [2, 3, 4, 1, 0] rfl) hp
def p_X11_canWrite_105 (k74 : Nat → Int32 → Int32 → Int32 → Int32 → AH → Option (Int32 × AH)) (v0 : Nat) (v1 : Int32) (v2 : Int32) (v4 : Int32) (h : AH) : Option (Int32 × AH) :=
  p_X11_canWrite_110 k74 v0 v1 v2 v4 (iI 1) h
set_option maxHeartbeats 4000000 in
set_option maxRecDepth 100000 in
theorem s_X11_canWrite_105 {p : Program} {l : Launch} {e : Env} {s : State} {m : MethodId} {args : Array Value} {below : List Frame} {meth : Method} {c : Code} {G : GG} {hs : AH} {r : Int32} {h' : AH} (C : Cx G hs p s m args meth c cX11_canWrite 5 RX11 (.code yX11_canWrite cX11_canWrite 5 (some .boolean) :: MW) (some .boolean) "canWrite") {k74 : Nat → Int32 → Int32 → Int32 → Int32 → AH → Option (Int32 × AH)} (hk74 : ∀ {v0 : Nat} {v1 : Int32} {v2 : Int32} {v3 : Int32} {v4 : Int32} {h : AH} {H : Heap} {locs : List Loc} {cells slots : Nat} {ls : Array Slot}, Rp G h H → (∀ q ∈ locs, gB G ≤ q.base) → zl ls 5 [(0, zr v0), (1, .int v1), (2, .int v2), (3, .int v3), (4, .int v4)] → k74 v0 v1 v2 v3 v4 h = some (r, h') → W p l e (gR G hs 1 40) s m args below meth c H locs cells slots (MQ below (Qcc G (some (.int r)) h') args s (gC G - aZ hs) (gS - aU hs) (fun q => gB G ≤ q)) (F0 m 74 ls [])) {v0 : Nat} {v1 : Int32} {v2 : Int32} {v4 : Int32} {h : AH} {H : Heap} {locs : List Loc} {cells slots : Nat} {ls : Array Slot} (hR : Rp G h H) (hL : ∀ q ∈ locs, gB G ≤ q.base) (hl : zl ls 5 [(0, zr v0), (1, .int v1), (2, .int v2), (4, .int v4)]) (hp : p_X11_canWrite_105 k74 v0 v1 v2 v4 h = some (r, h')) : W p l e (gR G hs 1 40) s m args below meth c H locs cells slots (MQ below (Qcc G (some (.int r)) h') args s (gC G - aZ hs) (gS - aU hs) (fun q => gB G ≤ q)) (F0 m 105 ls []) := by
  obtain ⟨hx, hb, hml, hown, hts, hT, hK, rs, hlk, hret, hnm⟩ := id C
  have hm : ∀ w ∈ MW, w.before args s = true := fun w hw => hts w (hT w hw)
  unfold p_X11_canWrite_105 at hp
  refine lv_iconst (v := iI 1) hx hb dX11_canWrite_105 rfl ?_
  refine lv_goto (tgt := 110) hx hb dX11_canWrite_106 (by decide) ?_
  exact s_X11_canWrite_110 C hk74 hR hL (zl_sub hl [0, 1, 2, 3] rfl) hp
def p_X11_canWrite_109 (k74 : Nat → Int32 → Int32 → Int32 → Int32 → AH → Option (Int32 × AH)) (v0 : Nat) (v1 : Int32) (v2 : Int32) (v4 : Int32) (h : AH) : Option (Int32 × AH) :=
  p_X11_canWrite_110 k74 v0 v1 v2 v4 (iI 0) h
set_option maxHeartbeats 4000000 in
set_option maxRecDepth 100000 in
theorem s_X11_canWrite_109 {p : Program} {l : Launch} {e : Env} {s : State} {m : MethodId} {args : Array Value} {below : List Frame} {meth : Method} {c : Code} {G : GG} {hs : AH} {r : Int32} {h' : AH} (C : Cx G hs p s m args meth c cX11_canWrite 5 RX11 (.code yX11_canWrite cX11_canWrite 5 (some .boolean) :: MW) (some .boolean) "canWrite") {k74 : Nat → Int32 → Int32 → Int32 → Int32 → AH → Option (Int32 × AH)} (hk74 : ∀ {v0 : Nat} {v1 : Int32} {v2 : Int32} {v3 : Int32} {v4 : Int32} {h : AH} {H : Heap} {locs : List Loc} {cells slots : Nat} {ls : Array Slot}, Rp G h H → (∀ q ∈ locs, gB G ≤ q.base) → zl ls 5 [(0, zr v0), (1, .int v1), (2, .int v2), (3, .int v3), (4, .int v4)] → k74 v0 v1 v2 v3 v4 h = some (r, h') → W p l e (gR G hs 1 40) s m args below meth c H locs cells slots (MQ below (Qcc G (some (.int r)) h') args s (gC G - aZ hs) (gS - aU hs) (fun q => gB G ≤ q)) (F0 m 74 ls [])) {v0 : Nat} {v1 : Int32} {v2 : Int32} {v4 : Int32} {h : AH} {H : Heap} {locs : List Loc} {cells slots : Nat} {ls : Array Slot} (hR : Rp G h H) (hL : ∀ q ∈ locs, gB G ≤ q.base) (hl : zl ls 5 [(0, zr v0), (1, .int v1), (2, .int v2), (4, .int v4)]) (hp : p_X11_canWrite_109 k74 v0 v1 v2 v4 h = some (r, h')) : W p l e (gR G hs 1 40) s m args below meth c H locs cells slots (MQ below (Qcc G (some (.int r)) h') args s (gC G - aZ hs) (gS - aU hs) (fun q => gB G ≤ q)) (F0 m 109 ls []) := by
  obtain ⟨hx, hb, hml, hown, hts, hT, hK, rs, hlk, hret, hnm⟩ := id C
  have hm : ∀ w ∈ MW, w.before args s = true := fun w hw => hts w (hT w hw)
  unfold p_X11_canWrite_109 at hp
  refine lv_iconst (v := iI 0) hx hb dX11_canWrite_109 rfl ?_
  exact s_X11_canWrite_110 C hk74 hR hL (zl_sub hl [0, 1, 2, 3] rfl) hp
def p_X11_canWrite_74  : Nat → Nat → Int32 → Int32 → Int32 → Int32 → AH → Option (Int32 × AH)
  | 0, _, _, _, _, _, _ => none
  | n + 1, v0, v1, v2, v3, v4, h =>
    if v1 ≤ v4 then
      ck (okZ v3) <|
      some (v3, h)
    else
      if v3 = 0 then
        p_X11_canWrite_109 (p_X11_canWrite_74  n) v0 v1 v2 v4 h
      else
        ck (aK h v0 = 13) <|
        ck (aK h (aR h v0 22) = 22 ∧ ix v4 (aN h (aR h v0 22))) <|
        if (aI h (aR h v0 22) v4.toNatClampNeg) = 0 then
          ck (aK h v0 = 13) <|
          ck (aK h (aR h v0 20) = 20 ∧ ix v4 (aN h (aR h v0 20))) <|
          if (aI h (aR h v0 20) v4.toNatClampNeg) = v2 then
            p_X11_canWrite_109 (p_X11_canWrite_74  n) v0 v1 v2 v4 h
          else
            p_X11_canWrite_105 (p_X11_canWrite_74  n) v0 v1 v2 v4 h
        else
          p_X11_canWrite_105 (p_X11_canWrite_74  n) v0 v1 v2 v4 h
set_option maxHeartbeats 4000000 in
set_option maxRecDepth 100000 in
theorem s_X11_canWrite_74 {p : Program} {l : Launch} {e : Env} {s : State} {m : MethodId} {args : Array Value} {below : List Frame} {meth : Method} {c : Code} {G : GG} {hs : AH} {r : Int32} {h' : AH} (C : Cx G hs p s m args meth c cX11_canWrite 5 RX11 (.code yX11_canWrite cX11_canWrite 5 (some .boolean) :: MW) (some .boolean) "canWrite")   : ∀ (n : Nat) (v0 : Nat) (v1 : Int32) (v2 : Int32) (v3 : Int32) (v4 : Int32) (h : AH) (H : Heap) (locs : List Loc) (cells slots : Nat) (ls : Array Slot) (hR : Rp G h H) (hL : ∀ q ∈ locs, gB G ≤ q.base) (hl : zl ls 5 [(0, zr v0), (1, .int v1), (2, .int v2), (3, .int v3), (4, .int v4)]) (hp : p_X11_canWrite_74  n v0 v1 v2 v3 v4 h = some (r, h')), W p l e (gR G hs 1 40) s m args below meth c H locs cells slots (MQ below (Qcc G (some (.int r)) h') args s (gC G - aZ hs) (gS - aU hs) (fun q => gB G ≤ q)) (F0 m 74 ls []) := by
  obtain ⟨hx, hb, hml, hown, hts, hT, hK, rs, hlk, hret, hnm⟩ := id C
  have hm : ∀ w ∈ MW, w.before args s = true := fun w hw => hts w (hT w hw)
  intro n
  induction n with
  | zero =>
    intro v0 v1 v2 v3 v4 h H locs cells slots ls hR hL hl hp
    exact absurd (show none = some (r, h') from hp) (by simp)
  | succ n ih =>
    intro v0 v1 v2 v3 v4 h H locs cells slots ls hR hL hl hp
    rw [p_X11_canWrite_74.eq_2] at hp
    refine lv_iload hx hb dX11_canWrite_74 (zl_at hl 4 rfl) ?_
    refine lv_iload_n hx hb dX11_canWrite_76 rfl (zl_at hl 1 rfl) ?_
    refine lv_icmp_ge (tgt := 117) hx hb dX11_canWrite_77 (by decide) (fun c1 => ?_) (fun c1 => ?_)
    · replace hp := ite_p hp c1
      refine lv_iload_n hx hb dX11_canWrite_117 rfl (zl_at hl 3 rfl) ?_
      obtain ⟨k2, hp⟩ := ck_i hp
      cases hp
      exact r_zret C hR hL (okZ_n k2) dX11_canWrite_118
    · replace hp := ite_n hp c1
      refine lv_iload_n hx hb dX11_canWrite_80 rfl (zl_at hl 3 rfl) ?_
      refine lv_if_eq (tgt := 109) hx hb dX11_canWrite_81 (by decide) (fun c3 => ?_) (fun c3 => ?_)
      · replace hp := ite_p hp c3
        exact s_X11_canWrite_109 C (fun hR hL hl hp => ih _ _ _ _ _ _ _ _ _ _ _ hR hL hl hp) hR hL (zl_sub hl [0, 1, 2, 4] rfl) hp
      · replace hp := ite_n hp c3
        refine z_aload_n hx hb dX11_canWrite_84 rfl (zl_at hl 0 rfl) ?_
        obtain ⟨k4, hp⟩ := ck_i hp
        refine r_get (ci := 12) (C := RX11) (T := TX11) (N := 32) (v := zr (aR h v0 22)) hx hb hm ii_X11 hown hK hR rfl k4 22 (by decide) (hm _ mw_1004) (fun _ h9 => h9) rfl dX11_canWrite_85 ?_
        refine lv_iload hx hb dX11_canWrite_88 (zl_at hl 4 rfl) ?_
        obtain ⟨k5, hp⟩ := ck_i hp
        refine r_zald hx hb hK hR k5.1 k5.2 dX11_canWrite_90 ?_
        refine lv_if_ne (tgt := 105) hx hb dX11_canWrite_91 (by decide) (fun c7 => ?_) (fun c7 => ?_)
        · replace hp := ite_n hp c7
          exact s_X11_canWrite_105 C (fun hR hL hl hp => ih _ _ _ _ _ _ _ _ _ _ _ hR hL hl hp) hR hL (zl_sub hl [0, 1, 2, 4] rfl) hp
        · replace hp := ite_p hp c7
          refine z_aload_n hx hb dX11_canWrite_94 rfl (zl_at hl 0 rfl) ?_
          obtain ⟨k8, hp⟩ := ck_i hp
          refine r_get (ci := 12) (C := RX11) (T := TX11) (N := 32) (v := zr (aR h v0 20)) hx hb hm ii_X11 hown hK hR rfl k8 20 (by decide) (hm _ mw_1002) (fun _ h9 => h9) rfl dX11_canWrite_95 ?_
          refine lv_iload hx hb dX11_canWrite_98 (zl_at hl 4 rfl) ?_
          obtain ⟨k9, hp⟩ := ck_i hp
          refine r_iald hx hb hK hR k9.1 k9.2 dX11_canWrite_100 ?_
          refine lv_iload_n hx hb dX11_canWrite_101 rfl (zl_at hl 2 rfl) ?_
          refine lv_icmp_eq (tgt := 109) hx hb dX11_canWrite_102 (by decide) (fun c11 => ?_) (fun c11 => ?_)
          · replace hp := ite_p hp c11
            exact s_X11_canWrite_109 C (fun hR hL hl hp => ih _ _ _ _ _ _ _ _ _ _ _ hR hL hl hp) hR hL (zl_sub hl [0, 1, 2, 4] rfl) hp
          · replace hp := ite_n hp c11
            exact s_X11_canWrite_105 C (fun hR hL hl hp => ih _ _ _ _ _ _ _ _ _ _ _ hR hL hl hp) hR hL (zl_sub hl [0, 1, 2, 4] rfl) hp
def p_X11_canWrite_70  (v0 : Nat) (v1 : Int32) (v2 : Int32) (s0 : Int32) (h : AH) : Option (Int32 × AH) :=
  nm ((iI 0)) fun (x1 : Int32) =>
  p_X11_canWrite_74  FU v0 v1 v2 s0 x1 h
set_option maxHeartbeats 4000000 in
set_option maxRecDepth 100000 in
theorem s_X11_canWrite_70 {p : Program} {l : Launch} {e : Env} {s : State} {m : MethodId} {args : Array Value} {below : List Frame} {meth : Method} {c : Code} {G : GG} {hs : AH} {r : Int32} {h' : AH} (C : Cx G hs p s m args meth c cX11_canWrite 5 RX11 (.code yX11_canWrite cX11_canWrite 5 (some .boolean) :: MW) (some .boolean) "canWrite")   {v0 : Nat} {v1 : Int32} {v2 : Int32} {s0 : Int32} {h : AH} {H : Heap} {locs : List Loc} {cells slots : Nat} {ls : Array Slot} (hR : Rp G h H) (hL : ∀ q ∈ locs, gB G ≤ q.base) (hl : zl ls 5 [(0, zr v0), (1, .int v1), (2, .int v2)]) (hp : p_X11_canWrite_70  v0 v1 v2 s0 h = some (r, h')) : W p l e (gR G hs 1 40) s m args below meth c H locs cells slots (MQ below (Qcc G (some (.int r)) h') args s (gC G - aZ hs) (gS - aU hs) (fun q => gB G ≤ q)) (F0 m 70 ls [.int s0]) := by
  obtain ⟨hx, hb, hml, hown, hts, hT, hK, rs, hlk, hret, hnm⟩ := id C
  have hm : ∀ w ∈ MW, w.before args s = true := fun w hw => hts w (hT w hw)
  unfold p_X11_canWrite_70 at hp
  refine z_istore_n (lv' := [(3, .int s0), (0, zr v0), (1, .int v1), (2, .int v2)]) hx hb dX11_canWrite_70 rfl hl (by decide) rfl (fun ls hl => ?_)
  refine lv_iconst (v := iI 0) hx hb dX11_canWrite_71 rfl ?_
  refine lv_topi (fun x1 ex1 => ?_)
  replace hp := nm_i hp ex1
  refine z_istore (lv' := [(4, .int x1), (3, .int s0), (0, zr v0), (1, .int v1), (2, .int v2)]) hx hb dX11_canWrite_72 hl (by decide) rfl (fun ls hl => ?_)
  exact s_X11_canWrite_74 C  _ _ _ _ _ _ _ _ _ _ _ _ hR hL (zl_sub hl [2, 3, 4, 1, 0] rfl) hp
def p_X11_canWrite_69  (v0 : Nat) (v1 : Int32) (v2 : Int32) (h : AH) : Option (Int32 × AH) :=
  p_X11_canWrite_70  v0 v1 v2 (iI 0) h
set_option maxHeartbeats 4000000 in
set_option maxRecDepth 100000 in
theorem s_X11_canWrite_69 {p : Program} {l : Launch} {e : Env} {s : State} {m : MethodId} {args : Array Value} {below : List Frame} {meth : Method} {c : Code} {G : GG} {hs : AH} {r : Int32} {h' : AH} (C : Cx G hs p s m args meth c cX11_canWrite 5 RX11 (.code yX11_canWrite cX11_canWrite 5 (some .boolean) :: MW) (some .boolean) "canWrite")   {v0 : Nat} {v1 : Int32} {v2 : Int32} {h : AH} {H : Heap} {locs : List Loc} {cells slots : Nat} {ls : Array Slot} (hR : Rp G h H) (hL : ∀ q ∈ locs, gB G ≤ q.base) (hl : zl ls 5 [(0, zr v0), (1, .int v1), (2, .int v2)]) (hp : p_X11_canWrite_69  v0 v1 v2 h = some (r, h')) : W p l e (gR G hs 1 40) s m args below meth c H locs cells slots (MQ below (Qcc G (some (.int r)) h') args s (gC G - aZ hs) (gS - aU hs) (fun q => gB G ≤ q)) (F0 m 69 ls []) := by
  obtain ⟨hx, hb, hml, hown, hts, hT, hK, rs, hlk, hret, hnm⟩ := id C
  have hm : ∀ w ∈ MW, w.before args s = true := fun w hw => hts w (hT w hw)
  unfold p_X11_canWrite_69 at hp
  refine lv_iconst (v := iI 0) hx hb dX11_canWrite_69 rfl ?_
  exact s_X11_canWrite_70 C  hR hL (zl_sub hl [0, 1, 2] rfl) hp
def p_X11_canWrite_65  (v0 : Nat) (v1 : Int32) (v2 : Int32) (h : AH) : Option (Int32 × AH) :=
  p_X11_canWrite_70  v0 v1 v2 (iI 1) h
set_option maxHeartbeats 4000000 in
set_option maxRecDepth 100000 in
theorem s_X11_canWrite_65 {p : Program} {l : Launch} {e : Env} {s : State} {m : MethodId} {args : Array Value} {below : List Frame} {meth : Method} {c : Code} {G : GG} {hs : AH} {r : Int32} {h' : AH} (C : Cx G hs p s m args meth c cX11_canWrite 5 RX11 (.code yX11_canWrite cX11_canWrite 5 (some .boolean) :: MW) (some .boolean) "canWrite")   {v0 : Nat} {v1 : Int32} {v2 : Int32} {h : AH} {H : Heap} {locs : List Loc} {cells slots : Nat} {ls : Array Slot} (hR : Rp G h H) (hL : ∀ q ∈ locs, gB G ≤ q.base) (hl : zl ls 5 [(0, zr v0), (1, .int v1), (2, .int v2)]) (hp : p_X11_canWrite_65  v0 v1 v2 h = some (r, h')) : W p l e (gR G hs 1 40) s m args below meth c H locs cells slots (MQ below (Qcc G (some (.int r)) h') args s (gC G - aZ hs) (gS - aU hs) (fun q => gB G ≤ q)) (F0 m 65 ls []) := by
  obtain ⟨hx, hb, hml, hown, hts, hT, hK, rs, hlk, hret, hnm⟩ := id C
  have hm : ∀ w ∈ MW, w.before args s = true := fun w hw => hts w (hT w hw)
  unfold p_X11_canWrite_65 at hp
  refine lv_iconst (v := iI 1) hx hb dX11_canWrite_65 rfl ?_
  refine lv_goto (tgt := 70) hx hb dX11_canWrite_66 (by decide) ?_
  exact s_X11_canWrite_70 C  hR hL (zl_sub hl [0, 1, 2] rfl) hp
def p_X11_canWrite_40  (v0 : Nat) (v1 : Int32) (v2 : Int32) (h : AH) : Option (Int32 × AH) :=
  ck (aK h v0 = 13) <|
  ck (aK h (aR h v0 24) = 20 ∧ ix v2 (aN h (aR h v0 24))) <|
  if (aI h (aR h v0 24) v2.toNatClampNeg) = (iI (-1)) then
    p_X11_canWrite_65  v0 v1 v2 h
  else
    ck (aK h v0 = 13) <|
    ck (aK h (aR h v0 24) = 20 ∧ ix v2 (aN h (aR h v0 24))) <|
    ck (aK h v0 = 13) <|
    ck (aK h (aR h v0 19) = 20 ∧ ix v1 (aN h (aR h v0 19))) <|
    if (aI h (aR h v0 24) v2.toNatClampNeg) = (aI h (aR h v0 19) v1.toNatClampNeg) then
      p_X11_canWrite_65  v0 v1 v2 h
    else
      p_X11_canWrite_69  v0 v1 v2 h
set_option maxHeartbeats 4000000 in
set_option maxRecDepth 100000 in
theorem s_X11_canWrite_40 {p : Program} {l : Launch} {e : Env} {s : State} {m : MethodId} {args : Array Value} {below : List Frame} {meth : Method} {c : Code} {G : GG} {hs : AH} {r : Int32} {h' : AH} (C : Cx G hs p s m args meth c cX11_canWrite 5 RX11 (.code yX11_canWrite cX11_canWrite 5 (some .boolean) :: MW) (some .boolean) "canWrite")   {v0 : Nat} {v1 : Int32} {v2 : Int32} {h : AH} {H : Heap} {locs : List Loc} {cells slots : Nat} {ls : Array Slot} (hR : Rp G h H) (hL : ∀ q ∈ locs, gB G ≤ q.base) (hl : zl ls 5 [(0, zr v0), (1, .int v1), (2, .int v2)]) (hp : p_X11_canWrite_40  v0 v1 v2 h = some (r, h')) : W p l e (gR G hs 1 40) s m args below meth c H locs cells slots (MQ below (Qcc G (some (.int r)) h') args s (gC G - aZ hs) (gS - aU hs) (fun q => gB G ≤ q)) (F0 m 40 ls []) := by
  obtain ⟨hx, hb, hml, hown, hts, hT, hK, rs, hlk, hret, hnm⟩ := id C
  have hm : ∀ w ∈ MW, w.before args s = true := fun w hw => hts w (hT w hw)
  unfold p_X11_canWrite_40 at hp
  refine z_aload_n hx hb dX11_canWrite_40 rfl (zl_at hl 0 rfl) ?_
  obtain ⟨k1, hp⟩ := ck_i hp
  refine r_get (ci := 12) (C := RX11) (T := TX11) (N := 32) (v := zr (aR h v0 24)) hx hb hm ii_X11 hown hK hR rfl k1 24 (by decide) (hm _ mw_1006) (fun _ h9 => h9) rfl dX11_canWrite_41 ?_
  refine lv_iload_n hx hb dX11_canWrite_44 rfl (zl_at hl 2 rfl) ?_
  obtain ⟨k2, hp⟩ := ck_i hp
  refine r_iald hx hb hK hR k2.1 k2.2 dX11_canWrite_45 ?_
  refine lv_iconst (v := iI (-1)) hx hb dX11_canWrite_46 rfl ?_
  refine lv_icmp_eq (tgt := 65) hx hb dX11_canWrite_47 (by decide) (fun c4 => ?_) (fun c4 => ?_)
  · replace hp := ite_p hp c4
    exact s_X11_canWrite_65 C  hR hL (zl_sub hl [0, 1, 2] rfl) hp
  · replace hp := ite_n hp c4
    refine z_aload_n hx hb dX11_canWrite_50 rfl (zl_at hl 0 rfl) ?_
    obtain ⟨k5, hp⟩ := ck_i hp
    refine r_get (ci := 12) (C := RX11) (T := TX11) (N := 32) (v := zr (aR h v0 24)) hx hb hm ii_X11 hown hK hR rfl k5 24 (by decide) (hm _ mw_1006) (fun _ h9 => h9) rfl dX11_canWrite_51 ?_
    refine lv_iload_n hx hb dX11_canWrite_54 rfl (zl_at hl 2 rfl) ?_
    obtain ⟨k6, hp⟩ := ck_i hp
    refine r_iald hx hb hK hR k6.1 k6.2 dX11_canWrite_55 ?_
    refine z_aload_n hx hb dX11_canWrite_56 rfl (zl_at hl 0 rfl) ?_
    obtain ⟨k8, hp⟩ := ck_i hp
    refine r_get (ci := 12) (C := RX11) (T := TX11) (N := 32) (v := zr (aR h v0 19)) hx hb hm ii_X11 hown hK hR rfl k8 19 (by decide) (hm _ mw_1001) (fun _ h9 => h9) rfl dX11_canWrite_57 ?_
    refine lv_iload_n hx hb dX11_canWrite_60 rfl (zl_at hl 1 rfl) ?_
    obtain ⟨k9, hp⟩ := ck_i hp
    refine r_iald hx hb hK hR k9.1 k9.2 dX11_canWrite_61 ?_
    refine lv_icmp_ne (tgt := 69) hx hb dX11_canWrite_62 (by decide) (fun c11 => ?_) (fun c11 => ?_)
    · replace hp := ite_n hp c11
      exact s_X11_canWrite_69 C  hR hL (zl_sub hl [0, 1, 2] rfl) hp
    · replace hp := ite_p hp c11
      exact s_X11_canWrite_65 C  hR hL (zl_sub hl [0, 1, 2] rfl) hp
def p_X11_canWrite_0  (v0 : Nat) (v1 : Int32) (h : AH) : Option (Int32 × AH) :=
  ck (aK h v0 = 13) <|
  ck (aK h (aR h v0 20) = 20 ∧ ix v1 (aN h (aR h v0 20))) <|
  nm ((aI h (aR h v0 20) v1.toNatClampNeg)) fun (x4 : Int32) =>
  ck (aK h v0 = 13) <|
  ck (aK h (aR h v0 22) = 22 ∧ ix v1 (aN h (aR h v0 22))) <|
  if (aI h (aR h v0 22) v1.toNatClampNeg) = 0 then
    ck (aK h v0 = 13) <|
    ck (aK h (aR h v0 21) = 20 ∧ ix v1 (aN h (aR h v0 21))) <|
    if (aI h (aR h v0 21) v1.toNatClampNeg) = (iI (-1)) then
      p_X11_canWrite_40  v0 v1 x4 h
    else
      ck (aK h v0 = 13) <|
      ck (aK h v0 = 13) <|
      ck (aK h (aR h v0 21) = 20 ∧ ix v1 (aN h (aR h v0 21))) <|
      ck (aK h (aR h v0 10) = 20 ∧ ix (aI h (aR h v0 21) v1.toNatClampNeg) (aN h (aR h v0 10))) <|
      if (aI h (aR h v0 10) (aI h (aR h v0 21) v1.toNatClampNeg).toNatClampNeg) = 0 then
        p_X11_canWrite_69  v0 v1 x4 h
      else
        p_X11_canWrite_40  v0 v1 x4 h
  else
    p_X11_canWrite_69  v0 v1 x4 h
set_option maxHeartbeats 4000000 in
set_option maxRecDepth 100000 in
theorem s_X11_canWrite_0 {p : Program} {l : Launch} {e : Env} {s : State} {m : MethodId} {args : Array Value} {below : List Frame} {meth : Method} {c : Code} {G : GG} {hs : AH} {r : Int32} {h' : AH} (C : Cx G hs p s m args meth c cX11_canWrite 5 RX11 (.code yX11_canWrite cX11_canWrite 5 (some .boolean) :: MW) (some .boolean) "canWrite")   {v0 : Nat} {v1 : Int32} {h : AH} {H : Heap} {locs : List Loc} {cells slots : Nat} {ls : Array Slot} (hR : Rp G h H) (hL : ∀ q ∈ locs, gB G ≤ q.base) (hl : zl ls 5 [(0, zr v0), (1, .int v1)]) (hp : p_X11_canWrite_0  v0 v1 h = some (r, h')) : W p l e (gR G hs 1 40) s m args below meth c H locs cells slots (MQ below (Qcc G (some (.int r)) h') args s (gC G - aZ hs) (gS - aU hs) (fun q => gB G ≤ q)) (F0 m 0 ls []) := by
  obtain ⟨hx, hb, hml, hown, hts, hT, hK, rs, hlk, hret, hnm⟩ := id C
  have hm : ∀ w ∈ MW, w.before args s = true := fun w hw => hts w (hT w hw)
  unfold p_X11_canWrite_0 at hp
  refine z_aload_n hx hb dX11_canWrite_0 rfl (zl_at hl 0 rfl) ?_
  obtain ⟨k1, hp⟩ := ck_i hp
  refine r_get (ci := 12) (C := RX11) (T := TX11) (N := 32) (v := zr (aR h v0 20)) hx hb hm ii_X11 hown hK hR rfl k1 20 (by decide) (hm _ mw_1002) (fun _ h9 => h9) rfl dX11_canWrite_1 ?_
  refine lv_iload_n hx hb dX11_canWrite_4 rfl (zl_at hl 1 rfl) ?_
  obtain ⟨k2, hp⟩ := ck_i hp
  refine r_iald hx hb hK hR k2.1 k2.2 dX11_canWrite_5 ?_
  refine lv_topi (fun x4 ex4 => ?_)
  replace hp := nm_i hp ex4
  refine z_istore_n (lv' := [(2, .int x4), (0, zr v0), (1, .int v1)]) hx hb dX11_canWrite_6 rfl hl (by decide) rfl (fun ls hl => ?_)
  refine z_aload_n hx hb dX11_canWrite_7 rfl (zl_at hl 1 rfl) ?_
  obtain ⟨k5, hp⟩ := ck_i hp
  refine r_get (ci := 12) (C := RX11) (T := TX11) (N := 32) (v := zr (aR h v0 22)) hx hb hm ii_X11 hown hK hR rfl k5 22 (by decide) (hm _ mw_1004) (fun _ h9 => h9) rfl dX11_canWrite_8 ?_
  refine lv_iload_n hx hb dX11_canWrite_11 rfl (zl_at hl 2 rfl) ?_
  obtain ⟨k6, hp⟩ := ck_i hp
  refine r_zald hx hb hK hR k6.1 k6.2 dX11_canWrite_12 ?_
  refine lv_if_ne (tgt := 69) hx hb dX11_canWrite_13 (by decide) (fun c8 => ?_) (fun c8 => ?_)
  · replace hp := ite_n hp c8
    exact s_X11_canWrite_69 C  hR hL (zl_sub hl [1, 2, 0] rfl) hp
  · replace hp := ite_p hp c8
    refine z_aload_n hx hb dX11_canWrite_16 rfl (zl_at hl 1 rfl) ?_
    obtain ⟨k9, hp⟩ := ck_i hp
    refine r_get (ci := 12) (C := RX11) (T := TX11) (N := 32) (v := zr (aR h v0 21)) hx hb hm ii_X11 hown hK hR rfl k9 21 (by decide) (hm _ mw_1003) (fun _ h9 => h9) rfl dX11_canWrite_17 ?_
    refine lv_iload_n hx hb dX11_canWrite_20 rfl (zl_at hl 2 rfl) ?_
    obtain ⟨k10, hp⟩ := ck_i hp
    refine r_iald hx hb hK hR k10.1 k10.2 dX11_canWrite_21 ?_
    refine lv_iconst (v := iI (-1)) hx hb dX11_canWrite_22 rfl ?_
    refine lv_icmp_eq (tgt := 40) hx hb dX11_canWrite_23 (by decide) (fun c12 => ?_) (fun c12 => ?_)
    · replace hp := ite_p hp c12
      exact s_X11_canWrite_40 C  hR hL (zl_sub hl [1, 2, 0] rfl) hp
    · replace hp := ite_n hp c12
      refine z_aload_n hx hb dX11_canWrite_26 rfl (zl_at hl 1 rfl) ?_
      obtain ⟨k13, hp⟩ := ck_i hp
      refine r_get (ci := 12) (C := RX11) (T := TX11) (N := 32) (v := zr (aR h v0 10)) hx hb hm ii_X11 hown hK hR rfl k13 10 (by decide) (hm _ mw_992) (fun _ h9 => h9) rfl dX11_canWrite_27 ?_
      refine z_aload_n hx hb dX11_canWrite_30 rfl (zl_at hl 1 rfl) ?_
      obtain ⟨k14, hp⟩ := ck_i hp
      refine r_get (ci := 12) (C := RX11) (T := TX11) (N := 32) (v := zr (aR h v0 21)) hx hb hm ii_X11 hown hK hR rfl k14 21 (by decide) (hm _ mw_1003) (fun _ h9 => h9) rfl dX11_canWrite_31 ?_
      refine lv_iload_n hx hb dX11_canWrite_34 rfl (zl_at hl 2 rfl) ?_
      obtain ⟨k15, hp⟩ := ck_i hp
      refine r_iald hx hb hK hR k15.1 k15.2 dX11_canWrite_35 ?_
      obtain ⟨k17, hp⟩ := ck_i hp
      refine r_iald hx hb hK hR k17.1 k17.2 dX11_canWrite_36 ?_
      refine lv_if_eq (tgt := 69) hx hb dX11_canWrite_37 (by decide) (fun c19 => ?_) (fun c19 => ?_)
      · replace hp := ite_p hp c19
        exact s_X11_canWrite_69 C  hR hL (zl_sub hl [1, 2, 0] rfl) hp
      · replace hp := ite_n hp c19
        exact s_X11_canWrite_40 C  hR hL (zl_sub hl [1, 2, 0] rfl) hp
def p_X11_canWrite (v0 : Nat) (v1 : Int32) (h : AH) : Option (Int32 × AH) := ck (v0 ≠ 0) <| p_X11_canWrite_0 v0 v1 h
theorem c_X11_canWrite (l : Launch) (G : GG) (v0 : Nat) (v1 : Int32) (h : AH) (r : Int32) (h' : AH) (hp : p_X11_canWrite v0 v1 h = some (r, h')) : Ct l yX11_canWrite (.code yX11_canWrite cX11_canWrite 5 (some .boolean) :: MW) G 1 40 [.ref (v0 - 1), .int v1] h (some (.int r)) h' := by
  obtain ⟨hz0, hp⟩ := ck_i hp
  refine Ct.of (by decide +kernel) (Nat.le_of_ble_eq_true rfl) ?_
  intro p e s m args below meth c C hR ls hl
  have hl : zl ls 5 [(0, zr v0), (1, .int v1)] := ⟨by rw [zr_p hz0]; exact hl, by simp [zr_cat, in_cat]⟩
  exact s_X11_canWrite_0 C hR (fun _ hq => nomatch hq) hl hp
/-! CursorKeepModel.write()I -/
def p_X11_write_82  : Nat → Nat → Int32 → Int32 → Int32 → AH → Option (Int32 × AH)
  | 0, _, _, _, _, _ => none
  | n + 1, v0, v1, v2, v3, h =>
    ck (aK h v0 = 13) <|
    if (aI h v0 29) ≤ v3 then
      some (v1, h)
    else
      ck (aK h v0 = 13) <|
      ck (aK h v0 = 13) <|
      bR (p_X11_signAt v0 v2 v3 h) fun r5 h6 =>
      ck (aK h6 (aR h v0 27) = 20 ∧ ix (((iI 150) * v2) + v3) (aN h6 (aR h v0 27))) <|
      nm (uI h6 (aR h v0 27) (((iI 150) * v2) + v3).toNatClampNeg r5) fun h9 =>
      nm (v3 + iI 1) fun (x10 : Int32) =>
      p_X11_write_82  n v0 v1 v2 x10 h9
set_option maxHeartbeats 4000000 in
set_option maxRecDepth 100000 in
theorem s_X11_write_82 {p : Program} {l : Launch} {e : Env} {s : State} {m : MethodId} {args : Array Value} {below : List Frame} {meth : Method} {c : Code} {G : GG} {hs : AH} {r : Int32} {h' : AH} (C : Cx G hs p s m args meth c cX11_write 4 RX11 (.code yX11_write cX11_write 4 (some .int) :: MW) (some .int) "write")   : ∀ (n : Nat) (v0 : Nat) (v1 : Int32) (v2 : Int32) (v3 : Int32) (h : AH) (H : Heap) (locs : List Loc) (cells slots : Nat) (ls : Array Slot) (hR : Rp G h H) (hL : ∀ q ∈ locs, gB G ≤ q.base) (hl : zl ls 4 [(0, zr v0), (1, .int v1), (2, .int v2), (3, .int v3)]) (hp : p_X11_write_82  n v0 v1 v2 v3 h = some (r, h')), W p l e (gR G hs 2 64) s m args below meth c H locs cells slots (MQ below (Qcc G (some (.int r)) h') args s (gC G - aZ hs) (gS - aU hs) (fun q => gB G ≤ q)) (F0 m 82 ls []) := by
  obtain ⟨hx, hb, hml, hown, hts, hT, hK, rs, hlk, hret, hnm⟩ := id C
  have hm : ∀ w ∈ MW, w.before args s = true := fun w hw => hts w (hT w hw)
  intro n
  induction n with
  | zero =>
    intro v0 v1 v2 v3 h H locs cells slots ls hR hL hl hp
    exact absurd (show none = some (r, h') from hp) (by simp)
  | succ n ih =>
    intro v0 v1 v2 v3 h H locs cells slots ls hR hL hl hp
    rw [p_X11_write_82.eq_2] at hp
    refine lv_iload_n hx hb dX11_write_82 rfl (zl_at hl 3 rfl) ?_
    refine z_aload_n hx hb dX11_write_83 rfl (zl_at hl 0 rfl) ?_
    obtain ⟨k1, hp⟩ := ck_i hp
    refine r_get (ci := 12) (C := RX11) (T := TX11) (N := 32) (v := .int (aI h v0 29)) hx hb hm ii_X11 hown hK hR rfl k1 29 (by decide) (hm _ mw_1011) (fun _ h9 => h9) rfl dX11_write_84 ?_
    refine lv_icmp_ge (tgt := 114) hx hb dX11_write_87 (by decide) (fun c2 => ?_) (fun c2 => ?_)
    · replace hp := ite_p hp c2
      refine lv_iload_n hx hb dX11_write_114 rfl (zl_at hl 1 rfl) ?_
      cases hp
      exact r_zret C hR hL rfl dX11_write_115
    · replace hp := ite_n hp c2
      refine z_aload_n hx hb dX11_write_90 rfl (zl_at hl 0 rfl) ?_
      obtain ⟨k3, hp⟩ := ck_i hp
      refine r_get (ci := 12) (C := RX11) (T := TX11) (N := 32) (v := zr (aR h v0 27)) hx hb hm ii_X11 hown hK hR rfl k3 27 (by decide) (hm _ mw_1009) (fun _ h9 => h9) rfl dX11_write_91 ?_
      refine lv_sipush (v := iI 150) hx hb dX11_write_94 (by decide +kernel) ?_
      refine lv_iload_n hx hb dX11_write_97 rfl (zl_at hl 2 rfl) ?_
      refine lv_imul hx hb dX11_write_98 ?_
      refine lv_iload_n hx hb dX11_write_99 rfl (zl_at hl 3 rfl) ?_
      refine lv_iadd hx hb dX11_write_100 ?_
      refine z_aload_n hx hb dX11_write_101 rfl (zl_at hl 0 rfl) ?_
      refine lv_iload_n hx hb dX11_write_102 rfl (zl_at hl 2 rfl) ?_
      refine lv_iload_n hx hb dX11_write_103 rfl (zl_at hl 3 rfl) ?_
      obtain ⟨k4, hp⟩ := ck_i hp
      obtain ⟨r5, h6, er5, hp⟩ := bR_i hp
      refine r_callV (ci := 12) (r := (RX11, TX11, 32)) (n := 2) (As := [.int v2, .int v3]) (rest := [.int (((iI 150) * v2) + v3), zr (aR h v0 27)]) C (c_X11_signAt l G v0 v2 v3 h r5 h6 er5) hR hL rfl k4 mw_1176 mw_1178 mp_28 mw_10 mw_1179 (by decide +kernel) (by decide) rfl (zl_size hl) rfl (by simp [zr_cat, in_cat]) dX11_write_104 (st2 := [.int r5, .int (((iI 150) * v2) + v3), zr (aR h v0 27)]) rfl (fun H locs cells slots hR hL => ?_)
      obtain ⟨k7, hp⟩ := ck_i hp
      refine r_iast hx hb hK hR hL k7.1 k7.2 dX11_write_107 (fun H locs hR hL => ?_)
      obtain ⟨h9, hp, hR⟩ := nm_h hp hR
      obtain ⟨x10, ex10⟩ : ∃ y : Int32, y = v3 + iI 1 := ⟨_, rfl⟩
      replace hp := nm_i hp ex10
      refine z_iinc (v := x10) (lv' := [(3, .int x10), (0, zr v0), (1, .int v1), (2, .int v2)]) hx hb dX11_write_108 hl (k := 3) rfl ex10 (by decide) rfl (fun ls hl => ?_)
      refine lv_goto (tgt := 82) hx hb dX11_write_111 (by decide) ?_
      exact ih _ _ _ _ _ _ _ _ _ _ hR hL (zl_sub hl [1, 2, 3, 0] rfl) hp
def p_X11_write_29  (v0 : Nat) (v1 : Int32) (h : AH) : Option (Int32 × AH) :=
  ck (aK h v0 = 13) <|
  if v1 = (aI h v0 23) then
    some ((iI (-1)), h)
  else
    ck (aK h v0 = 13) <|
    ck (aK h (aR h v0 20) = 20 ∧ ix v1 (aN h (aR h v0 20))) <|
    nm ((aI h (aR h v0 20) v1.toNatClampNeg)) fun (x6 : Int32) =>
    ck (aK h v0 = 13) <|
    ck (aK h (aR h v0 22) = 22 ∧ ix v1 (aN h (aR h v0 22))) <|
    nm (uI h (aR h v0 22) v1.toNatClampNeg (nZ (iI 1))) fun h10 =>
    ck (aK h10 v0 = 13) <|
    bR (p_X11_shows v0 x6 h10) fun r12 h13 =>
    ck (aK h13 v0 = 13) <|
    ck (aK h13 v0 = 13) <|
    ck (aK h13 (aR h13 v0 4) = 20 ∧ ix x6 (aN h13 (aR h13 v0 4))) <|
    ck (aK h13 (aR h13 v0 25) = 20 ∧ ix x6 (aN h13 (aR h13 v0 25))) <|
    nm (uI h13 (aR h13 v0 25) x6.toNatClampNeg (aI h13 (aR h13 v0 4) x6.toNatClampNeg)) fun h20 =>
    ck (aK h20 v0 = 13) <|
    ck (aK h20 v0 = 13) <|
    ck (aK h20 (aR h20 v0 26) = 20 ∧ ix x6 (aN h20 (aR h20 v0 26))) <|
    nm (uI h20 (aR h20 v0 26) x6.toNatClampNeg (aI h20 v0 29)) fun h25 =>
    nm ((iI 0)) fun (x26 : Int32) =>
    p_X11_write_82  FU v0 v1 x6 x26 h25
set_option maxHeartbeats 4000000 in
set_option maxRecDepth 100000 in
theorem s_X11_write_29 {p : Program} {l : Launch} {e : Env} {s : State} {m : MethodId} {args : Array Value} {below : List Frame} {meth : Method} {c : Code} {G : GG} {hs : AH} {r : Int32} {h' : AH} (C : Cx G hs p s m args meth c cX11_write 4 RX11 (.code yX11_write cX11_write 4 (some .int) :: MW) (some .int) "write")   {v0 : Nat} {v1 : Int32} {h : AH} {H : Heap} {locs : List Loc} {cells slots : Nat} {ls : Array Slot} (hR : Rp G h H) (hL : ∀ q ∈ locs, gB G ≤ q.base) (hl : zl ls 4 [(0, zr v0), (1, .int v1)]) (hp : p_X11_write_29  v0 v1 h = some (r, h')) : W p l e (gR G hs 2 64) s m args below meth c H locs cells slots (MQ below (Qcc G (some (.int r)) h') args s (gC G - aZ hs) (gS - aU hs) (fun q => gB G ≤ q)) (F0 m 29 ls []) := by
  obtain ⟨hx, hb, hml, hown, hts, hT, hK, rs, hlk, hret, hnm⟩ := id C
  have hm : ∀ w ∈ MW, w.before args s = true := fun w hw => hts w (hT w hw)
  unfold p_X11_write_29 at hp
  refine lv_iload_n hx hb dX11_write_29 rfl (zl_at hl 1 rfl) ?_
  refine z_aload_n hx hb dX11_write_30 rfl (zl_at hl 0 rfl) ?_
  obtain ⟨k1, hp⟩ := ck_i hp
  refine r_get (ci := 12) (C := RX11) (T := TX11) (N := 32) (v := .int (aI h v0 23)) hx hb hm ii_X11 hown hK hR rfl k1 23 (by decide) (hm _ mw_1005) (fun _ h9 => h9) rfl dX11_write_31 ?_
  refine lv_icmp_ne (tgt := 39) hx hb dX11_write_34 (by decide) (fun c2 => ?_) (fun c2 => ?_)
  · replace hp := ite_n hp c2
    refine z_aload_n hx hb dX11_write_39 rfl (zl_at hl 0 rfl) ?_
    obtain ⟨k3, hp⟩ := ck_i hp
    refine r_get (ci := 12) (C := RX11) (T := TX11) (N := 32) (v := zr (aR h v0 20)) hx hb hm ii_X11 hown hK hR rfl k3 20 (by decide) (hm _ mw_1002) (fun _ h9 => h9) rfl dX11_write_40 ?_
    refine lv_iload_n hx hb dX11_write_43 rfl (zl_at hl 1 rfl) ?_
    obtain ⟨k4, hp⟩ := ck_i hp
    refine r_iald hx hb hK hR k4.1 k4.2 dX11_write_44 ?_
    refine lv_topi (fun x6 ex6 => ?_)
    replace hp := nm_i hp ex6
    refine z_istore_n (lv' := [(2, .int x6), (0, zr v0), (1, .int v1)]) hx hb dX11_write_45 rfl hl (by decide) rfl (fun ls hl => ?_)
    refine z_aload_n hx hb dX11_write_46 rfl (zl_at hl 1 rfl) ?_
    obtain ⟨k7, hp⟩ := ck_i hp
    refine r_get (ci := 12) (C := RX11) (T := TX11) (N := 32) (v := zr (aR h v0 22)) hx hb hm ii_X11 hown hK hR rfl k7 22 (by decide) (hm _ mw_1004) (fun _ h9 => h9) rfl dX11_write_47 ?_
    refine lv_iload_n hx hb dX11_write_50 rfl (zl_at hl 2 rfl) ?_
    refine lv_iconst (v := iI 1) hx hb dX11_write_51 rfl ?_
    obtain ⟨k8, hp⟩ := ck_i hp
    refine r_zast hx hb hK hR hL k8.1 k8.2 dX11_write_52 (fun H locs hR hL => ?_)
    obtain ⟨h10, hp, hR⟩ := nm_h hp hR
    refine z_aload_n hx hb dX11_write_53 rfl (zl_at hl 1 rfl) ?_
    refine lv_iload_n hx hb dX11_write_54 rfl (zl_at hl 0 rfl) ?_
    obtain ⟨k11, hp⟩ := ck_i hp
    obtain ⟨r12, h13, er12, hp⟩ := bR_i hp
    refine r_callV (ci := 12) (r := (RX11, TX11, 32)) (n := 1) (As := [.int x6]) (rest := []) C (c_X11_shows l G v0 x6 h10 r12 h13 er12) hR hL rfl k11 mw_1116 mw_1118 mp_23 mw_10 mw_1119 (by decide +kernel) (by decide) rfl (zl_size hl) rfl (by simp [zr_cat, in_cat]) dX11_write_55 (st2 := []) rfl (fun H locs cells slots hR hL => ?_)
    refine z_aload_n hx hb dX11_write_58 rfl (zl_at hl 1 rfl) ?_
    obtain ⟨k14, hp⟩ := ck_i hp
    refine r_get (ci := 12) (C := RX11) (T := TX11) (N := 32) (v := zr (aR h13 v0 25)) hx hb hm ii_X11 hown hK hR rfl k14 25 (by decide) (hm _ mw_1007) (fun _ h9 => h9) rfl dX11_write_59 ?_
    refine lv_iload_n hx hb dX11_write_62 rfl (zl_at hl 0 rfl) ?_
    refine z_aload_n hx hb dX11_write_63 rfl (zl_at hl 1 rfl) ?_
    obtain ⟨k15, hp⟩ := ck_i hp
    refine r_get (ci := 12) (C := RX11) (T := TX11) (N := 32) (v := zr (aR h13 v0 4)) hx hb hm ii_X11 hown hK hR rfl k15 4 (by decide) (hm _ mw_986) (fun _ h9 => h9) rfl dX11_write_64 ?_
    refine lv_iload_n hx hb dX11_write_67 rfl (zl_at hl 0 rfl) ?_
    obtain ⟨k16, hp⟩ := ck_i hp
    refine r_iald hx hb hK hR k16.1 k16.2 dX11_write_68 ?_
    obtain ⟨k18, hp⟩ := ck_i hp
    refine r_iast hx hb hK hR hL k18.1 k18.2 dX11_write_69 (fun H locs hR hL => ?_)
    obtain ⟨h20, hp, hR⟩ := nm_h hp hR
    refine z_aload_n hx hb dX11_write_70 rfl (zl_at hl 1 rfl) ?_
    obtain ⟨k21, hp⟩ := ck_i hp
    refine r_get (ci := 12) (C := RX11) (T := TX11) (N := 32) (v := zr (aR h20 v0 26)) hx hb hm ii_X11 hown hK hR rfl k21 26 (by decide) (hm _ mw_1008) (fun _ h9 => h9) rfl dX11_write_71 ?_
    refine lv_iload_n hx hb dX11_write_74 rfl (zl_at hl 0 rfl) ?_
    refine z_aload_n hx hb dX11_write_75 rfl (zl_at hl 1 rfl) ?_
    obtain ⟨k22, hp⟩ := ck_i hp
    refine r_get (ci := 12) (C := RX11) (T := TX11) (N := 32) (v := .int (aI h20 v0 29)) hx hb hm ii_X11 hown hK hR rfl k22 29 (by decide) (hm _ mw_1011) (fun _ h9 => h9) rfl dX11_write_76 ?_
    obtain ⟨k23, hp⟩ := ck_i hp
    refine r_iast hx hb hK hR hL k23.1 k23.2 dX11_write_79 (fun H locs hR hL => ?_)
    obtain ⟨h25, hp, hR⟩ := nm_h hp hR
    refine lv_iconst (v := iI 0) hx hb dX11_write_80 rfl ?_
    refine lv_topi (fun x26 ex26 => ?_)
    replace hp := nm_i hp ex26
    refine z_istore_n (lv' := [(3, .int x26), (2, .int x6), (0, zr v0), (1, .int v1)]) hx hb dX11_write_81 rfl hl (by decide) rfl (fun ls hl => ?_)
    exact s_X11_write_82 C  _ _ _ _ _ _ _ _ _ _ _ hR hL (zl_sub hl [2, 3, 1, 0] rfl) hp
  · replace hp := ite_p hp c2
    refine lv_iconst (v := iI (-1)) hx hb dX11_write_37 rfl ?_
    cases hp
    exact r_zret C hR hL rfl dX11_write_38
def p_X11_write_7  : Nat → Nat → Int32 → AH → Option (Int32 × AH)
  | 0, _, _, _ => none
  | n + 1, v0, v1, h =>
    ck (aK h v0 = 13) <|
    if (aI h v0 23) ≤ v1 then
      p_X11_write_29  v0 v1 h
    else
      ck (aK h v0 = 13) <|
      bR (p_X11_canWrite v0 v1 h) fun r4 h5 =>
      if r4 = 0 then
        nm (v1 + iI 1) fun (x7 : Int32) =>
        p_X11_write_7  n v0 x7 h5
      else
        p_X11_write_29  v0 v1 h5
set_option maxHeartbeats 4000000 in
set_option maxRecDepth 100000 in
theorem s_X11_write_7 {p : Program} {l : Launch} {e : Env} {s : State} {m : MethodId} {args : Array Value} {below : List Frame} {meth : Method} {c : Code} {G : GG} {hs : AH} {r : Int32} {h' : AH} (C : Cx G hs p s m args meth c cX11_write 4 RX11 (.code yX11_write cX11_write 4 (some .int) :: MW) (some .int) "write")   : ∀ (n : Nat) (v0 : Nat) (v1 : Int32) (h : AH) (H : Heap) (locs : List Loc) (cells slots : Nat) (ls : Array Slot) (hR : Rp G h H) (hL : ∀ q ∈ locs, gB G ≤ q.base) (hl : zl ls 4 [(0, zr v0), (1, .int v1)]) (hp : p_X11_write_7  n v0 v1 h = some (r, h')), W p l e (gR G hs 2 64) s m args below meth c H locs cells slots (MQ below (Qcc G (some (.int r)) h') args s (gC G - aZ hs) (gS - aU hs) (fun q => gB G ≤ q)) (F0 m 7 ls []) := by
  obtain ⟨hx, hb, hml, hown, hts, hT, hK, rs, hlk, hret, hnm⟩ := id C
  have hm : ∀ w ∈ MW, w.before args s = true := fun w hw => hts w (hT w hw)
  intro n
  induction n with
  | zero =>
    intro v0 v1 h H locs cells slots ls hR hL hl hp
    exact absurd (show none = some (r, h') from hp) (by simp)
  | succ n ih =>
    intro v0 v1 h H locs cells slots ls hR hL hl hp
    rw [p_X11_write_7.eq_2] at hp
    refine lv_iload_n hx hb dX11_write_7 rfl (zl_at hl 1 rfl) ?_
    refine z_aload_n hx hb dX11_write_8 rfl (zl_at hl 0 rfl) ?_
    obtain ⟨k1, hp⟩ := ck_i hp
    refine r_get (ci := 12) (C := RX11) (T := TX11) (N := 32) (v := .int (aI h v0 23)) hx hb hm ii_X11 hown hK hR rfl k1 23 (by decide) (hm _ mw_1005) (fun _ h9 => h9) rfl dX11_write_9 ?_
    refine lv_icmp_ge (tgt := 29) hx hb dX11_write_12 (by decide) (fun c2 => ?_) (fun c2 => ?_)
    · replace hp := ite_p hp c2
      exact s_X11_write_29 C  hR hL (zl_sub hl [0, 1] rfl) hp
    · replace hp := ite_n hp c2
      refine z_aload_n hx hb dX11_write_15 rfl (zl_at hl 0 rfl) ?_
      refine lv_iload_n hx hb dX11_write_16 rfl (zl_at hl 1 rfl) ?_
      obtain ⟨k3, hp⟩ := ck_i hp
      obtain ⟨r4, h5, er4, hp⟩ := bR_i hp
      refine r_callV (ci := 12) (r := (RX11, TX11, 32)) (n := 1) (As := [.int v1]) (rest := []) C (c_X11_canWrite l G v0 v1 h r4 h5 er4) hR hL rfl k3 mw_1240 mw_1242 mp_37 mw_10 mw_1243 (by decide +kernel) (by decide) rfl (zl_size hl) rfl (by simp [zr_cat, in_cat]) dX11_write_17 (st2 := [.int r4]) rfl (fun H locs cells slots hR hL => ?_)
      refine lv_if_ne (tgt := 29) hx hb dX11_write_20 (by decide) (fun c6 => ?_) (fun c6 => ?_)
      · replace hp := ite_n hp c6
        exact s_X11_write_29 C  hR hL (zl_sub hl [0, 1] rfl) hp
      · replace hp := ite_p hp c6
        obtain ⟨x7, ex7⟩ : ∃ y : Int32, y = v1 + iI 1 := ⟨_, rfl⟩
        replace hp := nm_i hp ex7
        refine z_iinc (v := x7) (lv' := [(1, .int x7), (0, zr v0)]) hx hb dX11_write_23 hl (k := 1) rfl ex7 (by decide) rfl (fun ls hl => ?_)
        refine lv_goto (tgt := 7) hx hb dX11_write_26 (by decide) ?_
        exact ih _ _ _ _ _ _ _ _ hR hL (zl_sub hl [1, 0] rfl) hp
def p_X11_write_0  (v0 : Nat) (h : AH) : Option (Int32 × AH) :=
  ck (aK h v0 = 13) <|
  nm (uI h v0 31 (iI 0)) fun h2 =>
  nm ((iI 0)) fun (x3 : Int32) =>
  p_X11_write_7  FU v0 x3 h2
set_option maxHeartbeats 4000000 in
set_option maxRecDepth 100000 in
theorem s_X11_write_0 {p : Program} {l : Launch} {e : Env} {s : State} {m : MethodId} {args : Array Value} {below : List Frame} {meth : Method} {c : Code} {G : GG} {hs : AH} {r : Int32} {h' : AH} (C : Cx G hs p s m args meth c cX11_write 4 RX11 (.code yX11_write cX11_write 4 (some .int) :: MW) (some .int) "write")   {v0 : Nat} {h : AH} {H : Heap} {locs : List Loc} {cells slots : Nat} {ls : Array Slot} (hR : Rp G h H) (hL : ∀ q ∈ locs, gB G ≤ q.base) (hl : zl ls 4 [(0, zr v0)]) (hp : p_X11_write_0  v0 h = some (r, h')) : W p l e (gR G hs 2 64) s m args below meth c H locs cells slots (MQ below (Qcc G (some (.int r)) h') args s (gC G - aZ hs) (gS - aU hs) (fun q => gB G ≤ q)) (F0 m 0 ls []) := by
  obtain ⟨hx, hb, hml, hown, hts, hT, hK, rs, hlk, hret, hnm⟩ := id C
  have hm : ∀ w ∈ MW, w.before args s = true := fun w hw => hts w (hT w hw)
  unfold p_X11_write_0 at hp
  refine z_aload_n hx hb dX11_write_0 rfl (zl_at hl 0 rfl) ?_
  refine lv_iconst (v := iI 0) hx hb dX11_write_1 rfl ?_
  obtain ⟨k1, hp⟩ := ck_i hp
  refine r_putI (ci := 12) (C := RX11) (T := TX11) (N := 32) hx hb hm ii_X11 tyX11_ok nmX11 hown hK hR hL rfl k1 31 (by decide) (hm _ mw_1013) (fun _ h9 => h9) (Or.inl rfl) rfl rfl (fun _ _ _ => rfl) dX11_write_2 (fun H locs hR hL => ?_)
  obtain ⟨h2, hp, hR⟩ := nm_h hp hR
  refine lv_iconst (v := iI 0) hx hb dX11_write_5 rfl ?_
  refine lv_topi (fun x3 ex3 => ?_)
  replace hp := nm_i hp ex3
  refine z_istore_n (lv' := [(1, .int x3), (0, zr v0)]) hx hb dX11_write_6 rfl hl (by decide) rfl (fun ls hl => ?_)
  exact s_X11_write_7 C  _ _ _ _ _ _ _ _ _ hR hL (zl_sub hl [1, 0] rfl) hp
def p_X11_write (v0 : Nat) (h : AH) : Option (Int32 × AH) := ck (v0 ≠ 0) <| p_X11_write_0 v0 h
theorem c_X11_write (l : Launch) (G : GG) (v0 : Nat) (h : AH) (r : Int32) (h' : AH) (hp : p_X11_write v0 h = some (r, h')) : Ct l yX11_write (.code yX11_write cX11_write 4 (some .int) :: MW) G 2 64 [.ref (v0 - 1)] h (some (.int r)) h' := by
  obtain ⟨hz0, hp⟩ := ck_i hp
  refine Ct.of (by decide +kernel) (Nat.le_of_ble_eq_true rfl) ?_
  intro p e s m args below meth c C hR ls hl
  have hl : zl ls 4 [(0, zr v0)] := ⟨by rw [zr_p hz0]; exact hl, by simp [zr_cat, in_cat]⟩
  exact s_X11_write_0 C hR (fun _ hq => nomatch hq) hl hp
/-! CursorKeepModel.queued()I -/
def p_X11_queued_32 (k9 : Nat → Int32 → Int32 → AH → Option (Int32 × AH)) (v0 : Nat) (v2 : Int32) (s0 : Int32) (s1 : Int32) (h : AH) : Option (Int32 × AH) :=
  nm ((s0 + s1)) fun (x1 : Int32) =>
  nm (v2 + iI 1) fun (x2 : Int32) =>
  k9 v0 x1 x2 h
set_option maxHeartbeats 4000000 in
set_option maxRecDepth 100000 in
theorem s_X11_queued_32 {p : Program} {l : Launch} {e : Env} {s : State} {m : MethodId} {args : Array Value} {below : List Frame} {meth : Method} {c : Code} {G : GG} {hs : AH} {r : Int32} {h' : AH} (C : Cx G hs p s m args meth c cX11_queued 3 RX11 (.code yX11_queued cX11_queued 3 (some .int) :: MW) (some .int) "queued") {k9 : Nat → Int32 → Int32 → AH → Option (Int32 × AH)} (hk9 : ∀ {v0 : Nat} {v1 : Int32} {v2 : Int32} {h : AH} {H : Heap} {locs : List Loc} {cells slots : Nat} {ls : Array Slot}, Rp G h H → (∀ q ∈ locs, gB G ≤ q.base) → zl ls 3 [(0, zr v0), (1, .int v1), (2, .int v2)] → k9 v0 v1 v2 h = some (r, h') → W p l e (gR G hs 1 40) s m args below meth c H locs cells slots (MQ below (Qcc G (some (.int r)) h') args s (gC G - aZ hs) (gS - aU hs) (fun q => gB G ≤ q)) (F0 m 9 ls [])) {v0 : Nat} {v2 : Int32} {s0 : Int32} {s1 : Int32} {h : AH} {H : Heap} {locs : List Loc} {cells slots : Nat} {ls : Array Slot} (hR : Rp G h H) (hL : ∀ q ∈ locs, gB G ≤ q.base) (hl : zl ls 3 [(0, zr v0), (2, .int v2)]) (hp : p_X11_queued_32 k9 v0 v2 s0 s1 h = some (r, h')) : W p l e (gR G hs 1 40) s m args below meth c H locs cells slots (MQ below (Qcc G (some (.int r)) h') args s (gC G - aZ hs) (gS - aU hs) (fun q => gB G ≤ q)) (F0 m 32 ls [.int s1, .int s0]) := by
  obtain ⟨hx, hb, hml, hown, hts, hT, hK, rs, hlk, hret, hnm⟩ := id C
  have hm : ∀ w ∈ MW, w.before args s = true := fun w hw => hts w (hT w hw)
  unfold p_X11_queued_32 at hp
  refine lv_iadd hx hb dX11_queued_32 ?_
  refine lv_topi (fun x1 ex1 => ?_)
  replace hp := nm_i hp ex1
  refine z_istore_n (lv' := [(1, .int x1), (0, zr v0), (2, .int v2)]) hx hb dX11_queued_33 rfl hl (by decide) rfl (fun ls hl => ?_)
  obtain ⟨x2, ex2⟩ : ∃ y : Int32, y = v2 + iI 1 := ⟨_, rfl⟩
  replace hp := nm_i hp ex2
  refine z_iinc (v := x2) (lv' := [(2, .int x2), (1, .int x1), (0, zr v0)]) hx hb dX11_queued_34 hl (k := 2) rfl ex2 (by decide) rfl (fun ls hl => ?_)
  refine lv_goto (tgt := 9) hx hb dX11_queued_37 (by decide) ?_
  exact hk9 hR hL (zl_sub hl [2, 1, 0] rfl) hp
def p_X11_queued_9  : Nat → Nat → Int32 → Int32 → AH → Option (Int32 × AH)
  | 0, _, _, _, _ => none
  | n + 1, v0, v1, v2, h =>
    ck (aK h v0 = 13) <|
    if (aI h v0 23) ≤ v2 then
      some (v1, h)
    else
      ck (aK h v0 = 13) <|
      ck (aK h (aR h v0 22) = 22 ∧ ix v2 (aN h (aR h v0 22))) <|
      if (aI h (aR h v0 22) v2.toNatClampNeg) = 0 then
        p_X11_queued_32 (p_X11_queued_9  n) v0 v2 v1 (iI 1) h
      else
        p_X11_queued_32 (p_X11_queued_9  n) v0 v2 v1 (iI 0) h
set_option maxHeartbeats 4000000 in
set_option maxRecDepth 100000 in
theorem s_X11_queued_9 {p : Program} {l : Launch} {e : Env} {s : State} {m : MethodId} {args : Array Value} {below : List Frame} {meth : Method} {c : Code} {G : GG} {hs : AH} {r : Int32} {h' : AH} (C : Cx G hs p s m args meth c cX11_queued 3 RX11 (.code yX11_queued cX11_queued 3 (some .int) :: MW) (some .int) "queued")   : ∀ (n : Nat) (v0 : Nat) (v1 : Int32) (v2 : Int32) (h : AH) (H : Heap) (locs : List Loc) (cells slots : Nat) (ls : Array Slot) (hR : Rp G h H) (hL : ∀ q ∈ locs, gB G ≤ q.base) (hl : zl ls 3 [(0, zr v0), (1, .int v1), (2, .int v2)]) (hp : p_X11_queued_9  n v0 v1 v2 h = some (r, h')), W p l e (gR G hs 1 40) s m args below meth c H locs cells slots (MQ below (Qcc G (some (.int r)) h') args s (gC G - aZ hs) (gS - aU hs) (fun q => gB G ≤ q)) (F0 m 9 ls []) := by
  obtain ⟨hx, hb, hml, hown, hts, hT, hK, rs, hlk, hret, hnm⟩ := id C
  have hm : ∀ w ∈ MW, w.before args s = true := fun w hw => hts w (hT w hw)
  intro n
  induction n with
  | zero =>
    intro v0 v1 v2 h H locs cells slots ls hR hL hl hp
    exact absurd (show none = some (r, h') from hp) (by simp)
  | succ n ih =>
    intro v0 v1 v2 h H locs cells slots ls hR hL hl hp
    rw [p_X11_queued_9.eq_2] at hp
    refine lv_iload_n hx hb dX11_queued_9 rfl (zl_at hl 2 rfl) ?_
    refine z_aload_n hx hb dX11_queued_10 rfl (zl_at hl 0 rfl) ?_
    obtain ⟨k1, hp⟩ := ck_i hp
    refine r_get (ci := 12) (C := RX11) (T := TX11) (N := 32) (v := .int (aI h v0 23)) hx hb hm ii_X11 hown hK hR rfl k1 23 (by decide) (hm _ mw_1005) (fun _ h9 => h9) rfl dX11_queued_11 ?_
    refine lv_icmp_ge (tgt := 40) hx hb dX11_queued_14 (by decide) (fun c2 => ?_) (fun c2 => ?_)
    · replace hp := ite_p hp c2
      refine lv_iload_n hx hb dX11_queued_40 rfl (zl_at hl 1 rfl) ?_
      cases hp
      exact r_zret C hR hL rfl dX11_queued_41
    · replace hp := ite_n hp c2
      refine lv_iload_n hx hb dX11_queued_17 rfl (zl_at hl 1 rfl) ?_
      refine z_aload_n hx hb dX11_queued_18 rfl (zl_at hl 0 rfl) ?_
      obtain ⟨k3, hp⟩ := ck_i hp
      refine r_get (ci := 12) (C := RX11) (T := TX11) (N := 32) (v := zr (aR h v0 22)) hx hb hm ii_X11 hown hK hR rfl k3 22 (by decide) (hm _ mw_1004) (fun _ h9 => h9) rfl dX11_queued_19 ?_
      refine lv_iload_n hx hb dX11_queued_22 rfl (zl_at hl 2 rfl) ?_
      obtain ⟨k4, hp⟩ := ck_i hp
      refine r_zald hx hb hK hR k4.1 k4.2 dX11_queued_23 ?_
      refine lv_if_eq (tgt := 31) hx hb dX11_queued_24 (by decide) (fun c6 => ?_) (fun c6 => ?_)
      · replace hp := ite_p hp c6
        refine lv_iconst (v := iI 1) hx hb dX11_queued_31 rfl ?_
        exact s_X11_queued_32 C (fun hR hL hl hp => ih _ _ _ _ _ _ _ _ _ hR hL hl hp) hR hL (zl_sub hl [0, 2] rfl) hp
      · replace hp := ite_n hp c6
        refine lv_iconst (v := iI 0) hx hb dX11_queued_27 rfl ?_
        refine lv_goto (tgt := 32) hx hb dX11_queued_28 (by decide) ?_
        exact s_X11_queued_32 C (fun hR hL hl hp => ih _ _ _ _ _ _ _ _ _ hR hL hl hp) hR hL (zl_sub hl [0, 2] rfl) hp
def p_X11_queued_0  (v0 : Nat) (h : AH) : Option (Int32 × AH) :=
  ck (aK h v0 = 13) <|
  nm (uI h v0 31 (iI 0)) fun h2 =>
  nm ((iI 0)) fun (x3 : Int32) =>
  nm ((iI 0)) fun (x4 : Int32) =>
  p_X11_queued_9  FU v0 x3 x4 h2
set_option maxHeartbeats 4000000 in
set_option maxRecDepth 100000 in
theorem s_X11_queued_0 {p : Program} {l : Launch} {e : Env} {s : State} {m : MethodId} {args : Array Value} {below : List Frame} {meth : Method} {c : Code} {G : GG} {hs : AH} {r : Int32} {h' : AH} (C : Cx G hs p s m args meth c cX11_queued 3 RX11 (.code yX11_queued cX11_queued 3 (some .int) :: MW) (some .int) "queued")   {v0 : Nat} {h : AH} {H : Heap} {locs : List Loc} {cells slots : Nat} {ls : Array Slot} (hR : Rp G h H) (hL : ∀ q ∈ locs, gB G ≤ q.base) (hl : zl ls 3 [(0, zr v0)]) (hp : p_X11_queued_0  v0 h = some (r, h')) : W p l e (gR G hs 1 40) s m args below meth c H locs cells slots (MQ below (Qcc G (some (.int r)) h') args s (gC G - aZ hs) (gS - aU hs) (fun q => gB G ≤ q)) (F0 m 0 ls []) := by
  obtain ⟨hx, hb, hml, hown, hts, hT, hK, rs, hlk, hret, hnm⟩ := id C
  have hm : ∀ w ∈ MW, w.before args s = true := fun w hw => hts w (hT w hw)
  unfold p_X11_queued_0 at hp
  refine z_aload_n hx hb dX11_queued_0 rfl (zl_at hl 0 rfl) ?_
  refine lv_iconst (v := iI 0) hx hb dX11_queued_1 rfl ?_
  obtain ⟨k1, hp⟩ := ck_i hp
  refine r_putI (ci := 12) (C := RX11) (T := TX11) (N := 32) hx hb hm ii_X11 tyX11_ok nmX11 hown hK hR hL rfl k1 31 (by decide) (hm _ mw_1013) (fun _ h9 => h9) (Or.inl rfl) rfl rfl (fun _ _ _ => rfl) dX11_queued_2 (fun H locs hR hL => ?_)
  obtain ⟨h2, hp, hR⟩ := nm_h hp hR
  refine lv_iconst (v := iI 0) hx hb dX11_queued_5 rfl ?_
  refine lv_topi (fun x3 ex3 => ?_)
  replace hp := nm_i hp ex3
  refine z_istore_n (lv' := [(1, .int x3), (0, zr v0)]) hx hb dX11_queued_6 rfl hl (by decide) rfl (fun ls hl => ?_)
  refine lv_iconst (v := iI 0) hx hb dX11_queued_7 rfl ?_
  refine lv_topi (fun x4 ex4 => ?_)
  replace hp := nm_i hp ex4
  refine z_istore_n (lv' := [(2, .int x4), (1, .int x3), (0, zr v0)]) hx hb dX11_queued_8 rfl hl (by decide) rfl (fun ls hl => ?_)
  exact s_X11_queued_9 C  _ _ _ _ _ _ _ _ _ _ hR hL (zl_sub hl [2, 1, 0] rfl) hp
def p_X11_queued (v0 : Nat) (h : AH) : Option (Int32 × AH) := ck (v0 ≠ 0) <| p_X11_queued_0 v0 h
theorem c_X11_queued (l : Launch) (G : GG) (v0 : Nat) (h : AH) (r : Int32) (h' : AH) (hp : p_X11_queued v0 h = some (r, h')) : Ct l yX11_queued (.code yX11_queued cX11_queued 3 (some .int) :: MW) G 1 40 [.ref (v0 - 1)] h (some (.int r)) h' := by
  obtain ⟨hz0, hp⟩ := ck_i hp
  refine Ct.of (by decide +kernel) (Nat.le_of_ble_eq_true rfl) ?_
  intro p e s m args below meth c C hR ls hl
  have hl : zl ls 3 [(0, zr v0)] := ⟨by rw [zr_p hz0]; exact hl, by simp [zr_cat, in_cat]⟩
  exact s_X11_queued_0 C hR (fun _ hq => nomatch hq) hl hp
/-! CursorKeepModel.savedVersion(I)I -/
def p_X11_savedVersion_23  (s0 : Int32) (h : AH) : Option (Int32 × AH) :=
  some (s0, h)
set_option maxHeartbeats 4000000 in
set_option maxRecDepth 100000 in
theorem s_X11_savedVersion_23 {p : Program} {l : Launch} {e : Env} {s : State} {m : MethodId} {args : Array Value} {below : List Frame} {meth : Method} {c : Code} {G : GG} {hs : AH} {r : Int32} {h' : AH} (C : Cx G hs p s m args meth c cX11_savedVersion 2 RX11 (.code yX11_savedVersion cX11_savedVersion 2 (some .int) :: MW) (some .int) "savedVersion")   {s0 : Int32} {h : AH} {H : Heap} {locs : List Loc} {cells slots : Nat} {ls : Array Slot} (hR : Rp G h H) (hL : ∀ q ∈ locs, gB G ≤ q.base) (hl : zl ls 2 []) (hp : p_X11_savedVersion_23  s0 h = some (r, h')) : W p l e (gR G hs 3 81) s m args below meth c H locs cells slots (MQ below (Qcc G (some (.int r)) h') args s (gC G - aZ hs) (gS - aU hs) (fun q => gB G ≤ q)) (F0 m 23 ls [.int s0]) := by
  obtain ⟨hx, hb, hml, hown, hts, hT, hK, rs, hlk, hret, hnm⟩ := id C
  have hm : ∀ w ∈ MW, w.before args s = true := fun w hw => hts w (hT w hw)
  unfold p_X11_savedVersion_23 at hp
  cases hp
  exact r_zret C hR hL rfl dX11_savedVersion_23
def p_X11_savedVersion_0  (v0 : Nat) (v1 : Int32) (h : AH) : Option (Int32 × AH) :=
  bR (p_X11_isText v1 h) fun r1 h2 =>
  ck (aK h2 v0 = 13) <|
  bR (p_X11_goes v0 r1 (iI 1) (iI 1) h2) fun r4 h5 =>
  if r4 = 0 then
    p_X11_savedVersion_23  (iI 0) h5
  else
    ck (aK h5 v0 = 13) <|
    ck (aK h5 (aR h5 v0 25) = 20 ∧ ix v1 (aN h5 (aR h5 v0 25))) <|
    p_X11_savedVersion_23  (aI h5 (aR h5 v0 25) v1.toNatClampNeg) h5
set_option maxHeartbeats 4000000 in
set_option maxRecDepth 100000 in
theorem s_X11_savedVersion_0 {p : Program} {l : Launch} {e : Env} {s : State} {m : MethodId} {args : Array Value} {below : List Frame} {meth : Method} {c : Code} {G : GG} {hs : AH} {r : Int32} {h' : AH} (C : Cx G hs p s m args meth c cX11_savedVersion 2 RX11 (.code yX11_savedVersion cX11_savedVersion 2 (some .int) :: MW) (some .int) "savedVersion")   {v0 : Nat} {v1 : Int32} {h : AH} {H : Heap} {locs : List Loc} {cells slots : Nat} {ls : Array Slot} (hR : Rp G h H) (hL : ∀ q ∈ locs, gB G ≤ q.base) (hl : zl ls 2 [(0, zr v0), (1, .int v1)]) (hp : p_X11_savedVersion_0  v0 v1 h = some (r, h')) : W p l e (gR G hs 3 81) s m args below meth c H locs cells slots (MQ below (Qcc G (some (.int r)) h') args s (gC G - aZ hs) (gS - aU hs) (fun q => gB G ≤ q)) (F0 m 0 ls []) := by
  obtain ⟨hx, hb, hml, hown, hts, hT, hK, rs, hlk, hret, hnm⟩ := id C
  have hm : ∀ w ∈ MW, w.before args s = true := fun w hw => hts w (hT w hw)
  unfold p_X11_savedVersion_0 at hp
  refine z_aload_n hx hb dX11_savedVersion_0 rfl (zl_at hl 0 rfl) ?_
  refine lv_iload_n hx hb dX11_savedVersion_1 rfl (zl_at hl 1 rfl) ?_
  obtain ⟨r1, h2, er1, hp⟩ := bR_i hp
  refine r_callS (n := 1) (As := [.int v1]) (rest := [zr v0]) C (c_X11_isText l G v1 h r1 h2 er1) hR hL mw_1148 mw_1149 mw_10 mw_1150 (by decide +kernel) (by decide) rfl (zl_size hl) rfl (by simp [zr_cat, in_cat]) dX11_savedVersion_2 (st2 := [.int r1, zr v0]) rfl (fun H locs cells slots hR hL => ?_)
  refine lv_iconst (v := iI 1) hx hb dX11_savedVersion_5 rfl ?_
  refine lv_iconst (v := iI 1) hx hb dX11_savedVersion_6 rfl ?_
  obtain ⟨k3, hp⟩ := ck_i hp
  obtain ⟨r4, h5, er4, hp⟩ := bR_i hp
  refine r_callV (ci := 12) (r := (RX11, TX11, 32)) (n := 3) (As := [.int r1, .int (iI 1), .int (iI 1)]) (rest := []) C (c_X11_goes l G v0 r1 (iI 1) (iI 1) h2 r4 h5 er4) hR hL rfl k3 mw_1096 mw_1098 mp_19 mw_10 mw_1099 (by decide +kernel) (by decide) rfl (zl_size hl) rfl (by simp [zr_cat, in_cat]) dX11_savedVersion_7 (st2 := [.int r4]) rfl (fun H locs cells slots hR hL => ?_)
  refine lv_if_eq (tgt := 22) hx hb dX11_savedVersion_10 (by decide) (fun c6 => ?_) (fun c6 => ?_)
  · replace hp := ite_p hp c6
    refine lv_iconst (v := iI 0) hx hb dX11_savedVersion_22 rfl ?_
    exact s_X11_savedVersion_23 C  hR hL (zl_sub hl [] rfl) hp
  · replace hp := ite_n hp c6
    refine z_aload_n hx hb dX11_savedVersion_13 rfl (zl_at hl 0 rfl) ?_
    obtain ⟨k7, hp⟩ := ck_i hp
    refine r_get (ci := 12) (C := RX11) (T := TX11) (N := 32) (v := zr (aR h5 v0 25)) hx hb hm ii_X11 hown hK hR rfl k7 25 (by decide) (hm _ mw_1007) (fun _ h9 => h9) rfl dX11_savedVersion_14 ?_
    refine lv_iload_n hx hb dX11_savedVersion_17 rfl (zl_at hl 1 rfl) ?_
    obtain ⟨k8, hp⟩ := ck_i hp
    refine r_iald hx hb hK hR k8.1 k8.2 dX11_savedVersion_18 ?_
    refine lv_goto (tgt := 23) hx hb dX11_savedVersion_19 (by decide) ?_
    exact s_X11_savedVersion_23 C  hR hL (zl_sub hl [] rfl) hp
def p_X11_savedVersion (v0 : Nat) (v1 : Int32) (h : AH) : Option (Int32 × AH) := ck (v0 ≠ 0) <| p_X11_savedVersion_0 v0 v1 h
theorem c_X11_savedVersion (l : Launch) (G : GG) (v0 : Nat) (v1 : Int32) (h : AH) (r : Int32) (h' : AH) (hp : p_X11_savedVersion v0 v1 h = some (r, h')) : Ct l yX11_savedVersion (.code yX11_savedVersion cX11_savedVersion 2 (some .int) :: MW) G 3 81 [.ref (v0 - 1), .int v1] h (some (.int r)) h' := by
  obtain ⟨hz0, hp⟩ := ck_i hp
  refine Ct.of (by decide +kernel) (Nat.le_of_ble_eq_true rfl) ?_
  intro p e s m args below meth c C hR ls hl
  have hl : zl ls 2 [(0, zr v0), (1, .int v1)] := ⟨by rw [zr_p hz0]; exact hl, by simp [zr_cat, in_cat]⟩
  exact s_X11_savedVersion_0 C hR (fun _ hq => nomatch hq) hl hp
/-! CursorKeepModel.savedLength(I)I -/
def p_X11_savedLength_23  (s0 : Int32) (h : AH) : Option (Int32 × AH) :=
  some (s0, h)
set_option maxHeartbeats 4000000 in
set_option maxRecDepth 100000 in
theorem s_X11_savedLength_23 {p : Program} {l : Launch} {e : Env} {s : State} {m : MethodId} {args : Array Value} {below : List Frame} {meth : Method} {c : Code} {G : GG} {hs : AH} {r : Int32} {h' : AH} (C : Cx G hs p s m args meth c cX11_savedLength 2 RX11 (.code yX11_savedLength cX11_savedLength 2 (some .int) :: MW) (some .int) "savedLength")   {s0 : Int32} {h : AH} {H : Heap} {locs : List Loc} {cells slots : Nat} {ls : Array Slot} (hR : Rp G h H) (hL : ∀ q ∈ locs, gB G ≤ q.base) (hl : zl ls 2 []) (hp : p_X11_savedLength_23  s0 h = some (r, h')) : W p l e (gR G hs 3 81) s m args below meth c H locs cells slots (MQ below (Qcc G (some (.int r)) h') args s (gC G - aZ hs) (gS - aU hs) (fun q => gB G ≤ q)) (F0 m 23 ls [.int s0]) := by
  obtain ⟨hx, hb, hml, hown, hts, hT, hK, rs, hlk, hret, hnm⟩ := id C
  have hm : ∀ w ∈ MW, w.before args s = true := fun w hw => hts w (hT w hw)
  unfold p_X11_savedLength_23 at hp
  cases hp
  exact r_zret C hR hL rfl dX11_savedLength_23
def p_X11_savedLength_0  (v0 : Nat) (v1 : Int32) (h : AH) : Option (Int32 × AH) :=
  bR (p_X11_isText v1 h) fun r1 h2 =>
  ck (aK h2 v0 = 13) <|
  bR (p_X11_goes v0 r1 (iI 1) (iI 1) h2) fun r4 h5 =>
  if r4 = 0 then
    p_X11_savedLength_23  (iI 0) h5
  else
    ck (aK h5 v0 = 13) <|
    ck (aK h5 (aR h5 v0 26) = 20 ∧ ix v1 (aN h5 (aR h5 v0 26))) <|
    p_X11_savedLength_23  (aI h5 (aR h5 v0 26) v1.toNatClampNeg) h5
set_option maxHeartbeats 4000000 in
set_option maxRecDepth 100000 in
theorem s_X11_savedLength_0 {p : Program} {l : Launch} {e : Env} {s : State} {m : MethodId} {args : Array Value} {below : List Frame} {meth : Method} {c : Code} {G : GG} {hs : AH} {r : Int32} {h' : AH} (C : Cx G hs p s m args meth c cX11_savedLength 2 RX11 (.code yX11_savedLength cX11_savedLength 2 (some .int) :: MW) (some .int) "savedLength")   {v0 : Nat} {v1 : Int32} {h : AH} {H : Heap} {locs : List Loc} {cells slots : Nat} {ls : Array Slot} (hR : Rp G h H) (hL : ∀ q ∈ locs, gB G ≤ q.base) (hl : zl ls 2 [(0, zr v0), (1, .int v1)]) (hp : p_X11_savedLength_0  v0 v1 h = some (r, h')) : W p l e (gR G hs 3 81) s m args below meth c H locs cells slots (MQ below (Qcc G (some (.int r)) h') args s (gC G - aZ hs) (gS - aU hs) (fun q => gB G ≤ q)) (F0 m 0 ls []) := by
  obtain ⟨hx, hb, hml, hown, hts, hT, hK, rs, hlk, hret, hnm⟩ := id C
  have hm : ∀ w ∈ MW, w.before args s = true := fun w hw => hts w (hT w hw)
  unfold p_X11_savedLength_0 at hp
  refine z_aload_n hx hb dX11_savedLength_0 rfl (zl_at hl 0 rfl) ?_
  refine lv_iload_n hx hb dX11_savedLength_1 rfl (zl_at hl 1 rfl) ?_
  obtain ⟨r1, h2, er1, hp⟩ := bR_i hp
  refine r_callS (n := 1) (As := [.int v1]) (rest := [zr v0]) C (c_X11_isText l G v1 h r1 h2 er1) hR hL mw_1148 mw_1149 mw_10 mw_1150 (by decide +kernel) (by decide) rfl (zl_size hl) rfl (by simp [zr_cat, in_cat]) dX11_savedLength_2 (st2 := [.int r1, zr v0]) rfl (fun H locs cells slots hR hL => ?_)
  refine lv_iconst (v := iI 1) hx hb dX11_savedLength_5 rfl ?_
  refine lv_iconst (v := iI 1) hx hb dX11_savedLength_6 rfl ?_
  obtain ⟨k3, hp⟩ := ck_i hp
  obtain ⟨r4, h5, er4, hp⟩ := bR_i hp
  refine r_callV (ci := 12) (r := (RX11, TX11, 32)) (n := 3) (As := [.int r1, .int (iI 1), .int (iI 1)]) (rest := []) C (c_X11_goes l G v0 r1 (iI 1) (iI 1) h2 r4 h5 er4) hR hL rfl k3 mw_1096 mw_1098 mp_19 mw_10 mw_1099 (by decide +kernel) (by decide) rfl (zl_size hl) rfl (by simp [zr_cat, in_cat]) dX11_savedLength_7 (st2 := [.int r4]) rfl (fun H locs cells slots hR hL => ?_)
  refine lv_if_eq (tgt := 22) hx hb dX11_savedLength_10 (by decide) (fun c6 => ?_) (fun c6 => ?_)
  · replace hp := ite_p hp c6
    refine lv_iconst (v := iI 0) hx hb dX11_savedLength_22 rfl ?_
    exact s_X11_savedLength_23 C  hR hL (zl_sub hl [] rfl) hp
  · replace hp := ite_n hp c6
    refine z_aload_n hx hb dX11_savedLength_13 rfl (zl_at hl 0 rfl) ?_
    obtain ⟨k7, hp⟩ := ck_i hp
    refine r_get (ci := 12) (C := RX11) (T := TX11) (N := 32) (v := zr (aR h5 v0 26)) hx hb hm ii_X11 hown hK hR rfl k7 26 (by decide) (hm _ mw_1008) (fun _ h9 => h9) rfl dX11_savedLength_14 ?_
    refine lv_iload_n hx hb dX11_savedLength_17 rfl (zl_at hl 1 rfl) ?_
    obtain ⟨k8, hp⟩ := ck_i hp
    refine r_iald hx hb hK hR k8.1 k8.2 dX11_savedLength_18 ?_
    refine lv_goto (tgt := 23) hx hb dX11_savedLength_19 (by decide) ?_
    exact s_X11_savedLength_23 C  hR hL (zl_sub hl [] rfl) hp
def p_X11_savedLength (v0 : Nat) (v1 : Int32) (h : AH) : Option (Int32 × AH) := ck (v0 ≠ 0) <| p_X11_savedLength_0 v0 v1 h
theorem c_X11_savedLength (l : Launch) (G : GG) (v0 : Nat) (v1 : Int32) (h : AH) (r : Int32) (h' : AH) (hp : p_X11_savedLength v0 v1 h = some (r, h')) : Ct l yX11_savedLength (.code yX11_savedLength cX11_savedLength 2 (some .int) :: MW) G 3 81 [.ref (v0 - 1), .int v1] h (some (.int r)) h' := by
  obtain ⟨hz0, hp⟩ := ck_i hp
  refine Ct.of (by decide +kernel) (Nat.le_of_ble_eq_true rfl) ?_
  intro p e s m args below meth c C hR ls hl
  have hl : zl ls 2 [(0, zr v0), (1, .int v1)] := ⟨by rw [zr_p hz0]; exact hl, by simp [zr_cat, in_cat]⟩
  exact s_X11_savedLength_0 C hR (fun _ hq => nomatch hq) hl hp
/-! CursorKeepModel.savedLetter(II)C -/
def p_X11_savedLetter_61  (s0 : Int32) (h : AH) : Option (Int32 × AH) :=
  ck (okC s0) <|
  some (s0, h)
set_option maxHeartbeats 4000000 in
set_option maxRecDepth 100000 in
theorem s_X11_savedLetter_61 {p : Program} {l : Launch} {e : Env} {s : State} {m : MethodId} {args : Array Value} {below : List Frame} {meth : Method} {c : Code} {G : GG} {hs : AH} {r : Int32} {h' : AH} (C : Cx G hs p s m args meth c cX11_savedLetter 4 RX11 (.code yX11_savedLetter cX11_savedLetter 4 (some .char) :: MW) (some .char) "savedLetter")   {s0 : Int32} {h : AH} {H : Heap} {locs : List Loc} {cells slots : Nat} {ls : Array Slot} (hR : Rp G h H) (hL : ∀ q ∈ locs, gB G ≤ q.base) (hl : zl ls 4 []) (hp : p_X11_savedLetter_61  s0 h = some (r, h')) : W p l e (gR G hs 3 81) s m args below meth c H locs cells slots (MQ below (Qcc G (some (.int r)) h') args s (gC G - aZ hs) (gS - aU hs) (fun q => gB G ≤ q)) (F0 m 61 ls [.int s0]) := by
  obtain ⟨hx, hb, hml, hown, hts, hT, hK, rs, hlk, hret, hnm⟩ := id C
  have hm : ∀ w ∈ MW, w.before args s = true := fun w hw => hts w (hT w hw)
  unfold p_X11_savedLetter_61 at hp
  obtain ⟨k1, hp⟩ := ck_i hp
  cases hp
  exact r_zret C hR hL (okC_n k1) dX11_savedLetter_61
def p_X11_savedLetter_36  (v0 : Nat) (v1 : Int32) (v2 : Int32) (s0 : Nat) (s1 : Int32) (h : AH) : Option (Int32 × AH) :=
  ck (aK h s0 = 13) <|
  bR (p_X11_goes s0 s1 (iI 1) (iI 1) h) fun r2 h3 =>
  if r2 = 0 then
    p_X11_savedLetter_61  (iI 0) h3
  else
    ck (aK h3 v0 = 13) <|
    ck (aK h3 (aR h3 v0 27) = 20 ∧ ix (((iI 150) * v1) + v2) (aN h3 (aR h3 v0 27))) <|
    p_X11_savedLetter_61  (nC (aI h3 (aR h3 v0 27) (((iI 150) * v1) + v2).toNatClampNeg)) h3
set_option maxHeartbeats 4000000 in
set_option maxRecDepth 100000 in
theorem s_X11_savedLetter_36 {p : Program} {l : Launch} {e : Env} {s : State} {m : MethodId} {args : Array Value} {below : List Frame} {meth : Method} {c : Code} {G : GG} {hs : AH} {r : Int32} {h' : AH} (C : Cx G hs p s m args meth c cX11_savedLetter 4 RX11 (.code yX11_savedLetter cX11_savedLetter 4 (some .char) :: MW) (some .char) "savedLetter")   {v0 : Nat} {v1 : Int32} {v2 : Int32} {s0 : Nat} {s1 : Int32} {h : AH} {H : Heap} {locs : List Loc} {cells slots : Nat} {ls : Array Slot} (hR : Rp G h H) (hL : ∀ q ∈ locs, gB G ≤ q.base) (hl : zl ls 4 [(0, zr v0), (1, .int v1), (2, .int v2)]) (hp : p_X11_savedLetter_36  v0 v1 v2 s0 s1 h = some (r, h')) : W p l e (gR G hs 3 81) s m args below meth c H locs cells slots (MQ below (Qcc G (some (.int r)) h') args s (gC G - aZ hs) (gS - aU hs) (fun q => gB G ≤ q)) (F0 m 36 ls [.int s1, zr s0]) := by
  obtain ⟨hx, hb, hml, hown, hts, hT, hK, rs, hlk, hret, hnm⟩ := id C
  have hm : ∀ w ∈ MW, w.before args s = true := fun w hw => hts w (hT w hw)
  unfold p_X11_savedLetter_36 at hp
  refine lv_iconst (v := iI 1) hx hb dX11_savedLetter_36 rfl ?_
  refine lv_iconst (v := iI 1) hx hb dX11_savedLetter_37 rfl ?_
  obtain ⟨k1, hp⟩ := ck_i hp
  obtain ⟨r2, h3, er2, hp⟩ := bR_i hp
  refine r_callV (ci := 12) (r := (RX11, TX11, 32)) (n := 3) (As := [.int s1, .int (iI 1), .int (iI 1)]) (rest := []) C (c_X11_goes l G s0 s1 (iI 1) (iI 1) h r2 h3 er2) hR hL rfl k1 mw_1096 mw_1098 mp_19 mw_10 mw_1099 (by decide +kernel) (by decide) rfl (zl_size hl) rfl (by simp [zr_cat, in_cat]) dX11_savedLetter_38 (st2 := [.int r2]) rfl (fun H locs cells slots hR hL => ?_)
  refine lv_if_eq (tgt := 60) hx hb dX11_savedLetter_41 (by decide) (fun c4 => ?_) (fun c4 => ?_)
  · replace hp := ite_p hp c4
    refine lv_iconst (v := iI 0) hx hb dX11_savedLetter_60 rfl ?_
    exact s_X11_savedLetter_61 C  hR hL (zl_sub hl [] rfl) hp
  · replace hp := ite_n hp c4
    refine z_aload_n hx hb dX11_savedLetter_44 rfl (zl_at hl 0 rfl) ?_
    obtain ⟨k5, hp⟩ := ck_i hp
    refine r_get (ci := 12) (C := RX11) (T := TX11) (N := 32) (v := zr (aR h3 v0 27)) hx hb hm ii_X11 hown hK hR rfl k5 27 (by decide) (hm _ mw_1009) (fun _ h9 => h9) rfl dX11_savedLetter_45 ?_
    refine lv_sipush (v := iI 150) hx hb dX11_savedLetter_48 (by decide +kernel) ?_
    refine lv_iload_n hx hb dX11_savedLetter_51 rfl (zl_at hl 1 rfl) ?_
    refine lv_imul hx hb dX11_savedLetter_52 ?_
    refine lv_iload_n hx hb dX11_savedLetter_53 rfl (zl_at hl 2 rfl) ?_
    refine lv_iadd hx hb dX11_savedLetter_54 ?_
    obtain ⟨k6, hp⟩ := ck_i hp
    refine r_iald hx hb hK hR k6.1 k6.2 dX11_savedLetter_55 ?_
    refine lv_i2c (v := nC (aI h3 (aR h3 v0 27) (((iI 150) * v1) + v2).toNatClampNeg)) hx hb dX11_savedLetter_56 rfl ?_
    refine lv_goto (tgt := 61) hx hb dX11_savedLetter_57 (by decide) ?_
    exact s_X11_savedLetter_61 C  hR hL (zl_sub hl [] rfl) hp
def p_X11_savedLetter_35  (v0 : Nat) (v1 : Int32) (v2 : Int32) (s0 : Nat) (h : AH) : Option (Int32 × AH) :=
  p_X11_savedLetter_36  v0 v1 v2 s0 (iI 0) h
set_option maxHeartbeats 4000000 in
set_option maxRecDepth 100000 in
theorem s_X11_savedLetter_35 {p : Program} {l : Launch} {e : Env} {s : State} {m : MethodId} {args : Array Value} {below : List Frame} {meth : Method} {c : Code} {G : GG} {hs : AH} {r : Int32} {h' : AH} (C : Cx G hs p s m args meth c cX11_savedLetter 4 RX11 (.code yX11_savedLetter cX11_savedLetter 4 (some .char) :: MW) (some .char) "savedLetter")   {v0 : Nat} {v1 : Int32} {v2 : Int32} {s0 : Nat} {h : AH} {H : Heap} {locs : List Loc} {cells slots : Nat} {ls : Array Slot} (hR : Rp G h H) (hL : ∀ q ∈ locs, gB G ≤ q.base) (hl : zl ls 4 [(0, zr v0), (1, .int v1), (2, .int v2)]) (hp : p_X11_savedLetter_35  v0 v1 v2 s0 h = some (r, h')) : W p l e (gR G hs 3 81) s m args below meth c H locs cells slots (MQ below (Qcc G (some (.int r)) h') args s (gC G - aZ hs) (gS - aU hs) (fun q => gB G ≤ q)) (F0 m 35 ls [zr s0]) := by
  obtain ⟨hx, hb, hml, hown, hts, hT, hK, rs, hlk, hret, hnm⟩ := id C
  have hm : ∀ w ∈ MW, w.before args s = true := fun w hw => hts w (hT w hw)
  unfold p_X11_savedLetter_35 at hp
  refine lv_iconst (v := iI 0) hx hb dX11_savedLetter_35 rfl ?_
  exact s_X11_savedLetter_36 C  hR hL (zl_sub hl [0, 1, 2] rfl) hp
def p_X11_savedLetter_24  (v0 : Nat) (v1 : Int32) (v2 : Int32) (s0 : Nat) (s1 : Int32) (s2 : Nat) (s3 : Int32) (h : AH) : Option (Int32 × AH) :=
  ck (aK h s2 = 20 ∧ ix s3 (aN h s2)) <|
  bR (p_X11_isBelow s1 (aI h s2 s3.toNatClampNeg) h) fun r3 h4 =>
  if r3 = 0 then
    p_X11_savedLetter_35  v0 v1 v2 s0 h4
  else
    p_X11_savedLetter_36  v0 v1 v2 s0 (iI 1) h4
set_option maxHeartbeats 4000000 in
set_option maxRecDepth 100000 in
theorem s_X11_savedLetter_24 {p : Program} {l : Launch} {e : Env} {s : State} {m : MethodId} {args : Array Value} {below : List Frame} {meth : Method} {c : Code} {G : GG} {hs : AH} {r : Int32} {h' : AH} (C : Cx G hs p s m args meth c cX11_savedLetter 4 RX11 (.code yX11_savedLetter cX11_savedLetter 4 (some .char) :: MW) (some .char) "savedLetter")   {v0 : Nat} {v1 : Int32} {v2 : Int32} {s0 : Nat} {s1 : Int32} {s2 : Nat} {s3 : Int32} {h : AH} {H : Heap} {locs : List Loc} {cells slots : Nat} {ls : Array Slot} (hR : Rp G h H) (hL : ∀ q ∈ locs, gB G ≤ q.base) (hl : zl ls 4 [(0, zr v0), (1, .int v1), (2, .int v2)]) (hp : p_X11_savedLetter_24  v0 v1 v2 s0 s1 s2 s3 h = some (r, h')) : W p l e (gR G hs 3 81) s m args below meth c H locs cells slots (MQ below (Qcc G (some (.int r)) h') args s (gC G - aZ hs) (gS - aU hs) (fun q => gB G ≤ q)) (F0 m 24 ls [.int s3, zr s2, .int s1, zr s0]) := by
  obtain ⟨hx, hb, hml, hown, hts, hT, hK, rs, hlk, hret, hnm⟩ := id C
  have hm : ∀ w ∈ MW, w.before args s = true := fun w hw => hts w (hT w hw)
  unfold p_X11_savedLetter_24 at hp
  obtain ⟨k1, hp⟩ := ck_i hp
  refine r_iald hx hb hK hR k1.1 k1.2 dX11_savedLetter_24 ?_
  obtain ⟨r3, h4, er3, hp⟩ := bR_i hp
  refine r_callS (n := 2) (As := [.int s1, .int (aI h s2 s3.toNatClampNeg)]) (rest := [zr s0]) C (c_X11_isBelow l G s1 (aI h s2 s3.toNatClampNeg) h r3 h4 er3) hR hL mw_1090 mw_1091 mw_10 mw_1092 (by decide +kernel) (by decide) rfl (zl_size hl) rfl (by simp [zr_cat, in_cat]) dX11_savedLetter_25 (st2 := [.int r3, zr s0]) rfl (fun H locs cells slots hR hL => ?_)
  refine lv_if_eq (tgt := 35) hx hb dX11_savedLetter_28 (by decide) (fun c5 => ?_) (fun c5 => ?_)
  · replace hp := ite_p hp c5
    exact s_X11_savedLetter_35 C  hR hL (zl_sub hl [0, 1, 2] rfl) hp
  · replace hp := ite_n hp c5
    refine lv_iconst (v := iI 1) hx hb dX11_savedLetter_31 rfl ?_
    refine lv_goto (tgt := 36) hx hb dX11_savedLetter_32 (by decide) ?_
    exact s_X11_savedLetter_36 C  hR hL (zl_sub hl [0, 1, 2] rfl) hp
def p_X11_savedLetter_0  (v0 : Nat) (v1 : Int32) (v2 : Int32) (h : AH) : Option (Int32 × AH) :=
  bR (p_X11_isText v1 h) fun r1 h2 =>
  if r1 = 0 then
    p_X11_savedLetter_35  v0 v1 v2 v0 h2
  else
    ck (aK h2 v0 = 13) <|
    if r1 = 0 then
      p_X11_savedLetter_24  v0 v1 v2 v0 v2 (aR h2 v0 26) (iI 0) h2
    else
      p_X11_savedLetter_24  v0 v1 v2 v0 v2 (aR h2 v0 26) v1 h2
set_option maxHeartbeats 4000000 in
set_option maxRecDepth 100000 in
theorem s_X11_savedLetter_0 {p : Program} {l : Launch} {e : Env} {s : State} {m : MethodId} {args : Array Value} {below : List Frame} {meth : Method} {c : Code} {G : GG} {hs : AH} {r : Int32} {h' : AH} (C : Cx G hs p s m args meth c cX11_savedLetter 4 RX11 (.code yX11_savedLetter cX11_savedLetter 4 (some .char) :: MW) (some .char) "savedLetter")   {v0 : Nat} {v1 : Int32} {v2 : Int32} {h : AH} {H : Heap} {locs : List Loc} {cells slots : Nat} {ls : Array Slot} (hR : Rp G h H) (hL : ∀ q ∈ locs, gB G ≤ q.base) (hl : zl ls 4 [(0, zr v0), (1, .int v1), (2, .int v2)]) (hp : p_X11_savedLetter_0  v0 v1 v2 h = some (r, h')) : W p l e (gR G hs 3 81) s m args below meth c H locs cells slots (MQ below (Qcc G (some (.int r)) h') args s (gC G - aZ hs) (gS - aU hs) (fun q => gB G ≤ q)) (F0 m 0 ls []) := by
  obtain ⟨hx, hb, hml, hown, hts, hT, hK, rs, hlk, hret, hnm⟩ := id C
  have hm : ∀ w ∈ MW, w.before args s = true := fun w hw => hts w (hT w hw)
  unfold p_X11_savedLetter_0 at hp
  refine lv_iload_n hx hb dX11_savedLetter_0 rfl (zl_at hl 1 rfl) ?_
  obtain ⟨r1, h2, er1, hp⟩ := bR_i hp
  refine r_callS (n := 1) (As := [.int v1]) (rest := []) C (c_X11_isText l G v1 h r1 h2 er1) hR hL mw_1148 mw_1149 mw_10 mw_1150 (by decide +kernel) (by decide) rfl (zl_size hl) rfl (by simp [zr_cat, in_cat]) dX11_savedLetter_1 (st2 := [.int r1]) rfl (fun H locs cells slots hR hL => ?_)
  refine z_istore_n (lv' := [(3, .int r1), (0, zr v0), (1, .int v1), (2, .int v2)]) hx hb dX11_savedLetter_4 rfl hl (by decide) rfl (fun ls hl => ?_)
  refine z_aload_n hx hb dX11_savedLetter_5 rfl (zl_at hl 1 rfl) ?_
  refine lv_iload_n hx hb dX11_savedLetter_6 rfl (zl_at hl 0 rfl) ?_
  refine lv_if_eq (tgt := 35) hx hb dX11_savedLetter_7 (by decide) (fun c3 => ?_) (fun c3 => ?_)
  · replace hp := ite_p hp c3
    exact s_X11_savedLetter_35 C  hR hL (zl_sub hl [1, 2, 3] rfl) hp
  · replace hp := ite_n hp c3
    refine lv_iload_n hx hb dX11_savedLetter_10 rfl (zl_at hl 3 rfl) ?_
    refine z_aload_n hx hb dX11_savedLetter_11 rfl (zl_at hl 1 rfl) ?_
    obtain ⟨k4, hp⟩ := ck_i hp
    refine r_get (ci := 12) (C := RX11) (T := TX11) (N := 32) (v := zr (aR h2 v0 26)) hx hb hm ii_X11 hown hK hR rfl k4 26 (by decide) (hm _ mw_1008) (fun _ h9 => h9) rfl dX11_savedLetter_12 ?_
    refine lv_iload_n hx hb dX11_savedLetter_15 rfl (zl_at hl 0 rfl) ?_
    refine lv_if_eq (tgt := 23) hx hb dX11_savedLetter_16 (by decide) (fun c5 => ?_) (fun c5 => ?_)
    · replace hp := ite_p hp c5
      refine lv_iconst (v := iI 0) hx hb dX11_savedLetter_23 rfl ?_
      exact s_X11_savedLetter_24 C  hR hL (zl_sub hl [1, 2, 3] rfl) hp
    · replace hp := ite_n hp c5
      refine lv_iload_n hx hb dX11_savedLetter_19 rfl (zl_at hl 2 rfl) ?_
      refine lv_goto (tgt := 24) hx hb dX11_savedLetter_20 (by decide) ?_
      exact s_X11_savedLetter_24 C  hR hL (zl_sub hl [1, 2, 3] rfl) hp
def p_X11_savedLetter (v0 : Nat) (v1 : Int32) (v2 : Int32) (h : AH) : Option (Int32 × AH) := ck (v0 ≠ 0) <| p_X11_savedLetter_0 v0 v1 v2 h
theorem c_X11_savedLetter (l : Launch) (G : GG) (v0 : Nat) (v1 : Int32) (v2 : Int32) (h : AH) (r : Int32) (h' : AH) (hp : p_X11_savedLetter v0 v1 v2 h = some (r, h')) : Ct l yX11_savedLetter (.code yX11_savedLetter cX11_savedLetter 4 (some .char) :: MW) G 3 81 [.ref (v0 - 1), .int v1, .int v2] h (some (.int r)) h' := by
  obtain ⟨hz0, hp⟩ := ck_i hp
  refine Ct.of (by decide +kernel) (Nat.le_of_ble_eq_true rfl) ?_
  intro p e s m args below meth c C hR ls hl
  have hl : zl ls 4 [(0, zr v0), (1, .int v1), (2, .int v2)] := ⟨by rw [zr_p hz0]; exact hl, by simp [zr_cat, in_cat]⟩
  exact s_X11_savedLetter_0 C hR (fun _ hq => nomatch hq) hl hp
