/-! CursorKeepLaw.law([I)Z -/
def p_L_law_1715 (xs : Nat → Int32) (L : Nat) (k54 : Nat → Nat → Nat → Nat → Nat → Int32 → Int32 → Int32 → Int32 → Int32 → AH → Option (Int32 × AH)) (k1643 : Nat → Nat → Nat → Nat → Nat → Int32 → Int32 → Int32 → Int32 → Int32 → Int32 → AH → Option (Int32 × AH)) (v1 : Nat) (v2 : Nat) (v3 : Nat) (v4 : Nat) (v5 : Nat) (v6 : Int32) (v7 : Int32) (v8 : Int32) (v10 : Int32) (v21 : Int32) (s0 : Int32) (h : AH) : Option (Int32 × AH) :=
  bR (p_L_version v1 v21 h) fun r1 h2 =>
  ck (aK h2 v2 = 20 ∧ ix v21 (aN h2 v2)) <|
  nm (uI h2 v2 v21.toNatClampNeg r1) fun h5 =>
  nm (v21 + iI 1) fun (x6 : Int32) =>
  k1643 v1 v2 v3 v4 v5 v6 v7 v8 s0 v10 x6 h5
set_option maxHeartbeats 4000000 in
set_option maxRecDepth 100000 in
theorem s_L_law_1715 {p : Program} {l : Launch} {e : Env} {s : State} {m : MethodId} {b L : Nat} {xs : Nat → Int32} {nm : String} {below : List Frame} {meth : Method} {c : Code} {G : GG} {hs : AH}  {h' : AH} (hfl : l.stackTraces = false) (eX : gX G = (b, L, xs)) (hz0 : s.heap.size = gB G) (hz1 : gC G - aZ hs = 600130) (hz2 : aU hs = 0) (C : Cx G hs p s m #[Value.ref b] meth c cL_law 28 RL lw_tbl (some .boolean) nm) {k54 : Nat → Nat → Nat → Nat → Nat → Int32 → Int32 → Int32 → Int32 → Int32 → AH → Option (Int32 × AH)} {k1643 : Nat → Nat → Nat → Nat → Nat → Int32 → Int32 → Int32 → Int32 → Int32 → Int32 → AH → Option (Int32 × AH)} (hk54 : ∀ {v1 : Nat} {v2 : Nat} {v3 : Nat} {v4 : Nat} {v5 : Nat} {v6 : Int32} {v7 : Int32} {v8 : Int32} {v9 : Int32} {v10 : Int32} {h : AH} {H : Heap} {locs : List Loc} {cells slots : Nat} {ls : Array Slot}, Rp G h H → (∀ q ∈ locs, gB G ≤ q.base) → zm ls 28 [(1, zr v1), (2, zr v2), (3, zr v3), (4, zr v4), (5, zr v5), (6, .int v6), (7, .int v7), (8, .int v8), (9, .int v9), (10, .int v10), (0, .ref b)] → k54 v1 v2 v3 v4 v5 v6 v7 v8 v9 v10 h = some (iI 1, h') → W p l e (gR G hs 16 610) s m #[Value.ref b] below meth c H locs cells slots (lw_Z below #[Value.ref b] s) (F0 m 54 ls [])) (hk1643 : ∀ {v1 : Nat} {v2 : Nat} {v3 : Nat} {v4 : Nat} {v5 : Nat} {v6 : Int32} {v7 : Int32} {v8 : Int32} {v9 : Int32} {v10 : Int32} {v21 : Int32} {h : AH} {H : Heap} {locs : List Loc} {cells slots : Nat} {ls : Array Slot}, Rp G h H → (∀ q ∈ locs, gB G ≤ q.base) → zm ls 28 [(1, zr v1), (2, zr v2), (3, zr v3), (4, zr v4), (5, zr v5), (6, .int v6), (7, .int v7), (8, .int v8), (9, .int v9), (10, .int v10), (21, .int v21), (0, .ref b)] → k1643 v1 v2 v3 v4 v5 v6 v7 v8 v9 v10 v21 h = some (iI 1, h') → W p l e (gR G hs 16 610) s m #[Value.ref b] below meth c H locs cells slots (lw_Z below #[Value.ref b] s) (F0 m 1643 ls [])) {v1 : Nat} {v2 : Nat} {v3 : Nat} {v4 : Nat} {v5 : Nat} {v6 : Int32} {v7 : Int32} {v8 : Int32} {v10 : Int32} {v21 : Int32} {s0 : Int32} {h : AH} {H : Heap} {locs : List Loc} {cells slots : Nat} {ls : Array Slot} (hR : Rp G h H) (hL : ∀ q ∈ locs, gB G ≤ q.base) (hl : zm ls 28 [(1, zr v1), (2, zr v2), (3, zr v3), (4, zr v4), (5, zr v5), (6, .int v6), (7, .int v7), (8, .int v8), (10, .int v10), (21, .int v21), (0, .ref b)]) (hp : p_L_law_1715 xs L k54 k1643 v1 v2 v3 v4 v5 v6 v7 v8 v10 v21 s0 h = some (iI 1, h')) : W p l e (gR G hs 16 610) s m #[Value.ref b] below meth c H locs cells slots (lw_Z below #[Value.ref b] s) (F0 m 1715 ls [.int s0]) := by
  obtain ⟨hx, hb, hml, hown, hts, hT, hK, rs, hlk, hret, hnm⟩ := id C
  have hm : ∀ w ∈ MW, w.before #[Value.ref b] s = true := fun w hw => hts w (hT w hw)
  obtain ⟨hX, hbB⟩ := hK.scr eX
  unfold p_L_law_1715 at hp
  refine zm_istore (lv' := [(9, .int s0), (1, zr v1), (2, zr v2), (3, zr v3), (4, zr v4), (5, zr v5), (6, .int v6), (7, .int v7), (8, .int v8), (10, .int v10), (21, .int v21), (0, .ref b)]) hx hb dL_law_1715 hl (by decide) (by repeat (first | exact noL_nil _ | refine noL_i ?_ | refine noL_z ?_ | refine noL_r ?_ | refine noL_c (by decide) ?_)) rfl (fun ls hl => ?_)
  refine z_aload_n hx hb dL_law_1717 rfl (zm_at hl 2 rfl) ?_
  refine lv_iload hx hb dL_law_1718 (zm_at hl 10 rfl) ?_
  refine z_aload_n hx hb dL_law_1720 rfl (zm_at hl 1 rfl) ?_
  refine lv_iload hx hb dL_law_1721 (zm_at hl 10 rfl) ?_
  obtain ⟨r1, h2, er1, hp⟩ := bR_i hp
  refine r_callSH (n := 2) (As := [zr v1, .int v21]) (rest := [.int v21, zr v2]) C (c_L_version l hfl G v1 v21 h r1 h2 er1) hR hL mw_683 mw_684 mw_0 mw_685 (by decide +kernel) (by decide) rfl (zm_size hl) rfl (by simp [zr_cat, in_cat, lo_cat, re_cat]) dL_law_1723 (st2 := [.int r1, .int v21, zr v2]) rfl (fun H locs cells slots hR hL => ?_)
  obtain ⟨k3, hp⟩ := ck_i hp
  refine r_iast hx hb hK hR hL k3.1 k3.2 dL_law_1726 (fun H locs hR hL => ?_)
  obtain ⟨h5, hp, hR⟩ := nm_h hp hR
  obtain ⟨x6, ex6⟩ : ∃ y : Int32, y = v21 + iI 1 := ⟨_, rfl⟩
  replace hp := nm_i hp ex6
  refine zm_iinc (v := x6) (lv' := [(21, .int x6), (9, .int s0), (1, zr v1), (2, zr v2), (3, zr v3), (4, zr v4), (5, zr v5), (6, .int v6), (7, .int v7), (8, .int v8), (10, .int v10), (0, .ref b)]) hx hb dL_law_1727 hl (k := 10) rfl ex6 (by decide) (by repeat (first | exact noL_nil _ | refine noL_i ?_ | refine noL_z ?_ | refine noL_r ?_ | refine noL_c (by decide) ?_)) rfl (fun ls hl => ?_)
  refine lv_goto (tgt := 1643) hx hb dL_law_1730 (by decide) ?_
  exact hk1643 hR hL (zm_sub hl [2, 3, 4, 5, 6, 7, 8, 9, 1, 10, 0, 11] rfl) hp
def p_L_law_1714 (xs : Nat → Int32) (L : Nat) (k54 : Nat → Nat → Nat → Nat → Nat → Int32 → Int32 → Int32 → Int32 → Int32 → AH → Option (Int32 × AH)) (k1643 : Nat → Nat → Nat → Nat → Nat → Int32 → Int32 → Int32 → Int32 → Int32 → Int32 → AH → Option (Int32 × AH)) (v1 : Nat) (v2 : Nat) (v3 : Nat) (v4 : Nat) (v5 : Nat) (v6 : Int32) (v7 : Int32) (v8 : Int32) (v10 : Int32) (v21 : Int32) (h : AH) : Option (Int32 × AH) :=
  p_L_law_1715 xs L k54 k1643 v1 v2 v3 v4 v5 v6 v7 v8 v10 v21 (iI 0) h
set_option maxHeartbeats 4000000 in
set_option maxRecDepth 100000 in
theorem s_L_law_1714 {p : Program} {l : Launch} {e : Env} {s : State} {m : MethodId} {b L : Nat} {xs : Nat → Int32} {nm : String} {below : List Frame} {meth : Method} {c : Code} {G : GG} {hs : AH}  {h' : AH} (hfl : l.stackTraces = false) (eX : gX G = (b, L, xs)) (hz0 : s.heap.size = gB G) (hz1 : gC G - aZ hs = 600130) (hz2 : aU hs = 0) (C : Cx G hs p s m #[Value.ref b] meth c cL_law 28 RL lw_tbl (some .boolean) nm) {k54 : Nat → Nat → Nat → Nat → Nat → Int32 → Int32 → Int32 → Int32 → Int32 → AH → Option (Int32 × AH)} {k1643 : Nat → Nat → Nat → Nat → Nat → Int32 → Int32 → Int32 → Int32 → Int32 → Int32 → AH → Option (Int32 × AH)} (hk54 : ∀ {v1 : Nat} {v2 : Nat} {v3 : Nat} {v4 : Nat} {v5 : Nat} {v6 : Int32} {v7 : Int32} {v8 : Int32} {v9 : Int32} {v10 : Int32} {h : AH} {H : Heap} {locs : List Loc} {cells slots : Nat} {ls : Array Slot}, Rp G h H → (∀ q ∈ locs, gB G ≤ q.base) → zm ls 28 [(1, zr v1), (2, zr v2), (3, zr v3), (4, zr v4), (5, zr v5), (6, .int v6), (7, .int v7), (8, .int v8), (9, .int v9), (10, .int v10), (0, .ref b)] → k54 v1 v2 v3 v4 v5 v6 v7 v8 v9 v10 h = some (iI 1, h') → W p l e (gR G hs 16 610) s m #[Value.ref b] below meth c H locs cells slots (lw_Z below #[Value.ref b] s) (F0 m 54 ls [])) (hk1643 : ∀ {v1 : Nat} {v2 : Nat} {v3 : Nat} {v4 : Nat} {v5 : Nat} {v6 : Int32} {v7 : Int32} {v8 : Int32} {v9 : Int32} {v10 : Int32} {v21 : Int32} {h : AH} {H : Heap} {locs : List Loc} {cells slots : Nat} {ls : Array Slot}, Rp G h H → (∀ q ∈ locs, gB G ≤ q.base) → zm ls 28 [(1, zr v1), (2, zr v2), (3, zr v3), (4, zr v4), (5, zr v5), (6, .int v6), (7, .int v7), (8, .int v8), (9, .int v9), (10, .int v10), (21, .int v21), (0, .ref b)] → k1643 v1 v2 v3 v4 v5 v6 v7 v8 v9 v10 v21 h = some (iI 1, h') → W p l e (gR G hs 16 610) s m #[Value.ref b] below meth c H locs cells slots (lw_Z below #[Value.ref b] s) (F0 m 1643 ls [])) {v1 : Nat} {v2 : Nat} {v3 : Nat} {v4 : Nat} {v5 : Nat} {v6 : Int32} {v7 : Int32} {v8 : Int32} {v10 : Int32} {v21 : Int32} {h : AH} {H : Heap} {locs : List Loc} {cells slots : Nat} {ls : Array Slot} (hR : Rp G h H) (hL : ∀ q ∈ locs, gB G ≤ q.base) (hl : zm ls 28 [(1, zr v1), (2, zr v2), (3, zr v3), (4, zr v4), (5, zr v5), (6, .int v6), (7, .int v7), (8, .int v8), (10, .int v10), (21, .int v21), (0, .ref b)]) (hp : p_L_law_1714 xs L k54 k1643 v1 v2 v3 v4 v5 v6 v7 v8 v10 v21 h = some (iI 1, h')) : W p l e (gR G hs 16 610) s m #[Value.ref b] below meth c H locs cells slots (lw_Z below #[Value.ref b] s) (F0 m 1714 ls []) := by
  obtain ⟨hx, hb, hml, hown, hts, hT, hK, rs, hlk, hret, hnm⟩ := id C
  have hm : ∀ w ∈ MW, w.before #[Value.ref b] s = true := fun w hw => hts w (hT w hw)
  obtain ⟨hX, hbB⟩ := hK.scr eX
  unfold p_L_law_1714 at hp
  refine lv_iconst (v := iI 0) hx hb dL_law_1714 rfl ?_
  exact s_L_law_1715 hfl eX hz0 hz1 hz2 C hk54 hk1643 hR hL (zm_sub hl [0, 1, 2, 3, 4, 5, 6, 7, 8, 9, 10] rfl) hp
def p_L_law_1776 (xs : Nat → Int32) (L : Nat) (k54 : Nat → Nat → Nat → Nat → Nat → Int32 → Int32 → Int32 → Int32 → Int32 → AH → Option (Int32 × AH)) (k1736 : Nat → Nat → Nat → Nat → Nat → Int32 → Int32 → Int32 → Int32 → Int32 → Int32 → AH → Option (Int32 × AH)) (v1 : Nat) (v2 : Nat) (v3 : Nat) (v4 : Nat) (v5 : Nat) (v6 : Int32) (v7 : Int32) (v8 : Int32) (v10 : Int32) (v21 : Int32) (s0 : Int32) (h : AH) : Option (Int32 × AH) :=
  nm (v21 + iI 1) fun (x1 : Int32) =>
  k1736 v1 v2 v3 v4 v5 v6 v7 v8 s0 v10 x1 h
set_option maxHeartbeats 4000000 in
set_option maxRecDepth 100000 in
theorem s_L_law_1776 {p : Program} {l : Launch} {e : Env} {s : State} {m : MethodId} {b L : Nat} {xs : Nat → Int32} {nm : String} {below : List Frame} {meth : Method} {c : Code} {G : GG} {hs : AH}  {h' : AH} (hfl : l.stackTraces = false) (eX : gX G = (b, L, xs)) (hz0 : s.heap.size = gB G) (hz1 : gC G - aZ hs = 600130) (hz2 : aU hs = 0) (C : Cx G hs p s m #[Value.ref b] meth c cL_law 28 RL lw_tbl (some .boolean) nm) {k54 : Nat → Nat → Nat → Nat → Nat → Int32 → Int32 → Int32 → Int32 → Int32 → AH → Option (Int32 × AH)} {k1736 : Nat → Nat → Nat → Nat → Nat → Int32 → Int32 → Int32 → Int32 → Int32 → Int32 → AH → Option (Int32 × AH)} (hk54 : ∀ {v1 : Nat} {v2 : Nat} {v3 : Nat} {v4 : Nat} {v5 : Nat} {v6 : Int32} {v7 : Int32} {v8 : Int32} {v9 : Int32} {v10 : Int32} {h : AH} {H : Heap} {locs : List Loc} {cells slots : Nat} {ls : Array Slot}, Rp G h H → (∀ q ∈ locs, gB G ≤ q.base) → zm ls 28 [(1, zr v1), (2, zr v2), (3, zr v3), (4, zr v4), (5, zr v5), (6, .int v6), (7, .int v7), (8, .int v8), (9, .int v9), (10, .int v10), (0, .ref b)] → k54 v1 v2 v3 v4 v5 v6 v7 v8 v9 v10 h = some (iI 1, h') → W p l e (gR G hs 16 610) s m #[Value.ref b] below meth c H locs cells slots (lw_Z below #[Value.ref b] s) (F0 m 54 ls [])) (hk1736 : ∀ {v1 : Nat} {v2 : Nat} {v3 : Nat} {v4 : Nat} {v5 : Nat} {v6 : Int32} {v7 : Int32} {v8 : Int32} {v9 : Int32} {v10 : Int32} {v21 : Int32} {h : AH} {H : Heap} {locs : List Loc} {cells slots : Nat} {ls : Array Slot}, Rp G h H → (∀ q ∈ locs, gB G ≤ q.base) → zm ls 28 [(1, zr v1), (2, zr v2), (3, zr v3), (4, zr v4), (5, zr v5), (6, .int v6), (7, .int v7), (8, .int v8), (9, .int v9), (10, .int v10), (21, .int v21), (0, .ref b)] → k1736 v1 v2 v3 v4 v5 v6 v7 v8 v9 v10 v21 h = some (iI 1, h') → W p l e (gR G hs 16 610) s m #[Value.ref b] below meth c H locs cells slots (lw_Z below #[Value.ref b] s) (F0 m 1736 ls [])) {v1 : Nat} {v2 : Nat} {v3 : Nat} {v4 : Nat} {v5 : Nat} {v6 : Int32} {v7 : Int32} {v8 : Int32} {v10 : Int32} {v21 : Int32} {s0 : Int32} {h : AH} {H : Heap} {locs : List Loc} {cells slots : Nat} {ls : Array Slot} (hR : Rp G h H) (hL : ∀ q ∈ locs, gB G ≤ q.base) (hl : zm ls 28 [(1, zr v1), (2, zr v2), (3, zr v3), (4, zr v4), (5, zr v5), (6, .int v6), (7, .int v7), (8, .int v8), (10, .int v10), (21, .int v21), (0, .ref b)]) (hp : p_L_law_1776 xs L k54 k1736 v1 v2 v3 v4 v5 v6 v7 v8 v10 v21 s0 h = some (iI 1, h')) : W p l e (gR G hs 16 610) s m #[Value.ref b] below meth c H locs cells slots (lw_Z below #[Value.ref b] s) (F0 m 1776 ls [.int s0]) := by
  obtain ⟨hx, hb, hml, hown, hts, hT, hK, rs, hlk, hret, hnm⟩ := id C
  have hm : ∀ w ∈ MW, w.before #[Value.ref b] s = true := fun w hw => hts w (hT w hw)
  obtain ⟨hX, hbB⟩ := hK.scr eX
  unfold p_L_law_1776 at hp
  refine zm_istore (lv' := [(9, .int s0), (1, zr v1), (2, zr v2), (3, zr v3), (4, zr v4), (5, zr v5), (6, .int v6), (7, .int v7), (8, .int v8), (10, .int v10), (21, .int v21), (0, .ref b)]) hx hb dL_law_1776 hl (by decide) (by repeat (first | exact noL_nil _ | refine noL_i ?_ | refine noL_z ?_ | refine noL_r ?_ | refine noL_c (by decide) ?_)) rfl (fun ls hl => ?_)
  obtain ⟨x1, ex1⟩ : ∃ y : Int32, y = v21 + iI 1 := ⟨_, rfl⟩
  replace hp := nm_i hp ex1
  refine zm_iinc (v := x1) (lv' := [(21, .int x1), (9, .int s0), (1, zr v1), (2, zr v2), (3, zr v3), (4, zr v4), (5, zr v5), (6, .int v6), (7, .int v7), (8, .int v8), (10, .int v10), (0, .ref b)]) hx hb dL_law_1778 hl (k := 10) rfl ex1 (by decide) (by repeat (first | exact noL_nil _ | refine noL_i ?_ | refine noL_z ?_ | refine noL_r ?_ | refine noL_c (by decide) ?_)) rfl (fun ls hl => ?_)
  refine lv_goto (tgt := 1736) hx hb dL_law_1781 (by decide) ?_
  exact hk1736 hR hL (zm_sub hl [2, 3, 4, 5, 6, 7, 8, 9, 1, 10, 0, 11] rfl) hp
def p_L_law_1775 (xs : Nat → Int32) (L : Nat) (k54 : Nat → Nat → Nat → Nat → Nat → Int32 → Int32 → Int32 → Int32 → Int32 → AH → Option (Int32 × AH)) (k1736 : Nat → Nat → Nat → Nat → Nat → Int32 → Int32 → Int32 → Int32 → Int32 → Int32 → AH → Option (Int32 × AH)) (v1 : Nat) (v2 : Nat) (v3 : Nat) (v4 : Nat) (v5 : Nat) (v6 : Int32) (v7 : Int32) (v8 : Int32) (v10 : Int32) (v21 : Int32) (h : AH) : Option (Int32 × AH) :=
  p_L_law_1776 xs L k54 k1736 v1 v2 v3 v4 v5 v6 v7 v8 v10 v21 (iI 0) h
set_option maxHeartbeats 4000000 in
set_option maxRecDepth 100000 in
theorem s_L_law_1775 {p : Program} {l : Launch} {e : Env} {s : State} {m : MethodId} {b L : Nat} {xs : Nat → Int32} {nm : String} {below : List Frame} {meth : Method} {c : Code} {G : GG} {hs : AH}  {h' : AH} (hfl : l.stackTraces = false) (eX : gX G = (b, L, xs)) (hz0 : s.heap.size = gB G) (hz1 : gC G - aZ hs = 600130) (hz2 : aU hs = 0) (C : Cx G hs p s m #[Value.ref b] meth c cL_law 28 RL lw_tbl (some .boolean) nm) {k54 : Nat → Nat → Nat → Nat → Nat → Int32 → Int32 → Int32 → Int32 → Int32 → AH → Option (Int32 × AH)} {k1736 : Nat → Nat → Nat → Nat → Nat → Int32 → Int32 → Int32 → Int32 → Int32 → Int32 → AH → Option (Int32 × AH)} (hk54 : ∀ {v1 : Nat} {v2 : Nat} {v3 : Nat} {v4 : Nat} {v5 : Nat} {v6 : Int32} {v7 : Int32} {v8 : Int32} {v9 : Int32} {v10 : Int32} {h : AH} {H : Heap} {locs : List Loc} {cells slots : Nat} {ls : Array Slot}, Rp G h H → (∀ q ∈ locs, gB G ≤ q.base) → zm ls 28 [(1, zr v1), (2, zr v2), (3, zr v3), (4, zr v4), (5, zr v5), (6, .int v6), (7, .int v7), (8, .int v8), (9, .int v9), (10, .int v10), (0, .ref b)] → k54 v1 v2 v3 v4 v5 v6 v7 v8 v9 v10 h = some (iI 1, h') → W p l e (gR G hs 16 610) s m #[Value.ref b] below meth c H locs cells slots (lw_Z below #[Value.ref b] s) (F0 m 54 ls [])) (hk1736 : ∀ {v1 : Nat} {v2 : Nat} {v3 : Nat} {v4 : Nat} {v5 : Nat} {v6 : Int32} {v7 : Int32} {v8 : Int32} {v9 : Int32} {v10 : Int32} {v21 : Int32} {h : AH} {H : Heap} {locs : List Loc} {cells slots : Nat} {ls : Array Slot}, Rp G h H → (∀ q ∈ locs, gB G ≤ q.base) → zm ls 28 [(1, zr v1), (2, zr v2), (3, zr v3), (4, zr v4), (5, zr v5), (6, .int v6), (7, .int v7), (8, .int v8), (9, .int v9), (10, .int v10), (21, .int v21), (0, .ref b)] → k1736 v1 v2 v3 v4 v5 v6 v7 v8 v9 v10 v21 h = some (iI 1, h') → W p l e (gR G hs 16 610) s m #[Value.ref b] below meth c H locs cells slots (lw_Z below #[Value.ref b] s) (F0 m 1736 ls [])) {v1 : Nat} {v2 : Nat} {v3 : Nat} {v4 : Nat} {v5 : Nat} {v6 : Int32} {v7 : Int32} {v8 : Int32} {v10 : Int32} {v21 : Int32} {h : AH} {H : Heap} {locs : List Loc} {cells slots : Nat} {ls : Array Slot} (hR : Rp G h H) (hL : ∀ q ∈ locs, gB G ≤ q.base) (hl : zm ls 28 [(1, zr v1), (2, zr v2), (3, zr v3), (4, zr v4), (5, zr v5), (6, .int v6), (7, .int v7), (8, .int v8), (10, .int v10), (21, .int v21), (0, .ref b)]) (hp : p_L_law_1775 xs L k54 k1736 v1 v2 v3 v4 v5 v6 v7 v8 v10 v21 h = some (iI 1, h')) : W p l e (gR G hs 16 610) s m #[Value.ref b] below meth c H locs cells slots (lw_Z below #[Value.ref b] s) (F0 m 1775 ls []) := by
  obtain ⟨hx, hb, hml, hown, hts, hT, hK, rs, hlk, hret, hnm⟩ := id C
  have hm : ∀ w ∈ MW, w.before #[Value.ref b] s = true := fun w hw => hts w (hT w hw)
  obtain ⟨hX, hbB⟩ := hK.scr eX
  unfold p_L_law_1775 at hp
  refine lv_iconst (v := iI 0) hx hb dL_law_1775 rfl ?_
  exact s_L_law_1776 hfl eX hz0 hz1 hz2 C hk54 hk1736 hR hL (zm_sub hl [0, 1, 2, 3, 4, 5, 6, 7, 8, 9, 10] rfl) hp
def p_L_law_1806 (xs : Nat → Int32) (L : Nat) (k54 : Nat → Nat → Nat → Nat → Nat → Int32 → Int32 → Int32 → Int32 → Int32 → AH → Option (Int32 × AH)) (v1 : Nat) (v2 : Nat) (v3 : Nat) (v4 : Nat) (v5 : Nat) (v6 : Int32) (v7 : Int32) (v8 : Int32) (v10 : Int32) (s0 : Int32) (h : AH) : Option (Int32 × AH) :=
  nm (v10 + iI 1) fun (x1 : Int32) =>
  k54 v1 v2 v3 v4 v5 v6 v7 v8 s0 x1 h
set_option maxHeartbeats 4000000 in
set_option maxRecDepth 100000 in
theorem s_L_law_1806 {p : Program} {l : Launch} {e : Env} {s : State} {m : MethodId} {b L : Nat} {xs : Nat → Int32} {nm : String} {below : List Frame} {meth : Method} {c : Code} {G : GG} {hs : AH}  {h' : AH} (hfl : l.stackTraces = false) (eX : gX G = (b, L, xs)) (hz0 : s.heap.size = gB G) (hz1 : gC G - aZ hs = 600130) (hz2 : aU hs = 0) (C : Cx G hs p s m #[Value.ref b] meth c cL_law 28 RL lw_tbl (some .boolean) nm) {k54 : Nat → Nat → Nat → Nat → Nat → Int32 → Int32 → Int32 → Int32 → Int32 → AH → Option (Int32 × AH)} (hk54 : ∀ {v1 : Nat} {v2 : Nat} {v3 : Nat} {v4 : Nat} {v5 : Nat} {v6 : Int32} {v7 : Int32} {v8 : Int32} {v9 : Int32} {v10 : Int32} {h : AH} {H : Heap} {locs : List Loc} {cells slots : Nat} {ls : Array Slot}, Rp G h H → (∀ q ∈ locs, gB G ≤ q.base) → zm ls 28 [(1, zr v1), (2, zr v2), (3, zr v3), (4, zr v4), (5, zr v5), (6, .int v6), (7, .int v7), (8, .int v8), (9, .int v9), (10, .int v10), (0, .ref b)] → k54 v1 v2 v3 v4 v5 v6 v7 v8 v9 v10 h = some (iI 1, h') → W p l e (gR G hs 16 610) s m #[Value.ref b] below meth c H locs cells slots (lw_Z below #[Value.ref b] s) (F0 m 54 ls [])) {v1 : Nat} {v2 : Nat} {v3 : Nat} {v4 : Nat} {v5 : Nat} {v6 : Int32} {v7 : Int32} {v8 : Int32} {v10 : Int32} {s0 : Int32} {h : AH} {H : Heap} {locs : List Loc} {cells slots : Nat} {ls : Array Slot} (hR : Rp G h H) (hL : ∀ q ∈ locs, gB G ≤ q.base) (hl : zm ls 28 [(1, zr v1), (2, zr v2), (3, zr v3), (4, zr v4), (5, zr v5), (6, .int v6), (7, .int v7), (8, .int v8), (10, .int v10), (0, .ref b)]) (hp : p_L_law_1806 xs L k54 v1 v2 v3 v4 v5 v6 v7 v8 v10 s0 h = some (iI 1, h')) : W p l e (gR G hs 16 610) s m #[Value.ref b] below meth c H locs cells slots (lw_Z below #[Value.ref b] s) (F0 m 1806 ls [.int s0]) := by
  obtain ⟨hx, hb, hml, hown, hts, hT, hK, rs, hlk, hret, hnm⟩ := id C
  have hm : ∀ w ∈ MW, w.before #[Value.ref b] s = true := fun w hw => hts w (hT w hw)
  obtain ⟨hX, hbB⟩ := hK.scr eX
  unfold p_L_law_1806 at hp
  refine zm_istore (lv' := [(9, .int s0), (1, zr v1), (2, zr v2), (3, zr v3), (4, zr v4), (5, zr v5), (6, .int v6), (7, .int v7), (8, .int v8), (10, .int v10), (0, .ref b)]) hx hb dL_law_1806 hl (by decide) (by repeat (first | exact noL_nil _ | refine noL_i ?_ | refine noL_z ?_ | refine noL_r ?_ | refine noL_c (by decide) ?_)) rfl (fun ls hl => ?_)
  obtain ⟨x1, ex1⟩ : ∃ y : Int32, y = v10 + iI 1 := ⟨_, rfl⟩
  replace hp := nm_i hp ex1
  refine zm_iinc (v := x1) (lv' := [(10, .int x1), (9, .int s0), (1, zr v1), (2, zr v2), (3, zr v3), (4, zr v4), (5, zr v5), (6, .int v6), (7, .int v7), (8, .int v8), (0, .ref b)]) hx hb dL_law_1808 hl (k := 9) rfl ex1 (by decide) (by repeat (first | exact noL_nil _ | refine noL_i ?_ | refine noL_z ?_ | refine noL_r ?_ | refine noL_c (by decide) ?_)) rfl (fun ls hl => ?_)
  refine lv_goto (tgt := 54) hx hb dL_law_1811 (by decide) ?_
  exact hk54 hR hL (zm_sub hl [2, 3, 4, 5, 6, 7, 8, 9, 1, 0, 10] rfl) hp
def p_L_law_1805 (xs : Nat → Int32) (L : Nat) (k54 : Nat → Nat → Nat → Nat → Nat → Int32 → Int32 → Int32 → Int32 → Int32 → AH → Option (Int32 × AH)) (v1 : Nat) (v2 : Nat) (v3 : Nat) (v4 : Nat) (v5 : Nat) (v6 : Int32) (v7 : Int32) (v8 : Int32) (v10 : Int32) (h : AH) : Option (Int32 × AH) :=
  p_L_law_1806 xs L k54 v1 v2 v3 v4 v5 v6 v7 v8 v10 (iI 0) h
set_option maxHeartbeats 4000000 in
set_option maxRecDepth 100000 in
theorem s_L_law_1805 {p : Program} {l : Launch} {e : Env} {s : State} {m : MethodId} {b L : Nat} {xs : Nat → Int32} {nm : String} {below : List Frame} {meth : Method} {c : Code} {G : GG} {hs : AH}  {h' : AH} (hfl : l.stackTraces = false) (eX : gX G = (b, L, xs)) (hz0 : s.heap.size = gB G) (hz1 : gC G - aZ hs = 600130) (hz2 : aU hs = 0) (C : Cx G hs p s m #[Value.ref b] meth c cL_law 28 RL lw_tbl (some .boolean) nm) {k54 : Nat → Nat → Nat → Nat → Nat → Int32 → Int32 → Int32 → Int32 → Int32 → AH → Option (Int32 × AH)} (hk54 : ∀ {v1 : Nat} {v2 : Nat} {v3 : Nat} {v4 : Nat} {v5 : Nat} {v6 : Int32} {v7 : Int32} {v8 : Int32} {v9 : Int32} {v10 : Int32} {h : AH} {H : Heap} {locs : List Loc} {cells slots : Nat} {ls : Array Slot}, Rp G h H → (∀ q ∈ locs, gB G ≤ q.base) → zm ls 28 [(1, zr v1), (2, zr v2), (3, zr v3), (4, zr v4), (5, zr v5), (6, .int v6), (7, .int v7), (8, .int v8), (9, .int v9), (10, .int v10), (0, .ref b)] → k54 v1 v2 v3 v4 v5 v6 v7 v8 v9 v10 h = some (iI 1, h') → W p l e (gR G hs 16 610) s m #[Value.ref b] below meth c H locs cells slots (lw_Z below #[Value.ref b] s) (F0 m 54 ls [])) {v1 : Nat} {v2 : Nat} {v3 : Nat} {v4 : Nat} {v5 : Nat} {v6 : Int32} {v7 : Int32} {v8 : Int32} {v10 : Int32} {h : AH} {H : Heap} {locs : List Loc} {cells slots : Nat} {ls : Array Slot} (hR : Rp G h H) (hL : ∀ q ∈ locs, gB G ≤ q.base) (hl : zm ls 28 [(1, zr v1), (2, zr v2), (3, zr v3), (4, zr v4), (5, zr v5), (6, .int v6), (7, .int v7), (8, .int v8), (10, .int v10), (0, .ref b)]) (hp : p_L_law_1805 xs L k54 v1 v2 v3 v4 v5 v6 v7 v8 v10 h = some (iI 1, h')) : W p l e (gR G hs 16 610) s m #[Value.ref b] below meth c H locs cells slots (lw_Z below #[Value.ref b] s) (F0 m 1805 ls []) := by
  obtain ⟨hx, hb, hml, hown, hts, hT, hK, rs, hlk, hret, hnm⟩ := id C
  have hm : ∀ w ∈ MW, w.before #[Value.ref b] s = true := fun w hw => hts w (hT w hw)
  obtain ⟨hX, hbB⟩ := hK.scr eX
  unfold p_L_law_1805 at hp
  refine lv_iconst (v := iI 0) hx hb dL_law_1805 rfl ?_
  exact s_L_law_1806 hfl eX hz0 hz1 hz2 C hk54 hR hL (zm_sub hl [0, 1, 2, 3, 4, 5, 6, 7, 8, 9] rfl) hp
def p_L_law_1784 (xs : Nat → Int32) (L : Nat) (k54 : Nat → Nat → Nat → Nat → Nat → Int32 → Int32 → Int32 → Int32 → Int32 → AH → Option (Int32 × AH)) (v1 : Nat) (v2 : Nat) (v3 : Nat) (v4 : Nat) (v5 : Nat) (v6 : Int32) (v7 : Int32) (v8 : Int32) (v9 : Int32) (v10 : Int32) (h : AH) : Option (Int32 × AH) :=
  if v9 = 0 then
    p_L_law_1805 xs L k54 v1 v2 v3 v4 v5 v6 v7 v8 v10 h
  else
    ck (aK h v1 = 12) <|
    bR (p_X10_queued v1 h) fun r3 h4 =>
    if r3 = (v7 - v8) then
      p_L_law_1806 xs L k54 v1 v2 v3 v4 v5 v6 v7 v8 v10 (iI 1) h4
    else
      p_L_law_1805 xs L k54 v1 v2 v3 v4 v5 v6 v7 v8 v10 h4
set_option maxHeartbeats 4000000 in
set_option maxRecDepth 100000 in
theorem s_L_law_1784 {p : Program} {l : Launch} {e : Env} {s : State} {m : MethodId} {b L : Nat} {xs : Nat → Int32} {nm : String} {below : List Frame} {meth : Method} {c : Code} {G : GG} {hs : AH}  {h' : AH} (hfl : l.stackTraces = false) (eX : gX G = (b, L, xs)) (hz0 : s.heap.size = gB G) (hz1 : gC G - aZ hs = 600130) (hz2 : aU hs = 0) (C : Cx G hs p s m #[Value.ref b] meth c cL_law 28 RL lw_tbl (some .boolean) nm) {k54 : Nat → Nat → Nat → Nat → Nat → Int32 → Int32 → Int32 → Int32 → Int32 → AH → Option (Int32 × AH)} (hk54 : ∀ {v1 : Nat} {v2 : Nat} {v3 : Nat} {v4 : Nat} {v5 : Nat} {v6 : Int32} {v7 : Int32} {v8 : Int32} {v9 : Int32} {v10 : Int32} {h : AH} {H : Heap} {locs : List Loc} {cells slots : Nat} {ls : Array Slot}, Rp G h H → (∀ q ∈ locs, gB G ≤ q.base) → zm ls 28 [(1, zr v1), (2, zr v2), (3, zr v3), (4, zr v4), (5, zr v5), (6, .int v6), (7, .int v7), (8, .int v8), (9, .int v9), (10, .int v10), (0, .ref b)] → k54 v1 v2 v3 v4 v5 v6 v7 v8 v9 v10 h = some (iI 1, h') → W p l e (gR G hs 16 610) s m #[Value.ref b] below meth c H locs cells slots (lw_Z below #[Value.ref b] s) (F0 m 54 ls [])) {v1 : Nat} {v2 : Nat} {v3 : Nat} {v4 : Nat} {v5 : Nat} {v6 : Int32} {v7 : Int32} {v8 : Int32} {v9 : Int32} {v10 : Int32} {h : AH} {H : Heap} {locs : List Loc} {cells slots : Nat} {ls : Array Slot} (hR : Rp G h H) (hL : ∀ q ∈ locs, gB G ≤ q.base) (hl : zm ls 28 [(1, zr v1), (2, zr v2), (3, zr v3), (4, zr v4), (5, zr v5), (6, .int v6), (7, .int v7), (8, .int v8), (9, .int v9), (10, .int v10), (0, .ref b)]) (hp : p_L_law_1784 xs L k54 v1 v2 v3 v4 v5 v6 v7 v8 v9 v10 h = some (iI 1, h')) : W p l e (gR G hs 16 610) s m #[Value.ref b] below meth c H locs cells slots (lw_Z below #[Value.ref b] s) (F0 m 1784 ls []) := by
  obtain ⟨hx, hb, hml, hown, hts, hT, hK, rs, hlk, hret, hnm⟩ := id C
  have hm : ∀ w ∈ MW, w.before #[Value.ref b] s = true := fun w hw => hts w (hT w hw)
  obtain ⟨hX, hbB⟩ := hK.scr eX
  unfold p_L_law_1784 at hp
  refine lv_iload hx hb dL_law_1784 (zm_at hl 8 rfl) ?_
  refine lv_if_eq (tgt := 1805) hx hb dL_law_1786 (by decide) (fun c1 => ?_) (fun c1 => ?_)
  · replace hp := ite_p hp c1
    exact s_L_law_1805 hfl eX hz0 hz1 hz2 C hk54 hR hL (zm_sub hl [0, 1, 2, 3, 4, 5, 6, 7, 9, 10] rfl) hp
  · replace hp := ite_n hp c1
    refine z_aload_n hx hb dL_law_1789 rfl (zm_at hl 0 rfl) ?_
    obtain ⟨k2, hp⟩ := ck_i hp
    obtain ⟨r3, h4, er3, hp⟩ := bR_i hp
    refine r_callV (ci := 11) (r := (RX10, TX10, 7)) (n := 0) (As := []) (rest := []) C (c_X10_queued l G v1 h r3 h4 er3) hR hL rfl k2 mw_291 mw_292 mw_293 mw_1 mw_294 (by decide +kernel) (by decide) rfl (zm_size hl) rfl (by simp [zr_cat, in_cat, lo_cat, re_cat]) dL_law_1790 (st2 := [.int r3]) rfl (fun H locs cells slots hR hL => ?_)
    refine lv_iload hx hb dL_law_1793 (zm_at hl 6 rfl) ?_
    refine lv_iload hx hb dL_law_1795 (zm_at hl 7 rfl) ?_
    refine lv_isub hx hb dL_law_1797 ?_
    refine lv_icmp_ne (tgt := 1805) hx hb dL_law_1798 (by decide) (fun c5 => ?_) (fun c5 => ?_)
    · replace hp := ite_n hp c5
      exact s_L_law_1805 hfl eX hz0 hz1 hz2 C hk54 hR hL (zm_sub hl [0, 1, 2, 3, 4, 5, 6, 7, 9, 10] rfl) hp
    · replace hp := ite_p hp c5
      refine lv_iconst (v := iI 1) hx hb dL_law_1801 rfl ?_
      refine lv_goto (tgt := 1806) hx hb dL_law_1802 (by decide) ?_
      exact s_L_law_1806 hfl eX hz0 hz1 hz2 C hk54 hR hL (zm_sub hl [0, 1, 2, 3, 4, 5, 6, 7, 9, 10] rfl) hp
def p_L_law_1736 (xs : Nat → Int32) (L : Nat) (k54 : Nat → Nat → Nat → Nat → Nat → Int32 → Int32 → Int32 → Int32 → Int32 → AH → Option (Int32 × AH)) : Nat → Nat → Nat → Nat → Nat → Nat → Int32 → Int32 → Int32 → Int32 → Int32 → Int32 → AH → Option (Int32 × AH)
  | 0, _, _, _, _, _, _, _, _, _, _, _, _ => none
  | n + 1, v1, v2, v3, v4, v5, v6, v7, v8, v9, v10, v21, h =>
    if v6 ≤ v21 then
      p_L_law_1784 xs L k54 v1 v2 v3 v4 v5 v6 v7 v8 v9 v10 h
    else
      if v9 = 0 then
        p_L_law_1784 xs L k54 v1 v2 v3 v4 v5 v6 v7 v8 v9 v10 h
      else
        bR (p_L_state v1 v21 h) fun r3 h4 =>
        ck (aK h4 v4 = 20 ∧ ix v21 (aN h4 v4)) <|
        if r3 = (aI h4 v4 v21.toNatClampNeg) then
          bR (p_L_spared v1 v21 h4) fun r8 h9 =>
          if r8 < 0 then
            p_L_law_1775 xs L k54 (p_L_law_1736 xs L k54 n) v1 v2 v3 v4 v5 v6 v7 v8 v10 v21 h9
          else
            p_L_law_1776 xs L k54 (p_L_law_1736 xs L k54 n) v1 v2 v3 v4 v5 v6 v7 v8 v10 v21 (iI 1) h9
        else
          p_L_law_1775 xs L k54 (p_L_law_1736 xs L k54 n) v1 v2 v3 v4 v5 v6 v7 v8 v10 v21 h4
set_option maxHeartbeats 4000000 in
set_option maxRecDepth 100000 in
theorem s_L_law_1736 {p : Program} {l : Launch} {e : Env} {s : State} {m : MethodId} {b L : Nat} {xs : Nat → Int32} {nm : String} {below : List Frame} {meth : Method} {c : Code} {G : GG} {hs : AH}  {h' : AH} (hfl : l.stackTraces = false) (eX : gX G = (b, L, xs)) (hz0 : s.heap.size = gB G) (hz1 : gC G - aZ hs = 600130) (hz2 : aU hs = 0) (C : Cx G hs p s m #[Value.ref b] meth c cL_law 28 RL lw_tbl (some .boolean) nm) {k54 : Nat → Nat → Nat → Nat → Nat → Int32 → Int32 → Int32 → Int32 → Int32 → AH → Option (Int32 × AH)} (hk54 : ∀ {v1 : Nat} {v2 : Nat} {v3 : Nat} {v4 : Nat} {v5 : Nat} {v6 : Int32} {v7 : Int32} {v8 : Int32} {v9 : Int32} {v10 : Int32} {h : AH} {H : Heap} {locs : List Loc} {cells slots : Nat} {ls : Array Slot}, Rp G h H → (∀ q ∈ locs, gB G ≤ q.base) → zm ls 28 [(1, zr v1), (2, zr v2), (3, zr v3), (4, zr v4), (5, zr v5), (6, .int v6), (7, .int v7), (8, .int v8), (9, .int v9), (10, .int v10), (0, .ref b)] → k54 v1 v2 v3 v4 v5 v6 v7 v8 v9 v10 h = some (iI 1, h') → W p l e (gR G hs 16 610) s m #[Value.ref b] below meth c H locs cells slots (lw_Z below #[Value.ref b] s) (F0 m 54 ls [])) : ∀ (n : Nat) (v1 : Nat) (v2 : Nat) (v3 : Nat) (v4 : Nat) (v5 : Nat) (v6 : Int32) (v7 : Int32) (v8 : Int32) (v9 : Int32) (v10 : Int32) (v21 : Int32) (h : AH) (H : Heap) (locs : List Loc) (cells slots : Nat) (ls : Array Slot) (hR : Rp G h H) (hL : ∀ q ∈ locs, gB G ≤ q.base) (hl : zm ls 28 [(1, zr v1), (2, zr v2), (3, zr v3), (4, zr v4), (5, zr v5), (6, .int v6), (7, .int v7), (8, .int v8), (9, .int v9), (10, .int v10), (21, .int v21), (0, .ref b)]) (hp : p_L_law_1736 xs L k54 n v1 v2 v3 v4 v5 v6 v7 v8 v9 v10 v21 h = some (iI 1, h')), W p l e (gR G hs 16 610) s m #[Value.ref b] below meth c H locs cells slots (lw_Z below #[Value.ref b] s) (F0 m 1736 ls []) := by
  obtain ⟨hx, hb, hml, hown, hts, hT, hK, rs, hlk, hret, hnm⟩ := id C
  have hm : ∀ w ∈ MW, w.before #[Value.ref b] s = true := fun w hw => hts w (hT w hw)
  obtain ⟨hX, hbB⟩ := hK.scr eX
  intro n
  induction n with
  | zero =>
    intro v1 v2 v3 v4 v5 v6 v7 v8 v9 v10 v21 h H locs cells slots ls hR hL hl hp
    exact absurd (show none = some (iI 1, h') from hp) (by simp)
  | succ n ih =>
    intro v1 v2 v3 v4 v5 v6 v7 v8 v9 v10 v21 h H locs cells slots ls hR hL hl hp
    rw [p_L_law_1736.eq_2] at hp
    refine lv_iload hx hb dL_law_1736 (zm_at hl 10 rfl) ?_
    refine lv_iload hx hb dL_law_1738 (zm_at hl 5 rfl) ?_
    refine lv_icmp_ge (tgt := 1784) hx hb dL_law_1740 (by decide) (fun c1 => ?_) (fun c1 => ?_)
    · replace hp := ite_p hp c1
      exact s_L_law_1784 hfl eX hz0 hz1 hz2 C hk54 hR hL (zm_sub hl [0, 1, 2, 3, 4, 5, 6, 7, 8, 9, 11] rfl) hp
    · replace hp := ite_n hp c1
      refine lv_iload hx hb dL_law_1743 (zm_at hl 8 rfl) ?_
      refine lv_if_eq (tgt := 1784) hx hb dL_law_1745 (by decide) (fun c2 => ?_) (fun c2 => ?_)
      · replace hp := ite_p hp c2
        exact s_L_law_1784 hfl eX hz0 hz1 hz2 C hk54 hR hL (zm_sub hl [0, 1, 2, 3, 4, 5, 6, 7, 8, 9, 11] rfl) hp
      · replace hp := ite_n hp c2
        refine z_aload_n hx hb dL_law_1748 rfl (zm_at hl 0 rfl) ?_
        refine lv_iload hx hb dL_law_1749 (zm_at hl 10 rfl) ?_
        obtain ⟨r3, h4, er3, hp⟩ := bR_i hp
        refine r_callSH (n := 2) (As := [zr v1, .int v21]) (rest := []) C (c_L_state l hfl G v1 v21 h r3 h4 er3) hR hL mw_889 mw_890 mw_0 mw_891 (by decide +kernel) (by decide) rfl (zm_size hl) rfl (by simp [zr_cat, in_cat, lo_cat, re_cat]) dL_law_1751 (st2 := [.int r3]) rfl (fun H locs cells slots hR hL => ?_)
        refine z_aload hx hb dL_law_1754 (zm_at hl 3 rfl) ?_
        refine lv_iload hx hb dL_law_1756 (zm_at hl 10 rfl) ?_
        obtain ⟨k5, hp⟩ := ck_i hp
        refine r_iald hx hb hK hR k5.1 k5.2 dL_law_1758 ?_
        refine lv_icmp_ne (tgt := 1775) hx hb dL_law_1759 (by decide) (fun c7 => ?_) (fun c7 => ?_)
        · replace hp := ite_n hp c7
          exact s_L_law_1775 hfl eX hz0 hz1 hz2 C hk54 (fun hR hL hl hp => ih _ _ _ _ _ _ _ _ _ _ _ _ _ _ _ _ _ hR hL hl hp) hR hL (zm_sub hl [0, 1, 2, 3, 4, 5, 6, 7, 9, 10, 11] rfl) hp
        · replace hp := ite_p hp c7
          refine z_aload_n hx hb dL_law_1762 rfl (zm_at hl 0 rfl) ?_
          refine lv_iload hx hb dL_law_1763 (zm_at hl 10 rfl) ?_
          obtain ⟨r8, h9, er8, hp⟩ := bR_i hp
          refine r_callSH (n := 2) (As := [zr v1, .int v21]) (rest := []) C (c_L_spared l hfl G v1 v21 h4 r8 h9 er8) hR hL mw_896 mw_897 mw_0 mw_898 (by decide +kernel) (by decide) rfl (zm_size hl) rfl (by simp [zr_cat, in_cat, lo_cat, re_cat]) dL_law_1765 (st2 := [.int r8]) rfl (fun H locs cells slots hR hL => ?_)
          refine lv_if_lt (tgt := 1775) hx hb dL_law_1768 (by decide) (fun c10 => ?_) (fun c10 => ?_)
          · replace hp := ite_p hp c10
            exact s_L_law_1775 hfl eX hz0 hz1 hz2 C hk54 (fun hR hL hl hp => ih _ _ _ _ _ _ _ _ _ _ _ _ _ _ _ _ _ hR hL hl hp) hR hL (zm_sub hl [0, 1, 2, 3, 4, 5, 6, 7, 9, 10, 11] rfl) hp
          · replace hp := ite_n hp c10
            refine lv_iconst (v := iI 1) hx hb dL_law_1771 rfl ?_
            refine lv_goto (tgt := 1776) hx hb dL_law_1772 (by decide) ?_
            exact s_L_law_1776 hfl eX hz0 hz1 hz2 C hk54 (fun hR hL hl hp => ih _ _ _ _ _ _ _ _ _ _ _ _ _ _ _ _ _ hR hL hl hp) hR hL (zm_sub hl [0, 1, 2, 3, 4, 5, 6, 7, 9, 10, 11] rfl) hp
def p_L_law_1733 (xs : Nat → Int32) (L : Nat) (k54 : Nat → Nat → Nat → Nat → Nat → Int32 → Int32 → Int32 → Int32 → Int32 → AH → Option (Int32 × AH)) (v1 : Nat) (v2 : Nat) (v3 : Nat) (v4 : Nat) (v5 : Nat) (v6 : Int32) (v7 : Int32) (v8 : Int32) (v9 : Int32) (v10 : Int32) (h : AH) : Option (Int32 × AH) :=
  nm ((iI 0)) fun (x1 : Int32) =>
  p_L_law_1736 xs L k54 FU v1 v2 v3 v4 v5 v6 v7 v8 v9 v10 x1 h
set_option maxHeartbeats 4000000 in
set_option maxRecDepth 100000 in
theorem s_L_law_1733 {p : Program} {l : Launch} {e : Env} {s : State} {m : MethodId} {b L : Nat} {xs : Nat → Int32} {nm : String} {below : List Frame} {meth : Method} {c : Code} {G : GG} {hs : AH}  {h' : AH} (hfl : l.stackTraces = false) (eX : gX G = (b, L, xs)) (hz0 : s.heap.size = gB G) (hz1 : gC G - aZ hs = 600130) (hz2 : aU hs = 0) (C : Cx G hs p s m #[Value.ref b] meth c cL_law 28 RL lw_tbl (some .boolean) nm) {k54 : Nat → Nat → Nat → Nat → Nat → Int32 → Int32 → Int32 → Int32 → Int32 → AH → Option (Int32 × AH)} (hk54 : ∀ {v1 : Nat} {v2 : Nat} {v3 : Nat} {v4 : Nat} {v5 : Nat} {v6 : Int32} {v7 : Int32} {v8 : Int32} {v9 : Int32} {v10 : Int32} {h : AH} {H : Heap} {locs : List Loc} {cells slots : Nat} {ls : Array Slot}, Rp G h H → (∀ q ∈ locs, gB G ≤ q.base) → zm ls 28 [(1, zr v1), (2, zr v2), (3, zr v3), (4, zr v4), (5, zr v5), (6, .int v6), (7, .int v7), (8, .int v8), (9, .int v9), (10, .int v10), (0, .ref b)] → k54 v1 v2 v3 v4 v5 v6 v7 v8 v9 v10 h = some (iI 1, h') → W p l e (gR G hs 16 610) s m #[Value.ref b] below meth c H locs cells slots (lw_Z below #[Value.ref b] s) (F0 m 54 ls [])) {v1 : Nat} {v2 : Nat} {v3 : Nat} {v4 : Nat} {v5 : Nat} {v6 : Int32} {v7 : Int32} {v8 : Int32} {v9 : Int32} {v10 : Int32} {h : AH} {H : Heap} {locs : List Loc} {cells slots : Nat} {ls : Array Slot} (hR : Rp G h H) (hL : ∀ q ∈ locs, gB G ≤ q.base) (hl : zm ls 28 [(1, zr v1), (2, zr v2), (3, zr v3), (4, zr v4), (5, zr v5), (6, .int v6), (7, .int v7), (8, .int v8), (9, .int v9), (10, .int v10), (0, .ref b)]) (hp : p_L_law_1733 xs L k54 v1 v2 v3 v4 v5 v6 v7 v8 v9 v10 h = some (iI 1, h')) : W p l e (gR G hs 16 610) s m #[Value.ref b] below meth c H locs cells slots (lw_Z below #[Value.ref b] s) (F0 m 1733 ls []) := by
  obtain ⟨hx, hb, hml, hown, hts, hT, hK, rs, hlk, hret, hnm⟩ := id C
  have hm : ∀ w ∈ MW, w.before #[Value.ref b] s = true := fun w hw => hts w (hT w hw)
  obtain ⟨hX, hbB⟩ := hK.scr eX
  unfold p_L_law_1733 at hp
  refine lv_iconst (v := iI 0) hx hb dL_law_1733 rfl ?_
  refine lv_topi (fun x1 ex1 => ?_)
  replace hp := nm_i hp ex1
  refine zm_istore (lv' := [(21, .int x1), (1, zr v1), (2, zr v2), (3, zr v3), (4, zr v4), (5, zr v5), (6, .int v6), (7, .int v7), (8, .int v8), (9, .int v9), (10, .int v10), (0, .ref b)]) hx hb dL_law_1734 hl (by decide) (by repeat (first | exact noL_nil _ | refine noL_i ?_ | refine noL_z ?_ | refine noL_r ?_ | refine noL_c (by decide) ?_)) rfl (fun ls hl => ?_)
  exact s_L_law_1736 hfl eX hz0 hz1 hz2 C hk54 _ _ _ _ _ _ _ _ _ _ _ _ _ _ _ _ _ _ hR hL (zm_sub hl [1, 2, 3, 4, 5, 6, 7, 8, 9, 10, 0, 11] rfl) hp
def p_L_law_1643 (xs : Nat → Int32) (L : Nat) (k54 : Nat → Nat → Nat → Nat → Nat → Int32 → Int32 → Int32 → Int32 → Int32 → AH → Option (Int32 × AH)) : Nat → Nat → Nat → Nat → Nat → Nat → Int32 → Int32 → Int32 → Int32 → Int32 → Int32 → AH → Option (Int32 × AH)
  | 0, _, _, _, _, _, _, _, _, _, _, _, _ => none
  | n + 1, v1, v2, v3, v4, v5, v6, v7, v8, v9, v10, v21, h =>
    if (iI 3) ≤ v21 then
      p_L_law_1733 xs L k54 v1 v2 v3 v4 v5 v6 v7 v8 v9 v10 h
    else
      if v9 = 0 then
        p_L_law_1733 xs L k54 v1 v2 v3 v4 v5 v6 v7 v8 v9 v10 h
      else
        bR (p_L_version v1 v21 h) fun r3 h4 =>
        ck (aK h4 v2 = 20 ∧ ix v21 (aN h4 v2)) <|
        if r3 < (aI h4 v2 v21.toNatClampNeg) then
          p_L_law_1714 xs L k54 (p_L_law_1643 xs L k54 n) v1 v2 v3 v4 v5 v6 v7 v8 v10 v21 h4
        else
          bR (p_L_fits v1 v21 v10 h4) fun r8 h9 =>
          if r8 = 0 then
            p_L_law_1714 xs L k54 (p_L_law_1643 xs L k54 n) v1 v2 v3 v4 v5 v6 v7 v8 v10 v21 h9
          else
            bR (p_L_savedVersion v1 v21 h9) fun r11 h12 =>
            bR (p_L_version v1 v21 h12) fun r13 h14 =>
            if r13 < r11 then
              p_L_law_1714 xs L k54 (p_L_law_1643 xs L k54 n) v1 v2 v3 v4 v5 v6 v7 v8 v10 v21 h14
            else
              bR (p_L_savedLength v1 v21 h14) fun r16 h17 =>
              bR (p_L_savedLetter v1 v21 r16 h17) fun r18 h19 =>
              if r18 = (iI (-101)) then
                p_L_law_1715 xs L k54 (p_L_law_1643 xs L k54 n) v1 v2 v3 v4 v5 v6 v7 v8 v10 v21 (iI 1) h19
              else
                p_L_law_1714 xs L k54 (p_L_law_1643 xs L k54 n) v1 v2 v3 v4 v5 v6 v7 v8 v10 v21 h19
set_option maxHeartbeats 4000000 in
set_option maxRecDepth 100000 in
theorem s_L_law_1643 {p : Program} {l : Launch} {e : Env} {s : State} {m : MethodId} {b L : Nat} {xs : Nat → Int32} {nm : String} {below : List Frame} {meth : Method} {c : Code} {G : GG} {hs : AH}  {h' : AH} (hfl : l.stackTraces = false) (eX : gX G = (b, L, xs)) (hz0 : s.heap.size = gB G) (hz1 : gC G - aZ hs = 600130) (hz2 : aU hs = 0) (C : Cx G hs p s m #[Value.ref b] meth c cL_law 28 RL lw_tbl (some .boolean) nm) {k54 : Nat → Nat → Nat → Nat → Nat → Int32 → Int32 → Int32 → Int32 → Int32 → AH → Option (Int32 × AH)} (hk54 : ∀ {v1 : Nat} {v2 : Nat} {v3 : Nat} {v4 : Nat} {v5 : Nat} {v6 : Int32} {v7 : Int32} {v8 : Int32} {v9 : Int32} {v10 : Int32} {h : AH} {H : Heap} {locs : List Loc} {cells slots : Nat} {ls : Array Slot}, Rp G h H → (∀ q ∈ locs, gB G ≤ q.base) → zm ls 28 [(1, zr v1), (2, zr v2), (3, zr v3), (4, zr v4), (5, zr v5), (6, .int v6), (7, .int v7), (8, .int v8), (9, .int v9), (10, .int v10), (0, .ref b)] → k54 v1 v2 v3 v4 v5 v6 v7 v8 v9 v10 h = some (iI 1, h') → W p l e (gR G hs 16 610) s m #[Value.ref b] below meth c H locs cells slots (lw_Z below #[Value.ref b] s) (F0 m 54 ls [])) : ∀ (n : Nat) (v1 : Nat) (v2 : Nat) (v3 : Nat) (v4 : Nat) (v5 : Nat) (v6 : Int32) (v7 : Int32) (v8 : Int32) (v9 : Int32) (v10 : Int32) (v21 : Int32) (h : AH) (H : Heap) (locs : List Loc) (cells slots : Nat) (ls : Array Slot) (hR : Rp G h H) (hL : ∀ q ∈ locs, gB G ≤ q.base) (hl : zm ls 28 [(1, zr v1), (2, zr v2), (3, zr v3), (4, zr v4), (5, zr v5), (6, .int v6), (7, .int v7), (8, .int v8), (9, .int v9), (10, .int v10), (21, .int v21), (0, .ref b)]) (hp : p_L_law_1643 xs L k54 n v1 v2 v3 v4 v5 v6 v7 v8 v9 v10 v21 h = some (iI 1, h')), W p l e (gR G hs 16 610) s m #[Value.ref b] below meth c H locs cells slots (lw_Z below #[Value.ref b] s) (F0 m 1643 ls []) := by
  obtain ⟨hx, hb, hml, hown, hts, hT, hK, rs, hlk, hret, hnm⟩ := id C
  have hm : ∀ w ∈ MW, w.before #[Value.ref b] s = true := fun w hw => hts w (hT w hw)
  obtain ⟨hX, hbB⟩ := hK.scr eX
  intro n
  induction n with
  | zero =>
    intro v1 v2 v3 v4 v5 v6 v7 v8 v9 v10 v21 h H locs cells slots ls hR hL hl hp
    exact absurd (show none = some (iI 1, h') from hp) (by simp)
  | succ n ih =>
    intro v1 v2 v3 v4 v5 v6 v7 v8 v9 v10 v21 h H locs cells slots ls hR hL hl hp
    rw [p_L_law_1643.eq_2] at hp
    refine lv_iload hx hb dL_law_1643 (zm_at hl 10 rfl) ?_
    refine lv_iconst (v := iI 3) hx hb dL_law_1645 rfl ?_
    refine lv_icmp_ge (tgt := 1733) hx hb dL_law_1646 (by decide) (fun c1 => ?_) (fun c1 => ?_)
    · replace hp := ite_p hp c1
      exact s_L_law_1733 hfl eX hz0 hz1 hz2 C hk54 hR hL (zm_sub hl [0, 1, 2, 3, 4, 5, 6, 7, 8, 9, 11] rfl) hp
    · replace hp := ite_n hp c1
      refine lv_iload hx hb dL_law_1649 (zm_at hl 8 rfl) ?_
      refine lv_if_eq (tgt := 1733) hx hb dL_law_1651 (by decide) (fun c2 => ?_) (fun c2 => ?_)
      · replace hp := ite_p hp c2
        exact s_L_law_1733 hfl eX hz0 hz1 hz2 C hk54 hR hL (zm_sub hl [0, 1, 2, 3, 4, 5, 6, 7, 8, 9, 11] rfl) hp
      · replace hp := ite_n hp c2
        refine z_aload_n hx hb dL_law_1654 rfl (zm_at hl 0 rfl) ?_
        refine lv_iload hx hb dL_law_1655 (zm_at hl 10 rfl) ?_
        obtain ⟨r3, h4, er3, hp⟩ := bR_i hp
        refine r_callSH (n := 2) (As := [zr v1, .int v21]) (rest := []) C (c_L_version l hfl G v1 v21 h r3 h4 er3) hR hL mw_683 mw_684 mw_0 mw_685 (by decide +kernel) (by decide) rfl (zm_size hl) rfl (by simp [zr_cat, in_cat, lo_cat, re_cat]) dL_law_1657 (st2 := [.int r3]) rfl (fun H locs cells slots hR hL => ?_)
        refine z_aload_n hx hb dL_law_1660 rfl (zm_at hl 1 rfl) ?_
        refine lv_iload hx hb dL_law_1661 (zm_at hl 10 rfl) ?_
        obtain ⟨k5, hp⟩ := ck_i hp
        refine r_iald hx hb hK hR k5.1 k5.2 dL_law_1663 ?_
        refine lv_icmp_lt (tgt := 1714) hx hb dL_law_1664 (by decide) (fun c7 => ?_) (fun c7 => ?_)
        · replace hp := ite_p hp c7
          exact s_L_law_1714 hfl eX hz0 hz1 hz2 C hk54 (fun hR hL hl hp => ih _ _ _ _ _ _ _ _ _ _ _ _ _ _ _ _ _ hR hL hl hp) hR hL (zm_sub hl [0, 1, 2, 3, 4, 5, 6, 7, 9, 10, 11] rfl) hp
        · replace hp := ite_n hp c7
          refine z_aload_n hx hb dL_law_1667 rfl (zm_at hl 0 rfl) ?_
          refine lv_iload hx hb dL_law_1668 (zm_at hl 10 rfl) ?_
          refine lv_iload hx hb dL_law_1670 (zm_at hl 9 rfl) ?_
          obtain ⟨r8, h9, er8, hp⟩ := bR_i hp
          refine r_callS (n := 3) (As := [zr v1, .int v21, .int v10]) (rest := []) C (c_L_fits l hfl G v1 v21 v10 h4 r8 h9 er8) hR hL mw_968 mw_969 mw_0 mw_970 (by decide +kernel) (by decide) rfl (zm_size hl) rfl (by simp [zr_cat, in_cat, lo_cat, re_cat]) dL_law_1672 (st2 := [.int r8]) rfl (fun H locs cells slots hR hL => ?_)
          refine lv_if_eq (tgt := 1714) hx hb dL_law_1675 (by decide) (fun c10 => ?_) (fun c10 => ?_)
          · replace hp := ite_p hp c10
            exact s_L_law_1714 hfl eX hz0 hz1 hz2 C hk54 (fun hR hL hl hp => ih _ _ _ _ _ _ _ _ _ _ _ _ _ _ _ _ _ hR hL hl hp) hR hL (zm_sub hl [0, 1, 2, 3, 4, 5, 6, 7, 9, 10, 11] rfl) hp
          · replace hp := ite_n hp c10
            refine z_aload_n hx hb dL_law_1678 rfl (zm_at hl 0 rfl) ?_
            refine lv_iload hx hb dL_law_1679 (zm_at hl 10 rfl) ?_
            obtain ⟨r11, h12, er11, hp⟩ := bR_i hp
            refine r_callSH (n := 2) (As := [zr v1, .int v21]) (rest := []) C (c_L_savedVersion l hfl G v1 v21 h9 r11 h12 er11) hR hL mw_941 mw_942 mw_0 mw_943 (by decide +kernel) (by decide) rfl (zm_size hl) rfl (by simp [zr_cat, in_cat, lo_cat, re_cat]) dL_law_1681 (st2 := [.int r11]) rfl (fun H locs cells slots hR hL => ?_)
            refine z_aload_n hx hb dL_law_1684 rfl (zm_at hl 0 rfl) ?_
            refine lv_iload hx hb dL_law_1685 (zm_at hl 10 rfl) ?_
            obtain ⟨r13, h14, er13, hp⟩ := bR_i hp
            refine r_callSH (n := 2) (As := [zr v1, .int v21]) (rest := [.int r11]) C (c_L_version l hfl G v1 v21 h12 r13 h14 er13) hR hL mw_683 mw_684 mw_0 mw_685 (by decide +kernel) (by decide) rfl (zm_size hl) rfl (by simp [zr_cat, in_cat, lo_cat, re_cat]) dL_law_1687 (st2 := [.int r13, .int r11]) rfl (fun H locs cells slots hR hL => ?_)
            refine lv_icmp_gt (tgt := 1714) hx hb dL_law_1690 (by decide) (fun c15 => ?_) (fun c15 => ?_)
            · replace hp := ite_p hp c15
              exact s_L_law_1714 hfl eX hz0 hz1 hz2 C hk54 (fun hR hL hl hp => ih _ _ _ _ _ _ _ _ _ _ _ _ _ _ _ _ _ hR hL hl hp) hR hL (zm_sub hl [0, 1, 2, 3, 4, 5, 6, 7, 9, 10, 11] rfl) hp
            · replace hp := ite_n hp c15
              refine z_aload_n hx hb dL_law_1693 rfl (zm_at hl 0 rfl) ?_
              refine lv_iload hx hb dL_law_1694 (zm_at hl 10 rfl) ?_
              refine z_aload_n hx hb dL_law_1696 rfl (zm_at hl 0 rfl) ?_
              refine lv_iload hx hb dL_law_1697 (zm_at hl 10 rfl) ?_
              obtain ⟨r16, h17, er16, hp⟩ := bR_i hp
              refine r_callSH (n := 2) (As := [zr v1, .int v21]) (rest := [.int v21, zr v1]) C (c_L_savedLength l hfl G v1 v21 h14 r16 h17 er16) hR hL mw_948 mw_949 mw_0 mw_950 (by decide +kernel) (by decide) rfl (zm_size hl) rfl (by simp [zr_cat, in_cat, lo_cat, re_cat]) dL_law_1699 (st2 := [.int r16, .int v21, zr v1]) rfl (fun H locs cells slots hR hL => ?_)
              obtain ⟨r18, h19, er18, hp⟩ := bR_i hp
              refine r_callSH (n := 3) (As := [zr v1, .int v21, .int r16]) (rest := []) C (c_L_savedLetter l hfl G v1 v21 r16 h17 r18 h19 er18) hR hL mw_955 mw_956 mw_0 mw_957 (by decide +kernel) (by decide) rfl (zm_size hl) rfl (by simp [zr_cat, in_cat, lo_cat, re_cat]) dL_law_1702 (st2 := [.int r18]) rfl (fun H locs cells slots hR hL => ?_)
              refine lv_bipush (v := iI (-101)) hx hb dL_law_1705 (by decide +kernel) ?_
              refine lv_icmp_ne (tgt := 1714) hx hb dL_law_1707 (by decide) (fun c20 => ?_) (fun c20 => ?_)
              · replace hp := ite_n hp c20
                exact s_L_law_1714 hfl eX hz0 hz1 hz2 C hk54 (fun hR hL hl hp => ih _ _ _ _ _ _ _ _ _ _ _ _ _ _ _ _ _ hR hL hl hp) hR hL (zm_sub hl [0, 1, 2, 3, 4, 5, 6, 7, 9, 10, 11] rfl) hp
              · replace hp := ite_p hp c20
                refine lv_iconst (v := iI 1) hx hb dL_law_1710 rfl ?_
                refine lv_goto (tgt := 1715) hx hb dL_law_1711 (by decide) ?_
                exact s_L_law_1715 hfl eX hz0 hz1 hz2 C hk54 (fun hR hL hl hp => ih _ _ _ _ _ _ _ _ _ _ _ _ _ _ _ _ _ hR hL hl hp) hR hL (zm_sub hl [0, 1, 2, 3, 4, 5, 6, 7, 9, 10, 11] rfl) hp
def p_L_law_1640 (xs : Nat → Int32) (L : Nat) (k54 : Nat → Nat → Nat → Nat → Nat → Int32 → Int32 → Int32 → Int32 → Int32 → AH → Option (Int32 × AH)) (v1 : Nat) (v2 : Nat) (v3 : Nat) (v4 : Nat) (v5 : Nat) (v6 : Int32) (v7 : Int32) (v8 : Int32) (v9 : Int32) (v10 : Int32) (h : AH) : Option (Int32 × AH) :=
  nm ((iI 0)) fun (x1 : Int32) =>
  p_L_law_1643 xs L k54 FU v1 v2 v3 v4 v5 v6 v7 v8 v9 v10 x1 h
set_option maxHeartbeats 4000000 in
set_option maxRecDepth 100000 in
theorem s_L_law_1640 {p : Program} {l : Launch} {e : Env} {s : State} {m : MethodId} {b L : Nat} {xs : Nat → Int32} {nm : String} {below : List Frame} {meth : Method} {c : Code} {G : GG} {hs : AH}  {h' : AH} (hfl : l.stackTraces = false) (eX : gX G = (b, L, xs)) (hz0 : s.heap.size = gB G) (hz1 : gC G - aZ hs = 600130) (hz2 : aU hs = 0) (C : Cx G hs p s m #[Value.ref b] meth c cL_law 28 RL lw_tbl (some .boolean) nm) {k54 : Nat → Nat → Nat → Nat → Nat → Int32 → Int32 → Int32 → Int32 → Int32 → AH → Option (Int32 × AH)} (hk54 : ∀ {v1 : Nat} {v2 : Nat} {v3 : Nat} {v4 : Nat} {v5 : Nat} {v6 : Int32} {v7 : Int32} {v8 : Int32} {v9 : Int32} {v10 : Int32} {h : AH} {H : Heap} {locs : List Loc} {cells slots : Nat} {ls : Array Slot}, Rp G h H → (∀ q ∈ locs, gB G ≤ q.base) → zm ls 28 [(1, zr v1), (2, zr v2), (3, zr v3), (4, zr v4), (5, zr v5), (6, .int v6), (7, .int v7), (8, .int v8), (9, .int v9), (10, .int v10), (0, .ref b)] → k54 v1 v2 v3 v4 v5 v6 v7 v8 v9 v10 h = some (iI 1, h') → W p l e (gR G hs 16 610) s m #[Value.ref b] below meth c H locs cells slots (lw_Z below #[Value.ref b] s) (F0 m 54 ls [])) {v1 : Nat} {v2 : Nat} {v3 : Nat} {v4 : Nat} {v5 : Nat} {v6 : Int32} {v7 : Int32} {v8 : Int32} {v9 : Int32} {v10 : Int32} {h : AH} {H : Heap} {locs : List Loc} {cells slots : Nat} {ls : Array Slot} (hR : Rp G h H) (hL : ∀ q ∈ locs, gB G ≤ q.base) (hl : zm ls 28 [(1, zr v1), (2, zr v2), (3, zr v3), (4, zr v4), (5, zr v5), (6, .int v6), (7, .int v7), (8, .int v8), (9, .int v9), (10, .int v10), (0, .ref b)]) (hp : p_L_law_1640 xs L k54 v1 v2 v3 v4 v5 v6 v7 v8 v9 v10 h = some (iI 1, h')) : W p l e (gR G hs 16 610) s m #[Value.ref b] below meth c H locs cells slots (lw_Z below #[Value.ref b] s) (F0 m 1640 ls []) := by
  obtain ⟨hx, hb, hml, hown, hts, hT, hK, rs, hlk, hret, hnm⟩ := id C
  have hm : ∀ w ∈ MW, w.before #[Value.ref b] s = true := fun w hw => hts w (hT w hw)
  obtain ⟨hX, hbB⟩ := hK.scr eX
  unfold p_L_law_1640 at hp
  refine lv_iconst (v := iI 0) hx hb dL_law_1640 rfl ?_
  refine lv_topi (fun x1 ex1 => ?_)
  replace hp := nm_i hp ex1
  refine zm_istore (lv' := [(21, .int x1), (1, zr v1), (2, zr v2), (3, zr v3), (4, zr v4), (5, zr v5), (6, .int v6), (7, .int v7), (8, .int v8), (9, .int v9), (10, .int v10), (0, .ref b)]) hx hb dL_law_1641 hl (by decide) (by repeat (first | exact noL_nil _ | refine noL_i ?_ | refine noL_z ?_ | refine noL_r ?_ | refine noL_c (by decide) ?_)) rfl (fun ls hl => ?_)
  exact s_L_law_1643 hfl eX hz0 hz1 hz2 C hk54 _ _ _ _ _ _ _ _ _ _ _ _ _ _ _ _ _ _ hR hL (zm_sub hl [1, 2, 3, 4, 5, 6, 7, 8, 9, 10, 0, 11] rfl) hp
def p_L_law_353 (xs : Nat → Int32) (L : Nat) (k54 : Nat → Nat → Nat → Nat → Nat → Int32 → Int32 → Int32 → Int32 → Int32 → AH → Option (Int32 × AH)) (v1 : Nat) (v2 : Nat) (v3 : Nat) (v4 : Nat) (v5 : Nat) (v6 : Int32) (v7 : Int32) (v8 : Int32) (v10 : Int32) (v15 : Int32) (s0 : Int32) (h : AH) : Option (Int32 × AH) :=
  ck (aK h v3 = 20 ∧ ix v15 (aN h v3)) <|
  ck (aK h v3 = 20 ∧ ix v15 (aN h v3)) <|
  nm (uI h v3 v15.toNatClampNeg ((aI h v3 v15.toNatClampNeg) + (iI 1))) fun h5 =>
  p_L_law_1640 xs L k54 v1 v2 v3 v4 v5 v6 v7 v8 s0 v10 h5
set_option maxHeartbeats 4000000 in
set_option maxRecDepth 100000 in
theorem s_L_law_353 {p : Program} {l : Launch} {e : Env} {s : State} {m : MethodId} {b L : Nat} {xs : Nat → Int32} {nm : String} {below : List Frame} {meth : Method} {c : Code} {G : GG} {hs : AH}  {h' : AH} (hfl : l.stackTraces = false) (eX : gX G = (b, L, xs)) (hz0 : s.heap.size = gB G) (hz1 : gC G - aZ hs = 600130) (hz2 : aU hs = 0) (C : Cx G hs p s m #[Value.ref b] meth c cL_law 28 RL lw_tbl (some .boolean) nm) {k54 : Nat → Nat → Nat → Nat → Nat → Int32 → Int32 → Int32 → Int32 → Int32 → AH → Option (Int32 × AH)} (hk54 : ∀ {v1 : Nat} {v2 : Nat} {v3 : Nat} {v4 : Nat} {v5 : Nat} {v6 : Int32} {v7 : Int32} {v8 : Int32} {v9 : Int32} {v10 : Int32} {h : AH} {H : Heap} {locs : List Loc} {cells slots : Nat} {ls : Array Slot}, Rp G h H → (∀ q ∈ locs, gB G ≤ q.base) → zm ls 28 [(1, zr v1), (2, zr v2), (3, zr v3), (4, zr v4), (5, zr v5), (6, .int v6), (7, .int v7), (8, .int v8), (9, .int v9), (10, .int v10), (0, .ref b)] → k54 v1 v2 v3 v4 v5 v6 v7 v8 v9 v10 h = some (iI 1, h') → W p l e (gR G hs 16 610) s m #[Value.ref b] below meth c H locs cells slots (lw_Z below #[Value.ref b] s) (F0 m 54 ls [])) {v1 : Nat} {v2 : Nat} {v3 : Nat} {v4 : Nat} {v5 : Nat} {v6 : Int32} {v7 : Int32} {v8 : Int32} {v10 : Int32} {v15 : Int32} {s0 : Int32} {h : AH} {H : Heap} {locs : List Loc} {cells slots : Nat} {ls : Array Slot} (hR : Rp G h H) (hL : ∀ q ∈ locs, gB G ≤ q.base) (hl : zm ls 28 [(1, zr v1), (2, zr v2), (3, zr v3), (4, zr v4), (5, zr v5), (6, .int v6), (7, .int v7), (8, .int v8), (10, .int v10), (15, .int v15), (0, .ref b)]) (hp : p_L_law_353 xs L k54 v1 v2 v3 v4 v5 v6 v7 v8 v10 v15 s0 h = some (iI 1, h')) : W p l e (gR G hs 16 610) s m #[Value.ref b] below meth c H locs cells slots (lw_Z below #[Value.ref b] s) (F0 m 353 ls [.int s0]) := by
  obtain ⟨hx, hb, hml, hown, hts, hT, hK, rs, hlk, hret, hnm⟩ := id C
  have hm : ∀ w ∈ MW, w.before #[Value.ref b] s = true := fun w hw => hts w (hT w hw)
  obtain ⟨hX, hbB⟩ := hK.scr eX
  unfold p_L_law_353 at hp
  refine zm_istore (lv' := [(9, .int s0), (1, zr v1), (2, zr v2), (3, zr v3), (4, zr v4), (5, zr v5), (6, .int v6), (7, .int v7), (8, .int v8), (10, .int v10), (15, .int v15), (0, .ref b)]) hx hb dL_law_353 hl (by decide) (by repeat (first | exact noL_nil _ | refine noL_i ?_ | refine noL_z ?_ | refine noL_r ?_ | refine noL_c (by decide) ?_)) rfl (fun ls hl => ?_)
  refine z_aload_n hx hb dL_law_355 rfl (zm_at hl 3 rfl) ?_
  refine lv_iload hx hb dL_law_356 (zm_at hl 10 rfl) ?_
  refine lv_dup2_11 hx hb dL_law_358 rfl (zr_cat _) ?_
  obtain ⟨k1, hp⟩ := ck_i hp
  refine r_iald hx hb hK hR k1.1 k1.2 dL_law_359 ?_
  refine lv_iconst (v := iI 1) hx hb dL_law_360 rfl ?_
  refine lv_iadd hx hb dL_law_361 ?_
  obtain ⟨k3, hp⟩ := ck_i hp
  refine r_iast hx hb hK hR hL k3.1 k3.2 dL_law_362 (fun H locs hR hL => ?_)
  obtain ⟨h5, hp, hR⟩ := nm_h hp hR
  refine lv_goto (tgt := 1640) hx hb dL_law_363 (by decide) ?_
  exact s_L_law_1640 hfl eX hz0 hz1 hz2 C hk54 hR hL (zm_sub hl [1, 2, 3, 4, 5, 6, 7, 8, 0, 9, 11] rfl) hp
def p_L_law_352 (xs : Nat → Int32) (L : Nat) (k54 : Nat → Nat → Nat → Nat → Nat → Int32 → Int32 → Int32 → Int32 → Int32 → AH → Option (Int32 × AH)) (v1 : Nat) (v2 : Nat) (v3 : Nat) (v4 : Nat) (v5 : Nat) (v6 : Int32) (v7 : Int32) (v8 : Int32) (v10 : Int32) (v15 : Int32) (h : AH) : Option (Int32 × AH) :=
  p_L_law_353 xs L k54 v1 v2 v3 v4 v5 v6 v7 v8 v10 v15 (iI 0) h
set_option maxHeartbeats 4000000 in
set_option maxRecDepth 100000 in
theorem s_L_law_352 {p : Program} {l : Launch} {e : Env} {s : State} {m : MethodId} {b L : Nat} {xs : Nat → Int32} {nm : String} {below : List Frame} {meth : Method} {c : Code} {G : GG} {hs : AH}  {h' : AH} (hfl : l.stackTraces = false) (eX : gX G = (b, L, xs)) (hz0 : s.heap.size = gB G) (hz1 : gC G - aZ hs = 600130) (hz2 : aU hs = 0) (C : Cx G hs p s m #[Value.ref b] meth c cL_law 28 RL lw_tbl (some .boolean) nm) {k54 : Nat → Nat → Nat → Nat → Nat → Int32 → Int32 → Int32 → Int32 → Int32 → AH → Option (Int32 × AH)} (hk54 : ∀ {v1 : Nat} {v2 : Nat} {v3 : Nat} {v4 : Nat} {v5 : Nat} {v6 : Int32} {v7 : Int32} {v8 : Int32} {v9 : Int32} {v10 : Int32} {h : AH} {H : Heap} {locs : List Loc} {cells slots : Nat} {ls : Array Slot}, Rp G h H → (∀ q ∈ locs, gB G ≤ q.base) → zm ls 28 [(1, zr v1), (2, zr v2), (3, zr v3), (4, zr v4), (5, zr v5), (6, .int v6), (7, .int v7), (8, .int v8), (9, .int v9), (10, .int v10), (0, .ref b)] → k54 v1 v2 v3 v4 v5 v6 v7 v8 v9 v10 h = some (iI 1, h') → W p l e (gR G hs 16 610) s m #[Value.ref b] below meth c H locs cells slots (lw_Z below #[Value.ref b] s) (F0 m 54 ls [])) {v1 : Nat} {v2 : Nat} {v3 : Nat} {v4 : Nat} {v5 : Nat} {v6 : Int32} {v7 : Int32} {v8 : Int32} {v10 : Int32} {v15 : Int32} {h : AH} {H : Heap} {locs : List Loc} {cells slots : Nat} {ls : Array Slot} (hR : Rp G h H) (hL : ∀ q ∈ locs, gB G ≤ q.base) (hl : zm ls 28 [(1, zr v1), (2, zr v2), (3, zr v3), (4, zr v4), (5, zr v5), (6, .int v6), (7, .int v7), (8, .int v8), (10, .int v10), (15, .int v15), (0, .ref b)]) (hp : p_L_law_352 xs L k54 v1 v2 v3 v4 v5 v6 v7 v8 v10 v15 h = some (iI 1, h')) : W p l e (gR G hs 16 610) s m #[Value.ref b] below meth c H locs cells slots (lw_Z below #[Value.ref b] s) (F0 m 352 ls []) := by
  obtain ⟨hx, hb, hml, hown, hts, hT, hK, rs, hlk, hret, hnm⟩ := id C
  have hm : ∀ w ∈ MW, w.before #[Value.ref b] s = true := fun w hw => hts w (hT w hw)
  obtain ⟨hX, hbB⟩ := hK.scr eX
  unfold p_L_law_352 at hp
  refine lv_iconst (v := iI 0) hx hb dL_law_352 rfl ?_
  exact s_L_law_353 hfl eX hz0 hz1 hz2 C hk54 hR hL (zm_sub hl [0, 1, 2, 3, 4, 5, 6, 7, 8, 9, 10] rfl) hp
def p_L_law_220 (xs : Nat → Int32) (L : Nat) (k54 : Nat → Nat → Nat → Nat → Nat → Int32 → Int32 → Int32 → Int32 → Int32 → AH → Option (Int32 × AH)) (v1 : Nat) (v2 : Nat) (v3 : Nat) (v4 : Nat) (v5 : Nat) (v6 : Int32) (v7 : Int32) (v8 : Int32) (v10 : Int32) (v14 : Int32) (v15 : Int32) (v17 : Int64) (v19 : Int32) (v20 : Int32) (s0 : Int32) (h : AH) : Option (Int32 × AH) :=
  bR (p_L_place v1 v15 v14 h) fun r1 h2 =>
  bR (p_L_type v1 v15 v14 s0 h2) fun r3 h4 =>
  if r3 = (r1 + (iI 1)) then
    bR (p_L_letter v1 v14 r1 h4) fun r6 h7 =>
    if r6 = s0 then
      bR (p_L_length v1 v14 h7) fun r9 h10 =>
      if r9 = (v20 + (iI 1)) then
        bR (p_L_version v1 v14 h10) fun r12 h13 =>
        if r12 = (v19 + (iI 1)) then
          bR (p_L_undo v1 v15 h13) fun r15 h16 =>
          if r15 = v14 then
            bR (p_L_looks v1 v14 h16) fun r18 h19 =>
            if (lg_cmp r18 v17) = 0 then
              bR (p_L_redo v1 v15 h19) fun r21 h22 =>
              if r21 = v14 then
                bR (p_L_letter v1 v14 r1 h22) fun r24 h25 =>
                if r24 = s0 then
                  bR (p_L_version v1 v14 h25) fun r27 h28 =>
                  if r27 = (v19 + (iI 3)) then
                    p_L_law_353 xs L k54 v1 v2 v3 v4 v5 v6 v7 v8 v10 v15 (iI 1) h28
                  else
                    p_L_law_352 xs L k54 v1 v2 v3 v4 v5 v6 v7 v8 v10 v15 h28
                else
                  p_L_law_352 xs L k54 v1 v2 v3 v4 v5 v6 v7 v8 v10 v15 h25
              else
                p_L_law_352 xs L k54 v1 v2 v3 v4 v5 v6 v7 v8 v10 v15 h22
            else
              p_L_law_352 xs L k54 v1 v2 v3 v4 v5 v6 v7 v8 v10 v15 h19
          else
            p_L_law_352 xs L k54 v1 v2 v3 v4 v5 v6 v7 v8 v10 v15 h16
        else
          p_L_law_352 xs L k54 v1 v2 v3 v4 v5 v6 v7 v8 v10 v15 h13
      else
        p_L_law_352 xs L k54 v1 v2 v3 v4 v5 v6 v7 v8 v10 v15 h10
    else
      p_L_law_352 xs L k54 v1 v2 v3 v4 v5 v6 v7 v8 v10 v15 h7
  else
    p_L_law_352 xs L k54 v1 v2 v3 v4 v5 v6 v7 v8 v10 v15 h4
set_option maxHeartbeats 4000000 in
set_option maxRecDepth 100000 in
theorem s_L_law_220 {p : Program} {l : Launch} {e : Env} {s : State} {m : MethodId} {b L : Nat} {xs : Nat → Int32} {nm : String} {below : List Frame} {meth : Method} {c : Code} {G : GG} {hs : AH}  {h' : AH} (hfl : l.stackTraces = false) (eX : gX G = (b, L, xs)) (hz0 : s.heap.size = gB G) (hz1 : gC G - aZ hs = 600130) (hz2 : aU hs = 0) (C : Cx G hs p s m #[Value.ref b] meth c cL_law 28 RL lw_tbl (some .boolean) nm) {k54 : Nat → Nat → Nat → Nat → Nat → Int32 → Int32 → Int32 → Int32 → Int32 → AH → Option (Int32 × AH)} (hk54 : ∀ {v1 : Nat} {v2 : Nat} {v3 : Nat} {v4 : Nat} {v5 : Nat} {v6 : Int32} {v7 : Int32} {v8 : Int32} {v9 : Int32} {v10 : Int32} {h : AH} {H : Heap} {locs : List Loc} {cells slots : Nat} {ls : Array Slot}, Rp G h H → (∀ q ∈ locs, gB G ≤ q.base) → zm ls 28 [(1, zr v1), (2, zr v2), (3, zr v3), (4, zr v4), (5, zr v5), (6, .int v6), (7, .int v7), (8, .int v8), (9, .int v9), (10, .int v10), (0, .ref b)] → k54 v1 v2 v3 v4 v5 v6 v7 v8 v9 v10 h = some (iI 1, h') → W p l e (gR G hs 16 610) s m #[Value.ref b] below meth c H locs cells slots (lw_Z below #[Value.ref b] s) (F0 m 54 ls [])) {v1 : Nat} {v2 : Nat} {v3 : Nat} {v4 : Nat} {v5 : Nat} {v6 : Int32} {v7 : Int32} {v8 : Int32} {v10 : Int32} {v14 : Int32} {v15 : Int32} {v17 : Int64} {v19 : Int32} {v20 : Int32} {s0 : Int32} {h : AH} {H : Heap} {locs : List Loc} {cells slots : Nat} {ls : Array Slot} (hR : Rp G h H) (hL : ∀ q ∈ locs, gB G ≤ q.base) (hl : zm ls 28 [(1, zr v1), (2, zr v2), (3, zr v3), (4, zr v4), (5, zr v5), (6, .int v6), (7, .int v7), (8, .int v8), (10, .int v10), (14, .int v14), (15, .int v15), (17, .long v17), (19, .int v19), (20, .int v20), (0, .ref b)]) (hp : p_L_law_220 xs L k54 v1 v2 v3 v4 v5 v6 v7 v8 v10 v14 v15 v17 v19 v20 s0 h = some (iI 1, h')) : W p l e (gR G hs 16 610) s m #[Value.ref b] below meth c H locs cells slots (lw_Z below #[Value.ref b] s) (F0 m 220 ls [.int s0]) := by
  obtain ⟨hx, hb, hml, hown, hts, hT, hK, rs, hlk, hret, hnm⟩ := id C
  have hm : ∀ w ∈ MW, w.before #[Value.ref b] s = true := fun w hw => hts w (hT w hw)
  obtain ⟨hX, hbB⟩ := hK.scr eX
  unfold p_L_law_220 at hp
  refine zm_istore (lv' := [(22, .int s0), (1, zr v1), (2, zr v2), (3, zr v3), (4, zr v4), (5, zr v5), (6, .int v6), (7, .int v7), (8, .int v8), (10, .int v10), (14, .int v14), (15, .int v15), (17, .long v17), (19, .int v19), (20, .int v20), (0, .ref b)]) hx hb dL_law_220 hl (by decide) (by repeat (first | exact noL_nil _ | refine noL_i ?_ | refine noL_z ?_ | refine noL_r ?_ | refine noL_c (by decide) ?_)) rfl (fun ls hl => ?_)
  refine z_aload_n hx hb dL_law_222 rfl (zm_at hl 1 rfl) ?_
  refine lv_iload hx hb dL_law_223 (zm_at hl 11 rfl) ?_
  refine lv_iload hx hb dL_law_225 (zm_at hl 10 rfl) ?_
  obtain ⟨r1, h2, er1, hp⟩ := bR_i hp
  refine r_callSH (n := 3) (As := [zr v1, .int v15, .int v14]) (rest := []) C (c_L_place l hfl G v1 v15 v14 h r1 h2 er1) hR hL mw_658 mw_659 mw_0 mw_660 (by decide +kernel) (by decide) rfl (zm_size hl) rfl (by simp [zr_cat, in_cat, lo_cat, re_cat]) dL_law_227 (st2 := [.int r1]) rfl (fun H locs cells slots hR hL => ?_)
  refine zm_istore (lv' := [(23, .int r1), (22, .int s0), (1, zr v1), (2, zr v2), (3, zr v3), (4, zr v4), (5, zr v5), (6, .int v6), (7, .int v7), (8, .int v8), (10, .int v10), (14, .int v14), (15, .int v15), (17, .long v17), (19, .int v19), (20, .int v20), (0, .ref b)]) hx hb dL_law_230 hl (by decide) (by repeat (first | exact noL_nil _ | refine noL_i ?_ | refine noL_z ?_ | refine noL_r ?_ | refine noL_c (by decide) ?_)) rfl (fun ls hl => ?_)
  refine z_aload_n hx hb dL_law_232 rfl (zm_at hl 2 rfl) ?_
  refine lv_iload hx hb dL_law_233 (zm_at hl 12 rfl) ?_
  refine lv_iload hx hb dL_law_235 (zm_at hl 11 rfl) ?_
  refine lv_iload hx hb dL_law_237 (zm_at hl 1 rfl) ?_
  obtain ⟨r3, h4, er3, hp⟩ := bR_i hp
  refine r_callSH (n := 4) (As := [zr v1, .int v15, .int v14, .int s0]) (rest := []) C (c_L_type l hfl G v1 v15 v14 s0 h2 r3 h4 er3) hR hL mw_300 mw_301 mw_0 mw_302 (by decide +kernel) (by decide) rfl (zm_size hl) rfl (by simp [zr_cat, in_cat, lo_cat, re_cat]) dL_law_239 (st2 := [.int r3]) rfl (fun H locs cells slots hR hL => ?_)
  refine lv_iload hx hb dL_law_242 (zm_at hl 0 rfl) ?_
  refine lv_iconst (v := iI 1) hx hb dL_law_244 rfl ?_
  refine lv_iadd hx hb dL_law_245 ?_
  refine lv_icmp_ne (tgt := 352) hx hb dL_law_246 (by decide) (fun c5 => ?_) (fun c5 => ?_)
  · replace hp := ite_n hp c5
    exact s_L_law_352 hfl eX hz0 hz1 hz2 C hk54 hR hL (zm_sub hl [2, 3, 4, 5, 6, 7, 8, 9, 10, 12, 16] rfl) hp
  · replace hp := ite_p hp c5
    refine z_aload_n hx hb dL_law_249 rfl (zm_at hl 2 rfl) ?_
    refine lv_iload hx hb dL_law_250 (zm_at hl 11 rfl) ?_
    refine lv_iload hx hb dL_law_252 (zm_at hl 0 rfl) ?_
    obtain ⟨r6, h7, er6, hp⟩ := bR_i hp
    refine r_callSH (n := 3) (As := [zr v1, .int v14, .int r1]) (rest := []) C (c_L_letter l hfl G v1 v14 r1 h4 r6 h7 er6) hR hL mw_672 mw_673 mw_0 mw_674 (by decide +kernel) (by decide) rfl (zm_size hl) rfl (by simp [zr_cat, in_cat, lo_cat, re_cat]) dL_law_254 (st2 := [.int r6]) rfl (fun H locs cells slots hR hL => ?_)
    refine lv_iload hx hb dL_law_257 (zm_at hl 1 rfl) ?_
    refine lv_icmp_ne (tgt := 352) hx hb dL_law_259 (by decide) (fun c8 => ?_) (fun c8 => ?_)
    · replace hp := ite_n hp c8
      exact s_L_law_352 hfl eX hz0 hz1 hz2 C hk54 hR hL (zm_sub hl [2, 3, 4, 5, 6, 7, 8, 9, 10, 12, 16] rfl) hp
    · replace hp := ite_p hp c8
      refine z_aload_n hx hb dL_law_262 rfl (zm_at hl 2 rfl) ?_
      refine lv_iload hx hb dL_law_263 (zm_at hl 11 rfl) ?_
      obtain ⟨r9, h10, er9, hp⟩ := bR_i hp
      refine r_callSH (n := 2) (As := [zr v1, .int v14]) (rest := []) C (c_L_length l hfl G v1 v14 h7 r9 h10 er9) hR hL mw_665 mw_666 mw_0 mw_667 (by decide +kernel) (by decide) rfl (zm_size hl) rfl (by simp [zr_cat, in_cat, lo_cat, re_cat]) dL_law_265 (st2 := [.int r9]) rfl (fun H locs cells slots hR hL => ?_)
      refine lv_iload hx hb dL_law_268 (zm_at hl 15 rfl) ?_
      refine lv_iconst (v := iI 1) hx hb dL_law_270 rfl ?_
      refine lv_iadd hx hb dL_law_271 ?_
      refine lv_icmp_ne (tgt := 352) hx hb dL_law_272 (by decide) (fun c11 => ?_) (fun c11 => ?_)
      · replace hp := ite_n hp c11
        exact s_L_law_352 hfl eX hz0 hz1 hz2 C hk54 hR hL (zm_sub hl [2, 3, 4, 5, 6, 7, 8, 9, 10, 12, 16] rfl) hp
      · replace hp := ite_p hp c11
        refine z_aload_n hx hb dL_law_275 rfl (zm_at hl 2 rfl) ?_
        refine lv_iload hx hb dL_law_276 (zm_at hl 11 rfl) ?_
        obtain ⟨r12, h13, er12, hp⟩ := bR_i hp
        refine r_callSH (n := 2) (As := [zr v1, .int v14]) (rest := []) C (c_L_version l hfl G v1 v14 h10 r12 h13 er12) hR hL mw_683 mw_684 mw_0 mw_685 (by decide +kernel) (by decide) rfl (zm_size hl) rfl (by simp [zr_cat, in_cat, lo_cat, re_cat]) dL_law_278 (st2 := [.int r12]) rfl (fun H locs cells slots hR hL => ?_)
        refine lv_iload hx hb dL_law_281 (zm_at hl 14 rfl) ?_
        refine lv_iconst (v := iI 1) hx hb dL_law_283 rfl ?_
        refine lv_iadd hx hb dL_law_284 ?_
        refine lv_icmp_ne (tgt := 352) hx hb dL_law_285 (by decide) (fun c14 => ?_) (fun c14 => ?_)
        · replace hp := ite_n hp c14
          exact s_L_law_352 hfl eX hz0 hz1 hz2 C hk54 hR hL (zm_sub hl [2, 3, 4, 5, 6, 7, 8, 9, 10, 12, 16] rfl) hp
        · replace hp := ite_p hp c14
          refine z_aload_n hx hb dL_law_288 rfl (zm_at hl 2 rfl) ?_
          refine lv_iload hx hb dL_law_289 (zm_at hl 12 rfl) ?_
          obtain ⟨r15, h16, er15, hp⟩ := bR_i hp
          refine r_callSH (n := 2) (As := [zr v1, .int v15]) (rest := []) C (c_L_undo l hfl G v1 v15 h13 r15 h16 er15) hR hL mw_631 mw_632 mw_0 mw_633 (by decide +kernel) (by decide) rfl (zm_size hl) rfl (by simp [zr_cat, in_cat, lo_cat, re_cat]) dL_law_291 (st2 := [.int r15]) rfl (fun H locs cells slots hR hL => ?_)
          refine lv_iload hx hb dL_law_294 (zm_at hl 11 rfl) ?_
          refine lv_icmp_ne (tgt := 352) hx hb dL_law_296 (by decide) (fun c17 => ?_) (fun c17 => ?_)
          · replace hp := ite_n hp c17
            exact s_L_law_352 hfl eX hz0 hz1 hz2 C hk54 hR hL (zm_sub hl [2, 3, 4, 5, 6, 7, 8, 9, 10, 12, 16] rfl) hp
          · replace hp := ite_p hp c17
            refine z_aload_n hx hb dL_law_299 rfl (zm_at hl 2 rfl) ?_
            refine lv_iload hx hb dL_law_300 (zm_at hl 11 rfl) ?_
            obtain ⟨r18, h19, er18, hp⟩ := bR_i hp
            refine r_callS (n := 2) (As := [zr v1, .int v14]) (rest := []) C (c_L_looks l hfl G v1 v14 h16 r18 h19 er18) hR hL mw_962 mw_963 mw_0 mw_964 (by decide +kernel) (by decide) rfl (zm_size hl) rfl (by simp [zr_cat, in_cat, lo_cat, re_cat]) dL_law_302 (st2 := [.long r18]) rfl (fun H locs cells slots hR hL => ?_)
            refine lv_lload hx hb dL_law_305 (zm_at hl 13 rfl) ?_
            refine W.lcmp hx hb dL_law_307 ?_
            refine lv_if_ne (tgt := 352) hx hb dL_law_308 (by decide) (fun c20 => ?_) (fun c20 => ?_)
            · replace hp := ite_n hp c20
              exact s_L_law_352 hfl eX hz0 hz1 hz2 C hk54 hR hL (zm_sub hl [2, 3, 4, 5, 6, 7, 8, 9, 10, 12, 16] rfl) hp
            · replace hp := ite_p hp c20
              refine z_aload_n hx hb dL_law_311 rfl (zm_at hl 2 rfl) ?_
              refine lv_iload hx hb dL_law_312 (zm_at hl 12 rfl) ?_
              obtain ⟨r21, h22, er21, hp⟩ := bR_i hp
              refine r_callSH (n := 2) (As := [zr v1, .int v15]) (rest := []) C (c_L_redo l hfl G v1 v15 h19 r21 h22 er21) hR hL mw_646 mw_647 mw_0 mw_648 (by decide +kernel) (by decide) rfl (zm_size hl) rfl (by simp [zr_cat, in_cat, lo_cat, re_cat]) dL_law_314 (st2 := [.int r21]) rfl (fun H locs cells slots hR hL => ?_)
              refine lv_iload hx hb dL_law_317 (zm_at hl 11 rfl) ?_
              refine lv_icmp_ne (tgt := 352) hx hb dL_law_319 (by decide) (fun c23 => ?_) (fun c23 => ?_)
              · replace hp := ite_n hp c23
                exact s_L_law_352 hfl eX hz0 hz1 hz2 C hk54 hR hL (zm_sub hl [2, 3, 4, 5, 6, 7, 8, 9, 10, 12, 16] rfl) hp
              · replace hp := ite_p hp c23
                refine z_aload_n hx hb dL_law_322 rfl (zm_at hl 2 rfl) ?_
                refine lv_iload hx hb dL_law_323 (zm_at hl 11 rfl) ?_
                refine lv_iload hx hb dL_law_325 (zm_at hl 0 rfl) ?_
                obtain ⟨r24, h25, er24, hp⟩ := bR_i hp
                refine r_callSH (n := 3) (As := [zr v1, .int v14, .int r1]) (rest := []) C (c_L_letter l hfl G v1 v14 r1 h22 r24 h25 er24) hR hL mw_672 mw_673 mw_0 mw_674 (by decide +kernel) (by decide) rfl (zm_size hl) rfl (by simp [zr_cat, in_cat, lo_cat, re_cat]) dL_law_327 (st2 := [.int r24]) rfl (fun H locs cells slots hR hL => ?_)
                refine lv_iload hx hb dL_law_330 (zm_at hl 1 rfl) ?_
                refine lv_icmp_ne (tgt := 352) hx hb dL_law_332 (by decide) (fun c26 => ?_) (fun c26 => ?_)
                · replace hp := ite_n hp c26
                  exact s_L_law_352 hfl eX hz0 hz1 hz2 C hk54 hR hL (zm_sub hl [2, 3, 4, 5, 6, 7, 8, 9, 10, 12, 16] rfl) hp
                · replace hp := ite_p hp c26
                  refine z_aload_n hx hb dL_law_335 rfl (zm_at hl 2 rfl) ?_
                  refine lv_iload hx hb dL_law_336 (zm_at hl 11 rfl) ?_
                  obtain ⟨r27, h28, er27, hp⟩ := bR_i hp
                  refine r_callSH (n := 2) (As := [zr v1, .int v14]) (rest := []) C (c_L_version l hfl G v1 v14 h25 r27 h28 er27) hR hL mw_683 mw_684 mw_0 mw_685 (by decide +kernel) (by decide) rfl (zm_size hl) rfl (by simp [zr_cat, in_cat, lo_cat, re_cat]) dL_law_338 (st2 := [.int r27]) rfl (fun H locs cells slots hR hL => ?_)
                  refine lv_iload hx hb dL_law_341 (zm_at hl 14 rfl) ?_
                  refine lv_iconst (v := iI 3) hx hb dL_law_343 rfl ?_
                  refine lv_iadd hx hb dL_law_344 ?_
                  refine lv_icmp_ne (tgt := 352) hx hb dL_law_345 (by decide) (fun c29 => ?_) (fun c29 => ?_)
                  · replace hp := ite_n hp c29
                    exact s_L_law_352 hfl eX hz0 hz1 hz2 C hk54 hR hL (zm_sub hl [2, 3, 4, 5, 6, 7, 8, 9, 10, 12, 16] rfl) hp
                  · replace hp := ite_p hp c29
                    refine lv_iconst (v := iI 1) hx hb dL_law_348 rfl ?_
                    refine lv_goto (tgt := 353) hx hb dL_law_349 (by decide) ?_
                    exact s_L_law_353 hfl eX hz0 hz1 hz2 C hk54 hR hL (zm_sub hl [2, 3, 4, 5, 6, 7, 8, 9, 10, 12, 16] rfl) hp
def p_L_law_553 (xs : Nat → Int32) (L : Nat) (k54 : Nat → Nat → Nat → Nat → Nat → Int32 → Int32 → Int32 → Int32 → Int32 → AH → Option (Int32 × AH)) (v1 : Nat) (v2 : Nat) (v3 : Nat) (v4 : Nat) (v5 : Nat) (v6 : Int32) (v7 : Int32) (v8 : Int32) (v9 : Int32) (v10 : Int32) (s0 : Nat) (s1 : Int32) (s2 : Int32) (s3 : Int32) (h : AH) : Option (Int32 × AH) :=
  ck (aK h s0 = 20 ∧ ix s1 (aN h s0)) <|
  nm (uI h s0 s1.toNatClampNeg (s2 + s3)) fun h3 =>
  p_L_law_1640 xs L k54 v1 v2 v3 v4 v5 v6 v7 v8 v9 v10 h3
set_option maxHeartbeats 4000000 in
set_option maxRecDepth 100000 in
theorem s_L_law_553 {p : Program} {l : Launch} {e : Env} {s : State} {m : MethodId} {b L : Nat} {xs : Nat → Int32} {nm : String} {below : List Frame} {meth : Method} {c : Code} {G : GG} {hs : AH}  {h' : AH} (hfl : l.stackTraces = false) (eX : gX G = (b, L, xs)) (hz0 : s.heap.size = gB G) (hz1 : gC G - aZ hs = 600130) (hz2 : aU hs = 0) (C : Cx G hs p s m #[Value.ref b] meth c cL_law 28 RL lw_tbl (some .boolean) nm) {k54 : Nat → Nat → Nat → Nat → Nat → Int32 → Int32 → Int32 → Int32 → Int32 → AH → Option (Int32 × AH)} (hk54 : ∀ {v1 : Nat} {v2 : Nat} {v3 : Nat} {v4 : Nat} {v5 : Nat} {v6 : Int32} {v7 : Int32} {v8 : Int32} {v9 : Int32} {v10 : Int32} {h : AH} {H : Heap} {locs : List Loc} {cells slots : Nat} {ls : Array Slot}, Rp G h H → (∀ q ∈ locs, gB G ≤ q.base) → zm ls 28 [(1, zr v1), (2, zr v2), (3, zr v3), (4, zr v4), (5, zr v5), (6, .int v6), (7, .int v7), (8, .int v8), (9, .int v9), (10, .int v10), (0, .ref b)] → k54 v1 v2 v3 v4 v5 v6 v7 v8 v9 v10 h = some (iI 1, h') → W p l e (gR G hs 16 610) s m #[Value.ref b] below meth c H locs cells slots (lw_Z below #[Value.ref b] s) (F0 m 54 ls [])) {v1 : Nat} {v2 : Nat} {v3 : Nat} {v4 : Nat} {v5 : Nat} {v6 : Int32} {v7 : Int32} {v8 : Int32} {v9 : Int32} {v10 : Int32} {s0 : Nat} {s1 : Int32} {s2 : Int32} {s3 : Int32} {h : AH} {H : Heap} {locs : List Loc} {cells slots : Nat} {ls : Array Slot} (hR : Rp G h H) (hL : ∀ q ∈ locs, gB G ≤ q.base) (hl : zm ls 28 [(1, zr v1), (2, zr v2), (3, zr v3), (4, zr v4), (5, zr v5), (6, .int v6), (7, .int v7), (8, .int v8), (9, .int v9), (10, .int v10), (0, .ref b)]) (hp : p_L_law_553 xs L k54 v1 v2 v3 v4 v5 v6 v7 v8 v9 v10 s0 s1 s2 s3 h = some (iI 1, h')) : W p l e (gR G hs 16 610) s m #[Value.ref b] below meth c H locs cells slots (lw_Z below #[Value.ref b] s) (F0 m 553 ls [.int s3, .int s2, .int s1, zr s0]) := by
  obtain ⟨hx, hb, hml, hown, hts, hT, hK, rs, hlk, hret, hnm⟩ := id C
  have hm : ∀ w ∈ MW, w.before #[Value.ref b] s = true := fun w hw => hts w (hT w hw)
  obtain ⟨hX, hbB⟩ := hK.scr eX
  unfold p_L_law_553 at hp
  refine lv_iadd hx hb dL_law_553 ?_
  obtain ⟨k1, hp⟩ := ck_i hp
  refine r_iast hx hb hK hR hL k1.1 k1.2 dL_law_554 (fun H locs hR hL => ?_)
  obtain ⟨h3, hp, hR⟩ := nm_h hp hR
  refine lv_goto (tgt := 1640) hx hb dL_law_555 (by decide) ?_
  exact s_L_law_1640 hfl eX hz0 hz1 hz2 C hk54 hR hL (zm_sub hl [0, 1, 2, 3, 4, 5, 6, 7, 8, 9, 10] rfl) hp
def p_L_law_536 (xs : Nat → Int32) (L : Nat) (k54 : Nat → Nat → Nat → Nat → Nat → Int32 → Int32 → Int32 → Int32 → Int32 → AH → Option (Int32 × AH)) (v1 : Nat) (v2 : Nat) (v3 : Nat) (v4 : Nat) (v5 : Nat) (v6 : Int32) (v7 : Int32) (v8 : Int32) (v10 : Int32) (v15 : Int32) (v22 : Int32) (s0 : Int32) (h : AH) : Option (Int32 × AH) :=
  ck (aK h v3 = 20 ∧ ix v15 (aN h v3)) <|
  if v22 < 0 then
    p_L_law_553 xs L k54 v1 v2 v3 v4 v5 v6 v7 v8 s0 v10 v3 v15 (aI h v3 v15.toNatClampNeg) (iI 0) h
  else
    p_L_law_553 xs L k54 v1 v2 v3 v4 v5 v6 v7 v8 s0 v10 v3 v15 (aI h v3 v15.toNatClampNeg) (iI 1) h
set_option maxHeartbeats 4000000 in
set_option maxRecDepth 100000 in
theorem s_L_law_536 {p : Program} {l : Launch} {e : Env} {s : State} {m : MethodId} {b L : Nat} {xs : Nat → Int32} {nm : String} {below : List Frame} {meth : Method} {c : Code} {G : GG} {hs : AH}  {h' : AH} (hfl : l.stackTraces = false) (eX : gX G = (b, L, xs)) (hz0 : s.heap.size = gB G) (hz1 : gC G - aZ hs = 600130) (hz2 : aU hs = 0) (C : Cx G hs p s m #[Value.ref b] meth c cL_law 28 RL lw_tbl (some .boolean) nm) {k54 : Nat → Nat → Nat → Nat → Nat → Int32 → Int32 → Int32 → Int32 → Int32 → AH → Option (Int32 × AH)} (hk54 : ∀ {v1 : Nat} {v2 : Nat} {v3 : Nat} {v4 : Nat} {v5 : Nat} {v6 : Int32} {v7 : Int32} {v8 : Int32} {v9 : Int32} {v10 : Int32} {h : AH} {H : Heap} {locs : List Loc} {cells slots : Nat} {ls : Array Slot}, Rp G h H → (∀ q ∈ locs, gB G ≤ q.base) → zm ls 28 [(1, zr v1), (2, zr v2), (3, zr v3), (4, zr v4), (5, zr v5), (6, .int v6), (7, .int v7), (8, .int v8), (9, .int v9), (10, .int v10), (0, .ref b)] → k54 v1 v2 v3 v4 v5 v6 v7 v8 v9 v10 h = some (iI 1, h') → W p l e (gR G hs 16 610) s m #[Value.ref b] below meth c H locs cells slots (lw_Z below #[Value.ref b] s) (F0 m 54 ls [])) {v1 : Nat} {v2 : Nat} {v3 : Nat} {v4 : Nat} {v5 : Nat} {v6 : Int32} {v7 : Int32} {v8 : Int32} {v10 : Int32} {v15 : Int32} {v22 : Int32} {s0 : Int32} {h : AH} {H : Heap} {locs : List Loc} {cells slots : Nat} {ls : Array Slot} (hR : Rp G h H) (hL : ∀ q ∈ locs, gB G ≤ q.base) (hl : zm ls 28 [(1, zr v1), (2, zr v2), (3, zr v3), (4, zr v4), (5, zr v5), (6, .int v6), (7, .int v7), (8, .int v8), (10, .int v10), (15, .int v15), (22, .int v22), (0, .ref b)]) (hp : p_L_law_536 xs L k54 v1 v2 v3 v4 v5 v6 v7 v8 v10 v15 v22 s0 h = some (iI 1, h')) : W p l e (gR G hs 16 610) s m #[Value.ref b] below meth c H locs cells slots (lw_Z below #[Value.ref b] s) (F0 m 536 ls [.int s0]) := by
  obtain ⟨hx, hb, hml, hown, hts, hT, hK, rs, hlk, hret, hnm⟩ := id C
  have hm : ∀ w ∈ MW, w.before #[Value.ref b] s = true := fun w hw => hts w (hT w hw)
  obtain ⟨hX, hbB⟩ := hK.scr eX
  unfold p_L_law_536 at hp
  refine zm_istore (lv' := [(9, .int s0), (1, zr v1), (2, zr v2), (3, zr v3), (4, zr v4), (5, zr v5), (6, .int v6), (7, .int v7), (8, .int v8), (10, .int v10), (15, .int v15), (22, .int v22), (0, .ref b)]) hx hb dL_law_536 hl (by decide) (by repeat (first | exact noL_nil _ | refine noL_i ?_ | refine noL_z ?_ | refine noL_r ?_ | refine noL_c (by decide) ?_)) rfl (fun ls hl => ?_)
  refine z_aload_n hx hb dL_law_538 rfl (zm_at hl 3 rfl) ?_
  refine lv_iload hx hb dL_law_539 (zm_at hl 10 rfl) ?_
  refine lv_dup2_11 hx hb dL_law_541 rfl (zr_cat _) ?_
  obtain ⟨k1, hp⟩ := ck_i hp
  refine r_iald hx hb hK hR k1.1 k1.2 dL_law_542 ?_
  refine lv_iload hx hb dL_law_543 (zm_at hl 11 rfl) ?_
  refine lv_if_lt (tgt := 552) hx hb dL_law_545 (by decide) (fun c3 => ?_) (fun c3 => ?_)
  · replace hp := ite_p hp c3
    refine lv_iconst (v := iI 0) hx hb dL_law_552 rfl ?_
    exact s_L_law_553 hfl eX hz0 hz1 hz2 C hk54 hR hL (zm_sub hl [1, 2, 3, 4, 5, 6, 7, 8, 0, 9, 12] rfl) hp
  · replace hp := ite_n hp c3
    refine lv_iconst (v := iI 1) hx hb dL_law_548 rfl ?_
    refine lv_goto (tgt := 553) hx hb dL_law_549 (by decide) ?_
    exact s_L_law_553 hfl eX hz0 hz1 hz2 C hk54 hR hL (zm_sub hl [1, 2, 3, 4, 5, 6, 7, 8, 0, 9, 12] rfl) hp
def p_L_law_421 (xs : Nat → Int32) (L : Nat) (k54 : Nat → Nat → Nat → Nat → Nat → Int32 → Int32 → Int32 → Int32 → Int32 → AH → Option (Int32 × AH)) (v1 : Nat) (v2 : Nat) (v3 : Nat) (v4 : Nat) (v5 : Nat) (v6 : Int32) (v7 : Int32) (v8 : Int32) (v10 : Int32) (v15 : Int32) (v22 : Int32) (h : AH) : Option (Int32 × AH) :=
  p_L_law_536 xs L k54 v1 v2 v3 v4 v5 v6 v7 v8 v10 v15 v22 (iI 0) h
set_option maxHeartbeats 4000000 in
set_option maxRecDepth 100000 in
theorem s_L_law_421 {p : Program} {l : Launch} {e : Env} {s : State} {m : MethodId} {b L : Nat} {xs : Nat → Int32} {nm : String} {below : List Frame} {meth : Method} {c : Code} {G : GG} {hs : AH}  {h' : AH} (hfl : l.stackTraces = false) (eX : gX G = (b, L, xs)) (hz0 : s.heap.size = gB G) (hz1 : gC G - aZ hs = 600130) (hz2 : aU hs = 0) (C : Cx G hs p s m #[Value.ref b] meth c cL_law 28 RL lw_tbl (some .boolean) nm) {k54 : Nat → Nat → Nat → Nat → Nat → Int32 → Int32 → Int32 → Int32 → Int32 → AH → Option (Int32 × AH)} (hk54 : ∀ {v1 : Nat} {v2 : Nat} {v3 : Nat} {v4 : Nat} {v5 : Nat} {v6 : Int32} {v7 : Int32} {v8 : Int32} {v9 : Int32} {v10 : Int32} {h : AH} {H : Heap} {locs : List Loc} {cells slots : Nat} {ls : Array Slot}, Rp G h H → (∀ q ∈ locs, gB G ≤ q.base) → zm ls 28 [(1, zr v1), (2, zr v2), (3, zr v3), (4, zr v4), (5, zr v5), (6, .int v6), (7, .int v7), (8, .int v8), (9, .int v9), (10, .int v10), (0, .ref b)] → k54 v1 v2 v3 v4 v5 v6 v7 v8 v9 v10 h = some (iI 1, h') → W p l e (gR G hs 16 610) s m #[Value.ref b] below meth c H locs cells slots (lw_Z below #[Value.ref b] s) (F0 m 54 ls [])) {v1 : Nat} {v2 : Nat} {v3 : Nat} {v4 : Nat} {v5 : Nat} {v6 : Int32} {v7 : Int32} {v8 : Int32} {v10 : Int32} {v15 : Int32} {v22 : Int32} {h : AH} {H : Heap} {locs : List Loc} {cells slots : Nat} {ls : Array Slot} (hR : Rp G h H) (hL : ∀ q ∈ locs, gB G ≤ q.base) (hl : zm ls 28 [(1, zr v1), (2, zr v2), (3, zr v3), (4, zr v4), (5, zr v5), (6, .int v6), (7, .int v7), (8, .int v8), (10, .int v10), (15, .int v15), (22, .int v22), (0, .ref b)]) (hp : p_L_law_421 xs L k54 v1 v2 v3 v4 v5 v6 v7 v8 v10 v15 v22 h = some (iI 1, h')) : W p l e (gR G hs 16 610) s m #[Value.ref b] below meth c H locs cells slots (lw_Z below #[Value.ref b] s) (F0 m 421 ls []) := by
  obtain ⟨hx, hb, hml, hown, hts, hT, hK, rs, hlk, hret, hnm⟩ := id C
  have hm : ∀ w ∈ MW, w.before #[Value.ref b] s = true := fun w hw => hts w (hT w hw)
  obtain ⟨hX, hbB⟩ := hK.scr eX
  unfold p_L_law_421 at hp
  refine lv_iconst (v := iI 0) hx hb dL_law_421 rfl ?_
  refine lv_goto (tgt := 536) hx hb dL_law_422 (by decide) ?_
  exact s_L_law_536 hfl eX hz0 hz1 hz2 C hk54 hR hL (zm_sub hl [0, 1, 2, 3, 4, 5, 6, 7, 8, 9, 10, 11] rfl) hp
def p_L_law_535 (xs : Nat → Int32) (L : Nat) (k54 : Nat → Nat → Nat → Nat → Nat → Int32 → Int32 → Int32 → Int32 → Int32 → AH → Option (Int32 × AH)) (v1 : Nat) (v2 : Nat) (v3 : Nat) (v4 : Nat) (v5 : Nat) (v6 : Int32) (v7 : Int32) (v8 : Int32) (v10 : Int32) (v15 : Int32) (v22 : Int32) (h : AH) : Option (Int32 × AH) :=
  p_L_law_536 xs L k54 v1 v2 v3 v4 v5 v6 v7 v8 v10 v15 v22 (iI 0) h
set_option maxHeartbeats 4000000 in
set_option maxRecDepth 100000 in
theorem s_L_law_535 {p : Program} {l : Launch} {e : Env} {s : State} {m : MethodId} {b L : Nat} {xs : Nat → Int32} {nm : String} {below : List Frame} {meth : Method} {c : Code} {G : GG} {hs : AH}  {h' : AH} (hfl : l.stackTraces = false) (eX : gX G = (b, L, xs)) (hz0 : s.heap.size = gB G) (hz1 : gC G - aZ hs = 600130) (hz2 : aU hs = 0) (C : Cx G hs p s m #[Value.ref b] meth c cL_law 28 RL lw_tbl (some .boolean) nm) {k54 : Nat → Nat → Nat → Nat → Nat → Int32 → Int32 → Int32 → Int32 → Int32 → AH → Option (Int32 × AH)} (hk54 : ∀ {v1 : Nat} {v2 : Nat} {v3 : Nat} {v4 : Nat} {v5 : Nat} {v6 : Int32} {v7 : Int32} {v8 : Int32} {v9 : Int32} {v10 : Int32} {h : AH} {H : Heap} {locs : List Loc} {cells slots : Nat} {ls : Array Slot}, Rp G h H → (∀ q ∈ locs, gB G ≤ q.base) → zm ls 28 [(1, zr v1), (2, zr v2), (3, zr v3), (4, zr v4), (5, zr v5), (6, .int v6), (7, .int v7), (8, .int v8), (9, .int v9), (10, .int v10), (0, .ref b)] → k54 v1 v2 v3 v4 v5 v6 v7 v8 v9 v10 h = some (iI 1, h') → W p l e (gR G hs 16 610) s m #[Value.ref b] below meth c H locs cells slots (lw_Z below #[Value.ref b] s) (F0 m 54 ls [])) {v1 : Nat} {v2 : Nat} {v3 : Nat} {v4 : Nat} {v5 : Nat} {v6 : Int32} {v7 : Int32} {v8 : Int32} {v10 : Int32} {v15 : Int32} {v22 : Int32} {h : AH} {H : Heap} {locs : List Loc} {cells slots : Nat} {ls : Array Slot} (hR : Rp G h H) (hL : ∀ q ∈ locs, gB G ≤ q.base) (hl : zm ls 28 [(1, zr v1), (2, zr v2), (3, zr v3), (4, zr v4), (5, zr v5), (6, .int v6), (7, .int v7), (8, .int v8), (10, .int v10), (15, .int v15), (22, .int v22), (0, .ref b)]) (hp : p_L_law_535 xs L k54 v1 v2 v3 v4 v5 v6 v7 v8 v10 v15 v22 h = some (iI 1, h')) : W p l e (gR G hs 16 610) s m #[Value.ref b] below meth c H locs cells slots (lw_Z below #[Value.ref b] s) (F0 m 535 ls []) := by
  obtain ⟨hx, hb, hml, hown, hts, hT, hK, rs, hlk, hret, hnm⟩ := id C
  have hm : ∀ w ∈ MW, w.before #[Value.ref b] s = true := fun w hw => hts w (hT w hw)
  obtain ⟨hX, hbB⟩ := hK.scr eX
  unfold p_L_law_535 at hp
  refine lv_iconst (v := iI 0) hx hb dL_law_535 rfl ?_
  exact s_L_law_536 hfl eX hz0 hz1 hz2 C hk54 hR hL (zm_sub hl [0, 1, 2, 3, 4, 5, 6, 7, 8, 9, 10, 11] rfl) hp
def p_L_law_658 (xs : Nat → Int32) (L : Nat) (k54 : Nat → Nat → Nat → Nat → Nat → Int32 → Int32 → Int32 → Int32 → Int32 → AH → Option (Int32 × AH)) (v1 : Nat) (v2 : Nat) (v3 : Nat) (v4 : Nat) (v5 : Nat) (v6 : Int32) (v7 : Int32) (v8 : Int32) (v10 : Int32) (s0 : Int32) (h : AH) : Option (Int32 × AH) :=
  p_L_law_1640 xs L k54 v1 v2 v3 v4 v5 v6 v7 v8 s0 v10 h
set_option maxHeartbeats 4000000 in
set_option maxRecDepth 100000 in
theorem s_L_law_658 {p : Program} {l : Launch} {e : Env} {s : State} {m : MethodId} {b L : Nat} {xs : Nat → Int32} {nm : String} {below : List Frame} {meth : Method} {c : Code} {G : GG} {hs : AH}  {h' : AH} (hfl : l.stackTraces = false) (eX : gX G = (b, L, xs)) (hz0 : s.heap.size = gB G) (hz1 : gC G - aZ hs = 600130) (hz2 : aU hs = 0) (C : Cx G hs p s m #[Value.ref b] meth c cL_law 28 RL lw_tbl (some .boolean) nm) {k54 : Nat → Nat → Nat → Nat → Nat → Int32 → Int32 → Int32 → Int32 → Int32 → AH → Option (Int32 × AH)} (hk54 : ∀ {v1 : Nat} {v2 : Nat} {v3 : Nat} {v4 : Nat} {v5 : Nat} {v6 : Int32} {v7 : Int32} {v8 : Int32} {v9 : Int32} {v10 : Int32} {h : AH} {H : Heap} {locs : List Loc} {cells slots : Nat} {ls : Array Slot}, Rp G h H → (∀ q ∈ locs, gB G ≤ q.base) → zm ls 28 [(1, zr v1), (2, zr v2), (3, zr v3), (4, zr v4), (5, zr v5), (6, .int v6), (7, .int v7), (8, .int v8), (9, .int v9), (10, .int v10), (0, .ref b)] → k54 v1 v2 v3 v4 v5 v6 v7 v8 v9 v10 h = some (iI 1, h') → W p l e (gR G hs 16 610) s m #[Value.ref b] below meth c H locs cells slots (lw_Z below #[Value.ref b] s) (F0 m 54 ls [])) {v1 : Nat} {v2 : Nat} {v3 : Nat} {v4 : Nat} {v5 : Nat} {v6 : Int32} {v7 : Int32} {v8 : Int32} {v10 : Int32} {s0 : Int32} {h : AH} {H : Heap} {locs : List Loc} {cells slots : Nat} {ls : Array Slot} (hR : Rp G h H) (hL : ∀ q ∈ locs, gB G ≤ q.base) (hl : zm ls 28 [(1, zr v1), (2, zr v2), (3, zr v3), (4, zr v4), (5, zr v5), (6, .int v6), (7, .int v7), (8, .int v8), (10, .int v10), (0, .ref b)]) (hp : p_L_law_658 xs L k54 v1 v2 v3 v4 v5 v6 v7 v8 v10 s0 h = some (iI 1, h')) : W p l e (gR G hs 16 610) s m #[Value.ref b] below meth c H locs cells slots (lw_Z below #[Value.ref b] s) (F0 m 658 ls [.int s0]) := by
  obtain ⟨hx, hb, hml, hown, hts, hT, hK, rs, hlk, hret, hnm⟩ := id C
  have hm : ∀ w ∈ MW, w.before #[Value.ref b] s = true := fun w hw => hts w (hT w hw)
  obtain ⟨hX, hbB⟩ := hK.scr eX
  unfold p_L_law_658 at hp
  refine zm_istore (lv' := [(9, .int s0), (1, zr v1), (2, zr v2), (3, zr v3), (4, zr v4), (5, zr v5), (6, .int v6), (7, .int v7), (8, .int v8), (10, .int v10), (0, .ref b)]) hx hb dL_law_658 hl (by decide) (by repeat (first | exact noL_nil _ | refine noL_i ?_ | refine noL_z ?_ | refine noL_r ?_ | refine noL_c (by decide) ?_)) rfl (fun ls hl => ?_)
  refine lv_goto (tgt := 1640) hx hb dL_law_660 (by decide) ?_
  exact s_L_law_1640 hfl eX hz0 hz1 hz2 C hk54 hR hL (zm_sub hl [1, 2, 3, 4, 5, 6, 7, 8, 0, 9, 10] rfl) hp
def p_L_law_657 (xs : Nat → Int32) (L : Nat) (k54 : Nat → Nat → Nat → Nat → Nat → Int32 → Int32 → Int32 → Int32 → Int32 → AH → Option (Int32 × AH)) (v1 : Nat) (v2 : Nat) (v3 : Nat) (v4 : Nat) (v5 : Nat) (v6 : Int32) (v7 : Int32) (v8 : Int32) (v10 : Int32) (h : AH) : Option (Int32 × AH) :=
  p_L_law_658 xs L k54 v1 v2 v3 v4 v5 v6 v7 v8 v10 (iI 0) h
set_option maxHeartbeats 4000000 in
set_option maxRecDepth 100000 in
theorem s_L_law_657 {p : Program} {l : Launch} {e : Env} {s : State} {m : MethodId} {b L : Nat} {xs : Nat → Int32} {nm : String} {below : List Frame} {meth : Method} {c : Code} {G : GG} {hs : AH}  {h' : AH} (hfl : l.stackTraces = false) (eX : gX G = (b, L, xs)) (hz0 : s.heap.size = gB G) (hz1 : gC G - aZ hs = 600130) (hz2 : aU hs = 0) (C : Cx G hs p s m #[Value.ref b] meth c cL_law 28 RL lw_tbl (some .boolean) nm) {k54 : Nat → Nat → Nat → Nat → Nat → Int32 → Int32 → Int32 → Int32 → Int32 → AH → Option (Int32 × AH)} (hk54 : ∀ {v1 : Nat} {v2 : Nat} {v3 : Nat} {v4 : Nat} {v5 : Nat} {v6 : Int32} {v7 : Int32} {v8 : Int32} {v9 : Int32} {v10 : Int32} {h : AH} {H : Heap} {locs : List Loc} {cells slots : Nat} {ls : Array Slot}, Rp G h H → (∀ q ∈ locs, gB G ≤ q.base) → zm ls 28 [(1, zr v1), (2, zr v2), (3, zr v3), (4, zr v4), (5, zr v5), (6, .int v6), (7, .int v7), (8, .int v8), (9, .int v9), (10, .int v10), (0, .ref b)] → k54 v1 v2 v3 v4 v5 v6 v7 v8 v9 v10 h = some (iI 1, h') → W p l e (gR G hs 16 610) s m #[Value.ref b] below meth c H locs cells slots (lw_Z below #[Value.ref b] s) (F0 m 54 ls [])) {v1 : Nat} {v2 : Nat} {v3 : Nat} {v4 : Nat} {v5 : Nat} {v6 : Int32} {v7 : Int32} {v8 : Int32} {v10 : Int32} {h : AH} {H : Heap} {locs : List Loc} {cells slots : Nat} {ls : Array Slot} (hR : Rp G h H) (hL : ∀ q ∈ locs, gB G ≤ q.base) (hl : zm ls 28 [(1, zr v1), (2, zr v2), (3, zr v3), (4, zr v4), (5, zr v5), (6, .int v6), (7, .int v7), (8, .int v8), (10, .int v10), (0, .ref b)]) (hp : p_L_law_657 xs L k54 v1 v2 v3 v4 v5 v6 v7 v8 v10 h = some (iI 1, h')) : W p l e (gR G hs 16 610) s m #[Value.ref b] below meth c H locs cells slots (lw_Z below #[Value.ref b] s) (F0 m 657 ls []) := by
  obtain ⟨hx, hb, hml, hown, hts, hT, hK, rs, hlk, hret, hnm⟩ := id C
  have hm : ∀ w ∈ MW, w.before #[Value.ref b] s = true := fun w hw => hts w (hT w hw)
  obtain ⟨hX, hbB⟩ := hK.scr eX
  unfold p_L_law_657 at hp
  refine lv_iconst (v := iI 0) hx hb dL_law_657 rfl ?_
  exact s_L_law_658 hfl eX hz0 hz1 hz2 C hk54 hR hL (zm_sub hl [0, 1, 2, 3, 4, 5, 6, 7, 8, 9] rfl) hp
def p_L_law_773 (xs : Nat → Int32) (L : Nat) (k54 : Nat → Nat → Nat → Nat → Nat → Int32 → Int32 → Int32 → Int32 → Int32 → AH → Option (Int32 × AH)) (v1 : Nat) (v2 : Nat) (v3 : Nat) (v4 : Nat) (v5 : Nat) (v6 : Int32) (v7 : Int32) (v8 : Int32) (v9 : Int32) (v10 : Int32) (s0 : Nat) (s1 : Int32) (s2 : Int32) (s3 : Int32) (h : AH) : Option (Int32 × AH) :=
  ck (aK h s0 = 20 ∧ ix s1 (aN h s0)) <|
  nm (uI h s0 s1.toNatClampNeg (s2 - s3)) fun h3 =>
  p_L_law_1640 xs L k54 v1 v2 v3 v4 v5 v6 v7 v8 v9 v10 h3
set_option maxHeartbeats 4000000 in
set_option maxRecDepth 100000 in
theorem s_L_law_773 {p : Program} {l : Launch} {e : Env} {s : State} {m : MethodId} {b L : Nat} {xs : Nat → Int32} {nm : String} {below : List Frame} {meth : Method} {c : Code} {G : GG} {hs : AH}  {h' : AH} (hfl : l.stackTraces = false) (eX : gX G = (b, L, xs)) (hz0 : s.heap.size = gB G) (hz1 : gC G - aZ hs = 600130) (hz2 : aU hs = 0) (C : Cx G hs p s m #[Value.ref b] meth c cL_law 28 RL lw_tbl (some .boolean) nm) {k54 : Nat → Nat → Nat → Nat → Nat → Int32 → Int32 → Int32 → Int32 → Int32 → AH → Option (Int32 × AH)} (hk54 : ∀ {v1 : Nat} {v2 : Nat} {v3 : Nat} {v4 : Nat} {v5 : Nat} {v6 : Int32} {v7 : Int32} {v8 : Int32} {v9 : Int32} {v10 : Int32} {h : AH} {H : Heap} {locs : List Loc} {cells slots : Nat} {ls : Array Slot}, Rp G h H → (∀ q ∈ locs, gB G ≤ q.base) → zm ls 28 [(1, zr v1), (2, zr v2), (3, zr v3), (4, zr v4), (5, zr v5), (6, .int v6), (7, .int v7), (8, .int v8), (9, .int v9), (10, .int v10), (0, .ref b)] → k54 v1 v2 v3 v4 v5 v6 v7 v8 v9 v10 h = some (iI 1, h') → W p l e (gR G hs 16 610) s m #[Value.ref b] below meth c H locs cells slots (lw_Z below #[Value.ref b] s) (F0 m 54 ls [])) {v1 : Nat} {v2 : Nat} {v3 : Nat} {v4 : Nat} {v5 : Nat} {v6 : Int32} {v7 : Int32} {v8 : Int32} {v9 : Int32} {v10 : Int32} {s0 : Nat} {s1 : Int32} {s2 : Int32} {s3 : Int32} {h : AH} {H : Heap} {locs : List Loc} {cells slots : Nat} {ls : Array Slot} (hR : Rp G h H) (hL : ∀ q ∈ locs, gB G ≤ q.base) (hl : zm ls 28 [(1, zr v1), (2, zr v2), (3, zr v3), (4, zr v4), (5, zr v5), (6, .int v6), (7, .int v7), (8, .int v8), (9, .int v9), (10, .int v10), (0, .ref b)]) (hp : p_L_law_773 xs L k54 v1 v2 v3 v4 v5 v6 v7 v8 v9 v10 s0 s1 s2 s3 h = some (iI 1, h')) : W p l e (gR G hs 16 610) s m #[Value.ref b] below meth c H locs cells slots (lw_Z below #[Value.ref b] s) (F0 m 773 ls [.int s3, .int s2, .int s1, zr s0]) := by
  obtain ⟨hx, hb, hml, hown, hts, hT, hK, rs, hlk, hret, hnm⟩ := id C
  have hm : ∀ w ∈ MW, w.before #[Value.ref b] s = true := fun w hw => hts w (hT w hw)
  obtain ⟨hX, hbB⟩ := hK.scr eX
  unfold p_L_law_773 at hp
  refine lv_isub hx hb dL_law_773 ?_
  obtain ⟨k1, hp⟩ := ck_i hp
  refine r_iast hx hb hK hR hL k1.1 k1.2 dL_law_774 (fun H locs hR hL => ?_)
  obtain ⟨h3, hp, hR⟩ := nm_h hp hR
  refine lv_goto (tgt := 1640) hx hb dL_law_775 (by decide) ?_
  exact s_L_law_1640 hfl eX hz0 hz1 hz2 C hk54 hR hL (zm_sub hl [0, 1, 2, 3, 4, 5, 6, 7, 8, 9, 10] rfl) hp
def p_L_law_772 (xs : Nat → Int32) (L : Nat) (k54 : Nat → Nat → Nat → Nat → Nat → Int32 → Int32 → Int32 → Int32 → Int32 → AH → Option (Int32 × AH)) (v1 : Nat) (v2 : Nat) (v3 : Nat) (v4 : Nat) (v5 : Nat) (v6 : Int32) (v7 : Int32) (v8 : Int32) (v9 : Int32) (v10 : Int32) (s0 : Nat) (s1 : Int32) (s2 : Int32) (h : AH) : Option (Int32 × AH) :=
  p_L_law_773 xs L k54 v1 v2 v3 v4 v5 v6 v7 v8 v9 v10 s0 s1 s2 (iI 0) h
set_option maxHeartbeats 4000000 in
set_option maxRecDepth 100000 in
theorem s_L_law_772 {p : Program} {l : Launch} {e : Env} {s : State} {m : MethodId} {b L : Nat} {xs : Nat → Int32} {nm : String} {below : List Frame} {meth : Method} {c : Code} {G : GG} {hs : AH}  {h' : AH} (hfl : l.stackTraces = false) (eX : gX G = (b, L, xs)) (hz0 : s.heap.size = gB G) (hz1 : gC G - aZ hs = 600130) (hz2 : aU hs = 0) (C : Cx G hs p s m #[Value.ref b] meth c cL_law 28 RL lw_tbl (some .boolean) nm) {k54 : Nat → Nat → Nat → Nat → Nat → Int32 → Int32 → Int32 → Int32 → Int32 → AH → Option (Int32 × AH)} (hk54 : ∀ {v1 : Nat} {v2 : Nat} {v3 : Nat} {v4 : Nat} {v5 : Nat} {v6 : Int32} {v7 : Int32} {v8 : Int32} {v9 : Int32} {v10 : Int32} {h : AH} {H : Heap} {locs : List Loc} {cells slots : Nat} {ls : Array Slot}, Rp G h H → (∀ q ∈ locs, gB G ≤ q.base) → zm ls 28 [(1, zr v1), (2, zr v2), (3, zr v3), (4, zr v4), (5, zr v5), (6, .int v6), (7, .int v7), (8, .int v8), (9, .int v9), (10, .int v10), (0, .ref b)] → k54 v1 v2 v3 v4 v5 v6 v7 v8 v9 v10 h = some (iI 1, h') → W p l e (gR G hs 16 610) s m #[Value.ref b] below meth c H locs cells slots (lw_Z below #[Value.ref b] s) (F0 m 54 ls [])) {v1 : Nat} {v2 : Nat} {v3 : Nat} {v4 : Nat} {v5 : Nat} {v6 : Int32} {v7 : Int32} {v8 : Int32} {v9 : Int32} {v10 : Int32} {s0 : Nat} {s1 : Int32} {s2 : Int32} {h : AH} {H : Heap} {locs : List Loc} {cells slots : Nat} {ls : Array Slot} (hR : Rp G h H) (hL : ∀ q ∈ locs, gB G ≤ q.base) (hl : zm ls 28 [(1, zr v1), (2, zr v2), (3, zr v3), (4, zr v4), (5, zr v5), (6, .int v6), (7, .int v7), (8, .int v8), (9, .int v9), (10, .int v10), (0, .ref b)]) (hp : p_L_law_772 xs L k54 v1 v2 v3 v4 v5 v6 v7 v8 v9 v10 s0 s1 s2 h = some (iI 1, h')) : W p l e (gR G hs 16 610) s m #[Value.ref b] below meth c H locs cells slots (lw_Z below #[Value.ref b] s) (F0 m 772 ls [.int s2, .int s1, zr s0]) := by
  obtain ⟨hx, hb, hml, hown, hts, hT, hK, rs, hlk, hret, hnm⟩ := id C
  have hm : ∀ w ∈ MW, w.before #[Value.ref b] s = true := fun w hw => hts w (hT w hw)
  obtain ⟨hX, hbB⟩ := hK.scr eX
  unfold p_L_law_772 at hp
  refine lv_iconst (v := iI 0) hx hb dL_law_772 rfl ?_
  exact s_L_law_773 hfl eX hz0 hz1 hz2 C hk54 hR hL (zm_sub hl [0, 1, 2, 3, 4, 5, 6, 7, 8, 9, 10] rfl) hp
def p_L_law_749 (xs : Nat → Int32) (L : Nat) (k54 : Nat → Nat → Nat → Nat → Nat → Int32 → Int32 → Int32 → Int32 → Int32 → AH → Option (Int32 × AH)) (v1 : Nat) (v2 : Nat) (v3 : Nat) (v4 : Nat) (v5 : Nat) (v6 : Int32) (v7 : Int32) (v8 : Int32) (v10 : Int32) (v15 : Int32) (v16 : Int32) (v21 : Int32) (s0 : Int32) (h : AH) : Option (Int32 × AH) :=
  ck (aK h v3 = 20 ∧ ix v15 (aN h v3)) <|
  if v21 < 0 then
    p_L_law_772 xs L k54 v1 v2 v3 v4 v5 v6 v7 v8 s0 v10 v3 v15 (aI h v3 v15.toNatClampNeg) h
  else
    if (v16 - v16 / (iI 2) * (iI 2)) = 0 then
      p_L_law_773 xs L k54 v1 v2 v3 v4 v5 v6 v7 v8 s0 v10 v3 v15 (aI h v3 v15.toNatClampNeg) (iI 1) h
    else
      p_L_law_772 xs L k54 v1 v2 v3 v4 v5 v6 v7 v8 s0 v10 v3 v15 (aI h v3 v15.toNatClampNeg) h
set_option maxHeartbeats 4000000 in
set_option maxRecDepth 100000 in
theorem s_L_law_749 {p : Program} {l : Launch} {e : Env} {s : State} {m : MethodId} {b L : Nat} {xs : Nat → Int32} {nm : String} {below : List Frame} {meth : Method} {c : Code} {G : GG} {hs : AH}  {h' : AH} (hfl : l.stackTraces = false) (eX : gX G = (b, L, xs)) (hz0 : s.heap.size = gB G) (hz1 : gC G - aZ hs = 600130) (hz2 : aU hs = 0) (C : Cx G hs p s m #[Value.ref b] meth c cL_law 28 RL lw_tbl (some .boolean) nm) {k54 : Nat → Nat → Nat → Nat → Nat → Int32 → Int32 → Int32 → Int32 → Int32 → AH → Option (Int32 × AH)} (hk54 : ∀ {v1 : Nat} {v2 : Nat} {v3 : Nat} {v4 : Nat} {v5 : Nat} {v6 : Int32} {v7 : Int32} {v8 : Int32} {v9 : Int32} {v10 : Int32} {h : AH} {H : Heap} {locs : List Loc} {cells slots : Nat} {ls : Array Slot}, Rp G h H → (∀ q ∈ locs, gB G ≤ q.base) → zm ls 28 [(1, zr v1), (2, zr v2), (3, zr v3), (4, zr v4), (5, zr v5), (6, .int v6), (7, .int v7), (8, .int v8), (9, .int v9), (10, .int v10), (0, .ref b)] → k54 v1 v2 v3 v4 v5 v6 v7 v8 v9 v10 h = some (iI 1, h') → W p l e (gR G hs 16 610) s m #[Value.ref b] below meth c H locs cells slots (lw_Z below #[Value.ref b] s) (F0 m 54 ls [])) {v1 : Nat} {v2 : Nat} {v3 : Nat} {v4 : Nat} {v5 : Nat} {v6 : Int32} {v7 : Int32} {v8 : Int32} {v10 : Int32} {v15 : Int32} {v16 : Int32} {v21 : Int32} {s0 : Int32} {h : AH} {H : Heap} {locs : List Loc} {cells slots : Nat} {ls : Array Slot} (hR : Rp G h H) (hL : ∀ q ∈ locs, gB G ≤ q.base) (hl : zm ls 28 [(1, zr v1), (2, zr v2), (3, zr v3), (4, zr v4), (5, zr v5), (6, .int v6), (7, .int v7), (8, .int v8), (10, .int v10), (15, .int v15), (16, .int v16), (21, .int v21), (0, .ref b)]) (hp : p_L_law_749 xs L k54 v1 v2 v3 v4 v5 v6 v7 v8 v10 v15 v16 v21 s0 h = some (iI 1, h')) : W p l e (gR G hs 16 610) s m #[Value.ref b] below meth c H locs cells slots (lw_Z below #[Value.ref b] s) (F0 m 749 ls [.int s0]) := by
  obtain ⟨hx, hb, hml, hown, hts, hT, hK, rs, hlk, hret, hnm⟩ := id C
  have hm : ∀ w ∈ MW, w.before #[Value.ref b] s = true := fun w hw => hts w (hT w hw)
  obtain ⟨hX, hbB⟩ := hK.scr eX
  unfold p_L_law_749 at hp
  refine zm_istore (lv' := [(9, .int s0), (1, zr v1), (2, zr v2), (3, zr v3), (4, zr v4), (5, zr v5), (6, .int v6), (7, .int v7), (8, .int v8), (10, .int v10), (15, .int v15), (16, .int v16), (21, .int v21), (0, .ref b)]) hx hb dL_law_749 hl (by decide) (by repeat (first | exact noL_nil _ | refine noL_i ?_ | refine noL_z ?_ | refine noL_r ?_ | refine noL_c (by decide) ?_)) rfl (fun ls hl => ?_)
  refine z_aload_n hx hb dL_law_751 rfl (zm_at hl 3 rfl) ?_
  refine lv_iload hx hb dL_law_752 (zm_at hl 10 rfl) ?_
  refine lv_dup2_11 hx hb dL_law_754 rfl (zr_cat _) ?_
  obtain ⟨k1, hp⟩ := ck_i hp
  refine r_iald hx hb hK hR k1.1 k1.2 dL_law_755 ?_
  refine lv_iload hx hb dL_law_756 (zm_at hl 12 rfl) ?_
  refine lv_if_lt (tgt := 772) hx hb dL_law_758 (by decide) (fun c3 => ?_) (fun c3 => ?_)
  · replace hp := ite_p hp c3
    exact s_L_law_772 hfl eX hz0 hz1 hz2 C hk54 hR hL (zm_sub hl [1, 2, 3, 4, 5, 6, 7, 8, 0, 9, 13] rfl) hp
  · replace hp := ite_n hp c3
    refine lv_iload hx hb dL_law_761 (zm_at hl 11 rfl) ?_
    refine lv_iconst (v := iI 2) hx hb dL_law_763 rfl ?_
    refine lv_irem hx hb dL_law_764 (by decide +kernel) ?_
    refine lv_if_ne (tgt := 772) hx hb dL_law_765 (by decide) (fun c4 => ?_) (fun c4 => ?_)
    · replace hp := ite_n hp c4
      exact s_L_law_772 hfl eX hz0 hz1 hz2 C hk54 hR hL (zm_sub hl [1, 2, 3, 4, 5, 6, 7, 8, 0, 9, 13] rfl) hp
    · replace hp := ite_p hp c4
      refine lv_iconst (v := iI 1) hx hb dL_law_768 rfl ?_
      refine lv_goto (tgt := 773) hx hb dL_law_769 (by decide) ?_
      exact s_L_law_773 hfl eX hz0 hz1 hz2 C hk54 hR hL (zm_sub hl [1, 2, 3, 4, 5, 6, 7, 8, 0, 9, 13] rfl) hp
def p_L_law_744 (xs : Nat → Int32) (L : Nat) (k54 : Nat → Nat → Nat → Nat → Nat → Int32 → Int32 → Int32 → Int32 → Int32 → AH → Option (Int32 × AH)) (v1 : Nat) (v2 : Nat) (v3 : Nat) (v4 : Nat) (v5 : Nat) (v6 : Int32) (v7 : Int32) (v8 : Int32) (v10 : Int32) (v15 : Int32) (v16 : Int32) (v21 : Int32) (h : AH) : Option (Int32 × AH) :=
  p_L_law_749 xs L k54 v1 v2 v3 v4 v5 v6 v7 v8 v10 v15 v16 v21 (iI 1) h
set_option maxHeartbeats 4000000 in
set_option maxRecDepth 100000 in
theorem s_L_law_744 {p : Program} {l : Launch} {e : Env} {s : State} {m : MethodId} {b L : Nat} {xs : Nat → Int32} {nm : String} {below : List Frame} {meth : Method} {c : Code} {G : GG} {hs : AH}  {h' : AH} (hfl : l.stackTraces = false) (eX : gX G = (b, L, xs)) (hz0 : s.heap.size = gB G) (hz1 : gC G - aZ hs = 600130) (hz2 : aU hs = 0) (C : Cx G hs p s m #[Value.ref b] meth c cL_law 28 RL lw_tbl (some .boolean) nm) {k54 : Nat → Nat → Nat → Nat → Nat → Int32 → Int32 → Int32 → Int32 → Int32 → AH → Option (Int32 × AH)} (hk54 : ∀ {v1 : Nat} {v2 : Nat} {v3 : Nat} {v4 : Nat} {v5 : Nat} {v6 : Int32} {v7 : Int32} {v8 : Int32} {v9 : Int32} {v10 : Int32} {h : AH} {H : Heap} {locs : List Loc} {cells slots : Nat} {ls : Array Slot}, Rp G h H → (∀ q ∈ locs, gB G ≤ q.base) → zm ls 28 [(1, zr v1), (2, zr v2), (3, zr v3), (4, zr v4), (5, zr v5), (6, .int v6), (7, .int v7), (8, .int v8), (9, .int v9), (10, .int v10), (0, .ref b)] → k54 v1 v2 v3 v4 v5 v6 v7 v8 v9 v10 h = some (iI 1, h') → W p l e (gR G hs 16 610) s m #[Value.ref b] below meth c H locs cells slots (lw_Z below #[Value.ref b] s) (F0 m 54 ls [])) {v1 : Nat} {v2 : Nat} {v3 : Nat} {v4 : Nat} {v5 : Nat} {v6 : Int32} {v7 : Int32} {v8 : Int32} {v10 : Int32} {v15 : Int32} {v16 : Int32} {v21 : Int32} {h : AH} {H : Heap} {locs : List Loc} {cells slots : Nat} {ls : Array Slot} (hR : Rp G h H) (hL : ∀ q ∈ locs, gB G ≤ q.base) (hl : zm ls 28 [(1, zr v1), (2, zr v2), (3, zr v3), (4, zr v4), (5, zr v5), (6, .int v6), (7, .int v7), (8, .int v8), (10, .int v10), (15, .int v15), (16, .int v16), (21, .int v21), (0, .ref b)]) (hp : p_L_law_744 xs L k54 v1 v2 v3 v4 v5 v6 v7 v8 v10 v15 v16 v21 h = some (iI 1, h')) : W p l e (gR G hs 16 610) s m #[Value.ref b] below meth c H locs cells slots (lw_Z below #[Value.ref b] s) (F0 m 744 ls []) := by
  obtain ⟨hx, hb, hml, hown, hts, hT, hK, rs, hlk, hret, hnm⟩ := id C
  have hm : ∀ w ∈ MW, w.before #[Value.ref b] s = true := fun w hw => hts w (hT w hw)
  obtain ⟨hX, hbB⟩ := hK.scr eX
  unfold p_L_law_744 at hp
  refine lv_iconst (v := iI 1) hx hb dL_law_744 rfl ?_
  refine lv_goto (tgt := 749) hx hb dL_law_745 (by decide) ?_
  exact s_L_law_749 hfl eX hz0 hz1 hz2 C hk54 hR hL (zm_sub hl [0, 1, 2, 3, 4, 5, 6, 7, 8, 9, 10, 11, 12] rfl) hp
def p_L_law_748 (xs : Nat → Int32) (L : Nat) (k54 : Nat → Nat → Nat → Nat → Nat → Int32 → Int32 → Int32 → Int32 → Int32 → AH → Option (Int32 × AH)) (v1 : Nat) (v2 : Nat) (v3 : Nat) (v4 : Nat) (v5 : Nat) (v6 : Int32) (v7 : Int32) (v8 : Int32) (v10 : Int32) (v15 : Int32) (v16 : Int32) (v21 : Int32) (h : AH) : Option (Int32 × AH) :=
  p_L_law_749 xs L k54 v1 v2 v3 v4 v5 v6 v7 v8 v10 v15 v16 v21 (iI 0) h
set_option maxHeartbeats 4000000 in
set_option maxRecDepth 100000 in
theorem s_L_law_748 {p : Program} {l : Launch} {e : Env} {s : State} {m : MethodId} {b L : Nat} {xs : Nat → Int32} {nm : String} {below : List Frame} {meth : Method} {c : Code} {G : GG} {hs : AH}  {h' : AH} (hfl : l.stackTraces = false) (eX : gX G = (b, L, xs)) (hz0 : s.heap.size = gB G) (hz1 : gC G - aZ hs = 600130) (hz2 : aU hs = 0) (C : Cx G hs p s m #[Value.ref b] meth c cL_law 28 RL lw_tbl (some .boolean) nm) {k54 : Nat → Nat → Nat → Nat → Nat → Int32 → Int32 → Int32 → Int32 → Int32 → AH → Option (Int32 × AH)} (hk54 : ∀ {v1 : Nat} {v2 : Nat} {v3 : Nat} {v4 : Nat} {v5 : Nat} {v6 : Int32} {v7 : Int32} {v8 : Int32} {v9 : Int32} {v10 : Int32} {h : AH} {H : Heap} {locs : List Loc} {cells slots : Nat} {ls : Array Slot}, Rp G h H → (∀ q ∈ locs, gB G ≤ q.base) → zm ls 28 [(1, zr v1), (2, zr v2), (3, zr v3), (4, zr v4), (5, zr v5), (6, .int v6), (7, .int v7), (8, .int v8), (9, .int v9), (10, .int v10), (0, .ref b)] → k54 v1 v2 v3 v4 v5 v6 v7 v8 v9 v10 h = some (iI 1, h') → W p l e (gR G hs 16 610) s m #[Value.ref b] below meth c H locs cells slots (lw_Z below #[Value.ref b] s) (F0 m 54 ls [])) {v1 : Nat} {v2 : Nat} {v3 : Nat} {v4 : Nat} {v5 : Nat} {v6 : Int32} {v7 : Int32} {v8 : Int32} {v10 : Int32} {v15 : Int32} {v16 : Int32} {v21 : Int32} {h : AH} {H : Heap} {locs : List Loc} {cells slots : Nat} {ls : Array Slot} (hR : Rp G h H) (hL : ∀ q ∈ locs, gB G ≤ q.base) (hl : zm ls 28 [(1, zr v1), (2, zr v2), (3, zr v3), (4, zr v4), (5, zr v5), (6, .int v6), (7, .int v7), (8, .int v8), (10, .int v10), (15, .int v15), (16, .int v16), (21, .int v21), (0, .ref b)]) (hp : p_L_law_748 xs L k54 v1 v2 v3 v4 v5 v6 v7 v8 v10 v15 v16 v21 h = some (iI 1, h')) : W p l e (gR G hs 16 610) s m #[Value.ref b] below meth c H locs cells slots (lw_Z below #[Value.ref b] s) (F0 m 748 ls []) := by
  obtain ⟨hx, hb, hml, hown, hts, hT, hK, rs, hlk, hret, hnm⟩ := id C
  have hm : ∀ w ∈ MW, w.before #[Value.ref b] s = true := fun w hw => hts w (hT w hw)
  obtain ⟨hX, hbB⟩ := hK.scr eX
  unfold p_L_law_748 at hp
  refine lv_iconst (v := iI 0) hx hb dL_law_748 rfl ?_
  exact s_L_law_749 hfl eX hz0 hz1 hz2 C hk54 hR hL (zm_sub hl [0, 1, 2, 3, 4, 5, 6, 7, 8, 9, 10, 11, 12] rfl) hp
def p_L_law_1059 (xs : Nat → Int32) (L : Nat) (k54 : Nat → Nat → Nat → Nat → Nat → Int32 → Int32 → Int32 → Int32 → Int32 → AH → Option (Int32 × AH)) (v1 : Nat) (v2 : Nat) (v3 : Nat) (v4 : Nat) (v5 : Nat) (v6 : Int32) (v7 : Int32) (v8 : Int32) (v9 : Int32) (v10 : Int32) (h : AH) : Option (Int32 × AH) :=
  p_L_law_1640 xs L k54 v1 v2 v3 v4 v5 v6 v7 v8 v9 v10 h
set_option maxHeartbeats 4000000 in
set_option maxRecDepth 100000 in
theorem s_L_law_1059 {p : Program} {l : Launch} {e : Env} {s : State} {m : MethodId} {b L : Nat} {xs : Nat → Int32} {nm : String} {below : List Frame} {meth : Method} {c : Code} {G : GG} {hs : AH}  {h' : AH} (hfl : l.stackTraces = false) (eX : gX G = (b, L, xs)) (hz0 : s.heap.size = gB G) (hz1 : gC G - aZ hs = 600130) (hz2 : aU hs = 0) (C : Cx G hs p s m #[Value.ref b] meth c cL_law 28 RL lw_tbl (some .boolean) nm) {k54 : Nat → Nat → Nat → Nat → Nat → Int32 → Int32 → Int32 → Int32 → Int32 → AH → Option (Int32 × AH)} (hk54 : ∀ {v1 : Nat} {v2 : Nat} {v3 : Nat} {v4 : Nat} {v5 : Nat} {v6 : Int32} {v7 : Int32} {v8 : Int32} {v9 : Int32} {v10 : Int32} {h : AH} {H : Heap} {locs : List Loc} {cells slots : Nat} {ls : Array Slot}, Rp G h H → (∀ q ∈ locs, gB G ≤ q.base) → zm ls 28 [(1, zr v1), (2, zr v2), (3, zr v3), (4, zr v4), (5, zr v5), (6, .int v6), (7, .int v7), (8, .int v8), (9, .int v9), (10, .int v10), (0, .ref b)] → k54 v1 v2 v3 v4 v5 v6 v7 v8 v9 v10 h = some (iI 1, h') → W p l e (gR G hs 16 610) s m #[Value.ref b] below meth c H locs cells slots (lw_Z below #[Value.ref b] s) (F0 m 54 ls [])) {v1 : Nat} {v2 : Nat} {v3 : Nat} {v4 : Nat} {v5 : Nat} {v6 : Int32} {v7 : Int32} {v8 : Int32} {v9 : Int32} {v10 : Int32} {h : AH} {H : Heap} {locs : List Loc} {cells slots : Nat} {ls : Array Slot} (hR : Rp G h H) (hL : ∀ q ∈ locs, gB G ≤ q.base) (hl : zm ls 28 [(1, zr v1), (2, zr v2), (3, zr v3), (4, zr v4), (5, zr v5), (6, .int v6), (7, .int v7), (8, .int v8), (9, .int v9), (10, .int v10), (0, .ref b)]) (hp : p_L_law_1059 xs L k54 v1 v2 v3 v4 v5 v6 v7 v8 v9 v10 h = some (iI 1, h')) : W p l e (gR G hs 16 610) s m #[Value.ref b] below meth c H locs cells slots (lw_Z below #[Value.ref b] s) (F0 m 1059 ls []) := by
  obtain ⟨hx, hb, hml, hown, hts, hT, hK, rs, hlk, hret, hnm⟩ := id C
  have hm : ∀ w ∈ MW, w.before #[Value.ref b] s = true := fun w hw => hts w (hT w hw)
  obtain ⟨hX, hbB⟩ := hK.scr eX
  unfold p_L_law_1059 at hp
  refine lv_goto (tgt := 1640) hx hb dL_law_1059 (by decide) ?_
  exact s_L_law_1640 hfl eX hz0 hz1 hz2 C hk54 hR hL (zm_sub hl [0, 1, 2, 3, 4, 5, 6, 7, 8, 9, 10] rfl) hp
def p_L_law_1057 (xs : Nat → Int32) (L : Nat) (k54 : Nat → Nat → Nat → Nat → Nat → Int32 → Int32 → Int32 → Int32 → Int32 → AH → Option (Int32 × AH)) (v1 : Nat) (v2 : Nat) (v3 : Nat) (v4 : Nat) (v5 : Nat) (v6 : Int32) (v7 : Int32) (v8 : Int32) (v10 : Int32) (s0 : Int32) (h : AH) : Option (Int32 × AH) :=
  p_L_law_1059 xs L k54 v1 v2 v3 v4 v5 v6 v7 v8 s0 v10 h
set_option maxHeartbeats 4000000 in
set_option maxRecDepth 100000 in
theorem s_L_law_1057 {p : Program} {l : Launch} {e : Env} {s : State} {m : MethodId} {b L : Nat} {xs : Nat → Int32} {nm : String} {below : List Frame} {meth : Method} {c : Code} {G : GG} {hs : AH}  {h' : AH} (hfl : l.stackTraces = false) (eX : gX G = (b, L, xs)) (hz0 : s.heap.size = gB G) (hz1 : gC G - aZ hs = 600130) (hz2 : aU hs = 0) (C : Cx G hs p s m #[Value.ref b] meth c cL_law 28 RL lw_tbl (some .boolean) nm) {k54 : Nat → Nat → Nat → Nat → Nat → Int32 → Int32 → Int32 → Int32 → Int32 → AH → Option (Int32 × AH)} (hk54 : ∀ {v1 : Nat} {v2 : Nat} {v3 : Nat} {v4 : Nat} {v5 : Nat} {v6 : Int32} {v7 : Int32} {v8 : Int32} {v9 : Int32} {v10 : Int32} {h : AH} {H : Heap} {locs : List Loc} {cells slots : Nat} {ls : Array Slot}, Rp G h H → (∀ q ∈ locs, gB G ≤ q.base) → zm ls 28 [(1, zr v1), (2, zr v2), (3, zr v3), (4, zr v4), (5, zr v5), (6, .int v6), (7, .int v7), (8, .int v8), (9, .int v9), (10, .int v10), (0, .ref b)] → k54 v1 v2 v3 v4 v5 v6 v7 v8 v9 v10 h = some (iI 1, h') → W p l e (gR G hs 16 610) s m #[Value.ref b] below meth c H locs cells slots (lw_Z below #[Value.ref b] s) (F0 m 54 ls [])) {v1 : Nat} {v2 : Nat} {v3 : Nat} {v4 : Nat} {v5 : Nat} {v6 : Int32} {v7 : Int32} {v8 : Int32} {v10 : Int32} {s0 : Int32} {h : AH} {H : Heap} {locs : List Loc} {cells slots : Nat} {ls : Array Slot} (hR : Rp G h H) (hL : ∀ q ∈ locs, gB G ≤ q.base) (hl : zm ls 28 [(1, zr v1), (2, zr v2), (3, zr v3), (4, zr v4), (5, zr v5), (6, .int v6), (7, .int v7), (8, .int v8), (10, .int v10), (0, .ref b)]) (hp : p_L_law_1057 xs L k54 v1 v2 v3 v4 v5 v6 v7 v8 v10 s0 h = some (iI 1, h')) : W p l e (gR G hs 16 610) s m #[Value.ref b] below meth c H locs cells slots (lw_Z below #[Value.ref b] s) (F0 m 1057 ls [.int s0]) := by
  obtain ⟨hx, hb, hml, hown, hts, hT, hK, rs, hlk, hret, hnm⟩ := id C
  have hm : ∀ w ∈ MW, w.before #[Value.ref b] s = true := fun w hw => hts w (hT w hw)
  obtain ⟨hX, hbB⟩ := hK.scr eX
  unfold p_L_law_1057 at hp
  refine zm_istore (lv' := [(9, .int s0), (1, zr v1), (2, zr v2), (3, zr v3), (4, zr v4), (5, zr v5), (6, .int v6), (7, .int v7), (8, .int v8), (10, .int v10), (0, .ref b)]) hx hb dL_law_1057 hl (by decide) (by repeat (first | exact noL_nil _ | refine noL_i ?_ | refine noL_z ?_ | refine noL_r ?_ | refine noL_c (by decide) ?_)) rfl (fun ls hl => ?_)
  exact s_L_law_1059 hfl eX hz0 hz1 hz2 C hk54 hR hL (zm_sub hl [1, 2, 3, 4, 5, 6, 7, 8, 0, 9, 10] rfl) hp
def p_L_law_1056 (xs : Nat → Int32) (L : Nat) (k54 : Nat → Nat → Nat → Nat → Nat → Int32 → Int32 → Int32 → Int32 → Int32 → AH → Option (Int32 × AH)) (v1 : Nat) (v2 : Nat) (v3 : Nat) (v4 : Nat) (v5 : Nat) (v6 : Int32) (v7 : Int32) (v8 : Int32) (v10 : Int32) (h : AH) : Option (Int32 × AH) :=
  p_L_law_1057 xs L k54 v1 v2 v3 v4 v5 v6 v7 v8 v10 (iI 0) h
set_option maxHeartbeats 4000000 in
set_option maxRecDepth 100000 in
theorem s_L_law_1056 {p : Program} {l : Launch} {e : Env} {s : State} {m : MethodId} {b L : Nat} {xs : Nat → Int32} {nm : String} {below : List Frame} {meth : Method} {c : Code} {G : GG} {hs : AH}  {h' : AH} (hfl : l.stackTraces = false) (eX : gX G = (b, L, xs)) (hz0 : s.heap.size = gB G) (hz1 : gC G - aZ hs = 600130) (hz2 : aU hs = 0) (C : Cx G hs p s m #[Value.ref b] meth c cL_law 28 RL lw_tbl (some .boolean) nm) {k54 : Nat → Nat → Nat → Nat → Nat → Int32 → Int32 → Int32 → Int32 → Int32 → AH → Option (Int32 × AH)} (hk54 : ∀ {v1 : Nat} {v2 : Nat} {v3 : Nat} {v4 : Nat} {v5 : Nat} {v6 : Int32} {v7 : Int32} {v8 : Int32} {v9 : Int32} {v10 : Int32} {h : AH} {H : Heap} {locs : List Loc} {cells slots : Nat} {ls : Array Slot}, Rp G h H → (∀ q ∈ locs, gB G ≤ q.base) → zm ls 28 [(1, zr v1), (2, zr v2), (3, zr v3), (4, zr v4), (5, zr v5), (6, .int v6), (7, .int v7), (8, .int v8), (9, .int v9), (10, .int v10), (0, .ref b)] → k54 v1 v2 v3 v4 v5 v6 v7 v8 v9 v10 h = some (iI 1, h') → W p l e (gR G hs 16 610) s m #[Value.ref b] below meth c H locs cells slots (lw_Z below #[Value.ref b] s) (F0 m 54 ls [])) {v1 : Nat} {v2 : Nat} {v3 : Nat} {v4 : Nat} {v5 : Nat} {v6 : Int32} {v7 : Int32} {v8 : Int32} {v10 : Int32} {h : AH} {H : Heap} {locs : List Loc} {cells slots : Nat} {ls : Array Slot} (hR : Rp G h H) (hL : ∀ q ∈ locs, gB G ≤ q.base) (hl : zm ls 28 [(1, zr v1), (2, zr v2), (3, zr v3), (4, zr v4), (5, zr v5), (6, .int v6), (7, .int v7), (8, .int v8), (10, .int v10), (0, .ref b)]) (hp : p_L_law_1056 xs L k54 v1 v2 v3 v4 v5 v6 v7 v8 v10 h = some (iI 1, h')) : W p l e (gR G hs 16 610) s m #[Value.ref b] below meth c H locs cells slots (lw_Z below #[Value.ref b] s) (F0 m 1056 ls []) := by
  obtain ⟨hx, hb, hml, hown, hts, hT, hK, rs, hlk, hret, hnm⟩ := id C
  have hm : ∀ w ∈ MW, w.before #[Value.ref b] s = true := fun w hw => hts w (hT w hw)
  obtain ⟨hX, hbB⟩ := hK.scr eX
  unfold p_L_law_1056 at hp
  refine lv_iconst (v := iI 0) hx hb dL_law_1056 rfl ?_
  exact s_L_law_1057 hfl eX hz0 hz1 hz2 C hk54 hR hL (zm_sub hl [0, 1, 2, 3, 4, 5, 6, 7, 8, 9] rfl) hp
def p_L_law_1052 (xs : Nat → Int32) (L : Nat) (k54 : Nat → Nat → Nat → Nat → Nat → Int32 → Int32 → Int32 → Int32 → Int32 → AH → Option (Int32 × AH)) (v1 : Nat) (v2 : Nat) (v3 : Nat) (v4 : Nat) (v5 : Nat) (v6 : Int32) (v7 : Int32) (v8 : Int32) (v10 : Int32) (h : AH) : Option (Int32 × AH) :=
  p_L_law_1057 xs L k54 v1 v2 v3 v4 v5 v6 v7 v8 v10 (iI 1) h
set_option maxHeartbeats 4000000 in
set_option maxRecDepth 100000 in
theorem s_L_law_1052 {p : Program} {l : Launch} {e : Env} {s : State} {m : MethodId} {b L : Nat} {xs : Nat → Int32} {nm : String} {below : List Frame} {meth : Method} {c : Code} {G : GG} {hs : AH}  {h' : AH} (hfl : l.stackTraces = false) (eX : gX G = (b, L, xs)) (hz0 : s.heap.size = gB G) (hz1 : gC G - aZ hs = 600130) (hz2 : aU hs = 0) (C : Cx G hs p s m #[Value.ref b] meth c cL_law 28 RL lw_tbl (some .boolean) nm) {k54 : Nat → Nat → Nat → Nat → Nat → Int32 → Int32 → Int32 → Int32 → Int32 → AH → Option (Int32 × AH)} (hk54 : ∀ {v1 : Nat} {v2 : Nat} {v3 : Nat} {v4 : Nat} {v5 : Nat} {v6 : Int32} {v7 : Int32} {v8 : Int32} {v9 : Int32} {v10 : Int32} {h : AH} {H : Heap} {locs : List Loc} {cells slots : Nat} {ls : Array Slot}, Rp G h H → (∀ q ∈ locs, gB G ≤ q.base) → zm ls 28 [(1, zr v1), (2, zr v2), (3, zr v3), (4, zr v4), (5, zr v5), (6, .int v6), (7, .int v7), (8, .int v8), (9, .int v9), (10, .int v10), (0, .ref b)] → k54 v1 v2 v3 v4 v5 v6 v7 v8 v9 v10 h = some (iI 1, h') → W p l e (gR G hs 16 610) s m #[Value.ref b] below meth c H locs cells slots (lw_Z below #[Value.ref b] s) (F0 m 54 ls [])) {v1 : Nat} {v2 : Nat} {v3 : Nat} {v4 : Nat} {v5 : Nat} {v6 : Int32} {v7 : Int32} {v8 : Int32} {v10 : Int32} {h : AH} {H : Heap} {locs : List Loc} {cells slots : Nat} {ls : Array Slot} (hR : Rp G h H) (hL : ∀ q ∈ locs, gB G ≤ q.base) (hl : zm ls 28 [(1, zr v1), (2, zr v2), (3, zr v3), (4, zr v4), (5, zr v5), (6, .int v6), (7, .int v7), (8, .int v8), (10, .int v10), (0, .ref b)]) (hp : p_L_law_1052 xs L k54 v1 v2 v3 v4 v5 v6 v7 v8 v10 h = some (iI 1, h')) : W p l e (gR G hs 16 610) s m #[Value.ref b] below meth c H locs cells slots (lw_Z below #[Value.ref b] s) (F0 m 1052 ls []) := by
  obtain ⟨hx, hb, hml, hown, hts, hT, hK, rs, hlk, hret, hnm⟩ := id C
  have hm : ∀ w ∈ MW, w.before #[Value.ref b] s = true := fun w hw => hts w (hT w hw)
  obtain ⟨hX, hbB⟩ := hK.scr eX
  unfold p_L_law_1052 at hp
  refine lv_iconst (v := iI 1) hx hb dL_law_1052 rfl ?_
  refine lv_goto (tgt := 1057) hx hb dL_law_1053 (by decide) ?_
  exact s_L_law_1057 hfl eX hz0 hz1 hz2 C hk54 hR hL (zm_sub hl [0, 1, 2, 3, 4, 5, 6, 7, 8, 9] rfl) hp
def p_L_law_1014 (xs : Nat → Int32) (L : Nat) (k54 : Nat → Nat → Nat → Nat → Nat → Int32 → Int32 → Int32 → Int32 → Int32 → AH → Option (Int32 × AH)) (v1 : Nat) (v2 : Nat) (v3 : Nat) (v4 : Nat) (v5 : Nat) (v6 : Int32) (v7 : Int32) (v8 : Int32) (v10 : Int32) (v14 : Int32) (v20 : Int32) (v21 : Int32) (v24 : Int32) (s0 : Int32) (s1 : Int32) (s2 : Int32) (h : AH) : Option (Int32 × AH) :=
  if s0 = (s1 + s2) then
    if v21 ≤ (iI 1) then
      bR (p_L_length v1 v14 h) fun r3 h4 =>
      if r3 = (v20 - v24) then
        p_L_law_1052 xs L k54 v1 v2 v3 v4 v5 v6 v7 v8 v10 h4
      else
        p_L_law_1056 xs L k54 v1 v2 v3 v4 v5 v6 v7 v8 v10 h4
    else
      bR (p_L_length v1 v14 h) fun r6 h7 =>
      if r6 = v20 then
        p_L_law_1052 xs L k54 v1 v2 v3 v4 v5 v6 v7 v8 v10 h7
      else
        p_L_law_1056 xs L k54 v1 v2 v3 v4 v5 v6 v7 v8 v10 h7
  else
    p_L_law_1056 xs L k54 v1 v2 v3 v4 v5 v6 v7 v8 v10 h
set_option maxHeartbeats 4000000 in
set_option maxRecDepth 100000 in
theorem s_L_law_1014 {p : Program} {l : Launch} {e : Env} {s : State} {m : MethodId} {b L : Nat} {xs : Nat → Int32} {nm : String} {below : List Frame} {meth : Method} {c : Code} {G : GG} {hs : AH}  {h' : AH} (hfl : l.stackTraces = false) (eX : gX G = (b, L, xs)) (hz0 : s.heap.size = gB G) (hz1 : gC G - aZ hs = 600130) (hz2 : aU hs = 0) (C : Cx G hs p s m #[Value.ref b] meth c cL_law 28 RL lw_tbl (some .boolean) nm) {k54 : Nat → Nat → Nat → Nat → Nat → Int32 → Int32 → Int32 → Int32 → Int32 → AH → Option (Int32 × AH)} (hk54 : ∀ {v1 : Nat} {v2 : Nat} {v3 : Nat} {v4 : Nat} {v5 : Nat} {v6 : Int32} {v7 : Int32} {v8 : Int32} {v9 : Int32} {v10 : Int32} {h : AH} {H : Heap} {locs : List Loc} {cells slots : Nat} {ls : Array Slot}, Rp G h H → (∀ q ∈ locs, gB G ≤ q.base) → zm ls 28 [(1, zr v1), (2, zr v2), (3, zr v3), (4, zr v4), (5, zr v5), (6, .int v6), (7, .int v7), (8, .int v8), (9, .int v9), (10, .int v10), (0, .ref b)] → k54 v1 v2 v3 v4 v5 v6 v7 v8 v9 v10 h = some (iI 1, h') → W p l e (gR G hs 16 610) s m #[Value.ref b] below meth c H locs cells slots (lw_Z below #[Value.ref b] s) (F0 m 54 ls [])) {v1 : Nat} {v2 : Nat} {v3 : Nat} {v4 : Nat} {v5 : Nat} {v6 : Int32} {v7 : Int32} {v8 : Int32} {v10 : Int32} {v14 : Int32} {v20 : Int32} {v21 : Int32} {v24 : Int32} {s0 : Int32} {s1 : Int32} {s2 : Int32} {h : AH} {H : Heap} {locs : List Loc} {cells slots : Nat} {ls : Array Slot} (hR : Rp G h H) (hL : ∀ q ∈ locs, gB G ≤ q.base) (hl : zm ls 28 [(1, zr v1), (2, zr v2), (3, zr v3), (4, zr v4), (5, zr v5), (6, .int v6), (7, .int v7), (8, .int v8), (10, .int v10), (14, .int v14), (20, .int v20), (21, .int v21), (24, .int v24), (0, .ref b)]) (hp : p_L_law_1014 xs L k54 v1 v2 v3 v4 v5 v6 v7 v8 v10 v14 v20 v21 v24 s0 s1 s2 h = some (iI 1, h')) : W p l e (gR G hs 16 610) s m #[Value.ref b] below meth c H locs cells slots (lw_Z below #[Value.ref b] s) (F0 m 1014 ls [.int s2, .int s1, .int s0]) := by
  obtain ⟨hx, hb, hml, hown, hts, hT, hK, rs, hlk, hret, hnm⟩ := id C
  have hm : ∀ w ∈ MW, w.before #[Value.ref b] s = true := fun w hw => hts w (hT w hw)
  obtain ⟨hX, hbB⟩ := hK.scr eX
  unfold p_L_law_1014 at hp
  refine lv_iadd hx hb dL_law_1014 ?_
  refine lv_icmp_ne (tgt := 1056) hx hb dL_law_1015 (by decide) (fun c1 => ?_) (fun c1 => ?_)
  · replace hp := ite_n hp c1
    exact s_L_law_1056 hfl eX hz0 hz1 hz2 C hk54 hR hL (zm_sub hl [0, 1, 2, 3, 4, 5, 6, 7, 8, 13] rfl) hp
  · replace hp := ite_p hp c1
    refine lv_iload hx hb dL_law_1018 (zm_at hl 11 rfl) ?_
    refine lv_iconst (v := iI 1) hx hb dL_law_1020 rfl ?_
    refine lv_icmp_le (tgt := 1038) hx hb dL_law_1021 (by decide) (fun c2 => ?_) (fun c2 => ?_)
    · replace hp := ite_p hp c2
      refine z_aload_n hx hb dL_law_1038 rfl (zm_at hl 0 rfl) ?_
      refine lv_iload hx hb dL_law_1039 (zm_at hl 9 rfl) ?_
      obtain ⟨r3, h4, er3, hp⟩ := bR_i hp
      refine r_callSH (n := 2) (As := [zr v1, .int v14]) (rest := []) C (c_L_length l hfl G v1 v14 h r3 h4 er3) hR hL mw_665 mw_666 mw_0 mw_667 (by decide +kernel) (by decide) rfl (zm_size hl) rfl (by simp [zr_cat, in_cat, lo_cat, re_cat]) dL_law_1041 (st2 := [.int r3]) rfl (fun H locs cells slots hR hL => ?_)
      refine lv_iload hx hb dL_law_1044 (zm_at hl 10 rfl) ?_
      refine lv_iload hx hb dL_law_1046 (zm_at hl 12 rfl) ?_
      refine lv_isub hx hb dL_law_1048 ?_
      refine lv_icmp_ne (tgt := 1056) hx hb dL_law_1049 (by decide) (fun c5 => ?_) (fun c5 => ?_)
      · replace hp := ite_n hp c5
        exact s_L_law_1056 hfl eX hz0 hz1 hz2 C hk54 hR hL (zm_sub hl [0, 1, 2, 3, 4, 5, 6, 7, 8, 13] rfl) hp
      · replace hp := ite_p hp c5
        exact s_L_law_1052 hfl eX hz0 hz1 hz2 C hk54 hR hL (zm_sub hl [0, 1, 2, 3, 4, 5, 6, 7, 8, 13] rfl) hp
    · replace hp := ite_n hp c2
      refine z_aload_n hx hb dL_law_1024 rfl (zm_at hl 0 rfl) ?_
      refine lv_iload hx hb dL_law_1025 (zm_at hl 9 rfl) ?_
      obtain ⟨r6, h7, er6, hp⟩ := bR_i hp
      refine r_callSH (n := 2) (As := [zr v1, .int v14]) (rest := []) C (c_L_length l hfl G v1 v14 h r6 h7 er6) hR hL mw_665 mw_666 mw_0 mw_667 (by decide +kernel) (by decide) rfl (zm_size hl) rfl (by simp [zr_cat, in_cat, lo_cat, re_cat]) dL_law_1027 (st2 := [.int r6]) rfl (fun H locs cells slots hR hL => ?_)
      refine lv_iload hx hb dL_law_1030 (zm_at hl 10 rfl) ?_
      refine lv_icmp_ne (tgt := 1056) hx hb dL_law_1032 (by decide) (fun c8 => ?_) (fun c8 => ?_)
      · replace hp := ite_n hp c8
        exact s_L_law_1056 hfl eX hz0 hz1 hz2 C hk54 hR hL (zm_sub hl [0, 1, 2, 3, 4, 5, 6, 7, 8, 13] rfl) hp
      · replace hp := ite_p hp c8
        refine lv_goto (tgt := 1052) hx hb dL_law_1035 (by decide) ?_
        exact s_L_law_1052 hfl eX hz0 hz1 hz2 C hk54 hR hL (zm_sub hl [0, 1, 2, 3, 4, 5, 6, 7, 8, 13] rfl) hp
def p_L_law_996 (xs : Nat → Int32) (L : Nat) (k54 : Nat → Nat → Nat → Nat → Nat → Int32 → Int32 → Int32 → Int32 → Int32 → AH → Option (Int32 × AH)) (v1 : Nat) (v2 : Nat) (v3 : Nat) (v4 : Nat) (v5 : Nat) (v6 : Int32) (v7 : Int32) (v8 : Int32) (v10 : Int32) (v14 : Int32) (v19 : Int32) (v20 : Int32) (v21 : Int32) (v24 : Int32) (h : AH) : Option (Int32 × AH) :=
  bR (p_L_version v1 v14 h) fun r1 h2 =>
  if v24 ≤ 0 then
    p_L_law_1014 xs L k54 v1 v2 v3 v4 v5 v6 v7 v8 v10 v14 v20 v21 v24 r1 v19 (iI 0) h2
  else
    p_L_law_1014 xs L k54 v1 v2 v3 v4 v5 v6 v7 v8 v10 v14 v20 v21 v24 r1 v19 (iI 1) h2
set_option maxHeartbeats 4000000 in
set_option maxRecDepth 100000 in
theorem s_L_law_996 {p : Program} {l : Launch} {e : Env} {s : State} {m : MethodId} {b L : Nat} {xs : Nat → Int32} {nm : String} {below : List Frame} {meth : Method} {c : Code} {G : GG} {hs : AH}  {h' : AH} (hfl : l.stackTraces = false) (eX : gX G = (b, L, xs)) (hz0 : s.heap.size = gB G) (hz1 : gC G - aZ hs = 600130) (hz2 : aU hs = 0) (C : Cx G hs p s m #[Value.ref b] meth c cL_law 28 RL lw_tbl (some .boolean) nm) {k54 : Nat → Nat → Nat → Nat → Nat → Int32 → Int32 → Int32 → Int32 → Int32 → AH → Option (Int32 × AH)} (hk54 : ∀ {v1 : Nat} {v2 : Nat} {v3 : Nat} {v4 : Nat} {v5 : Nat} {v6 : Int32} {v7 : Int32} {v8 : Int32} {v9 : Int32} {v10 : Int32} {h : AH} {H : Heap} {locs : List Loc} {cells slots : Nat} {ls : Array Slot}, Rp G h H → (∀ q ∈ locs, gB G ≤ q.base) → zm ls 28 [(1, zr v1), (2, zr v2), (3, zr v3), (4, zr v4), (5, zr v5), (6, .int v6), (7, .int v7), (8, .int v8), (9, .int v9), (10, .int v10), (0, .ref b)] → k54 v1 v2 v3 v4 v5 v6 v7 v8 v9 v10 h = some (iI 1, h') → W p l e (gR G hs 16 610) s m #[Value.ref b] below meth c H locs cells slots (lw_Z below #[Value.ref b] s) (F0 m 54 ls [])) {v1 : Nat} {v2 : Nat} {v3 : Nat} {v4 : Nat} {v5 : Nat} {v6 : Int32} {v7 : Int32} {v8 : Int32} {v10 : Int32} {v14 : Int32} {v19 : Int32} {v20 : Int32} {v21 : Int32} {v24 : Int32} {h : AH} {H : Heap} {locs : List Loc} {cells slots : Nat} {ls : Array Slot} (hR : Rp G h H) (hL : ∀ q ∈ locs, gB G ≤ q.base) (hl : zm ls 28 [(1, zr v1), (2, zr v2), (3, zr v3), (4, zr v4), (5, zr v5), (6, .int v6), (7, .int v7), (8, .int v8), (10, .int v10), (14, .int v14), (19, .int v19), (20, .int v20), (21, .int v21), (24, .int v24), (0, .ref b)]) (hp : p_L_law_996 xs L k54 v1 v2 v3 v4 v5 v6 v7 v8 v10 v14 v19 v20 v21 v24 h = some (iI 1, h')) : W p l e (gR G hs 16 610) s m #[Value.ref b] below meth c H locs cells slots (lw_Z below #[Value.ref b] s) (F0 m 996 ls []) := by
  obtain ⟨hx, hb, hml, hown, hts, hT, hK, rs, hlk, hret, hnm⟩ := id C
  have hm : ∀ w ∈ MW, w.before #[Value.ref b] s = true := fun w hw => hts w (hT w hw)
  obtain ⟨hX, hbB⟩ := hK.scr eX
  unfold p_L_law_996 at hp
  refine z_aload_n hx hb dL_law_996 rfl (zm_at hl 0 rfl) ?_
  refine lv_iload hx hb dL_law_997 (zm_at hl 9 rfl) ?_
  obtain ⟨r1, h2, er1, hp⟩ := bR_i hp
  refine r_callSH (n := 2) (As := [zr v1, .int v14]) (rest := []) C (c_L_version l hfl G v1 v14 h r1 h2 er1) hR hL mw_683 mw_684 mw_0 mw_685 (by decide +kernel) (by decide) rfl (zm_size hl) rfl (by simp [zr_cat, in_cat, lo_cat, re_cat]) dL_law_999 (st2 := [.int r1]) rfl (fun H locs cells slots hR hL => ?_)
  refine lv_iload hx hb dL_law_1002 (zm_at hl 10 rfl) ?_
  refine lv_iload hx hb dL_law_1004 (zm_at hl 13 rfl) ?_
  refine lv_if_le (tgt := 1013) hx hb dL_law_1006 (by decide) (fun c3 => ?_) (fun c3 => ?_)
  · replace hp := ite_p hp c3
    refine lv_iconst (v := iI 0) hx hb dL_law_1013 rfl ?_
    exact s_L_law_1014 hfl eX hz0 hz1 hz2 C hk54 hR hL (zm_sub hl [0, 1, 2, 3, 4, 5, 6, 7, 8, 9, 11, 12, 13, 14] rfl) hp
  · replace hp := ite_n hp c3
    refine lv_iconst (v := iI 1) hx hb dL_law_1009 rfl ?_
    refine lv_goto (tgt := 1014) hx hb dL_law_1010 (by decide) ?_
    exact s_L_law_1014 hfl eX hz0 hz1 hz2 C hk54 hR hL (zm_sub hl [0, 1, 2, 3, 4, 5, 6, 7, 8, 9, 11, 12, 13, 14] rfl) hp
def p_L_law_965 (xs : Nat → Int32) (L : Nat) (k54 : Nat → Nat → Nat → Nat → Nat → Int32 → Int32 → Int32 → Int32 → Int32 → AH → Option (Int32 × AH)) (v1 : Nat) (v2 : Nat) (v3 : Nat) (v4 : Nat) (v5 : Nat) (v6 : Int32) (v7 : Int32) (v8 : Int32) (v10 : Int32) (v14 : Int32) (v19 : Int32) (v20 : Int32) (v21 : Int32) (v22 : Int32) (v23 : Int32) (v24 : Int32) (h : AH) : Option (Int32 × AH) :=
  bR (p_L_spared v1 (v6 - (iI 1)) h) fun r1 h2 =>
  if r1 = v23 then
    if 0 < v23 then
      p_L_law_996 xs L k54 v1 v2 v3 v4 v5 v6 v7 v8 v10 v14 v19 v20 v21 v24 h2
    else
      bR (p_L_isClean v1 v14 v21 v22 h2) fun r5 h6 =>
      if r5 = 0 then
        p_L_law_1056 xs L k54 v1 v2 v3 v4 v5 v6 v7 v8 v10 h6
      else
        p_L_law_996 xs L k54 v1 v2 v3 v4 v5 v6 v7 v8 v10 v14 v19 v20 v21 v24 h6
  else
    p_L_law_1056 xs L k54 v1 v2 v3 v4 v5 v6 v7 v8 v10 h2
set_option maxHeartbeats 4000000 in
set_option maxRecDepth 100000 in
theorem s_L_law_965 {p : Program} {l : Launch} {e : Env} {s : State} {m : MethodId} {b L : Nat} {xs : Nat → Int32} {nm : String} {below : List Frame} {meth : Method} {c : Code} {G : GG} {hs : AH}  {h' : AH} (hfl : l.stackTraces = false) (eX : gX G = (b, L, xs)) (hz0 : s.heap.size = gB G) (hz1 : gC G - aZ hs = 600130) (hz2 : aU hs = 0) (C : Cx G hs p s m #[Value.ref b] meth c cL_law 28 RL lw_tbl (some .boolean) nm) {k54 : Nat → Nat → Nat → Nat → Nat → Int32 → Int32 → Int32 → Int32 → Int32 → AH → Option (Int32 × AH)} (hk54 : ∀ {v1 : Nat} {v2 : Nat} {v3 : Nat} {v4 : Nat} {v5 : Nat} {v6 : Int32} {v7 : Int32} {v8 : Int32} {v9 : Int32} {v10 : Int32} {h : AH} {H : Heap} {locs : List Loc} {cells slots : Nat} {ls : Array Slot}, Rp G h H → (∀ q ∈ locs, gB G ≤ q.base) → zm ls 28 [(1, zr v1), (2, zr v2), (3, zr v3), (4, zr v4), (5, zr v5), (6, .int v6), (7, .int v7), (8, .int v8), (9, .int v9), (10, .int v10), (0, .ref b)] → k54 v1 v2 v3 v4 v5 v6 v7 v8 v9 v10 h = some (iI 1, h') → W p l e (gR G hs 16 610) s m #[Value.ref b] below meth c H locs cells slots (lw_Z below #[Value.ref b] s) (F0 m 54 ls [])) {v1 : Nat} {v2 : Nat} {v3 : Nat} {v4 : Nat} {v5 : Nat} {v6 : Int32} {v7 : Int32} {v8 : Int32} {v10 : Int32} {v14 : Int32} {v19 : Int32} {v20 : Int32} {v21 : Int32} {v22 : Int32} {v23 : Int32} {v24 : Int32} {h : AH} {H : Heap} {locs : List Loc} {cells slots : Nat} {ls : Array Slot} (hR : Rp G h H) (hL : ∀ q ∈ locs, gB G ≤ q.base) (hl : zm ls 28 [(1, zr v1), (2, zr v2), (3, zr v3), (4, zr v4), (5, zr v5), (6, .int v6), (7, .int v7), (8, .int v8), (10, .int v10), (14, .int v14), (19, .int v19), (20, .int v20), (21, .int v21), (22, .int v22), (23, .int v23), (24, .int v24), (0, .ref b)]) (hp : p_L_law_965 xs L k54 v1 v2 v3 v4 v5 v6 v7 v8 v10 v14 v19 v20 v21 v22 v23 v24 h = some (iI 1, h')) : W p l e (gR G hs 16 610) s m #[Value.ref b] below meth c H locs cells slots (lw_Z below #[Value.ref b] s) (F0 m 965 ls []) := by
  obtain ⟨hx, hb, hml, hown, hts, hT, hK, rs, hlk, hret, hnm⟩ := id C
  have hm : ∀ w ∈ MW, w.before #[Value.ref b] s = true := fun w hw => hts w (hT w hw)
  obtain ⟨hX, hbB⟩ := hK.scr eX
  unfold p_L_law_965 at hp
  refine z_aload_n hx hb dL_law_965 rfl (zm_at hl 0 rfl) ?_
  refine lv_iload hx hb dL_law_966 (zm_at hl 5 rfl) ?_
  refine lv_iconst (v := iI 1) hx hb dL_law_968 rfl ?_
  refine lv_isub hx hb dL_law_969 ?_
  obtain ⟨r1, h2, er1, hp⟩ := bR_i hp
  refine r_callSH (n := 2) (As := [zr v1, .int (v6 - (iI 1))]) (rest := []) C (c_L_spared l hfl G v1 (v6 - (iI 1)) h r1 h2 er1) hR hL mw_896 mw_897 mw_0 mw_898 (by decide +kernel) (by decide) rfl (zm_size hl) rfl (by simp [zr_cat, in_cat, lo_cat, re_cat]) dL_law_970 (st2 := [.int r1]) rfl (fun H locs cells slots hR hL => ?_)
  refine lv_iload hx hb dL_law_973 (zm_at hl 14 rfl) ?_
  refine lv_icmp_ne (tgt := 1056) hx hb dL_law_975 (by decide) (fun c3 => ?_) (fun c3 => ?_)
  · replace hp := ite_n hp c3
    exact s_L_law_1056 hfl eX hz0 hz1 hz2 C hk54 hR hL (zm_sub hl [0, 1, 2, 3, 4, 5, 6, 7, 8, 16] rfl) hp
  · replace hp := ite_p hp c3
    refine lv_iload hx hb dL_law_978 (zm_at hl 14 rfl) ?_
    refine lv_if_gt (tgt := 996) hx hb dL_law_980 (by decide) (fun c4 => ?_) (fun c4 => ?_)
    · replace hp := ite_p hp c4
      exact s_L_law_996 hfl eX hz0 hz1 hz2 C hk54 hR hL (zm_sub hl [0, 1, 2, 3, 4, 5, 6, 7, 8, 9, 10, 11, 12, 15, 16] rfl) hp
    · replace hp := ite_n hp c4
      refine z_aload_n hx hb dL_law_983 rfl (zm_at hl 0 rfl) ?_
      refine lv_iload hx hb dL_law_984 (zm_at hl 9 rfl) ?_
      refine lv_iload hx hb dL_law_986 (zm_at hl 12 rfl) ?_
      refine lv_iload hx hb dL_law_988 (zm_at hl 13 rfl) ?_
      obtain ⟨r5, h6, er5, hp⟩ := bR_i hp
      refine r_callS (n := 4) (As := [zr v1, .int v14, .int v21, .int v22]) (rest := []) C (c_L_isClean l hfl G v1 v14 v21 v22 h2 r5 h6 er5) hR hL mw_988 mw_989 mw_0 mw_990 (by decide +kernel) (by decide) rfl (zm_size hl) rfl (by simp [zr_cat, in_cat, lo_cat, re_cat]) dL_law_990 (st2 := [.int r5]) rfl (fun H locs cells slots hR hL => ?_)
      refine lv_if_eq (tgt := 1056) hx hb dL_law_993 (by decide) (fun c7 => ?_) (fun c7 => ?_)
      · replace hp := ite_p hp c7
        exact s_L_law_1056 hfl eX hz0 hz1 hz2 C hk54 hR hL (zm_sub hl [0, 1, 2, 3, 4, 5, 6, 7, 8, 16] rfl) hp
      · replace hp := ite_n hp c7
        exact s_L_law_996 hfl eX hz0 hz1 hz2 C hk54 hR hL (zm_sub hl [0, 1, 2, 3, 4, 5, 6, 7, 8, 9, 10, 11, 12, 15, 16] rfl) hp
def p_L_law_880 (xs : Nat → Int32) (L : Nat) (k54 : Nat → Nat → Nat → Nat → Nat → Int32 → Int32 → Int32 → Int32 → Int32 → AH → Option (Int32 × AH)) (v1 : Nat) (v2 : Nat) (v3 : Nat) (v4 : Nat) (v5 : Nat) (v6 : Int32) (v7 : Int32) (v8 : Int32) (v10 : Int32) (v14 : Int32) (v16 : Int32) (v19 : Int32) (v20 : Int32) (v21 : Int32) (v22 : Int32) (s0 : Int32) (h : AH) : Option (Int32 × AH) :=
  ck (aK h v5 = 20 ∧ ix v6 (aN h v5)) <|
  nm (uI h v5 v6.toNatClampNeg ((((iI 1000) * v14) + ((iI 100) * v21)) + v22)) fun h3 =>
  nm (v6 + iI 1) fun (x4 : Int32) =>
  if s0 = 0 then
    p_L_law_1059 xs L k54 v1 v2 v3 v4 v5 x4 v7 v8 s0 v10 h3
  else
    if ((v16 / (iI 144)) - (v16 / (iI 144)) / (iI 2) * (iI 2)) = 0 then
      bR (p_L_spared v1 (x4 - (iI 1)) h3) fun r7 h8 =>
      bR (p_L_come v1 (x4 - (iI 1)) h8) fun r9 h10 =>
      ck (aK h10 v4 = 20 ∧ ix (x4 - (iI 1)) (aN h10 v4)) <|
      nm (uI h10 v4 (x4 - (iI 1)).toNatClampNeg (iI 1)) fun h13 =>
      if r9 < 0 then
        p_L_law_1056 xs L k54 v1 v2 v3 v4 v5 x4 v7 v8 v10 h13
      else
        if v21 < (iI 2) then
          p_L_law_965 xs L k54 v1 v2 v3 v4 v5 x4 v7 v8 v10 v14 v19 v20 v21 v22 r7 r9 h13
        else
          if r7 = 0 then
            p_L_law_965 xs L k54 v1 v2 v3 v4 v5 x4 v7 v8 v10 v14 v19 v20 v21 v22 r7 r9 h13
          else
            p_L_law_1056 xs L k54 v1 v2 v3 v4 v5 x4 v7 v8 v10 h13
    else
      p_L_law_1059 xs L k54 v1 v2 v3 v4 v5 x4 v7 v8 s0 v10 h3
set_option maxHeartbeats 4000000 in
set_option maxRecDepth 100000 in
theorem s_L_law_880 {p : Program} {l : Launch} {e : Env} {s : State} {m : MethodId} {b L : Nat} {xs : Nat → Int32} {nm : String} {below : List Frame} {meth : Method} {c : Code} {G : GG} {hs : AH}  {h' : AH} (hfl : l.stackTraces = false) (eX : gX G = (b, L, xs)) (hz0 : s.heap.size = gB G) (hz1 : gC G - aZ hs = 600130) (hz2 : aU hs = 0) (C : Cx G hs p s m #[Value.ref b] meth c cL_law 28 RL lw_tbl (some .boolean) nm) {k54 : Nat → Nat → Nat → Nat → Nat → Int32 → Int32 → Int32 → Int32 → Int32 → AH → Option (Int32 × AH)} (hk54 : ∀ {v1 : Nat} {v2 : Nat} {v3 : Nat} {v4 : Nat} {v5 : Nat} {v6 : Int32} {v7 : Int32} {v8 : Int32} {v9 : Int32} {v10 : Int32} {h : AH} {H : Heap} {locs : List Loc} {cells slots : Nat} {ls : Array Slot}, Rp G h H → (∀ q ∈ locs, gB G ≤ q.base) → zm ls 28 [(1, zr v1), (2, zr v2), (3, zr v3), (4, zr v4), (5, zr v5), (6, .int v6), (7, .int v7), (8, .int v8), (9, .int v9), (10, .int v10), (0, .ref b)] → k54 v1 v2 v3 v4 v5 v6 v7 v8 v9 v10 h = some (iI 1, h') → W p l e (gR G hs 16 610) s m #[Value.ref b] below meth c H locs cells slots (lw_Z below #[Value.ref b] s) (F0 m 54 ls [])) {v1 : Nat} {v2 : Nat} {v3 : Nat} {v4 : Nat} {v5 : Nat} {v6 : Int32} {v7 : Int32} {v8 : Int32} {v10 : Int32} {v14 : Int32} {v16 : Int32} {v19 : Int32} {v20 : Int32} {v21 : Int32} {v22 : Int32} {s0 : Int32} {h : AH} {H : Heap} {locs : List Loc} {cells slots : Nat} {ls : Array Slot} (hR : Rp G h H) (hL : ∀ q ∈ locs, gB G ≤ q.base) (hl : zm ls 28 [(1, zr v1), (2, zr v2), (3, zr v3), (4, zr v4), (5, zr v5), (6, .int v6), (7, .int v7), (8, .int v8), (10, .int v10), (14, .int v14), (16, .int v16), (19, .int v19), (20, .int v20), (21, .int v21), (22, .int v22), (0, .ref b)]) (hp : p_L_law_880 xs L k54 v1 v2 v3 v4 v5 v6 v7 v8 v10 v14 v16 v19 v20 v21 v22 s0 h = some (iI 1, h')) : W p l e (gR G hs 16 610) s m #[Value.ref b] below meth c H locs cells slots (lw_Z below #[Value.ref b] s) (F0 m 880 ls [.int s0]) := by
  obtain ⟨hx, hb, hml, hown, hts, hT, hK, rs, hlk, hret, hnm⟩ := id C
  have hm : ∀ w ∈ MW, w.before #[Value.ref b] s = true := fun w hw => hts w (hT w hw)
  obtain ⟨hX, hbB⟩ := hK.scr eX
  unfold p_L_law_880 at hp
  refine zm_istore (lv' := [(9, .int s0), (1, zr v1), (2, zr v2), (3, zr v3), (4, zr v4), (5, zr v5), (6, .int v6), (7, .int v7), (8, .int v8), (10, .int v10), (14, .int v14), (16, .int v16), (19, .int v19), (20, .int v20), (21, .int v21), (22, .int v22), (0, .ref b)]) hx hb dL_law_880 hl (by decide) (by repeat (first | exact noL_nil _ | refine noL_i ?_ | refine noL_z ?_ | refine noL_r ?_ | refine noL_c (by decide) ?_)) rfl (fun ls hl => ?_)
  refine z_aload hx hb dL_law_882 (zm_at hl 5 rfl) ?_
  refine lv_iload hx hb dL_law_884 (zm_at hl 6 rfl) ?_
  refine lv_sipush (v := iI 1000) hx hb dL_law_886 (by decide +kernel) ?_
  refine lv_iload hx hb dL_law_889 (zm_at hl 10 rfl) ?_
  refine lv_imul hx hb dL_law_891 ?_
  refine lv_bipush (v := iI 100) hx hb dL_law_892 (by decide +kernel) ?_
  refine lv_iload hx hb dL_law_894 (zm_at hl 14 rfl) ?_
  refine lv_imul hx hb dL_law_896 ?_
  refine lv_iadd hx hb dL_law_897 ?_
  refine lv_iload hx hb dL_law_898 (zm_at hl 15 rfl) ?_
  refine lv_iadd hx hb dL_law_900 ?_
  obtain ⟨k1, hp⟩ := ck_i hp
  refine r_iast hx hb hK hR hL k1.1 k1.2 dL_law_901 (fun H locs hR hL => ?_)
  obtain ⟨h3, hp, hR⟩ := nm_h hp hR
  obtain ⟨x4, ex4⟩ : ∃ y : Int32, y = v6 + iI 1 := ⟨_, rfl⟩
  replace hp := nm_i hp ex4
  refine zm_iinc (v := x4) (lv' := [(6, .int x4), (9, .int s0), (1, zr v1), (2, zr v2), (3, zr v3), (4, zr v4), (5, zr v5), (7, .int v7), (8, .int v8), (10, .int v10), (14, .int v14), (16, .int v16), (19, .int v19), (20, .int v20), (21, .int v21), (22, .int v22), (0, .ref b)]) hx hb dL_law_902 hl (k := 6) rfl ex4 (by decide) (by repeat (first | exact noL_nil _ | refine noL_i ?_ | refine noL_z ?_ | refine noL_r ?_ | refine noL_c (by decide) ?_)) rfl (fun ls hl => ?_)
  refine lv_iload hx hb dL_law_905 (zm_at hl 1 rfl) ?_
  refine lv_if_eq (tgt := 1059) hx hb dL_law_907 (by decide) (fun c5 => ?_) (fun c5 => ?_)
  · replace hp := ite_p hp c5
    exact s_L_law_1059 hfl eX hz0 hz1 hz2 C hk54 hR hL (zm_sub hl [2, 3, 4, 5, 6, 0, 7, 8, 1, 9, 16] rfl) hp
  · replace hp := ite_n hp c5
    refine lv_iload hx hb dL_law_910 (zm_at hl 11 rfl) ?_
    refine lv_sipush (v := iI 144) hx hb dL_law_912 (by decide +kernel) ?_
    refine lv_idiv hx hb dL_law_915 (by decide +kernel) ?_
    refine lv_iconst (v := iI 2) hx hb dL_law_916 rfl ?_
    refine lv_irem hx hb dL_law_917 (by decide +kernel) ?_
    refine lv_if_ne (tgt := 1059) hx hb dL_law_918 (by decide) (fun c6 => ?_) (fun c6 => ?_)
    · replace hp := ite_n hp c6
      exact s_L_law_1059 hfl eX hz0 hz1 hz2 C hk54 hR hL (zm_sub hl [2, 3, 4, 5, 6, 0, 7, 8, 1, 9, 16] rfl) hp
    · replace hp := ite_p hp c6
      refine z_aload_n hx hb dL_law_921 rfl (zm_at hl 2 rfl) ?_
      refine lv_iload hx hb dL_law_922 (zm_at hl 0 rfl) ?_
      refine lv_iconst (v := iI 1) hx hb dL_law_924 rfl ?_
      refine lv_isub hx hb dL_law_925 ?_
      obtain ⟨r7, h8, er7, hp⟩ := bR_i hp
      refine r_callSH (n := 2) (As := [zr v1, .int (x4 - (iI 1))]) (rest := []) C (c_L_spared l hfl G v1 (x4 - (iI 1)) h3 r7 h8 er7) hR hL mw_896 mw_897 mw_0 mw_898 (by decide +kernel) (by decide) rfl (zm_size hl) rfl (by simp [zr_cat, in_cat, lo_cat, re_cat]) dL_law_926 (st2 := [.int r7]) rfl (fun H locs cells slots hR hL => ?_)
      refine zm_istore (lv' := [(23, .int r7), (6, .int x4), (9, .int s0), (1, zr v1), (2, zr v2), (3, zr v3), (4, zr v4), (5, zr v5), (7, .int v7), (8, .int v8), (10, .int v10), (14, .int v14), (16, .int v16), (19, .int v19), (20, .int v20), (21, .int v21), (22, .int v22), (0, .ref b)]) hx hb dL_law_929 hl (by decide) (by repeat (first | exact noL_nil _ | refine noL_i ?_ | refine noL_z ?_ | refine noL_r ?_ | refine noL_c (by decide) ?_)) rfl (fun ls hl => ?_)
      refine z_aload_n hx hb dL_law_931 rfl (zm_at hl 3 rfl) ?_
      refine lv_iload hx hb dL_law_932 (zm_at hl 1 rfl) ?_
      refine lv_iconst (v := iI 1) hx hb dL_law_934 rfl ?_
      refine lv_isub hx hb dL_law_935 ?_
      obtain ⟨r9, h10, er9, hp⟩ := bR_i hp
      refine r_callSH (n := 2) (As := [zr v1, .int (x4 - (iI 1))]) (rest := []) C (c_L_come l hfl G v1 (x4 - (iI 1)) h8 r9 h10 er9) hR hL mw_824 mw_825 mw_0 mw_826 (by decide +kernel) (by decide) rfl (zm_size hl) rfl (by simp [zr_cat, in_cat, lo_cat, re_cat]) dL_law_936 (st2 := [.int r9]) rfl (fun H locs cells slots hR hL => ?_)
      refine zm_istore (lv' := [(24, .int r9), (23, .int r7), (6, .int x4), (9, .int s0), (1, zr v1), (2, zr v2), (3, zr v3), (4, zr v4), (5, zr v5), (7, .int v7), (8, .int v8), (10, .int v10), (14, .int v14), (16, .int v16), (19, .int v19), (20, .int v20), (21, .int v21), (22, .int v22), (0, .ref b)]) hx hb dL_law_939 hl (by decide) (by repeat (first | exact noL_nil _ | refine noL_i ?_ | refine noL_z ?_ | refine noL_r ?_ | refine noL_c (by decide) ?_)) rfl (fun ls hl => ?_)
      refine z_aload hx hb dL_law_941 (zm_at hl 7 rfl) ?_
      refine lv_iload hx hb dL_law_943 (zm_at hl 2 rfl) ?_
      refine lv_iconst (v := iI 1) hx hb dL_law_945 rfl ?_
      refine lv_isub hx hb dL_law_946 ?_
      refine lv_iconst (v := iI 1) hx hb dL_law_947 rfl ?_
      obtain ⟨k11, hp⟩ := ck_i hp
      refine r_iast hx hb hK hR hL k11.1 k11.2 dL_law_948 (fun H locs hR hL => ?_)
      obtain ⟨h13, hp, hR⟩ := nm_h hp hR
      refine lv_iload hx hb dL_law_949 (zm_at hl 0 rfl) ?_
      refine lv_if_lt (tgt := 1056) hx hb dL_law_951 (by decide) (fun c14 => ?_) (fun c14 => ?_)
      · replace hp := ite_p hp c14
        exact s_L_law_1056 hfl eX hz0 hz1 hz2 C hk54 hR hL (zm_sub hl [4, 5, 6, 7, 8, 2, 9, 10, 11, 18] rfl) hp
      · replace hp := ite_n hp c14
        refine lv_iload hx hb dL_law_954 (zm_at hl 16 rfl) ?_
        refine lv_iconst (v := iI 2) hx hb dL_law_956 rfl ?_
        refine lv_icmp_lt (tgt := 965) hx hb dL_law_957 (by decide) (fun c15 => ?_) (fun c15 => ?_)
        · replace hp := ite_p hp c15
          exact s_L_law_965 hfl eX hz0 hz1 hz2 C hk54 hR hL (zm_sub hl [4, 5, 6, 7, 8, 2, 9, 10, 11, 12, 14, 15, 16, 17, 1, 0, 18] rfl) hp
        · replace hp := ite_n hp c15
          refine lv_iload hx hb dL_law_960 (zm_at hl 1 rfl) ?_
          refine lv_if_ne (tgt := 1056) hx hb dL_law_962 (by decide) (fun c16 => ?_) (fun c16 => ?_)
          · replace hp := ite_n hp c16
            exact s_L_law_1056 hfl eX hz0 hz1 hz2 C hk54 hR hL (zm_sub hl [4, 5, 6, 7, 8, 2, 9, 10, 11, 18] rfl) hp
          · replace hp := ite_p hp c16
            exact s_L_law_965 hfl eX hz0 hz1 hz2 C hk54 hR hL (zm_sub hl [4, 5, 6, 7, 8, 2, 9, 10, 11, 12, 14, 15, 16, 17, 1, 0, 18] rfl) hp
def p_L_law_879 (xs : Nat → Int32) (L : Nat) (k54 : Nat → Nat → Nat → Nat → Nat → Int32 → Int32 → Int32 → Int32 → Int32 → AH → Option (Int32 × AH)) (v1 : Nat) (v2 : Nat) (v3 : Nat) (v4 : Nat) (v5 : Nat) (v6 : Int32) (v7 : Int32) (v8 : Int32) (v10 : Int32) (v14 : Int32) (v16 : Int32) (v19 : Int32) (v20 : Int32) (v21 : Int32) (v22 : Int32) (h : AH) : Option (Int32 × AH) :=
  p_L_law_880 xs L k54 v1 v2 v3 v4 v5 v6 v7 v8 v10 v14 v16 v19 v20 v21 v22 (iI 0) h
set_option maxHeartbeats 4000000 in
set_option maxRecDepth 100000 in
theorem s_L_law_879 {p : Program} {l : Launch} {e : Env} {s : State} {m : MethodId} {b L : Nat} {xs : Nat → Int32} {nm : String} {below : List Frame} {meth : Method} {c : Code} {G : GG} {hs : AH}  {h' : AH} (hfl : l.stackTraces = false) (eX : gX G = (b, L, xs)) (hz0 : s.heap.size = gB G) (hz1 : gC G - aZ hs = 600130) (hz2 : aU hs = 0) (C : Cx G hs p s m #[Value.ref b] meth c cL_law 28 RL lw_tbl (some .boolean) nm) {k54 : Nat → Nat → Nat → Nat → Nat → Int32 → Int32 → Int32 → Int32 → Int32 → AH → Option (Int32 × AH)} (hk54 : ∀ {v1 : Nat} {v2 : Nat} {v3 : Nat} {v4 : Nat} {v5 : Nat} {v6 : Int32} {v7 : Int32} {v8 : Int32} {v9 : Int32} {v10 : Int32} {h : AH} {H : Heap} {locs : List Loc} {cells slots : Nat} {ls : Array Slot}, Rp G h H → (∀ q ∈ locs, gB G ≤ q.base) → zm ls 28 [(1, zr v1), (2, zr v2), (3, zr v3), (4, zr v4), (5, zr v5), (6, .int v6), (7, .int v7), (8, .int v8), (9, .int v9), (10, .int v10), (0, .ref b)] → k54 v1 v2 v3 v4 v5 v6 v7 v8 v9 v10 h = some (iI 1, h') → W p l e (gR G hs 16 610) s m #[Value.ref b] below meth c H locs cells slots (lw_Z below #[Value.ref b] s) (F0 m 54 ls [])) {v1 : Nat} {v2 : Nat} {v3 : Nat} {v4 : Nat} {v5 : Nat} {v6 : Int32} {v7 : Int32} {v8 : Int32} {v10 : Int32} {v14 : Int32} {v16 : Int32} {v19 : Int32} {v20 : Int32} {v21 : Int32} {v22 : Int32} {h : AH} {H : Heap} {locs : List Loc} {cells slots : Nat} {ls : Array Slot} (hR : Rp G h H) (hL : ∀ q ∈ locs, gB G ≤ q.base) (hl : zm ls 28 [(1, zr v1), (2, zr v2), (3, zr v3), (4, zr v4), (5, zr v5), (6, .int v6), (7, .int v7), (8, .int v8), (10, .int v10), (14, .int v14), (16, .int v16), (19, .int v19), (20, .int v20), (21, .int v21), (22, .int v22), (0, .ref b)]) (hp : p_L_law_879 xs L k54 v1 v2 v3 v4 v5 v6 v7 v8 v10 v14 v16 v19 v20 v21 v22 h = some (iI 1, h')) : W p l e (gR G hs 16 610) s m #[Value.ref b] below meth c H locs cells slots (lw_Z below #[Value.ref b] s) (F0 m 879 ls []) := by
  obtain ⟨hx, hb, hml, hown, hts, hT, hK, rs, hlk, hret, hnm⟩ := id C
  have hm : ∀ w ∈ MW, w.before #[Value.ref b] s = true := fun w hw => hts w (hT w hw)
  obtain ⟨hX, hbB⟩ := hK.scr eX
  unfold p_L_law_879 at hp
  refine lv_iconst (v := iI 0) hx hb dL_law_879 rfl ?_
  exact s_L_law_880 hfl eX hz0 hz1 hz2 C hk54 hR hL (zm_sub hl [0, 1, 2, 3, 4, 5, 6, 7, 8, 9, 10, 11, 12, 13, 14, 15] rfl) hp
def p_L_law_817 (xs : Nat → Int32) (L : Nat) (k54 : Nat → Nat → Nat → Nat → Nat → Int32 → Int32 → Int32 → Int32 → Int32 → AH → Option (Int32 × AH)) (v1 : Nat) (v2 : Nat) (v3 : Nat) (v4 : Nat) (v5 : Nat) (v6 : Int32) (v7 : Int32) (v8 : Int32) (v10 : Int32) (v14 : Int32) (v16 : Int32) (v17 : Int64) (v19 : Int32) (v20 : Int32) (v21 : Int32) (s0 : Int32) (h : AH) : Option (Int32 × AH) :=
  bR (p_L_ask v1 v14 v21 s0 h) fun r1 h2 =>
  if r1 = v6 then
    bR (p_L_state v1 v6 h2) fun r4 h5 =>
    if r4 = 0 then
      bR (p_L_spared v1 v6 h5) fun r7 h8 =>
      if r7 < 0 then
        p_L_law_879 xs L k54 v1 v2 v3 v4 v5 v6 v7 v8 v10 v14 v16 v19 v20 v21 s0 h8
      else
        bR (p_L_looks v1 v14 h8) fun r10 h11 =>
        if (lg_cmp r10 v17) = 0 then
          bR (p_L_version v1 v14 h11) fun r13 h14 =>
          if r13 = v19 then
            p_L_law_880 xs L k54 v1 v2 v3 v4 v5 v6 v7 v8 v10 v14 v16 v19 v20 v21 s0 (iI 1) h14
          else
            p_L_law_879 xs L k54 v1 v2 v3 v4 v5 v6 v7 v8 v10 v14 v16 v19 v20 v21 s0 h14
        else
          p_L_law_879 xs L k54 v1 v2 v3 v4 v5 v6 v7 v8 v10 v14 v16 v19 v20 v21 s0 h11
    else
      p_L_law_879 xs L k54 v1 v2 v3 v4 v5 v6 v7 v8 v10 v14 v16 v19 v20 v21 s0 h5
  else
    p_L_law_879 xs L k54 v1 v2 v3 v4 v5 v6 v7 v8 v10 v14 v16 v19 v20 v21 s0 h2
set_option maxHeartbeats 4000000 in
set_option maxRecDepth 100000 in
theorem s_L_law_817 {p : Program} {l : Launch} {e : Env} {s : State} {m : MethodId} {b L : Nat} {xs : Nat → Int32} {nm : String} {below : List Frame} {meth : Method} {c : Code} {G : GG} {hs : AH}  {h' : AH} (hfl : l.stackTraces = false) (eX : gX G = (b, L, xs)) (hz0 : s.heap.size = gB G) (hz1 : gC G - aZ hs = 600130) (hz2 : aU hs = 0) (C : Cx G hs p s m #[Value.ref b] meth c cL_law 28 RL lw_tbl (some .boolean) nm) {k54 : Nat → Nat → Nat → Nat → Nat → Int32 → Int32 → Int32 → Int32 → Int32 → AH → Option (Int32 × AH)} (hk54 : ∀ {v1 : Nat} {v2 : Nat} {v3 : Nat} {v4 : Nat} {v5 : Nat} {v6 : Int32} {v7 : Int32} {v8 : Int32} {v9 : Int32} {v10 : Int32} {h : AH} {H : Heap} {locs : List Loc} {cells slots : Nat} {ls : Array Slot}, Rp G h H → (∀ q ∈ locs, gB G ≤ q.base) → zm ls 28 [(1, zr v1), (2, zr v2), (3, zr v3), (4, zr v4), (5, zr v5), (6, .int v6), (7, .int v7), (8, .int v8), (9, .int v9), (10, .int v10), (0, .ref b)] → k54 v1 v2 v3 v4 v5 v6 v7 v8 v9 v10 h = some (iI 1, h') → W p l e (gR G hs 16 610) s m #[Value.ref b] below meth c H locs cells slots (lw_Z below #[Value.ref b] s) (F0 m 54 ls [])) {v1 : Nat} {v2 : Nat} {v3 : Nat} {v4 : Nat} {v5 : Nat} {v6 : Int32} {v7 : Int32} {v8 : Int32} {v10 : Int32} {v14 : Int32} {v16 : Int32} {v17 : Int64} {v19 : Int32} {v20 : Int32} {v21 : Int32} {s0 : Int32} {h : AH} {H : Heap} {locs : List Loc} {cells slots : Nat} {ls : Array Slot} (hR : Rp G h H) (hL : ∀ q ∈ locs, gB G ≤ q.base) (hl : zm ls 28 [(1, zr v1), (2, zr v2), (3, zr v3), (4, zr v4), (5, zr v5), (6, .int v6), (7, .int v7), (8, .int v8), (10, .int v10), (14, .int v14), (16, .int v16), (17, .long v17), (19, .int v19), (20, .int v20), (21, .int v21), (0, .ref b)]) (hp : p_L_law_817 xs L k54 v1 v2 v3 v4 v5 v6 v7 v8 v10 v14 v16 v17 v19 v20 v21 s0 h = some (iI 1, h')) : W p l e (gR G hs 16 610) s m #[Value.ref b] below meth c H locs cells slots (lw_Z below #[Value.ref b] s) (F0 m 817 ls [.int s0]) := by
  obtain ⟨hx, hb, hml, hown, hts, hT, hK, rs, hlk, hret, hnm⟩ := id C
  have hm : ∀ w ∈ MW, w.before #[Value.ref b] s = true := fun w hw => hts w (hT w hw)
  obtain ⟨hX, hbB⟩ := hK.scr eX
  unfold p_L_law_817 at hp
  refine zm_istore (lv' := [(22, .int s0), (1, zr v1), (2, zr v2), (3, zr v3), (4, zr v4), (5, zr v5), (6, .int v6), (7, .int v7), (8, .int v8), (10, .int v10), (14, .int v14), (16, .int v16), (17, .long v17), (19, .int v19), (20, .int v20), (21, .int v21), (0, .ref b)]) hx hb dL_law_817 hl (by decide) (by repeat (first | exact noL_nil _ | refine noL_i ?_ | refine noL_z ?_ | refine noL_r ?_ | refine noL_c (by decide) ?_)) rfl (fun ls hl => ?_)
  refine z_aload_n hx hb dL_law_819 rfl (zm_at hl 1 rfl) ?_
  refine lv_iload hx hb dL_law_820 (zm_at hl 10 rfl) ?_
  refine lv_iload hx hb dL_law_822 (zm_at hl 15 rfl) ?_
  refine lv_iload hx hb dL_law_824 (zm_at hl 0 rfl) ?_
  obtain ⟨r1, h2, er1, hp⟩ := bR_i hp
  refine r_callSH (n := 4) (As := [zr v1, .int v14, .int v21, .int s0]) (rest := []) C (c_L_ask l hfl G v1 v14 v21 s0 h r1 h2 er1) hR hL mw_690 mw_691 mw_0 mw_692 (by decide +kernel) (by decide) rfl (zm_size hl) rfl (by simp [zr_cat, in_cat, lo_cat, re_cat]) dL_law_826 (st2 := [.int r1]) rfl (fun H locs cells slots hR hL => ?_)
  refine lv_iload hx hb dL_law_829 (zm_at hl 6 rfl) ?_
  refine lv_icmp_ne (tgt := 879) hx hb dL_law_831 (by decide) (fun c3 => ?_) (fun c3 => ?_)
  · replace hp := ite_n hp c3
    exact s_L_law_879 hfl eX hz0 hz1 hz2 C hk54 hR hL (zm_sub hl [1, 2, 3, 4, 5, 6, 7, 8, 9, 10, 11, 13, 14, 15, 0, 16] rfl) hp
  · replace hp := ite_p hp c3
    refine z_aload_n hx hb dL_law_834 rfl (zm_at hl 1 rfl) ?_
    refine lv_iload hx hb dL_law_835 (zm_at hl 6 rfl) ?_
    obtain ⟨r4, h5, er4, hp⟩ := bR_i hp
    refine r_callSH (n := 2) (As := [zr v1, .int v6]) (rest := []) C (c_L_state l hfl G v1 v6 h2 r4 h5 er4) hR hL mw_889 mw_890 mw_0 mw_891 (by decide +kernel) (by decide) rfl (zm_size hl) rfl (by simp [zr_cat, in_cat, lo_cat, re_cat]) dL_law_837 (st2 := [.int r4]) rfl (fun H locs cells slots hR hL => ?_)
    refine lv_if_ne (tgt := 879) hx hb dL_law_840 (by decide) (fun c6 => ?_) (fun c6 => ?_)
    · replace hp := ite_n hp c6
      exact s_L_law_879 hfl eX hz0 hz1 hz2 C hk54 hR hL (zm_sub hl [1, 2, 3, 4, 5, 6, 7, 8, 9, 10, 11, 13, 14, 15, 0, 16] rfl) hp
    · replace hp := ite_p hp c6
      refine z_aload_n hx hb dL_law_843 rfl (zm_at hl 1 rfl) ?_
      refine lv_iload hx hb dL_law_844 (zm_at hl 6 rfl) ?_
      obtain ⟨r7, h8, er7, hp⟩ := bR_i hp
      refine r_callSH (n := 2) (As := [zr v1, .int v6]) (rest := []) C (c_L_spared l hfl G v1 v6 h5 r7 h8 er7) hR hL mw_896 mw_897 mw_0 mw_898 (by decide +kernel) (by decide) rfl (zm_size hl) rfl (by simp [zr_cat, in_cat, lo_cat, re_cat]) dL_law_846 (st2 := [.int r7]) rfl (fun H locs cells slots hR hL => ?_)
      refine lv_if_lt (tgt := 879) hx hb dL_law_849 (by decide) (fun c9 => ?_) (fun c9 => ?_)
      · replace hp := ite_p hp c9
        exact s_L_law_879 hfl eX hz0 hz1 hz2 C hk54 hR hL (zm_sub hl [1, 2, 3, 4, 5, 6, 7, 8, 9, 10, 11, 13, 14, 15, 0, 16] rfl) hp
      · replace hp := ite_n hp c9
        refine z_aload_n hx hb dL_law_852 rfl (zm_at hl 1 rfl) ?_
        refine lv_iload hx hb dL_law_853 (zm_at hl 10 rfl) ?_
        obtain ⟨r10, h11, er10, hp⟩ := bR_i hp
        refine r_callS (n := 2) (As := [zr v1, .int v14]) (rest := []) C (c_L_looks l hfl G v1 v14 h8 r10 h11 er10) hR hL mw_962 mw_963 mw_0 mw_964 (by decide +kernel) (by decide) rfl (zm_size hl) rfl (by simp [zr_cat, in_cat, lo_cat, re_cat]) dL_law_855 (st2 := [.long r10]) rfl (fun H locs cells slots hR hL => ?_)
        refine lv_lload hx hb dL_law_858 (zm_at hl 12 rfl) ?_
        refine W.lcmp hx hb dL_law_860 ?_
        refine lv_if_ne (tgt := 879) hx hb dL_law_861 (by decide) (fun c12 => ?_) (fun c12 => ?_)
        · replace hp := ite_n hp c12
          exact s_L_law_879 hfl eX hz0 hz1 hz2 C hk54 hR hL (zm_sub hl [1, 2, 3, 4, 5, 6, 7, 8, 9, 10, 11, 13, 14, 15, 0, 16] rfl) hp
        · replace hp := ite_p hp c12
          refine z_aload_n hx hb dL_law_864 rfl (zm_at hl 1 rfl) ?_
          refine lv_iload hx hb dL_law_865 (zm_at hl 10 rfl) ?_
          obtain ⟨r13, h14, er13, hp⟩ := bR_i hp
          refine r_callSH (n := 2) (As := [zr v1, .int v14]) (rest := []) C (c_L_version l hfl G v1 v14 h11 r13 h14 er13) hR hL mw_683 mw_684 mw_0 mw_685 (by decide +kernel) (by decide) rfl (zm_size hl) rfl (by simp [zr_cat, in_cat, lo_cat, re_cat]) dL_law_867 (st2 := [.int r13]) rfl (fun H locs cells slots hR hL => ?_)
          refine lv_iload hx hb dL_law_870 (zm_at hl 13 rfl) ?_
          refine lv_icmp_ne (tgt := 879) hx hb dL_law_872 (by decide) (fun c15 => ?_) (fun c15 => ?_)
          · replace hp := ite_n hp c15
            exact s_L_law_879 hfl eX hz0 hz1 hz2 C hk54 hR hL (zm_sub hl [1, 2, 3, 4, 5, 6, 7, 8, 9, 10, 11, 13, 14, 15, 0, 16] rfl) hp
          · replace hp := ite_p hp c15
            refine lv_iconst (v := iI 1) hx hb dL_law_875 rfl ?_
            refine lv_goto (tgt := 880) hx hb dL_law_876 (by decide) ?_
            exact s_L_law_880 hfl eX hz0 hz1 hz2 C hk54 hR hL (zm_sub hl [1, 2, 3, 4, 5, 6, 7, 8, 9, 10, 11, 13, 14, 15, 0, 16] rfl) hp
def p_L_law_1364 (xs : Nat → Int32) (L : Nat) (k54 : Nat → Nat → Nat → Nat → Nat → Int32 → Int32 → Int32 → Int32 → Int32 → AH → Option (Int32 × AH)) (v1 : Nat) (v2 : Nat) (v3 : Nat) (v4 : Nat) (v5 : Nat) (v6 : Int32) (v7 : Int32) (v8 : Int32) (v9 : Int32) (v10 : Int32) (s0 : Nat) (s1 : Int32) (s2 : Int32) (h : AH) : Option (Int32 × AH) :=
  ck (aK h s0 = 20 ∧ ix s1 (aN h s0)) <|
  nm (uI h s0 s1.toNatClampNeg s2) fun h3 =>
  p_L_law_1640 xs L k54 v1 v2 v3 v4 v5 v6 v7 v8 v9 v10 h3
set_option maxHeartbeats 4000000 in
set_option maxRecDepth 100000 in
theorem s_L_law_1364 {p : Program} {l : Launch} {e : Env} {s : State} {m : MethodId} {b L : Nat} {xs : Nat → Int32} {nm : String} {below : List Frame} {meth : Method} {c : Code} {G : GG} {hs : AH}  {h' : AH} (hfl : l.stackTraces = false) (eX : gX G = (b, L, xs)) (hz0 : s.heap.size = gB G) (hz1 : gC G - aZ hs = 600130) (hz2 : aU hs = 0) (C : Cx G hs p s m #[Value.ref b] meth c cL_law 28 RL lw_tbl (some .boolean) nm) {k54 : Nat → Nat → Nat → Nat → Nat → Int32 → Int32 → Int32 → Int32 → Int32 → AH → Option (Int32 × AH)} (hk54 : ∀ {v1 : Nat} {v2 : Nat} {v3 : Nat} {v4 : Nat} {v5 : Nat} {v6 : Int32} {v7 : Int32} {v8 : Int32} {v9 : Int32} {v10 : Int32} {h : AH} {H : Heap} {locs : List Loc} {cells slots : Nat} {ls : Array Slot}, Rp G h H → (∀ q ∈ locs, gB G ≤ q.base) → zm ls 28 [(1, zr v1), (2, zr v2), (3, zr v3), (4, zr v4), (5, zr v5), (6, .int v6), (7, .int v7), (8, .int v8), (9, .int v9), (10, .int v10), (0, .ref b)] → k54 v1 v2 v3 v4 v5 v6 v7 v8 v9 v10 h = some (iI 1, h') → W p l e (gR G hs 16 610) s m #[Value.ref b] below meth c H locs cells slots (lw_Z below #[Value.ref b] s) (F0 m 54 ls [])) {v1 : Nat} {v2 : Nat} {v3 : Nat} {v4 : Nat} {v5 : Nat} {v6 : Int32} {v7 : Int32} {v8 : Int32} {v9 : Int32} {v10 : Int32} {s0 : Nat} {s1 : Int32} {s2 : Int32} {h : AH} {H : Heap} {locs : List Loc} {cells slots : Nat} {ls : Array Slot} (hR : Rp G h H) (hL : ∀ q ∈ locs, gB G ≤ q.base) (hl : zm ls 28 [(1, zr v1), (2, zr v2), (3, zr v3), (4, zr v4), (5, zr v5), (6, .int v6), (7, .int v7), (8, .int v8), (9, .int v9), (10, .int v10), (0, .ref b)]) (hp : p_L_law_1364 xs L k54 v1 v2 v3 v4 v5 v6 v7 v8 v9 v10 s0 s1 s2 h = some (iI 1, h')) : W p l e (gR G hs 16 610) s m #[Value.ref b] below meth c H locs cells slots (lw_Z below #[Value.ref b] s) (F0 m 1364 ls [.int s2, .int s1, zr s0]) := by
  obtain ⟨hx, hb, hml, hown, hts, hT, hK, rs, hlk, hret, hnm⟩ := id C
  have hm : ∀ w ∈ MW, w.before #[Value.ref b] s = true := fun w hw => hts w (hT w hw)
  obtain ⟨hX, hbB⟩ := hK.scr eX
  unfold p_L_law_1364 at hp
  obtain ⟨k1, hp⟩ := ck_i hp
  refine r_iast hx hb hK hR hL k1.1 k1.2 dL_law_1364 (fun H locs hR hL => ?_)
  obtain ⟨h3, hp, hR⟩ := nm_h hp hR
  refine lv_goto (tgt := 1640) hx hb dL_law_1365 (by decide) ?_
  exact s_L_law_1640 hfl eX hz0 hz1 hz2 C hk54 hR hL (zm_sub hl [0, 1, 2, 3, 4, 5, 6, 7, 8, 9, 10] rfl) hp
def p_L_law_1332 (xs : Nat → Int32) (L : Nat) (k54 : Nat → Nat → Nat → Nat → Nat → Int32 → Int32 → Int32 → Int32 → Int32 → AH → Option (Int32 × AH)) (v1 : Nat) (v2 : Nat) (v3 : Nat) (v4 : Nat) (v5 : Nat) (v6 : Int32) (v7 : Int32) (v8 : Int32) (v10 : Int32) (v21 : Int32) (v27 : Int32) (s0 : Int32) (h : AH) : Option (Int32 × AH) :=
  ck (aK h v4 = 20 ∧ ix v21 (aN h v4)) <|
  if (aI h v4 v21.toNatClampNeg) ≤ 0 then
    if v27 = 0 then
      p_L_law_1364 xs L k54 v1 v2 v3 v4 v5 v6 v7 v8 s0 v10 v4 v21 (iI 1) h
    else
      p_L_law_1364 xs L k54 v1 v2 v3 v4 v5 v6 v7 v8 s0 v10 v4 v21 (iI 2) h
  else
    ck (aK h v4 = 20 ∧ ix v21 (aN h v4)) <|
    p_L_law_1364 xs L k54 v1 v2 v3 v4 v5 v6 v7 v8 s0 v10 v4 v21 (aI h v4 v21.toNatClampNeg) h
set_option maxHeartbeats 4000000 in
set_option maxRecDepth 100000 in
theorem s_L_law_1332 {p : Program} {l : Launch} {e : Env} {s : State} {m : MethodId} {b L : Nat} {xs : Nat → Int32} {nm : String} {below : List Frame} {meth : Method} {c : Code} {G : GG} {hs : AH}  {h' : AH} (hfl : l.stackTraces = false) (eX : gX G = (b, L, xs)) (hz0 : s.heap.size = gB G) (hz1 : gC G - aZ hs = 600130) (hz2 : aU hs = 0) (C : Cx G hs p s m #[Value.ref b] meth c cL_law 28 RL lw_tbl (some .boolean) nm) {k54 : Nat → Nat → Nat → Nat → Nat → Int32 → Int32 → Int32 → Int32 → Int32 → AH → Option (Int32 × AH)} (hk54 : ∀ {v1 : Nat} {v2 : Nat} {v3 : Nat} {v4 : Nat} {v5 : Nat} {v6 : Int32} {v7 : Int32} {v8 : Int32} {v9 : Int32} {v10 : Int32} {h : AH} {H : Heap} {locs : List Loc} {cells slots : Nat} {ls : Array Slot}, Rp G h H → (∀ q ∈ locs, gB G ≤ q.base) → zm ls 28 [(1, zr v1), (2, zr v2), (3, zr v3), (4, zr v4), (5, zr v5), (6, .int v6), (7, .int v7), (8, .int v8), (9, .int v9), (10, .int v10), (0, .ref b)] → k54 v1 v2 v3 v4 v5 v6 v7 v8 v9 v10 h = some (iI 1, h') → W p l e (gR G hs 16 610) s m #[Value.ref b] below meth c H locs cells slots (lw_Z below #[Value.ref b] s) (F0 m 54 ls [])) {v1 : Nat} {v2 : Nat} {v3 : Nat} {v4 : Nat} {v5 : Nat} {v6 : Int32} {v7 : Int32} {v8 : Int32} {v10 : Int32} {v21 : Int32} {v27 : Int32} {s0 : Int32} {h : AH} {H : Heap} {locs : List Loc} {cells slots : Nat} {ls : Array Slot} (hR : Rp G h H) (hL : ∀ q ∈ locs, gB G ≤ q.base) (hl : zm ls 28 [(1, zr v1), (2, zr v2), (3, zr v3), (4, zr v4), (5, zr v5), (6, .int v6), (7, .int v7), (8, .int v8), (10, .int v10), (21, .int v21), (27, .int v27), (0, .ref b)]) (hp : p_L_law_1332 xs L k54 v1 v2 v3 v4 v5 v6 v7 v8 v10 v21 v27 s0 h = some (iI 1, h')) : W p l e (gR G hs 16 610) s m #[Value.ref b] below meth c H locs cells slots (lw_Z below #[Value.ref b] s) (F0 m 1332 ls [.int s0]) := by
  obtain ⟨hx, hb, hml, hown, hts, hT, hK, rs, hlk, hret, hnm⟩ := id C
  have hm : ∀ w ∈ MW, w.before #[Value.ref b] s = true := fun w hw => hts w (hT w hw)
  obtain ⟨hX, hbB⟩ := hK.scr eX
  unfold p_L_law_1332 at hp
  refine zm_istore (lv' := [(9, .int s0), (1, zr v1), (2, zr v2), (3, zr v3), (4, zr v4), (5, zr v5), (6, .int v6), (7, .int v7), (8, .int v8), (10, .int v10), (21, .int v21), (27, .int v27), (0, .ref b)]) hx hb dL_law_1332 hl (by decide) (by repeat (first | exact noL_nil _ | refine noL_i ?_ | refine noL_z ?_ | refine noL_r ?_ | refine noL_c (by decide) ?_)) rfl (fun ls hl => ?_)
  refine z_aload hx hb dL_law_1334 (zm_at hl 4 rfl) ?_
  refine lv_iload hx hb dL_law_1336 (zm_at hl 10 rfl) ?_
  refine z_aload hx hb dL_law_1338 (zm_at hl 4 rfl) ?_
  refine lv_iload hx hb dL_law_1340 (zm_at hl 10 rfl) ?_
  obtain ⟨k1, hp⟩ := ck_i hp
  refine r_iald hx hb hK hR k1.1 k1.2 dL_law_1342 ?_
  refine lv_if_le (tgt := 1354) hx hb dL_law_1343 (by decide) (fun c3 => ?_) (fun c3 => ?_)
  · replace hp := ite_p hp c3
    refine lv_iload hx hb dL_law_1354 (zm_at hl 11 rfl) ?_
    refine lv_if_eq (tgt := 1363) hx hb dL_law_1356 (by decide) (fun c4 => ?_) (fun c4 => ?_)
    · replace hp := ite_p hp c4
      refine lv_iconst (v := iI 1) hx hb dL_law_1363 rfl ?_
      exact s_L_law_1364 hfl eX hz0 hz1 hz2 C hk54 hR hL (zm_sub hl [1, 2, 3, 4, 5, 6, 7, 8, 0, 9, 12] rfl) hp
    · replace hp := ite_n hp c4
      refine lv_iconst (v := iI 2) hx hb dL_law_1359 rfl ?_
      refine lv_goto (tgt := 1364) hx hb dL_law_1360 (by decide) ?_
      exact s_L_law_1364 hfl eX hz0 hz1 hz2 C hk54 hR hL (zm_sub hl [1, 2, 3, 4, 5, 6, 7, 8, 0, 9, 12] rfl) hp
  · replace hp := ite_n hp c3
    refine z_aload hx hb dL_law_1346 (zm_at hl 4 rfl) ?_
    refine lv_iload hx hb dL_law_1348 (zm_at hl 10 rfl) ?_
    obtain ⟨k5, hp⟩ := ck_i hp
    refine r_iald hx hb hK hR k5.1 k5.2 dL_law_1350 ?_
    refine lv_goto (tgt := 1364) hx hb dL_law_1351 (by decide) ?_
    exact s_L_law_1364 hfl eX hz0 hz1 hz2 C hk54 hR hL (zm_sub hl [1, 2, 3, 4, 5, 6, 7, 8, 0, 9, 12] rfl) hp
def p_L_law_1190 (xs : Nat → Int32) (L : Nat) (k54 : Nat → Nat → Nat → Nat → Nat → Int32 → Int32 → Int32 → Int32 → Int32 → AH → Option (Int32 × AH)) (v1 : Nat) (v2 : Nat) (v3 : Nat) (v4 : Nat) (v5 : Nat) (v6 : Int32) (v7 : Int32) (v8 : Int32) (v10 : Int32) (v21 : Int32) (v27 : Int32) (h : AH) : Option (Int32 × AH) :=
  p_L_law_1332 xs L k54 v1 v2 v3 v4 v5 v6 v7 v8 v10 v21 v27 (iI 0) h
set_option maxHeartbeats 4000000 in
set_option maxRecDepth 100000 in
theorem s_L_law_1190 {p : Program} {l : Launch} {e : Env} {s : State} {m : MethodId} {b L : Nat} {xs : Nat → Int32} {nm : String} {below : List Frame} {meth : Method} {c : Code} {G : GG} {hs : AH}  {h' : AH} (hfl : l.stackTraces = false) (eX : gX G = (b, L, xs)) (hz0 : s.heap.size = gB G) (hz1 : gC G - aZ hs = 600130) (hz2 : aU hs = 0) (C : Cx G hs p s m #[Value.ref b] meth c cL_law 28 RL lw_tbl (some .boolean) nm) {k54 : Nat → Nat → Nat → Nat → Nat → Int32 → Int32 → Int32 → Int32 → Int32 → AH → Option (Int32 × AH)} (hk54 : ∀ {v1 : Nat} {v2 : Nat} {v3 : Nat} {v4 : Nat} {v5 : Nat} {v6 : Int32} {v7 : Int32} {v8 : Int32} {v9 : Int32} {v10 : Int32} {h : AH} {H : Heap} {locs : List Loc} {cells slots : Nat} {ls : Array Slot}, Rp G h H → (∀ q ∈ locs, gB G ≤ q.base) → zm ls 28 [(1, zr v1), (2, zr v2), (3, zr v3), (4, zr v4), (5, zr v5), (6, .int v6), (7, .int v7), (8, .int v8), (9, .int v9), (10, .int v10), (0, .ref b)] → k54 v1 v2 v3 v4 v5 v6 v7 v8 v9 v10 h = some (iI 1, h') → W p l e (gR G hs 16 610) s m #[Value.ref b] below meth c H locs cells slots (lw_Z below #[Value.ref b] s) (F0 m 54 ls [])) {v1 : Nat} {v2 : Nat} {v3 : Nat} {v4 : Nat} {v5 : Nat} {v6 : Int32} {v7 : Int32} {v8 : Int32} {v10 : Int32} {v21 : Int32} {v27 : Int32} {h : AH} {H : Heap} {locs : List Loc} {cells slots : Nat} {ls : Array Slot} (hR : Rp G h H) (hL : ∀ q ∈ locs, gB G ≤ q.base) (hl : zm ls 28 [(1, zr v1), (2, zr v2), (3, zr v3), (4, zr v4), (5, zr v5), (6, .int v6), (7, .int v7), (8, .int v8), (10, .int v10), (21, .int v21), (27, .int v27), (0, .ref b)]) (hp : p_L_law_1190 xs L k54 v1 v2 v3 v4 v5 v6 v7 v8 v10 v21 v27 h = some (iI 1, h')) : W p l e (gR G hs 16 610) s m #[Value.ref b] below meth c H locs cells slots (lw_Z below #[Value.ref b] s) (F0 m 1190 ls []) := by
  obtain ⟨hx, hb, hml, hown, hts, hT, hK, rs, hlk, hret, hnm⟩ := id C
  have hm : ∀ w ∈ MW, w.before #[Value.ref b] s = true := fun w hw => hts w (hT w hw)
  obtain ⟨hX, hbB⟩ := hK.scr eX
  unfold p_L_law_1190 at hp
  refine lv_iconst (v := iI 0) hx hb dL_law_1190 rfl ?_
  refine lv_goto (tgt := 1332) hx hb dL_law_1191 (by decide) ?_
  exact s_L_law_1332 hfl eX hz0 hz1 hz2 C hk54 hR hL (zm_sub hl [0, 1, 2, 3, 4, 5, 6, 7, 8, 9, 10, 11] rfl) hp
def p_L_law_1242 (xs : Nat → Int32) (L : Nat) (k54 : Nat → Nat → Nat → Nat → Nat → Int32 → Int32 → Int32 → Int32 → Int32 → AH → Option (Int32 × AH)) (v1 : Nat) (v2 : Nat) (v3 : Nat) (v4 : Nat) (v5 : Nat) (v6 : Int32) (v7 : Int32) (v8 : Int32) (v10 : Int32) (v21 : Int32) (v27 : Int32) (h : AH) : Option (Int32 × AH) :=
  p_L_law_1332 xs L k54 v1 v2 v3 v4 v5 v6 v7 v8 v10 v21 v27 (iI 0) h
set_option maxHeartbeats 4000000 in
set_option maxRecDepth 100000 in
theorem s_L_law_1242 {p : Program} {l : Launch} {e : Env} {s : State} {m : MethodId} {b L : Nat} {xs : Nat → Int32} {nm : String} {below : List Frame} {meth : Method} {c : Code} {G : GG} {hs : AH}  {h' : AH} (hfl : l.stackTraces = false) (eX : gX G = (b, L, xs)) (hz0 : s.heap.size = gB G) (hz1 : gC G - aZ hs = 600130) (hz2 : aU hs = 0) (C : Cx G hs p s m #[Value.ref b] meth c cL_law 28 RL lw_tbl (some .boolean) nm) {k54 : Nat → Nat → Nat → Nat → Nat → Int32 → Int32 → Int32 → Int32 → Int32 → AH → Option (Int32 × AH)} (hk54 : ∀ {v1 : Nat} {v2 : Nat} {v3 : Nat} {v4 : Nat} {v5 : Nat} {v6 : Int32} {v7 : Int32} {v8 : Int32} {v9 : Int32} {v10 : Int32} {h : AH} {H : Heap} {locs : List Loc} {cells slots : Nat} {ls : Array Slot}, Rp G h H → (∀ q ∈ locs, gB G ≤ q.base) → zm ls 28 [(1, zr v1), (2, zr v2), (3, zr v3), (4, zr v4), (5, zr v5), (6, .int v6), (7, .int v7), (8, .int v8), (9, .int v9), (10, .int v10), (0, .ref b)] → k54 v1 v2 v3 v4 v5 v6 v7 v8 v9 v10 h = some (iI 1, h') → W p l e (gR G hs 16 610) s m #[Value.ref b] below meth c H locs cells slots (lw_Z below #[Value.ref b] s) (F0 m 54 ls [])) {v1 : Nat} {v2 : Nat} {v3 : Nat} {v4 : Nat} {v5 : Nat} {v6 : Int32} {v7 : Int32} {v8 : Int32} {v10 : Int32} {v21 : Int32} {v27 : Int32} {h : AH} {H : Heap} {locs : List Loc} {cells slots : Nat} {ls : Array Slot} (hR : Rp G h H) (hL : ∀ q ∈ locs, gB G ≤ q.base) (hl : zm ls 28 [(1, zr v1), (2, zr v2), (3, zr v3), (4, zr v4), (5, zr v5), (6, .int v6), (7, .int v7), (8, .int v8), (10, .int v10), (21, .int v21), (27, .int v27), (0, .ref b)]) (hp : p_L_law_1242 xs L k54 v1 v2 v3 v4 v5 v6 v7 v8 v10 v21 v27 h = some (iI 1, h')) : W p l e (gR G hs 16 610) s m #[Value.ref b] below meth c H locs cells slots (lw_Z below #[Value.ref b] s) (F0 m 1242 ls []) := by
  obtain ⟨hx, hb, hml, hown, hts, hT, hK, rs, hlk, hret, hnm⟩ := id C
  have hm : ∀ w ∈ MW, w.before #[Value.ref b] s = true := fun w hw => hts w (hT w hw)
  obtain ⟨hX, hbB⟩ := hK.scr eX
  unfold p_L_law_1242 at hp
  refine lv_iconst (v := iI 0) hx hb dL_law_1242 rfl ?_
  refine lv_goto (tgt := 1332) hx hb dL_law_1243 (by decide) ?_
  exact s_L_law_1332 hfl eX hz0 hz1 hz2 C hk54 hR hL (zm_sub hl [0, 1, 2, 3, 4, 5, 6, 7, 8, 9, 10, 11] rfl) hp
def p_L_law_1331 (xs : Nat → Int32) (L : Nat) (k54 : Nat → Nat → Nat → Nat → Nat → Int32 → Int32 → Int32 → Int32 → Int32 → AH → Option (Int32 × AH)) (v1 : Nat) (v2 : Nat) (v3 : Nat) (v4 : Nat) (v5 : Nat) (v6 : Int32) (v7 : Int32) (v8 : Int32) (v10 : Int32) (v21 : Int32) (v27 : Int32) (h : AH) : Option (Int32 × AH) :=
  p_L_law_1332 xs L k54 v1 v2 v3 v4 v5 v6 v7 v8 v10 v21 v27 (iI 0) h
set_option maxHeartbeats 4000000 in
set_option maxRecDepth 100000 in
theorem s_L_law_1331 {p : Program} {l : Launch} {e : Env} {s : State} {m : MethodId} {b L : Nat} {xs : Nat → Int32} {nm : String} {below : List Frame} {meth : Method} {c : Code} {G : GG} {hs : AH}  {h' : AH} (hfl : l.stackTraces = false) (eX : gX G = (b, L, xs)) (hz0 : s.heap.size = gB G) (hz1 : gC G - aZ hs = 600130) (hz2 : aU hs = 0) (C : Cx G hs p s m #[Value.ref b] meth c cL_law 28 RL lw_tbl (some .boolean) nm) {k54 : Nat → Nat → Nat → Nat → Nat → Int32 → Int32 → Int32 → Int32 → Int32 → AH → Option (Int32 × AH)} (hk54 : ∀ {v1 : Nat} {v2 : Nat} {v3 : Nat} {v4 : Nat} {v5 : Nat} {v6 : Int32} {v7 : Int32} {v8 : Int32} {v9 : Int32} {v10 : Int32} {h : AH} {H : Heap} {locs : List Loc} {cells slots : Nat} {ls : Array Slot}, Rp G h H → (∀ q ∈ locs, gB G ≤ q.base) → zm ls 28 [(1, zr v1), (2, zr v2), (3, zr v3), (4, zr v4), (5, zr v5), (6, .int v6), (7, .int v7), (8, .int v8), (9, .int v9), (10, .int v10), (0, .ref b)] → k54 v1 v2 v3 v4 v5 v6 v7 v8 v9 v10 h = some (iI 1, h') → W p l e (gR G hs 16 610) s m #[Value.ref b] below meth c H locs cells slots (lw_Z below #[Value.ref b] s) (F0 m 54 ls [])) {v1 : Nat} {v2 : Nat} {v3 : Nat} {v4 : Nat} {v5 : Nat} {v6 : Int32} {v7 : Int32} {v8 : Int32} {v10 : Int32} {v21 : Int32} {v27 : Int32} {h : AH} {H : Heap} {locs : List Loc} {cells slots : Nat} {ls : Array Slot} (hR : Rp G h H) (hL : ∀ q ∈ locs, gB G ≤ q.base) (hl : zm ls 28 [(1, zr v1), (2, zr v2), (3, zr v3), (4, zr v4), (5, zr v5), (6, .int v6), (7, .int v7), (8, .int v8), (10, .int v10), (21, .int v21), (27, .int v27), (0, .ref b)]) (hp : p_L_law_1331 xs L k54 v1 v2 v3 v4 v5 v6 v7 v8 v10 v21 v27 h = some (iI 1, h')) : W p l e (gR G hs 16 610) s m #[Value.ref b] below meth c H locs cells slots (lw_Z below #[Value.ref b] s) (F0 m 1331 ls []) := by
  obtain ⟨hx, hb, hml, hown, hts, hT, hK, rs, hlk, hret, hnm⟩ := id C
  have hm : ∀ w ∈ MW, w.before #[Value.ref b] s = true := fun w hw => hts w (hT w hw)
  obtain ⟨hX, hbB⟩ := hK.scr eX
  unfold p_L_law_1331 at hp
  refine lv_iconst (v := iI 0) hx hb dL_law_1331 rfl ?_
  exact s_L_law_1332 hfl eX hz0 hz1 hz2 C hk54 hR hL (zm_sub hl [0, 1, 2, 3, 4, 5, 6, 7, 8, 9, 10, 11] rfl) hp
def p_L_law_1323 (xs : Nat → Int32) (L : Nat) (k54 : Nat → Nat → Nat → Nat → Nat → Int32 → Int32 → Int32 → Int32 → Int32 → AH → Option (Int32 × AH)) (v1 : Nat) (v2 : Nat) (v3 : Nat) (v4 : Nat) (v5 : Nat) (v6 : Int32) (v7 : Int32) (v8 : Int32) (v10 : Int32) (v21 : Int32) (v27 : Int32) (s0 : Int32) (s1 : Int32) (s2 : Int32) (h : AH) : Option (Int32 × AH) :=
  if s0 = (s1 - s2) then
    p_L_law_1332 xs L k54 v1 v2 v3 v4 v5 v6 v7 v8 v10 v21 v27 (iI 1) h
  else
    p_L_law_1331 xs L k54 v1 v2 v3 v4 v5 v6 v7 v8 v10 v21 v27 h
set_option maxHeartbeats 4000000 in
set_option maxRecDepth 100000 in
theorem s_L_law_1323 {p : Program} {l : Launch} {e : Env} {s : State} {m : MethodId} {b L : Nat} {xs : Nat → Int32} {nm : String} {below : List Frame} {meth : Method} {c : Code} {G : GG} {hs : AH}  {h' : AH} (hfl : l.stackTraces = false) (eX : gX G = (b, L, xs)) (hz0 : s.heap.size = gB G) (hz1 : gC G - aZ hs = 600130) (hz2 : aU hs = 0) (C : Cx G hs p s m #[Value.ref b] meth c cL_law 28 RL lw_tbl (some .boolean) nm) {k54 : Nat → Nat → Nat → Nat → Nat → Int32 → Int32 → Int32 → Int32 → Int32 → AH → Option (Int32 × AH)} (hk54 : ∀ {v1 : Nat} {v2 : Nat} {v3 : Nat} {v4 : Nat} {v5 : Nat} {v6 : Int32} {v7 : Int32} {v8 : Int32} {v9 : Int32} {v10 : Int32} {h : AH} {H : Heap} {locs : List Loc} {cells slots : Nat} {ls : Array Slot}, Rp G h H → (∀ q ∈ locs, gB G ≤ q.base) → zm ls 28 [(1, zr v1), (2, zr v2), (3, zr v3), (4, zr v4), (5, zr v5), (6, .int v6), (7, .int v7), (8, .int v8), (9, .int v9), (10, .int v10), (0, .ref b)] → k54 v1 v2 v3 v4 v5 v6 v7 v8 v9 v10 h = some (iI 1, h') → W p l e (gR G hs 16 610) s m #[Value.ref b] below meth c H locs cells slots (lw_Z below #[Value.ref b] s) (F0 m 54 ls [])) {v1 : Nat} {v2 : Nat} {v3 : Nat} {v4 : Nat} {v5 : Nat} {v6 : Int32} {v7 : Int32} {v8 : Int32} {v10 : Int32} {v21 : Int32} {v27 : Int32} {s0 : Int32} {s1 : Int32} {s2 : Int32} {h : AH} {H : Heap} {locs : List Loc} {cells slots : Nat} {ls : Array Slot} (hR : Rp G h H) (hL : ∀ q ∈ locs, gB G ≤ q.base) (hl : zm ls 28 [(1, zr v1), (2, zr v2), (3, zr v3), (4, zr v4), (5, zr v5), (6, .int v6), (7, .int v7), (8, .int v8), (10, .int v10), (21, .int v21), (27, .int v27), (0, .ref b)]) (hp : p_L_law_1323 xs L k54 v1 v2 v3 v4 v5 v6 v7 v8 v10 v21 v27 s0 s1 s2 h = some (iI 1, h')) : W p l e (gR G hs 16 610) s m #[Value.ref b] below meth c H locs cells slots (lw_Z below #[Value.ref b] s) (F0 m 1323 ls [.int s2, .int s1, .int s0]) := by
  obtain ⟨hx, hb, hml, hown, hts, hT, hK, rs, hlk, hret, hnm⟩ := id C
  have hm : ∀ w ∈ MW, w.before #[Value.ref b] s = true := fun w hw => hts w (hT w hw)
  obtain ⟨hX, hbB⟩ := hK.scr eX
  unfold p_L_law_1323 at hp
  refine lv_isub hx hb dL_law_1323 ?_
  refine lv_icmp_ne (tgt := 1331) hx hb dL_law_1324 (by decide) (fun c1 => ?_) (fun c1 => ?_)
  · replace hp := ite_n hp c1
    exact s_L_law_1331 hfl eX hz0 hz1 hz2 C hk54 hR hL (zm_sub hl [0, 1, 2, 3, 4, 5, 6, 7, 8, 9, 10, 11] rfl) hp
  · replace hp := ite_p hp c1
    refine lv_iconst (v := iI 1) hx hb dL_law_1327 rfl ?_
    refine lv_goto (tgt := 1332) hx hb dL_law_1328 (by decide) ?_
    exact s_L_law_1332 hfl eX hz0 hz1 hz2 C hk54 hR hL (zm_sub hl [0, 1, 2, 3, 4, 5, 6, 7, 8, 9, 10, 11] rfl) hp
def p_L_law_1290 (xs : Nat → Int32) (L : Nat) (k54 : Nat → Nat → Nat → Nat → Nat → Int32 → Int32 → Int32 → Int32 → Int32 → AH → Option (Int32 × AH)) (v1 : Nat) (v2 : Nat) (v3 : Nat) (v4 : Nat) (v5 : Nat) (v6 : Int32) (v7 : Int32) (v8 : Int32) (v10 : Int32) (v21 : Int32) (v22 : Int32) (v25 : Int32) (v26 : Int32) (v27 : Int32) (s0 : Int32) (s1 : Int32) (s2 : Int32) (h : AH) : Option (Int32 × AH) :=
  if s0 = (s1 + s2) then
    bR (p_L_length v1 v22 h) fun r2 h3 =>
    ck (aK h3 v5 = 20 ∧ ix v21 (aN h3 v5)) <|
    if (iI 2) ≤ (((aI h3 v5 v21.toNatClampNeg) / (iI 100)) - ((aI h3 v5 v21.toNatClampNeg) / (iI 100)) / (iI 10) * (iI 10)) then
      p_L_law_1323 xs L k54 v1 v2 v3 v4 v5 v6 v7 v8 v10 v21 v27 r2 v25 (iI 0) h3
    else
      p_L_law_1323 xs L k54 v1 v2 v3 v4 v5 v6 v7 v8 v10 v21 v27 r2 v25 v26 h3
  else
    p_L_law_1331 xs L k54 v1 v2 v3 v4 v5 v6 v7 v8 v10 v21 v27 h
set_option maxHeartbeats 4000000 in
set_option maxRecDepth 100000 in
theorem s_L_law_1290 {p : Program} {l : Launch} {e : Env} {s : State} {m : MethodId} {b L : Nat} {xs : Nat → Int32} {nm : String} {below : List Frame} {meth : Method} {c : Code} {G : GG} {hs : AH}  {h' : AH} (hfl : l.stackTraces = false) (eX : gX G = (b, L, xs)) (hz0 : s.heap.size = gB G) (hz1 : gC G - aZ hs = 600130) (hz2 : aU hs = 0) (C : Cx G hs p s m #[Value.ref b] meth c cL_law 28 RL lw_tbl (some .boolean) nm) {k54 : Nat → Nat → Nat → Nat → Nat → Int32 → Int32 → Int32 → Int32 → Int32 → AH → Option (Int32 × AH)} (hk54 : ∀ {v1 : Nat} {v2 : Nat} {v3 : Nat} {v4 : Nat} {v5 : Nat} {v6 : Int32} {v7 : Int32} {v8 : Int32} {v9 : Int32} {v10 : Int32} {h : AH} {H : Heap} {locs : List Loc} {cells slots : Nat} {ls : Array Slot}, Rp G h H → (∀ q ∈ locs, gB G ≤ q.base) → zm ls 28 [(1, zr v1), (2, zr v2), (3, zr v3), (4, zr v4), (5, zr v5), (6, .int v6), (7, .int v7), (8, .int v8), (9, .int v9), (10, .int v10), (0, .ref b)] → k54 v1 v2 v3 v4 v5 v6 v7 v8 v9 v10 h = some (iI 1, h') → W p l e (gR G hs 16 610) s m #[Value.ref b] below meth c H locs cells slots (lw_Z below #[Value.ref b] s) (F0 m 54 ls [])) {v1 : Nat} {v2 : Nat} {v3 : Nat} {v4 : Nat} {v5 : Nat} {v6 : Int32} {v7 : Int32} {v8 : Int32} {v10 : Int32} {v21 : Int32} {v22 : Int32} {v25 : Int32} {v26 : Int32} {v27 : Int32} {s0 : Int32} {s1 : Int32} {s2 : Int32} {h : AH} {H : Heap} {locs : List Loc} {cells slots : Nat} {ls : Array Slot} (hR : Rp G h H) (hL : ∀ q ∈ locs, gB G ≤ q.base) (hl : zm ls 28 [(1, zr v1), (2, zr v2), (3, zr v3), (4, zr v4), (5, zr v5), (6, .int v6), (7, .int v7), (8, .int v8), (10, .int v10), (21, .int v21), (22, .int v22), (25, .int v25), (26, .int v26), (27, .int v27), (0, .ref b)]) (hp : p_L_law_1290 xs L k54 v1 v2 v3 v4 v5 v6 v7 v8 v10 v21 v22 v25 v26 v27 s0 s1 s2 h = some (iI 1, h')) : W p l e (gR G hs 16 610) s m #[Value.ref b] below meth c H locs cells slots (lw_Z below #[Value.ref b] s) (F0 m 1290 ls [.int s2, .int s1, .int s0]) := by
  obtain ⟨hx, hb, hml, hown, hts, hT, hK, rs, hlk, hret, hnm⟩ := id C
  have hm : ∀ w ∈ MW, w.before #[Value.ref b] s = true := fun w hw => hts w (hT w hw)
  obtain ⟨hX, hbB⟩ := hK.scr eX
  unfold p_L_law_1290 at hp
  refine lv_iadd hx hb dL_law_1290 ?_
  refine lv_icmp_ne (tgt := 1331) hx hb dL_law_1291 (by decide) (fun c1 => ?_) (fun c1 => ?_)
  · replace hp := ite_n hp c1
    exact s_L_law_1331 hfl eX hz0 hz1 hz2 C hk54 hR hL (zm_sub hl [0, 1, 2, 3, 4, 5, 6, 7, 8, 9, 13, 14] rfl) hp
  · replace hp := ite_p hp c1
    refine z_aload_n hx hb dL_law_1294 rfl (zm_at hl 0 rfl) ?_
    refine lv_iload hx hb dL_law_1295 (zm_at hl 10 rfl) ?_
    obtain ⟨r2, h3, er2, hp⟩ := bR_i hp
    refine r_callSH (n := 2) (As := [zr v1, .int v22]) (rest := []) C (c_L_length l hfl G v1 v22 h r2 h3 er2) hR hL mw_665 mw_666 mw_0 mw_667 (by decide +kernel) (by decide) rfl (zm_size hl) rfl (by simp [zr_cat, in_cat, lo_cat, re_cat]) dL_law_1297 (st2 := [.int r2]) rfl (fun H locs cells slots hR hL => ?_)
    refine lv_iload hx hb dL_law_1300 (zm_at hl 11 rfl) ?_
    refine z_aload hx hb dL_law_1302 (zm_at hl 4 rfl) ?_
    refine lv_iload hx hb dL_law_1304 (zm_at hl 9 rfl) ?_
    obtain ⟨k4, hp⟩ := ck_i hp
    refine r_iald hx hb hK hR k4.1 k4.2 dL_law_1306 ?_
    refine lv_bipush (v := iI 100) hx hb dL_law_1307 (by decide +kernel) ?_
    refine lv_idiv hx hb dL_law_1309 (by decide +kernel) ?_
    refine lv_bipush (v := iI 10) hx hb dL_law_1310 (by decide +kernel) ?_
    refine lv_irem hx hb dL_law_1312 (by decide +kernel) ?_
    refine lv_iconst (v := iI 2) hx hb dL_law_1313 rfl ?_
    refine lv_icmp_ge (tgt := 1322) hx hb dL_law_1314 (by decide) (fun c6 => ?_) (fun c6 => ?_)
    · replace hp := ite_p hp c6
      refine lv_iconst (v := iI 0) hx hb dL_law_1322 rfl ?_
      exact s_L_law_1323 hfl eX hz0 hz1 hz2 C hk54 hR hL (zm_sub hl [0, 1, 2, 3, 4, 5, 6, 7, 8, 9, 13, 14] rfl) hp
    · replace hp := ite_n hp c6
      refine lv_iload hx hb dL_law_1317 (zm_at hl 12 rfl) ?_
      refine lv_goto (tgt := 1323) hx hb dL_law_1319 (by decide) ?_
      exact s_L_law_1323 hfl eX hz0 hz1 hz2 C hk54 hR hL (zm_sub hl [0, 1, 2, 3, 4, 5, 6, 7, 8, 9, 13, 14] rfl) hp
def p_L_law_1158 (xs : Nat → Int32) (L : Nat) (k54 : Nat → Nat → Nat → Nat → Nat → Int32 → Int32 → Int32 → Int32 → Int32 → AH → Option (Int32 × AH)) (v1 : Nat) (v2 : Nat) (v3 : Nat) (v4 : Nat) (v5 : Nat) (v6 : Int32) (v7 : Int32) (v8 : Int32) (v10 : Int32) (v21 : Int32) (v22 : Int32) (v23 : Int32) (v24 : Int32) (v25 : Int32) (v26 : Int32) (s0 : Int32) (h : AH) : Option (Int32 × AH) :=
  ck (aK h v4 = 20 ∧ ix v21 (aN h v4)) <|
  if (aI h v4 v21.toNatClampNeg) ≤ 0 then
    if s0 = 0 then
      if v26 < 0 then
        p_L_law_1331 xs L k54 v1 v2 v3 v4 v5 v6 v7 v8 v10 v21 s0 h
      else
        bR (p_L_state v1 v21 h) fun r6 h7 =>
        if r6 = (iI 1) then
          bR (p_L_spared v1 v21 h7) fun r9 h10 =>
          if r9 = v23 then
            bR (p_L_version v1 v22 h10) fun r12 h13 =>
            if v26 ≤ 0 then
              p_L_law_1290 xs L k54 v1 v2 v3 v4 v5 v6 v7 v8 v10 v21 v22 v25 v26 s0 r12 v24 (iI 0) h13
            else
              p_L_law_1290 xs L k54 v1 v2 v3 v4 v5 v6 v7 v8 v10 v21 v22 v25 v26 s0 r12 v24 (iI 1) h13
          else
            p_L_law_1331 xs L k54 v1 v2 v3 v4 v5 v6 v7 v8 v10 v21 s0 h10
        else
          p_L_law_1331 xs L k54 v1 v2 v3 v4 v5 v6 v7 v8 v10 v21 s0 h7
    else
      if v26 < v23 then
        p_L_law_1242 xs L k54 v1 v2 v3 v4 v5 v6 v7 v8 v10 v21 s0 h
      else
        bR (p_L_state v1 v21 h) fun r16 h17 =>
        if r16 = (iI 2) then
          bR (p_L_spared v1 v21 h17) fun r19 h20 =>
          if r19 = v26 then
            bR (p_L_version v1 v22 h20) fun r22 h23 =>
            if r22 = v24 then
              p_L_law_1332 xs L k54 v1 v2 v3 v4 v5 v6 v7 v8 v10 v21 s0 (iI 1) h23
            else
              p_L_law_1242 xs L k54 v1 v2 v3 v4 v5 v6 v7 v8 v10 v21 s0 h23
          else
            p_L_law_1242 xs L k54 v1 v2 v3 v4 v5 v6 v7 v8 v10 v21 s0 h20
        else
          p_L_law_1242 xs L k54 v1 v2 v3 v4 v5 v6 v7 v8 v10 v21 s0 h17
  else
    if v26 = (iI (-103)) then
      bR (p_L_spared v1 v21 h) fun r26 h27 =>
      if r26 = v23 then
        p_L_law_1332 xs L k54 v1 v2 v3 v4 v5 v6 v7 v8 v10 v21 s0 (iI 1) h27
      else
        p_L_law_1190 xs L k54 v1 v2 v3 v4 v5 v6 v7 v8 v10 v21 s0 h27
    else
      p_L_law_1190 xs L k54 v1 v2 v3 v4 v5 v6 v7 v8 v10 v21 s0 h
set_option maxHeartbeats 4000000 in
set_option maxRecDepth 100000 in
theorem s_L_law_1158 {p : Program} {l : Launch} {e : Env} {s : State} {m : MethodId} {b L : Nat} {xs : Nat → Int32} {nm : String} {below : List Frame} {meth : Method} {c : Code} {G : GG} {hs : AH}  {h' : AH} (hfl : l.stackTraces = false) (eX : gX G = (b, L, xs)) (hz0 : s.heap.size = gB G) (hz1 : gC G - aZ hs = 600130) (hz2 : aU hs = 0) (C : Cx G hs p s m #[Value.ref b] meth c cL_law 28 RL lw_tbl (some .boolean) nm) {k54 : Nat → Nat → Nat → Nat → Nat → Int32 → Int32 → Int32 → Int32 → Int32 → AH → Option (Int32 × AH)} (hk54 : ∀ {v1 : Nat} {v2 : Nat} {v3 : Nat} {v4 : Nat} {v5 : Nat} {v6 : Int32} {v7 : Int32} {v8 : Int32} {v9 : Int32} {v10 : Int32} {h : AH} {H : Heap} {locs : List Loc} {cells slots : Nat} {ls : Array Slot}, Rp G h H → (∀ q ∈ locs, gB G ≤ q.base) → zm ls 28 [(1, zr v1), (2, zr v2), (3, zr v3), (4, zr v4), (5, zr v5), (6, .int v6), (7, .int v7), (8, .int v8), (9, .int v9), (10, .int v10), (0, .ref b)] → k54 v1 v2 v3 v4 v5 v6 v7 v8 v9 v10 h = some (iI 1, h') → W p l e (gR G hs 16 610) s m #[Value.ref b] below meth c H locs cells slots (lw_Z below #[Value.ref b] s) (F0 m 54 ls [])) {v1 : Nat} {v2 : Nat} {v3 : Nat} {v4 : Nat} {v5 : Nat} {v6 : Int32} {v7 : Int32} {v8 : Int32} {v10 : Int32} {v21 : Int32} {v22 : Int32} {v23 : Int32} {v24 : Int32} {v25 : Int32} {v26 : Int32} {s0 : Int32} {h : AH} {H : Heap} {locs : List Loc} {cells slots : Nat} {ls : Array Slot} (hR : Rp G h H) (hL : ∀ q ∈ locs, gB G ≤ q.base) (hl : zm ls 28 [(1, zr v1), (2, zr v2), (3, zr v3), (4, zr v4), (5, zr v5), (6, .int v6), (7, .int v7), (8, .int v8), (10, .int v10), (21, .int v21), (22, .int v22), (23, .int v23), (24, .int v24), (25, .int v25), (26, .int v26), (0, .ref b)]) (hp : p_L_law_1158 xs L k54 v1 v2 v3 v4 v5 v6 v7 v8 v10 v21 v22 v23 v24 v25 v26 s0 h = some (iI 1, h')) : W p l e (gR G hs 16 610) s m #[Value.ref b] below meth c H locs cells slots (lw_Z below #[Value.ref b] s) (F0 m 1158 ls [.int s0]) := by
  obtain ⟨hx, hb, hml, hown, hts, hT, hK, rs, hlk, hret, hnm⟩ := id C
  have hm : ∀ w ∈ MW, w.before #[Value.ref b] s = true := fun w hw => hts w (hT w hw)
  obtain ⟨hX, hbB⟩ := hK.scr eX
  unfold p_L_law_1158 at hp
  refine zm_istore (lv' := [(27, .int s0), (1, zr v1), (2, zr v2), (3, zr v3), (4, zr v4), (5, zr v5), (6, .int v6), (7, .int v7), (8, .int v8), (10, .int v10), (21, .int v21), (22, .int v22), (23, .int v23), (24, .int v24), (25, .int v25), (26, .int v26), (0, .ref b)]) hx hb dL_law_1158 hl (by decide) (by repeat (first | exact noL_nil _ | refine noL_i ?_ | refine noL_z ?_ | refine noL_r ?_ | refine noL_c (by decide) ?_)) rfl (fun ls hl => ?_)
  refine z_aload hx hb dL_law_1160 (zm_at hl 4 rfl) ?_
  refine lv_iload hx hb dL_law_1162 (zm_at hl 10 rfl) ?_
  obtain ⟨k1, hp⟩ := ck_i hp
  refine r_iald hx hb hK hR k1.1 k1.2 dL_law_1164 ?_
  refine lv_if_le (tgt := 1194) hx hb dL_law_1165 (by decide) (fun c3 => ?_) (fun c3 => ?_)
  · replace hp := ite_p hp c3
    refine lv_iload hx hb dL_law_1194 (zm_at hl 0 rfl) ?_
    refine lv_if_eq (tgt := 1246) hx hb dL_law_1196 (by decide) (fun c4 => ?_) (fun c4 => ?_)
    · replace hp := ite_p hp c4
      refine lv_iload hx hb dL_law_1246 (zm_at hl 15 rfl) ?_
      refine lv_if_lt (tgt := 1331) hx hb dL_law_1248 (by decide) (fun c5 => ?_) (fun c5 => ?_)
      · replace hp := ite_p hp c5
        exact s_L_law_1331 hfl eX hz0 hz1 hz2 C hk54 hR hL (zm_sub hl [1, 2, 3, 4, 5, 6, 7, 8, 9, 10, 0, 16] rfl) hp
      · replace hp := ite_n hp c5
        refine z_aload_n hx hb dL_law_1251 rfl (zm_at hl 1 rfl) ?_
        refine lv_iload hx hb dL_law_1252 (zm_at hl 10 rfl) ?_
        obtain ⟨r6, h7, er6, hp⟩ := bR_i hp
        refine r_callSH (n := 2) (As := [zr v1, .int v21]) (rest := []) C (c_L_state l hfl G v1 v21 h r6 h7 er6) hR hL mw_889 mw_890 mw_0 mw_891 (by decide +kernel) (by decide) rfl (zm_size hl) rfl (by simp [zr_cat, in_cat, lo_cat, re_cat]) dL_law_1254 (st2 := [.int r6]) rfl (fun H locs cells slots hR hL => ?_)
        refine lv_iconst (v := iI 1) hx hb dL_law_1257 rfl ?_
        refine lv_icmp_ne (tgt := 1331) hx hb dL_law_1258 (by decide) (fun c8 => ?_) (fun c8 => ?_)
        · replace hp := ite_n hp c8
          exact s_L_law_1331 hfl eX hz0 hz1 hz2 C hk54 hR hL (zm_sub hl [1, 2, 3, 4, 5, 6, 7, 8, 9, 10, 0, 16] rfl) hp
        · replace hp := ite_p hp c8
          refine z_aload_n hx hb dL_law_1261 rfl (zm_at hl 1 rfl) ?_
          refine lv_iload hx hb dL_law_1262 (zm_at hl 10 rfl) ?_
          obtain ⟨r9, h10, er9, hp⟩ := bR_i hp
          refine r_callSH (n := 2) (As := [zr v1, .int v21]) (rest := []) C (c_L_spared l hfl G v1 v21 h7 r9 h10 er9) hR hL mw_896 mw_897 mw_0 mw_898 (by decide +kernel) (by decide) rfl (zm_size hl) rfl (by simp [zr_cat, in_cat, lo_cat, re_cat]) dL_law_1264 (st2 := [.int r9]) rfl (fun H locs cells slots hR hL => ?_)
          refine lv_iload hx hb dL_law_1267 (zm_at hl 12 rfl) ?_
          refine lv_icmp_ne (tgt := 1331) hx hb dL_law_1269 (by decide) (fun c11 => ?_) (fun c11 => ?_)
          · replace hp := ite_n hp c11
            exact s_L_law_1331 hfl eX hz0 hz1 hz2 C hk54 hR hL (zm_sub hl [1, 2, 3, 4, 5, 6, 7, 8, 9, 10, 0, 16] rfl) hp
          · replace hp := ite_p hp c11
            refine z_aload_n hx hb dL_law_1272 rfl (zm_at hl 1 rfl) ?_
            refine lv_iload hx hb dL_law_1273 (zm_at hl 11 rfl) ?_
            obtain ⟨r12, h13, er12, hp⟩ := bR_i hp
            refine r_callSH (n := 2) (As := [zr v1, .int v22]) (rest := []) C (c_L_version l hfl G v1 v22 h10 r12 h13 er12) hR hL mw_683 mw_684 mw_0 mw_685 (by decide +kernel) (by decide) rfl (zm_size hl) rfl (by simp [zr_cat, in_cat, lo_cat, re_cat]) dL_law_1275 (st2 := [.int r12]) rfl (fun H locs cells slots hR hL => ?_)
            refine lv_iload hx hb dL_law_1278 (zm_at hl 13 rfl) ?_
            refine lv_iload hx hb dL_law_1280 (zm_at hl 15 rfl) ?_
            refine lv_if_le (tgt := 1289) hx hb dL_law_1282 (by decide) (fun c14 => ?_) (fun c14 => ?_)
            · replace hp := ite_p hp c14
              refine lv_iconst (v := iI 0) hx hb dL_law_1289 rfl ?_
              exact s_L_law_1290 hfl eX hz0 hz1 hz2 C hk54 hR hL (zm_sub hl [1, 2, 3, 4, 5, 6, 7, 8, 9, 10, 11, 14, 15, 0, 16] rfl) hp
            · replace hp := ite_n hp c14
              refine lv_iconst (v := iI 1) hx hb dL_law_1285 rfl ?_
              refine lv_goto (tgt := 1290) hx hb dL_law_1286 (by decide) ?_
              exact s_L_law_1290 hfl eX hz0 hz1 hz2 C hk54 hR hL (zm_sub hl [1, 2, 3, 4, 5, 6, 7, 8, 9, 10, 11, 14, 15, 0, 16] rfl) hp
    · replace hp := ite_n hp c4
      refine lv_iload hx hb dL_law_1199 (zm_at hl 15 rfl) ?_
      refine lv_iload hx hb dL_law_1201 (zm_at hl 12 rfl) ?_
      refine lv_icmp_lt (tgt := 1242) hx hb dL_law_1203 (by decide) (fun c15 => ?_) (fun c15 => ?_)
      · replace hp := ite_p hp c15
        exact s_L_law_1242 hfl eX hz0 hz1 hz2 C hk54 hR hL (zm_sub hl [1, 2, 3, 4, 5, 6, 7, 8, 9, 10, 0, 16] rfl) hp
      · replace hp := ite_n hp c15
        refine z_aload_n hx hb dL_law_1206 rfl (zm_at hl 1 rfl) ?_
        refine lv_iload hx hb dL_law_1207 (zm_at hl 10 rfl) ?_
        obtain ⟨r16, h17, er16, hp⟩ := bR_i hp
        refine r_callSH (n := 2) (As := [zr v1, .int v21]) (rest := []) C (c_L_state l hfl G v1 v21 h r16 h17 er16) hR hL mw_889 mw_890 mw_0 mw_891 (by decide +kernel) (by decide) rfl (zm_size hl) rfl (by simp [zr_cat, in_cat, lo_cat, re_cat]) dL_law_1209 (st2 := [.int r16]) rfl (fun H locs cells slots hR hL => ?_)
        refine lv_iconst (v := iI 2) hx hb dL_law_1212 rfl ?_
        refine lv_icmp_ne (tgt := 1242) hx hb dL_law_1213 (by decide) (fun c18 => ?_) (fun c18 => ?_)
        · replace hp := ite_n hp c18
          exact s_L_law_1242 hfl eX hz0 hz1 hz2 C hk54 hR hL (zm_sub hl [1, 2, 3, 4, 5, 6, 7, 8, 9, 10, 0, 16] rfl) hp
        · replace hp := ite_p hp c18
          refine z_aload_n hx hb dL_law_1216 rfl (zm_at hl 1 rfl) ?_
          refine lv_iload hx hb dL_law_1217 (zm_at hl 10 rfl) ?_
          obtain ⟨r19, h20, er19, hp⟩ := bR_i hp
          refine r_callSH (n := 2) (As := [zr v1, .int v21]) (rest := []) C (c_L_spared l hfl G v1 v21 h17 r19 h20 er19) hR hL mw_896 mw_897 mw_0 mw_898 (by decide +kernel) (by decide) rfl (zm_size hl) rfl (by simp [zr_cat, in_cat, lo_cat, re_cat]) dL_law_1219 (st2 := [.int r19]) rfl (fun H locs cells slots hR hL => ?_)
          refine lv_iload hx hb dL_law_1222 (zm_at hl 15 rfl) ?_
          refine lv_icmp_ne (tgt := 1242) hx hb dL_law_1224 (by decide) (fun c21 => ?_) (fun c21 => ?_)
          · replace hp := ite_n hp c21
            exact s_L_law_1242 hfl eX hz0 hz1 hz2 C hk54 hR hL (zm_sub hl [1, 2, 3, 4, 5, 6, 7, 8, 9, 10, 0, 16] rfl) hp
          · replace hp := ite_p hp c21
            refine z_aload_n hx hb dL_law_1227 rfl (zm_at hl 1 rfl) ?_
            refine lv_iload hx hb dL_law_1228 (zm_at hl 11 rfl) ?_
            obtain ⟨r22, h23, er22, hp⟩ := bR_i hp
            refine r_callSH (n := 2) (As := [zr v1, .int v22]) (rest := []) C (c_L_version l hfl G v1 v22 h20 r22 h23 er22) hR hL mw_683 mw_684 mw_0 mw_685 (by decide +kernel) (by decide) rfl (zm_size hl) rfl (by simp [zr_cat, in_cat, lo_cat, re_cat]) dL_law_1230 (st2 := [.int r22]) rfl (fun H locs cells slots hR hL => ?_)
            refine lv_iload hx hb dL_law_1233 (zm_at hl 13 rfl) ?_
            refine lv_icmp_ne (tgt := 1242) hx hb dL_law_1235 (by decide) (fun c24 => ?_) (fun c24 => ?_)
            · replace hp := ite_n hp c24
              exact s_L_law_1242 hfl eX hz0 hz1 hz2 C hk54 hR hL (zm_sub hl [1, 2, 3, 4, 5, 6, 7, 8, 9, 10, 0, 16] rfl) hp
            · replace hp := ite_p hp c24
              refine lv_iconst (v := iI 1) hx hb dL_law_1238 rfl ?_
              refine lv_goto (tgt := 1332) hx hb dL_law_1239 (by decide) ?_
              exact s_L_law_1332 hfl eX hz0 hz1 hz2 C hk54 hR hL (zm_sub hl [1, 2, 3, 4, 5, 6, 7, 8, 9, 10, 0, 16] rfl) hp
  · replace hp := ite_n hp c3
    refine lv_iload hx hb dL_law_1168 (zm_at hl 15 rfl) ?_
    refine lv_bipush (v := iI (-103)) hx hb dL_law_1170 (by decide +kernel) ?_
    refine lv_icmp_ne (tgt := 1190) hx hb dL_law_1172 (by decide) (fun c25 => ?_) (fun c25 => ?_)
    · replace hp := ite_n hp c25
      exact s_L_law_1190 hfl eX hz0 hz1 hz2 C hk54 hR hL (zm_sub hl [1, 2, 3, 4, 5, 6, 7, 8, 9, 10, 0, 16] rfl) hp
    · replace hp := ite_p hp c25
      refine z_aload_n hx hb dL_law_1175 rfl (zm_at hl 1 rfl) ?_
      refine lv_iload hx hb dL_law_1176 (zm_at hl 10 rfl) ?_
      obtain ⟨r26, h27, er26, hp⟩ := bR_i hp
      refine r_callSH (n := 2) (As := [zr v1, .int v21]) (rest := []) C (c_L_spared l hfl G v1 v21 h r26 h27 er26) hR hL mw_896 mw_897 mw_0 mw_898 (by decide +kernel) (by decide) rfl (zm_size hl) rfl (by simp [zr_cat, in_cat, lo_cat, re_cat]) dL_law_1178 (st2 := [.int r26]) rfl (fun H locs cells slots hR hL => ?_)
      refine lv_iload hx hb dL_law_1181 (zm_at hl 12 rfl) ?_
      refine lv_icmp_ne (tgt := 1190) hx hb dL_law_1183 (by decide) (fun c28 => ?_) (fun c28 => ?_)
      · replace hp := ite_n hp c28
        exact s_L_law_1190 hfl eX hz0 hz1 hz2 C hk54 hR hL (zm_sub hl [1, 2, 3, 4, 5, 6, 7, 8, 9, 10, 0, 16] rfl) hp
      · replace hp := ite_p hp c28
        refine lv_iconst (v := iI 1) hx hb dL_law_1186 rfl ?_
        refine lv_goto (tgt := 1332) hx hb dL_law_1187 (by decide) ?_
        exact s_L_law_1332 hfl eX hz0 hz1 hz2 C hk54 hR hL (zm_sub hl [1, 2, 3, 4, 5, 6, 7, 8, 9, 10, 0, 16] rfl) hp
def p_L_law_1141 (xs : Nat → Int32) (L : Nat) (k54 : Nat → Nat → Nat → Nat → Nat → Int32 → Int32 → Int32 → Int32 → Int32 → AH → Option (Int32 × AH)) (v1 : Nat) (v2 : Nat) (v3 : Nat) (v4 : Nat) (v5 : Nat) (v6 : Int32) (v7 : Int32) (v8 : Int32) (v10 : Int32) (v16 : Int32) (v21 : Int32) (v22 : Int32) (v23 : Int32) (v24 : Int32) (v25 : Int32) (s0 : Int32) (h : AH) : Option (Int32 × AH) :=
  if ((v16 / (iI 60)) - (v16 / (iI 60)) / (iI 4) * (iI 4)) = 0 then
    p_L_law_1158 xs L k54 v1 v2 v3 v4 v5 v6 v7 v8 v10 v21 v22 v23 v24 v25 s0 (iI 1) h
  else
    p_L_law_1158 xs L k54 v1 v2 v3 v4 v5 v6 v7 v8 v10 v21 v22 v23 v24 v25 s0 (iI 0) h
set_option maxHeartbeats 4000000 in
set_option maxRecDepth 100000 in
theorem s_L_law_1141 {p : Program} {l : Launch} {e : Env} {s : State} {m : MethodId} {b L : Nat} {xs : Nat → Int32} {nm : String} {below : List Frame} {meth : Method} {c : Code} {G : GG} {hs : AH}  {h' : AH} (hfl : l.stackTraces = false) (eX : gX G = (b, L, xs)) (hz0 : s.heap.size = gB G) (hz1 : gC G - aZ hs = 600130) (hz2 : aU hs = 0) (C : Cx G hs p s m #[Value.ref b] meth c cL_law 28 RL lw_tbl (some .boolean) nm) {k54 : Nat → Nat → Nat → Nat → Nat → Int32 → Int32 → Int32 → Int32 → Int32 → AH → Option (Int32 × AH)} (hk54 : ∀ {v1 : Nat} {v2 : Nat} {v3 : Nat} {v4 : Nat} {v5 : Nat} {v6 : Int32} {v7 : Int32} {v8 : Int32} {v9 : Int32} {v10 : Int32} {h : AH} {H : Heap} {locs : List Loc} {cells slots : Nat} {ls : Array Slot}, Rp G h H → (∀ q ∈ locs, gB G ≤ q.base) → zm ls 28 [(1, zr v1), (2, zr v2), (3, zr v3), (4, zr v4), (5, zr v5), (6, .int v6), (7, .int v7), (8, .int v8), (9, .int v9), (10, .int v10), (0, .ref b)] → k54 v1 v2 v3 v4 v5 v6 v7 v8 v9 v10 h = some (iI 1, h') → W p l e (gR G hs 16 610) s m #[Value.ref b] below meth c H locs cells slots (lw_Z below #[Value.ref b] s) (F0 m 54 ls [])) {v1 : Nat} {v2 : Nat} {v3 : Nat} {v4 : Nat} {v5 : Nat} {v6 : Int32} {v7 : Int32} {v8 : Int32} {v10 : Int32} {v16 : Int32} {v21 : Int32} {v22 : Int32} {v23 : Int32} {v24 : Int32} {v25 : Int32} {s0 : Int32} {h : AH} {H : Heap} {locs : List Loc} {cells slots : Nat} {ls : Array Slot} (hR : Rp G h H) (hL : ∀ q ∈ locs, gB G ≤ q.base) (hl : zm ls 28 [(1, zr v1), (2, zr v2), (3, zr v3), (4, zr v4), (5, zr v5), (6, .int v6), (7, .int v7), (8, .int v8), (10, .int v10), (16, .int v16), (21, .int v21), (22, .int v22), (23, .int v23), (24, .int v24), (25, .int v25), (0, .ref b)]) (hp : p_L_law_1141 xs L k54 v1 v2 v3 v4 v5 v6 v7 v8 v10 v16 v21 v22 v23 v24 v25 s0 h = some (iI 1, h')) : W p l e (gR G hs 16 610) s m #[Value.ref b] below meth c H locs cells slots (lw_Z below #[Value.ref b] s) (F0 m 1141 ls [.int s0]) := by
  obtain ⟨hx, hb, hml, hown, hts, hT, hK, rs, hlk, hret, hnm⟩ := id C
  have hm : ∀ w ∈ MW, w.before #[Value.ref b] s = true := fun w hw => hts w (hT w hw)
  obtain ⟨hX, hbB⟩ := hK.scr eX
  unfold p_L_law_1141 at hp
  refine zm_istore (lv' := [(26, .int s0), (1, zr v1), (2, zr v2), (3, zr v3), (4, zr v4), (5, zr v5), (6, .int v6), (7, .int v7), (8, .int v8), (10, .int v10), (16, .int v16), (21, .int v21), (22, .int v22), (23, .int v23), (24, .int v24), (25, .int v25), (0, .ref b)]) hx hb dL_law_1141 hl (by decide) (by repeat (first | exact noL_nil _ | refine noL_i ?_ | refine noL_z ?_ | refine noL_r ?_ | refine noL_c (by decide) ?_)) rfl (fun ls hl => ?_)
  refine lv_iload hx hb dL_law_1143 (zm_at hl 10 rfl) ?_
  refine lv_bipush (v := iI 60) hx hb dL_law_1145 (by decide +kernel) ?_
  refine lv_idiv hx hb dL_law_1147 (by decide +kernel) ?_
  refine lv_iconst (v := iI 4) hx hb dL_law_1148 rfl ?_
  refine lv_irem hx hb dL_law_1149 (by decide +kernel) ?_
  refine lv_if_ne (tgt := 1157) hx hb dL_law_1150 (by decide) (fun c1 => ?_) (fun c1 => ?_)
  · replace hp := ite_n hp c1
    refine lv_iconst (v := iI 0) hx hb dL_law_1157 rfl ?_
    exact s_L_law_1158 hfl eX hz0 hz1 hz2 C hk54 hR hL (zm_sub hl [1, 2, 3, 4, 5, 6, 7, 8, 9, 11, 12, 13, 14, 15, 0, 16] rfl) hp
  · replace hp := ite_p hp c1
    refine lv_iconst (v := iI 1) hx hb dL_law_1153 rfl ?_
    refine lv_goto (tgt := 1158) hx hb dL_law_1154 (by decide) ?_
    exact s_L_law_1158 hfl eX hz0 hz1 hz2 C hk54 hR hL (zm_sub hl [1, 2, 3, 4, 5, 6, 7, 8, 9, 11, 12, 13, 14, 15, 0, 16] rfl) hp
def p_L_law_1446 (xs : Nat → Int32) (L : Nat) (k54 : Nat → Nat → Nat → Nat → Nat → Int32 → Int32 → Int32 → Int32 → Int32 → AH → Option (Int32 × AH)) (v1 : Nat) (v2 : Nat) (v3 : Nat) (v4 : Nat) (v5 : Nat) (v6 : Int32) (v7 : Int32) (v8 : Int32) (v10 : Int32) (s0 : Int32) (h : AH) : Option (Int32 × AH) :=
  p_L_law_1640 xs L k54 v1 v2 v3 v4 v5 v6 v7 v8 s0 v10 h
set_option maxHeartbeats 4000000 in
set_option maxRecDepth 100000 in
theorem s_L_law_1446 {p : Program} {l : Launch} {e : Env} {s : State} {m : MethodId} {b L : Nat} {xs : Nat → Int32} {nm : String} {below : List Frame} {meth : Method} {c : Code} {G : GG} {hs : AH}  {h' : AH} (hfl : l.stackTraces = false) (eX : gX G = (b, L, xs)) (hz0 : s.heap.size = gB G) (hz1 : gC G - aZ hs = 600130) (hz2 : aU hs = 0) (C : Cx G hs p s m #[Value.ref b] meth c cL_law 28 RL lw_tbl (some .boolean) nm) {k54 : Nat → Nat → Nat → Nat → Nat → Int32 → Int32 → Int32 → Int32 → Int32 → AH → Option (Int32 × AH)} (hk54 : ∀ {v1 : Nat} {v2 : Nat} {v3 : Nat} {v4 : Nat} {v5 : Nat} {v6 : Int32} {v7 : Int32} {v8 : Int32} {v9 : Int32} {v10 : Int32} {h : AH} {H : Heap} {locs : List Loc} {cells slots : Nat} {ls : Array Slot}, Rp G h H → (∀ q ∈ locs, gB G ≤ q.base) → zm ls 28 [(1, zr v1), (2, zr v2), (3, zr v3), (4, zr v4), (5, zr v5), (6, .int v6), (7, .int v7), (8, .int v8), (9, .int v9), (10, .int v10), (0, .ref b)] → k54 v1 v2 v3 v4 v5 v6 v7 v8 v9 v10 h = some (iI 1, h') → W p l e (gR G hs 16 610) s m #[Value.ref b] below meth c H locs cells slots (lw_Z below #[Value.ref b] s) (F0 m 54 ls [])) {v1 : Nat} {v2 : Nat} {v3 : Nat} {v4 : Nat} {v5 : Nat} {v6 : Int32} {v7 : Int32} {v8 : Int32} {v10 : Int32} {s0 : Int32} {h : AH} {H : Heap} {locs : List Loc} {cells slots : Nat} {ls : Array Slot} (hR : Rp G h H) (hL : ∀ q ∈ locs, gB G ≤ q.base) (hl : zm ls 28 [(1, zr v1), (2, zr v2), (3, zr v3), (4, zr v4), (5, zr v5), (6, .int v6), (7, .int v7), (8, .int v8), (10, .int v10), (0, .ref b)]) (hp : p_L_law_1446 xs L k54 v1 v2 v3 v4 v5 v6 v7 v8 v10 s0 h = some (iI 1, h')) : W p l e (gR G hs 16 610) s m #[Value.ref b] below meth c H locs cells slots (lw_Z below #[Value.ref b] s) (F0 m 1446 ls [.int s0]) := by
  obtain ⟨hx, hb, hml, hown, hts, hT, hK, rs, hlk, hret, hnm⟩ := id C
  have hm : ∀ w ∈ MW, w.before #[Value.ref b] s = true := fun w hw => hts w (hT w hw)
  obtain ⟨hX, hbB⟩ := hK.scr eX
  unfold p_L_law_1446 at hp
  refine zm_istore (lv' := [(9, .int s0), (1, zr v1), (2, zr v2), (3, zr v3), (4, zr v4), (5, zr v5), (6, .int v6), (7, .int v7), (8, .int v8), (10, .int v10), (0, .ref b)]) hx hb dL_law_1446 hl (by decide) (by repeat (first | exact noL_nil _ | refine noL_i ?_ | refine noL_z ?_ | refine noL_r ?_ | refine noL_c (by decide) ?_)) rfl (fun ls hl => ?_)
  refine lv_goto (tgt := 1640) hx hb dL_law_1448 (by decide) ?_
  exact s_L_law_1640 hfl eX hz0 hz1 hz2 C hk54 hR hL (zm_sub hl [1, 2, 3, 4, 5, 6, 7, 8, 0, 9, 10] rfl) hp
def p_L_law_1445 (xs : Nat → Int32) (L : Nat) (k54 : Nat → Nat → Nat → Nat → Nat → Int32 → Int32 → Int32 → Int32 → Int32 → AH → Option (Int32 × AH)) (v1 : Nat) (v2 : Nat) (v3 : Nat) (v4 : Nat) (v5 : Nat) (v6 : Int32) (v7 : Int32) (v8 : Int32) (v10 : Int32) (h : AH) : Option (Int32 × AH) :=
  p_L_law_1446 xs L k54 v1 v2 v3 v4 v5 v6 v7 v8 v10 (iI 0) h
set_option maxHeartbeats 4000000 in
set_option maxRecDepth 100000 in
theorem s_L_law_1445 {p : Program} {l : Launch} {e : Env} {s : State} {m : MethodId} {b L : Nat} {xs : Nat → Int32} {nm : String} {below : List Frame} {meth : Method} {c : Code} {G : GG} {hs : AH}  {h' : AH} (hfl : l.stackTraces = false) (eX : gX G = (b, L, xs)) (hz0 : s.heap.size = gB G) (hz1 : gC G - aZ hs = 600130) (hz2 : aU hs = 0) (C : Cx G hs p s m #[Value.ref b] meth c cL_law 28 RL lw_tbl (some .boolean) nm) {k54 : Nat → Nat → Nat → Nat → Nat → Int32 → Int32 → Int32 → Int32 → Int32 → AH → Option (Int32 × AH)} (hk54 : ∀ {v1 : Nat} {v2 : Nat} {v3 : Nat} {v4 : Nat} {v5 : Nat} {v6 : Int32} {v7 : Int32} {v8 : Int32} {v9 : Int32} {v10 : Int32} {h : AH} {H : Heap} {locs : List Loc} {cells slots : Nat} {ls : Array Slot}, Rp G h H → (∀ q ∈ locs, gB G ≤ q.base) → zm ls 28 [(1, zr v1), (2, zr v2), (3, zr v3), (4, zr v4), (5, zr v5), (6, .int v6), (7, .int v7), (8, .int v8), (9, .int v9), (10, .int v10), (0, .ref b)] → k54 v1 v2 v3 v4 v5 v6 v7 v8 v9 v10 h = some (iI 1, h') → W p l e (gR G hs 16 610) s m #[Value.ref b] below meth c H locs cells slots (lw_Z below #[Value.ref b] s) (F0 m 54 ls [])) {v1 : Nat} {v2 : Nat} {v3 : Nat} {v4 : Nat} {v5 : Nat} {v6 : Int32} {v7 : Int32} {v8 : Int32} {v10 : Int32} {h : AH} {H : Heap} {locs : List Loc} {cells slots : Nat} {ls : Array Slot} (hR : Rp G h H) (hL : ∀ q ∈ locs, gB G ≤ q.base) (hl : zm ls 28 [(1, zr v1), (2, zr v2), (3, zr v3), (4, zr v4), (5, zr v5), (6, .int v6), (7, .int v7), (8, .int v8), (10, .int v10), (0, .ref b)]) (hp : p_L_law_1445 xs L k54 v1 v2 v3 v4 v5 v6 v7 v8 v10 h = some (iI 1, h')) : W p l e (gR G hs 16 610) s m #[Value.ref b] below meth c H locs cells slots (lw_Z below #[Value.ref b] s) (F0 m 1445 ls []) := by
  obtain ⟨hx, hb, hml, hown, hts, hT, hK, rs, hlk, hret, hnm⟩ := id C
  have hm : ∀ w ∈ MW, w.before #[Value.ref b] s = true := fun w hw => hts w (hT w hw)
  obtain ⟨hX, hbB⟩ := hK.scr eX
  unfold p_L_law_1445 at hp
  refine lv_iconst (v := iI 0) hx hb dL_law_1445 rfl ?_
  exact s_L_law_1446 hfl eX hz0 hz1 hz2 C hk54 hR hL (zm_sub hl [0, 1, 2, 3, 4, 5, 6, 7, 8, 9] rfl) hp
def p_L_law_1564 (xs : Nat → Int32) (L : Nat) (k54 : Nat → Nat → Nat → Nat → Nat → Int32 → Int32 → Int32 → Int32 → Int32 → AH → Option (Int32 × AH)) (v1 : Nat) (v2 : Nat) (v3 : Nat) (v4 : Nat) (v5 : Nat) (v6 : Int32) (v8 : Int32) (v9 : Int32) (v10 : Int32) (s0 : Int32) (s1 : Int32) (h : AH) : Option (Int32 × AH) :=
  nm ((s0 + s1)) fun (x1 : Int32) =>
  p_L_law_1640 xs L k54 v1 v2 v3 v4 v5 v6 x1 v8 v9 v10 h
set_option maxHeartbeats 4000000 in
set_option maxRecDepth 100000 in
theorem s_L_law_1564 {p : Program} {l : Launch} {e : Env} {s : State} {m : MethodId} {b L : Nat} {xs : Nat → Int32} {nm : String} {below : List Frame} {meth : Method} {c : Code} {G : GG} {hs : AH}  {h' : AH} (hfl : l.stackTraces = false) (eX : gX G = (b, L, xs)) (hz0 : s.heap.size = gB G) (hz1 : gC G - aZ hs = 600130) (hz2 : aU hs = 0) (C : Cx G hs p s m #[Value.ref b] meth c cL_law 28 RL lw_tbl (some .boolean) nm) {k54 : Nat → Nat → Nat → Nat → Nat → Int32 → Int32 → Int32 → Int32 → Int32 → AH → Option (Int32 × AH)} (hk54 : ∀ {v1 : Nat} {v2 : Nat} {v3 : Nat} {v4 : Nat} {v5 : Nat} {v6 : Int32} {v7 : Int32} {v8 : Int32} {v9 : Int32} {v10 : Int32} {h : AH} {H : Heap} {locs : List Loc} {cells slots : Nat} {ls : Array Slot}, Rp G h H → (∀ q ∈ locs, gB G ≤ q.base) → zm ls 28 [(1, zr v1), (2, zr v2), (3, zr v3), (4, zr v4), (5, zr v5), (6, .int v6), (7, .int v7), (8, .int v8), (9, .int v9), (10, .int v10), (0, .ref b)] → k54 v1 v2 v3 v4 v5 v6 v7 v8 v9 v10 h = some (iI 1, h') → W p l e (gR G hs 16 610) s m #[Value.ref b] below meth c H locs cells slots (lw_Z below #[Value.ref b] s) (F0 m 54 ls [])) {v1 : Nat} {v2 : Nat} {v3 : Nat} {v4 : Nat} {v5 : Nat} {v6 : Int32} {v8 : Int32} {v9 : Int32} {v10 : Int32} {s0 : Int32} {s1 : Int32} {h : AH} {H : Heap} {locs : List Loc} {cells slots : Nat} {ls : Array Slot} (hR : Rp G h H) (hL : ∀ q ∈ locs, gB G ≤ q.base) (hl : zm ls 28 [(1, zr v1), (2, zr v2), (3, zr v3), (4, zr v4), (5, zr v5), (6, .int v6), (8, .int v8), (9, .int v9), (10, .int v10), (0, .ref b)]) (hp : p_L_law_1564 xs L k54 v1 v2 v3 v4 v5 v6 v8 v9 v10 s0 s1 h = some (iI 1, h')) : W p l e (gR G hs 16 610) s m #[Value.ref b] below meth c H locs cells slots (lw_Z below #[Value.ref b] s) (F0 m 1564 ls [.int s1, .int s0]) := by
  obtain ⟨hx, hb, hml, hown, hts, hT, hK, rs, hlk, hret, hnm⟩ := id C
  have hm : ∀ w ∈ MW, w.before #[Value.ref b] s = true := fun w hw => hts w (hT w hw)
  obtain ⟨hX, hbB⟩ := hK.scr eX
  unfold p_L_law_1564 at hp
  refine lv_iadd hx hb dL_law_1564 ?_
  refine lv_topi (fun x1 ex1 => ?_)
  replace hp := nm_i hp ex1
  refine zm_istore (lv' := [(7, .int x1), (1, zr v1), (2, zr v2), (3, zr v3), (4, zr v4), (5, zr v5), (6, .int v6), (8, .int v8), (9, .int v9), (10, .int v10), (0, .ref b)]) hx hb dL_law_1565 hl (by decide) (by repeat (first | exact noL_nil _ | refine noL_i ?_ | refine noL_z ?_ | refine noL_r ?_ | refine noL_c (by decide) ?_)) rfl (fun ls hl => ?_)
  refine lv_goto (tgt := 1640) hx hb dL_law_1567 (by decide) ?_
  exact s_L_law_1640 hfl eX hz0 hz1 hz2 C hk54 hR hL (zm_sub hl [1, 2, 3, 4, 5, 6, 0, 7, 8, 9, 10] rfl) hp
def p_L_law_1550 (xs : Nat → Int32) (L : Nat) (k54 : Nat → Nat → Nat → Nat → Nat → Int32 → Int32 → Int32 → Int32 → Int32 → AH → Option (Int32 × AH)) (v1 : Nat) (v2 : Nat) (v3 : Nat) (v4 : Nat) (v5 : Nat) (v6 : Int32) (v7 : Int32) (v8 : Int32) (v10 : Int32) (v23 : Int32) (s0 : Int32) (h : AH) : Option (Int32 × AH) :=
  if v23 = 0 then
    p_L_law_1564 xs L k54 v1 v2 v3 v4 v5 v6 v8 s0 v10 v7 (iI 0) h
  else
    p_L_law_1564 xs L k54 v1 v2 v3 v4 v5 v6 v8 s0 v10 v7 (iI 1) h
set_option maxHeartbeats 4000000 in
set_option maxRecDepth 100000 in
theorem s_L_law_1550 {p : Program} {l : Launch} {e : Env} {s : State} {m : MethodId} {b L : Nat} {xs : Nat → Int32} {nm : String} {below : List Frame} {meth : Method} {c : Code} {G : GG} {hs : AH}  {h' : AH} (hfl : l.stackTraces = false) (eX : gX G = (b, L, xs)) (hz0 : s.heap.size = gB G) (hz1 : gC G - aZ hs = 600130) (hz2 : aU hs = 0) (C : Cx G hs p s m #[Value.ref b] meth c cL_law 28 RL lw_tbl (some .boolean) nm) {k54 : Nat → Nat → Nat → Nat → Nat → Int32 → Int32 → Int32 → Int32 → Int32 → AH → Option (Int32 × AH)} (hk54 : ∀ {v1 : Nat} {v2 : Nat} {v3 : Nat} {v4 : Nat} {v5 : Nat} {v6 : Int32} {v7 : Int32} {v8 : Int32} {v9 : Int32} {v10 : Int32} {h : AH} {H : Heap} {locs : List Loc} {cells slots : Nat} {ls : Array Slot}, Rp G h H → (∀ q ∈ locs, gB G ≤ q.base) → zm ls 28 [(1, zr v1), (2, zr v2), (3, zr v3), (4, zr v4), (5, zr v5), (6, .int v6), (7, .int v7), (8, .int v8), (9, .int v9), (10, .int v10), (0, .ref b)] → k54 v1 v2 v3 v4 v5 v6 v7 v8 v9 v10 h = some (iI 1, h') → W p l e (gR G hs 16 610) s m #[Value.ref b] below meth c H locs cells slots (lw_Z below #[Value.ref b] s) (F0 m 54 ls [])) {v1 : Nat} {v2 : Nat} {v3 : Nat} {v4 : Nat} {v5 : Nat} {v6 : Int32} {v7 : Int32} {v8 : Int32} {v10 : Int32} {v23 : Int32} {s0 : Int32} {h : AH} {H : Heap} {locs : List Loc} {cells slots : Nat} {ls : Array Slot} (hR : Rp G h H) (hL : ∀ q ∈ locs, gB G ≤ q.base) (hl : zm ls 28 [(1, zr v1), (2, zr v2), (3, zr v3), (4, zr v4), (5, zr v5), (6, .int v6), (7, .int v7), (8, .int v8), (10, .int v10), (23, .int v23), (0, .ref b)]) (hp : p_L_law_1550 xs L k54 v1 v2 v3 v4 v5 v6 v7 v8 v10 v23 s0 h = some (iI 1, h')) : W p l e (gR G hs 16 610) s m #[Value.ref b] below meth c H locs cells slots (lw_Z below #[Value.ref b] s) (F0 m 1550 ls [.int s0]) := by
  obtain ⟨hx, hb, hml, hown, hts, hT, hK, rs, hlk, hret, hnm⟩ := id C
  have hm : ∀ w ∈ MW, w.before #[Value.ref b] s = true := fun w hw => hts w (hT w hw)
  obtain ⟨hX, hbB⟩ := hK.scr eX
  unfold p_L_law_1550 at hp
  refine zm_istore (lv' := [(9, .int s0), (1, zr v1), (2, zr v2), (3, zr v3), (4, zr v4), (5, zr v5), (6, .int v6), (7, .int v7), (8, .int v8), (10, .int v10), (23, .int v23), (0, .ref b)]) hx hb dL_law_1550 hl (by decide) (by repeat (first | exact noL_nil _ | refine noL_i ?_ | refine noL_z ?_ | refine noL_r ?_ | refine noL_c (by decide) ?_)) rfl (fun ls hl => ?_)
  refine lv_iload hx hb dL_law_1552 (zm_at hl 7 rfl) ?_
  refine lv_iload hx hb dL_law_1554 (zm_at hl 10 rfl) ?_
  refine lv_if_eq (tgt := 1563) hx hb dL_law_1556 (by decide) (fun c1 => ?_) (fun c1 => ?_)
  · replace hp := ite_p hp c1
    refine lv_iconst (v := iI 0) hx hb dL_law_1563 rfl ?_
    exact s_L_law_1564 hfl eX hz0 hz1 hz2 C hk54 hR hL (zm_sub hl [1, 2, 3, 4, 5, 6, 8, 0, 9, 11] rfl) hp
  · replace hp := ite_n hp c1
    refine lv_iconst (v := iI 1) hx hb dL_law_1559 rfl ?_
    refine lv_goto (tgt := 1564) hx hb dL_law_1560 (by decide) ?_
    exact s_L_law_1564 hfl eX hz0 hz1 hz2 C hk54 hR hL (zm_sub hl [1, 2, 3, 4, 5, 6, 8, 0, 9, 11] rfl) hp
def p_L_law_1542 (xs : Nat → Int32) (L : Nat) (k54 : Nat → Nat → Nat → Nat → Nat → Int32 → Int32 → Int32 → Int32 → Int32 → AH → Option (Int32 × AH)) (v1 : Nat) (v2 : Nat) (v3 : Nat) (v4 : Nat) (v5 : Nat) (v6 : Int32) (v7 : Int32) (v8 : Int32) (v10 : Int32) (v23 : Int32) (s0 : Int32) (s1 : Int32) (h : AH) : Option (Int32 × AH) :=
  if s0 = s1 then
    p_L_law_1550 xs L k54 v1 v2 v3 v4 v5 v6 v7 v8 v10 v23 (iI 1) h
  else
    p_L_law_1550 xs L k54 v1 v2 v3 v4 v5 v6 v7 v8 v10 v23 (iI 0) h
set_option maxHeartbeats 4000000 in
set_option maxRecDepth 100000 in
theorem s_L_law_1542 {p : Program} {l : Launch} {e : Env} {s : State} {m : MethodId} {b L : Nat} {xs : Nat → Int32} {nm : String} {below : List Frame} {meth : Method} {c : Code} {G : GG} {hs : AH}  {h' : AH} (hfl : l.stackTraces = false) (eX : gX G = (b, L, xs)) (hz0 : s.heap.size = gB G) (hz1 : gC G - aZ hs = 600130) (hz2 : aU hs = 0) (C : Cx G hs p s m #[Value.ref b] meth c cL_law 28 RL lw_tbl (some .boolean) nm) {k54 : Nat → Nat → Nat → Nat → Nat → Int32 → Int32 → Int32 → Int32 → Int32 → AH → Option (Int32 × AH)} (hk54 : ∀ {v1 : Nat} {v2 : Nat} {v3 : Nat} {v4 : Nat} {v5 : Nat} {v6 : Int32} {v7 : Int32} {v8 : Int32} {v9 : Int32} {v10 : Int32} {h : AH} {H : Heap} {locs : List Loc} {cells slots : Nat} {ls : Array Slot}, Rp G h H → (∀ q ∈ locs, gB G ≤ q.base) → zm ls 28 [(1, zr v1), (2, zr v2), (3, zr v3), (4, zr v4), (5, zr v5), (6, .int v6), (7, .int v7), (8, .int v8), (9, .int v9), (10, .int v10), (0, .ref b)] → k54 v1 v2 v3 v4 v5 v6 v7 v8 v9 v10 h = some (iI 1, h') → W p l e (gR G hs 16 610) s m #[Value.ref b] below meth c H locs cells slots (lw_Z below #[Value.ref b] s) (F0 m 54 ls [])) {v1 : Nat} {v2 : Nat} {v3 : Nat} {v4 : Nat} {v5 : Nat} {v6 : Int32} {v7 : Int32} {v8 : Int32} {v10 : Int32} {v23 : Int32} {s0 : Int32} {s1 : Int32} {h : AH} {H : Heap} {locs : List Loc} {cells slots : Nat} {ls : Array Slot} (hR : Rp G h H) (hL : ∀ q ∈ locs, gB G ≤ q.base) (hl : zm ls 28 [(1, zr v1), (2, zr v2), (3, zr v3), (4, zr v4), (5, zr v5), (6, .int v6), (7, .int v7), (8, .int v8), (10, .int v10), (23, .int v23), (0, .ref b)]) (hp : p_L_law_1542 xs L k54 v1 v2 v3 v4 v5 v6 v7 v8 v10 v23 s0 s1 h = some (iI 1, h')) : W p l e (gR G hs 16 610) s m #[Value.ref b] below meth c H locs cells slots (lw_Z below #[Value.ref b] s) (F0 m 1542 ls [.int s1, .int s0]) := by
  obtain ⟨hx, hb, hml, hown, hts, hT, hK, rs, hlk, hret, hnm⟩ := id C
  have hm : ∀ w ∈ MW, w.before #[Value.ref b] s = true := fun w hw => hts w (hT w hw)
  obtain ⟨hX, hbB⟩ := hK.scr eX
  unfold p_L_law_1542 at hp
  refine lv_icmp_ne (tgt := 1549) hx hb dL_law_1542 (by decide) (fun c1 => ?_) (fun c1 => ?_)
  · replace hp := ite_n hp c1
    refine lv_iconst (v := iI 0) hx hb dL_law_1549 rfl ?_
    exact s_L_law_1550 hfl eX hz0 hz1 hz2 C hk54 hR hL (zm_sub hl [0, 1, 2, 3, 4, 5, 6, 7, 8, 9, 10] rfl) hp
  · replace hp := ite_p hp c1
    refine lv_iconst (v := iI 1) hx hb dL_law_1545 rfl ?_
    refine lv_goto (tgt := 1550) hx hb dL_law_1546 (by decide) ?_
    exact s_L_law_1550 hfl eX hz0 hz1 hz2 C hk54 hR hL (zm_sub hl [0, 1, 2, 3, 4, 5, 6, 7, 8, 9, 10] rfl) hp
def p_L_law_1526 (xs : Nat → Int32) (L : Nat) (k54 : Nat → Nat → Nat → Nat → Nat → Int32 → Int32 → Int32 → Int32 → Int32 → AH → Option (Int32 × AH)) (v1 : Nat) (v2 : Nat) (v3 : Nat) (v4 : Nat) (v5 : Nat) (v6 : Int32) (v7 : Int32) (v8 : Int32) (v10 : Int32) (v22 : Int32) (s0 : Int32) (h : AH) : Option (Int32 × AH) :=
  if s0 = 0 then
    p_L_law_1542 xs L k54 v1 v2 v3 v4 v5 v6 v7 v8 v10 s0 v22 (iI (-102)) h
  else
    p_L_law_1542 xs L k54 v1 v2 v3 v4 v5 v6 v7 v8 v10 s0 v22 v7 h
set_option maxHeartbeats 4000000 in
set_option maxRecDepth 100000 in
theorem s_L_law_1526 {p : Program} {l : Launch} {e : Env} {s : State} {m : MethodId} {b L : Nat} {xs : Nat → Int32} {nm : String} {below : List Frame} {meth : Method} {c : Code} {G : GG} {hs : AH}  {h' : AH} (hfl : l.stackTraces = false) (eX : gX G = (b, L, xs)) (hz0 : s.heap.size = gB G) (hz1 : gC G - aZ hs = 600130) (hz2 : aU hs = 0) (C : Cx G hs p s m #[Value.ref b] meth c cL_law 28 RL lw_tbl (some .boolean) nm) {k54 : Nat → Nat → Nat → Nat → Nat → Int32 → Int32 → Int32 → Int32 → Int32 → AH → Option (Int32 × AH)} (hk54 : ∀ {v1 : Nat} {v2 : Nat} {v3 : Nat} {v4 : Nat} {v5 : Nat} {v6 : Int32} {v7 : Int32} {v8 : Int32} {v9 : Int32} {v10 : Int32} {h : AH} {H : Heap} {locs : List Loc} {cells slots : Nat} {ls : Array Slot}, Rp G h H → (∀ q ∈ locs, gB G ≤ q.base) → zm ls 28 [(1, zr v1), (2, zr v2), (3, zr v3), (4, zr v4), (5, zr v5), (6, .int v6), (7, .int v7), (8, .int v8), (9, .int v9), (10, .int v10), (0, .ref b)] → k54 v1 v2 v3 v4 v5 v6 v7 v8 v9 v10 h = some (iI 1, h') → W p l e (gR G hs 16 610) s m #[Value.ref b] below meth c H locs cells slots (lw_Z below #[Value.ref b] s) (F0 m 54 ls [])) {v1 : Nat} {v2 : Nat} {v3 : Nat} {v4 : Nat} {v5 : Nat} {v6 : Int32} {v7 : Int32} {v8 : Int32} {v10 : Int32} {v22 : Int32} {s0 : Int32} {h : AH} {H : Heap} {locs : List Loc} {cells slots : Nat} {ls : Array Slot} (hR : Rp G h H) (hL : ∀ q ∈ locs, gB G ≤ q.base) (hl : zm ls 28 [(1, zr v1), (2, zr v2), (3, zr v3), (4, zr v4), (5, zr v5), (6, .int v6), (7, .int v7), (8, .int v8), (10, .int v10), (22, .int v22), (0, .ref b)]) (hp : p_L_law_1526 xs L k54 v1 v2 v3 v4 v5 v6 v7 v8 v10 v22 s0 h = some (iI 1, h')) : W p l e (gR G hs 16 610) s m #[Value.ref b] below meth c H locs cells slots (lw_Z below #[Value.ref b] s) (F0 m 1526 ls [.int s0]) := by
  obtain ⟨hx, hb, hml, hown, hts, hT, hK, rs, hlk, hret, hnm⟩ := id C
  have hm : ∀ w ∈ MW, w.before #[Value.ref b] s = true := fun w hw => hts w (hT w hw)
  obtain ⟨hX, hbB⟩ := hK.scr eX
  unfold p_L_law_1526 at hp
  refine zm_istore (lv' := [(23, .int s0), (1, zr v1), (2, zr v2), (3, zr v3), (4, zr v4), (5, zr v5), (6, .int v6), (7, .int v7), (8, .int v8), (10, .int v10), (22, .int v22), (0, .ref b)]) hx hb dL_law_1526 hl (by decide) (by repeat (first | exact noL_nil _ | refine noL_i ?_ | refine noL_z ?_ | refine noL_r ?_ | refine noL_c (by decide) ?_)) rfl (fun ls hl => ?_)
  refine lv_iload hx hb dL_law_1528 (zm_at hl 10 rfl) ?_
  refine lv_iload hx hb dL_law_1530 (zm_at hl 0 rfl) ?_
  refine lv_if_eq (tgt := 1540) hx hb dL_law_1532 (by decide) (fun c1 => ?_) (fun c1 => ?_)
  · replace hp := ite_p hp c1
    refine lv_bipush (v := iI (-102)) hx hb dL_law_1540 (by decide +kernel) ?_
    exact s_L_law_1542 hfl eX hz0 hz1 hz2 C hk54 hR hL (zm_sub hl [1, 2, 3, 4, 5, 6, 7, 8, 9, 0, 11] rfl) hp
  · replace hp := ite_n hp c1
    refine lv_iload hx hb dL_law_1535 (zm_at hl 7 rfl) ?_
    refine lv_goto (tgt := 1542) hx hb dL_law_1537 (by decide) ?_
    exact s_L_law_1542 hfl eX hz0 hz1 hz2 C hk54 hR hL (zm_sub hl [1, 2, 3, 4, 5, 6, 7, 8, 9, 0, 11] rfl) hp
def p_L_law_1521 (xs : Nat → Int32) (L : Nat) (k54 : Nat → Nat → Nat → Nat → Nat → Int32 → Int32 → Int32 → Int32 → Int32 → AH → Option (Int32 × AH)) (v1 : Nat) (v2 : Nat) (v3 : Nat) (v4 : Nat) (v5 : Nat) (v6 : Int32) (v7 : Int32) (v8 : Int32) (v10 : Int32) (v22 : Int32) (h : AH) : Option (Int32 × AH) :=
  p_L_law_1526 xs L k54 v1 v2 v3 v4 v5 v6 v7 v8 v10 v22 (iI 1) h
set_option maxHeartbeats 4000000 in
set_option maxRecDepth 100000 in
theorem s_L_law_1521 {p : Program} {l : Launch} {e : Env} {s : State} {m : MethodId} {b L : Nat} {xs : Nat → Int32} {nm : String} {below : List Frame} {meth : Method} {c : Code} {G : GG} {hs : AH}  {h' : AH} (hfl : l.stackTraces = false) (eX : gX G = (b, L, xs)) (hz0 : s.heap.size = gB G) (hz1 : gC G - aZ hs = 600130) (hz2 : aU hs = 0) (C : Cx G hs p s m #[Value.ref b] meth c cL_law 28 RL lw_tbl (some .boolean) nm) {k54 : Nat → Nat → Nat → Nat → Nat → Int32 → Int32 → Int32 → Int32 → Int32 → AH → Option (Int32 × AH)} (hk54 : ∀ {v1 : Nat} {v2 : Nat} {v3 : Nat} {v4 : Nat} {v5 : Nat} {v6 : Int32} {v7 : Int32} {v8 : Int32} {v9 : Int32} {v10 : Int32} {h : AH} {H : Heap} {locs : List Loc} {cells slots : Nat} {ls : Array Slot}, Rp G h H → (∀ q ∈ locs, gB G ≤ q.base) → zm ls 28 [(1, zr v1), (2, zr v2), (3, zr v3), (4, zr v4), (5, zr v5), (6, .int v6), (7, .int v7), (8, .int v8), (9, .int v9), (10, .int v10), (0, .ref b)] → k54 v1 v2 v3 v4 v5 v6 v7 v8 v9 v10 h = some (iI 1, h') → W p l e (gR G hs 16 610) s m #[Value.ref b] below meth c H locs cells slots (lw_Z below #[Value.ref b] s) (F0 m 54 ls [])) {v1 : Nat} {v2 : Nat} {v3 : Nat} {v4 : Nat} {v5 : Nat} {v6 : Int32} {v7 : Int32} {v8 : Int32} {v10 : Int32} {v22 : Int32} {h : AH} {H : Heap} {locs : List Loc} {cells slots : Nat} {ls : Array Slot} (hR : Rp G h H) (hL : ∀ q ∈ locs, gB G ≤ q.base) (hl : zm ls 28 [(1, zr v1), (2, zr v2), (3, zr v3), (4, zr v4), (5, zr v5), (6, .int v6), (7, .int v7), (8, .int v8), (10, .int v10), (22, .int v22), (0, .ref b)]) (hp : p_L_law_1521 xs L k54 v1 v2 v3 v4 v5 v6 v7 v8 v10 v22 h = some (iI 1, h')) : W p l e (gR G hs 16 610) s m #[Value.ref b] below meth c H locs cells slots (lw_Z below #[Value.ref b] s) (F0 m 1521 ls []) := by
  obtain ⟨hx, hb, hml, hown, hts, hT, hK, rs, hlk, hret, hnm⟩ := id C
  have hm : ∀ w ∈ MW, w.before #[Value.ref b] s = true := fun w hw => hts w (hT w hw)
  obtain ⟨hX, hbB⟩ := hK.scr eX
  unfold p_L_law_1521 at hp
  refine lv_iconst (v := iI 1) hx hb dL_law_1521 rfl ?_
  refine lv_goto (tgt := 1526) hx hb dL_law_1522 (by decide) ?_
  exact s_L_law_1526 hfl eX hz0 hz1 hz2 C hk54 hR hL (zm_sub hl [0, 1, 2, 3, 4, 5, 6, 7, 8, 9, 10] rfl) hp
def p_L_law_1488 (xs : Nat → Int32) (L : Nat) (k54 : Nat → Nat → Nat → Nat → Nat → Int32 → Int32 → Int32 → Int32 → Int32 → AH → Option (Int32 × AH)) (v1 : Nat) (v2 : Nat) (v3 : Nat) (v4 : Nat) (v5 : Nat) (v6 : Int32) (v7 : Int32) (v8 : Int32) (v10 : Int32) (v14 : Int32) (v15 : Int32) (s0 : Int32) (h : AH) : Option (Int32 × AH) :=
  bR (p_L_save v1 v15 v14 s0 h) fun r1 h2 =>
  if s0 < 0 then
    p_L_law_1521 xs L k54 v1 v2 v3 v4 v5 v6 v7 v8 v10 r1 h2
  else
    ck (aK h2 v5 = 20 ∧ ix s0 (aN h2 v5)) <|
    if ((aI h2 v5 s0.toNatClampNeg) / (iI 1000)) = v14 then
      p_L_law_1521 xs L k54 v1 v2 v3 v4 v5 v6 v7 v8 v10 r1 h2
    else
      p_L_law_1526 xs L k54 v1 v2 v3 v4 v5 v6 v7 v8 v10 r1 (iI 0) h2
set_option maxHeartbeats 4000000 in
set_option maxRecDepth 100000 in
theorem s_L_law_1488 {p : Program} {l : Launch} {e : Env} {s : State} {m : MethodId} {b L : Nat} {xs : Nat → Int32} {nm : String} {below : List Frame} {meth : Method} {c : Code} {G : GG} {hs : AH}  {h' : AH} (hfl : l.stackTraces = false) (eX : gX G = (b, L, xs)) (hz0 : s.heap.size = gB G) (hz1 : gC G - aZ hs = 600130) (hz2 : aU hs = 0) (C : Cx G hs p s m #[Value.ref b] meth c cL_law 28 RL lw_tbl (some .boolean) nm) {k54 : Nat → Nat → Nat → Nat → Nat → Int32 → Int32 → Int32 → Int32 → Int32 → AH → Option (Int32 × AH)} (hk54 : ∀ {v1 : Nat} {v2 : Nat} {v3 : Nat} {v4 : Nat} {v5 : Nat} {v6 : Int32} {v7 : Int32} {v8 : Int32} {v9 : Int32} {v10 : Int32} {h : AH} {H : Heap} {locs : List Loc} {cells slots : Nat} {ls : Array Slot}, Rp G h H → (∀ q ∈ locs, gB G ≤ q.base) → zm ls 28 [(1, zr v1), (2, zr v2), (3, zr v3), (4, zr v4), (5, zr v5), (6, .int v6), (7, .int v7), (8, .int v8), (9, .int v9), (10, .int v10), (0, .ref b)] → k54 v1 v2 v3 v4 v5 v6 v7 v8 v9 v10 h = some (iI 1, h') → W p l e (gR G hs 16 610) s m #[Value.ref b] below meth c H locs cells slots (lw_Z below #[Value.ref b] s) (F0 m 54 ls [])) {v1 : Nat} {v2 : Nat} {v3 : Nat} {v4 : Nat} {v5 : Nat} {v6 : Int32} {v7 : Int32} {v8 : Int32} {v10 : Int32} {v14 : Int32} {v15 : Int32} {s0 : Int32} {h : AH} {H : Heap} {locs : List Loc} {cells slots : Nat} {ls : Array Slot} (hR : Rp G h H) (hL : ∀ q ∈ locs, gB G ≤ q.base) (hl : zm ls 28 [(1, zr v1), (2, zr v2), (3, zr v3), (4, zr v4), (5, zr v5), (6, .int v6), (7, .int v7), (8, .int v8), (10, .int v10), (14, .int v14), (15, .int v15), (0, .ref b)]) (hp : p_L_law_1488 xs L k54 v1 v2 v3 v4 v5 v6 v7 v8 v10 v14 v15 s0 h = some (iI 1, h')) : W p l e (gR G hs 16 610) s m #[Value.ref b] below meth c H locs cells slots (lw_Z below #[Value.ref b] s) (F0 m 1488 ls [.int s0]) := by
  obtain ⟨hx, hb, hml, hown, hts, hT, hK, rs, hlk, hret, hnm⟩ := id C
  have hm : ∀ w ∈ MW, w.before #[Value.ref b] s = true := fun w hw => hts w (hT w hw)
  obtain ⟨hX, hbB⟩ := hK.scr eX
  unfold p_L_law_1488 at hp
  refine zm_istore (lv' := [(21, .int s0), (1, zr v1), (2, zr v2), (3, zr v3), (4, zr v4), (5, zr v5), (6, .int v6), (7, .int v7), (8, .int v8), (10, .int v10), (14, .int v14), (15, .int v15), (0, .ref b)]) hx hb dL_law_1488 hl (by decide) (by repeat (first | exact noL_nil _ | refine noL_i ?_ | refine noL_z ?_ | refine noL_r ?_ | refine noL_c (by decide) ?_)) rfl (fun ls hl => ?_)
  refine z_aload_n hx hb dL_law_1490 rfl (zm_at hl 1 rfl) ?_
  refine lv_iload hx hb dL_law_1491 (zm_at hl 11 rfl) ?_
  refine lv_iload hx hb dL_law_1493 (zm_at hl 10 rfl) ?_
  refine lv_iload hx hb dL_law_1495 (zm_at hl 0 rfl) ?_
  obtain ⟨r1, h2, er1, hp⟩ := bR_i hp
  refine r_callSH (n := 4) (As := [zr v1, .int v15, .int v14, .int s0]) (rest := []) C (c_L_save l hfl G v1 v15 v14 s0 h r1 h2 er1) hR hL mw_912 mw_913 mw_0 mw_914 (by decide +kernel) (by decide) rfl (zm_size hl) rfl (by simp [zr_cat, in_cat, lo_cat, re_cat]) dL_law_1497 (st2 := [.int r1]) rfl (fun H locs cells slots hR hL => ?_)
  refine zm_istore (lv' := [(22, .int r1), (21, .int s0), (1, zr v1), (2, zr v2), (3, zr v3), (4, zr v4), (5, zr v5), (6, .int v6), (7, .int v7), (8, .int v8), (10, .int v10), (14, .int v14), (15, .int v15), (0, .ref b)]) hx hb dL_law_1500 hl (by decide) (by repeat (first | exact noL_nil _ | refine noL_i ?_ | refine noL_z ?_ | refine noL_r ?_ | refine noL_c (by decide) ?_)) rfl (fun ls hl => ?_)
  refine lv_iload hx hb dL_law_1502 (zm_at hl 1 rfl) ?_
  refine lv_if_lt (tgt := 1521) hx hb dL_law_1504 (by decide) (fun c3 => ?_) (fun c3 => ?_)
  · replace hp := ite_p hp c3
    exact s_L_law_1521 hfl eX hz0 hz1 hz2 C hk54 hR hL (zm_sub hl [2, 3, 4, 5, 6, 7, 8, 9, 10, 0, 13] rfl) hp
  · replace hp := ite_n hp c3
    refine z_aload hx hb dL_law_1507 (zm_at hl 6 rfl) ?_
    refine lv_iload hx hb dL_law_1509 (zm_at hl 1 rfl) ?_
    obtain ⟨k4, hp⟩ := ck_i hp
    refine r_iald hx hb hK hR k4.1 k4.2 dL_law_1511 ?_
    refine lv_sipush (v := iI 1000) hx hb dL_law_1512 (by decide +kernel) ?_
    refine lv_idiv hx hb dL_law_1515 (by decide +kernel) ?_
    refine lv_iload hx hb dL_law_1516 (zm_at hl 11 rfl) ?_
    refine lv_icmp_ne (tgt := 1525) hx hb dL_law_1518 (by decide) (fun c6 => ?_) (fun c6 => ?_)
    · replace hp := ite_n hp c6
      refine lv_iconst (v := iI 0) hx hb dL_law_1525 rfl ?_
      exact s_L_law_1526 hfl eX hz0 hz1 hz2 C hk54 hR hL (zm_sub hl [2, 3, 4, 5, 6, 7, 8, 9, 10, 0, 13] rfl) hp
    · replace hp := ite_p hp c6
      exact s_L_law_1521 hfl eX hz0 hz1 hz2 C hk54 hR hL (zm_sub hl [2, 3, 4, 5, 6, 7, 8, 9, 10, 0, 13] rfl) hp
def p_L_law_1477 (xs : Nat → Int32) (L : Nat) (k54 : Nat → Nat → Nat → Nat → Nat → Int32 → Int32 → Int32 → Int32 → Int32 → AH → Option (Int32 × AH)) (v1 : Nat) (v2 : Nat) (v3 : Nat) (v4 : Nat) (v5 : Nat) (v6 : Int32) (v7 : Int32) (v8 : Int32) (v10 : Int32) (v14 : Int32) (v15 : Int32) (h : AH) : Option (Int32 × AH) :=
  p_L_law_1488 xs L k54 v1 v2 v3 v4 v5 v6 v7 v8 v10 v14 v15 (iI (-1)) h
set_option maxHeartbeats 4000000 in
set_option maxRecDepth 100000 in
theorem s_L_law_1477 {p : Program} {l : Launch} {e : Env} {s : State} {m : MethodId} {b L : Nat} {xs : Nat → Int32} {nm : String} {below : List Frame} {meth : Method} {c : Code} {G : GG} {hs : AH}  {h' : AH} (hfl : l.stackTraces = false) (eX : gX G = (b, L, xs)) (hz0 : s.heap.size = gB G) (hz1 : gC G - aZ hs = 600130) (hz2 : aU hs = 0) (C : Cx G hs p s m #[Value.ref b] meth c cL_law 28 RL lw_tbl (some .boolean) nm) {k54 : Nat → Nat → Nat → Nat → Nat → Int32 → Int32 → Int32 → Int32 → Int32 → AH → Option (Int32 × AH)} (hk54 : ∀ {v1 : Nat} {v2 : Nat} {v3 : Nat} {v4 : Nat} {v5 : Nat} {v6 : Int32} {v7 : Int32} {v8 : Int32} {v9 : Int32} {v10 : Int32} {h : AH} {H : Heap} {locs : List Loc} {cells slots : Nat} {ls : Array Slot}, Rp G h H → (∀ q ∈ locs, gB G ≤ q.base) → zm ls 28 [(1, zr v1), (2, zr v2), (3, zr v3), (4, zr v4), (5, zr v5), (6, .int v6), (7, .int v7), (8, .int v8), (9, .int v9), (10, .int v10), (0, .ref b)] → k54 v1 v2 v3 v4 v5 v6 v7 v8 v9 v10 h = some (iI 1, h') → W p l e (gR G hs 16 610) s m #[Value.ref b] below meth c H locs cells slots (lw_Z below #[Value.ref b] s) (F0 m 54 ls [])) {v1 : Nat} {v2 : Nat} {v3 : Nat} {v4 : Nat} {v5 : Nat} {v6 : Int32} {v7 : Int32} {v8 : Int32} {v10 : Int32} {v14 : Int32} {v15 : Int32} {h : AH} {H : Heap} {locs : List Loc} {cells slots : Nat} {ls : Array Slot} (hR : Rp G h H) (hL : ∀ q ∈ locs, gB G ≤ q.base) (hl : zm ls 28 [(1, zr v1), (2, zr v2), (3, zr v3), (4, zr v4), (5, zr v5), (6, .int v6), (7, .int v7), (8, .int v8), (10, .int v10), (14, .int v14), (15, .int v15), (0, .ref b)]) (hp : p_L_law_1477 xs L k54 v1 v2 v3 v4 v5 v6 v7 v8 v10 v14 v15 h = some (iI 1, h')) : W p l e (gR G hs 16 610) s m #[Value.ref b] below meth c H locs cells slots (lw_Z below #[Value.ref b] s) (F0 m 1477 ls []) := by
  obtain ⟨hx, hb, hml, hown, hts, hT, hK, rs, hlk, hret, hnm⟩ := id C
  have hm : ∀ w ∈ MW, w.before #[Value.ref b] s = true := fun w hw => hts w (hT w hw)
  obtain ⟨hX, hbB⟩ := hK.scr eX
  unfold p_L_law_1477 at hp
  refine lv_iconst (v := iI (-1)) hx hb dL_law_1477 rfl ?_
  refine lv_goto (tgt := 1488) hx hb dL_law_1478 (by decide) ?_
  exact s_L_law_1488 hfl eX hz0 hz1 hz2 C hk54 hR hL (zm_sub hl [0, 1, 2, 3, 4, 5, 6, 7, 8, 9, 10, 11] rfl) hp
def p_L_law_1638 (xs : Nat → Int32) (L : Nat) (k54 : Nat → Nat → Nat → Nat → Nat → Int32 → Int32 → Int32 → Int32 → Int32 → AH → Option (Int32 × AH)) (v1 : Nat) (v2 : Nat) (v3 : Nat) (v4 : Nat) (v5 : Nat) (v6 : Int32) (v7 : Int32) (v8 : Int32) (v10 : Int32) (s0 : Int32) (h : AH) : Option (Int32 × AH) :=
  p_L_law_1640 xs L k54 v1 v2 v3 v4 v5 v6 v7 v8 s0 v10 h
set_option maxHeartbeats 4000000 in
set_option maxRecDepth 100000 in
theorem s_L_law_1638 {p : Program} {l : Launch} {e : Env} {s : State} {m : MethodId} {b L : Nat} {xs : Nat → Int32} {nm : String} {below : List Frame} {meth : Method} {c : Code} {G : GG} {hs : AH}  {h' : AH} (hfl : l.stackTraces = false) (eX : gX G = (b, L, xs)) (hz0 : s.heap.size = gB G) (hz1 : gC G - aZ hs = 600130) (hz2 : aU hs = 0) (C : Cx G hs p s m #[Value.ref b] meth c cL_law 28 RL lw_tbl (some .boolean) nm) {k54 : Nat → Nat → Nat → Nat → Nat → Int32 → Int32 → Int32 → Int32 → Int32 → AH → Option (Int32 × AH)} (hk54 : ∀ {v1 : Nat} {v2 : Nat} {v3 : Nat} {v4 : Nat} {v5 : Nat} {v6 : Int32} {v7 : Int32} {v8 : Int32} {v9 : Int32} {v10 : Int32} {h : AH} {H : Heap} {locs : List Loc} {cells slots : Nat} {ls : Array Slot}, Rp G h H → (∀ q ∈ locs, gB G ≤ q.base) → zm ls 28 [(1, zr v1), (2, zr v2), (3, zr v3), (4, zr v4), (5, zr v5), (6, .int v6), (7, .int v7), (8, .int v8), (9, .int v9), (10, .int v10), (0, .ref b)] → k54 v1 v2 v3 v4 v5 v6 v7 v8 v9 v10 h = some (iI 1, h') → W p l e (gR G hs 16 610) s m #[Value.ref b] below meth c H locs cells slots (lw_Z below #[Value.ref b] s) (F0 m 54 ls [])) {v1 : Nat} {v2 : Nat} {v3 : Nat} {v4 : Nat} {v5 : Nat} {v6 : Int32} {v7 : Int32} {v8 : Int32} {v10 : Int32} {s0 : Int32} {h : AH} {H : Heap} {locs : List Loc} {cells slots : Nat} {ls : Array Slot} (hR : Rp G h H) (hL : ∀ q ∈ locs, gB G ≤ q.base) (hl : zm ls 28 [(1, zr v1), (2, zr v2), (3, zr v3), (4, zr v4), (5, zr v5), (6, .int v6), (7, .int v7), (8, .int v8), (10, .int v10), (0, .ref b)]) (hp : p_L_law_1638 xs L k54 v1 v2 v3 v4 v5 v6 v7 v8 v10 s0 h = some (iI 1, h')) : W p l e (gR G hs 16 610) s m #[Value.ref b] below meth c H locs cells slots (lw_Z below #[Value.ref b] s) (F0 m 1638 ls [.int s0]) := by
  obtain ⟨hx, hb, hml, hown, hts, hT, hK, rs, hlk, hret, hnm⟩ := id C
  have hm : ∀ w ∈ MW, w.before #[Value.ref b] s = true := fun w hw => hts w (hT w hw)
  obtain ⟨hX, hbB⟩ := hK.scr eX
  unfold p_L_law_1638 at hp
  refine zm_istore (lv' := [(9, .int s0), (1, zr v1), (2, zr v2), (3, zr v3), (4, zr v4), (5, zr v5), (6, .int v6), (7, .int v7), (8, .int v8), (10, .int v10), (0, .ref b)]) hx hb dL_law_1638 hl (by decide) (by repeat (first | exact noL_nil _ | refine noL_i ?_ | refine noL_z ?_ | refine noL_r ?_ | refine noL_c (by decide) ?_)) rfl (fun ls hl => ?_)
  exact s_L_law_1640 hfl eX hz0 hz1 hz2 C hk54 hR hL (zm_sub hl [1, 2, 3, 4, 5, 6, 7, 8, 0, 9, 10] rfl) hp
def p_L_law_1633 (xs : Nat → Int32) (L : Nat) (k54 : Nat → Nat → Nat → Nat → Nat → Int32 → Int32 → Int32 → Int32 → Int32 → AH → Option (Int32 × AH)) (v1 : Nat) (v2 : Nat) (v3 : Nat) (v4 : Nat) (v5 : Nat) (v6 : Int32) (v7 : Int32) (v8 : Int32) (v10 : Int32) (h : AH) : Option (Int32 × AH) :=
  p_L_law_1638 xs L k54 v1 v2 v3 v4 v5 v6 v7 v8 v10 (iI 1) h
set_option maxHeartbeats 4000000 in
set_option maxRecDepth 100000 in
theorem s_L_law_1633 {p : Program} {l : Launch} {e : Env} {s : State} {m : MethodId} {b L : Nat} {xs : Nat → Int32} {nm : String} {below : List Frame} {meth : Method} {c : Code} {G : GG} {hs : AH}  {h' : AH} (hfl : l.stackTraces = false) (eX : gX G = (b, L, xs)) (hz0 : s.heap.size = gB G) (hz1 : gC G - aZ hs = 600130) (hz2 : aU hs = 0) (C : Cx G hs p s m #[Value.ref b] meth c cL_law 28 RL lw_tbl (some .boolean) nm) {k54 : Nat → Nat → Nat → Nat → Nat → Int32 → Int32 → Int32 → Int32 → Int32 → AH → Option (Int32 × AH)} (hk54 : ∀ {v1 : Nat} {v2 : Nat} {v3 : Nat} {v4 : Nat} {v5 : Nat} {v6 : Int32} {v7 : Int32} {v8 : Int32} {v9 : Int32} {v10 : Int32} {h : AH} {H : Heap} {locs : List Loc} {cells slots : Nat} {ls : Array Slot}, Rp G h H → (∀ q ∈ locs, gB G ≤ q.base) → zm ls 28 [(1, zr v1), (2, zr v2), (3, zr v3), (4, zr v4), (5, zr v5), (6, .int v6), (7, .int v7), (8, .int v8), (9, .int v9), (10, .int v10), (0, .ref b)] → k54 v1 v2 v3 v4 v5 v6 v7 v8 v9 v10 h = some (iI 1, h') → W p l e (gR G hs 16 610) s m #[Value.ref b] below meth c H locs cells slots (lw_Z below #[Value.ref b] s) (F0 m 54 ls [])) {v1 : Nat} {v2 : Nat} {v3 : Nat} {v4 : Nat} {v5 : Nat} {v6 : Int32} {v7 : Int32} {v8 : Int32} {v10 : Int32} {h : AH} {H : Heap} {locs : List Loc} {cells slots : Nat} {ls : Array Slot} (hR : Rp G h H) (hL : ∀ q ∈ locs, gB G ≤ q.base) (hl : zm ls 28 [(1, zr v1), (2, zr v2), (3, zr v3), (4, zr v4), (5, zr v5), (6, .int v6), (7, .int v7), (8, .int v8), (10, .int v10), (0, .ref b)]) (hp : p_L_law_1633 xs L k54 v1 v2 v3 v4 v5 v6 v7 v8 v10 h = some (iI 1, h')) : W p l e (gR G hs 16 610) s m #[Value.ref b] below meth c H locs cells slots (lw_Z below #[Value.ref b] s) (F0 m 1633 ls []) := by
  obtain ⟨hx, hb, hml, hown, hts, hT, hK, rs, hlk, hret, hnm⟩ := id C
  have hm : ∀ w ∈ MW, w.before #[Value.ref b] s = true := fun w hw => hts w (hT w hw)
  obtain ⟨hX, hbB⟩ := hK.scr eX
  unfold p_L_law_1633 at hp
  refine lv_iconst (v := iI 1) hx hb dL_law_1633 rfl ?_
  refine lv_goto (tgt := 1638) hx hb dL_law_1634 (by decide) ?_
  exact s_L_law_1638 hfl eX hz0 hz1 hz2 C hk54 hR hL (zm_sub hl [0, 1, 2, 3, 4, 5, 6, 7, 8, 9] rfl) hp
def p_L_law_1637 (xs : Nat → Int32) (L : Nat) (k54 : Nat → Nat → Nat → Nat → Nat → Int32 → Int32 → Int32 → Int32 → Int32 → AH → Option (Int32 × AH)) (v1 : Nat) (v2 : Nat) (v3 : Nat) (v4 : Nat) (v5 : Nat) (v6 : Int32) (v7 : Int32) (v8 : Int32) (v10 : Int32) (h : AH) : Option (Int32 × AH) :=
  p_L_law_1638 xs L k54 v1 v2 v3 v4 v5 v6 v7 v8 v10 (iI 0) h
set_option maxHeartbeats 4000000 in
set_option maxRecDepth 100000 in
theorem s_L_law_1637 {p : Program} {l : Launch} {e : Env} {s : State} {m : MethodId} {b L : Nat} {xs : Nat → Int32} {nm : String} {below : List Frame} {meth : Method} {c : Code} {G : GG} {hs : AH}  {h' : AH} (hfl : l.stackTraces = false) (eX : gX G = (b, L, xs)) (hz0 : s.heap.size = gB G) (hz1 : gC G - aZ hs = 600130) (hz2 : aU hs = 0) (C : Cx G hs p s m #[Value.ref b] meth c cL_law 28 RL lw_tbl (some .boolean) nm) {k54 : Nat → Nat → Nat → Nat → Nat → Int32 → Int32 → Int32 → Int32 → Int32 → AH → Option (Int32 × AH)} (hk54 : ∀ {v1 : Nat} {v2 : Nat} {v3 : Nat} {v4 : Nat} {v5 : Nat} {v6 : Int32} {v7 : Int32} {v8 : Int32} {v9 : Int32} {v10 : Int32} {h : AH} {H : Heap} {locs : List Loc} {cells slots : Nat} {ls : Array Slot}, Rp G h H → (∀ q ∈ locs, gB G ≤ q.base) → zm ls 28 [(1, zr v1), (2, zr v2), (3, zr v3), (4, zr v4), (5, zr v5), (6, .int v6), (7, .int v7), (8, .int v8), (9, .int v9), (10, .int v10), (0, .ref b)] → k54 v1 v2 v3 v4 v5 v6 v7 v8 v9 v10 h = some (iI 1, h') → W p l e (gR G hs 16 610) s m #[Value.ref b] below meth c H locs cells slots (lw_Z below #[Value.ref b] s) (F0 m 54 ls [])) {v1 : Nat} {v2 : Nat} {v3 : Nat} {v4 : Nat} {v5 : Nat} {v6 : Int32} {v7 : Int32} {v8 : Int32} {v10 : Int32} {h : AH} {H : Heap} {locs : List Loc} {cells slots : Nat} {ls : Array Slot} (hR : Rp G h H) (hL : ∀ q ∈ locs, gB G ≤ q.base) (hl : zm ls 28 [(1, zr v1), (2, zr v2), (3, zr v3), (4, zr v4), (5, zr v5), (6, .int v6), (7, .int v7), (8, .int v8), (10, .int v10), (0, .ref b)]) (hp : p_L_law_1637 xs L k54 v1 v2 v3 v4 v5 v6 v7 v8 v10 h = some (iI 1, h')) : W p l e (gR G hs 16 610) s m #[Value.ref b] below meth c H locs cells slots (lw_Z below #[Value.ref b] s) (F0 m 1637 ls []) := by
  obtain ⟨hx, hb, hml, hown, hts, hT, hK, rs, hlk, hret, hnm⟩ := id C
  have hm : ∀ w ∈ MW, w.before #[Value.ref b] s = true := fun w hw => hts w (hT w hw)
  obtain ⟨hX, hbB⟩ := hK.scr eX
  unfold p_L_law_1637 at hp
  refine lv_iconst (v := iI 0) hx hb dL_law_1637 rfl ?_
  exact s_L_law_1638 hfl eX hz0 hz1 hz2 C hk54 hR hL (zm_sub hl [0, 1, 2, 3, 4, 5, 6, 7, 8, 9] rfl) hp
def p_L_law_1608 (xs : Nat → Int32) (L : Nat) (k54 : Nat → Nat → Nat → Nat → Nat → Int32 → Int32 → Int32 → Int32 → Int32 → AH → Option (Int32 × AH)) (v1 : Nat) (v2 : Nat) (v3 : Nat) (v4 : Nat) (v5 : Nat) (v6 : Int32) (v7 : Int32) (v9 : Int32) (v10 : Int32) (v21 : Int32) (s0 : Int32) (s1 : Int32) (h : AH) : Option (Int32 × AH) :=
  nm ((s0 + s1)) fun (x1 : Int32) =>
  if v9 = 0 then
    p_L_law_1637 xs L k54 v1 v2 v3 v4 v5 v6 v7 x1 v10 h
  else
    if v21 < 0 then
      p_L_law_1633 xs L k54 v1 v2 v3 v4 v5 v6 v7 x1 v10 h
    else
      ck (aK h v1 = 12) <|
      bR (p_X10_queued v1 h) fun r5 h6 =>
      if r5 = (v7 - x1) then
        p_L_law_1633 xs L k54 v1 v2 v3 v4 v5 v6 v7 x1 v10 h6
      else
        p_L_law_1637 xs L k54 v1 v2 v3 v4 v5 v6 v7 x1 v10 h6
set_option maxHeartbeats 4000000 in
set_option maxRecDepth 100000 in
theorem s_L_law_1608 {p : Program} {l : Launch} {e : Env} {s : State} {m : MethodId} {b L : Nat} {xs : Nat → Int32} {nm : String} {below : List Frame} {meth : Method} {c : Code} {G : GG} {hs : AH}  {h' : AH} (hfl : l.stackTraces = false) (eX : gX G = (b, L, xs)) (hz0 : s.heap.size = gB G) (hz1 : gC G - aZ hs = 600130) (hz2 : aU hs = 0) (C : Cx G hs p s m #[Value.ref b] meth c cL_law 28 RL lw_tbl (some .boolean) nm) {k54 : Nat → Nat → Nat → Nat → Nat → Int32 → Int32 → Int32 → Int32 → Int32 → AH → Option (Int32 × AH)} (hk54 : ∀ {v1 : Nat} {v2 : Nat} {v3 : Nat} {v4 : Nat} {v5 : Nat} {v6 : Int32} {v7 : Int32} {v8 : Int32} {v9 : Int32} {v10 : Int32} {h : AH} {H : Heap} {locs : List Loc} {cells slots : Nat} {ls : Array Slot}, Rp G h H → (∀ q ∈ locs, gB G ≤ q.base) → zm ls 28 [(1, zr v1), (2, zr v2), (3, zr v3), (4, zr v4), (5, zr v5), (6, .int v6), (7, .int v7), (8, .int v8), (9, .int v9), (10, .int v10), (0, .ref b)] → k54 v1 v2 v3 v4 v5 v6 v7 v8 v9 v10 h = some (iI 1, h') → W p l e (gR G hs 16 610) s m #[Value.ref b] below meth c H locs cells slots (lw_Z below #[Value.ref b] s) (F0 m 54 ls [])) {v1 : Nat} {v2 : Nat} {v3 : Nat} {v4 : Nat} {v5 : Nat} {v6 : Int32} {v7 : Int32} {v9 : Int32} {v10 : Int32} {v21 : Int32} {s0 : Int32} {s1 : Int32} {h : AH} {H : Heap} {locs : List Loc} {cells slots : Nat} {ls : Array Slot} (hR : Rp G h H) (hL : ∀ q ∈ locs, gB G ≤ q.base) (hl : zm ls 28 [(1, zr v1), (2, zr v2), (3, zr v3), (4, zr v4), (5, zr v5), (6, .int v6), (7, .int v7), (9, .int v9), (10, .int v10), (21, .int v21), (0, .ref b)]) (hp : p_L_law_1608 xs L k54 v1 v2 v3 v4 v5 v6 v7 v9 v10 v21 s0 s1 h = some (iI 1, h')) : W p l e (gR G hs 16 610) s m #[Value.ref b] below meth c H locs cells slots (lw_Z below #[Value.ref b] s) (F0 m 1608 ls [.int s1, .int s0]) := by
  obtain ⟨hx, hb, hml, hown, hts, hT, hK, rs, hlk, hret, hnm⟩ := id C
  have hm : ∀ w ∈ MW, w.before #[Value.ref b] s = true := fun w hw => hts w (hT w hw)
  obtain ⟨hX, hbB⟩ := hK.scr eX
  unfold p_L_law_1608 at hp
  refine lv_iadd hx hb dL_law_1608 ?_
  refine lv_topi (fun x1 ex1 => ?_)
  replace hp := nm_i hp ex1
  refine zm_istore (lv' := [(8, .int x1), (1, zr v1), (2, zr v2), (3, zr v3), (4, zr v4), (5, zr v5), (6, .int v6), (7, .int v7), (9, .int v9), (10, .int v10), (21, .int v21), (0, .ref b)]) hx hb dL_law_1609 hl (by decide) (by repeat (first | exact noL_nil _ | refine noL_i ?_ | refine noL_z ?_ | refine noL_r ?_ | refine noL_c (by decide) ?_)) rfl (fun ls hl => ?_)
  refine lv_iload hx hb dL_law_1611 (zm_at hl 8 rfl) ?_
  refine lv_if_eq (tgt := 1637) hx hb dL_law_1613 (by decide) (fun c2 => ?_) (fun c2 => ?_)
  · replace hp := ite_p hp c2
    exact s_L_law_1637 hfl eX hz0 hz1 hz2 C hk54 hR hL (zm_sub hl [1, 2, 3, 4, 5, 6, 7, 0, 9, 11] rfl) hp
  · replace hp := ite_n hp c2
    refine lv_iload hx hb dL_law_1616 (zm_at hl 10 rfl) ?_
    refine lv_if_lt (tgt := 1633) hx hb dL_law_1618 (by decide) (fun c3 => ?_) (fun c3 => ?_)
    · replace hp := ite_p hp c3
      exact s_L_law_1633 hfl eX hz0 hz1 hz2 C hk54 hR hL (zm_sub hl [1, 2, 3, 4, 5, 6, 7, 0, 9, 11] rfl) hp
    · replace hp := ite_n hp c3
      refine z_aload_n hx hb dL_law_1621 rfl (zm_at hl 1 rfl) ?_
      obtain ⟨k4, hp⟩ := ck_i hp
      obtain ⟨r5, h6, er5, hp⟩ := bR_i hp
      refine r_callV (ci := 11) (r := (RX10, TX10, 7)) (n := 0) (As := []) (rest := []) C (c_X10_queued l G v1 h r5 h6 er5) hR hL rfl k4 mw_291 mw_292 mw_293 mw_1 mw_294 (by decide +kernel) (by decide) rfl (zm_size hl) rfl (by simp [zr_cat, in_cat, lo_cat, re_cat]) dL_law_1622 (st2 := [.int r5]) rfl (fun H locs cells slots hR hL => ?_)
      refine lv_iload hx hb dL_law_1625 (zm_at hl 7 rfl) ?_
      refine lv_iload hx hb dL_law_1627 (zm_at hl 0 rfl) ?_
      refine lv_isub hx hb dL_law_1629 ?_
      refine lv_icmp_ne (tgt := 1637) hx hb dL_law_1630 (by decide) (fun c7 => ?_) (fun c7 => ?_)
      · replace hp := ite_n hp c7
        exact s_L_law_1637 hfl eX hz0 hz1 hz2 C hk54 hR hL (zm_sub hl [1, 2, 3, 4, 5, 6, 7, 0, 9, 11] rfl) hp
      · replace hp := ite_p hp c7
        exact s_L_law_1633 hfl eX hz0 hz1 hz2 C hk54 hR hL (zm_sub hl [1, 2, 3, 4, 5, 6, 7, 0, 9, 11] rfl) hp
def p_L_law_1594 (xs : Nat → Int32) (L : Nat) (k54 : Nat → Nat → Nat → Nat → Nat → Int32 → Int32 → Int32 → Int32 → Int32 → AH → Option (Int32 × AH)) (v1 : Nat) (v2 : Nat) (v3 : Nat) (v4 : Nat) (v5 : Nat) (v6 : Int32) (v7 : Int32) (v8 : Int32) (v10 : Int32) (v21 : Int32) (s0 : Int32) (h : AH) : Option (Int32 × AH) :=
  if v21 < 0 then
    p_L_law_1608 xs L k54 v1 v2 v3 v4 v5 v6 v7 s0 v10 v21 v8 (iI 0) h
  else
    p_L_law_1608 xs L k54 v1 v2 v3 v4 v5 v6 v7 s0 v10 v21 v8 (iI 1) h
set_option maxHeartbeats 4000000 in
set_option maxRecDepth 100000 in
theorem s_L_law_1594 {p : Program} {l : Launch} {e : Env} {s : State} {m : MethodId} {b L : Nat} {xs : Nat → Int32} {nm : String} {below : List Frame} {meth : Method} {c : Code} {G : GG} {hs : AH}  {h' : AH} (hfl : l.stackTraces = false) (eX : gX G = (b, L, xs)) (hz0 : s.heap.size = gB G) (hz1 : gC G - aZ hs = 600130) (hz2 : aU hs = 0) (C : Cx G hs p s m #[Value.ref b] meth c cL_law 28 RL lw_tbl (some .boolean) nm) {k54 : Nat → Nat → Nat → Nat → Nat → Int32 → Int32 → Int32 → Int32 → Int32 → AH → Option (Int32 × AH)} (hk54 : ∀ {v1 : Nat} {v2 : Nat} {v3 : Nat} {v4 : Nat} {v5 : Nat} {v6 : Int32} {v7 : Int32} {v8 : Int32} {v9 : Int32} {v10 : Int32} {h : AH} {H : Heap} {locs : List Loc} {cells slots : Nat} {ls : Array Slot}, Rp G h H → (∀ q ∈ locs, gB G ≤ q.base) → zm ls 28 [(1, zr v1), (2, zr v2), (3, zr v3), (4, zr v4), (5, zr v5), (6, .int v6), (7, .int v7), (8, .int v8), (9, .int v9), (10, .int v10), (0, .ref b)] → k54 v1 v2 v3 v4 v5 v6 v7 v8 v9 v10 h = some (iI 1, h') → W p l e (gR G hs 16 610) s m #[Value.ref b] below meth c H locs cells slots (lw_Z below #[Value.ref b] s) (F0 m 54 ls [])) {v1 : Nat} {v2 : Nat} {v3 : Nat} {v4 : Nat} {v5 : Nat} {v6 : Int32} {v7 : Int32} {v8 : Int32} {v10 : Int32} {v21 : Int32} {s0 : Int32} {h : AH} {H : Heap} {locs : List Loc} {cells slots : Nat} {ls : Array Slot} (hR : Rp G h H) (hL : ∀ q ∈ locs, gB G ≤ q.base) (hl : zm ls 28 [(1, zr v1), (2, zr v2), (3, zr v3), (4, zr v4), (5, zr v5), (6, .int v6), (7, .int v7), (8, .int v8), (10, .int v10), (21, .int v21), (0, .ref b)]) (hp : p_L_law_1594 xs L k54 v1 v2 v3 v4 v5 v6 v7 v8 v10 v21 s0 h = some (iI 1, h')) : W p l e (gR G hs 16 610) s m #[Value.ref b] below meth c H locs cells slots (lw_Z below #[Value.ref b] s) (F0 m 1594 ls [.int s0]) := by
  obtain ⟨hx, hb, hml, hown, hts, hT, hK, rs, hlk, hret, hnm⟩ := id C
  have hm : ∀ w ∈ MW, w.before #[Value.ref b] s = true := fun w hw => hts w (hT w hw)
  obtain ⟨hX, hbB⟩ := hK.scr eX
  unfold p_L_law_1594 at hp
  refine zm_istore (lv' := [(9, .int s0), (1, zr v1), (2, zr v2), (3, zr v3), (4, zr v4), (5, zr v5), (6, .int v6), (7, .int v7), (8, .int v8), (10, .int v10), (21, .int v21), (0, .ref b)]) hx hb dL_law_1594 hl (by decide) (by repeat (first | exact noL_nil _ | refine noL_i ?_ | refine noL_z ?_ | refine noL_r ?_ | refine noL_c (by decide) ?_)) rfl (fun ls hl => ?_)
  refine lv_iload hx hb dL_law_1596 (zm_at hl 8 rfl) ?_
  refine lv_iload hx hb dL_law_1598 (zm_at hl 10 rfl) ?_
  refine lv_if_lt (tgt := 1607) hx hb dL_law_1600 (by decide) (fun c1 => ?_) (fun c1 => ?_)
  · replace hp := ite_p hp c1
    refine lv_iconst (v := iI 0) hx hb dL_law_1607 rfl ?_
    exact s_L_law_1608 hfl eX hz0 hz1 hz2 C hk54 hR hL (zm_sub hl [1, 2, 3, 4, 5, 6, 7, 0, 9, 10, 11] rfl) hp
  · replace hp := ite_n hp c1
    refine lv_iconst (v := iI 1) hx hb dL_law_1603 rfl ?_
    refine lv_goto (tgt := 1608) hx hb dL_law_1604 (by decide) ?_
    exact s_L_law_1608 hfl eX hz0 hz1 hz2 C hk54 hR hL (zm_sub hl [1, 2, 3, 4, 5, 6, 7, 0, 9, 10, 11] rfl) hp
def p_L_law_1593 (xs : Nat → Int32) (L : Nat) (k54 : Nat → Nat → Nat → Nat → Nat → Int32 → Int32 → Int32 → Int32 → Int32 → AH → Option (Int32 × AH)) (v1 : Nat) (v2 : Nat) (v3 : Nat) (v4 : Nat) (v5 : Nat) (v6 : Int32) (v7 : Int32) (v8 : Int32) (v10 : Int32) (v21 : Int32) (h : AH) : Option (Int32 × AH) :=
  p_L_law_1594 xs L k54 v1 v2 v3 v4 v5 v6 v7 v8 v10 v21 (iI 0) h
set_option maxHeartbeats 4000000 in
set_option maxRecDepth 100000 in
theorem s_L_law_1593 {p : Program} {l : Launch} {e : Env} {s : State} {m : MethodId} {b L : Nat} {xs : Nat → Int32} {nm : String} {below : List Frame} {meth : Method} {c : Code} {G : GG} {hs : AH}  {h' : AH} (hfl : l.stackTraces = false) (eX : gX G = (b, L, xs)) (hz0 : s.heap.size = gB G) (hz1 : gC G - aZ hs = 600130) (hz2 : aU hs = 0) (C : Cx G hs p s m #[Value.ref b] meth c cL_law 28 RL lw_tbl (some .boolean) nm) {k54 : Nat → Nat → Nat → Nat → Nat → Int32 → Int32 → Int32 → Int32 → Int32 → AH → Option (Int32 × AH)} (hk54 : ∀ {v1 : Nat} {v2 : Nat} {v3 : Nat} {v4 : Nat} {v5 : Nat} {v6 : Int32} {v7 : Int32} {v8 : Int32} {v9 : Int32} {v10 : Int32} {h : AH} {H : Heap} {locs : List Loc} {cells slots : Nat} {ls : Array Slot}, Rp G h H → (∀ q ∈ locs, gB G ≤ q.base) → zm ls 28 [(1, zr v1), (2, zr v2), (3, zr v3), (4, zr v4), (5, zr v5), (6, .int v6), (7, .int v7), (8, .int v8), (9, .int v9), (10, .int v10), (0, .ref b)] → k54 v1 v2 v3 v4 v5 v6 v7 v8 v9 v10 h = some (iI 1, h') → W p l e (gR G hs 16 610) s m #[Value.ref b] below meth c H locs cells slots (lw_Z below #[Value.ref b] s) (F0 m 54 ls [])) {v1 : Nat} {v2 : Nat} {v3 : Nat} {v4 : Nat} {v5 : Nat} {v6 : Int32} {v7 : Int32} {v8 : Int32} {v10 : Int32} {v21 : Int32} {h : AH} {H : Heap} {locs : List Loc} {cells slots : Nat} {ls : Array Slot} (hR : Rp G h H) (hL : ∀ q ∈ locs, gB G ≤ q.base) (hl : zm ls 28 [(1, zr v1), (2, zr v2), (3, zr v3), (4, zr v4), (5, zr v5), (6, .int v6), (7, .int v7), (8, .int v8), (10, .int v10), (21, .int v21), (0, .ref b)]) (hp : p_L_law_1593 xs L k54 v1 v2 v3 v4 v5 v6 v7 v8 v10 v21 h = some (iI 1, h')) : W p l e (gR G hs 16 610) s m #[Value.ref b] below meth c H locs cells slots (lw_Z below #[Value.ref b] s) (F0 m 1593 ls []) := by
  obtain ⟨hx, hb, hml, hown, hts, hT, hK, rs, hlk, hret, hnm⟩ := id C
  have hm : ∀ w ∈ MW, w.before #[Value.ref b] s = true := fun w hw => hts w (hT w hw)
  obtain ⟨hX, hbB⟩ := hK.scr eX
  unfold p_L_law_1593 at hp
  refine lv_iconst (v := iI 0) hx hb dL_law_1593 rfl ?_
  exact s_L_law_1594 hfl eX hz0 hz1 hz2 C hk54 hR hL (zm_sub hl [0, 1, 2, 3, 4, 5, 6, 7, 8, 9, 10] rfl) hp
def p_L_law_1570 (xs : Nat → Int32) (L : Nat) (k54 : Nat → Nat → Nat → Nat → Nat → Int32 → Int32 → Int32 → Int32 → Int32 → AH → Option (Int32 × AH)) (v1 : Nat) (v2 : Nat) (v3 : Nat) (v4 : Nat) (v5 : Nat) (v6 : Int32) (v7 : Int32) (v8 : Int32) (v10 : Int32) (h : AH) : Option (Int32 × AH) :=
  ck (aK h v1 = 12) <|
  bR (p_X10_write v1 h) fun r2 h3 =>
  if r2 < (iI (-1)) then
    p_L_law_1593 xs L k54 v1 v2 v3 v4 v5 v6 v7 v8 v10 r2 h3
  else
    if v7 ≤ r2 then
      p_L_law_1593 xs L k54 v1 v2 v3 v4 v5 v6 v7 v8 v10 r2 h3
    else
      p_L_law_1594 xs L k54 v1 v2 v3 v4 v5 v6 v7 v8 v10 r2 (iI 1) h3
set_option maxHeartbeats 4000000 in
set_option maxRecDepth 100000 in
theorem s_L_law_1570 {p : Program} {l : Launch} {e : Env} {s : State} {m : MethodId} {b L : Nat} {xs : Nat → Int32} {nm : String} {below : List Frame} {meth : Method} {c : Code} {G : GG} {hs : AH}  {h' : AH} (hfl : l.stackTraces = false) (eX : gX G = (b, L, xs)) (hz0 : s.heap.size = gB G) (hz1 : gC G - aZ hs = 600130) (hz2 : aU hs = 0) (C : Cx G hs p s m #[Value.ref b] meth c cL_law 28 RL lw_tbl (some .boolean) nm) {k54 : Nat → Nat → Nat → Nat → Nat → Int32 → Int32 → Int32 → Int32 → Int32 → AH → Option (Int32 × AH)} (hk54 : ∀ {v1 : Nat} {v2 : Nat} {v3 : Nat} {v4 : Nat} {v5 : Nat} {v6 : Int32} {v7 : Int32} {v8 : Int32} {v9 : Int32} {v10 : Int32} {h : AH} {H : Heap} {locs : List Loc} {cells slots : Nat} {ls : Array Slot}, Rp G h H → (∀ q ∈ locs, gB G ≤ q.base) → zm ls 28 [(1, zr v1), (2, zr v2), (3, zr v3), (4, zr v4), (5, zr v5), (6, .int v6), (7, .int v7), (8, .int v8), (9, .int v9), (10, .int v10), (0, .ref b)] → k54 v1 v2 v3 v4 v5 v6 v7 v8 v9 v10 h = some (iI 1, h') → W p l e (gR G hs 16 610) s m #[Value.ref b] below meth c H locs cells slots (lw_Z below #[Value.ref b] s) (F0 m 54 ls [])) {v1 : Nat} {v2 : Nat} {v3 : Nat} {v4 : Nat} {v5 : Nat} {v6 : Int32} {v7 : Int32} {v8 : Int32} {v10 : Int32} {h : AH} {H : Heap} {locs : List Loc} {cells slots : Nat} {ls : Array Slot} (hR : Rp G h H) (hL : ∀ q ∈ locs, gB G ≤ q.base) (hl : zm ls 28 [(1, zr v1), (2, zr v2), (3, zr v3), (4, zr v4), (5, zr v5), (6, .int v6), (7, .int v7), (8, .int v8), (10, .int v10), (0, .ref b)]) (hp : p_L_law_1570 xs L k54 v1 v2 v3 v4 v5 v6 v7 v8 v10 h = some (iI 1, h')) : W p l e (gR G hs 16 610) s m #[Value.ref b] below meth c H locs cells slots (lw_Z below #[Value.ref b] s) (F0 m 1570 ls []) := by
  obtain ⟨hx, hb, hml, hown, hts, hT, hK, rs, hlk, hret, hnm⟩ := id C
  have hm : ∀ w ∈ MW, w.before #[Value.ref b] s = true := fun w hw => hts w (hT w hw)
  obtain ⟨hX, hbB⟩ := hK.scr eX
  unfold p_L_law_1570 at hp
  refine z_aload_n hx hb dL_law_1570 rfl (zm_at hl 0 rfl) ?_
  obtain ⟨k1, hp⟩ := ck_i hp
  obtain ⟨r2, h3, er2, hp⟩ := bR_i hp
  refine r_callV (ci := 11) (r := (RX10, TX10, 7)) (n := 0) (As := []) (rest := []) C (c_X10_write l G v1 h r2 h3 er2) hR hL rfl k1 mw_205 mw_206 mw_207 mw_1 mw_208 (by decide +kernel) (by decide) rfl (zm_size hl) rfl (by simp [zr_cat, in_cat, lo_cat, re_cat]) dL_law_1571 (st2 := [.int r2]) rfl (fun H locs cells slots hR hL => ?_)
  refine zm_istore (lv' := [(21, .int r2), (1, zr v1), (2, zr v2), (3, zr v3), (4, zr v4), (5, zr v5), (6, .int v6), (7, .int v7), (8, .int v8), (10, .int v10), (0, .ref b)]) hx hb dL_law_1574 hl (by decide) (by repeat (first | exact noL_nil _ | refine noL_i ?_ | refine noL_z ?_ | refine noL_r ?_ | refine noL_c (by decide) ?_)) rfl (fun ls hl => ?_)
  refine lv_iload hx hb dL_law_1576 (zm_at hl 0 rfl) ?_
  refine lv_iconst (v := iI (-1)) hx hb dL_law_1578 rfl ?_
  refine lv_icmp_lt (tgt := 1593) hx hb dL_law_1579 (by decide) (fun c4 => ?_) (fun c4 => ?_)
  · replace hp := ite_p hp c4
    exact s_L_law_1593 hfl eX hz0 hz1 hz2 C hk54 hR hL (zm_sub hl [1, 2, 3, 4, 5, 6, 7, 8, 9, 0, 10] rfl) hp
  · replace hp := ite_n hp c4
    refine lv_iload hx hb dL_law_1582 (zm_at hl 0 rfl) ?_
    refine lv_iload hx hb dL_law_1584 (zm_at hl 7 rfl) ?_
    refine lv_icmp_ge (tgt := 1593) hx hb dL_law_1586 (by decide) (fun c5 => ?_) (fun c5 => ?_)
    · replace hp := ite_p hp c5
      exact s_L_law_1593 hfl eX hz0 hz1 hz2 C hk54 hR hL (zm_sub hl [1, 2, 3, 4, 5, 6, 7, 8, 9, 0, 10] rfl) hp
    · replace hp := ite_n hp c5
      refine lv_iconst (v := iI 1) hx hb dL_law_1589 rfl ?_
      refine lv_goto (tgt := 1594) hx hb dL_law_1590 (by decide) ?_
      exact s_L_law_1594 hfl eX hz0 hz1 hz2 C hk54 hR hL (zm_sub hl [1, 2, 3, 4, 5, 6, 7, 8, 9, 0, 10] rfl) hp
def p_L_law_1368 (xs : Nat → Int32) (L : Nat) (k54 : Nat → Nat → Nat → Nat → Nat → Int32 → Int32 → Int32 → Int32 → Int32 → AH → Option (Int32 × AH)) (v1 : Nat) (v2 : Nat) (v3 : Nat) (v4 : Nat) (v5 : Nat) (v6 : Int32) (v7 : Int32) (v8 : Int32) (v10 : Int32) (v13 : Int32) (v14 : Int32) (v15 : Int32) (v16 : Int32) (h : AH) : Option (Int32 × AH) :=
  if v13 = (iI 20) then
    bR (p_L_lock v1 v15 v14 h) fun r7 h8 =>
    if r7 = (iI (-103)) then
      bR (p_L_lock v1 v15 v14 h8) fun r16 h17 =>
      if r16 = (iI (-103)) then
        p_L_law_1446 xs L k54 v1 v2 v3 v4 v5 v6 v7 v8 v10 (iI 1) h17
      else
        p_L_law_1446 xs L k54 v1 v2 v3 v4 v5 v6 v7 v8 v10 (iI 0) h17
    else
      bR (p_L_lock v1 v15 v14 h8) fun r10 h11 =>
      if r10 = ((iI 1) - r7) then
        bR (p_L_lock v1 v15 v14 h11) fun r13 h14 =>
        if r13 = r7 then
          p_L_law_1446 xs L k54 v1 v2 v3 v4 v5 v6 v7 v8 v10 (iI 1) h14
        else
          p_L_law_1445 xs L k54 v1 v2 v3 v4 v5 v6 v7 v8 v10 h14
      else
        p_L_law_1445 xs L k54 v1 v2 v3 v4 v5 v6 v7 v8 v10 h11
  else
    if v13 = (iI 21) then
      if (iI 60) ≤ v7 then
        p_L_law_1570 xs L k54 v1 v2 v3 v4 v5 v6 v7 v8 v10 h
      else
        if v6 = 0 then
          p_L_law_1477 xs L k54 v1 v2 v3 v4 v5 v6 v7 v8 v10 v14 v15 h
        else
          if (v16 - v16 / (iI 3) * (iI 3)) ≤ 0 then
            ck (¬ v6 = 0) <|
            p_L_law_1488 xs L k54 v1 v2 v3 v4 v5 v6 v7 v8 v10 v14 v15 ((v16 / (iI 3)) - (v16 / (iI 3)) / v6 * v6) h
          else
            p_L_law_1477 xs L k54 v1 v2 v3 v4 v5 v6 v7 v8 v10 v14 v15 h
    else
      p_L_law_1570 xs L k54 v1 v2 v3 v4 v5 v6 v7 v8 v10 h
set_option maxHeartbeats 4000000 in
set_option maxRecDepth 100000 in
theorem s_L_law_1368 {p : Program} {l : Launch} {e : Env} {s : State} {m : MethodId} {b L : Nat} {xs : Nat → Int32} {nm : String} {below : List Frame} {meth : Method} {c : Code} {G : GG} {hs : AH}  {h' : AH} (hfl : l.stackTraces = false) (eX : gX G = (b, L, xs)) (hz0 : s.heap.size = gB G) (hz1 : gC G - aZ hs = 600130) (hz2 : aU hs = 0) (C : Cx G hs p s m #[Value.ref b] meth c cL_law 28 RL lw_tbl (some .boolean) nm) {k54 : Nat → Nat → Nat → Nat → Nat → Int32 → Int32 → Int32 → Int32 → Int32 → AH → Option (Int32 × AH)} (hk54 : ∀ {v1 : Nat} {v2 : Nat} {v3 : Nat} {v4 : Nat} {v5 : Nat} {v6 : Int32} {v7 : Int32} {v8 : Int32} {v9 : Int32} {v10 : Int32} {h : AH} {H : Heap} {locs : List Loc} {cells slots : Nat} {ls : Array Slot}, Rp G h H → (∀ q ∈ locs, gB G ≤ q.base) → zm ls 28 [(1, zr v1), (2, zr v2), (3, zr v3), (4, zr v4), (5, zr v5), (6, .int v6), (7, .int v7), (8, .int v8), (9, .int v9), (10, .int v10), (0, .ref b)] → k54 v1 v2 v3 v4 v5 v6 v7 v8 v9 v10 h = some (iI 1, h') → W p l e (gR G hs 16 610) s m #[Value.ref b] below meth c H locs cells slots (lw_Z below #[Value.ref b] s) (F0 m 54 ls [])) {v1 : Nat} {v2 : Nat} {v3 : Nat} {v4 : Nat} {v5 : Nat} {v6 : Int32} {v7 : Int32} {v8 : Int32} {v10 : Int32} {v13 : Int32} {v14 : Int32} {v15 : Int32} {v16 : Int32} {h : AH} {H : Heap} {locs : List Loc} {cells slots : Nat} {ls : Array Slot} (hR : Rp G h H) (hL : ∀ q ∈ locs, gB G ≤ q.base) (hl : zm ls 28 [(1, zr v1), (2, zr v2), (3, zr v3), (4, zr v4), (5, zr v5), (6, .int v6), (7, .int v7), (8, .int v8), (10, .int v10), (13, .int v13), (14, .int v14), (15, .int v15), (16, .int v16), (0, .ref b)]) (hp : p_L_law_1368 xs L k54 v1 v2 v3 v4 v5 v6 v7 v8 v10 v13 v14 v15 v16 h = some (iI 1, h')) : W p l e (gR G hs 16 610) s m #[Value.ref b] below meth c H locs cells slots (lw_Z below #[Value.ref b] s) (F0 m 1368 ls []) := by
  obtain ⟨hx, hb, hml, hown, hts, hT, hK, rs, hlk, hret, hnm⟩ := id C
  have hm : ∀ w ∈ MW, w.before #[Value.ref b] s = true := fun w hw => hts w (hT w hw)
  obtain ⟨hX, hbB⟩ := hK.scr eX
  unfold p_L_law_1368 at hp
  refine lv_iload hx hb dL_law_1368 (zm_at hl 9 rfl) ?_
  refine lv_bipush (v := iI 20) hx hb dL_law_1370 (by decide +kernel) ?_
  refine lv_icmp_ne (tgt := 1451) hx hb dL_law_1372 (by decide) (fun c1 => ?_) (fun c1 => ?_)
  · replace hp := ite_n hp c1
    refine lv_iload hx hb dL_law_1451 (zm_at hl 9 rfl) ?_
    refine lv_bipush (v := iI 21) hx hb dL_law_1453 (by decide +kernel) ?_
    refine lv_icmp_ne (tgt := 1570) hx hb dL_law_1455 (by decide) (fun c2 => ?_) (fun c2 => ?_)
    · replace hp := ite_n hp c2
      exact s_L_law_1570 hfl eX hz0 hz1 hz2 C hk54 hR hL (zm_sub hl [0, 1, 2, 3, 4, 5, 6, 7, 8, 13] rfl) hp
    · replace hp := ite_p hp c2
      refine lv_iload hx hb dL_law_1458 (zm_at hl 6 rfl) ?_
      refine lv_bipush (v := iI 60) hx hb dL_law_1460 (by decide +kernel) ?_
      refine lv_icmp_ge (tgt := 1570) hx hb dL_law_1462 (by decide) (fun c3 => ?_) (fun c3 => ?_)
      · replace hp := ite_p hp c3
        exact s_L_law_1570 hfl eX hz0 hz1 hz2 C hk54 hR hL (zm_sub hl [0, 1, 2, 3, 4, 5, 6, 7, 8, 13] rfl) hp
      · replace hp := ite_n hp c3
        refine lv_iload hx hb dL_law_1465 (zm_at hl 5 rfl) ?_
        refine lv_if_eq (tgt := 1477) hx hb dL_law_1467 (by decide) (fun c4 => ?_) (fun c4 => ?_)
        · replace hp := ite_p hp c4
          exact s_L_law_1477 hfl eX hz0 hz1 hz2 C hk54 hR hL (zm_sub hl [0, 1, 2, 3, 4, 5, 6, 7, 8, 10, 11, 13] rfl) hp
        · replace hp := ite_n hp c4
          refine lv_iload hx hb dL_law_1470 (zm_at hl 12 rfl) ?_
          refine lv_iconst (v := iI 3) hx hb dL_law_1472 rfl ?_
          refine lv_irem hx hb dL_law_1473 (by decide +kernel) ?_
          refine lv_if_le (tgt := 1481) hx hb dL_law_1474 (by decide) (fun c5 => ?_) (fun c5 => ?_)
          · replace hp := ite_p hp c5
            refine lv_iload hx hb dL_law_1481 (zm_at hl 12 rfl) ?_
            refine lv_iconst (v := iI 3) hx hb dL_law_1483 rfl ?_
            refine lv_idiv hx hb dL_law_1484 (by decide +kernel) ?_
            refine lv_iload hx hb dL_law_1485 (zm_at hl 5 rfl) ?_
            obtain ⟨k6, hp⟩ := ck_i hp
            refine lv_irem hx hb dL_law_1487 k6 ?_
            exact s_L_law_1488 hfl eX hz0 hz1 hz2 C hk54 hR hL (zm_sub hl [0, 1, 2, 3, 4, 5, 6, 7, 8, 10, 11, 13] rfl) hp
          · replace hp := ite_n hp c5
            exact s_L_law_1477 hfl eX hz0 hz1 hz2 C hk54 hR hL (zm_sub hl [0, 1, 2, 3, 4, 5, 6, 7, 8, 10, 11, 13] rfl) hp
  · replace hp := ite_p hp c1
    refine z_aload_n hx hb dL_law_1375 rfl (zm_at hl 0 rfl) ?_
    refine lv_iload hx hb dL_law_1376 (zm_at hl 11 rfl) ?_
    refine lv_iload hx hb dL_law_1378 (zm_at hl 10 rfl) ?_
    obtain ⟨r7, h8, er7, hp⟩ := bR_i hp
    refine r_callSH (n := 3) (As := [zr v1, .int v15, .int v14]) (rest := []) C (c_L_lock l hfl G v1 v15 v14 h r7 h8 er7) hR hL mw_903 mw_904 mw_0 mw_905 (by decide +kernel) (by decide) rfl (zm_size hl) rfl (by simp [zr_cat, in_cat, lo_cat, re_cat]) dL_law_1380 (st2 := [.int r7]) rfl (fun H locs cells slots hR hL => ?_)
    refine zm_istore (lv' := [(21, .int r7), (1, zr v1), (2, zr v2), (3, zr v3), (4, zr v4), (5, zr v5), (6, .int v6), (7, .int v7), (8, .int v8), (10, .int v10), (13, .int v13), (14, .int v14), (15, .int v15), (16, .int v16), (0, .ref b)]) hx hb dL_law_1383 hl (by decide) (by repeat (first | exact noL_nil _ | refine noL_i ?_ | refine noL_z ?_ | refine noL_r ?_ | refine noL_c (by decide) ?_)) rfl (fun ls hl => ?_)
    refine lv_iload hx hb dL_law_1385 (zm_at hl 0 rfl) ?_
    refine lv_bipush (v := iI (-103)) hx hb dL_law_1387 (by decide +kernel) ?_
    refine lv_icmp_ne (tgt := 1413) hx hb dL_law_1389 (by decide) (fun c9 => ?_) (fun c9 => ?_)
    · replace hp := ite_n hp c9
      refine z_aload_n hx hb dL_law_1413 rfl (zm_at hl 1 rfl) ?_
      refine lv_iload hx hb dL_law_1414 (zm_at hl 12 rfl) ?_
      refine lv_iload hx hb dL_law_1416 (zm_at hl 11 rfl) ?_
      obtain ⟨r10, h11, er10, hp⟩ := bR_i hp
      refine r_callSH (n := 3) (As := [zr v1, .int v15, .int v14]) (rest := []) C (c_L_lock l hfl G v1 v15 v14 h8 r10 h11 er10) hR hL mw_903 mw_904 mw_0 mw_905 (by decide +kernel) (by decide) rfl (zm_size hl) rfl (by simp [zr_cat, in_cat, lo_cat, re_cat]) dL_law_1418 (st2 := [.int r10]) rfl (fun H locs cells slots hR hL => ?_)
      refine lv_iconst (v := iI 1) hx hb dL_law_1421 rfl ?_
      refine lv_iload hx hb dL_law_1422 (zm_at hl 0 rfl) ?_
      refine lv_isub hx hb dL_law_1424 ?_
      refine lv_icmp_ne (tgt := 1445) hx hb dL_law_1425 (by decide) (fun c12 => ?_) (fun c12 => ?_)
      · replace hp := ite_n hp c12
        exact s_L_law_1445 hfl eX hz0 hz1 hz2 C hk54 hR hL (zm_sub hl [1, 2, 3, 4, 5, 6, 7, 8, 9, 14] rfl) hp
      · replace hp := ite_p hp c12
        refine z_aload_n hx hb dL_law_1428 rfl (zm_at hl 1 rfl) ?_
        refine lv_iload hx hb dL_law_1429 (zm_at hl 12 rfl) ?_
        refine lv_iload hx hb dL_law_1431 (zm_at hl 11 rfl) ?_
        obtain ⟨r13, h14, er13, hp⟩ := bR_i hp
        refine r_callSH (n := 3) (As := [zr v1, .int v15, .int v14]) (rest := []) C (c_L_lock l hfl G v1 v15 v14 h11 r13 h14 er13) hR hL mw_903 mw_904 mw_0 mw_905 (by decide +kernel) (by decide) rfl (zm_size hl) rfl (by simp [zr_cat, in_cat, lo_cat, re_cat]) dL_law_1433 (st2 := [.int r13]) rfl (fun H locs cells slots hR hL => ?_)
        refine lv_iload hx hb dL_law_1436 (zm_at hl 0 rfl) ?_
        refine lv_icmp_ne (tgt := 1445) hx hb dL_law_1438 (by decide) (fun c15 => ?_) (fun c15 => ?_)
        · replace hp := ite_n hp c15
          exact s_L_law_1445 hfl eX hz0 hz1 hz2 C hk54 hR hL (zm_sub hl [1, 2, 3, 4, 5, 6, 7, 8, 9, 14] rfl) hp
        · replace hp := ite_p hp c15
          refine lv_iconst (v := iI 1) hx hb dL_law_1441 rfl ?_
          refine lv_goto (tgt := 1446) hx hb dL_law_1442 (by decide) ?_
          exact s_L_law_1446 hfl eX hz0 hz1 hz2 C hk54 hR hL (zm_sub hl [1, 2, 3, 4, 5, 6, 7, 8, 9, 14] rfl) hp
    · replace hp := ite_p hp c9
      refine z_aload_n hx hb dL_law_1392 rfl (zm_at hl 1 rfl) ?_
      refine lv_iload hx hb dL_law_1393 (zm_at hl 12 rfl) ?_
      refine lv_iload hx hb dL_law_1395 (zm_at hl 11 rfl) ?_
      obtain ⟨r16, h17, er16, hp⟩ := bR_i hp
      refine r_callSH (n := 3) (As := [zr v1, .int v15, .int v14]) (rest := []) C (c_L_lock l hfl G v1 v15 v14 h8 r16 h17 er16) hR hL mw_903 mw_904 mw_0 mw_905 (by decide +kernel) (by decide) rfl (zm_size hl) rfl (by simp [zr_cat, in_cat, lo_cat, re_cat]) dL_law_1397 (st2 := [.int r16]) rfl (fun H locs cells slots hR hL => ?_)
      refine lv_bipush (v := iI (-103)) hx hb dL_law_1400 (by decide +kernel) ?_
      refine lv_icmp_ne (tgt := 1409) hx hb dL_law_1402 (by decide) (fun c18 => ?_) (fun c18 => ?_)
      · replace hp := ite_n hp c18
        refine lv_iconst (v := iI 0) hx hb dL_law_1409 rfl ?_
        refine lv_goto (tgt := 1446) hx hb dL_law_1410 (by decide) ?_
        exact s_L_law_1446 hfl eX hz0 hz1 hz2 C hk54 hR hL (zm_sub hl [1, 2, 3, 4, 5, 6, 7, 8, 9, 14] rfl) hp
      · replace hp := ite_p hp c18
        refine lv_iconst (v := iI 1) hx hb dL_law_1405 rfl ?_
        refine lv_goto (tgt := 1446) hx hb dL_law_1406 (by decide) ?_
        exact s_L_law_1446 hfl eX hz0 hz1 hz2 C hk54 hR hL (zm_sub hl [1, 2, 3, 4, 5, 6, 7, 8, 9, 14] rfl) hp
def p_L_law_1062 (xs : Nat → Int32) (L : Nat) (k54 : Nat → Nat → Nat → Nat → Nat → Int32 → Int32 → Int32 → Int32 → Int32 → AH → Option (Int32 × AH)) (v1 : Nat) (v2 : Nat) (v3 : Nat) (v4 : Nat) (v5 : Nat) (v6 : Int32) (v7 : Int32) (v8 : Int32) (v10 : Int32) (v13 : Int32) (v14 : Int32) (v15 : Int32) (v16 : Int32) (h : AH) : Option (Int32 × AH) :=
  if (iI 20) ≤ v13 then
    p_L_law_1368 xs L k54 v1 v2 v3 v4 v5 v6 v7 v8 v10 v13 v14 v15 v16 h
  else
    if v6 ≤ 0 then
      p_L_law_1368 xs L k54 v1 v2 v3 v4 v5 v6 v7 v8 v10 v13 v14 v15 v16 h
    else
      ck (¬ v6 = 0) <|
      nm ((v16 - v16 / v6 * v6)) fun (x4 : Int32) =>
      ck (aK h v5 = 20 ∧ ix x4 (aN h v5)) <|
      nm (((aI h v5 x4.toNatClampNeg) / (iI 1000))) fun (x7 : Int32) =>
      bR (p_L_spared v1 x4 h) fun r8 h9 =>
      bR (p_L_version v1 x7 h9) fun r10 h11 =>
      bR (p_L_length v1 x7 h11) fun r12 h13 =>
      if ((v16 / (iI 60)) - (v16 / (iI 60)) / (iI 4) * (iI 4)) = 0 then
        bR (p_L_drop v1 x4 h13) fun r17 h18 =>
        p_L_law_1141 xs L k54 v1 v2 v3 v4 v5 v6 v7 v8 v10 v16 x4 x7 r8 r10 r12 r17 h18
      else
        bR (p_L_come v1 x4 h13) fun r15 h16 =>
        p_L_law_1141 xs L k54 v1 v2 v3 v4 v5 v6 v7 v8 v10 v16 x4 x7 r8 r10 r12 r15 h16
set_option maxHeartbeats 4000000 in
set_option maxRecDepth 100000 in
theorem s_L_law_1062 {p : Program} {l : Launch} {e : Env} {s : State} {m : MethodId} {b L : Nat} {xs : Nat → Int32} {nm : String} {below : List Frame} {meth : Method} {c : Code} {G : GG} {hs : AH}  {h' : AH} (hfl : l.stackTraces = false) (eX : gX G = (b, L, xs)) (hz0 : s.heap.size = gB G) (hz1 : gC G - aZ hs = 600130) (hz2 : aU hs = 0) (C : Cx G hs p s m #[Value.ref b] meth c cL_law 28 RL lw_tbl (some .boolean) nm) {k54 : Nat → Nat → Nat → Nat → Nat → Int32 → Int32 → Int32 → Int32 → Int32 → AH → Option (Int32 × AH)} (hk54 : ∀ {v1 : Nat} {v2 : Nat} {v3 : Nat} {v4 : Nat} {v5 : Nat} {v6 : Int32} {v7 : Int32} {v8 : Int32} {v9 : Int32} {v10 : Int32} {h : AH} {H : Heap} {locs : List Loc} {cells slots : Nat} {ls : Array Slot}, Rp G h H → (∀ q ∈ locs, gB G ≤ q.base) → zm ls 28 [(1, zr v1), (2, zr v2), (3, zr v3), (4, zr v4), (5, zr v5), (6, .int v6), (7, .int v7), (8, .int v8), (9, .int v9), (10, .int v10), (0, .ref b)] → k54 v1 v2 v3 v4 v5 v6 v7 v8 v9 v10 h = some (iI 1, h') → W p l e (gR G hs 16 610) s m #[Value.ref b] below meth c H locs cells slots (lw_Z below #[Value.ref b] s) (F0 m 54 ls [])) {v1 : Nat} {v2 : Nat} {v3 : Nat} {v4 : Nat} {v5 : Nat} {v6 : Int32} {v7 : Int32} {v8 : Int32} {v10 : Int32} {v13 : Int32} {v14 : Int32} {v15 : Int32} {v16 : Int32} {h : AH} {H : Heap} {locs : List Loc} {cells slots : Nat} {ls : Array Slot} (hR : Rp G h H) (hL : ∀ q ∈ locs, gB G ≤ q.base) (hl : zm ls 28 [(1, zr v1), (2, zr v2), (3, zr v3), (4, zr v4), (5, zr v5), (6, .int v6), (7, .int v7), (8, .int v8), (10, .int v10), (13, .int v13), (14, .int v14), (15, .int v15), (16, .int v16), (0, .ref b)]) (hp : p_L_law_1062 xs L k54 v1 v2 v3 v4 v5 v6 v7 v8 v10 v13 v14 v15 v16 h = some (iI 1, h')) : W p l e (gR G hs 16 610) s m #[Value.ref b] below meth c H locs cells slots (lw_Z below #[Value.ref b] s) (F0 m 1062 ls []) := by
  obtain ⟨hx, hb, hml, hown, hts, hT, hK, rs, hlk, hret, hnm⟩ := id C
  have hm : ∀ w ∈ MW, w.before #[Value.ref b] s = true := fun w hw => hts w (hT w hw)
  obtain ⟨hX, hbB⟩ := hK.scr eX
  unfold p_L_law_1062 at hp
  refine lv_iload hx hb dL_law_1062 (zm_at hl 9 rfl) ?_
  refine lv_bipush (v := iI 20) hx hb dL_law_1064 (by decide +kernel) ?_
  refine lv_icmp_ge (tgt := 1368) hx hb dL_law_1066 (by decide) (fun c1 => ?_) (fun c1 => ?_)
  · replace hp := ite_p hp c1
    exact s_L_law_1368 hfl eX hz0 hz1 hz2 C hk54 hR hL (zm_sub hl [0, 1, 2, 3, 4, 5, 6, 7, 8, 9, 10, 11, 12, 13] rfl) hp
  · replace hp := ite_n hp c1
    refine lv_iload hx hb dL_law_1069 (zm_at hl 5 rfl) ?_
    refine lv_if_le (tgt := 1368) hx hb dL_law_1071 (by decide) (fun c2 => ?_) (fun c2 => ?_)
    · replace hp := ite_p hp c2
      exact s_L_law_1368 hfl eX hz0 hz1 hz2 C hk54 hR hL (zm_sub hl [0, 1, 2, 3, 4, 5, 6, 7, 8, 9, 10, 11, 12, 13] rfl) hp
    · replace hp := ite_n hp c2
      refine lv_iload hx hb dL_law_1074 (zm_at hl 12 rfl) ?_
      refine lv_iload hx hb dL_law_1076 (zm_at hl 5 rfl) ?_
      obtain ⟨k3, hp⟩ := ck_i hp
      refine lv_irem hx hb dL_law_1078 k3 ?_
      refine lv_topi (fun x4 ex4 => ?_)
      replace hp := nm_i hp ex4
      refine zm_istore (lv' := [(21, .int x4), (1, zr v1), (2, zr v2), (3, zr v3), (4, zr v4), (5, zr v5), (6, .int v6), (7, .int v7), (8, .int v8), (10, .int v10), (13, .int v13), (14, .int v14), (15, .int v15), (16, .int v16), (0, .ref b)]) hx hb dL_law_1079 hl (by decide) (by repeat (first | exact noL_nil _ | refine noL_i ?_ | refine noL_z ?_ | refine noL_r ?_ | refine noL_c (by decide) ?_)) rfl (fun ls hl => ?_)
      refine z_aload hx hb dL_law_1081 (zm_at hl 5 rfl) ?_
      refine lv_iload hx hb dL_law_1083 (zm_at hl 0 rfl) ?_
      obtain ⟨k5, hp⟩ := ck_i hp
      refine r_iald hx hb hK hR k5.1 k5.2 dL_law_1085 ?_
      refine lv_sipush (v := iI 1000) hx hb dL_law_1086 (by decide +kernel) ?_
      refine lv_idiv hx hb dL_law_1089 (by decide +kernel) ?_
      refine lv_topi (fun x7 ex7 => ?_)
      replace hp := nm_i hp ex7
      refine zm_istore (lv' := [(22, .int x7), (21, .int x4), (1, zr v1), (2, zr v2), (3, zr v3), (4, zr v4), (5, zr v5), (6, .int v6), (7, .int v7), (8, .int v8), (10, .int v10), (13, .int v13), (14, .int v14), (15, .int v15), (16, .int v16), (0, .ref b)]) hx hb dL_law_1090 hl (by decide) (by repeat (first | exact noL_nil _ | refine noL_i ?_ | refine noL_z ?_ | refine noL_r ?_ | refine noL_c (by decide) ?_)) rfl (fun ls hl => ?_)
      refine z_aload_n hx hb dL_law_1092 rfl (zm_at hl 2 rfl) ?_
      refine lv_iload hx hb dL_law_1093 (zm_at hl 1 rfl) ?_
      obtain ⟨r8, h9, er8, hp⟩ := bR_i hp
      refine r_callSH (n := 2) (As := [zr v1, .int x4]) (rest := []) C (c_L_spared l hfl G v1 x4 h r8 h9 er8) hR hL mw_896 mw_897 mw_0 mw_898 (by decide +kernel) (by decide) rfl (zm_size hl) rfl (by simp [zr_cat, in_cat, lo_cat, re_cat]) dL_law_1095 (st2 := [.int r8]) rfl (fun H locs cells slots hR hL => ?_)
      refine zm_istore (lv' := [(23, .int r8), (22, .int x7), (21, .int x4), (1, zr v1), (2, zr v2), (3, zr v3), (4, zr v4), (5, zr v5), (6, .int v6), (7, .int v7), (8, .int v8), (10, .int v10), (13, .int v13), (14, .int v14), (15, .int v15), (16, .int v16), (0, .ref b)]) hx hb dL_law_1098 hl (by decide) (by repeat (first | exact noL_nil _ | refine noL_i ?_ | refine noL_z ?_ | refine noL_r ?_ | refine noL_c (by decide) ?_)) rfl (fun ls hl => ?_)
      refine z_aload_n hx hb dL_law_1100 rfl (zm_at hl 3 rfl) ?_
      refine lv_iload hx hb dL_law_1101 (zm_at hl 1 rfl) ?_
      obtain ⟨r10, h11, er10, hp⟩ := bR_i hp
      refine r_callSH (n := 2) (As := [zr v1, .int x7]) (rest := []) C (c_L_version l hfl G v1 x7 h9 r10 h11 er10) hR hL mw_683 mw_684 mw_0 mw_685 (by decide +kernel) (by decide) rfl (zm_size hl) rfl (by simp [zr_cat, in_cat, lo_cat, re_cat]) dL_law_1103 (st2 := [.int r10]) rfl (fun H locs cells slots hR hL => ?_)
      refine zm_istore (lv' := [(24, .int r10), (23, .int r8), (22, .int x7), (21, .int x4), (1, zr v1), (2, zr v2), (3, zr v3), (4, zr v4), (5, zr v5), (6, .int v6), (7, .int v7), (8, .int v8), (10, .int v10), (13, .int v13), (14, .int v14), (15, .int v15), (16, .int v16), (0, .ref b)]) hx hb dL_law_1106 hl (by decide) (by repeat (first | exact noL_nil _ | refine noL_i ?_ | refine noL_z ?_ | refine noL_r ?_ | refine noL_c (by decide) ?_)) rfl (fun ls hl => ?_)
      refine z_aload_n hx hb dL_law_1108 rfl (zm_at hl 4 rfl) ?_
      refine lv_iload hx hb dL_law_1109 (zm_at hl 2 rfl) ?_
      obtain ⟨r12, h13, er12, hp⟩ := bR_i hp
      refine r_callSH (n := 2) (As := [zr v1, .int x7]) (rest := []) C (c_L_length l hfl G v1 x7 h11 r12 h13 er12) hR hL mw_665 mw_666 mw_0 mw_667 (by decide +kernel) (by decide) rfl (zm_size hl) rfl (by simp [zr_cat, in_cat, lo_cat, re_cat]) dL_law_1111 (st2 := [.int r12]) rfl (fun H locs cells slots hR hL => ?_)
      refine zm_istore (lv' := [(25, .int r12), (24, .int r10), (23, .int r8), (22, .int x7), (21, .int x4), (1, zr v1), (2, zr v2), (3, zr v3), (4, zr v4), (5, zr v5), (6, .int v6), (7, .int v7), (8, .int v8), (10, .int v10), (13, .int v13), (14, .int v14), (15, .int v15), (16, .int v16), (0, .ref b)]) hx hb dL_law_1114 hl (by decide) (by repeat (first | exact noL_nil _ | refine noL_i ?_ | refine noL_z ?_ | refine noL_r ?_ | refine noL_c (by decide) ?_)) rfl (fun ls hl => ?_)
      refine lv_iload hx hb dL_law_1116 (zm_at hl 17 rfl) ?_
      refine lv_bipush (v := iI 60) hx hb dL_law_1118 (by decide +kernel) ?_
      refine lv_idiv hx hb dL_law_1120 (by decide +kernel) ?_
      refine lv_iconst (v := iI 4) hx hb dL_law_1121 rfl ?_
      refine lv_irem hx hb dL_law_1122 (by decide +kernel) ?_
      refine lv_if_ne (tgt := 1135) hx hb dL_law_1123 (by decide) (fun c14 => ?_) (fun c14 => ?_)
      · replace hp := ite_n hp c14
        refine z_aload_n hx hb dL_law_1135 rfl (zm_at hl 5 rfl) ?_
        refine lv_iload hx hb dL_law_1136 (zm_at hl 4 rfl) ?_
        obtain ⟨r15, h16, er15, hp⟩ := bR_i hp
        refine r_callSH (n := 2) (As := [zr v1, .int x4]) (rest := []) C (c_L_come l hfl G v1 x4 h13 r15 h16 er15) hR hL mw_824 mw_825 mw_0 mw_826 (by decide +kernel) (by decide) rfl (zm_size hl) rfl (by simp [zr_cat, in_cat, lo_cat, re_cat]) dL_law_1138 (st2 := [.int r15]) rfl (fun H locs cells slots hR hL => ?_)
        exact s_L_law_1141 hfl eX hz0 hz1 hz2 C hk54 hR hL (zm_sub hl [5, 6, 7, 8, 9, 10, 11, 12, 13, 17, 4, 3, 2, 1, 0, 18] rfl) hp
      · replace hp := ite_p hp c14
        refine z_aload_n hx hb dL_law_1126 rfl (zm_at hl 5 rfl) ?_
        refine lv_iload hx hb dL_law_1127 (zm_at hl 4 rfl) ?_
        obtain ⟨r17, h18, er17, hp⟩ := bR_i hp
        refine r_callSH (n := 2) (As := [zr v1, .int x4]) (rest := []) C (c_L_drop l hfl G v1 x4 h13 r17 h18 er17) hR hL mw_882 mw_883 mw_0 mw_884 (by decide +kernel) (by decide) rfl (zm_size hl) rfl (by simp [zr_cat, in_cat, lo_cat, re_cat]) dL_law_1129 (st2 := [.int r17]) rfl (fun H locs cells slots hR hL => ?_)
        refine lv_goto (tgt := 1141) hx hb dL_law_1132 (by decide) ?_
        exact s_L_law_1141 hfl eX hz0 hz1 hz2 C hk54 hR hL (zm_sub hl [5, 6, 7, 8, 9, 10, 11, 12, 13, 17, 4, 3, 2, 1, 0, 18] rfl) hp
def p_L_law_1814 (xs : Nat → Int32) (L : Nat)  (v9 : Int32) (h : AH) : Option (Int32 × AH) :=
  some (v9, h)
set_option maxHeartbeats 4000000 in
set_option maxRecDepth 100000 in
theorem s_L_law_1814 {p : Program} {l : Launch} {e : Env} {s : State} {m : MethodId} {b L : Nat} {xs : Nat → Int32} {nm : String} {below : List Frame} {meth : Method} {c : Code} {G : GG} {hs : AH}  {h' : AH} (hfl : l.stackTraces = false) (eX : gX G = (b, L, xs)) (hz0 : s.heap.size = gB G) (hz1 : gC G - aZ hs = 600130) (hz2 : aU hs = 0) (C : Cx G hs p s m #[Value.ref b] meth c cL_law 28 RL lw_tbl (some .boolean) nm)   {v9 : Int32} {h : AH} {H : Heap} {locs : List Loc} {cells slots : Nat} {ls : Array Slot} (hR : Rp G h H) (hL : ∀ q ∈ locs, gB G ≤ q.base) (hl : zm ls 28 [(9, .int v9), (0, .ref b)]) (hp : p_L_law_1814 xs L  v9 h = some (iI 1, h')) : W p l e (gR G hs 16 610) s m #[Value.ref b] below meth c H locs cells slots (lw_Z below #[Value.ref b] s) (F0 m 1814 ls []) := by
  obtain ⟨hx, hb, hml, hown, hts, hT, hK, rs, hlk, hret, hnm⟩ := id C
  have hm : ∀ w ∈ MW, w.before #[Value.ref b] s = true := fun w hw => hts w (hT w hw)
  obtain ⟨hX, hbB⟩ := hK.scr eX
  unfold p_L_law_1814 at hp
  refine lv_iload hx hb dL_law_1814 (zm_at hl 0 rfl) ?_
  exact r_lawret hp C hR hL hz0 hz1 hz2 dL_law_1816
def p_L_law_54 (xs : Nat → Int32) (L : Nat)  : Nat → Nat → Nat → Nat → Nat → Nat → Int32 → Int32 → Int32 → Int32 → Int32 → AH → Option (Int32 × AH)
  | 0, _, _, _, _, _, _, _, _, _, _, _ => none
  | n + 1, v1, v2, v3, v4, v5, v6, v7, v8, v9, v10, h =>
    if (iI 64) ≤ v10 then
      p_L_law_1814 xs L  v9 h
    else
      if v9 = 0 then
        p_L_law_1814 xs L  v9 h
      else
        bR (p_L_cell xs L v10 h) fun r3 h4 =>
        nm ((r3 / (iI 24))) fun (x5 : Int32) =>
        nm ((r3 - r3 / (iI 24) * (iI 24))) fun (x6 : Int32) =>
        nm ((x5 - x5 / (iI 3) * (iI 3))) fun (x7 : Int32) =>
        nm (((x5 / (iI 3)) - (x5 / (iI 3)) / (iI 5) * (iI 5))) fun (x8 : Int32) =>
        nm ((x5 / (iI 15))) fun (x9 : Int32) =>
        bR (p_L_looks v1 x7 h4) fun r10 h11 =>
        bR (p_L_version v1 x7 h11) fun r12 h13 =>
        bR (p_L_length v1 x7 h13) fun r14 h15 =>
        if (iI 9) ≤ x6 then
          if (iI 11) ≤ x6 then
            if (iI 14) ≤ x6 then
              if (iI 16) ≤ x6 then
                if (iI 18) ≤ x6 then
                  p_L_law_1062 xs L (p_L_law_54 xs L  n) v1 v2 v3 v4 v5 v6 v7 v8 v10 x6 x7 x8 x9 h15
                else
                  if (iI 60) ≤ v6 then
                    p_L_law_1062 xs L (p_L_law_54 xs L  n) v1 v2 v3 v4 v5 v6 v7 v8 v10 x6 x7 x8 x9 h15
                  else
                    nm ((x9 - x9 / (iI 4) * (iI 4))) fun (x22 : Int32) =>
                    if x22 = (iI 3) then
                      p_L_law_817 xs L (p_L_law_54 xs L  n) v1 v2 v3 v4 v5 v6 v7 v8 v10 x7 x9 r10 r12 r14 x22 ((iI 5) + ((x9 / (iI 4)) - (x9 / (iI 4)) / (iI 36) * (iI 36))) h15
                    else
                      p_L_law_817 xs L (p_L_law_54 xs L  n) v1 v2 v3 v4 v5 v6 v7 v8 v10 x7 x9 r10 r12 r14 x22 (iI 0) h15
              else
                bR (p_L_undo v1 x8 h15) fun r24 h25 =>
                ck (aK h25 v3 = 20 ∧ ix x8 (aN h25 v3)) <|
                if (aI h25 v3 x8.toNatClampNeg) = 0 then
                  if r24 = (iI (-103)) then
                    p_L_law_749 xs L (p_L_law_54 xs L  n) v1 v2 v3 v4 v5 v6 v7 v8 v10 x8 x9 r24 (iI 1) h25
                  else
                    p_L_law_749 xs L (p_L_law_54 xs L  n) v1 v2 v3 v4 v5 v6 v7 v8 v10 x8 x9 r24 (iI 0) h25
                else
                  if r24 < 0 then
                    p_L_law_748 xs L (p_L_law_54 xs L  n) v1 v2 v3 v4 v5 v6 v7 v8 v10 x8 x9 r24 h25
                  else
                    if (iI 3) ≤ r24 then
                      p_L_law_748 xs L (p_L_law_54 xs L  n) v1 v2 v3 v4 v5 v6 v7 v8 v10 x8 x9 r24 h25
                    else
                      bR (p_L_version v1 r24 h25) fun r31 h32 =>
                      ck (aK h32 v2 = 20 ∧ ix r24 (aN h32 v2)) <|
                      if (iI 1) < (r31 - (aI h32 v2 r24.toNatClampNeg)) then
                        p_L_law_748 xs L (p_L_law_54 xs L  n) v1 v2 v3 v4 v5 v6 v7 v8 v10 x8 x9 r24 h32
                      else
                        if (x9 - x9 / (iI 2) * (iI 2)) = 0 then
                          p_L_law_744 xs L (p_L_law_54 xs L  n) v1 v2 v3 v4 v5 v6 v7 v8 v10 x8 x9 r24 h32
                        else
                          bR (p_L_redo v1 x8 h32) fun r37 h38 =>
                          if r37 = r24 then
                            p_L_law_744 xs L (p_L_law_54 xs L  n) v1 v2 v3 v4 v5 v6 v7 v8 v10 x8 x9 r24 h38
                          else
                            p_L_law_748 xs L (p_L_law_54 xs L  n) v1 v2 v3 v4 v5 v6 v7 v8 v10 x8 x9 r24 h38
            else
              bR (p_L_place v1 x8 x7 h15) fun r41 h42 =>
              bR (p_L_moves v1 x8 x7 (r14 + (iI 1)) h42) fun r43 h44 =>
              if r43 = (iI (-101)) then
                ck (¬ (r14 + (iI 1)) = 0) <|
                bR (p_L_moves v1 x8 x7 (x9 - x9 / (r14 + (iI 1)) * (r14 + (iI 1))) h44) fun r47 h48 =>
                if r47 = r41 then
                  bR (p_L_place v1 x8 x7 h48) fun r50 h51 =>
                  ck (¬ (r14 + (iI 1)) = 0) <|
                  if r50 = (x9 - x9 / (r14 + (iI 1)) * (r14 + (iI 1))) then
                    bR (p_L_looks v1 x7 h51) fun r54 h55 =>
                    if (lg_cmp r54 r10) = 0 then
                      bR (p_L_version v1 x7 h55) fun r57 h58 =>
                      if r57 = r12 then
                        p_L_law_658 xs L (p_L_law_54 xs L  n) v1 v2 v3 v4 v5 v6 v7 v8 v10 (iI 1) h58
                      else
                        p_L_law_657 xs L (p_L_law_54 xs L  n) v1 v2 v3 v4 v5 v6 v7 v8 v10 h58
                    else
                      p_L_law_657 xs L (p_L_law_54 xs L  n) v1 v2 v3 v4 v5 v6 v7 v8 v10 h55
                  else
                    p_L_law_657 xs L (p_L_law_54 xs L  n) v1 v2 v3 v4 v5 v6 v7 v8 v10 h51
                else
                  p_L_law_657 xs L (p_L_law_54 xs L  n) v1 v2 v3 v4 v5 v6 v7 v8 v10 h48
              else
                p_L_law_657 xs L (p_L_law_54 xs L  n) v1 v2 v3 v4 v5 v6 v7 v8 v10 h44
          else
            bR (p_L_place v1 x8 x7 h15) fun r60 h61 =>
            bR (p_L_erase v1 x8 x7 h61) fun r62 h63 =>
            if r60 = 0 then
              if r62 = (iI (-103)) then
                bR (p_L_looks v1 x7 h63) fun r91 h92 =>
                if (lg_cmp r91 r10) = 0 then
                  p_L_law_536 xs L (p_L_law_54 xs L  n) v1 v2 v3 v4 v5 v6 v7 v8 v10 x8 r62 (iI 1) h92
                else
                  p_L_law_421 xs L (p_L_law_54 xs L  n) v1 v2 v3 v4 v5 v6 v7 v8 v10 x8 r62 h92
              else
                p_L_law_421 xs L (p_L_law_54 xs L  n) v1 v2 v3 v4 v5 v6 v7 v8 v10 x8 r62 h63
            else
              if r62 = (r60 - (iI 1)) then
                bR (p_L_length v1 x7 h63) fun r66 h67 =>
                if r66 = (r14 - (iI 1)) then
                  bR (p_L_version v1 x7 h67) fun r69 h70 =>
                  if r69 = (r12 + (iI 1)) then
                    bR (p_L_undo v1 x8 h70) fun r72 h73 =>
                    if r72 = x7 then
                      bR (p_L_looks v1 x7 h73) fun r75 h76 =>
                      if (lg_cmp r75 r10) = 0 then
                        bR (p_L_place v1 x8 x7 h76) fun r78 h79 =>
                        if r78 = r60 then
                          bR (p_L_redo v1 x8 h79) fun r81 h82 =>
                          if r81 = x7 then
                            bR (p_L_length v1 x7 h82) fun r84 h85 =>
                            if r84 = (r14 - (iI 1)) then
                              bR (p_L_redo v1 x8 h85) fun r87 h88 =>
                              if r87 = (iI (-103)) then
                                p_L_law_536 xs L (p_L_law_54 xs L  n) v1 v2 v3 v4 v5 v6 v7 v8 v10 x8 r62 (iI 1) h88
                              else
                                p_L_law_535 xs L (p_L_law_54 xs L  n) v1 v2 v3 v4 v5 v6 v7 v8 v10 x8 r62 h88
                            else
                              p_L_law_535 xs L (p_L_law_54 xs L  n) v1 v2 v3 v4 v5 v6 v7 v8 v10 x8 r62 h85
                          else
                            p_L_law_535 xs L (p_L_law_54 xs L  n) v1 v2 v3 v4 v5 v6 v7 v8 v10 x8 r62 h82
                        else
                          p_L_law_535 xs L (p_L_law_54 xs L  n) v1 v2 v3 v4 v5 v6 v7 v8 v10 x8 r62 h79
                      else
                        p_L_law_535 xs L (p_L_law_54 xs L  n) v1 v2 v3 v4 v5 v6 v7 v8 v10 x8 r62 h76
                    else
                      p_L_law_535 xs L (p_L_law_54 xs L  n) v1 v2 v3 v4 v5 v6 v7 v8 v10 x8 r62 h73
                  else
                    p_L_law_535 xs L (p_L_law_54 xs L  n) v1 v2 v3 v4 v5 v6 v7 v8 v10 x8 r62 h70
                else
                  p_L_law_535 xs L (p_L_law_54 xs L  n) v1 v2 v3 v4 v5 v6 v7 v8 v10 x8 r62 h67
              else
                p_L_law_535 xs L (p_L_law_54 xs L  n) v1 v2 v3 v4 v5 v6 v7 v8 v10 x8 r62 h63
        else
          nm ((x9 - x9 / (iI 8) * (iI 8))) fun (x94 : Int32) =>
          if (iI 3) ≤ x94 then
            if x94 = (iI 3) then
              p_L_law_220 xs L (p_L_law_54 xs L  n) v1 v2 v3 v4 v5 v6 v7 v8 v10 x7 x8 r10 r12 r14 (iI 47) h15
            else
              if x94 = (iI 4) then
                p_L_law_220 xs L (p_L_law_54 xs L  n) v1 v2 v3 v4 v5 v6 v7 v8 v10 x7 x8 r10 r12 r14 ((iI 65) + ((x9 / (iI 8)) - (x9 / (iI 8)) / (iI 26) * (iI 26))) h15
              else
                if x94 = (iI 5) then
                  p_L_law_220 xs L (p_L_law_54 xs L  n) v1 v2 v3 v4 v5 v6 v7 v8 v10 x7 x8 r10 r12 r14 ((iI 48) + ((x9 / (iI 8)) - (x9 / (iI 8)) / (iI 10) * (iI 10))) h15
                else
                  p_L_law_220 xs L (p_L_law_54 xs L  n) v1 v2 v3 v4 v5 v6 v7 v8 v10 x7 x8 r10 r12 r14 ((iI 97) + ((x9 / (iI 8)) - (x9 / (iI 8)) / (iI 26) * (iI 26))) h15
          else
            p_L_law_220 xs L (p_L_law_54 xs L  n) v1 v2 v3 v4 v5 v6 v7 v8 v10 x7 x8 r10 r12 r14 (iI 32) h15
set_option maxHeartbeats 4000000 in
set_option maxRecDepth 100000 in
theorem s_L_law_54 {p : Program} {l : Launch} {e : Env} {s : State} {m : MethodId} {b L : Nat} {xs : Nat → Int32} {nm : String} {below : List Frame} {meth : Method} {c : Code} {G : GG} {hs : AH}  {h' : AH} (hfl : l.stackTraces = false) (eX : gX G = (b, L, xs)) (hz0 : s.heap.size = gB G) (hz1 : gC G - aZ hs = 600130) (hz2 : aU hs = 0) (C : Cx G hs p s m #[Value.ref b] meth c cL_law 28 RL lw_tbl (some .boolean) nm)   : ∀ (n : Nat) (v1 : Nat) (v2 : Nat) (v3 : Nat) (v4 : Nat) (v5 : Nat) (v6 : Int32) (v7 : Int32) (v8 : Int32) (v9 : Int32) (v10 : Int32) (h : AH) (H : Heap) (locs : List Loc) (cells slots : Nat) (ls : Array Slot) (hR : Rp G h H) (hL : ∀ q ∈ locs, gB G ≤ q.base) (hl : zm ls 28 [(1, zr v1), (2, zr v2), (3, zr v3), (4, zr v4), (5, zr v5), (6, .int v6), (7, .int v7), (8, .int v8), (9, .int v9), (10, .int v10), (0, .ref b)]) (hp : p_L_law_54 xs L  n v1 v2 v3 v4 v5 v6 v7 v8 v9 v10 h = some (iI 1, h')), W p l e (gR G hs 16 610) s m #[Value.ref b] below meth c H locs cells slots (lw_Z below #[Value.ref b] s) (F0 m 54 ls []) := by
  obtain ⟨hx, hb, hml, hown, hts, hT, hK, rs, hlk, hret, hnm⟩ := id C
  have hm : ∀ w ∈ MW, w.before #[Value.ref b] s = true := fun w hw => hts w (hT w hw)
  obtain ⟨hX, hbB⟩ := hK.scr eX
  intro n
  induction n with
  | zero =>
    intro v1 v2 v3 v4 v5 v6 v7 v8 v9 v10 h H locs cells slots ls hR hL hl hp
    exact absurd (show none = some (iI 1, h') from hp) (by simp)
  | succ n ih =>
    intro v1 v2 v3 v4 v5 v6 v7 v8 v9 v10 h H locs cells slots ls hR hL hl hp
    rw [p_L_law_54.eq_2] at hp
    refine lv_iload hx hb dL_law_54 (zm_at hl 9 rfl) ?_
    refine lv_bipush (v := iI 64) hx hb dL_law_56 (by decide +kernel) ?_
    refine lv_icmp_ge (tgt := 1814) hx hb dL_law_58 (by decide) (fun c1 => ?_) (fun c1 => ?_)
    · replace hp := ite_p hp c1
      exact s_L_law_1814 hfl eX hz0 hz1 hz2 C  hR hL (zm_sub hl [8, 10] rfl) hp
    · replace hp := ite_n hp c1
      refine lv_iload hx hb dL_law_61 (zm_at hl 8 rfl) ?_
      refine lv_if_eq (tgt := 1814) hx hb dL_law_63 (by decide) (fun c2 => ?_) (fun c2 => ?_)
      · replace hp := ite_p hp c2
        exact s_L_law_1814 hfl eX hz0 hz1 hz2 C  hR hL (zm_sub hl [8, 10] rfl) hp
      · replace hp := ite_n hp c2
        refine lv_aload_n hx hb dL_law_66 rfl (zm_at hl 10 rfl) ?_
        refine lv_iload hx hb dL_law_67 (zm_at hl 9 rfl) ?_
        obtain ⟨r3, h4, er3, hp⟩ := bR_i hp
        refine r_callS (n := 2) (As := [.ref b, .int v10]) (rest := []) C (c_L_cell l G eX v10 h r3 h4 er3) hR hL mw_295 mw_296 mw_0 mw_297 (by decide +kernel) (by decide) rfl (zm_size hl) rfl (by simp [zr_cat, in_cat, lo_cat, re_cat]) dL_law_69 (st2 := [.int r3]) rfl (fun H locs cells slots hR hL => ?_)
        refine zm_istore (lv' := [(11, .int r3), (1, zr v1), (2, zr v2), (3, zr v3), (4, zr v4), (5, zr v5), (6, .int v6), (7, .int v7), (8, .int v8), (9, .int v9), (10, .int v10), (0, .ref b)]) hx hb dL_law_72 hl (by decide) (by repeat (first | exact noL_nil _ | refine noL_i ?_ | refine noL_z ?_ | refine noL_r ?_ | refine noL_c (by decide) ?_)) rfl (fun ls hl => ?_)
        refine lv_iload hx hb dL_law_74 (zm_at hl 0 rfl) ?_
        refine lv_bipush (v := iI 24) hx hb dL_law_76 (by decide +kernel) ?_
        refine lv_idiv hx hb dL_law_78 (by decide +kernel) ?_
        refine lv_topi (fun x5 ex5 => ?_)
        replace hp := nm_i hp ex5
        refine zm_istore (lv' := [(12, .int x5), (11, .int r3), (1, zr v1), (2, zr v2), (3, zr v3), (4, zr v4), (5, zr v5), (6, .int v6), (7, .int v7), (8, .int v8), (9, .int v9), (10, .int v10), (0, .ref b)]) hx hb dL_law_79 hl (by decide) (by repeat (first | exact noL_nil _ | refine noL_i ?_ | refine noL_z ?_ | refine noL_r ?_ | refine noL_c (by decide) ?_)) rfl (fun ls hl => ?_)
        refine lv_iload hx hb dL_law_81 (zm_at hl 1 rfl) ?_
        refine lv_bipush (v := iI 24) hx hb dL_law_83 (by decide +kernel) ?_
        refine lv_irem hx hb dL_law_85 (by decide +kernel) ?_
        refine lv_topi (fun x6 ex6 => ?_)
        replace hp := nm_i hp ex6
        refine zm_istore (lv' := [(13, .int x6), (12, .int x5), (11, .int r3), (1, zr v1), (2, zr v2), (3, zr v3), (4, zr v4), (5, zr v5), (6, .int v6), (7, .int v7), (8, .int v8), (9, .int v9), (10, .int v10), (0, .ref b)]) hx hb dL_law_86 hl (by decide) (by repeat (first | exact noL_nil _ | refine noL_i ?_ | refine noL_z ?_ | refine noL_r ?_ | refine noL_c (by decide) ?_)) rfl (fun ls hl => ?_)
        refine lv_iload hx hb dL_law_88 (zm_at hl 1 rfl) ?_
        refine lv_iconst (v := iI 3) hx hb dL_law_90 rfl ?_
        refine lv_irem hx hb dL_law_91 (by decide +kernel) ?_
        refine lv_topi (fun x7 ex7 => ?_)
        replace hp := nm_i hp ex7
        refine zm_istore (lv' := [(14, .int x7), (13, .int x6), (12, .int x5), (11, .int r3), (1, zr v1), (2, zr v2), (3, zr v3), (4, zr v4), (5, zr v5), (6, .int v6), (7, .int v7), (8, .int v8), (9, .int v9), (10, .int v10), (0, .ref b)]) hx hb dL_law_92 hl (by decide) (by repeat (first | exact noL_nil _ | refine noL_i ?_ | refine noL_z ?_ | refine noL_r ?_ | refine noL_c (by decide) ?_)) rfl (fun ls hl => ?_)
        refine lv_iload hx hb dL_law_94 (zm_at hl 2 rfl) ?_
        refine lv_iconst (v := iI 3) hx hb dL_law_96 rfl ?_
        refine lv_idiv hx hb dL_law_97 (by decide +kernel) ?_
        refine lv_iconst (v := iI 5) hx hb dL_law_98 rfl ?_
        refine lv_irem hx hb dL_law_99 (by decide +kernel) ?_
        refine lv_topi (fun x8 ex8 => ?_)
        replace hp := nm_i hp ex8
        refine zm_istore (lv' := [(15, .int x8), (14, .int x7), (13, .int x6), (12, .int x5), (11, .int r3), (1, zr v1), (2, zr v2), (3, zr v3), (4, zr v4), (5, zr v5), (6, .int v6), (7, .int v7), (8, .int v8), (9, .int v9), (10, .int v10), (0, .ref b)]) hx hb dL_law_100 hl (by decide) (by repeat (first | exact noL_nil _ | refine noL_i ?_ | refine noL_z ?_ | refine noL_r ?_ | refine noL_c (by decide) ?_)) rfl (fun ls hl => ?_)
        refine lv_iload hx hb dL_law_102 (zm_at hl 3 rfl) ?_
        refine lv_bipush (v := iI 15) hx hb dL_law_104 (by decide +kernel) ?_
        refine lv_idiv hx hb dL_law_106 (by decide +kernel) ?_
        refine lv_topi (fun x9 ex9 => ?_)
        replace hp := nm_i hp ex9
        refine zm_istore (lv' := [(16, .int x9), (15, .int x8), (14, .int x7), (13, .int x6), (12, .int x5), (11, .int r3), (1, zr v1), (2, zr v2), (3, zr v3), (4, zr v4), (5, zr v5), (6, .int v6), (7, .int v7), (8, .int v8), (9, .int v9), (10, .int v10), (0, .ref b)]) hx hb dL_law_107 hl (by decide) (by repeat (first | exact noL_nil _ | refine noL_i ?_ | refine noL_z ?_ | refine noL_r ?_ | refine noL_c (by decide) ?_)) rfl (fun ls hl => ?_)
        refine z_aload_n hx hb dL_law_109 rfl (zm_at hl 6 rfl) ?_
        refine lv_iload hx hb dL_law_110 (zm_at hl 2 rfl) ?_
        obtain ⟨r10, h11, er10, hp⟩ := bR_i hp
        refine r_callS (n := 2) (As := [zr v1, .int x7]) (rest := []) C (c_L_looks l hfl G v1 x7 h4 r10 h11 er10) hR hL mw_962 mw_963 mw_0 mw_964 (by decide +kernel) (by decide) rfl (zm_size hl) rfl (by simp [zr_cat, in_cat, lo_cat, re_cat]) dL_law_112 (st2 := [.long r10]) rfl (fun H locs cells slots hR hL => ?_)
        refine zm_lstore (lv' := [(17, .long r10), (16, .int x9), (15, .int x8), (14, .int x7), (13, .int x6), (12, .int x5), (11, .int r3), (1, zr v1), (2, zr v2), (3, zr v3), (4, zr v4), (5, zr v5), (6, .int v6), (7, .int v7), (8, .int v8), (9, .int v9), (10, .int v10), (0, .ref b)]) hx hb dL_law_115 hl (by decide) (by repeat (first | exact noL_nil _ | refine noL_i ?_ | refine noL_z ?_ | refine noL_r ?_ | refine noL_c (by decide) ?_)) rfl (fun ls hl => ?_)
        refine z_aload_n hx hb dL_law_117 rfl (zm_at hl 7 rfl) ?_
        refine lv_iload hx hb dL_law_118 (zm_at hl 3 rfl) ?_
        obtain ⟨r12, h13, er12, hp⟩ := bR_i hp
        refine r_callSH (n := 2) (As := [zr v1, .int x7]) (rest := []) C (c_L_version l hfl G v1 x7 h11 r12 h13 er12) hR hL mw_683 mw_684 mw_0 mw_685 (by decide +kernel) (by decide) rfl (zm_size hl) rfl (by simp [zr_cat, in_cat, lo_cat, re_cat]) dL_law_120 (st2 := [.int r12]) rfl (fun H locs cells slots hR hL => ?_)
        refine zm_istore (lv' := [(19, .int r12), (17, .long r10), (16, .int x9), (15, .int x8), (14, .int x7), (13, .int x6), (12, .int x5), (11, .int r3), (1, zr v1), (2, zr v2), (3, zr v3), (4, zr v4), (5, zr v5), (6, .int v6), (7, .int v7), (8, .int v8), (9, .int v9), (10, .int v10), (0, .ref b)]) hx hb dL_law_123 hl (by decide) (by repeat (first | exact noL_nil _ | refine noL_i ?_ | refine noL_z ?_ | refine noL_r ?_ | refine noL_c (by decide) ?_)) rfl (fun ls hl => ?_)
        refine z_aload_n hx hb dL_law_125 rfl (zm_at hl 8 rfl) ?_
        refine lv_iload hx hb dL_law_126 (zm_at hl 4 rfl) ?_
        obtain ⟨r14, h15, er14, hp⟩ := bR_i hp
        refine r_callSH (n := 2) (As := [zr v1, .int x7]) (rest := []) C (c_L_length l hfl G v1 x7 h13 r14 h15 er14) hR hL mw_665 mw_666 mw_0 mw_667 (by decide +kernel) (by decide) rfl (zm_size hl) rfl (by simp [zr_cat, in_cat, lo_cat, re_cat]) dL_law_128 (st2 := [.int r14]) rfl (fun H locs cells slots hR hL => ?_)
        refine zm_istore (lv' := [(20, .int r14), (19, .int r12), (17, .long r10), (16, .int x9), (15, .int x8), (14, .int x7), (13, .int x6), (12, .int x5), (11, .int r3), (1, zr v1), (2, zr v2), (3, zr v3), (4, zr v4), (5, zr v5), (6, .int v6), (7, .int v7), (8, .int v8), (9, .int v9), (10, .int v10), (0, .ref b)]) hx hb dL_law_131 hl (by decide) (by repeat (first | exact noL_nil _ | refine noL_i ?_ | refine noL_z ?_ | refine noL_r ?_ | refine noL_c (by decide) ?_)) rfl (fun ls hl => ?_)
        refine lv_iload hx hb dL_law_133 (zm_at hl 6 rfl) ?_
        refine lv_bipush (v := iI 9) hx hb dL_law_135 (by decide +kernel) ?_
        refine lv_icmp_ge (tgt := 366) hx hb dL_law_137 (by decide) (fun c16 => ?_) (fun c16 => ?_)
        · replace hp := ite_p hp c16
          refine lv_iload hx hb dL_law_366 (zm_at hl 6 rfl) ?_
          refine lv_bipush (v := iI 11) hx hb dL_law_368 (by decide +kernel) ?_
          refine lv_icmp_ge (tgt := 558) hx hb dL_law_370 (by decide) (fun c17 => ?_) (fun c17 => ?_)
          · replace hp := ite_p hp c17
            refine lv_iload hx hb dL_law_558 (zm_at hl 6 rfl) ?_
            refine lv_bipush (v := iI 14) hx hb dL_law_560 (by decide +kernel) ?_
            refine lv_icmp_ge (tgt := 663) hx hb dL_law_562 (by decide) (fun c18 => ?_) (fun c18 => ?_)
            · replace hp := ite_p hp c18
              refine lv_iload hx hb dL_law_663 (zm_at hl 6 rfl) ?_
              refine lv_bipush (v := iI 16) hx hb dL_law_665 (by decide +kernel) ?_
              refine lv_icmp_ge (tgt := 778) hx hb dL_law_667 (by decide) (fun c19 => ?_) (fun c19 => ?_)
              · replace hp := ite_p hp c19
                refine lv_iload hx hb dL_law_778 (zm_at hl 6 rfl) ?_
                refine lv_bipush (v := iI 18) hx hb dL_law_780 (by decide +kernel) ?_
                refine lv_icmp_ge (tgt := 1062) hx hb dL_law_782 (by decide) (fun c20 => ?_) (fun c20 => ?_)
                · replace hp := ite_p hp c20
                  exact s_L_law_1062 hfl eX hz0 hz1 hz2 C (fun hR hL hl hp => ih _ _ _ _ _ _ _ _ _ _ _ _ _ _ _ _ hR hL hl hp) hR hL (zm_sub hl [9, 10, 11, 12, 13, 14, 15, 16, 18, 6, 5, 4, 3, 19] rfl) hp
                · replace hp := ite_n hp c20
                  refine lv_iload hx hb dL_law_785 (zm_at hl 14 rfl) ?_
                  refine lv_bipush (v := iI 60) hx hb dL_law_787 (by decide +kernel) ?_
                  refine lv_icmp_ge (tgt := 1062) hx hb dL_law_789 (by decide) (fun c21 => ?_) (fun c21 => ?_)
                  · replace hp := ite_p hp c21
                    exact s_L_law_1062 hfl eX hz0 hz1 hz2 C (fun hR hL hl hp => ih _ _ _ _ _ _ _ _ _ _ _ _ _ _ _ _ hR hL hl hp) hR hL (zm_sub hl [9, 10, 11, 12, 13, 14, 15, 16, 18, 6, 5, 4, 3, 19] rfl) hp
                  · replace hp := ite_n hp c21
                    refine lv_iload hx hb dL_law_792 (zm_at hl 3 rfl) ?_
                    refine lv_iconst (v := iI 4) hx hb dL_law_794 rfl ?_
                    refine lv_irem hx hb dL_law_795 (by decide +kernel) ?_
                    refine lv_topi (fun x22 ex22 => ?_)
                    replace hp := nm_i hp ex22
                    refine zm_istore (lv' := [(21, .int x22), (20, .int r14), (19, .int r12), (17, .long r10), (16, .int x9), (15, .int x8), (14, .int x7), (13, .int x6), (12, .int x5), (11, .int r3), (1, zr v1), (2, zr v2), (3, zr v3), (4, zr v4), (5, zr v5), (6, .int v6), (7, .int v7), (8, .int v8), (9, .int v9), (10, .int v10), (0, .ref b)]) hx hb dL_law_796 hl (by decide) (by repeat (first | exact noL_nil _ | refine noL_i ?_ | refine noL_z ?_ | refine noL_r ?_ | refine noL_c (by decide) ?_)) rfl (fun ls hl => ?_)
                    refine lv_iload hx hb dL_law_798 (zm_at hl 0 rfl) ?_
                    refine lv_iconst (v := iI 3) hx hb dL_law_800 rfl ?_
                    refine lv_icmp_ne (tgt := 816) hx hb dL_law_801 (by decide) (fun c23 => ?_) (fun c23 => ?_)
                    · replace hp := ite_n hp c23
                      refine lv_iconst (v := iI 0) hx hb dL_law_816 rfl ?_
                      exact s_L_law_817 hfl eX hz0 hz1 hz2 C (fun hR hL hl hp => ih _ _ _ _ _ _ _ _ _ _ _ _ _ _ _ _ hR hL hl hp) hR hL (zm_sub hl [10, 11, 12, 13, 14, 15, 16, 17, 19, 6, 4, 3, 2, 1, 0, 20] rfl) hp
                    · replace hp := ite_p hp c23
                      refine lv_iconst (v := iI 5) hx hb dL_law_804 rfl ?_
                      refine lv_iload hx hb dL_law_805 (zm_at hl 4 rfl) ?_
                      refine lv_iconst (v := iI 4) hx hb dL_law_807 rfl ?_
                      refine lv_idiv hx hb dL_law_808 (by decide +kernel) ?_
                      refine lv_bipush (v := iI 36) hx hb dL_law_809 (by decide +kernel) ?_
                      refine lv_irem hx hb dL_law_811 (by decide +kernel) ?_
                      refine lv_iadd hx hb dL_law_812 ?_
                      refine lv_goto (tgt := 817) hx hb dL_law_813 (by decide) ?_
                      exact s_L_law_817 hfl eX hz0 hz1 hz2 C (fun hR hL hl hp => ih _ _ _ _ _ _ _ _ _ _ _ _ _ _ _ _ hR hL hl hp) hR hL (zm_sub hl [10, 11, 12, 13, 14, 15, 16, 17, 19, 6, 4, 3, 2, 1, 0, 20] rfl) hp
              · replace hp := ite_n hp c19
                refine z_aload_n hx hb dL_law_670 rfl (zm_at hl 9 rfl) ?_
                refine lv_iload hx hb dL_law_671 (zm_at hl 4 rfl) ?_
                obtain ⟨r24, h25, er24, hp⟩ := bR_i hp
                refine r_callSH (n := 2) (As := [zr v1, .int x8]) (rest := []) C (c_L_undo l hfl G v1 x8 h15 r24 h25 er24) hR hL mw_631 mw_632 mw_0 mw_633 (by decide +kernel) (by decide) rfl (zm_size hl) rfl (by simp [zr_cat, in_cat, lo_cat, re_cat]) dL_law_673 (st2 := [.int r24]) rfl (fun H locs cells slots hR hL => ?_)
                refine zm_istore (lv' := [(21, .int r24), (20, .int r14), (19, .int r12), (17, .long r10), (16, .int x9), (15, .int x8), (14, .int x7), (13, .int x6), (12, .int x5), (11, .int r3), (1, zr v1), (2, zr v2), (3, zr v3), (4, zr v4), (5, zr v5), (6, .int v6), (7, .int v7), (8, .int v8), (9, .int v9), (10, .int v10), (0, .ref b)]) hx hb dL_law_676 hl (by decide) (by repeat (first | exact noL_nil _ | refine noL_i ?_ | refine noL_z ?_ | refine noL_r ?_ | refine noL_c (by decide) ?_)) rfl (fun ls hl => ?_)
                refine z_aload_n hx hb dL_law_678 rfl (zm_at hl 12 rfl) ?_
                refine lv_iload hx hb dL_law_679 (zm_at hl 5 rfl) ?_
                obtain ⟨k26, hp⟩ := ck_i hp
                refine r_iald hx hb hK hR k26.1 k26.2 dL_law_681 ?_
                refine lv_if_ne (tgt := 700) hx hb dL_law_682 (by decide) (fun c28 => ?_) (fun c28 => ?_)
                · replace hp := ite_n hp c28
                  refine lv_iload hx hb dL_law_700 (zm_at hl 0 rfl) ?_
                  refine lv_if_lt (tgt := 748) hx hb dL_law_702 (by decide) (fun c29 => ?_) (fun c29 => ?_)
                  · replace hp := ite_p hp c29
                    exact s_L_law_748 hfl eX hz0 hz1 hz2 C (fun hR hL hl hp => ih _ _ _ _ _ _ _ _ _ _ _ _ _ _ _ _ hR hL hl hp) hR hL (zm_sub hl [10, 11, 12, 13, 14, 15, 16, 17, 19, 5, 4, 0, 20] rfl) hp
                  · replace hp := ite_n hp c29
                    refine lv_iload hx hb dL_law_705 (zm_at hl 0 rfl) ?_
                    refine lv_iconst (v := iI 3) hx hb dL_law_707 rfl ?_
                    refine lv_icmp_ge (tgt := 748) hx hb dL_law_708 (by decide) (fun c30 => ?_) (fun c30 => ?_)
                    · replace hp := ite_p hp c30
                      exact s_L_law_748 hfl eX hz0 hz1 hz2 C (fun hR hL hl hp => ih _ _ _ _ _ _ _ _ _ _ _ _ _ _ _ _ hR hL hl hp) hR hL (zm_sub hl [10, 11, 12, 13, 14, 15, 16, 17, 19, 5, 4, 0, 20] rfl) hp
                    · replace hp := ite_n hp c30
                      refine z_aload_n hx hb dL_law_711 rfl (zm_at hl 10 rfl) ?_
                      refine lv_iload hx hb dL_law_712 (zm_at hl 0 rfl) ?_
                      obtain ⟨r31, h32, er31, hp⟩ := bR_i hp
                      refine r_callSH (n := 2) (As := [zr v1, .int r24]) (rest := []) C (c_L_version l hfl G v1 r24 h25 r31 h32 er31) hR hL mw_683 mw_684 mw_0 mw_685 (by decide +kernel) (by decide) rfl (zm_size hl) rfl (by simp [zr_cat, in_cat, lo_cat, re_cat]) dL_law_714 (st2 := [.int r31]) rfl (fun H locs cells slots hR hL => ?_)
                      refine z_aload_n hx hb dL_law_717 rfl (zm_at hl 11 rfl) ?_
                      refine lv_iload hx hb dL_law_718 (zm_at hl 0 rfl) ?_
                      obtain ⟨k33, hp⟩ := ck_i hp
                      refine r_iald hx hb hK hR k33.1 k33.2 dL_law_720 ?_
                      refine lv_isub hx hb dL_law_721 ?_
                      refine lv_iconst (v := iI 1) hx hb dL_law_722 rfl ?_
                      refine lv_icmp_gt (tgt := 748) hx hb dL_law_723 (by decide) (fun c35 => ?_) (fun c35 => ?_)
                      · replace hp := ite_p hp c35
                        exact s_L_law_748 hfl eX hz0 hz1 hz2 C (fun hR hL hl hp => ih _ _ _ _ _ _ _ _ _ _ _ _ _ _ _ _ hR hL hl hp) hR hL (zm_sub hl [10, 11, 12, 13, 14, 15, 16, 17, 19, 5, 4, 0, 20] rfl) hp
                      · replace hp := ite_n hp c35
                        refine lv_iload hx hb dL_law_726 (zm_at hl 4 rfl) ?_
                        refine lv_iconst (v := iI 2) hx hb dL_law_728 rfl ?_
                        refine lv_irem hx hb dL_law_729 (by decide +kernel) ?_
                        refine lv_if_eq (tgt := 744) hx hb dL_law_730 (by decide) (fun c36 => ?_) (fun c36 => ?_)
                        · replace hp := ite_p hp c36
                          exact s_L_law_744 hfl eX hz0 hz1 hz2 C (fun hR hL hl hp => ih _ _ _ _ _ _ _ _ _ _ _ _ _ _ _ _ hR hL hl hp) hR hL (zm_sub hl [10, 11, 12, 13, 14, 15, 16, 17, 19, 5, 4, 0, 20] rfl) hp
                        · replace hp := ite_n hp c36
                          refine z_aload_n hx hb dL_law_733 rfl (zm_at hl 10 rfl) ?_
                          refine lv_iload hx hb dL_law_734 (zm_at hl 5 rfl) ?_
                          obtain ⟨r37, h38, er37, hp⟩ := bR_i hp
                          refine r_callSH (n := 2) (As := [zr v1, .int x8]) (rest := []) C (c_L_redo l hfl G v1 x8 h32 r37 h38 er37) hR hL mw_646 mw_647 mw_0 mw_648 (by decide +kernel) (by decide) rfl (zm_size hl) rfl (by simp [zr_cat, in_cat, lo_cat, re_cat]) dL_law_736 (st2 := [.int r37]) rfl (fun H locs cells slots hR hL => ?_)
                          refine lv_iload hx hb dL_law_739 (zm_at hl 0 rfl) ?_
                          refine lv_icmp_ne (tgt := 748) hx hb dL_law_741 (by decide) (fun c39 => ?_) (fun c39 => ?_)
                          · replace hp := ite_n hp c39
                            exact s_L_law_748 hfl eX hz0 hz1 hz2 C (fun hR hL hl hp => ih _ _ _ _ _ _ _ _ _ _ _ _ _ _ _ _ hR hL hl hp) hR hL (zm_sub hl [10, 11, 12, 13, 14, 15, 16, 17, 19, 5, 4, 0, 20] rfl) hp
                          · replace hp := ite_p hp c39
                            exact s_L_law_744 hfl eX hz0 hz1 hz2 C (fun hR hL hl hp => ih _ _ _ _ _ _ _ _ _ _ _ _ _ _ _ _ hR hL hl hp) hR hL (zm_sub hl [10, 11, 12, 13, 14, 15, 16, 17, 19, 5, 4, 0, 20] rfl) hp
                · replace hp := ite_p hp c28
                  refine lv_iload hx hb dL_law_685 (zm_at hl 0 rfl) ?_
                  refine lv_bipush (v := iI (-103)) hx hb dL_law_687 (by decide +kernel) ?_
                  refine lv_icmp_ne (tgt := 696) hx hb dL_law_689 (by decide) (fun c40 => ?_) (fun c40 => ?_)
                  · replace hp := ite_n hp c40
                    refine lv_iconst (v := iI 0) hx hb dL_law_696 rfl ?_
                    refine lv_goto (tgt := 749) hx hb dL_law_697 (by decide) ?_
                    exact s_L_law_749 hfl eX hz0 hz1 hz2 C (fun hR hL hl hp => ih _ _ _ _ _ _ _ _ _ _ _ _ _ _ _ _ hR hL hl hp) hR hL (zm_sub hl [10, 11, 12, 13, 14, 15, 16, 17, 19, 5, 4, 0, 20] rfl) hp
                  · replace hp := ite_p hp c40
                    refine lv_iconst (v := iI 1) hx hb dL_law_692 rfl ?_
                    refine lv_goto (tgt := 749) hx hb dL_law_693 (by decide) ?_
                    exact s_L_law_749 hfl eX hz0 hz1 hz2 C (fun hR hL hl hp => ih _ _ _ _ _ _ _ _ _ _ _ _ _ _ _ _ hR hL hl hp) hR hL (zm_sub hl [10, 11, 12, 13, 14, 15, 16, 17, 19, 5, 4, 0, 20] rfl) hp
            · replace hp := ite_n hp c18
              refine z_aload_n hx hb dL_law_565 rfl (zm_at hl 9 rfl) ?_
              refine lv_iload hx hb dL_law_566 (zm_at hl 4 rfl) ?_
              refine lv_iload hx hb dL_law_568 (zm_at hl 5 rfl) ?_
              obtain ⟨r41, h42, er41, hp⟩ := bR_i hp
              refine r_callSH (n := 3) (As := [zr v1, .int x8, .int x7]) (rest := []) C (c_L_place l hfl G v1 x8 x7 h15 r41 h42 er41) hR hL mw_658 mw_659 mw_0 mw_660 (by decide +kernel) (by decide) rfl (zm_size hl) rfl (by simp [zr_cat, in_cat, lo_cat, re_cat]) dL_law_570 (st2 := [.int r41]) rfl (fun H locs cells slots hR hL => ?_)
              refine zm_istore (lv' := [(21, .int r41), (20, .int r14), (19, .int r12), (17, .long r10), (16, .int x9), (15, .int x8), (14, .int x7), (13, .int x6), (12, .int x5), (11, .int r3), (1, zr v1), (2, zr v2), (3, zr v3), (4, zr v4), (5, zr v5), (6, .int v6), (7, .int v7), (8, .int v8), (9, .int v9), (10, .int v10), (0, .ref b)]) hx hb dL_law_573 hl (by decide) (by repeat (first | exact noL_nil _ | refine noL_i ?_ | refine noL_z ?_ | refine noL_r ?_ | refine noL_c (by decide) ?_)) rfl (fun ls hl => ?_)
              refine z_aload_n hx hb dL_law_575 rfl (zm_at hl 10 rfl) ?_
              refine lv_iload hx hb dL_law_576 (zm_at hl 5 rfl) ?_
              refine lv_iload hx hb dL_law_578 (zm_at hl 6 rfl) ?_
              refine lv_iload hx hb dL_law_580 (zm_at hl 1 rfl) ?_
              refine lv_iconst (v := iI 1) hx hb dL_law_582 rfl ?_
              refine lv_iadd hx hb dL_law_583 ?_
              obtain ⟨r43, h44, er43, hp⟩ := bR_i hp
              refine r_callSH (n := 4) (As := [zr v1, .int x8, .int x7, .int (r14 + (iI 1))]) (rest := []) C (c_L_moves l hfl G v1 x8 x7 (r14 + (iI 1)) h42 r43 h44 er43) hR hL mw_610 mw_611 mw_0 mw_612 (by decide +kernel) (by decide) rfl (zm_size hl) rfl (by simp [zr_cat, in_cat, lo_cat, re_cat]) dL_law_584 (st2 := [.int r43]) rfl (fun H locs cells slots hR hL => ?_)
              refine lv_bipush (v := iI (-101)) hx hb dL_law_587 (by decide +kernel) ?_
              refine lv_icmp_ne (tgt := 657) hx hb dL_law_589 (by decide) (fun c45 => ?_) (fun c45 => ?_)
              · replace hp := ite_n hp c45
                exact s_L_law_657 hfl eX hz0 hz1 hz2 C (fun hR hL hl hp => ih _ _ _ _ _ _ _ _ _ _ _ _ _ _ _ _ hR hL hl hp) hR hL (zm_sub hl [10, 11, 12, 13, 14, 15, 16, 17, 19, 20] rfl) hp
              · replace hp := ite_p hp c45
                refine z_aload_n hx hb dL_law_592 rfl (zm_at hl 10 rfl) ?_
                refine lv_iload hx hb dL_law_593 (zm_at hl 5 rfl) ?_
                refine lv_iload hx hb dL_law_595 (zm_at hl 6 rfl) ?_
                refine lv_iload hx hb dL_law_597 (zm_at hl 4 rfl) ?_
                refine lv_iload hx hb dL_law_599 (zm_at hl 1 rfl) ?_
                refine lv_iconst (v := iI 1) hx hb dL_law_601 rfl ?_
                refine lv_iadd hx hb dL_law_602 ?_
                obtain ⟨k46, hp⟩ := ck_i hp
                refine lv_irem hx hb dL_law_603 k46 ?_
                obtain ⟨r47, h48, er47, hp⟩ := bR_i hp
                refine r_callSH (n := 4) (As := [zr v1, .int x8, .int x7, .int (x9 - x9 / (r14 + (iI 1)) * (r14 + (iI 1)))]) (rest := []) C (c_L_moves l hfl G v1 x8 x7 (x9 - x9 / (r14 + (iI 1)) * (r14 + (iI 1))) h44 r47 h48 er47) hR hL mw_610 mw_611 mw_0 mw_612 (by decide +kernel) (by decide) rfl (zm_size hl) rfl (by simp [zr_cat, in_cat, lo_cat, re_cat]) dL_law_604 (st2 := [.int r47]) rfl (fun H locs cells slots hR hL => ?_)
                refine lv_iload hx hb dL_law_607 (zm_at hl 0 rfl) ?_
                refine lv_icmp_ne (tgt := 657) hx hb dL_law_609 (by decide) (fun c49 => ?_) (fun c49 => ?_)
                · replace hp := ite_n hp c49
                  exact s_L_law_657 hfl eX hz0 hz1 hz2 C (fun hR hL hl hp => ih _ _ _ _ _ _ _ _ _ _ _ _ _ _ _ _ hR hL hl hp) hR hL (zm_sub hl [10, 11, 12, 13, 14, 15, 16, 17, 19, 20] rfl) hp
                · replace hp := ite_p hp c49
                  refine z_aload_n hx hb dL_law_612 rfl (zm_at hl 10 rfl) ?_
                  refine lv_iload hx hb dL_law_613 (zm_at hl 5 rfl) ?_
                  refine lv_iload hx hb dL_law_615 (zm_at hl 6 rfl) ?_
                  obtain ⟨r50, h51, er50, hp⟩ := bR_i hp
                  refine r_callSH (n := 3) (As := [zr v1, .int x8, .int x7]) (rest := []) C (c_L_place l hfl G v1 x8 x7 h48 r50 h51 er50) hR hL mw_658 mw_659 mw_0 mw_660 (by decide +kernel) (by decide) rfl (zm_size hl) rfl (by simp [zr_cat, in_cat, lo_cat, re_cat]) dL_law_617 (st2 := [.int r50]) rfl (fun H locs cells slots hR hL => ?_)
                  refine lv_iload hx hb dL_law_620 (zm_at hl 4 rfl) ?_
                  refine lv_iload hx hb dL_law_622 (zm_at hl 1 rfl) ?_
                  refine lv_iconst (v := iI 1) hx hb dL_law_624 rfl ?_
                  refine lv_iadd hx hb dL_law_625 ?_
                  obtain ⟨k52, hp⟩ := ck_i hp
                  refine lv_irem hx hb dL_law_626 k52 ?_
                  refine lv_icmp_ne (tgt := 657) hx hb dL_law_627 (by decide) (fun c53 => ?_) (fun c53 => ?_)
                  · replace hp := ite_n hp c53
                    exact s_L_law_657 hfl eX hz0 hz1 hz2 C (fun hR hL hl hp => ih _ _ _ _ _ _ _ _ _ _ _ _ _ _ _ _ hR hL hl hp) hR hL (zm_sub hl [10, 11, 12, 13, 14, 15, 16, 17, 19, 20] rfl) hp
                  · replace hp := ite_p hp c53
                    refine z_aload_n hx hb dL_law_630 rfl (zm_at hl 10 rfl) ?_
                    refine lv_iload hx hb dL_law_631 (zm_at hl 6 rfl) ?_
                    obtain ⟨r54, h55, er54, hp⟩ := bR_i hp
                    refine r_callS (n := 2) (As := [zr v1, .int x7]) (rest := []) C (c_L_looks l hfl G v1 x7 h51 r54 h55 er54) hR hL mw_962 mw_963 mw_0 mw_964 (by decide +kernel) (by decide) rfl (zm_size hl) rfl (by simp [zr_cat, in_cat, lo_cat, re_cat]) dL_law_633 (st2 := [.long r54]) rfl (fun H locs cells slots hR hL => ?_)
                    refine lv_lload hx hb dL_law_636 (zm_at hl 3 rfl) ?_
                    refine W.lcmp hx hb dL_law_638 ?_
                    refine lv_if_ne (tgt := 657) hx hb dL_law_639 (by decide) (fun c56 => ?_) (fun c56 => ?_)
                    · replace hp := ite_n hp c56
                      exact s_L_law_657 hfl eX hz0 hz1 hz2 C (fun hR hL hl hp => ih _ _ _ _ _ _ _ _ _ _ _ _ _ _ _ _ hR hL hl hp) hR hL (zm_sub hl [10, 11, 12, 13, 14, 15, 16, 17, 19, 20] rfl) hp
                    · replace hp := ite_p hp c56
                      refine z_aload_n hx hb dL_law_642 rfl (zm_at hl 10 rfl) ?_
                      refine lv_iload hx hb dL_law_643 (zm_at hl 6 rfl) ?_
                      obtain ⟨r57, h58, er57, hp⟩ := bR_i hp
                      refine r_callSH (n := 2) (As := [zr v1, .int x7]) (rest := []) C (c_L_version l hfl G v1 x7 h55 r57 h58 er57) hR hL mw_683 mw_684 mw_0 mw_685 (by decide +kernel) (by decide) rfl (zm_size hl) rfl (by simp [zr_cat, in_cat, lo_cat, re_cat]) dL_law_645 (st2 := [.int r57]) rfl (fun H locs cells slots hR hL => ?_)
                      refine lv_iload hx hb dL_law_648 (zm_at hl 2 rfl) ?_
                      refine lv_icmp_ne (tgt := 657) hx hb dL_law_650 (by decide) (fun c59 => ?_) (fun c59 => ?_)
                      · replace hp := ite_n hp c59
                        exact s_L_law_657 hfl eX hz0 hz1 hz2 C (fun hR hL hl hp => ih _ _ _ _ _ _ _ _ _ _ _ _ _ _ _ _ hR hL hl hp) hR hL (zm_sub hl [10, 11, 12, 13, 14, 15, 16, 17, 19, 20] rfl) hp
                      · replace hp := ite_p hp c59
                        refine lv_iconst (v := iI 1) hx hb dL_law_653 rfl ?_
                        refine lv_goto (tgt := 658) hx hb dL_law_654 (by decide) ?_
                        exact s_L_law_658 hfl eX hz0 hz1 hz2 C (fun hR hL hl hp => ih _ _ _ _ _ _ _ _ _ _ _ _ _ _ _ _ hR hL hl hp) hR hL (zm_sub hl [10, 11, 12, 13, 14, 15, 16, 17, 19, 20] rfl) hp
          · replace hp := ite_n hp c17
            refine z_aload_n hx hb dL_law_373 rfl (zm_at hl 9 rfl) ?_
            refine lv_iload hx hb dL_law_374 (zm_at hl 4 rfl) ?_
            refine lv_iload hx hb dL_law_376 (zm_at hl 5 rfl) ?_
            obtain ⟨r60, h61, er60, hp⟩ := bR_i hp
            refine r_callSH (n := 3) (As := [zr v1, .int x8, .int x7]) (rest := []) C (c_L_place l hfl G v1 x8 x7 h15 r60 h61 er60) hR hL mw_658 mw_659 mw_0 mw_660 (by decide +kernel) (by decide) rfl (zm_size hl) rfl (by simp [zr_cat, in_cat, lo_cat, re_cat]) dL_law_378 (st2 := [.int r60]) rfl (fun H locs cells slots hR hL => ?_)
            refine zm_istore (lv' := [(21, .int r60), (20, .int r14), (19, .int r12), (17, .long r10), (16, .int x9), (15, .int x8), (14, .int x7), (13, .int x6), (12, .int x5), (11, .int r3), (1, zr v1), (2, zr v2), (3, zr v3), (4, zr v4), (5, zr v5), (6, .int v6), (7, .int v7), (8, .int v8), (9, .int v9), (10, .int v10), (0, .ref b)]) hx hb dL_law_381 hl (by decide) (by repeat (first | exact noL_nil _ | refine noL_i ?_ | refine noL_z ?_ | refine noL_r ?_ | refine noL_c (by decide) ?_)) rfl (fun ls hl => ?_)
            refine z_aload_n hx hb dL_law_383 rfl (zm_at hl 10 rfl) ?_
            refine lv_iload hx hb dL_law_384 (zm_at hl 5 rfl) ?_
            refine lv_iload hx hb dL_law_386 (zm_at hl 6 rfl) ?_
            obtain ⟨r62, h63, er62, hp⟩ := bR_i hp
            refine r_callSH (n := 3) (As := [zr v1, .int x8, .int x7]) (rest := []) C (c_L_erase l hfl G v1 x8 x7 h61 r62 h63 er62) hR hL mw_582 mw_583 mw_0 mw_584 (by decide +kernel) (by decide) rfl (zm_size hl) rfl (by simp [zr_cat, in_cat, lo_cat, re_cat]) dL_law_388 (st2 := [.int r62]) rfl (fun H locs cells slots hR hL => ?_)
            refine zm_istore (lv' := [(22, .int r62), (21, .int r60), (20, .int r14), (19, .int r12), (17, .long r10), (16, .int x9), (15, .int x8), (14, .int x7), (13, .int x6), (12, .int x5), (11, .int r3), (1, zr v1), (2, zr v2), (3, zr v3), (4, zr v4), (5, zr v5), (6, .int v6), (7, .int v7), (8, .int v8), (9, .int v9), (10, .int v10), (0, .ref b)]) hx hb dL_law_391 hl (by decide) (by repeat (first | exact noL_nil _ | refine noL_i ?_ | refine noL_z ?_ | refine noL_r ?_ | refine noL_c (by decide) ?_)) rfl (fun ls hl => ?_)
            refine lv_iload hx hb dL_law_393 (zm_at hl 1 rfl) ?_
            refine lv_if_ne (tgt := 425) hx hb dL_law_395 (by decide) (fun c64 => ?_) (fun c64 => ?_)
            · replace hp := ite_n hp c64
              refine lv_iload hx hb dL_law_425 (zm_at hl 0 rfl) ?_
              refine lv_iload hx hb dL_law_427 (zm_at hl 1 rfl) ?_
              refine lv_iconst (v := iI 1) hx hb dL_law_429 rfl ?_
              refine lv_isub hx hb dL_law_430 ?_
              refine lv_icmp_ne (tgt := 535) hx hb dL_law_431 (by decide) (fun c65 => ?_) (fun c65 => ?_)
              · replace hp := ite_n hp c65
                exact s_L_law_535 hfl eX hz0 hz1 hz2 C (fun hR hL hl hp => ih _ _ _ _ _ _ _ _ _ _ _ _ _ _ _ _ hR hL hl hp) hR hL (zm_sub hl [11, 12, 13, 14, 15, 16, 17, 18, 20, 6, 0, 21] rfl) hp
              · replace hp := ite_p hp c65
                refine z_aload_n hx hb dL_law_434 rfl (zm_at hl 11 rfl) ?_
                refine lv_iload hx hb dL_law_435 (zm_at hl 7 rfl) ?_
                obtain ⟨r66, h67, er66, hp⟩ := bR_i hp
                refine r_callSH (n := 2) (As := [zr v1, .int x7]) (rest := []) C (c_L_length l hfl G v1 x7 h63 r66 h67 er66) hR hL mw_665 mw_666 mw_0 mw_667 (by decide +kernel) (by decide) rfl (zm_size hl) rfl (by simp [zr_cat, in_cat, lo_cat, re_cat]) dL_law_437 (st2 := [.int r66]) rfl (fun H locs cells slots hR hL => ?_)
                refine lv_iload hx hb dL_law_440 (zm_at hl 2 rfl) ?_
                refine lv_iconst (v := iI 1) hx hb dL_law_442 rfl ?_
                refine lv_isub hx hb dL_law_443 ?_
                refine lv_icmp_ne (tgt := 535) hx hb dL_law_444 (by decide) (fun c68 => ?_) (fun c68 => ?_)
                · replace hp := ite_n hp c68
                  exact s_L_law_535 hfl eX hz0 hz1 hz2 C (fun hR hL hl hp => ih _ _ _ _ _ _ _ _ _ _ _ _ _ _ _ _ hR hL hl hp) hR hL (zm_sub hl [11, 12, 13, 14, 15, 16, 17, 18, 20, 6, 0, 21] rfl) hp
                · replace hp := ite_p hp c68
                  refine z_aload_n hx hb dL_law_447 rfl (zm_at hl 11 rfl) ?_
                  refine lv_iload hx hb dL_law_448 (zm_at hl 7 rfl) ?_
                  obtain ⟨r69, h70, er69, hp⟩ := bR_i hp
                  refine r_callSH (n := 2) (As := [zr v1, .int x7]) (rest := []) C (c_L_version l hfl G v1 x7 h67 r69 h70 er69) hR hL mw_683 mw_684 mw_0 mw_685 (by decide +kernel) (by decide) rfl (zm_size hl) rfl (by simp [zr_cat, in_cat, lo_cat, re_cat]) dL_law_450 (st2 := [.int r69]) rfl (fun H locs cells slots hR hL => ?_)
                  refine lv_iload hx hb dL_law_453 (zm_at hl 3 rfl) ?_
                  refine lv_iconst (v := iI 1) hx hb dL_law_455 rfl ?_
                  refine lv_iadd hx hb dL_law_456 ?_
                  refine lv_icmp_ne (tgt := 535) hx hb dL_law_457 (by decide) (fun c71 => ?_) (fun c71 => ?_)
                  · replace hp := ite_n hp c71
                    exact s_L_law_535 hfl eX hz0 hz1 hz2 C (fun hR hL hl hp => ih _ _ _ _ _ _ _ _ _ _ _ _ _ _ _ _ hR hL hl hp) hR hL (zm_sub hl [11, 12, 13, 14, 15, 16, 17, 18, 20, 6, 0, 21] rfl) hp
                  · replace hp := ite_p hp c71
                    refine z_aload_n hx hb dL_law_460 rfl (zm_at hl 11 rfl) ?_
                    refine lv_iload hx hb dL_law_461 (zm_at hl 6 rfl) ?_
                    obtain ⟨r72, h73, er72, hp⟩ := bR_i hp
                    refine r_callSH (n := 2) (As := [zr v1, .int x8]) (rest := []) C (c_L_undo l hfl G v1 x8 h70 r72 h73 er72) hR hL mw_631 mw_632 mw_0 mw_633 (by decide +kernel) (by decide) rfl (zm_size hl) rfl (by simp [zr_cat, in_cat, lo_cat, re_cat]) dL_law_463 (st2 := [.int r72]) rfl (fun H locs cells slots hR hL => ?_)
                    refine lv_iload hx hb dL_law_466 (zm_at hl 7 rfl) ?_
                    refine lv_icmp_ne (tgt := 535) hx hb dL_law_468 (by decide) (fun c74 => ?_) (fun c74 => ?_)
                    · replace hp := ite_n hp c74
                      exact s_L_law_535 hfl eX hz0 hz1 hz2 C (fun hR hL hl hp => ih _ _ _ _ _ _ _ _ _ _ _ _ _ _ _ _ hR hL hl hp) hR hL (zm_sub hl [11, 12, 13, 14, 15, 16, 17, 18, 20, 6, 0, 21] rfl) hp
                    · replace hp := ite_p hp c74
                      refine z_aload_n hx hb dL_law_471 rfl (zm_at hl 11 rfl) ?_
                      refine lv_iload hx hb dL_law_472 (zm_at hl 7 rfl) ?_
                      obtain ⟨r75, h76, er75, hp⟩ := bR_i hp
                      refine r_callS (n := 2) (As := [zr v1, .int x7]) (rest := []) C (c_L_looks l hfl G v1 x7 h73 r75 h76 er75) hR hL mw_962 mw_963 mw_0 mw_964 (by decide +kernel) (by decide) rfl (zm_size hl) rfl (by simp [zr_cat, in_cat, lo_cat, re_cat]) dL_law_474 (st2 := [.long r75]) rfl (fun H locs cells slots hR hL => ?_)
                      refine lv_lload hx hb dL_law_477 (zm_at hl 4 rfl) ?_
                      refine W.lcmp hx hb dL_law_479 ?_
                      refine lv_if_ne (tgt := 535) hx hb dL_law_480 (by decide) (fun c77 => ?_) (fun c77 => ?_)
                      · replace hp := ite_n hp c77
                        exact s_L_law_535 hfl eX hz0 hz1 hz2 C (fun hR hL hl hp => ih _ _ _ _ _ _ _ _ _ _ _ _ _ _ _ _ hR hL hl hp) hR hL (zm_sub hl [11, 12, 13, 14, 15, 16, 17, 18, 20, 6, 0, 21] rfl) hp
                      · replace hp := ite_p hp c77
                        refine z_aload_n hx hb dL_law_483 rfl (zm_at hl 11 rfl) ?_
                        refine lv_iload hx hb dL_law_484 (zm_at hl 6 rfl) ?_
                        refine lv_iload hx hb dL_law_486 (zm_at hl 7 rfl) ?_
                        obtain ⟨r78, h79, er78, hp⟩ := bR_i hp
                        refine r_callSH (n := 3) (As := [zr v1, .int x8, .int x7]) (rest := []) C (c_L_place l hfl G v1 x8 x7 h76 r78 h79 er78) hR hL mw_658 mw_659 mw_0 mw_660 (by decide +kernel) (by decide) rfl (zm_size hl) rfl (by simp [zr_cat, in_cat, lo_cat, re_cat]) dL_law_488 (st2 := [.int r78]) rfl (fun H locs cells slots hR hL => ?_)
                        refine lv_iload hx hb dL_law_491 (zm_at hl 1 rfl) ?_
                        refine lv_icmp_ne (tgt := 535) hx hb dL_law_493 (by decide) (fun c80 => ?_) (fun c80 => ?_)
                        · replace hp := ite_n hp c80
                          exact s_L_law_535 hfl eX hz0 hz1 hz2 C (fun hR hL hl hp => ih _ _ _ _ _ _ _ _ _ _ _ _ _ _ _ _ hR hL hl hp) hR hL (zm_sub hl [11, 12, 13, 14, 15, 16, 17, 18, 20, 6, 0, 21] rfl) hp
                        · replace hp := ite_p hp c80
                          refine z_aload_n hx hb dL_law_496 rfl (zm_at hl 11 rfl) ?_
                          refine lv_iload hx hb dL_law_497 (zm_at hl 6 rfl) ?_
                          obtain ⟨r81, h82, er81, hp⟩ := bR_i hp
                          refine r_callSH (n := 2) (As := [zr v1, .int x8]) (rest := []) C (c_L_redo l hfl G v1 x8 h79 r81 h82 er81) hR hL mw_646 mw_647 mw_0 mw_648 (by decide +kernel) (by decide) rfl (zm_size hl) rfl (by simp [zr_cat, in_cat, lo_cat, re_cat]) dL_law_499 (st2 := [.int r81]) rfl (fun H locs cells slots hR hL => ?_)
                          refine lv_iload hx hb dL_law_502 (zm_at hl 7 rfl) ?_
                          refine lv_icmp_ne (tgt := 535) hx hb dL_law_504 (by decide) (fun c83 => ?_) (fun c83 => ?_)
                          · replace hp := ite_n hp c83
                            exact s_L_law_535 hfl eX hz0 hz1 hz2 C (fun hR hL hl hp => ih _ _ _ _ _ _ _ _ _ _ _ _ _ _ _ _ hR hL hl hp) hR hL (zm_sub hl [11, 12, 13, 14, 15, 16, 17, 18, 20, 6, 0, 21] rfl) hp
                          · replace hp := ite_p hp c83
                            refine z_aload_n hx hb dL_law_507 rfl (zm_at hl 11 rfl) ?_
                            refine lv_iload hx hb dL_law_508 (zm_at hl 7 rfl) ?_
                            obtain ⟨r84, h85, er84, hp⟩ := bR_i hp
                            refine r_callSH (n := 2) (As := [zr v1, .int x7]) (rest := []) C (c_L_length l hfl G v1 x7 h82 r84 h85 er84) hR hL mw_665 mw_666 mw_0 mw_667 (by decide +kernel) (by decide) rfl (zm_size hl) rfl (by simp [zr_cat, in_cat, lo_cat, re_cat]) dL_law_510 (st2 := [.int r84]) rfl (fun H locs cells slots hR hL => ?_)
                            refine lv_iload hx hb dL_law_513 (zm_at hl 2 rfl) ?_
                            refine lv_iconst (v := iI 1) hx hb dL_law_515 rfl ?_
                            refine lv_isub hx hb dL_law_516 ?_
                            refine lv_icmp_ne (tgt := 535) hx hb dL_law_517 (by decide) (fun c86 => ?_) (fun c86 => ?_)
                            · replace hp := ite_n hp c86
                              exact s_L_law_535 hfl eX hz0 hz1 hz2 C (fun hR hL hl hp => ih _ _ _ _ _ _ _ _ _ _ _ _ _ _ _ _ hR hL hl hp) hR hL (zm_sub hl [11, 12, 13, 14, 15, 16, 17, 18, 20, 6, 0, 21] rfl) hp
                            · replace hp := ite_p hp c86
                              refine z_aload_n hx hb dL_law_520 rfl (zm_at hl 11 rfl) ?_
                              refine lv_iload hx hb dL_law_521 (zm_at hl 6 rfl) ?_
                              obtain ⟨r87, h88, er87, hp⟩ := bR_i hp
                              refine r_callSH (n := 2) (As := [zr v1, .int x8]) (rest := []) C (c_L_redo l hfl G v1 x8 h85 r87 h88 er87) hR hL mw_646 mw_647 mw_0 mw_648 (by decide +kernel) (by decide) rfl (zm_size hl) rfl (by simp [zr_cat, in_cat, lo_cat, re_cat]) dL_law_523 (st2 := [.int r87]) rfl (fun H locs cells slots hR hL => ?_)
                              refine lv_bipush (v := iI (-103)) hx hb dL_law_526 (by decide +kernel) ?_
                              refine lv_icmp_ne (tgt := 535) hx hb dL_law_528 (by decide) (fun c89 => ?_) (fun c89 => ?_)
                              · replace hp := ite_n hp c89
                                exact s_L_law_535 hfl eX hz0 hz1 hz2 C (fun hR hL hl hp => ih _ _ _ _ _ _ _ _ _ _ _ _ _ _ _ _ hR hL hl hp) hR hL (zm_sub hl [11, 12, 13, 14, 15, 16, 17, 18, 20, 6, 0, 21] rfl) hp
                              · replace hp := ite_p hp c89
                                refine lv_iconst (v := iI 1) hx hb dL_law_531 rfl ?_
                                refine lv_goto (tgt := 536) hx hb dL_law_532 (by decide) ?_
                                exact s_L_law_536 hfl eX hz0 hz1 hz2 C (fun hR hL hl hp => ih _ _ _ _ _ _ _ _ _ _ _ _ _ _ _ _ hR hL hl hp) hR hL (zm_sub hl [11, 12, 13, 14, 15, 16, 17, 18, 20, 6, 0, 21] rfl) hp
            · replace hp := ite_p hp c64
              refine lv_iload hx hb dL_law_398 (zm_at hl 0 rfl) ?_
              refine lv_bipush (v := iI (-103)) hx hb dL_law_400 (by decide +kernel) ?_
              refine lv_icmp_ne (tgt := 421) hx hb dL_law_402 (by decide) (fun c90 => ?_) (fun c90 => ?_)
              · replace hp := ite_n hp c90
                exact s_L_law_421 hfl eX hz0 hz1 hz2 C (fun hR hL hl hp => ih _ _ _ _ _ _ _ _ _ _ _ _ _ _ _ _ hR hL hl hp) hR hL (zm_sub hl [11, 12, 13, 14, 15, 16, 17, 18, 20, 6, 0, 21] rfl) hp
              · replace hp := ite_p hp c90
                refine z_aload_n hx hb dL_law_405 rfl (zm_at hl 11 rfl) ?_
                refine lv_iload hx hb dL_law_406 (zm_at hl 7 rfl) ?_
                obtain ⟨r91, h92, er91, hp⟩ := bR_i hp
                refine r_callS (n := 2) (As := [zr v1, .int x7]) (rest := []) C (c_L_looks l hfl G v1 x7 h63 r91 h92 er91) hR hL mw_962 mw_963 mw_0 mw_964 (by decide +kernel) (by decide) rfl (zm_size hl) rfl (by simp [zr_cat, in_cat, lo_cat, re_cat]) dL_law_408 (st2 := [.long r91]) rfl (fun H locs cells slots hR hL => ?_)
                refine lv_lload hx hb dL_law_411 (zm_at hl 4 rfl) ?_
                refine W.lcmp hx hb dL_law_413 ?_
                refine lv_if_ne (tgt := 421) hx hb dL_law_414 (by decide) (fun c93 => ?_) (fun c93 => ?_)
                · replace hp := ite_n hp c93
                  exact s_L_law_421 hfl eX hz0 hz1 hz2 C (fun hR hL hl hp => ih _ _ _ _ _ _ _ _ _ _ _ _ _ _ _ _ hR hL hl hp) hR hL (zm_sub hl [11, 12, 13, 14, 15, 16, 17, 18, 20, 6, 0, 21] rfl) hp
                · replace hp := ite_p hp c93
                  refine lv_iconst (v := iI 1) hx hb dL_law_417 rfl ?_
                  refine lv_goto (tgt := 536) hx hb dL_law_418 (by decide) ?_
                  exact s_L_law_536 hfl eX hz0 hz1 hz2 C (fun hR hL hl hp => ih _ _ _ _ _ _ _ _ _ _ _ _ _ _ _ _ hR hL hl hp) hR hL (zm_sub hl [11, 12, 13, 14, 15, 16, 17, 18, 20, 6, 0, 21] rfl) hp
        · replace hp := ite_n hp c16
          refine lv_iload hx hb dL_law_140 (zm_at hl 3 rfl) ?_
          refine lv_bipush (v := iI 8) hx hb dL_law_142 (by decide +kernel) ?_
          refine lv_irem hx hb dL_law_144 (by decide +kernel) ?_
          refine lv_topi (fun x94 ex94 => ?_)
          replace hp := nm_i hp ex94
          refine zm_istore (lv' := [(21, .int x94), (20, .int r14), (19, .int r12), (17, .long r10), (16, .int x9), (15, .int x8), (14, .int x7), (13, .int x6), (12, .int x5), (11, .int r3), (1, zr v1), (2, zr v2), (3, zr v3), (4, zr v4), (5, zr v5), (6, .int v6), (7, .int v7), (8, .int v8), (9, .int v9), (10, .int v10), (0, .ref b)]) hx hb dL_law_145 hl (by decide) (by repeat (first | exact noL_nil _ | refine noL_i ?_ | refine noL_z ?_ | refine noL_r ?_ | refine noL_c (by decide) ?_)) rfl (fun ls hl => ?_)
          refine lv_iload hx hb dL_law_147 (zm_at hl 0 rfl) ?_
          refine lv_iconst (v := iI 3) hx hb dL_law_149 rfl ?_
          refine lv_icmp_ge (tgt := 158) hx hb dL_law_150 (by decide) (fun c95 => ?_) (fun c95 => ?_)
          · replace hp := ite_p hp c95
            refine lv_iload hx hb dL_law_158 (zm_at hl 0 rfl) ?_
            refine lv_iconst (v := iI 3) hx hb dL_law_160 rfl ?_
            refine lv_icmp_ne (tgt := 169) hx hb dL_law_161 (by decide) (fun c96 => ?_) (fun c96 => ?_)
            · replace hp := ite_n hp c96
              refine lv_iload hx hb dL_law_169 (zm_at hl 0 rfl) ?_
              refine lv_iconst (v := iI 4) hx hb dL_law_171 rfl ?_
              refine lv_icmp_ne (tgt := 189) hx hb dL_law_172 (by decide) (fun c97 => ?_) (fun c97 => ?_)
              · replace hp := ite_n hp c97
                refine lv_iload hx hb dL_law_189 (zm_at hl 0 rfl) ?_
                refine lv_iconst (v := iI 5) hx hb dL_law_191 rfl ?_
                refine lv_icmp_ne (tgt := 209) hx hb dL_law_192 (by decide) (fun c98 => ?_) (fun c98 => ?_)
                · replace hp := ite_n hp c98
                  refine lv_bipush (v := iI 97) hx hb dL_law_209 (by decide +kernel) ?_
                  refine lv_iload hx hb dL_law_211 (zm_at hl 4 rfl) ?_
                  refine lv_bipush (v := iI 8) hx hb dL_law_213 (by decide +kernel) ?_
                  refine lv_idiv hx hb dL_law_215 (by decide +kernel) ?_
                  refine lv_bipush (v := iI 26) hx hb dL_law_216 (by decide +kernel) ?_
                  refine lv_irem hx hb dL_law_218 (by decide +kernel) ?_
                  refine lv_iadd hx hb dL_law_219 ?_
                  exact s_L_law_220 hfl eX hz0 hz1 hz2 C (fun hR hL hl hp => ih _ _ _ _ _ _ _ _ _ _ _ _ _ _ _ _ hR hL hl hp) hR hL (zm_sub hl [10, 11, 12, 13, 14, 15, 16, 17, 19, 6, 5, 3, 2, 1, 20] rfl) hp
                · replace hp := ite_p hp c98
                  refine lv_bipush (v := iI 48) hx hb dL_law_195 (by decide +kernel) ?_
                  refine lv_iload hx hb dL_law_197 (zm_at hl 4 rfl) ?_
                  refine lv_bipush (v := iI 8) hx hb dL_law_199 (by decide +kernel) ?_
                  refine lv_idiv hx hb dL_law_201 (by decide +kernel) ?_
                  refine lv_bipush (v := iI 10) hx hb dL_law_202 (by decide +kernel) ?_
                  refine lv_irem hx hb dL_law_204 (by decide +kernel) ?_
                  refine lv_iadd hx hb dL_law_205 ?_
                  refine lv_goto (tgt := 220) hx hb dL_law_206 (by decide) ?_
                  exact s_L_law_220 hfl eX hz0 hz1 hz2 C (fun hR hL hl hp => ih _ _ _ _ _ _ _ _ _ _ _ _ _ _ _ _ hR hL hl hp) hR hL (zm_sub hl [10, 11, 12, 13, 14, 15, 16, 17, 19, 6, 5, 3, 2, 1, 20] rfl) hp
              · replace hp := ite_p hp c97
                refine lv_bipush (v := iI 65) hx hb dL_law_175 (by decide +kernel) ?_
                refine lv_iload hx hb dL_law_177 (zm_at hl 4 rfl) ?_
                refine lv_bipush (v := iI 8) hx hb dL_law_179 (by decide +kernel) ?_
                refine lv_idiv hx hb dL_law_181 (by decide +kernel) ?_
                refine lv_bipush (v := iI 26) hx hb dL_law_182 (by decide +kernel) ?_
                refine lv_irem hx hb dL_law_184 (by decide +kernel) ?_
                refine lv_iadd hx hb dL_law_185 ?_
                refine lv_goto (tgt := 220) hx hb dL_law_186 (by decide) ?_
                exact s_L_law_220 hfl eX hz0 hz1 hz2 C (fun hR hL hl hp => ih _ _ _ _ _ _ _ _ _ _ _ _ _ _ _ _ hR hL hl hp) hR hL (zm_sub hl [10, 11, 12, 13, 14, 15, 16, 17, 19, 6, 5, 3, 2, 1, 20] rfl) hp
            · replace hp := ite_p hp c96
              refine lv_bipush (v := iI 47) hx hb dL_law_164 (by decide +kernel) ?_
              refine lv_goto (tgt := 220) hx hb dL_law_166 (by decide) ?_
              exact s_L_law_220 hfl eX hz0 hz1 hz2 C (fun hR hL hl hp => ih _ _ _ _ _ _ _ _ _ _ _ _ _ _ _ _ hR hL hl hp) hR hL (zm_sub hl [10, 11, 12, 13, 14, 15, 16, 17, 19, 6, 5, 3, 2, 1, 20] rfl) hp
          · replace hp := ite_n hp c95
            refine lv_bipush (v := iI 32) hx hb dL_law_153 (by decide +kernel) ?_
            refine lv_goto (tgt := 220) hx hb dL_law_155 (by decide) ?_
            exact s_L_law_220 hfl eX hz0 hz1 hz2 C (fun hR hL hl hp => ih _ _ _ _ _ _ _ _ _ _ _ _ _ _ _ _ hR hL hl hp) hR hL (zm_sub hl [10, 11, 12, 13, 14, 15, 16, 17, 19, 6, 5, 3, 2, 1, 20] rfl) hp
def p_L_law_49 (xs : Nat → Int32) (L : Nat)  (v1 : Nat) (v2 : Nat) (v3 : Nat) (v4 : Nat) (v5 : Nat) (v6 : Int32) (v7 : Int32) (v8 : Int32) (s0 : Int32) (h : AH) : Option (Int32 × AH) :=
  nm ((iI 0)) fun (x1 : Int32) =>
  p_L_law_54 xs L  FU v1 v2 v3 v4 v5 v6 v7 v8 s0 x1 h
set_option maxHeartbeats 4000000 in
set_option maxRecDepth 100000 in
theorem s_L_law_49 {p : Program} {l : Launch} {e : Env} {s : State} {m : MethodId} {b L : Nat} {xs : Nat → Int32} {nm : String} {below : List Frame} {meth : Method} {c : Code} {G : GG} {hs : AH}  {h' : AH} (hfl : l.stackTraces = false) (eX : gX G = (b, L, xs)) (hz0 : s.heap.size = gB G) (hz1 : gC G - aZ hs = 600130) (hz2 : aU hs = 0) (C : Cx G hs p s m #[Value.ref b] meth c cL_law 28 RL lw_tbl (some .boolean) nm)   {v1 : Nat} {v2 : Nat} {v3 : Nat} {v4 : Nat} {v5 : Nat} {v6 : Int32} {v7 : Int32} {v8 : Int32} {s0 : Int32} {h : AH} {H : Heap} {locs : List Loc} {cells slots : Nat} {ls : Array Slot} (hR : Rp G h H) (hL : ∀ q ∈ locs, gB G ≤ q.base) (hl : zm ls 28 [(1, zr v1), (2, zr v2), (3, zr v3), (4, zr v4), (5, zr v5), (6, .int v6), (7, .int v7), (8, .int v8), (0, .ref b)]) (hp : p_L_law_49 xs L  v1 v2 v3 v4 v5 v6 v7 v8 s0 h = some (iI 1, h')) : W p l e (gR G hs 16 610) s m #[Value.ref b] below meth c H locs cells slots (lw_Z below #[Value.ref b] s) (F0 m 49 ls [.int s0]) := by
  obtain ⟨hx, hb, hml, hown, hts, hT, hK, rs, hlk, hret, hnm⟩ := id C
  have hm : ∀ w ∈ MW, w.before #[Value.ref b] s = true := fun w hw => hts w (hT w hw)
  obtain ⟨hX, hbB⟩ := hK.scr eX
  unfold p_L_law_49 at hp
  refine zm_istore (lv' := [(9, .int s0), (1, zr v1), (2, zr v2), (3, zr v3), (4, zr v4), (5, zr v5), (6, .int v6), (7, .int v7), (8, .int v8), (0, .ref b)]) hx hb dL_law_49 hl (by decide) (by repeat (first | exact noL_nil _ | refine noL_i ?_ | refine noL_z ?_ | refine noL_r ?_ | refine noL_c (by decide) ?_)) rfl (fun ls hl => ?_)
  refine lv_iconst (v := iI 0) hx hb dL_law_51 rfl ?_
  refine lv_topi (fun x1 ex1 => ?_)
  replace hp := nm_i hp ex1
  refine zm_istore (lv' := [(10, .int x1), (9, .int s0), (1, zr v1), (2, zr v2), (3, zr v3), (4, zr v4), (5, zr v5), (6, .int v6), (7, .int v7), (8, .int v8), (0, .ref b)]) hx hb dL_law_52 hl (by decide) (by repeat (first | exact noL_nil _ | refine noL_i ?_ | refine noL_z ?_ | refine noL_r ?_ | refine noL_c (by decide) ?_)) rfl (fun ls hl => ?_)
  exact s_L_law_54 hfl eX hz0 hz1 hz2 C  _ _ _ _ _ _ _ _ _ _ _ _ _ _ _ _ _ hR hL (zm_sub hl [2, 3, 4, 5, 6, 7, 8, 9, 1, 0, 10] rfl) hp
def p_L_law_0 (xs : Nat → Int32) (L : Nat)   (h : AH) : Option (Int32 × AH) :=
  ck (aZ h + 1 ≤ aC h ∧ aU h + 7 ≤ gS) <|
  nm (uN h 12 7) fun h2 =>
  ck (aK h2 (aZ h) ≠ 0) <|
  bR (p_X10_init (aZ h) h2) fun r4 h5 =>
  nm ((aZ h)) fun (x6 : Nat) =>
  ck ((0 ≤ (iI 3) ∧ (iI 3).toNatClampNeg ≤ 100000) ∧ aZ h5 + 1 ≤ aC h5 ∧ aU h5 + (iI 3).toNatClampNeg ≤ gS) <|
  nm (uN h5 20 (iI 3).toNatClampNeg) fun h9 =>
  nm ((aZ h5)) fun (x10 : Nat) =>
  ck ((0 ≤ (iI 5) ∧ (iI 5).toNatClampNeg ≤ 100000) ∧ aZ h9 + 1 ≤ aC h9 ∧ aU h9 + (iI 5).toNatClampNeg ≤ gS) <|
  nm (uN h9 20 (iI 5).toNatClampNeg) fun h13 =>
  nm ((aZ h9)) fun (x14 : Nat) =>
  ck ((0 ≤ (iI 60) ∧ (iI 60).toNatClampNeg ≤ 100000) ∧ aZ h13 + 1 ≤ aC h13 ∧ aU h13 + (iI 60).toNatClampNeg ≤ gS) <|
  nm (uN h13 20 (iI 60).toNatClampNeg) fun h17 =>
  nm ((aZ h13)) fun (x18 : Nat) =>
  ck ((0 ≤ (iI 60) ∧ (iI 60).toNatClampNeg ≤ 100000) ∧ aZ h17 + 1 ≤ aC h17 ∧ aU h17 + (iI 60).toNatClampNeg ≤ gS) <|
  nm (uN h17 20 (iI 60).toNatClampNeg) fun h21 =>
  nm ((aZ h17)) fun (x22 : Nat) =>
  nm ((iI 0)) fun (x23 : Int32) =>
  nm ((iI 0)) fun (x24 : Int32) =>
  nm ((iI 0)) fun (x25 : Int32) =>
  ck (aK h21 x6 = 12) <|
  bR (p_X10_queued x6 h21) fun r27 h28 =>
  if r27 = 0 then
    p_L_law_49 xs L  x6 x10 x14 x18 x22 x23 x24 x25 (iI 1) h28
  else
    p_L_law_49 xs L  x6 x10 x14 x18 x22 x23 x24 x25 (iI 0) h28
set_option maxHeartbeats 4000000 in
set_option maxRecDepth 100000 in
theorem s_L_law_0 {p : Program} {l : Launch} {e : Env} {s : State} {m : MethodId} {b L : Nat} {xs : Nat → Int32} {nm : String} {below : List Frame} {meth : Method} {c : Code} {G : GG} {hs : AH}  {h' : AH} (hfl : l.stackTraces = false) (eX : gX G = (b, L, xs)) (hz0 : s.heap.size = gB G) (hz1 : gC G - aZ hs = 600130) (hz2 : aU hs = 0) (C : Cx G hs p s m #[Value.ref b] meth c cL_law 28 RL lw_tbl (some .boolean) nm)    {h : AH} {H : Heap} {locs : List Loc} {cells slots : Nat} {ls : Array Slot} (hR : Rp G h H) (hL : ∀ q ∈ locs, gB G ≤ q.base) (hl : zm ls 28 [(0, .ref b)]) (hp : p_L_law_0 xs L   h = some (iI 1, h')) : W p l e (gR G hs 16 610) s m #[Value.ref b] below meth c H locs cells slots (lw_Z below #[Value.ref b] s) (F0 m 0 ls []) := by
  obtain ⟨hx, hb, hml, hown, hts, hT, hK, rs, hlk, hret, hnm⟩ := id C
  have hm : ∀ w ∈ MW, w.before #[Value.ref b] s = true := fun w hw => hts w (hT w hw)
  obtain ⟨hX, hbB⟩ := hK.scr eX
  unfold p_L_law_0 at hp
  obtain ⟨k1, hp⟩ := ck_i hp
  refine r_new (ci := 11) (C := RX10) (T := TX10) (N := 7) (ty0 := tyX10) C hR hL rfl ii_X10 tyX10_ok (fun _ => rfl) (by decide +kernel) mw_27 mw_28 mw_1 k1 dL_law_0 (fun H cells slots hR => ?_)
  obtain ⟨h2, hp, hR⟩ := nm_h hp hR
  refine lv_dup hx hb dL_law_3 (zr_cat _) ?_
  obtain ⟨k3, hp⟩ := ck_i hp
  obtain ⟨r4, h5, er4, hp⟩ := bR_i hp
  refine r_callI (n := 0) (As := []) (rest := [zr (aZ h)]) C (c_X10_init l G (aZ h) h2 r4 h5 er4) hR hL k3 mw_29 mw_30 mw_1 mw_31 rfl (by decide +kernel) (by decide) rfl (zm_size hl) rfl (by simp [zr_cat, in_cat, lo_cat, re_cat]) dL_law_4 (st2 := [zr (aZ h)]) rfl (fun H locs cells slots hR hL => ?_)
  refine lv_topz (fun x6 ex6 => ?_)
  replace hp := nm_i hp ex6
  refine zm_astore_n (lv' := [(1, zr x6), (0, .ref b)]) hx hb dL_law_7 rfl hl (by decide) (by repeat (first | exact noL_nil _ | refine noL_i ?_ | refine noL_z ?_ | refine noL_r ?_ | refine noL_c (by decide) ?_)) rfl (fun ls hl => ?_)
  refine lv_iconst (v := iI 3) hx hb dL_law_8 rfl ?_
  obtain ⟨k7, hp⟩ := ck_i hp
  refine r_newa (t := 0) (by decide) rfl (fun _ h9 => nomatch (show FieldType.int = _ from h9)) rfl C hR mw_84 k7.1 k7.2 dL_law_9 (fun H cells slots hR => ?_)
  obtain ⟨h9, hp, hR⟩ := nm_h hp hR
  refine lv_topz (fun x10 ex10 => ?_)
  replace hp := nm_i hp ex10
  refine zm_astore_n (lv' := [(2, zr x10), (1, zr x6), (0, .ref b)]) hx hb dL_law_11 rfl hl (by decide) (by repeat (first | exact noL_nil _ | refine noL_i ?_ | refine noL_z ?_ | refine noL_r ?_ | refine noL_c (by decide) ?_)) rfl (fun ls hl => ?_)
  refine lv_iconst (v := iI 5) hx hb dL_law_12 rfl ?_
  obtain ⟨k11, hp⟩ := ck_i hp
  refine r_newa (t := 0) (by decide) rfl (fun _ h9 => nomatch (show FieldType.int = _ from h9)) rfl C hR mw_84 k11.1 k11.2 dL_law_13 (fun H cells slots hR => ?_)
  obtain ⟨h13, hp, hR⟩ := nm_h hp hR
  refine lv_topz (fun x14 ex14 => ?_)
  replace hp := nm_i hp ex14
  refine zm_astore_n (lv' := [(3, zr x14), (2, zr x10), (1, zr x6), (0, .ref b)]) hx hb dL_law_15 rfl hl (by decide) (by repeat (first | exact noL_nil _ | refine noL_i ?_ | refine noL_z ?_ | refine noL_r ?_ | refine noL_c (by decide) ?_)) rfl (fun ls hl => ?_)
  refine lv_bipush (v := iI 60) hx hb dL_law_16 (by decide +kernel) ?_
  obtain ⟨k15, hp⟩ := ck_i hp
  refine r_newa (t := 0) (by decide) rfl (fun _ h9 => nomatch (show FieldType.int = _ from h9)) rfl C hR mw_84 k15.1 k15.2 dL_law_18 (fun H cells slots hR => ?_)
  obtain ⟨h17, hp, hR⟩ := nm_h hp hR
  refine lv_topz (fun x18 ex18 => ?_)
  replace hp := nm_i hp ex18
  refine zm_astore (lv' := [(4, zr x18), (3, zr x14), (2, zr x10), (1, zr x6), (0, .ref b)]) hx hb dL_law_20 hl (by decide) (by repeat (first | exact noL_nil _ | refine noL_i ?_ | refine noL_z ?_ | refine noL_r ?_ | refine noL_c (by decide) ?_)) rfl (fun ls hl => ?_)
  refine lv_bipush (v := iI 60) hx hb dL_law_22 (by decide +kernel) ?_
  obtain ⟨k19, hp⟩ := ck_i hp
  refine r_newa (t := 0) (by decide) rfl (fun _ h9 => nomatch (show FieldType.int = _ from h9)) rfl C hR mw_84 k19.1 k19.2 dL_law_24 (fun H cells slots hR => ?_)
  obtain ⟨h21, hp, hR⟩ := nm_h hp hR
  refine lv_topz (fun x22 ex22 => ?_)
  replace hp := nm_i hp ex22
  refine zm_astore (lv' := [(5, zr x22), (4, zr x18), (3, zr x14), (2, zr x10), (1, zr x6), (0, .ref b)]) hx hb dL_law_26 hl (by decide) (by repeat (first | exact noL_nil _ | refine noL_i ?_ | refine noL_z ?_ | refine noL_r ?_ | refine noL_c (by decide) ?_)) rfl (fun ls hl => ?_)
  refine lv_iconst (v := iI 0) hx hb dL_law_28 rfl ?_
  refine lv_topi (fun x23 ex23 => ?_)
  replace hp := nm_i hp ex23
  refine zm_istore (lv' := [(6, .int x23), (5, zr x22), (4, zr x18), (3, zr x14), (2, zr x10), (1, zr x6), (0, .ref b)]) hx hb dL_law_29 hl (by decide) (by repeat (first | exact noL_nil _ | refine noL_i ?_ | refine noL_z ?_ | refine noL_r ?_ | refine noL_c (by decide) ?_)) rfl (fun ls hl => ?_)
  refine lv_iconst (v := iI 0) hx hb dL_law_31 rfl ?_
  refine lv_topi (fun x24 ex24 => ?_)
  replace hp := nm_i hp ex24
  refine zm_istore (lv' := [(7, .int x24), (6, .int x23), (5, zr x22), (4, zr x18), (3, zr x14), (2, zr x10), (1, zr x6), (0, .ref b)]) hx hb dL_law_32 hl (by decide) (by repeat (first | exact noL_nil _ | refine noL_i ?_ | refine noL_z ?_ | refine noL_r ?_ | refine noL_c (by decide) ?_)) rfl (fun ls hl => ?_)
  refine lv_iconst (v := iI 0) hx hb dL_law_34 rfl ?_
  refine lv_topi (fun x25 ex25 => ?_)
  replace hp := nm_i hp ex25
  refine zm_istore (lv' := [(8, .int x25), (7, .int x24), (6, .int x23), (5, zr x22), (4, zr x18), (3, zr x14), (2, zr x10), (1, zr x6), (0, .ref b)]) hx hb dL_law_35 hl (by decide) (by repeat (first | exact noL_nil _ | refine noL_i ?_ | refine noL_z ?_ | refine noL_r ?_ | refine noL_c (by decide) ?_)) rfl (fun ls hl => ?_)
  refine z_aload_n hx hb dL_law_37 rfl (zm_at hl 7 rfl) ?_
  obtain ⟨k26, hp⟩ := ck_i hp
  obtain ⟨r27, h28, er27, hp⟩ := bR_i hp
  refine r_callV (ci := 11) (r := (RX10, TX10, 7)) (n := 0) (As := []) (rest := []) C (c_X10_queued l G x6 h21 r27 h28 er27) hR hL rfl k26 mw_291 mw_292 mw_293 mw_1 mw_294 (by decide +kernel) (by decide) rfl (zm_size hl) rfl (by simp [zr_cat, in_cat, lo_cat, re_cat]) dL_law_38 (st2 := [.int r27]) rfl (fun H locs cells slots hR hL => ?_)
  refine lv_if_ne (tgt := 48) hx hb dL_law_41 (by decide) (fun c29 => ?_) (fun c29 => ?_)
  · replace hp := ite_n hp c29
    refine lv_iconst (v := iI 0) hx hb dL_law_48 rfl ?_
    exact s_L_law_49 hfl eX hz0 hz1 hz2 C  hR hL (zm_sub hl [7, 6, 5, 4, 3, 2, 1, 0, 8] rfl) hp
  · replace hp := ite_p hp c29
    refine lv_iconst (v := iI 1) hx hb dL_law_44 rfl ?_
    refine lv_goto (tgt := 49) hx hb dL_law_45 (by decide) ?_
    exact s_L_law_49 hfl eX hz0 hz1 hz2 C  hR hL (zm_sub hl [7, 6, 5, 4, 3, 2, 1, 0, 8] rfl) hp
