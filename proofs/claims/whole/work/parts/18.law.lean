/-! CursorKeepLaw.law([I)Z -/
def p_L_law_1463 (xs : Nat → Int32) (L : Nat) (k23 : Nat → Nat → Nat → Int32 → AH → Option (Int32 × AH)) (v1 : Nat) (v2 : Nat) (v3 : Nat) (v4 : Int32) (h : AH) : Option (Int32 × AH) :=
  nm (v4 + iI 4) fun (x1 : Int32) =>
  k23 v1 v2 v3 x1 h
set_option maxHeartbeats 4000000 in
set_option maxRecDepth 100000 in
theorem s_L_law_1463 {p : Program} {l : Launch} {e : Env} {s : State} {m : MethodId} {b L : Nat} {xs : Nat → Int32} {nm : String} {below : List Frame} {meth : Method} {c : Code} {G : GG} {hs : AH}  {h' : AH} (hfl : l.stackTraces = false) (hX : va_X b L xs s (gH G)) (hbB : b < gB G) (hz0 : s.heap.size = gB G) (hz1 : gC G - aZ hs = 601024) (hz2 : aU hs = 0) (C : Cx G hs p s m #[Value.ref b] meth c cL_law 7 RL lw_tbl (some .boolean) nm) {k23 : Nat → Nat → Nat → Int32 → AH → Option (Int32 × AH)} (hk23 : ∀ {v1 : Nat} {v2 : Nat} {v3 : Nat} {v4 : Int32} {h : AH} {H : Heap} {locs : List Loc} {cells slots : Nat} {ls : Array Slot}, Rp G h H → (∀ q ∈ locs, gB G ≤ q.base) → zl ls 7 [(1, zr v1), (2, zr v2), (3, zr v3), (4, .int v4), (0, .ref b)] → k23 v1 v2 v3 v4 h = some (iI 1, h') → W p l e (gR G hs 16 612) s m #[Value.ref b] below meth c H locs cells slots (lw_Z below #[Value.ref b] s) (F0 m 23 ls [])) {v1 : Nat} {v2 : Nat} {v3 : Nat} {v4 : Int32} {h : AH} {H : Heap} {locs : List Loc} {cells slots : Nat} {ls : Array Slot} (hR : Rp G h H) (hL : ∀ q ∈ locs, gB G ≤ q.base) (hl : zl ls 7 [(1, zr v1), (2, zr v2), (3, zr v3), (4, .int v4), (0, .ref b)]) (hp : p_L_law_1463 xs L k23 v1 v2 v3 v4 h = some (iI 1, h')) : W p l e (gR G hs 16 612) s m #[Value.ref b] below meth c H locs cells slots (lw_Z below #[Value.ref b] s) (F0 m 1463 ls []) := by
  obtain ⟨hx, hb, hml, hown, hts, hT, hK, rs, hlk, hret, hnm⟩ := id C
  have hm : ∀ w ∈ MW, w.before #[Value.ref b] s = true := fun w hw => hts w (hT w hw)
  unfold p_L_law_1463 at hp
  obtain ⟨x1, ex1⟩ : ∃ y : Int32, y = v4 + iI 4 := ⟨_, rfl⟩
  replace hp := nm_i hp ex1
  refine z_iinc (v := x1) (lv' := [(4, .int x1), (1, zr v1), (2, zr v2), (3, zr v3), (0, .ref b)]) hx hb dL_law_1463 hl (k := 3) rfl ex1 (by decide) rfl (fun ls hl => ?_)
  refine lv_goto (tgt := 23) hx hb dL_law_1466 (by decide) ?_
  exact hk23 hR hL (zl_sub hl [1, 2, 3, 0, 4] rfl) hp
def p_L_law_219 (xs : Nat → Int32) (L : Nat) (k23 : Nat → Nat → Nat → Int32 → AH → Option (Int32 × AH)) (v1 : Nat) (v2 : Nat) (v3 : Nat) (v4 : Int32) (h : AH) : Option (Int32 × AH) :=
  p_L_law_1463 xs L k23 v1 v2 v3 v4 h
set_option maxHeartbeats 4000000 in
set_option maxRecDepth 100000 in
theorem s_L_law_219 {p : Program} {l : Launch} {e : Env} {s : State} {m : MethodId} {b L : Nat} {xs : Nat → Int32} {nm : String} {below : List Frame} {meth : Method} {c : Code} {G : GG} {hs : AH}  {h' : AH} (hfl : l.stackTraces = false) (hX : va_X b L xs s (gH G)) (hbB : b < gB G) (hz0 : s.heap.size = gB G) (hz1 : gC G - aZ hs = 601024) (hz2 : aU hs = 0) (C : Cx G hs p s m #[Value.ref b] meth c cL_law 7 RL lw_tbl (some .boolean) nm) {k23 : Nat → Nat → Nat → Int32 → AH → Option (Int32 × AH)} (hk23 : ∀ {v1 : Nat} {v2 : Nat} {v3 : Nat} {v4 : Int32} {h : AH} {H : Heap} {locs : List Loc} {cells slots : Nat} {ls : Array Slot}, Rp G h H → (∀ q ∈ locs, gB G ≤ q.base) → zl ls 7 [(1, zr v1), (2, zr v2), (3, zr v3), (4, .int v4), (0, .ref b)] → k23 v1 v2 v3 v4 h = some (iI 1, h') → W p l e (gR G hs 16 612) s m #[Value.ref b] below meth c H locs cells slots (lw_Z below #[Value.ref b] s) (F0 m 23 ls [])) {v1 : Nat} {v2 : Nat} {v3 : Nat} {v4 : Int32} {h : AH} {H : Heap} {locs : List Loc} {cells slots : Nat} {ls : Array Slot} (hR : Rp G h H) (hL : ∀ q ∈ locs, gB G ≤ q.base) (hl : zl ls 7 [(1, zr v1), (2, zr v2), (3, zr v3), (4, .int v4), (0, .ref b)]) (hp : p_L_law_219 xs L k23 v1 v2 v3 v4 h = some (iI 1, h')) : W p l e (gR G hs 16 612) s m #[Value.ref b] below meth c H locs cells slots (lw_Z below #[Value.ref b] s) (F0 m 219 ls []) := by
  obtain ⟨hx, hb, hml, hown, hts, hT, hK, rs, hlk, hret, hnm⟩ := id C
  have hm : ∀ w ∈ MW, w.before #[Value.ref b] s = true := fun w hw => hts w (hT w hw)
  unfold p_L_law_219 at hp
  refine lv_goto (tgt := 1463) hx hb dL_law_219 (by decide) ?_
  exact s_L_law_1463 hfl hX hbB hz0 hz1 hz2 C hk23 hR hL (zl_sub hl [0, 1, 2, 3, 4] rfl) hp
def p_L_law_140 (xs : Nat → Int32) (L : Nat) (k23 : Nat → Nat → Nat → Int32 → AH → Option (Int32 × AH)) (v1 : Nat) (v2 : Nat) (v3 : Nat) (v4 : Int32) (h : AH) : Option (Int32 × AH) :=
  ck (ix (v4 + (iI 1)) L) <|
  ck (ix (v4 + (iI 2)) L) <|
  ck (ix (v4 + (iI 3)) L) <|
  bR (p_L_type v1 (xs (v4 + (iI 1)).toNatClampNeg) (xs (v4 + (iI 2)).toNatClampNeg) (nC (xs (v4 + (iI 3)).toNatClampNeg)) v3 h) fun r4 h5 =>
  ck (ix (v4 + (iI 1)) L) <|
  ck (ix (v4 + (iI 2)) L) <|
  ck (ix (v4 + (iI 3)) L) <|
  ck (aK h5 v2 = 13) <|
  bR (p_X11_type v2 (xs (v4 + (iI 1)).toNatClampNeg) (xs (v4 + (iI 2)).toNatClampNeg) (nC (xs (v4 + (iI 3)).toNatClampNeg)) h5) fun r10 h11 =>
  ck (aK h11 v2 = 13) <|
  bR (p_X11_thrown v2 h11) fun r13 h14 =>
  if r13 = r4 then
    if r4 = 0 then
      ck (aK h14 v3 = 23 ∧ ix (iI 0) (aN h14 v3)) <|
      if (lg_cmp (aL h14 v3 (iI 0).toNatClampNeg) ((r10).toInt64)) = 0 then
        p_L_law_219 xs L k23 v1 v2 v3 v4 h14
      else
        some ((iI 0), h14)
    else
      p_L_law_219 xs L k23 v1 v2 v3 v4 h14
  else
    some ((iI 0), h14)
set_option maxHeartbeats 4000000 in
set_option maxRecDepth 100000 in
theorem s_L_law_140 {p : Program} {l : Launch} {e : Env} {s : State} {m : MethodId} {b L : Nat} {xs : Nat → Int32} {nm : String} {below : List Frame} {meth : Method} {c : Code} {G : GG} {hs : AH}  {h' : AH} (hfl : l.stackTraces = false) (hX : va_X b L xs s (gH G)) (hbB : b < gB G) (hz0 : s.heap.size = gB G) (hz1 : gC G - aZ hs = 601024) (hz2 : aU hs = 0) (C : Cx G hs p s m #[Value.ref b] meth c cL_law 7 RL lw_tbl (some .boolean) nm) {k23 : Nat → Nat → Nat → Int32 → AH → Option (Int32 × AH)} (hk23 : ∀ {v1 : Nat} {v2 : Nat} {v3 : Nat} {v4 : Int32} {h : AH} {H : Heap} {locs : List Loc} {cells slots : Nat} {ls : Array Slot}, Rp G h H → (∀ q ∈ locs, gB G ≤ q.base) → zl ls 7 [(1, zr v1), (2, zr v2), (3, zr v3), (4, .int v4), (0, .ref b)] → k23 v1 v2 v3 v4 h = some (iI 1, h') → W p l e (gR G hs 16 612) s m #[Value.ref b] below meth c H locs cells slots (lw_Z below #[Value.ref b] s) (F0 m 23 ls [])) {v1 : Nat} {v2 : Nat} {v3 : Nat} {v4 : Int32} {h : AH} {H : Heap} {locs : List Loc} {cells slots : Nat} {ls : Array Slot} (hR : Rp G h H) (hL : ∀ q ∈ locs, gB G ≤ q.base) (hl : zl ls 7 [(1, zr v1), (2, zr v2), (3, zr v3), (4, .int v4), (0, .ref b)]) (hp : p_L_law_140 xs L k23 v1 v2 v3 v4 h = some (iI 1, h')) : W p l e (gR G hs 16 612) s m #[Value.ref b] below meth c H locs cells slots (lw_Z below #[Value.ref b] s) (F0 m 140 ls []) := by
  obtain ⟨hx, hb, hml, hown, hts, hT, hK, rs, hlk, hret, hnm⟩ := id C
  have hm : ∀ w ∈ MW, w.before #[Value.ref b] s = true := fun w hw => hts w (hT w hw)
  unfold p_L_law_140 at hp
  refine z_aload_n hx hb dL_law_140 rfl (zl_at hl 0 rfl) ?_
  refine lv_aload_n hx hb dL_law_141 rfl (zl_at hl 4 rfl) ?_
  refine lv_iload hx hb dL_law_142 (zl_at hl 3 rfl) ?_
  refine lv_iconst (v := iI 1) hx hb dL_law_144 rfl ?_
  refine lv_iadd hx hb dL_law_145 ?_
  obtain ⟨k1, hp⟩ := ck_i hp
  refine r_sld hx hb hX hbB hR k1 dL_law_146 ?_
  refine lv_aload_n hx hb dL_law_147 rfl (zl_at hl 4 rfl) ?_
  refine lv_iload hx hb dL_law_148 (zl_at hl 3 rfl) ?_
  refine lv_iconst (v := iI 2) hx hb dL_law_150 rfl ?_
  refine lv_iadd hx hb dL_law_151 ?_
  obtain ⟨k2, hp⟩ := ck_i hp
  refine r_sld hx hb hX hbB hR k2 dL_law_152 ?_
  refine lv_aload_n hx hb dL_law_153 rfl (zl_at hl 4 rfl) ?_
  refine lv_iload hx hb dL_law_154 (zl_at hl 3 rfl) ?_
  refine lv_iconst (v := iI 3) hx hb dL_law_156 rfl ?_
  refine lv_iadd hx hb dL_law_157 ?_
  obtain ⟨k3, hp⟩ := ck_i hp
  refine r_sld hx hb hX hbB hR k3 dL_law_158 ?_
  refine lv_i2c (v := nC (xs (v4 + (iI 3)).toNatClampNeg)) hx hb dL_law_159 rfl ?_
  refine z_aload_n hx hb dL_law_160 rfl (zl_at hl 2 rfl) ?_
  obtain ⟨r4, h5, er4, hp⟩ := bR_i hp
  refine r_callSH (n := 5) (As := [zr v1, .int (xs (v4 + (iI 1)).toNatClampNeg), .int (xs (v4 + (iI 2)).toNatClampNeg), .int (nC (xs (v4 + (iI 3)).toNatClampNeg)), zr v3]) (rest := []) C (c_L_type l hfl G v1 (xs (v4 + (iI 1)).toNatClampNeg) (xs (v4 + (iI 2)).toNatClampNeg) (nC (xs (v4 + (iI 3)).toNatClampNeg)) v3 h r4 h5 er4) hR hL mw_296 mw_297 mw_0 mw_298 (by decide +kernel) (by decide) rfl (zl_size hl) rfl (by simp [zr_cat, in_cat]) dL_law_161 (st2 := [.int r4]) rfl (fun H locs cells slots hR hL => ?_)
  refine z_istore (lv' := [(5, .int r4), (1, zr v1), (2, zr v2), (3, zr v3), (4, .int v4), (0, .ref b)]) hx hb dL_law_164 hl (by decide) rfl (fun ls hl => ?_)
  refine z_aload_n hx hb dL_law_166 rfl (zl_at hl 2 rfl) ?_
  refine lv_aload_n hx hb dL_law_167 rfl (zl_at hl 5 rfl) ?_
  refine lv_iload hx hb dL_law_168 (zl_at hl 4 rfl) ?_
  refine lv_iconst (v := iI 1) hx hb dL_law_170 rfl ?_
  refine lv_iadd hx hb dL_law_171 ?_
  obtain ⟨k6, hp⟩ := ck_i hp
  refine r_sld hx hb hX hbB hR k6 dL_law_172 ?_
  refine lv_aload_n hx hb dL_law_173 rfl (zl_at hl 5 rfl) ?_
  refine lv_iload hx hb dL_law_174 (zl_at hl 4 rfl) ?_
  refine lv_iconst (v := iI 2) hx hb dL_law_176 rfl ?_
  refine lv_iadd hx hb dL_law_177 ?_
  obtain ⟨k7, hp⟩ := ck_i hp
  refine r_sld hx hb hX hbB hR k7 dL_law_178 ?_
  refine lv_aload_n hx hb dL_law_179 rfl (zl_at hl 5 rfl) ?_
  refine lv_iload hx hb dL_law_180 (zl_at hl 4 rfl) ?_
  refine lv_iconst (v := iI 3) hx hb dL_law_182 rfl ?_
  refine lv_iadd hx hb dL_law_183 ?_
  obtain ⟨k8, hp⟩ := ck_i hp
  refine r_sld hx hb hX hbB hR k8 dL_law_184 ?_
  refine lv_i2c (v := nC (xs (v4 + (iI 3)).toNatClampNeg)) hx hb dL_law_185 rfl ?_
  obtain ⟨k9, hp⟩ := ck_i hp
  obtain ⟨r10, h11, er10, hp⟩ := bR_i hp
  refine r_callV (ci := 12) (r := (RX11, TX11, 32)) (n := 3) (As := [.int (xs (v4 + (iI 1)).toNatClampNeg), .int (xs (v4 + (iI 2)).toNatClampNeg), .int (nC (xs (v4 + (iI 3)).toNatClampNeg))]) (rest := []) C (c_X11_type l G v2 (xs (v4 + (iI 1)).toNatClampNeg) (xs (v4 + (iI 2)).toNatClampNeg) (nC (xs (v4 + (iI 3)).toNatClampNeg)) h5 r10 h11 er10) hR hL rfl k9 mw_1083 mw_1084 mw_1085 mw_10 mw_1086 (by decide +kernel) (by decide) rfl (zl_size hl) rfl (by simp [zr_cat, in_cat]) dL_law_186 (st2 := [.int r10]) rfl (fun H locs cells slots hR hL => ?_)
  refine z_istore (lv' := [(6, .int r10), (5, .int r4), (1, zr v1), (2, zr v2), (3, zr v3), (4, .int v4), (0, .ref b)]) hx hb dL_law_189 hl (by decide) rfl (fun ls hl => ?_)
  refine z_aload_n hx hb dL_law_191 rfl (zl_at hl 3 rfl) ?_
  obtain ⟨k12, hp⟩ := ck_i hp
  obtain ⟨r13, h14, er13, hp⟩ := bR_i hp
  refine r_callV (ci := 12) (r := (RX11, TX11, 32)) (n := 0) (As := []) (rest := []) C (c_X11_thrown l G v2 h11 r13 h14 er13) hR hL rfl k12 mw_1079 mw_1080 mw_1081 mw_10 mw_1082 (by decide +kernel) (by decide) rfl (zl_size hl) rfl (by simp [zr_cat, in_cat]) dL_law_192 (st2 := [.int r13]) rfl (fun H locs cells slots hR hL => ?_)
  refine lv_iload hx hb dL_law_195 (zl_at hl 1 rfl) ?_
  refine lv_icmp_eq (tgt := 202) hx hb dL_law_197 (by decide) (fun c15 => ?_) (fun c15 => ?_)
  · replace hp := ite_p hp c15
    refine lv_iload hx hb dL_law_202 (zl_at hl 1 rfl) ?_
    refine lv_if_ne (tgt := 219) hx hb dL_law_204 (by decide) (fun c16 => ?_) (fun c16 => ?_)
    · replace hp := ite_n hp c16
      exact s_L_law_219 hfl hX hbB hz0 hz1 hz2 C hk23 hR hL (zl_sub hl [2, 3, 4, 5, 6] rfl) hp
    · replace hp := ite_p hp c16
      refine z_aload_n hx hb dL_law_207 rfl (zl_at hl 4 rfl) ?_
      refine lv_iconst (v := iI 0) hx hb dL_law_208 rfl ?_
      obtain ⟨k17, hp⟩ := ck_i hp
      refine r_lald hx hb hK hR k17.1 k17.2 dL_law_209 ?_
      refine lv_iload hx hb dL_law_210 (zl_at hl 0 rfl) ?_
      refine lv_i2l (v := (r10).toInt64) hx hb dL_law_212 rfl ?_
      refine W.lcmp hx hb dL_law_213 ?_
      refine lv_if_eq (tgt := 219) hx hb dL_law_214 (by decide) (fun c19 => ?_) (fun c19 => ?_)
      · replace hp := ite_p hp c19
        exact s_L_law_219 hfl hX hbB hz0 hz1 hz2 C hk23 hR hL (zl_sub hl [2, 3, 4, 5, 6] rfl) hp
      · replace hp := ite_n hp c19
        refine lv_iconst (v := iI 0) hx hb dL_law_217 rfl ?_
        exact law_no hp
  · replace hp := ite_n hp c15
    refine lv_iconst (v := iI 0) hx hb dL_law_200 rfl ?_
    exact law_no hp
def p_L_law_287 (xs : Nat → Int32) (L : Nat) (k23 : Nat → Nat → Nat → Int32 → AH → Option (Int32 × AH)) (v1 : Nat) (v2 : Nat) (v3 : Nat) (v4 : Int32) (h : AH) : Option (Int32 × AH) :=
  p_L_law_1463 xs L k23 v1 v2 v3 v4 h
set_option maxHeartbeats 4000000 in
set_option maxRecDepth 100000 in
theorem s_L_law_287 {p : Program} {l : Launch} {e : Env} {s : State} {m : MethodId} {b L : Nat} {xs : Nat → Int32} {nm : String} {below : List Frame} {meth : Method} {c : Code} {G : GG} {hs : AH}  {h' : AH} (hfl : l.stackTraces = false) (hX : va_X b L xs s (gH G)) (hbB : b < gB G) (hz0 : s.heap.size = gB G) (hz1 : gC G - aZ hs = 601024) (hz2 : aU hs = 0) (C : Cx G hs p s m #[Value.ref b] meth c cL_law 7 RL lw_tbl (some .boolean) nm) {k23 : Nat → Nat → Nat → Int32 → AH → Option (Int32 × AH)} (hk23 : ∀ {v1 : Nat} {v2 : Nat} {v3 : Nat} {v4 : Int32} {h : AH} {H : Heap} {locs : List Loc} {cells slots : Nat} {ls : Array Slot}, Rp G h H → (∀ q ∈ locs, gB G ≤ q.base) → zl ls 7 [(1, zr v1), (2, zr v2), (3, zr v3), (4, .int v4), (0, .ref b)] → k23 v1 v2 v3 v4 h = some (iI 1, h') → W p l e (gR G hs 16 612) s m #[Value.ref b] below meth c H locs cells slots (lw_Z below #[Value.ref b] s) (F0 m 23 ls [])) {v1 : Nat} {v2 : Nat} {v3 : Nat} {v4 : Int32} {h : AH} {H : Heap} {locs : List Loc} {cells slots : Nat} {ls : Array Slot} (hR : Rp G h H) (hL : ∀ q ∈ locs, gB G ≤ q.base) (hl : zl ls 7 [(1, zr v1), (2, zr v2), (3, zr v3), (4, .int v4), (0, .ref b)]) (hp : p_L_law_287 xs L k23 v1 v2 v3 v4 h = some (iI 1, h')) : W p l e (gR G hs 16 612) s m #[Value.ref b] below meth c H locs cells slots (lw_Z below #[Value.ref b] s) (F0 m 287 ls []) := by
  obtain ⟨hx, hb, hml, hown, hts, hT, hK, rs, hlk, hret, hnm⟩ := id C
  have hm : ∀ w ∈ MW, w.before #[Value.ref b] s = true := fun w hw => hts w (hT w hw)
  unfold p_L_law_287 at hp
  refine lv_goto (tgt := 1463) hx hb dL_law_287 (by decide) ?_
  exact s_L_law_1463 hfl hX hbB hz0 hz1 hz2 C hk23 hR hL (zl_sub hl [0, 1, 2, 3, 4] rfl) hp
def p_L_law_222 (xs : Nat → Int32) (L : Nat) (k23 : Nat → Nat → Nat → Int32 → AH → Option (Int32 × AH)) (v1 : Nat) (v2 : Nat) (v3 : Nat) (v4 : Int32) (h : AH) : Option (Int32 × AH) :=
  ck (ix (v4 + (iI 1)) L) <|
  ck (ix (v4 + (iI 2)) L) <|
  bR (p_L_erase v1 (xs (v4 + (iI 1)).toNatClampNeg) (xs (v4 + (iI 2)).toNatClampNeg) v3 h) fun r3 h4 =>
  ck (ix (v4 + (iI 1)) L) <|
  ck (ix (v4 + (iI 2)) L) <|
  ck (aK h4 v2 = 13) <|
  bR (p_X11_erase v2 (xs (v4 + (iI 1)).toNatClampNeg) (xs (v4 + (iI 2)).toNatClampNeg) h4) fun r8 h9 =>
  ck (aK h9 v2 = 13) <|
  bR (p_X11_thrown v2 h9) fun r11 h12 =>
  if r11 = r3 then
    if r3 = 0 then
      ck (aK h12 v3 = 23 ∧ ix (iI 0) (aN h12 v3)) <|
      if (lg_cmp (aL h12 v3 (iI 0).toNatClampNeg) ((r8).toInt64)) = 0 then
        p_L_law_287 xs L k23 v1 v2 v3 v4 h12
      else
        some ((iI 0), h12)
    else
      p_L_law_287 xs L k23 v1 v2 v3 v4 h12
  else
    some ((iI 0), h12)
set_option maxHeartbeats 4000000 in
set_option maxRecDepth 100000 in
theorem s_L_law_222 {p : Program} {l : Launch} {e : Env} {s : State} {m : MethodId} {b L : Nat} {xs : Nat → Int32} {nm : String} {below : List Frame} {meth : Method} {c : Code} {G : GG} {hs : AH}  {h' : AH} (hfl : l.stackTraces = false) (hX : va_X b L xs s (gH G)) (hbB : b < gB G) (hz0 : s.heap.size = gB G) (hz1 : gC G - aZ hs = 601024) (hz2 : aU hs = 0) (C : Cx G hs p s m #[Value.ref b] meth c cL_law 7 RL lw_tbl (some .boolean) nm) {k23 : Nat → Nat → Nat → Int32 → AH → Option (Int32 × AH)} (hk23 : ∀ {v1 : Nat} {v2 : Nat} {v3 : Nat} {v4 : Int32} {h : AH} {H : Heap} {locs : List Loc} {cells slots : Nat} {ls : Array Slot}, Rp G h H → (∀ q ∈ locs, gB G ≤ q.base) → zl ls 7 [(1, zr v1), (2, zr v2), (3, zr v3), (4, .int v4), (0, .ref b)] → k23 v1 v2 v3 v4 h = some (iI 1, h') → W p l e (gR G hs 16 612) s m #[Value.ref b] below meth c H locs cells slots (lw_Z below #[Value.ref b] s) (F0 m 23 ls [])) {v1 : Nat} {v2 : Nat} {v3 : Nat} {v4 : Int32} {h : AH} {H : Heap} {locs : List Loc} {cells slots : Nat} {ls : Array Slot} (hR : Rp G h H) (hL : ∀ q ∈ locs, gB G ≤ q.base) (hl : zl ls 7 [(1, zr v1), (2, zr v2), (3, zr v3), (4, .int v4), (0, .ref b)]) (hp : p_L_law_222 xs L k23 v1 v2 v3 v4 h = some (iI 1, h')) : W p l e (gR G hs 16 612) s m #[Value.ref b] below meth c H locs cells slots (lw_Z below #[Value.ref b] s) (F0 m 222 ls []) := by
  obtain ⟨hx, hb, hml, hown, hts, hT, hK, rs, hlk, hret, hnm⟩ := id C
  have hm : ∀ w ∈ MW, w.before #[Value.ref b] s = true := fun w hw => hts w (hT w hw)
  unfold p_L_law_222 at hp
  refine z_aload_n hx hb dL_law_222 rfl (zl_at hl 0 rfl) ?_
  refine lv_aload_n hx hb dL_law_223 rfl (zl_at hl 4 rfl) ?_
  refine lv_iload hx hb dL_law_224 (zl_at hl 3 rfl) ?_
  refine lv_iconst (v := iI 1) hx hb dL_law_226 rfl ?_
  refine lv_iadd hx hb dL_law_227 ?_
  obtain ⟨k1, hp⟩ := ck_i hp
  refine r_sld hx hb hX hbB hR k1 dL_law_228 ?_
  refine lv_aload_n hx hb dL_law_229 rfl (zl_at hl 4 rfl) ?_
  refine lv_iload hx hb dL_law_230 (zl_at hl 3 rfl) ?_
  refine lv_iconst (v := iI 2) hx hb dL_law_232 rfl ?_
  refine lv_iadd hx hb dL_law_233 ?_
  obtain ⟨k2, hp⟩ := ck_i hp
  refine r_sld hx hb hX hbB hR k2 dL_law_234 ?_
  refine z_aload_n hx hb dL_law_235 rfl (zl_at hl 2 rfl) ?_
  obtain ⟨r3, h4, er3, hp⟩ := bR_i hp
  refine r_callSH (n := 4) (As := [zr v1, .int (xs (v4 + (iI 1)).toNatClampNeg), .int (xs (v4 + (iI 2)).toNatClampNeg), zr v3]) (rest := []) C (c_L_erase l hfl G v1 (xs (v4 + (iI 1)).toNatClampNeg) (xs (v4 + (iI 2)).toNatClampNeg) v3 h r3 h4 er3) hR hL mw_579 mw_580 mw_0 mw_581 (by decide +kernel) (by decide) rfl (zl_size hl) rfl (by simp [zr_cat, in_cat]) dL_law_236 (st2 := [.int r3]) rfl (fun H locs cells slots hR hL => ?_)
  refine z_istore (lv' := [(5, .int r3), (1, zr v1), (2, zr v2), (3, zr v3), (4, .int v4), (0, .ref b)]) hx hb dL_law_239 hl (by decide) rfl (fun ls hl => ?_)
  refine z_aload_n hx hb dL_law_241 rfl (zl_at hl 2 rfl) ?_
  refine lv_aload_n hx hb dL_law_242 rfl (zl_at hl 5 rfl) ?_
  refine lv_iload hx hb dL_law_243 (zl_at hl 4 rfl) ?_
  refine lv_iconst (v := iI 1) hx hb dL_law_245 rfl ?_
  refine lv_iadd hx hb dL_law_246 ?_
  obtain ⟨k5, hp⟩ := ck_i hp
  refine r_sld hx hb hX hbB hR k5 dL_law_247 ?_
  refine lv_aload_n hx hb dL_law_248 rfl (zl_at hl 5 rfl) ?_
  refine lv_iload hx hb dL_law_249 (zl_at hl 4 rfl) ?_
  refine lv_iconst (v := iI 2) hx hb dL_law_251 rfl ?_
  refine lv_iadd hx hb dL_law_252 ?_
  obtain ⟨k6, hp⟩ := ck_i hp
  refine r_sld hx hb hX hbB hR k6 dL_law_253 ?_
  obtain ⟨k7, hp⟩ := ck_i hp
  obtain ⟨r8, h9, er8, hp⟩ := bR_i hp
  refine r_callV (ci := 12) (r := (RX11, TX11, 32)) (n := 2) (As := [.int (xs (v4 + (iI 1)).toNatClampNeg), .int (xs (v4 + (iI 2)).toNatClampNeg)]) (rest := []) C (c_X11_erase l G v2 (xs (v4 + (iI 1)).toNatClampNeg) (xs (v4 + (iI 2)).toNatClampNeg) h4 r8 h9 er8) hR hL rfl k7 mw_1112 mw_1113 mw_1114 mw_10 mw_1115 (by decide +kernel) (by decide) rfl (zl_size hl) rfl (by simp [zr_cat, in_cat]) dL_law_254 (st2 := [.int r8]) rfl (fun H locs cells slots hR hL => ?_)
  refine z_istore (lv' := [(6, .int r8), (5, .int r3), (1, zr v1), (2, zr v2), (3, zr v3), (4, .int v4), (0, .ref b)]) hx hb dL_law_257 hl (by decide) rfl (fun ls hl => ?_)
  refine z_aload_n hx hb dL_law_259 rfl (zl_at hl 3 rfl) ?_
  obtain ⟨k10, hp⟩ := ck_i hp
  obtain ⟨r11, h12, er11, hp⟩ := bR_i hp
  refine r_callV (ci := 12) (r := (RX11, TX11, 32)) (n := 0) (As := []) (rest := []) C (c_X11_thrown l G v2 h9 r11 h12 er11) hR hL rfl k10 mw_1079 mw_1080 mw_1081 mw_10 mw_1082 (by decide +kernel) (by decide) rfl (zl_size hl) rfl (by simp [zr_cat, in_cat]) dL_law_260 (st2 := [.int r11]) rfl (fun H locs cells slots hR hL => ?_)
  refine lv_iload hx hb dL_law_263 (zl_at hl 1 rfl) ?_
  refine lv_icmp_eq (tgt := 270) hx hb dL_law_265 (by decide) (fun c13 => ?_) (fun c13 => ?_)
  · replace hp := ite_p hp c13
    refine lv_iload hx hb dL_law_270 (zl_at hl 1 rfl) ?_
    refine lv_if_ne (tgt := 287) hx hb dL_law_272 (by decide) (fun c14 => ?_) (fun c14 => ?_)
    · replace hp := ite_n hp c14
      exact s_L_law_287 hfl hX hbB hz0 hz1 hz2 C hk23 hR hL (zl_sub hl [2, 3, 4, 5, 6] rfl) hp
    · replace hp := ite_p hp c14
      refine z_aload_n hx hb dL_law_275 rfl (zl_at hl 4 rfl) ?_
      refine lv_iconst (v := iI 0) hx hb dL_law_276 rfl ?_
      obtain ⟨k15, hp⟩ := ck_i hp
      refine r_lald hx hb hK hR k15.1 k15.2 dL_law_277 ?_
      refine lv_iload hx hb dL_law_278 (zl_at hl 0 rfl) ?_
      refine lv_i2l (v := (r8).toInt64) hx hb dL_law_280 rfl ?_
      refine W.lcmp hx hb dL_law_281 ?_
      refine lv_if_eq (tgt := 287) hx hb dL_law_282 (by decide) (fun c17 => ?_) (fun c17 => ?_)
      · replace hp := ite_p hp c17
        exact s_L_law_287 hfl hX hbB hz0 hz1 hz2 C hk23 hR hL (zl_sub hl [2, 3, 4, 5, 6] rfl) hp
      · replace hp := ite_n hp c17
        refine lv_iconst (v := iI 0) hx hb dL_law_285 rfl ?_
        exact law_no hp
  · replace hp := ite_n hp c13
    refine lv_iconst (v := iI 0) hx hb dL_law_268 rfl ?_
    exact law_no hp
def p_L_law_367 (xs : Nat → Int32) (L : Nat) (k23 : Nat → Nat → Nat → Int32 → AH → Option (Int32 × AH)) (v1 : Nat) (v2 : Nat) (v3 : Nat) (v4 : Int32) (h : AH) : Option (Int32 × AH) :=
  p_L_law_1463 xs L k23 v1 v2 v3 v4 h
set_option maxHeartbeats 4000000 in
set_option maxRecDepth 100000 in
theorem s_L_law_367 {p : Program} {l : Launch} {e : Env} {s : State} {m : MethodId} {b L : Nat} {xs : Nat → Int32} {nm : String} {below : List Frame} {meth : Method} {c : Code} {G : GG} {hs : AH}  {h' : AH} (hfl : l.stackTraces = false) (hX : va_X b L xs s (gH G)) (hbB : b < gB G) (hz0 : s.heap.size = gB G) (hz1 : gC G - aZ hs = 601024) (hz2 : aU hs = 0) (C : Cx G hs p s m #[Value.ref b] meth c cL_law 7 RL lw_tbl (some .boolean) nm) {k23 : Nat → Nat → Nat → Int32 → AH → Option (Int32 × AH)} (hk23 : ∀ {v1 : Nat} {v2 : Nat} {v3 : Nat} {v4 : Int32} {h : AH} {H : Heap} {locs : List Loc} {cells slots : Nat} {ls : Array Slot}, Rp G h H → (∀ q ∈ locs, gB G ≤ q.base) → zl ls 7 [(1, zr v1), (2, zr v2), (3, zr v3), (4, .int v4), (0, .ref b)] → k23 v1 v2 v3 v4 h = some (iI 1, h') → W p l e (gR G hs 16 612) s m #[Value.ref b] below meth c H locs cells slots (lw_Z below #[Value.ref b] s) (F0 m 23 ls [])) {v1 : Nat} {v2 : Nat} {v3 : Nat} {v4 : Int32} {h : AH} {H : Heap} {locs : List Loc} {cells slots : Nat} {ls : Array Slot} (hR : Rp G h H) (hL : ∀ q ∈ locs, gB G ≤ q.base) (hl : zl ls 7 [(1, zr v1), (2, zr v2), (3, zr v3), (4, .int v4), (0, .ref b)]) (hp : p_L_law_367 xs L k23 v1 v2 v3 v4 h = some (iI 1, h')) : W p l e (gR G hs 16 612) s m #[Value.ref b] below meth c H locs cells slots (lw_Z below #[Value.ref b] s) (F0 m 367 ls []) := by
  obtain ⟨hx, hb, hml, hown, hts, hT, hK, rs, hlk, hret, hnm⟩ := id C
  have hm : ∀ w ∈ MW, w.before #[Value.ref b] s = true := fun w hw => hts w (hT w hw)
  unfold p_L_law_367 at hp
  refine lv_goto (tgt := 1463) hx hb dL_law_367 (by decide) ?_
  exact s_L_law_1463 hfl hX hbB hz0 hz1 hz2 C hk23 hR hL (zl_sub hl [0, 1, 2, 3, 4] rfl) hp
def p_L_law_290 (xs : Nat → Int32) (L : Nat) (k23 : Nat → Nat → Nat → Int32 → AH → Option (Int32 × AH)) (v1 : Nat) (v2 : Nat) (v3 : Nat) (v4 : Int32) (h : AH) : Option (Int32 × AH) :=
  ck (ix (v4 + (iI 1)) L) <|
  ck (ix (v4 + (iI 2)) L) <|
  ck (ix (v4 + (iI 3)) L) <|
  bR (p_L_moveTo v1 (xs (v4 + (iI 1)).toNatClampNeg) (xs (v4 + (iI 2)).toNatClampNeg) (xs (v4 + (iI 3)).toNatClampNeg) v3 h) fun r4 h5 =>
  ck (ix (v4 + (iI 1)) L) <|
  ck (ix (v4 + (iI 2)) L) <|
  ck (ix (v4 + (iI 3)) L) <|
  ck (aK h5 v2 = 13) <|
  bR (p_X11_moveTo v2 (xs (v4 + (iI 1)).toNatClampNeg) (xs (v4 + (iI 2)).toNatClampNeg) (xs (v4 + (iI 3)).toNatClampNeg) h5) fun r10 h11 =>
  ck (aK h11 v2 = 13) <|
  bR (p_X11_thrown v2 h11) fun r13 h14 =>
  if r13 = r4 then
    if r4 = 0 then
      ck (aK h14 v3 = 23 ∧ ix (iI 0) (aN h14 v3)) <|
      if (lg_cmp (aL h14 v3 (iI 0).toNatClampNeg) ((r10).toInt64)) = 0 then
        p_L_law_367 xs L k23 v1 v2 v3 v4 h14
      else
        some ((iI 0), h14)
    else
      p_L_law_367 xs L k23 v1 v2 v3 v4 h14
  else
    some ((iI 0), h14)
set_option maxHeartbeats 4000000 in
set_option maxRecDepth 100000 in
theorem s_L_law_290 {p : Program} {l : Launch} {e : Env} {s : State} {m : MethodId} {b L : Nat} {xs : Nat → Int32} {nm : String} {below : List Frame} {meth : Method} {c : Code} {G : GG} {hs : AH}  {h' : AH} (hfl : l.stackTraces = false) (hX : va_X b L xs s (gH G)) (hbB : b < gB G) (hz0 : s.heap.size = gB G) (hz1 : gC G - aZ hs = 601024) (hz2 : aU hs = 0) (C : Cx G hs p s m #[Value.ref b] meth c cL_law 7 RL lw_tbl (some .boolean) nm) {k23 : Nat → Nat → Nat → Int32 → AH → Option (Int32 × AH)} (hk23 : ∀ {v1 : Nat} {v2 : Nat} {v3 : Nat} {v4 : Int32} {h : AH} {H : Heap} {locs : List Loc} {cells slots : Nat} {ls : Array Slot}, Rp G h H → (∀ q ∈ locs, gB G ≤ q.base) → zl ls 7 [(1, zr v1), (2, zr v2), (3, zr v3), (4, .int v4), (0, .ref b)] → k23 v1 v2 v3 v4 h = some (iI 1, h') → W p l e (gR G hs 16 612) s m #[Value.ref b] below meth c H locs cells slots (lw_Z below #[Value.ref b] s) (F0 m 23 ls [])) {v1 : Nat} {v2 : Nat} {v3 : Nat} {v4 : Int32} {h : AH} {H : Heap} {locs : List Loc} {cells slots : Nat} {ls : Array Slot} (hR : Rp G h H) (hL : ∀ q ∈ locs, gB G ≤ q.base) (hl : zl ls 7 [(1, zr v1), (2, zr v2), (3, zr v3), (4, .int v4), (0, .ref b)]) (hp : p_L_law_290 xs L k23 v1 v2 v3 v4 h = some (iI 1, h')) : W p l e (gR G hs 16 612) s m #[Value.ref b] below meth c H locs cells slots (lw_Z below #[Value.ref b] s) (F0 m 290 ls []) := by
  obtain ⟨hx, hb, hml, hown, hts, hT, hK, rs, hlk, hret, hnm⟩ := id C
  have hm : ∀ w ∈ MW, w.before #[Value.ref b] s = true := fun w hw => hts w (hT w hw)
  unfold p_L_law_290 at hp
  refine z_aload_n hx hb dL_law_290 rfl (zl_at hl 0 rfl) ?_
  refine lv_aload_n hx hb dL_law_291 rfl (zl_at hl 4 rfl) ?_
  refine lv_iload hx hb dL_law_292 (zl_at hl 3 rfl) ?_
  refine lv_iconst (v := iI 1) hx hb dL_law_294 rfl ?_
  refine lv_iadd hx hb dL_law_295 ?_
  obtain ⟨k1, hp⟩ := ck_i hp
  refine r_sld hx hb hX hbB hR k1 dL_law_296 ?_
  refine lv_aload_n hx hb dL_law_297 rfl (zl_at hl 4 rfl) ?_
  refine lv_iload hx hb dL_law_298 (zl_at hl 3 rfl) ?_
  refine lv_iconst (v := iI 2) hx hb dL_law_300 rfl ?_
  refine lv_iadd hx hb dL_law_301 ?_
  obtain ⟨k2, hp⟩ := ck_i hp
  refine r_sld hx hb hX hbB hR k2 dL_law_302 ?_
  refine lv_aload_n hx hb dL_law_303 rfl (zl_at hl 4 rfl) ?_
  refine lv_iload hx hb dL_law_304 (zl_at hl 3 rfl) ?_
  refine lv_iconst (v := iI 3) hx hb dL_law_306 rfl ?_
  refine lv_iadd hx hb dL_law_307 ?_
  obtain ⟨k3, hp⟩ := ck_i hp
  refine r_sld hx hb hX hbB hR k3 dL_law_308 ?_
  refine z_aload_n hx hb dL_law_309 rfl (zl_at hl 2 rfl) ?_
  obtain ⟨r4, h5, er4, hp⟩ := bR_i hp
  refine r_callSH (n := 5) (As := [zr v1, .int (xs (v4 + (iI 1)).toNatClampNeg), .int (xs (v4 + (iI 2)).toNatClampNeg), .int (xs (v4 + (iI 3)).toNatClampNeg), zr v3]) (rest := []) C (c_L_moveTo l hfl G v1 (xs (v4 + (iI 1)).toNatClampNeg) (xs (v4 + (iI 2)).toNatClampNeg) (xs (v4 + (iI 3)).toNatClampNeg) v3 h r4 h5 er4) hR hL mw_607 mw_608 mw_0 mw_609 (by decide +kernel) (by decide) rfl (zl_size hl) rfl (by simp [zr_cat, in_cat]) dL_law_310 (st2 := [.int r4]) rfl (fun H locs cells slots hR hL => ?_)
  refine z_istore (lv' := [(5, .int r4), (1, zr v1), (2, zr v2), (3, zr v3), (4, .int v4), (0, .ref b)]) hx hb dL_law_313 hl (by decide) rfl (fun ls hl => ?_)
  refine z_aload_n hx hb dL_law_315 rfl (zl_at hl 2 rfl) ?_
  refine lv_aload_n hx hb dL_law_316 rfl (zl_at hl 5 rfl) ?_
  refine lv_iload hx hb dL_law_317 (zl_at hl 4 rfl) ?_
  refine lv_iconst (v := iI 1) hx hb dL_law_319 rfl ?_
  refine lv_iadd hx hb dL_law_320 ?_
  obtain ⟨k6, hp⟩ := ck_i hp
  refine r_sld hx hb hX hbB hR k6 dL_law_321 ?_
  refine lv_aload_n hx hb dL_law_322 rfl (zl_at hl 5 rfl) ?_
  refine lv_iload hx hb dL_law_323 (zl_at hl 4 rfl) ?_
  refine lv_iconst (v := iI 2) hx hb dL_law_325 rfl ?_
  refine lv_iadd hx hb dL_law_326 ?_
  obtain ⟨k7, hp⟩ := ck_i hp
  refine r_sld hx hb hX hbB hR k7 dL_law_327 ?_
  refine lv_aload_n hx hb dL_law_328 rfl (zl_at hl 5 rfl) ?_
  refine lv_iload hx hb dL_law_329 (zl_at hl 4 rfl) ?_
  refine lv_iconst (v := iI 3) hx hb dL_law_331 rfl ?_
  refine lv_iadd hx hb dL_law_332 ?_
  obtain ⟨k8, hp⟩ := ck_i hp
  refine r_sld hx hb hX hbB hR k8 dL_law_333 ?_
  obtain ⟨k9, hp⟩ := ck_i hp
  obtain ⟨r10, h11, er10, hp⟩ := bR_i hp
  refine r_callV (ci := 12) (r := (RX11, TX11, 32)) (n := 3) (As := [.int (xs (v4 + (iI 1)).toNatClampNeg), .int (xs (v4 + (iI 2)).toNatClampNeg), .int (xs (v4 + (iI 3)).toNatClampNeg)]) (rest := []) C (c_X11_moveTo l G v2 (xs (v4 + (iI 1)).toNatClampNeg) (xs (v4 + (iI 2)).toNatClampNeg) (xs (v4 + (iI 3)).toNatClampNeg) h5 r10 h11 er10) hR hL rfl k9 mw_1124 mw_1125 mw_1126 mw_10 mw_1127 (by decide +kernel) (by decide) rfl (zl_size hl) rfl (by simp [zr_cat, in_cat]) dL_law_334 (st2 := [.int r10]) rfl (fun H locs cells slots hR hL => ?_)
  refine z_istore (lv' := [(6, .int r10), (5, .int r4), (1, zr v1), (2, zr v2), (3, zr v3), (4, .int v4), (0, .ref b)]) hx hb dL_law_337 hl (by decide) rfl (fun ls hl => ?_)
  refine z_aload_n hx hb dL_law_339 rfl (zl_at hl 3 rfl) ?_
  obtain ⟨k12, hp⟩ := ck_i hp
  obtain ⟨r13, h14, er13, hp⟩ := bR_i hp
  refine r_callV (ci := 12) (r := (RX11, TX11, 32)) (n := 0) (As := []) (rest := []) C (c_X11_thrown l G v2 h11 r13 h14 er13) hR hL rfl k12 mw_1079 mw_1080 mw_1081 mw_10 mw_1082 (by decide +kernel) (by decide) rfl (zl_size hl) rfl (by simp [zr_cat, in_cat]) dL_law_340 (st2 := [.int r13]) rfl (fun H locs cells slots hR hL => ?_)
  refine lv_iload hx hb dL_law_343 (zl_at hl 1 rfl) ?_
  refine lv_icmp_eq (tgt := 350) hx hb dL_law_345 (by decide) (fun c15 => ?_) (fun c15 => ?_)
  · replace hp := ite_p hp c15
    refine lv_iload hx hb dL_law_350 (zl_at hl 1 rfl) ?_
    refine lv_if_ne (tgt := 367) hx hb dL_law_352 (by decide) (fun c16 => ?_) (fun c16 => ?_)
    · replace hp := ite_n hp c16
      exact s_L_law_367 hfl hX hbB hz0 hz1 hz2 C hk23 hR hL (zl_sub hl [2, 3, 4, 5, 6] rfl) hp
    · replace hp := ite_p hp c16
      refine z_aload_n hx hb dL_law_355 rfl (zl_at hl 4 rfl) ?_
      refine lv_iconst (v := iI 0) hx hb dL_law_356 rfl ?_
      obtain ⟨k17, hp⟩ := ck_i hp
      refine r_lald hx hb hK hR k17.1 k17.2 dL_law_357 ?_
      refine lv_iload hx hb dL_law_358 (zl_at hl 0 rfl) ?_
      refine lv_i2l (v := (r10).toInt64) hx hb dL_law_360 rfl ?_
      refine W.lcmp hx hb dL_law_361 ?_
      refine lv_if_eq (tgt := 367) hx hb dL_law_362 (by decide) (fun c19 => ?_) (fun c19 => ?_)
      · replace hp := ite_p hp c19
        exact s_L_law_367 hfl hX hbB hz0 hz1 hz2 C hk23 hR hL (zl_sub hl [2, 3, 4, 5, 6] rfl) hp
      · replace hp := ite_n hp c19
        refine lv_iconst (v := iI 0) hx hb dL_law_365 rfl ?_
        exact law_no hp
  · replace hp := ite_n hp c15
    refine lv_iconst (v := iI 0) hx hb dL_law_348 rfl ?_
    exact law_no hp
def p_L_law_423 (xs : Nat → Int32) (L : Nat) (k23 : Nat → Nat → Nat → Int32 → AH → Option (Int32 × AH)) (v1 : Nat) (v2 : Nat) (v3 : Nat) (v4 : Int32) (h : AH) : Option (Int32 × AH) :=
  p_L_law_1463 xs L k23 v1 v2 v3 v4 h
set_option maxHeartbeats 4000000 in
set_option maxRecDepth 100000 in
theorem s_L_law_423 {p : Program} {l : Launch} {e : Env} {s : State} {m : MethodId} {b L : Nat} {xs : Nat → Int32} {nm : String} {below : List Frame} {meth : Method} {c : Code} {G : GG} {hs : AH}  {h' : AH} (hfl : l.stackTraces = false) (hX : va_X b L xs s (gH G)) (hbB : b < gB G) (hz0 : s.heap.size = gB G) (hz1 : gC G - aZ hs = 601024) (hz2 : aU hs = 0) (C : Cx G hs p s m #[Value.ref b] meth c cL_law 7 RL lw_tbl (some .boolean) nm) {k23 : Nat → Nat → Nat → Int32 → AH → Option (Int32 × AH)} (hk23 : ∀ {v1 : Nat} {v2 : Nat} {v3 : Nat} {v4 : Int32} {h : AH} {H : Heap} {locs : List Loc} {cells slots : Nat} {ls : Array Slot}, Rp G h H → (∀ q ∈ locs, gB G ≤ q.base) → zl ls 7 [(1, zr v1), (2, zr v2), (3, zr v3), (4, .int v4), (0, .ref b)] → k23 v1 v2 v3 v4 h = some (iI 1, h') → W p l e (gR G hs 16 612) s m #[Value.ref b] below meth c H locs cells slots (lw_Z below #[Value.ref b] s) (F0 m 23 ls [])) {v1 : Nat} {v2 : Nat} {v3 : Nat} {v4 : Int32} {h : AH} {H : Heap} {locs : List Loc} {cells slots : Nat} {ls : Array Slot} (hR : Rp G h H) (hL : ∀ q ∈ locs, gB G ≤ q.base) (hl : zl ls 7 [(1, zr v1), (2, zr v2), (3, zr v3), (4, .int v4), (0, .ref b)]) (hp : p_L_law_423 xs L k23 v1 v2 v3 v4 h = some (iI 1, h')) : W p l e (gR G hs 16 612) s m #[Value.ref b] below meth c H locs cells slots (lw_Z below #[Value.ref b] s) (F0 m 423 ls []) := by
  obtain ⟨hx, hb, hml, hown, hts, hT, hK, rs, hlk, hret, hnm⟩ := id C
  have hm : ∀ w ∈ MW, w.before #[Value.ref b] s = true := fun w hw => hts w (hT w hw)
  unfold p_L_law_423 at hp
  refine lv_goto (tgt := 1463) hx hb dL_law_423 (by decide) ?_
  exact s_L_law_1463 hfl hX hbB hz0 hz1 hz2 C hk23 hR hL (zl_sub hl [0, 1, 2, 3, 4] rfl) hp
def p_L_law_370 (xs : Nat → Int32) (L : Nat) (k23 : Nat → Nat → Nat → Int32 → AH → Option (Int32 × AH)) (v1 : Nat) (v2 : Nat) (v3 : Nat) (v4 : Int32) (h : AH) : Option (Int32 × AH) :=
  ck (ix (v4 + (iI 1)) L) <|
  bR (p_L_undo v1 (xs (v4 + (iI 1)).toNatClampNeg) v3 h) fun r2 h3 =>
  ck (ix (v4 + (iI 1)) L) <|
  ck (aK h3 v2 = 13) <|
  bR (p_X11_undo v2 (xs (v4 + (iI 1)).toNatClampNeg) h3) fun r6 h7 =>
  ck (aK h7 v2 = 13) <|
  bR (p_X11_thrown v2 h7) fun r9 h10 =>
  if r9 = r2 then
    if r2 = 0 then
      ck (aK h10 v3 = 23 ∧ ix (iI 0) (aN h10 v3)) <|
      if (lg_cmp (aL h10 v3 (iI 0).toNatClampNeg) ((r6).toInt64)) = 0 then
        p_L_law_423 xs L k23 v1 v2 v3 v4 h10
      else
        some ((iI 0), h10)
    else
      p_L_law_423 xs L k23 v1 v2 v3 v4 h10
  else
    some ((iI 0), h10)
set_option maxHeartbeats 4000000 in
set_option maxRecDepth 100000 in
theorem s_L_law_370 {p : Program} {l : Launch} {e : Env} {s : State} {m : MethodId} {b L : Nat} {xs : Nat → Int32} {nm : String} {below : List Frame} {meth : Method} {c : Code} {G : GG} {hs : AH}  {h' : AH} (hfl : l.stackTraces = false) (hX : va_X b L xs s (gH G)) (hbB : b < gB G) (hz0 : s.heap.size = gB G) (hz1 : gC G - aZ hs = 601024) (hz2 : aU hs = 0) (C : Cx G hs p s m #[Value.ref b] meth c cL_law 7 RL lw_tbl (some .boolean) nm) {k23 : Nat → Nat → Nat → Int32 → AH → Option (Int32 × AH)} (hk23 : ∀ {v1 : Nat} {v2 : Nat} {v3 : Nat} {v4 : Int32} {h : AH} {H : Heap} {locs : List Loc} {cells slots : Nat} {ls : Array Slot}, Rp G h H → (∀ q ∈ locs, gB G ≤ q.base) → zl ls 7 [(1, zr v1), (2, zr v2), (3, zr v3), (4, .int v4), (0, .ref b)] → k23 v1 v2 v3 v4 h = some (iI 1, h') → W p l e (gR G hs 16 612) s m #[Value.ref b] below meth c H locs cells slots (lw_Z below #[Value.ref b] s) (F0 m 23 ls [])) {v1 : Nat} {v2 : Nat} {v3 : Nat} {v4 : Int32} {h : AH} {H : Heap} {locs : List Loc} {cells slots : Nat} {ls : Array Slot} (hR : Rp G h H) (hL : ∀ q ∈ locs, gB G ≤ q.base) (hl : zl ls 7 [(1, zr v1), (2, zr v2), (3, zr v3), (4, .int v4), (0, .ref b)]) (hp : p_L_law_370 xs L k23 v1 v2 v3 v4 h = some (iI 1, h')) : W p l e (gR G hs 16 612) s m #[Value.ref b] below meth c H locs cells slots (lw_Z below #[Value.ref b] s) (F0 m 370 ls []) := by
  obtain ⟨hx, hb, hml, hown, hts, hT, hK, rs, hlk, hret, hnm⟩ := id C
  have hm : ∀ w ∈ MW, w.before #[Value.ref b] s = true := fun w hw => hts w (hT w hw)
  unfold p_L_law_370 at hp
  refine z_aload_n hx hb dL_law_370 rfl (zl_at hl 0 rfl) ?_
  refine lv_aload_n hx hb dL_law_371 rfl (zl_at hl 4 rfl) ?_
  refine lv_iload hx hb dL_law_372 (zl_at hl 3 rfl) ?_
  refine lv_iconst (v := iI 1) hx hb dL_law_374 rfl ?_
  refine lv_iadd hx hb dL_law_375 ?_
  obtain ⟨k1, hp⟩ := ck_i hp
  refine r_sld hx hb hX hbB hR k1 dL_law_376 ?_
  refine z_aload_n hx hb dL_law_377 rfl (zl_at hl 2 rfl) ?_
  obtain ⟨r2, h3, er2, hp⟩ := bR_i hp
  refine r_callSH (n := 3) (As := [zr v1, .int (xs (v4 + (iI 1)).toNatClampNeg), zr v3]) (rest := []) C (c_L_undo l hfl G v1 (xs (v4 + (iI 1)).toNatClampNeg) v3 h r2 h3 er2) hR hL mw_628 mw_629 mw_0 mw_630 (by decide +kernel) (by decide) rfl (zl_size hl) rfl (by simp [zr_cat, in_cat]) dL_law_378 (st2 := [.int r2]) rfl (fun H locs cells slots hR hL => ?_)
  refine z_istore (lv' := [(5, .int r2), (1, zr v1), (2, zr v2), (3, zr v3), (4, .int v4), (0, .ref b)]) hx hb dL_law_381 hl (by decide) rfl (fun ls hl => ?_)
  refine z_aload_n hx hb dL_law_383 rfl (zl_at hl 2 rfl) ?_
  refine lv_aload_n hx hb dL_law_384 rfl (zl_at hl 5 rfl) ?_
  refine lv_iload hx hb dL_law_385 (zl_at hl 4 rfl) ?_
  refine lv_iconst (v := iI 1) hx hb dL_law_387 rfl ?_
  refine lv_iadd hx hb dL_law_388 ?_
  obtain ⟨k4, hp⟩ := ck_i hp
  refine r_sld hx hb hX hbB hR k4 dL_law_389 ?_
  obtain ⟨k5, hp⟩ := ck_i hp
  obtain ⟨r6, h7, er6, hp⟩ := bR_i hp
  refine r_callV (ci := 12) (r := (RX11, TX11, 32)) (n := 1) (As := [.int (xs (v4 + (iI 1)).toNatClampNeg)]) (rest := []) C (c_X11_undo l G v2 (xs (v4 + (iI 1)).toNatClampNeg) h3 r6 h7 er6) hR hL rfl k5 mw_1128 mw_1129 mw_1130 mw_10 mw_1131 (by decide +kernel) (by decide) rfl (zl_size hl) rfl (by simp [zr_cat, in_cat]) dL_law_390 (st2 := [.int r6]) rfl (fun H locs cells slots hR hL => ?_)
  refine z_istore (lv' := [(6, .int r6), (5, .int r2), (1, zr v1), (2, zr v2), (3, zr v3), (4, .int v4), (0, .ref b)]) hx hb dL_law_393 hl (by decide) rfl (fun ls hl => ?_)
  refine z_aload_n hx hb dL_law_395 rfl (zl_at hl 3 rfl) ?_
  obtain ⟨k8, hp⟩ := ck_i hp
  obtain ⟨r9, h10, er9, hp⟩ := bR_i hp
  refine r_callV (ci := 12) (r := (RX11, TX11, 32)) (n := 0) (As := []) (rest := []) C (c_X11_thrown l G v2 h7 r9 h10 er9) hR hL rfl k8 mw_1079 mw_1080 mw_1081 mw_10 mw_1082 (by decide +kernel) (by decide) rfl (zl_size hl) rfl (by simp [zr_cat, in_cat]) dL_law_396 (st2 := [.int r9]) rfl (fun H locs cells slots hR hL => ?_)
  refine lv_iload hx hb dL_law_399 (zl_at hl 1 rfl) ?_
  refine lv_icmp_eq (tgt := 406) hx hb dL_law_401 (by decide) (fun c11 => ?_) (fun c11 => ?_)
  · replace hp := ite_p hp c11
    refine lv_iload hx hb dL_law_406 (zl_at hl 1 rfl) ?_
    refine lv_if_ne (tgt := 423) hx hb dL_law_408 (by decide) (fun c12 => ?_) (fun c12 => ?_)
    · replace hp := ite_n hp c12
      exact s_L_law_423 hfl hX hbB hz0 hz1 hz2 C hk23 hR hL (zl_sub hl [2, 3, 4, 5, 6] rfl) hp
    · replace hp := ite_p hp c12
      refine z_aload_n hx hb dL_law_411 rfl (zl_at hl 4 rfl) ?_
      refine lv_iconst (v := iI 0) hx hb dL_law_412 rfl ?_
      obtain ⟨k13, hp⟩ := ck_i hp
      refine r_lald hx hb hK hR k13.1 k13.2 dL_law_413 ?_
      refine lv_iload hx hb dL_law_414 (zl_at hl 0 rfl) ?_
      refine lv_i2l (v := (r6).toInt64) hx hb dL_law_416 rfl ?_
      refine W.lcmp hx hb dL_law_417 ?_
      refine lv_if_eq (tgt := 423) hx hb dL_law_418 (by decide) (fun c15 => ?_) (fun c15 => ?_)
      · replace hp := ite_p hp c15
        exact s_L_law_423 hfl hX hbB hz0 hz1 hz2 C hk23 hR hL (zl_sub hl [2, 3, 4, 5, 6] rfl) hp
      · replace hp := ite_n hp c15
        refine lv_iconst (v := iI 0) hx hb dL_law_421 rfl ?_
        exact law_no hp
  · replace hp := ite_n hp c11
    refine lv_iconst (v := iI 0) hx hb dL_law_404 rfl ?_
    exact law_no hp
def p_L_law_479 (xs : Nat → Int32) (L : Nat) (k23 : Nat → Nat → Nat → Int32 → AH → Option (Int32 × AH)) (v1 : Nat) (v2 : Nat) (v3 : Nat) (v4 : Int32) (h : AH) : Option (Int32 × AH) :=
  p_L_law_1463 xs L k23 v1 v2 v3 v4 h
set_option maxHeartbeats 4000000 in
set_option maxRecDepth 100000 in
theorem s_L_law_479 {p : Program} {l : Launch} {e : Env} {s : State} {m : MethodId} {b L : Nat} {xs : Nat → Int32} {nm : String} {below : List Frame} {meth : Method} {c : Code} {G : GG} {hs : AH}  {h' : AH} (hfl : l.stackTraces = false) (hX : va_X b L xs s (gH G)) (hbB : b < gB G) (hz0 : s.heap.size = gB G) (hz1 : gC G - aZ hs = 601024) (hz2 : aU hs = 0) (C : Cx G hs p s m #[Value.ref b] meth c cL_law 7 RL lw_tbl (some .boolean) nm) {k23 : Nat → Nat → Nat → Int32 → AH → Option (Int32 × AH)} (hk23 : ∀ {v1 : Nat} {v2 : Nat} {v3 : Nat} {v4 : Int32} {h : AH} {H : Heap} {locs : List Loc} {cells slots : Nat} {ls : Array Slot}, Rp G h H → (∀ q ∈ locs, gB G ≤ q.base) → zl ls 7 [(1, zr v1), (2, zr v2), (3, zr v3), (4, .int v4), (0, .ref b)] → k23 v1 v2 v3 v4 h = some (iI 1, h') → W p l e (gR G hs 16 612) s m #[Value.ref b] below meth c H locs cells slots (lw_Z below #[Value.ref b] s) (F0 m 23 ls [])) {v1 : Nat} {v2 : Nat} {v3 : Nat} {v4 : Int32} {h : AH} {H : Heap} {locs : List Loc} {cells slots : Nat} {ls : Array Slot} (hR : Rp G h H) (hL : ∀ q ∈ locs, gB G ≤ q.base) (hl : zl ls 7 [(1, zr v1), (2, zr v2), (3, zr v3), (4, .int v4), (0, .ref b)]) (hp : p_L_law_479 xs L k23 v1 v2 v3 v4 h = some (iI 1, h')) : W p l e (gR G hs 16 612) s m #[Value.ref b] below meth c H locs cells slots (lw_Z below #[Value.ref b] s) (F0 m 479 ls []) := by
  obtain ⟨hx, hb, hml, hown, hts, hT, hK, rs, hlk, hret, hnm⟩ := id C
  have hm : ∀ w ∈ MW, w.before #[Value.ref b] s = true := fun w hw => hts w (hT w hw)
  unfold p_L_law_479 at hp
  refine lv_goto (tgt := 1463) hx hb dL_law_479 (by decide) ?_
  exact s_L_law_1463 hfl hX hbB hz0 hz1 hz2 C hk23 hR hL (zl_sub hl [0, 1, 2, 3, 4] rfl) hp
def p_L_law_426 (xs : Nat → Int32) (L : Nat) (k23 : Nat → Nat → Nat → Int32 → AH → Option (Int32 × AH)) (v1 : Nat) (v2 : Nat) (v3 : Nat) (v4 : Int32) (h : AH) : Option (Int32 × AH) :=
  ck (ix (v4 + (iI 1)) L) <|
  bR (p_L_redo v1 (xs (v4 + (iI 1)).toNatClampNeg) v3 h) fun r2 h3 =>
  ck (ix (v4 + (iI 1)) L) <|
  ck (aK h3 v2 = 13) <|
  bR (p_X11_redo v2 (xs (v4 + (iI 1)).toNatClampNeg) h3) fun r6 h7 =>
  ck (aK h7 v2 = 13) <|
  bR (p_X11_thrown v2 h7) fun r9 h10 =>
  if r9 = r2 then
    if r2 = 0 then
      ck (aK h10 v3 = 23 ∧ ix (iI 0) (aN h10 v3)) <|
      if (lg_cmp (aL h10 v3 (iI 0).toNatClampNeg) ((r6).toInt64)) = 0 then
        p_L_law_479 xs L k23 v1 v2 v3 v4 h10
      else
        some ((iI 0), h10)
    else
      p_L_law_479 xs L k23 v1 v2 v3 v4 h10
  else
    some ((iI 0), h10)
set_option maxHeartbeats 4000000 in
set_option maxRecDepth 100000 in
theorem s_L_law_426 {p : Program} {l : Launch} {e : Env} {s : State} {m : MethodId} {b L : Nat} {xs : Nat → Int32} {nm : String} {below : List Frame} {meth : Method} {c : Code} {G : GG} {hs : AH}  {h' : AH} (hfl : l.stackTraces = false) (hX : va_X b L xs s (gH G)) (hbB : b < gB G) (hz0 : s.heap.size = gB G) (hz1 : gC G - aZ hs = 601024) (hz2 : aU hs = 0) (C : Cx G hs p s m #[Value.ref b] meth c cL_law 7 RL lw_tbl (some .boolean) nm) {k23 : Nat → Nat → Nat → Int32 → AH → Option (Int32 × AH)} (hk23 : ∀ {v1 : Nat} {v2 : Nat} {v3 : Nat} {v4 : Int32} {h : AH} {H : Heap} {locs : List Loc} {cells slots : Nat} {ls : Array Slot}, Rp G h H → (∀ q ∈ locs, gB G ≤ q.base) → zl ls 7 [(1, zr v1), (2, zr v2), (3, zr v3), (4, .int v4), (0, .ref b)] → k23 v1 v2 v3 v4 h = some (iI 1, h') → W p l e (gR G hs 16 612) s m #[Value.ref b] below meth c H locs cells slots (lw_Z below #[Value.ref b] s) (F0 m 23 ls [])) {v1 : Nat} {v2 : Nat} {v3 : Nat} {v4 : Int32} {h : AH} {H : Heap} {locs : List Loc} {cells slots : Nat} {ls : Array Slot} (hR : Rp G h H) (hL : ∀ q ∈ locs, gB G ≤ q.base) (hl : zl ls 7 [(1, zr v1), (2, zr v2), (3, zr v3), (4, .int v4), (0, .ref b)]) (hp : p_L_law_426 xs L k23 v1 v2 v3 v4 h = some (iI 1, h')) : W p l e (gR G hs 16 612) s m #[Value.ref b] below meth c H locs cells slots (lw_Z below #[Value.ref b] s) (F0 m 426 ls []) := by
  obtain ⟨hx, hb, hml, hown, hts, hT, hK, rs, hlk, hret, hnm⟩ := id C
  have hm : ∀ w ∈ MW, w.before #[Value.ref b] s = true := fun w hw => hts w (hT w hw)
  unfold p_L_law_426 at hp
  refine z_aload_n hx hb dL_law_426 rfl (zl_at hl 0 rfl) ?_
  refine lv_aload_n hx hb dL_law_427 rfl (zl_at hl 4 rfl) ?_
  refine lv_iload hx hb dL_law_428 (zl_at hl 3 rfl) ?_
  refine lv_iconst (v := iI 1) hx hb dL_law_430 rfl ?_
  refine lv_iadd hx hb dL_law_431 ?_
  obtain ⟨k1, hp⟩ := ck_i hp
  refine r_sld hx hb hX hbB hR k1 dL_law_432 ?_
  refine z_aload_n hx hb dL_law_433 rfl (zl_at hl 2 rfl) ?_
  obtain ⟨r2, h3, er2, hp⟩ := bR_i hp
  refine r_callSH (n := 3) (As := [zr v1, .int (xs (v4 + (iI 1)).toNatClampNeg), zr v3]) (rest := []) C (c_L_redo l hfl G v1 (xs (v4 + (iI 1)).toNatClampNeg) v3 h r2 h3 er2) hR hL mw_643 mw_644 mw_0 mw_645 (by decide +kernel) (by decide) rfl (zl_size hl) rfl (by simp [zr_cat, in_cat]) dL_law_434 (st2 := [.int r2]) rfl (fun H locs cells slots hR hL => ?_)
  refine z_istore (lv' := [(5, .int r2), (1, zr v1), (2, zr v2), (3, zr v3), (4, .int v4), (0, .ref b)]) hx hb dL_law_437 hl (by decide) rfl (fun ls hl => ?_)
  refine z_aload_n hx hb dL_law_439 rfl (zl_at hl 2 rfl) ?_
  refine lv_aload_n hx hb dL_law_440 rfl (zl_at hl 5 rfl) ?_
  refine lv_iload hx hb dL_law_441 (zl_at hl 4 rfl) ?_
  refine lv_iconst (v := iI 1) hx hb dL_law_443 rfl ?_
  refine lv_iadd hx hb dL_law_444 ?_
  obtain ⟨k4, hp⟩ := ck_i hp
  refine r_sld hx hb hX hbB hR k4 dL_law_445 ?_
  obtain ⟨k5, hp⟩ := ck_i hp
  obtain ⟨r6, h7, er6, hp⟩ := bR_i hp
  refine r_callV (ci := 12) (r := (RX11, TX11, 32)) (n := 1) (As := [.int (xs (v4 + (iI 1)).toNatClampNeg)]) (rest := []) C (c_X11_redo l G v2 (xs (v4 + (iI 1)).toNatClampNeg) h3 r6 h7 er6) hR hL rfl k5 mw_1136 mw_1137 mw_1138 mw_10 mw_1139 (by decide +kernel) (by decide) rfl (zl_size hl) rfl (by simp [zr_cat, in_cat]) dL_law_446 (st2 := [.int r6]) rfl (fun H locs cells slots hR hL => ?_)
  refine z_istore (lv' := [(6, .int r6), (5, .int r2), (1, zr v1), (2, zr v2), (3, zr v3), (4, .int v4), (0, .ref b)]) hx hb dL_law_449 hl (by decide) rfl (fun ls hl => ?_)
  refine z_aload_n hx hb dL_law_451 rfl (zl_at hl 3 rfl) ?_
  obtain ⟨k8, hp⟩ := ck_i hp
  obtain ⟨r9, h10, er9, hp⟩ := bR_i hp
  refine r_callV (ci := 12) (r := (RX11, TX11, 32)) (n := 0) (As := []) (rest := []) C (c_X11_thrown l G v2 h7 r9 h10 er9) hR hL rfl k8 mw_1079 mw_1080 mw_1081 mw_10 mw_1082 (by decide +kernel) (by decide) rfl (zl_size hl) rfl (by simp [zr_cat, in_cat]) dL_law_452 (st2 := [.int r9]) rfl (fun H locs cells slots hR hL => ?_)
  refine lv_iload hx hb dL_law_455 (zl_at hl 1 rfl) ?_
  refine lv_icmp_eq (tgt := 462) hx hb dL_law_457 (by decide) (fun c11 => ?_) (fun c11 => ?_)
  · replace hp := ite_p hp c11
    refine lv_iload hx hb dL_law_462 (zl_at hl 1 rfl) ?_
    refine lv_if_ne (tgt := 479) hx hb dL_law_464 (by decide) (fun c12 => ?_) (fun c12 => ?_)
    · replace hp := ite_n hp c12
      exact s_L_law_479 hfl hX hbB hz0 hz1 hz2 C hk23 hR hL (zl_sub hl [2, 3, 4, 5, 6] rfl) hp
    · replace hp := ite_p hp c12
      refine z_aload_n hx hb dL_law_467 rfl (zl_at hl 4 rfl) ?_
      refine lv_iconst (v := iI 0) hx hb dL_law_468 rfl ?_
      obtain ⟨k13, hp⟩ := ck_i hp
      refine r_lald hx hb hK hR k13.1 k13.2 dL_law_469 ?_
      refine lv_iload hx hb dL_law_470 (zl_at hl 0 rfl) ?_
      refine lv_i2l (v := (r6).toInt64) hx hb dL_law_472 rfl ?_
      refine W.lcmp hx hb dL_law_473 ?_
      refine lv_if_eq (tgt := 479) hx hb dL_law_474 (by decide) (fun c15 => ?_) (fun c15 => ?_)
      · replace hp := ite_p hp c15
        exact s_L_law_479 hfl hX hbB hz0 hz1 hz2 C hk23 hR hL (zl_sub hl [2, 3, 4, 5, 6] rfl) hp
      · replace hp := ite_n hp c15
        refine lv_iconst (v := iI 0) hx hb dL_law_477 rfl ?_
        exact law_no hp
  · replace hp := ite_n hp c11
    refine lv_iconst (v := iI 0) hx hb dL_law_460 rfl ?_
    exact law_no hp
def p_L_law_547 (xs : Nat → Int32) (L : Nat) (k23 : Nat → Nat → Nat → Int32 → AH → Option (Int32 × AH)) (v1 : Nat) (v2 : Nat) (v3 : Nat) (v4 : Int32) (h : AH) : Option (Int32 × AH) :=
  p_L_law_1463 xs L k23 v1 v2 v3 v4 h
set_option maxHeartbeats 4000000 in
set_option maxRecDepth 100000 in
theorem s_L_law_547 {p : Program} {l : Launch} {e : Env} {s : State} {m : MethodId} {b L : Nat} {xs : Nat → Int32} {nm : String} {below : List Frame} {meth : Method} {c : Code} {G : GG} {hs : AH}  {h' : AH} (hfl : l.stackTraces = false) (hX : va_X b L xs s (gH G)) (hbB : b < gB G) (hz0 : s.heap.size = gB G) (hz1 : gC G - aZ hs = 601024) (hz2 : aU hs = 0) (C : Cx G hs p s m #[Value.ref b] meth c cL_law 7 RL lw_tbl (some .boolean) nm) {k23 : Nat → Nat → Nat → Int32 → AH → Option (Int32 × AH)} (hk23 : ∀ {v1 : Nat} {v2 : Nat} {v3 : Nat} {v4 : Int32} {h : AH} {H : Heap} {locs : List Loc} {cells slots : Nat} {ls : Array Slot}, Rp G h H → (∀ q ∈ locs, gB G ≤ q.base) → zl ls 7 [(1, zr v1), (2, zr v2), (3, zr v3), (4, .int v4), (0, .ref b)] → k23 v1 v2 v3 v4 h = some (iI 1, h') → W p l e (gR G hs 16 612) s m #[Value.ref b] below meth c H locs cells slots (lw_Z below #[Value.ref b] s) (F0 m 23 ls [])) {v1 : Nat} {v2 : Nat} {v3 : Nat} {v4 : Int32} {h : AH} {H : Heap} {locs : List Loc} {cells slots : Nat} {ls : Array Slot} (hR : Rp G h H) (hL : ∀ q ∈ locs, gB G ≤ q.base) (hl : zl ls 7 [(1, zr v1), (2, zr v2), (3, zr v3), (4, .int v4), (0, .ref b)]) (hp : p_L_law_547 xs L k23 v1 v2 v3 v4 h = some (iI 1, h')) : W p l e (gR G hs 16 612) s m #[Value.ref b] below meth c H locs cells slots (lw_Z below #[Value.ref b] s) (F0 m 547 ls []) := by
  obtain ⟨hx, hb, hml, hown, hts, hT, hK, rs, hlk, hret, hnm⟩ := id C
  have hm : ∀ w ∈ MW, w.before #[Value.ref b] s = true := fun w hw => hts w (hT w hw)
  unfold p_L_law_547 at hp
  refine lv_goto (tgt := 1463) hx hb dL_law_547 (by decide) ?_
  exact s_L_law_1463 hfl hX hbB hz0 hz1 hz2 C hk23 hR hL (zl_sub hl [0, 1, 2, 3, 4] rfl) hp
def p_L_law_482 (xs : Nat → Int32) (L : Nat) (k23 : Nat → Nat → Nat → Int32 → AH → Option (Int32 × AH)) (v1 : Nat) (v2 : Nat) (v3 : Nat) (v4 : Int32) (h : AH) : Option (Int32 × AH) :=
  ck (ix (v4 + (iI 1)) L) <|
  ck (ix (v4 + (iI 2)) L) <|
  bR (p_L_place v1 (xs (v4 + (iI 1)).toNatClampNeg) (xs (v4 + (iI 2)).toNatClampNeg) v3 h) fun r3 h4 =>
  ck (ix (v4 + (iI 1)) L) <|
  ck (ix (v4 + (iI 2)) L) <|
  ck (aK h4 v2 = 13) <|
  bR (p_X11_place v2 (xs (v4 + (iI 1)).toNatClampNeg) (xs (v4 + (iI 2)).toNatClampNeg) h4) fun r8 h9 =>
  ck (aK h9 v2 = 13) <|
  bR (p_X11_thrown v2 h9) fun r11 h12 =>
  if r11 = r3 then
    if r3 = 0 then
      ck (aK h12 v3 = 23 ∧ ix (iI 0) (aN h12 v3)) <|
      if (lg_cmp (aL h12 v3 (iI 0).toNatClampNeg) ((r8).toInt64)) = 0 then
        p_L_law_547 xs L k23 v1 v2 v3 v4 h12
      else
        some ((iI 0), h12)
    else
      p_L_law_547 xs L k23 v1 v2 v3 v4 h12
  else
    some ((iI 0), h12)
set_option maxHeartbeats 4000000 in
set_option maxRecDepth 100000 in
theorem s_L_law_482 {p : Program} {l : Launch} {e : Env} {s : State} {m : MethodId} {b L : Nat} {xs : Nat → Int32} {nm : String} {below : List Frame} {meth : Method} {c : Code} {G : GG} {hs : AH}  {h' : AH} (hfl : l.stackTraces = false) (hX : va_X b L xs s (gH G)) (hbB : b < gB G) (hz0 : s.heap.size = gB G) (hz1 : gC G - aZ hs = 601024) (hz2 : aU hs = 0) (C : Cx G hs p s m #[Value.ref b] meth c cL_law 7 RL lw_tbl (some .boolean) nm) {k23 : Nat → Nat → Nat → Int32 → AH → Option (Int32 × AH)} (hk23 : ∀ {v1 : Nat} {v2 : Nat} {v3 : Nat} {v4 : Int32} {h : AH} {H : Heap} {locs : List Loc} {cells slots : Nat} {ls : Array Slot}, Rp G h H → (∀ q ∈ locs, gB G ≤ q.base) → zl ls 7 [(1, zr v1), (2, zr v2), (3, zr v3), (4, .int v4), (0, .ref b)] → k23 v1 v2 v3 v4 h = some (iI 1, h') → W p l e (gR G hs 16 612) s m #[Value.ref b] below meth c H locs cells slots (lw_Z below #[Value.ref b] s) (F0 m 23 ls [])) {v1 : Nat} {v2 : Nat} {v3 : Nat} {v4 : Int32} {h : AH} {H : Heap} {locs : List Loc} {cells slots : Nat} {ls : Array Slot} (hR : Rp G h H) (hL : ∀ q ∈ locs, gB G ≤ q.base) (hl : zl ls 7 [(1, zr v1), (2, zr v2), (3, zr v3), (4, .int v4), (0, .ref b)]) (hp : p_L_law_482 xs L k23 v1 v2 v3 v4 h = some (iI 1, h')) : W p l e (gR G hs 16 612) s m #[Value.ref b] below meth c H locs cells slots (lw_Z below #[Value.ref b] s) (F0 m 482 ls []) := by
  obtain ⟨hx, hb, hml, hown, hts, hT, hK, rs, hlk, hret, hnm⟩ := id C
  have hm : ∀ w ∈ MW, w.before #[Value.ref b] s = true := fun w hw => hts w (hT w hw)
  unfold p_L_law_482 at hp
  refine z_aload_n hx hb dL_law_482 rfl (zl_at hl 0 rfl) ?_
  refine lv_aload_n hx hb dL_law_483 rfl (zl_at hl 4 rfl) ?_
  refine lv_iload hx hb dL_law_484 (zl_at hl 3 rfl) ?_
  refine lv_iconst (v := iI 1) hx hb dL_law_486 rfl ?_
  refine lv_iadd hx hb dL_law_487 ?_
  obtain ⟨k1, hp⟩ := ck_i hp
  refine r_sld hx hb hX hbB hR k1 dL_law_488 ?_
  refine lv_aload_n hx hb dL_law_489 rfl (zl_at hl 4 rfl) ?_
  refine lv_iload hx hb dL_law_490 (zl_at hl 3 rfl) ?_
  refine lv_iconst (v := iI 2) hx hb dL_law_492 rfl ?_
  refine lv_iadd hx hb dL_law_493 ?_
  obtain ⟨k2, hp⟩ := ck_i hp
  refine r_sld hx hb hX hbB hR k2 dL_law_494 ?_
  refine z_aload_n hx hb dL_law_495 rfl (zl_at hl 2 rfl) ?_
  obtain ⟨r3, h4, er3, hp⟩ := bR_i hp
  refine r_callSH (n := 4) (As := [zr v1, .int (xs (v4 + (iI 1)).toNatClampNeg), .int (xs (v4 + (iI 2)).toNatClampNeg), zr v3]) (rest := []) C (c_L_place l hfl G v1 (xs (v4 + (iI 1)).toNatClampNeg) (xs (v4 + (iI 2)).toNatClampNeg) v3 h r3 h4 er3) hR hL mw_655 mw_656 mw_0 mw_657 (by decide +kernel) (by decide) rfl (zl_size hl) rfl (by simp [zr_cat, in_cat]) dL_law_496 (st2 := [.int r3]) rfl (fun H locs cells slots hR hL => ?_)
  refine z_istore (lv' := [(5, .int r3), (1, zr v1), (2, zr v2), (3, zr v3), (4, .int v4), (0, .ref b)]) hx hb dL_law_499 hl (by decide) rfl (fun ls hl => ?_)
  refine z_aload_n hx hb dL_law_501 rfl (zl_at hl 2 rfl) ?_
  refine lv_aload_n hx hb dL_law_502 rfl (zl_at hl 5 rfl) ?_
  refine lv_iload hx hb dL_law_503 (zl_at hl 4 rfl) ?_
  refine lv_iconst (v := iI 1) hx hb dL_law_505 rfl ?_
  refine lv_iadd hx hb dL_law_506 ?_
  obtain ⟨k5, hp⟩ := ck_i hp
  refine r_sld hx hb hX hbB hR k5 dL_law_507 ?_
  refine lv_aload_n hx hb dL_law_508 rfl (zl_at hl 5 rfl) ?_
  refine lv_iload hx hb dL_law_509 (zl_at hl 4 rfl) ?_
  refine lv_iconst (v := iI 2) hx hb dL_law_511 rfl ?_
  refine lv_iadd hx hb dL_law_512 ?_
  obtain ⟨k6, hp⟩ := ck_i hp
  refine r_sld hx hb hX hbB hR k6 dL_law_513 ?_
  obtain ⟨k7, hp⟩ := ck_i hp
  obtain ⟨r8, h9, er8, hp⟩ := bR_i hp
  refine r_callV (ci := 12) (r := (RX11, TX11, 32)) (n := 2) (As := [.int (xs (v4 + (iI 1)).toNatClampNeg), .int (xs (v4 + (iI 2)).toNatClampNeg)]) (rest := []) C (c_X11_place l G v2 (xs (v4 + (iI 1)).toNatClampNeg) (xs (v4 + (iI 2)).toNatClampNeg) h4 r8 h9 er8) hR hL rfl k7 mw_1140 mw_1141 mw_1142 mw_10 mw_1143 (by decide +kernel) (by decide) rfl (zl_size hl) rfl (by simp [zr_cat, in_cat]) dL_law_514 (st2 := [.int r8]) rfl (fun H locs cells slots hR hL => ?_)
  refine z_istore (lv' := [(6, .int r8), (5, .int r3), (1, zr v1), (2, zr v2), (3, zr v3), (4, .int v4), (0, .ref b)]) hx hb dL_law_517 hl (by decide) rfl (fun ls hl => ?_)
  refine z_aload_n hx hb dL_law_519 rfl (zl_at hl 3 rfl) ?_
  obtain ⟨k10, hp⟩ := ck_i hp
  obtain ⟨r11, h12, er11, hp⟩ := bR_i hp
  refine r_callV (ci := 12) (r := (RX11, TX11, 32)) (n := 0) (As := []) (rest := []) C (c_X11_thrown l G v2 h9 r11 h12 er11) hR hL rfl k10 mw_1079 mw_1080 mw_1081 mw_10 mw_1082 (by decide +kernel) (by decide) rfl (zl_size hl) rfl (by simp [zr_cat, in_cat]) dL_law_520 (st2 := [.int r11]) rfl (fun H locs cells slots hR hL => ?_)
  refine lv_iload hx hb dL_law_523 (zl_at hl 1 rfl) ?_
  refine lv_icmp_eq (tgt := 530) hx hb dL_law_525 (by decide) (fun c13 => ?_) (fun c13 => ?_)
  · replace hp := ite_p hp c13
    refine lv_iload hx hb dL_law_530 (zl_at hl 1 rfl) ?_
    refine lv_if_ne (tgt := 547) hx hb dL_law_532 (by decide) (fun c14 => ?_) (fun c14 => ?_)
    · replace hp := ite_n hp c14
      exact s_L_law_547 hfl hX hbB hz0 hz1 hz2 C hk23 hR hL (zl_sub hl [2, 3, 4, 5, 6] rfl) hp
    · replace hp := ite_p hp c14
      refine z_aload_n hx hb dL_law_535 rfl (zl_at hl 4 rfl) ?_
      refine lv_iconst (v := iI 0) hx hb dL_law_536 rfl ?_
      obtain ⟨k15, hp⟩ := ck_i hp
      refine r_lald hx hb hK hR k15.1 k15.2 dL_law_537 ?_
      refine lv_iload hx hb dL_law_538 (zl_at hl 0 rfl) ?_
      refine lv_i2l (v := (r8).toInt64) hx hb dL_law_540 rfl ?_
      refine W.lcmp hx hb dL_law_541 ?_
      refine lv_if_eq (tgt := 547) hx hb dL_law_542 (by decide) (fun c17 => ?_) (fun c17 => ?_)
      · replace hp := ite_p hp c17
        exact s_L_law_547 hfl hX hbB hz0 hz1 hz2 C hk23 hR hL (zl_sub hl [2, 3, 4, 5, 6] rfl) hp
      · replace hp := ite_n hp c17
        refine lv_iconst (v := iI 0) hx hb dL_law_545 rfl ?_
        exact law_no hp
  · replace hp := ite_n hp c13
    refine lv_iconst (v := iI 0) hx hb dL_law_528 rfl ?_
    exact law_no hp
def p_L_law_603 (xs : Nat → Int32) (L : Nat) (k23 : Nat → Nat → Nat → Int32 → AH → Option (Int32 × AH)) (v1 : Nat) (v2 : Nat) (v3 : Nat) (v4 : Int32) (h : AH) : Option (Int32 × AH) :=
  p_L_law_1463 xs L k23 v1 v2 v3 v4 h
set_option maxHeartbeats 4000000 in
set_option maxRecDepth 100000 in
theorem s_L_law_603 {p : Program} {l : Launch} {e : Env} {s : State} {m : MethodId} {b L : Nat} {xs : Nat → Int32} {nm : String} {below : List Frame} {meth : Method} {c : Code} {G : GG} {hs : AH}  {h' : AH} (hfl : l.stackTraces = false) (hX : va_X b L xs s (gH G)) (hbB : b < gB G) (hz0 : s.heap.size = gB G) (hz1 : gC G - aZ hs = 601024) (hz2 : aU hs = 0) (C : Cx G hs p s m #[Value.ref b] meth c cL_law 7 RL lw_tbl (some .boolean) nm) {k23 : Nat → Nat → Nat → Int32 → AH → Option (Int32 × AH)} (hk23 : ∀ {v1 : Nat} {v2 : Nat} {v3 : Nat} {v4 : Int32} {h : AH} {H : Heap} {locs : List Loc} {cells slots : Nat} {ls : Array Slot}, Rp G h H → (∀ q ∈ locs, gB G ≤ q.base) → zl ls 7 [(1, zr v1), (2, zr v2), (3, zr v3), (4, .int v4), (0, .ref b)] → k23 v1 v2 v3 v4 h = some (iI 1, h') → W p l e (gR G hs 16 612) s m #[Value.ref b] below meth c H locs cells slots (lw_Z below #[Value.ref b] s) (F0 m 23 ls [])) {v1 : Nat} {v2 : Nat} {v3 : Nat} {v4 : Int32} {h : AH} {H : Heap} {locs : List Loc} {cells slots : Nat} {ls : Array Slot} (hR : Rp G h H) (hL : ∀ q ∈ locs, gB G ≤ q.base) (hl : zl ls 7 [(1, zr v1), (2, zr v2), (3, zr v3), (4, .int v4), (0, .ref b)]) (hp : p_L_law_603 xs L k23 v1 v2 v3 v4 h = some (iI 1, h')) : W p l e (gR G hs 16 612) s m #[Value.ref b] below meth c H locs cells slots (lw_Z below #[Value.ref b] s) (F0 m 603 ls []) := by
  obtain ⟨hx, hb, hml, hown, hts, hT, hK, rs, hlk, hret, hnm⟩ := id C
  have hm : ∀ w ∈ MW, w.before #[Value.ref b] s = true := fun w hw => hts w (hT w hw)
  unfold p_L_law_603 at hp
  refine lv_goto (tgt := 1463) hx hb dL_law_603 (by decide) ?_
  exact s_L_law_1463 hfl hX hbB hz0 hz1 hz2 C hk23 hR hL (zl_sub hl [0, 1, 2, 3, 4] rfl) hp
def p_L_law_550 (xs : Nat → Int32) (L : Nat) (k23 : Nat → Nat → Nat → Int32 → AH → Option (Int32 × AH)) (v1 : Nat) (v2 : Nat) (v3 : Nat) (v4 : Int32) (h : AH) : Option (Int32 × AH) :=
  ck (ix (v4 + (iI 1)) L) <|
  bR (p_L_length v1 (xs (v4 + (iI 1)).toNatClampNeg) v3 h) fun r2 h3 =>
  ck (ix (v4 + (iI 1)) L) <|
  ck (aK h3 v2 = 13) <|
  bR (p_X11_length v2 (xs (v4 + (iI 1)).toNatClampNeg) h3) fun r6 h7 =>
  ck (aK h7 v2 = 13) <|
  bR (p_X11_thrown v2 h7) fun r9 h10 =>
  if r9 = r2 then
    if r2 = 0 then
      ck (aK h10 v3 = 23 ∧ ix (iI 0) (aN h10 v3)) <|
      if (lg_cmp (aL h10 v3 (iI 0).toNatClampNeg) ((r6).toInt64)) = 0 then
        p_L_law_603 xs L k23 v1 v2 v3 v4 h10
      else
        some ((iI 0), h10)
    else
      p_L_law_603 xs L k23 v1 v2 v3 v4 h10
  else
    some ((iI 0), h10)
set_option maxHeartbeats 4000000 in
set_option maxRecDepth 100000 in
theorem s_L_law_550 {p : Program} {l : Launch} {e : Env} {s : State} {m : MethodId} {b L : Nat} {xs : Nat → Int32} {nm : String} {below : List Frame} {meth : Method} {c : Code} {G : GG} {hs : AH}  {h' : AH} (hfl : l.stackTraces = false) (hX : va_X b L xs s (gH G)) (hbB : b < gB G) (hz0 : s.heap.size = gB G) (hz1 : gC G - aZ hs = 601024) (hz2 : aU hs = 0) (C : Cx G hs p s m #[Value.ref b] meth c cL_law 7 RL lw_tbl (some .boolean) nm) {k23 : Nat → Nat → Nat → Int32 → AH → Option (Int32 × AH)} (hk23 : ∀ {v1 : Nat} {v2 : Nat} {v3 : Nat} {v4 : Int32} {h : AH} {H : Heap} {locs : List Loc} {cells slots : Nat} {ls : Array Slot}, Rp G h H → (∀ q ∈ locs, gB G ≤ q.base) → zl ls 7 [(1, zr v1), (2, zr v2), (3, zr v3), (4, .int v4), (0, .ref b)] → k23 v1 v2 v3 v4 h = some (iI 1, h') → W p l e (gR G hs 16 612) s m #[Value.ref b] below meth c H locs cells slots (lw_Z below #[Value.ref b] s) (F0 m 23 ls [])) {v1 : Nat} {v2 : Nat} {v3 : Nat} {v4 : Int32} {h : AH} {H : Heap} {locs : List Loc} {cells slots : Nat} {ls : Array Slot} (hR : Rp G h H) (hL : ∀ q ∈ locs, gB G ≤ q.base) (hl : zl ls 7 [(1, zr v1), (2, zr v2), (3, zr v3), (4, .int v4), (0, .ref b)]) (hp : p_L_law_550 xs L k23 v1 v2 v3 v4 h = some (iI 1, h')) : W p l e (gR G hs 16 612) s m #[Value.ref b] below meth c H locs cells slots (lw_Z below #[Value.ref b] s) (F0 m 550 ls []) := by
  obtain ⟨hx, hb, hml, hown, hts, hT, hK, rs, hlk, hret, hnm⟩ := id C
  have hm : ∀ w ∈ MW, w.before #[Value.ref b] s = true := fun w hw => hts w (hT w hw)
  unfold p_L_law_550 at hp
  refine z_aload_n hx hb dL_law_550 rfl (zl_at hl 0 rfl) ?_
  refine lv_aload_n hx hb dL_law_551 rfl (zl_at hl 4 rfl) ?_
  refine lv_iload hx hb dL_law_552 (zl_at hl 3 rfl) ?_
  refine lv_iconst (v := iI 1) hx hb dL_law_554 rfl ?_
  refine lv_iadd hx hb dL_law_555 ?_
  obtain ⟨k1, hp⟩ := ck_i hp
  refine r_sld hx hb hX hbB hR k1 dL_law_556 ?_
  refine z_aload_n hx hb dL_law_557 rfl (zl_at hl 2 rfl) ?_
  obtain ⟨r2, h3, er2, hp⟩ := bR_i hp
  refine r_callSH (n := 3) (As := [zr v1, .int (xs (v4 + (iI 1)).toNatClampNeg), zr v3]) (rest := []) C (c_L_length l hfl G v1 (xs (v4 + (iI 1)).toNatClampNeg) v3 h r2 h3 er2) hR hL mw_662 mw_663 mw_0 mw_664 (by decide +kernel) (by decide) rfl (zl_size hl) rfl (by simp [zr_cat, in_cat]) dL_law_558 (st2 := [.int r2]) rfl (fun H locs cells slots hR hL => ?_)
  refine z_istore (lv' := [(5, .int r2), (1, zr v1), (2, zr v2), (3, zr v3), (4, .int v4), (0, .ref b)]) hx hb dL_law_561 hl (by decide) rfl (fun ls hl => ?_)
  refine z_aload_n hx hb dL_law_563 rfl (zl_at hl 2 rfl) ?_
  refine lv_aload_n hx hb dL_law_564 rfl (zl_at hl 5 rfl) ?_
  refine lv_iload hx hb dL_law_565 (zl_at hl 4 rfl) ?_
  refine lv_iconst (v := iI 1) hx hb dL_law_567 rfl ?_
  refine lv_iadd hx hb dL_law_568 ?_
  obtain ⟨k4, hp⟩ := ck_i hp
  refine r_sld hx hb hX hbB hR k4 dL_law_569 ?_
  obtain ⟨k5, hp⟩ := ck_i hp
  obtain ⟨r6, h7, er6, hp⟩ := bR_i hp
  refine r_callV (ci := 12) (r := (RX11, TX11, 32)) (n := 1) (As := [.int (xs (v4 + (iI 1)).toNatClampNeg)]) (rest := []) C (c_X11_length l G v2 (xs (v4 + (iI 1)).toNatClampNeg) h3 r6 h7 er6) hR hL rfl k5 mw_1144 mw_1145 mw_1146 mw_10 mw_1147 (by decide +kernel) (by decide) rfl (zl_size hl) rfl (by simp [zr_cat, in_cat]) dL_law_570 (st2 := [.int r6]) rfl (fun H locs cells slots hR hL => ?_)
  refine z_istore (lv' := [(6, .int r6), (5, .int r2), (1, zr v1), (2, zr v2), (3, zr v3), (4, .int v4), (0, .ref b)]) hx hb dL_law_573 hl (by decide) rfl (fun ls hl => ?_)
  refine z_aload_n hx hb dL_law_575 rfl (zl_at hl 3 rfl) ?_
  obtain ⟨k8, hp⟩ := ck_i hp
  obtain ⟨r9, h10, er9, hp⟩ := bR_i hp
  refine r_callV (ci := 12) (r := (RX11, TX11, 32)) (n := 0) (As := []) (rest := []) C (c_X11_thrown l G v2 h7 r9 h10 er9) hR hL rfl k8 mw_1079 mw_1080 mw_1081 mw_10 mw_1082 (by decide +kernel) (by decide) rfl (zl_size hl) rfl (by simp [zr_cat, in_cat]) dL_law_576 (st2 := [.int r9]) rfl (fun H locs cells slots hR hL => ?_)
  refine lv_iload hx hb dL_law_579 (zl_at hl 1 rfl) ?_
  refine lv_icmp_eq (tgt := 586) hx hb dL_law_581 (by decide) (fun c11 => ?_) (fun c11 => ?_)
  · replace hp := ite_p hp c11
    refine lv_iload hx hb dL_law_586 (zl_at hl 1 rfl) ?_
    refine lv_if_ne (tgt := 603) hx hb dL_law_588 (by decide) (fun c12 => ?_) (fun c12 => ?_)
    · replace hp := ite_n hp c12
      exact s_L_law_603 hfl hX hbB hz0 hz1 hz2 C hk23 hR hL (zl_sub hl [2, 3, 4, 5, 6] rfl) hp
    · replace hp := ite_p hp c12
      refine z_aload_n hx hb dL_law_591 rfl (zl_at hl 4 rfl) ?_
      refine lv_iconst (v := iI 0) hx hb dL_law_592 rfl ?_
      obtain ⟨k13, hp⟩ := ck_i hp
      refine r_lald hx hb hK hR k13.1 k13.2 dL_law_593 ?_
      refine lv_iload hx hb dL_law_594 (zl_at hl 0 rfl) ?_
      refine lv_i2l (v := (r6).toInt64) hx hb dL_law_596 rfl ?_
      refine W.lcmp hx hb dL_law_597 ?_
      refine lv_if_eq (tgt := 603) hx hb dL_law_598 (by decide) (fun c15 => ?_) (fun c15 => ?_)
      · replace hp := ite_p hp c15
        exact s_L_law_603 hfl hX hbB hz0 hz1 hz2 C hk23 hR hL (zl_sub hl [2, 3, 4, 5, 6] rfl) hp
      · replace hp := ite_n hp c15
        refine lv_iconst (v := iI 0) hx hb dL_law_601 rfl ?_
        exact law_no hp
  · replace hp := ite_n hp c11
    refine lv_iconst (v := iI 0) hx hb dL_law_584 rfl ?_
    exact law_no hp
def p_L_law_671 (xs : Nat → Int32) (L : Nat) (k23 : Nat → Nat → Nat → Int32 → AH → Option (Int32 × AH)) (v1 : Nat) (v2 : Nat) (v3 : Nat) (v4 : Int32) (h : AH) : Option (Int32 × AH) :=
  p_L_law_1463 xs L k23 v1 v2 v3 v4 h
set_option maxHeartbeats 4000000 in
set_option maxRecDepth 100000 in
theorem s_L_law_671 {p : Program} {l : Launch} {e : Env} {s : State} {m : MethodId} {b L : Nat} {xs : Nat → Int32} {nm : String} {below : List Frame} {meth : Method} {c : Code} {G : GG} {hs : AH}  {h' : AH} (hfl : l.stackTraces = false) (hX : va_X b L xs s (gH G)) (hbB : b < gB G) (hz0 : s.heap.size = gB G) (hz1 : gC G - aZ hs = 601024) (hz2 : aU hs = 0) (C : Cx G hs p s m #[Value.ref b] meth c cL_law 7 RL lw_tbl (some .boolean) nm) {k23 : Nat → Nat → Nat → Int32 → AH → Option (Int32 × AH)} (hk23 : ∀ {v1 : Nat} {v2 : Nat} {v3 : Nat} {v4 : Int32} {h : AH} {H : Heap} {locs : List Loc} {cells slots : Nat} {ls : Array Slot}, Rp G h H → (∀ q ∈ locs, gB G ≤ q.base) → zl ls 7 [(1, zr v1), (2, zr v2), (3, zr v3), (4, .int v4), (0, .ref b)] → k23 v1 v2 v3 v4 h = some (iI 1, h') → W p l e (gR G hs 16 612) s m #[Value.ref b] below meth c H locs cells slots (lw_Z below #[Value.ref b] s) (F0 m 23 ls [])) {v1 : Nat} {v2 : Nat} {v3 : Nat} {v4 : Int32} {h : AH} {H : Heap} {locs : List Loc} {cells slots : Nat} {ls : Array Slot} (hR : Rp G h H) (hL : ∀ q ∈ locs, gB G ≤ q.base) (hl : zl ls 7 [(1, zr v1), (2, zr v2), (3, zr v3), (4, .int v4), (0, .ref b)]) (hp : p_L_law_671 xs L k23 v1 v2 v3 v4 h = some (iI 1, h')) : W p l e (gR G hs 16 612) s m #[Value.ref b] below meth c H locs cells slots (lw_Z below #[Value.ref b] s) (F0 m 671 ls []) := by
  obtain ⟨hx, hb, hml, hown, hts, hT, hK, rs, hlk, hret, hnm⟩ := id C
  have hm : ∀ w ∈ MW, w.before #[Value.ref b] s = true := fun w hw => hts w (hT w hw)
  unfold p_L_law_671 at hp
  refine lv_goto (tgt := 1463) hx hb dL_law_671 (by decide) ?_
  exact s_L_law_1463 hfl hX hbB hz0 hz1 hz2 C hk23 hR hL (zl_sub hl [0, 1, 2, 3, 4] rfl) hp
def p_L_law_606 (xs : Nat → Int32) (L : Nat) (k23 : Nat → Nat → Nat → Int32 → AH → Option (Int32 × AH)) (v1 : Nat) (v2 : Nat) (v3 : Nat) (v4 : Int32) (h : AH) : Option (Int32 × AH) :=
  ck (ix (v4 + (iI 1)) L) <|
  ck (ix (v4 + (iI 2)) L) <|
  bR (p_L_letter v1 (xs (v4 + (iI 1)).toNatClampNeg) (xs (v4 + (iI 2)).toNatClampNeg) v3 h) fun r3 h4 =>
  ck (ix (v4 + (iI 1)) L) <|
  ck (ix (v4 + (iI 2)) L) <|
  ck (aK h4 v2 = 13) <|
  bR (p_X11_letter v2 (xs (v4 + (iI 1)).toNatClampNeg) (xs (v4 + (iI 2)).toNatClampNeg) h4) fun r8 h9 =>
  ck (aK h9 v2 = 13) <|
  bR (p_X11_thrown v2 h9) fun r11 h12 =>
  if r11 = r3 then
    if r3 = 0 then
      ck (aK h12 v3 = 23 ∧ ix (iI 0) (aN h12 v3)) <|
      if (lg_cmp (aL h12 v3 (iI 0).toNatClampNeg) ((r8).toInt64)) = 0 then
        p_L_law_671 xs L k23 v1 v2 v3 v4 h12
      else
        some ((iI 0), h12)
    else
      p_L_law_671 xs L k23 v1 v2 v3 v4 h12
  else
    some ((iI 0), h12)
set_option maxHeartbeats 4000000 in
set_option maxRecDepth 100000 in
theorem s_L_law_606 {p : Program} {l : Launch} {e : Env} {s : State} {m : MethodId} {b L : Nat} {xs : Nat → Int32} {nm : String} {below : List Frame} {meth : Method} {c : Code} {G : GG} {hs : AH}  {h' : AH} (hfl : l.stackTraces = false) (hX : va_X b L xs s (gH G)) (hbB : b < gB G) (hz0 : s.heap.size = gB G) (hz1 : gC G - aZ hs = 601024) (hz2 : aU hs = 0) (C : Cx G hs p s m #[Value.ref b] meth c cL_law 7 RL lw_tbl (some .boolean) nm) {k23 : Nat → Nat → Nat → Int32 → AH → Option (Int32 × AH)} (hk23 : ∀ {v1 : Nat} {v2 : Nat} {v3 : Nat} {v4 : Int32} {h : AH} {H : Heap} {locs : List Loc} {cells slots : Nat} {ls : Array Slot}, Rp G h H → (∀ q ∈ locs, gB G ≤ q.base) → zl ls 7 [(1, zr v1), (2, zr v2), (3, zr v3), (4, .int v4), (0, .ref b)] → k23 v1 v2 v3 v4 h = some (iI 1, h') → W p l e (gR G hs 16 612) s m #[Value.ref b] below meth c H locs cells slots (lw_Z below #[Value.ref b] s) (F0 m 23 ls [])) {v1 : Nat} {v2 : Nat} {v3 : Nat} {v4 : Int32} {h : AH} {H : Heap} {locs : List Loc} {cells slots : Nat} {ls : Array Slot} (hR : Rp G h H) (hL : ∀ q ∈ locs, gB G ≤ q.base) (hl : zl ls 7 [(1, zr v1), (2, zr v2), (3, zr v3), (4, .int v4), (0, .ref b)]) (hp : p_L_law_606 xs L k23 v1 v2 v3 v4 h = some (iI 1, h')) : W p l e (gR G hs 16 612) s m #[Value.ref b] below meth c H locs cells slots (lw_Z below #[Value.ref b] s) (F0 m 606 ls []) := by
  obtain ⟨hx, hb, hml, hown, hts, hT, hK, rs, hlk, hret, hnm⟩ := id C
  have hm : ∀ w ∈ MW, w.before #[Value.ref b] s = true := fun w hw => hts w (hT w hw)
  unfold p_L_law_606 at hp
  refine z_aload_n hx hb dL_law_606 rfl (zl_at hl 0 rfl) ?_
  refine lv_aload_n hx hb dL_law_607 rfl (zl_at hl 4 rfl) ?_
  refine lv_iload hx hb dL_law_608 (zl_at hl 3 rfl) ?_
  refine lv_iconst (v := iI 1) hx hb dL_law_610 rfl ?_
  refine lv_iadd hx hb dL_law_611 ?_
  obtain ⟨k1, hp⟩ := ck_i hp
  refine r_sld hx hb hX hbB hR k1 dL_law_612 ?_
  refine lv_aload_n hx hb dL_law_613 rfl (zl_at hl 4 rfl) ?_
  refine lv_iload hx hb dL_law_614 (zl_at hl 3 rfl) ?_
  refine lv_iconst (v := iI 2) hx hb dL_law_616 rfl ?_
  refine lv_iadd hx hb dL_law_617 ?_
  obtain ⟨k2, hp⟩ := ck_i hp
  refine r_sld hx hb hX hbB hR k2 dL_law_618 ?_
  refine z_aload_n hx hb dL_law_619 rfl (zl_at hl 2 rfl) ?_
  obtain ⟨r3, h4, er3, hp⟩ := bR_i hp
  refine r_callSH (n := 4) (As := [zr v1, .int (xs (v4 + (iI 1)).toNatClampNeg), .int (xs (v4 + (iI 2)).toNatClampNeg), zr v3]) (rest := []) C (c_L_letter l hfl G v1 (xs (v4 + (iI 1)).toNatClampNeg) (xs (v4 + (iI 2)).toNatClampNeg) v3 h r3 h4 er3) hR hL mw_669 mw_670 mw_0 mw_671 (by decide +kernel) (by decide) rfl (zl_size hl) rfl (by simp [zr_cat, in_cat]) dL_law_620 (st2 := [.int r3]) rfl (fun H locs cells slots hR hL => ?_)
  refine z_istore (lv' := [(5, .int r3), (1, zr v1), (2, zr v2), (3, zr v3), (4, .int v4), (0, .ref b)]) hx hb dL_law_623 hl (by decide) rfl (fun ls hl => ?_)
  refine z_aload_n hx hb dL_law_625 rfl (zl_at hl 2 rfl) ?_
  refine lv_aload_n hx hb dL_law_626 rfl (zl_at hl 5 rfl) ?_
  refine lv_iload hx hb dL_law_627 (zl_at hl 4 rfl) ?_
  refine lv_iconst (v := iI 1) hx hb dL_law_629 rfl ?_
  refine lv_iadd hx hb dL_law_630 ?_
  obtain ⟨k5, hp⟩ := ck_i hp
  refine r_sld hx hb hX hbB hR k5 dL_law_631 ?_
  refine lv_aload_n hx hb dL_law_632 rfl (zl_at hl 5 rfl) ?_
  refine lv_iload hx hb dL_law_633 (zl_at hl 4 rfl) ?_
  refine lv_iconst (v := iI 2) hx hb dL_law_635 rfl ?_
  refine lv_iadd hx hb dL_law_636 ?_
  obtain ⟨k6, hp⟩ := ck_i hp
  refine r_sld hx hb hX hbB hR k6 dL_law_637 ?_
  obtain ⟨k7, hp⟩ := ck_i hp
  obtain ⟨r8, h9, er8, hp⟩ := bR_i hp
  refine r_callV (ci := 12) (r := (RX11, TX11, 32)) (n := 2) (As := [.int (xs (v4 + (iI 1)).toNatClampNeg), .int (xs (v4 + (iI 2)).toNatClampNeg)]) (rest := []) C (c_X11_letter l G v2 (xs (v4 + (iI 1)).toNatClampNeg) (xs (v4 + (iI 2)).toNatClampNeg) h4 r8 h9 er8) hR hL rfl k7 mw_1151 mw_1152 mw_1153 mw_10 mw_1154 (by decide +kernel) (by decide) rfl (zl_size hl) rfl (by simp [zr_cat, in_cat]) dL_law_638 (st2 := [.int r8]) rfl (fun H locs cells slots hR hL => ?_)
  refine z_istore (lv' := [(6, .int r8), (5, .int r3), (1, zr v1), (2, zr v2), (3, zr v3), (4, .int v4), (0, .ref b)]) hx hb dL_law_641 hl (by decide) rfl (fun ls hl => ?_)
  refine z_aload_n hx hb dL_law_643 rfl (zl_at hl 3 rfl) ?_
  obtain ⟨k10, hp⟩ := ck_i hp
  obtain ⟨r11, h12, er11, hp⟩ := bR_i hp
  refine r_callV (ci := 12) (r := (RX11, TX11, 32)) (n := 0) (As := []) (rest := []) C (c_X11_thrown l G v2 h9 r11 h12 er11) hR hL rfl k10 mw_1079 mw_1080 mw_1081 mw_10 mw_1082 (by decide +kernel) (by decide) rfl (zl_size hl) rfl (by simp [zr_cat, in_cat]) dL_law_644 (st2 := [.int r11]) rfl (fun H locs cells slots hR hL => ?_)
  refine lv_iload hx hb dL_law_647 (zl_at hl 1 rfl) ?_
  refine lv_icmp_eq (tgt := 654) hx hb dL_law_649 (by decide) (fun c13 => ?_) (fun c13 => ?_)
  · replace hp := ite_p hp c13
    refine lv_iload hx hb dL_law_654 (zl_at hl 1 rfl) ?_
    refine lv_if_ne (tgt := 671) hx hb dL_law_656 (by decide) (fun c14 => ?_) (fun c14 => ?_)
    · replace hp := ite_n hp c14
      exact s_L_law_671 hfl hX hbB hz0 hz1 hz2 C hk23 hR hL (zl_sub hl [2, 3, 4, 5, 6] rfl) hp
    · replace hp := ite_p hp c14
      refine z_aload_n hx hb dL_law_659 rfl (zl_at hl 4 rfl) ?_
      refine lv_iconst (v := iI 0) hx hb dL_law_660 rfl ?_
      obtain ⟨k15, hp⟩ := ck_i hp
      refine r_lald hx hb hK hR k15.1 k15.2 dL_law_661 ?_
      refine lv_iload hx hb dL_law_662 (zl_at hl 0 rfl) ?_
      refine lv_i2l (v := (r8).toInt64) hx hb dL_law_664 rfl ?_
      refine W.lcmp hx hb dL_law_665 ?_
      refine lv_if_eq (tgt := 671) hx hb dL_law_666 (by decide) (fun c17 => ?_) (fun c17 => ?_)
      · replace hp := ite_p hp c17
        exact s_L_law_671 hfl hX hbB hz0 hz1 hz2 C hk23 hR hL (zl_sub hl [2, 3, 4, 5, 6] rfl) hp
      · replace hp := ite_n hp c17
        refine lv_iconst (v := iI 0) hx hb dL_law_669 rfl ?_
        exact law_no hp
  · replace hp := ite_n hp c13
    refine lv_iconst (v := iI 0) hx hb dL_law_652 rfl ?_
    exact law_no hp
def p_L_law_739 (xs : Nat → Int32) (L : Nat) (k23 : Nat → Nat → Nat → Int32 → AH → Option (Int32 × AH)) (v1 : Nat) (v2 : Nat) (v3 : Nat) (v4 : Int32) (h : AH) : Option (Int32 × AH) :=
  p_L_law_1463 xs L k23 v1 v2 v3 v4 h
set_option maxHeartbeats 4000000 in
set_option maxRecDepth 100000 in
theorem s_L_law_739 {p : Program} {l : Launch} {e : Env} {s : State} {m : MethodId} {b L : Nat} {xs : Nat → Int32} {nm : String} {below : List Frame} {meth : Method} {c : Code} {G : GG} {hs : AH}  {h' : AH} (hfl : l.stackTraces = false) (hX : va_X b L xs s (gH G)) (hbB : b < gB G) (hz0 : s.heap.size = gB G) (hz1 : gC G - aZ hs = 601024) (hz2 : aU hs = 0) (C : Cx G hs p s m #[Value.ref b] meth c cL_law 7 RL lw_tbl (some .boolean) nm) {k23 : Nat → Nat → Nat → Int32 → AH → Option (Int32 × AH)} (hk23 : ∀ {v1 : Nat} {v2 : Nat} {v3 : Nat} {v4 : Int32} {h : AH} {H : Heap} {locs : List Loc} {cells slots : Nat} {ls : Array Slot}, Rp G h H → (∀ q ∈ locs, gB G ≤ q.base) → zl ls 7 [(1, zr v1), (2, zr v2), (3, zr v3), (4, .int v4), (0, .ref b)] → k23 v1 v2 v3 v4 h = some (iI 1, h') → W p l e (gR G hs 16 612) s m #[Value.ref b] below meth c H locs cells slots (lw_Z below #[Value.ref b] s) (F0 m 23 ls [])) {v1 : Nat} {v2 : Nat} {v3 : Nat} {v4 : Int32} {h : AH} {H : Heap} {locs : List Loc} {cells slots : Nat} {ls : Array Slot} (hR : Rp G h H) (hL : ∀ q ∈ locs, gB G ≤ q.base) (hl : zl ls 7 [(1, zr v1), (2, zr v2), (3, zr v3), (4, .int v4), (0, .ref b)]) (hp : p_L_law_739 xs L k23 v1 v2 v3 v4 h = some (iI 1, h')) : W p l e (gR G hs 16 612) s m #[Value.ref b] below meth c H locs cells slots (lw_Z below #[Value.ref b] s) (F0 m 739 ls []) := by
  obtain ⟨hx, hb, hml, hown, hts, hT, hK, rs, hlk, hret, hnm⟩ := id C
  have hm : ∀ w ∈ MW, w.before #[Value.ref b] s = true := fun w hw => hts w (hT w hw)
  unfold p_L_law_739 at hp
  refine lv_goto (tgt := 1463) hx hb dL_law_739 (by decide) ?_
  exact s_L_law_1463 hfl hX hbB hz0 hz1 hz2 C hk23 hR hL (zl_sub hl [0, 1, 2, 3, 4] rfl) hp
def p_L_law_674 (xs : Nat → Int32) (L : Nat) (k23 : Nat → Nat → Nat → Int32 → AH → Option (Int32 × AH)) (v1 : Nat) (v2 : Nat) (v3 : Nat) (v4 : Int32) (h : AH) : Option (Int32 × AH) :=
  ck (ix (v4 + (iI 1)) L) <|
  ck (ix (v4 + (iI 2)) L) <|
  bR (p_L_letterAnew v1 (xs (v4 + (iI 1)).toNatClampNeg) (xs (v4 + (iI 2)).toNatClampNeg) v3 h) fun r3 h4 =>
  ck (ix (v4 + (iI 1)) L) <|
  ck (ix (v4 + (iI 2)) L) <|
  ck (aK h4 v2 = 13) <|
  bR (p_X11_letterAnew v2 (xs (v4 + (iI 1)).toNatClampNeg) (xs (v4 + (iI 2)).toNatClampNeg) h4) fun r8 h9 =>
  ck (aK h9 v2 = 13) <|
  bR (p_X11_thrown v2 h9) fun r11 h12 =>
  if r11 = r3 then
    if r3 = 0 then
      ck (aK h12 v3 = 23 ∧ ix (iI 0) (aN h12 v3)) <|
      if (lg_cmp (aL h12 v3 (iI 0).toNatClampNeg) ((r8).toInt64)) = 0 then
        p_L_law_739 xs L k23 v1 v2 v3 v4 h12
      else
        some ((iI 0), h12)
    else
      p_L_law_739 xs L k23 v1 v2 v3 v4 h12
  else
    some ((iI 0), h12)
set_option maxHeartbeats 4000000 in
set_option maxRecDepth 100000 in
theorem s_L_law_674 {p : Program} {l : Launch} {e : Env} {s : State} {m : MethodId} {b L : Nat} {xs : Nat → Int32} {nm : String} {below : List Frame} {meth : Method} {c : Code} {G : GG} {hs : AH}  {h' : AH} (hfl : l.stackTraces = false) (hX : va_X b L xs s (gH G)) (hbB : b < gB G) (hz0 : s.heap.size = gB G) (hz1 : gC G - aZ hs = 601024) (hz2 : aU hs = 0) (C : Cx G hs p s m #[Value.ref b] meth c cL_law 7 RL lw_tbl (some .boolean) nm) {k23 : Nat → Nat → Nat → Int32 → AH → Option (Int32 × AH)} (hk23 : ∀ {v1 : Nat} {v2 : Nat} {v3 : Nat} {v4 : Int32} {h : AH} {H : Heap} {locs : List Loc} {cells slots : Nat} {ls : Array Slot}, Rp G h H → (∀ q ∈ locs, gB G ≤ q.base) → zl ls 7 [(1, zr v1), (2, zr v2), (3, zr v3), (4, .int v4), (0, .ref b)] → k23 v1 v2 v3 v4 h = some (iI 1, h') → W p l e (gR G hs 16 612) s m #[Value.ref b] below meth c H locs cells slots (lw_Z below #[Value.ref b] s) (F0 m 23 ls [])) {v1 : Nat} {v2 : Nat} {v3 : Nat} {v4 : Int32} {h : AH} {H : Heap} {locs : List Loc} {cells slots : Nat} {ls : Array Slot} (hR : Rp G h H) (hL : ∀ q ∈ locs, gB G ≤ q.base) (hl : zl ls 7 [(1, zr v1), (2, zr v2), (3, zr v3), (4, .int v4), (0, .ref b)]) (hp : p_L_law_674 xs L k23 v1 v2 v3 v4 h = some (iI 1, h')) : W p l e (gR G hs 16 612) s m #[Value.ref b] below meth c H locs cells slots (lw_Z below #[Value.ref b] s) (F0 m 674 ls []) := by
  obtain ⟨hx, hb, hml, hown, hts, hT, hK, rs, hlk, hret, hnm⟩ := id C
  have hm : ∀ w ∈ MW, w.before #[Value.ref b] s = true := fun w hw => hts w (hT w hw)
  unfold p_L_law_674 at hp
  refine z_aload_n hx hb dL_law_674 rfl (zl_at hl 0 rfl) ?_
  refine lv_aload_n hx hb dL_law_675 rfl (zl_at hl 4 rfl) ?_
  refine lv_iload hx hb dL_law_676 (zl_at hl 3 rfl) ?_
  refine lv_iconst (v := iI 1) hx hb dL_law_678 rfl ?_
  refine lv_iadd hx hb dL_law_679 ?_
  obtain ⟨k1, hp⟩ := ck_i hp
  refine r_sld hx hb hX hbB hR k1 dL_law_680 ?_
  refine lv_aload_n hx hb dL_law_681 rfl (zl_at hl 4 rfl) ?_
  refine lv_iload hx hb dL_law_682 (zl_at hl 3 rfl) ?_
  refine lv_iconst (v := iI 2) hx hb dL_law_684 rfl ?_
  refine lv_iadd hx hb dL_law_685 ?_
  obtain ⟨k2, hp⟩ := ck_i hp
  refine r_sld hx hb hX hbB hR k2 dL_law_686 ?_
  refine z_aload_n hx hb dL_law_687 rfl (zl_at hl 2 rfl) ?_
  obtain ⟨r3, h4, er3, hp⟩ := bR_i hp
  refine r_callSH (n := 4) (As := [zr v1, .int (xs (v4 + (iI 1)).toNatClampNeg), .int (xs (v4 + (iI 2)).toNatClampNeg), zr v3]) (rest := []) C (c_L_letterAnew l hfl G v1 (xs (v4 + (iI 1)).toNatClampNeg) (xs (v4 + (iI 2)).toNatClampNeg) v3 h r3 h4 er3) hR hL mw_680 mw_681 mw_0 mw_682 (by decide +kernel) (by decide) rfl (zl_size hl) rfl (by simp [zr_cat, in_cat]) dL_law_688 (st2 := [.int r3]) rfl (fun H locs cells slots hR hL => ?_)
  refine z_istore (lv' := [(5, .int r3), (1, zr v1), (2, zr v2), (3, zr v3), (4, .int v4), (0, .ref b)]) hx hb dL_law_691 hl (by decide) rfl (fun ls hl => ?_)
  refine z_aload_n hx hb dL_law_693 rfl (zl_at hl 2 rfl) ?_
  refine lv_aload_n hx hb dL_law_694 rfl (zl_at hl 5 rfl) ?_
  refine lv_iload hx hb dL_law_695 (zl_at hl 4 rfl) ?_
  refine lv_iconst (v := iI 1) hx hb dL_law_697 rfl ?_
  refine lv_iadd hx hb dL_law_698 ?_
  obtain ⟨k5, hp⟩ := ck_i hp
  refine r_sld hx hb hX hbB hR k5 dL_law_699 ?_
  refine lv_aload_n hx hb dL_law_700 rfl (zl_at hl 5 rfl) ?_
  refine lv_iload hx hb dL_law_701 (zl_at hl 4 rfl) ?_
  refine lv_iconst (v := iI 2) hx hb dL_law_703 rfl ?_
  refine lv_iadd hx hb dL_law_704 ?_
  obtain ⟨k6, hp⟩ := ck_i hp
  refine r_sld hx hb hX hbB hR k6 dL_law_705 ?_
  obtain ⟨k7, hp⟩ := ck_i hp
  obtain ⟨r8, h9, er8, hp⟩ := bR_i hp
  refine r_callV (ci := 12) (r := (RX11, TX11, 32)) (n := 2) (As := [.int (xs (v4 + (iI 1)).toNatClampNeg), .int (xs (v4 + (iI 2)).toNatClampNeg)]) (rest := []) C (c_X11_letterAnew l G v2 (xs (v4 + (iI 1)).toNatClampNeg) (xs (v4 + (iI 2)).toNatClampNeg) h4 r8 h9 er8) hR hL rfl k7 mw_1155 mw_1156 mw_1157 mw_10 mw_1158 (by decide +kernel) (by decide) rfl (zl_size hl) rfl (by simp [zr_cat, in_cat]) dL_law_706 (st2 := [.int r8]) rfl (fun H locs cells slots hR hL => ?_)
  refine z_istore (lv' := [(6, .int r8), (5, .int r3), (1, zr v1), (2, zr v2), (3, zr v3), (4, .int v4), (0, .ref b)]) hx hb dL_law_709 hl (by decide) rfl (fun ls hl => ?_)
  refine z_aload_n hx hb dL_law_711 rfl (zl_at hl 3 rfl) ?_
  obtain ⟨k10, hp⟩ := ck_i hp
  obtain ⟨r11, h12, er11, hp⟩ := bR_i hp
  refine r_callV (ci := 12) (r := (RX11, TX11, 32)) (n := 0) (As := []) (rest := []) C (c_X11_thrown l G v2 h9 r11 h12 er11) hR hL rfl k10 mw_1079 mw_1080 mw_1081 mw_10 mw_1082 (by decide +kernel) (by decide) rfl (zl_size hl) rfl (by simp [zr_cat, in_cat]) dL_law_712 (st2 := [.int r11]) rfl (fun H locs cells slots hR hL => ?_)
  refine lv_iload hx hb dL_law_715 (zl_at hl 1 rfl) ?_
  refine lv_icmp_eq (tgt := 722) hx hb dL_law_717 (by decide) (fun c13 => ?_) (fun c13 => ?_)
  · replace hp := ite_p hp c13
    refine lv_iload hx hb dL_law_722 (zl_at hl 1 rfl) ?_
    refine lv_if_ne (tgt := 739) hx hb dL_law_724 (by decide) (fun c14 => ?_) (fun c14 => ?_)
    · replace hp := ite_n hp c14
      exact s_L_law_739 hfl hX hbB hz0 hz1 hz2 C hk23 hR hL (zl_sub hl [2, 3, 4, 5, 6] rfl) hp
    · replace hp := ite_p hp c14
      refine z_aload_n hx hb dL_law_727 rfl (zl_at hl 4 rfl) ?_
      refine lv_iconst (v := iI 0) hx hb dL_law_728 rfl ?_
      obtain ⟨k15, hp⟩ := ck_i hp
      refine r_lald hx hb hK hR k15.1 k15.2 dL_law_729 ?_
      refine lv_iload hx hb dL_law_730 (zl_at hl 0 rfl) ?_
      refine lv_i2l (v := (r8).toInt64) hx hb dL_law_732 rfl ?_
      refine W.lcmp hx hb dL_law_733 ?_
      refine lv_if_eq (tgt := 739) hx hb dL_law_734 (by decide) (fun c17 => ?_) (fun c17 => ?_)
      · replace hp := ite_p hp c17
        exact s_L_law_739 hfl hX hbB hz0 hz1 hz2 C hk23 hR hL (zl_sub hl [2, 3, 4, 5, 6] rfl) hp
      · replace hp := ite_n hp c17
        refine lv_iconst (v := iI 0) hx hb dL_law_737 rfl ?_
        exact law_no hp
  · replace hp := ite_n hp c13
    refine lv_iconst (v := iI 0) hx hb dL_law_720 rfl ?_
    exact law_no hp
def p_L_law_795 (xs : Nat → Int32) (L : Nat) (k23 : Nat → Nat → Nat → Int32 → AH → Option (Int32 × AH)) (v1 : Nat) (v2 : Nat) (v3 : Nat) (v4 : Int32) (h : AH) : Option (Int32 × AH) :=
  p_L_law_1463 xs L k23 v1 v2 v3 v4 h
set_option maxHeartbeats 4000000 in
set_option maxRecDepth 100000 in
theorem s_L_law_795 {p : Program} {l : Launch} {e : Env} {s : State} {m : MethodId} {b L : Nat} {xs : Nat → Int32} {nm : String} {below : List Frame} {meth : Method} {c : Code} {G : GG} {hs : AH}  {h' : AH} (hfl : l.stackTraces = false) (hX : va_X b L xs s (gH G)) (hbB : b < gB G) (hz0 : s.heap.size = gB G) (hz1 : gC G - aZ hs = 601024) (hz2 : aU hs = 0) (C : Cx G hs p s m #[Value.ref b] meth c cL_law 7 RL lw_tbl (some .boolean) nm) {k23 : Nat → Nat → Nat → Int32 → AH → Option (Int32 × AH)} (hk23 : ∀ {v1 : Nat} {v2 : Nat} {v3 : Nat} {v4 : Int32} {h : AH} {H : Heap} {locs : List Loc} {cells slots : Nat} {ls : Array Slot}, Rp G h H → (∀ q ∈ locs, gB G ≤ q.base) → zl ls 7 [(1, zr v1), (2, zr v2), (3, zr v3), (4, .int v4), (0, .ref b)] → k23 v1 v2 v3 v4 h = some (iI 1, h') → W p l e (gR G hs 16 612) s m #[Value.ref b] below meth c H locs cells slots (lw_Z below #[Value.ref b] s) (F0 m 23 ls [])) {v1 : Nat} {v2 : Nat} {v3 : Nat} {v4 : Int32} {h : AH} {H : Heap} {locs : List Loc} {cells slots : Nat} {ls : Array Slot} (hR : Rp G h H) (hL : ∀ q ∈ locs, gB G ≤ q.base) (hl : zl ls 7 [(1, zr v1), (2, zr v2), (3, zr v3), (4, .int v4), (0, .ref b)]) (hp : p_L_law_795 xs L k23 v1 v2 v3 v4 h = some (iI 1, h')) : W p l e (gR G hs 16 612) s m #[Value.ref b] below meth c H locs cells slots (lw_Z below #[Value.ref b] s) (F0 m 795 ls []) := by
  obtain ⟨hx, hb, hml, hown, hts, hT, hK, rs, hlk, hret, hnm⟩ := id C
  have hm : ∀ w ∈ MW, w.before #[Value.ref b] s = true := fun w hw => hts w (hT w hw)
  unfold p_L_law_795 at hp
  refine lv_goto (tgt := 1463) hx hb dL_law_795 (by decide) ?_
  exact s_L_law_1463 hfl hX hbB hz0 hz1 hz2 C hk23 hR hL (zl_sub hl [0, 1, 2, 3, 4] rfl) hp
def p_L_law_742 (xs : Nat → Int32) (L : Nat) (k23 : Nat → Nat → Nat → Int32 → AH → Option (Int32 × AH)) (v1 : Nat) (v2 : Nat) (v3 : Nat) (v4 : Int32) (h : AH) : Option (Int32 × AH) :=
  ck (ix (v4 + (iI 1)) L) <|
  bR (p_L_version v1 (xs (v4 + (iI 1)).toNatClampNeg) v3 h) fun r2 h3 =>
  ck (ix (v4 + (iI 1)) L) <|
  ck (aK h3 v2 = 13) <|
  bR (p_X11_version v2 (xs (v4 + (iI 1)).toNatClampNeg) h3) fun r6 h7 =>
  ck (aK h7 v2 = 13) <|
  bR (p_X11_thrown v2 h7) fun r9 h10 =>
  if r9 = r2 then
    if r2 = 0 then
      ck (aK h10 v3 = 23 ∧ ix (iI 0) (aN h10 v3)) <|
      if (lg_cmp (aL h10 v3 (iI 0).toNatClampNeg) ((r6).toInt64)) = 0 then
        p_L_law_795 xs L k23 v1 v2 v3 v4 h10
      else
        some ((iI 0), h10)
    else
      p_L_law_795 xs L k23 v1 v2 v3 v4 h10
  else
    some ((iI 0), h10)
set_option maxHeartbeats 4000000 in
set_option maxRecDepth 100000 in
theorem s_L_law_742 {p : Program} {l : Launch} {e : Env} {s : State} {m : MethodId} {b L : Nat} {xs : Nat → Int32} {nm : String} {below : List Frame} {meth : Method} {c : Code} {G : GG} {hs : AH}  {h' : AH} (hfl : l.stackTraces = false) (hX : va_X b L xs s (gH G)) (hbB : b < gB G) (hz0 : s.heap.size = gB G) (hz1 : gC G - aZ hs = 601024) (hz2 : aU hs = 0) (C : Cx G hs p s m #[Value.ref b] meth c cL_law 7 RL lw_tbl (some .boolean) nm) {k23 : Nat → Nat → Nat → Int32 → AH → Option (Int32 × AH)} (hk23 : ∀ {v1 : Nat} {v2 : Nat} {v3 : Nat} {v4 : Int32} {h : AH} {H : Heap} {locs : List Loc} {cells slots : Nat} {ls : Array Slot}, Rp G h H → (∀ q ∈ locs, gB G ≤ q.base) → zl ls 7 [(1, zr v1), (2, zr v2), (3, zr v3), (4, .int v4), (0, .ref b)] → k23 v1 v2 v3 v4 h = some (iI 1, h') → W p l e (gR G hs 16 612) s m #[Value.ref b] below meth c H locs cells slots (lw_Z below #[Value.ref b] s) (F0 m 23 ls [])) {v1 : Nat} {v2 : Nat} {v3 : Nat} {v4 : Int32} {h : AH} {H : Heap} {locs : List Loc} {cells slots : Nat} {ls : Array Slot} (hR : Rp G h H) (hL : ∀ q ∈ locs, gB G ≤ q.base) (hl : zl ls 7 [(1, zr v1), (2, zr v2), (3, zr v3), (4, .int v4), (0, .ref b)]) (hp : p_L_law_742 xs L k23 v1 v2 v3 v4 h = some (iI 1, h')) : W p l e (gR G hs 16 612) s m #[Value.ref b] below meth c H locs cells slots (lw_Z below #[Value.ref b] s) (F0 m 742 ls []) := by
  obtain ⟨hx, hb, hml, hown, hts, hT, hK, rs, hlk, hret, hnm⟩ := id C
  have hm : ∀ w ∈ MW, w.before #[Value.ref b] s = true := fun w hw => hts w (hT w hw)
  unfold p_L_law_742 at hp
  refine z_aload_n hx hb dL_law_742 rfl (zl_at hl 0 rfl) ?_
  refine lv_aload_n hx hb dL_law_743 rfl (zl_at hl 4 rfl) ?_
  refine lv_iload hx hb dL_law_744 (zl_at hl 3 rfl) ?_
  refine lv_iconst (v := iI 1) hx hb dL_law_746 rfl ?_
  refine lv_iadd hx hb dL_law_747 ?_
  obtain ⟨k1, hp⟩ := ck_i hp
  refine r_sld hx hb hX hbB hR k1 dL_law_748 ?_
  refine z_aload_n hx hb dL_law_749 rfl (zl_at hl 2 rfl) ?_
  obtain ⟨r2, h3, er2, hp⟩ := bR_i hp
  refine r_callSH (n := 3) (As := [zr v1, .int (xs (v4 + (iI 1)).toNatClampNeg), zr v3]) (rest := []) C (c_L_version l hfl G v1 (xs (v4 + (iI 1)).toNatClampNeg) v3 h r2 h3 er2) hR hL mw_697 mw_698 mw_0 mw_699 (by decide +kernel) (by decide) rfl (zl_size hl) rfl (by simp [zr_cat, in_cat]) dL_law_750 (st2 := [.int r2]) rfl (fun H locs cells slots hR hL => ?_)
  refine z_istore (lv' := [(5, .int r2), (1, zr v1), (2, zr v2), (3, zr v3), (4, .int v4), (0, .ref b)]) hx hb dL_law_753 hl (by decide) rfl (fun ls hl => ?_)
  refine z_aload_n hx hb dL_law_755 rfl (zl_at hl 2 rfl) ?_
  refine lv_aload_n hx hb dL_law_756 rfl (zl_at hl 5 rfl) ?_
  refine lv_iload hx hb dL_law_757 (zl_at hl 4 rfl) ?_
  refine lv_iconst (v := iI 1) hx hb dL_law_759 rfl ?_
  refine lv_iadd hx hb dL_law_760 ?_
  obtain ⟨k4, hp⟩ := ck_i hp
  refine r_sld hx hb hX hbB hR k4 dL_law_761 ?_
  obtain ⟨k5, hp⟩ := ck_i hp
  obtain ⟨r6, h7, er6, hp⟩ := bR_i hp
  refine r_callV (ci := 12) (r := (RX11, TX11, 32)) (n := 1) (As := [.int (xs (v4 + (iI 1)).toNatClampNeg)]) (rest := []) C (c_X11_version l G v2 (xs (v4 + (iI 1)).toNatClampNeg) h3 r6 h7 er6) hR hL rfl k5 mw_1160 mw_1161 mw_1162 mw_10 mw_1163 (by decide +kernel) (by decide) rfl (zl_size hl) rfl (by simp [zr_cat, in_cat]) dL_law_762 (st2 := [.int r6]) rfl (fun H locs cells slots hR hL => ?_)
  refine z_istore (lv' := [(6, .int r6), (5, .int r2), (1, zr v1), (2, zr v2), (3, zr v3), (4, .int v4), (0, .ref b)]) hx hb dL_law_765 hl (by decide) rfl (fun ls hl => ?_)
  refine z_aload_n hx hb dL_law_767 rfl (zl_at hl 3 rfl) ?_
  obtain ⟨k8, hp⟩ := ck_i hp
  obtain ⟨r9, h10, er9, hp⟩ := bR_i hp
  refine r_callV (ci := 12) (r := (RX11, TX11, 32)) (n := 0) (As := []) (rest := []) C (c_X11_thrown l G v2 h7 r9 h10 er9) hR hL rfl k8 mw_1079 mw_1080 mw_1081 mw_10 mw_1082 (by decide +kernel) (by decide) rfl (zl_size hl) rfl (by simp [zr_cat, in_cat]) dL_law_768 (st2 := [.int r9]) rfl (fun H locs cells slots hR hL => ?_)
  refine lv_iload hx hb dL_law_771 (zl_at hl 1 rfl) ?_
  refine lv_icmp_eq (tgt := 778) hx hb dL_law_773 (by decide) (fun c11 => ?_) (fun c11 => ?_)
  · replace hp := ite_p hp c11
    refine lv_iload hx hb dL_law_778 (zl_at hl 1 rfl) ?_
    refine lv_if_ne (tgt := 795) hx hb dL_law_780 (by decide) (fun c12 => ?_) (fun c12 => ?_)
    · replace hp := ite_n hp c12
      exact s_L_law_795 hfl hX hbB hz0 hz1 hz2 C hk23 hR hL (zl_sub hl [2, 3, 4, 5, 6] rfl) hp
    · replace hp := ite_p hp c12
      refine z_aload_n hx hb dL_law_783 rfl (zl_at hl 4 rfl) ?_
      refine lv_iconst (v := iI 0) hx hb dL_law_784 rfl ?_
      obtain ⟨k13, hp⟩ := ck_i hp
      refine r_lald hx hb hK hR k13.1 k13.2 dL_law_785 ?_
      refine lv_iload hx hb dL_law_786 (zl_at hl 0 rfl) ?_
      refine lv_i2l (v := (r6).toInt64) hx hb dL_law_788 rfl ?_
      refine W.lcmp hx hb dL_law_789 ?_
      refine lv_if_eq (tgt := 795) hx hb dL_law_790 (by decide) (fun c15 => ?_) (fun c15 => ?_)
      · replace hp := ite_p hp c15
        exact s_L_law_795 hfl hX hbB hz0 hz1 hz2 C hk23 hR hL (zl_sub hl [2, 3, 4, 5, 6] rfl) hp
      · replace hp := ite_n hp c15
        refine lv_iconst (v := iI 0) hx hb dL_law_793 rfl ?_
        exact law_no hp
  · replace hp := ite_n hp c11
    refine lv_iconst (v := iI 0) hx hb dL_law_776 rfl ?_
    exact law_no hp
def p_L_law_875 (xs : Nat → Int32) (L : Nat) (k23 : Nat → Nat → Nat → Int32 → AH → Option (Int32 × AH)) (v1 : Nat) (v2 : Nat) (v3 : Nat) (v4 : Int32) (h : AH) : Option (Int32 × AH) :=
  p_L_law_1463 xs L k23 v1 v2 v3 v4 h
set_option maxHeartbeats 4000000 in
set_option maxRecDepth 100000 in
theorem s_L_law_875 {p : Program} {l : Launch} {e : Env} {s : State} {m : MethodId} {b L : Nat} {xs : Nat → Int32} {nm : String} {below : List Frame} {meth : Method} {c : Code} {G : GG} {hs : AH}  {h' : AH} (hfl : l.stackTraces = false) (hX : va_X b L xs s (gH G)) (hbB : b < gB G) (hz0 : s.heap.size = gB G) (hz1 : gC G - aZ hs = 601024) (hz2 : aU hs = 0) (C : Cx G hs p s m #[Value.ref b] meth c cL_law 7 RL lw_tbl (some .boolean) nm) {k23 : Nat → Nat → Nat → Int32 → AH → Option (Int32 × AH)} (hk23 : ∀ {v1 : Nat} {v2 : Nat} {v3 : Nat} {v4 : Int32} {h : AH} {H : Heap} {locs : List Loc} {cells slots : Nat} {ls : Array Slot}, Rp G h H → (∀ q ∈ locs, gB G ≤ q.base) → zl ls 7 [(1, zr v1), (2, zr v2), (3, zr v3), (4, .int v4), (0, .ref b)] → k23 v1 v2 v3 v4 h = some (iI 1, h') → W p l e (gR G hs 16 612) s m #[Value.ref b] below meth c H locs cells slots (lw_Z below #[Value.ref b] s) (F0 m 23 ls [])) {v1 : Nat} {v2 : Nat} {v3 : Nat} {v4 : Int32} {h : AH} {H : Heap} {locs : List Loc} {cells slots : Nat} {ls : Array Slot} (hR : Rp G h H) (hL : ∀ q ∈ locs, gB G ≤ q.base) (hl : zl ls 7 [(1, zr v1), (2, zr v2), (3, zr v3), (4, .int v4), (0, .ref b)]) (hp : p_L_law_875 xs L k23 v1 v2 v3 v4 h = some (iI 1, h')) : W p l e (gR G hs 16 612) s m #[Value.ref b] below meth c H locs cells slots (lw_Z below #[Value.ref b] s) (F0 m 875 ls []) := by
  obtain ⟨hx, hb, hml, hown, hts, hT, hK, rs, hlk, hret, hnm⟩ := id C
  have hm : ∀ w ∈ MW, w.before #[Value.ref b] s = true := fun w hw => hts w (hT w hw)
  unfold p_L_law_875 at hp
  refine lv_goto (tgt := 1463) hx hb dL_law_875 (by decide) ?_
  exact s_L_law_1463 hfl hX hbB hz0 hz1 hz2 C hk23 hR hL (zl_sub hl [0, 1, 2, 3, 4] rfl) hp
def p_L_law_798 (xs : Nat → Int32) (L : Nat) (k23 : Nat → Nat → Nat → Int32 → AH → Option (Int32 × AH)) (v1 : Nat) (v2 : Nat) (v3 : Nat) (v4 : Int32) (h : AH) : Option (Int32 × AH) :=
  ck (ix (v4 + (iI 1)) L) <|
  ck (ix (v4 + (iI 2)) L) <|
  ck (ix (v4 + (iI 3)) L) <|
  bR (p_L_ask v1 (xs (v4 + (iI 1)).toNatClampNeg) (xs (v4 + (iI 2)).toNatClampNeg) (xs (v4 + (iI 3)).toNatClampNeg) v3 h) fun r4 h5 =>
  ck (ix (v4 + (iI 1)) L) <|
  ck (ix (v4 + (iI 2)) L) <|
  ck (ix (v4 + (iI 3)) L) <|
  ck (aK h5 v2 = 13) <|
  bR (p_X11_ask v2 (xs (v4 + (iI 1)).toNatClampNeg) (xs (v4 + (iI 2)).toNatClampNeg) (xs (v4 + (iI 3)).toNatClampNeg) h5) fun r10 h11 =>
  ck (aK h11 v2 = 13) <|
  bR (p_X11_thrown v2 h11) fun r13 h14 =>
  if r13 = r4 then
    if r4 = 0 then
      ck (aK h14 v3 = 23 ∧ ix (iI 0) (aN h14 v3)) <|
      if (lg_cmp (aL h14 v3 (iI 0).toNatClampNeg) ((r10).toInt64)) = 0 then
        p_L_law_875 xs L k23 v1 v2 v3 v4 h14
      else
        some ((iI 0), h14)
    else
      p_L_law_875 xs L k23 v1 v2 v3 v4 h14
  else
    some ((iI 0), h14)
set_option maxHeartbeats 4000000 in
set_option maxRecDepth 100000 in
theorem s_L_law_798 {p : Program} {l : Launch} {e : Env} {s : State} {m : MethodId} {b L : Nat} {xs : Nat → Int32} {nm : String} {below : List Frame} {meth : Method} {c : Code} {G : GG} {hs : AH}  {h' : AH} (hfl : l.stackTraces = false) (hX : va_X b L xs s (gH G)) (hbB : b < gB G) (hz0 : s.heap.size = gB G) (hz1 : gC G - aZ hs = 601024) (hz2 : aU hs = 0) (C : Cx G hs p s m #[Value.ref b] meth c cL_law 7 RL lw_tbl (some .boolean) nm) {k23 : Nat → Nat → Nat → Int32 → AH → Option (Int32 × AH)} (hk23 : ∀ {v1 : Nat} {v2 : Nat} {v3 : Nat} {v4 : Int32} {h : AH} {H : Heap} {locs : List Loc} {cells slots : Nat} {ls : Array Slot}, Rp G h H → (∀ q ∈ locs, gB G ≤ q.base) → zl ls 7 [(1, zr v1), (2, zr v2), (3, zr v3), (4, .int v4), (0, .ref b)] → k23 v1 v2 v3 v4 h = some (iI 1, h') → W p l e (gR G hs 16 612) s m #[Value.ref b] below meth c H locs cells slots (lw_Z below #[Value.ref b] s) (F0 m 23 ls [])) {v1 : Nat} {v2 : Nat} {v3 : Nat} {v4 : Int32} {h : AH} {H : Heap} {locs : List Loc} {cells slots : Nat} {ls : Array Slot} (hR : Rp G h H) (hL : ∀ q ∈ locs, gB G ≤ q.base) (hl : zl ls 7 [(1, zr v1), (2, zr v2), (3, zr v3), (4, .int v4), (0, .ref b)]) (hp : p_L_law_798 xs L k23 v1 v2 v3 v4 h = some (iI 1, h')) : W p l e (gR G hs 16 612) s m #[Value.ref b] below meth c H locs cells slots (lw_Z below #[Value.ref b] s) (F0 m 798 ls []) := by
  obtain ⟨hx, hb, hml, hown, hts, hT, hK, rs, hlk, hret, hnm⟩ := id C
  have hm : ∀ w ∈ MW, w.before #[Value.ref b] s = true := fun w hw => hts w (hT w hw)
  unfold p_L_law_798 at hp
  refine z_aload_n hx hb dL_law_798 rfl (zl_at hl 0 rfl) ?_
  refine lv_aload_n hx hb dL_law_799 rfl (zl_at hl 4 rfl) ?_
  refine lv_iload hx hb dL_law_800 (zl_at hl 3 rfl) ?_
  refine lv_iconst (v := iI 1) hx hb dL_law_802 rfl ?_
  refine lv_iadd hx hb dL_law_803 ?_
  obtain ⟨k1, hp⟩ := ck_i hp
  refine r_sld hx hb hX hbB hR k1 dL_law_804 ?_
  refine lv_aload_n hx hb dL_law_805 rfl (zl_at hl 4 rfl) ?_
  refine lv_iload hx hb dL_law_806 (zl_at hl 3 rfl) ?_
  refine lv_iconst (v := iI 2) hx hb dL_law_808 rfl ?_
  refine lv_iadd hx hb dL_law_809 ?_
  obtain ⟨k2, hp⟩ := ck_i hp
  refine r_sld hx hb hX hbB hR k2 dL_law_810 ?_
  refine lv_aload_n hx hb dL_law_811 rfl (zl_at hl 4 rfl) ?_
  refine lv_iload hx hb dL_law_812 (zl_at hl 3 rfl) ?_
  refine lv_iconst (v := iI 3) hx hb dL_law_814 rfl ?_
  refine lv_iadd hx hb dL_law_815 ?_
  obtain ⟨k3, hp⟩ := ck_i hp
  refine r_sld hx hb hX hbB hR k3 dL_law_816 ?_
  refine z_aload_n hx hb dL_law_817 rfl (zl_at hl 2 rfl) ?_
  obtain ⟨r4, h5, er4, hp⟩ := bR_i hp
  refine r_callSH (n := 5) (As := [zr v1, .int (xs (v4 + (iI 1)).toNatClampNeg), .int (xs (v4 + (iI 2)).toNatClampNeg), .int (xs (v4 + (iI 3)).toNatClampNeg), zr v3]) (rest := []) C (c_L_ask l hfl G v1 (xs (v4 + (iI 1)).toNatClampNeg) (xs (v4 + (iI 2)).toNatClampNeg) (xs (v4 + (iI 3)).toNatClampNeg) v3 h r4 h5 er4) hR hL mw_704 mw_705 mw_0 mw_706 (by decide +kernel) (by decide) rfl (zl_size hl) rfl (by simp [zr_cat, in_cat]) dL_law_818 (st2 := [.int r4]) rfl (fun H locs cells slots hR hL => ?_)
  refine z_istore (lv' := [(5, .int r4), (1, zr v1), (2, zr v2), (3, zr v3), (4, .int v4), (0, .ref b)]) hx hb dL_law_821 hl (by decide) rfl (fun ls hl => ?_)
  refine z_aload_n hx hb dL_law_823 rfl (zl_at hl 2 rfl) ?_
  refine lv_aload_n hx hb dL_law_824 rfl (zl_at hl 5 rfl) ?_
  refine lv_iload hx hb dL_law_825 (zl_at hl 4 rfl) ?_
  refine lv_iconst (v := iI 1) hx hb dL_law_827 rfl ?_
  refine lv_iadd hx hb dL_law_828 ?_
  obtain ⟨k6, hp⟩ := ck_i hp
  refine r_sld hx hb hX hbB hR k6 dL_law_829 ?_
  refine lv_aload_n hx hb dL_law_830 rfl (zl_at hl 5 rfl) ?_
  refine lv_iload hx hb dL_law_831 (zl_at hl 4 rfl) ?_
  refine lv_iconst (v := iI 2) hx hb dL_law_833 rfl ?_
  refine lv_iadd hx hb dL_law_834 ?_
  obtain ⟨k7, hp⟩ := ck_i hp
  refine r_sld hx hb hX hbB hR k7 dL_law_835 ?_
  refine lv_aload_n hx hb dL_law_836 rfl (zl_at hl 5 rfl) ?_
  refine lv_iload hx hb dL_law_837 (zl_at hl 4 rfl) ?_
  refine lv_iconst (v := iI 3) hx hb dL_law_839 rfl ?_
  refine lv_iadd hx hb dL_law_840 ?_
  obtain ⟨k8, hp⟩ := ck_i hp
  refine r_sld hx hb hX hbB hR k8 dL_law_841 ?_
  obtain ⟨k9, hp⟩ := ck_i hp
  obtain ⟨r10, h11, er10, hp⟩ := bR_i hp
  refine r_callV (ci := 12) (r := (RX11, TX11, 32)) (n := 3) (As := [.int (xs (v4 + (iI 1)).toNatClampNeg), .int (xs (v4 + (iI 2)).toNatClampNeg), .int (xs (v4 + (iI 3)).toNatClampNeg)]) (rest := []) C (c_X11_ask l G v2 (xs (v4 + (iI 1)).toNatClampNeg) (xs (v4 + (iI 2)).toNatClampNeg) (xs (v4 + (iI 3)).toNatClampNeg) h5 r10 h11 er10) hR hL rfl k9 mw_1164 mw_1165 mw_1166 mw_10 mw_1167 (by decide +kernel) (by decide) rfl (zl_size hl) rfl (by simp [zr_cat, in_cat]) dL_law_842 (st2 := [.int r10]) rfl (fun H locs cells slots hR hL => ?_)
  refine z_istore (lv' := [(6, .int r10), (5, .int r4), (1, zr v1), (2, zr v2), (3, zr v3), (4, .int v4), (0, .ref b)]) hx hb dL_law_845 hl (by decide) rfl (fun ls hl => ?_)
  refine z_aload_n hx hb dL_law_847 rfl (zl_at hl 3 rfl) ?_
  obtain ⟨k12, hp⟩ := ck_i hp
  obtain ⟨r13, h14, er13, hp⟩ := bR_i hp
  refine r_callV (ci := 12) (r := (RX11, TX11, 32)) (n := 0) (As := []) (rest := []) C (c_X11_thrown l G v2 h11 r13 h14 er13) hR hL rfl k12 mw_1079 mw_1080 mw_1081 mw_10 mw_1082 (by decide +kernel) (by decide) rfl (zl_size hl) rfl (by simp [zr_cat, in_cat]) dL_law_848 (st2 := [.int r13]) rfl (fun H locs cells slots hR hL => ?_)
  refine lv_iload hx hb dL_law_851 (zl_at hl 1 rfl) ?_
  refine lv_icmp_eq (tgt := 858) hx hb dL_law_853 (by decide) (fun c15 => ?_) (fun c15 => ?_)
  · replace hp := ite_p hp c15
    refine lv_iload hx hb dL_law_858 (zl_at hl 1 rfl) ?_
    refine lv_if_ne (tgt := 875) hx hb dL_law_860 (by decide) (fun c16 => ?_) (fun c16 => ?_)
    · replace hp := ite_n hp c16
      exact s_L_law_875 hfl hX hbB hz0 hz1 hz2 C hk23 hR hL (zl_sub hl [2, 3, 4, 5, 6] rfl) hp
    · replace hp := ite_p hp c16
      refine z_aload_n hx hb dL_law_863 rfl (zl_at hl 4 rfl) ?_
      refine lv_iconst (v := iI 0) hx hb dL_law_864 rfl ?_
      obtain ⟨k17, hp⟩ := ck_i hp
      refine r_lald hx hb hK hR k17.1 k17.2 dL_law_865 ?_
      refine lv_iload hx hb dL_law_866 (zl_at hl 0 rfl) ?_
      refine lv_i2l (v := (r10).toInt64) hx hb dL_law_868 rfl ?_
      refine W.lcmp hx hb dL_law_869 ?_
      refine lv_if_eq (tgt := 875) hx hb dL_law_870 (by decide) (fun c19 => ?_) (fun c19 => ?_)
      · replace hp := ite_p hp c19
        exact s_L_law_875 hfl hX hbB hz0 hz1 hz2 C hk23 hR hL (zl_sub hl [2, 3, 4, 5, 6] rfl) hp
      · replace hp := ite_n hp c19
        refine lv_iconst (v := iI 0) hx hb dL_law_873 rfl ?_
        exact law_no hp
  · replace hp := ite_n hp c15
    refine lv_iconst (v := iI 0) hx hb dL_law_856 rfl ?_
    exact law_no hp
def p_L_law_931 (xs : Nat → Int32) (L : Nat) (k23 : Nat → Nat → Nat → Int32 → AH → Option (Int32 × AH)) (v1 : Nat) (v2 : Nat) (v3 : Nat) (v4 : Int32) (h : AH) : Option (Int32 × AH) :=
  p_L_law_1463 xs L k23 v1 v2 v3 v4 h
set_option maxHeartbeats 4000000 in
set_option maxRecDepth 100000 in
theorem s_L_law_931 {p : Program} {l : Launch} {e : Env} {s : State} {m : MethodId} {b L : Nat} {xs : Nat → Int32} {nm : String} {below : List Frame} {meth : Method} {c : Code} {G : GG} {hs : AH}  {h' : AH} (hfl : l.stackTraces = false) (hX : va_X b L xs s (gH G)) (hbB : b < gB G) (hz0 : s.heap.size = gB G) (hz1 : gC G - aZ hs = 601024) (hz2 : aU hs = 0) (C : Cx G hs p s m #[Value.ref b] meth c cL_law 7 RL lw_tbl (some .boolean) nm) {k23 : Nat → Nat → Nat → Int32 → AH → Option (Int32 × AH)} (hk23 : ∀ {v1 : Nat} {v2 : Nat} {v3 : Nat} {v4 : Int32} {h : AH} {H : Heap} {locs : List Loc} {cells slots : Nat} {ls : Array Slot}, Rp G h H → (∀ q ∈ locs, gB G ≤ q.base) → zl ls 7 [(1, zr v1), (2, zr v2), (3, zr v3), (4, .int v4), (0, .ref b)] → k23 v1 v2 v3 v4 h = some (iI 1, h') → W p l e (gR G hs 16 612) s m #[Value.ref b] below meth c H locs cells slots (lw_Z below #[Value.ref b] s) (F0 m 23 ls [])) {v1 : Nat} {v2 : Nat} {v3 : Nat} {v4 : Int32} {h : AH} {H : Heap} {locs : List Loc} {cells slots : Nat} {ls : Array Slot} (hR : Rp G h H) (hL : ∀ q ∈ locs, gB G ≤ q.base) (hl : zl ls 7 [(1, zr v1), (2, zr v2), (3, zr v3), (4, .int v4), (0, .ref b)]) (hp : p_L_law_931 xs L k23 v1 v2 v3 v4 h = some (iI 1, h')) : W p l e (gR G hs 16 612) s m #[Value.ref b] below meth c H locs cells slots (lw_Z below #[Value.ref b] s) (F0 m 931 ls []) := by
  obtain ⟨hx, hb, hml, hown, hts, hT, hK, rs, hlk, hret, hnm⟩ := id C
  have hm : ∀ w ∈ MW, w.before #[Value.ref b] s = true := fun w hw => hts w (hT w hw)
  unfold p_L_law_931 at hp
  refine lv_goto (tgt := 1463) hx hb dL_law_931 (by decide) ?_
  exact s_L_law_1463 hfl hX hbB hz0 hz1 hz2 C hk23 hR hL (zl_sub hl [0, 1, 2, 3, 4] rfl) hp
def p_L_law_878 (xs : Nat → Int32) (L : Nat) (k23 : Nat → Nat → Nat → Int32 → AH → Option (Int32 × AH)) (v1 : Nat) (v2 : Nat) (v3 : Nat) (v4 : Int32) (h : AH) : Option (Int32 × AH) :=
  ck (ix (v4 + (iI 1)) L) <|
  bR (p_L_come v1 (xs (v4 + (iI 1)).toNatClampNeg) v3 h) fun r2 h3 =>
  ck (ix (v4 + (iI 1)) L) <|
  ck (aK h3 v2 = 13) <|
  bR (p_X11_come v2 (xs (v4 + (iI 1)).toNatClampNeg) h3) fun r6 h7 =>
  ck (aK h7 v2 = 13) <|
  bR (p_X11_thrown v2 h7) fun r9 h10 =>
  if r9 = r2 then
    if r2 = 0 then
      ck (aK h10 v3 = 23 ∧ ix (iI 0) (aN h10 v3)) <|
      if (lg_cmp (aL h10 v3 (iI 0).toNatClampNeg) ((r6).toInt64)) = 0 then
        p_L_law_931 xs L k23 v1 v2 v3 v4 h10
      else
        some ((iI 0), h10)
    else
      p_L_law_931 xs L k23 v1 v2 v3 v4 h10
  else
    some ((iI 0), h10)
set_option maxHeartbeats 4000000 in
set_option maxRecDepth 100000 in
theorem s_L_law_878 {p : Program} {l : Launch} {e : Env} {s : State} {m : MethodId} {b L : Nat} {xs : Nat → Int32} {nm : String} {below : List Frame} {meth : Method} {c : Code} {G : GG} {hs : AH}  {h' : AH} (hfl : l.stackTraces = false) (hX : va_X b L xs s (gH G)) (hbB : b < gB G) (hz0 : s.heap.size = gB G) (hz1 : gC G - aZ hs = 601024) (hz2 : aU hs = 0) (C : Cx G hs p s m #[Value.ref b] meth c cL_law 7 RL lw_tbl (some .boolean) nm) {k23 : Nat → Nat → Nat → Int32 → AH → Option (Int32 × AH)} (hk23 : ∀ {v1 : Nat} {v2 : Nat} {v3 : Nat} {v4 : Int32} {h : AH} {H : Heap} {locs : List Loc} {cells slots : Nat} {ls : Array Slot}, Rp G h H → (∀ q ∈ locs, gB G ≤ q.base) → zl ls 7 [(1, zr v1), (2, zr v2), (3, zr v3), (4, .int v4), (0, .ref b)] → k23 v1 v2 v3 v4 h = some (iI 1, h') → W p l e (gR G hs 16 612) s m #[Value.ref b] below meth c H locs cells slots (lw_Z below #[Value.ref b] s) (F0 m 23 ls [])) {v1 : Nat} {v2 : Nat} {v3 : Nat} {v4 : Int32} {h : AH} {H : Heap} {locs : List Loc} {cells slots : Nat} {ls : Array Slot} (hR : Rp G h H) (hL : ∀ q ∈ locs, gB G ≤ q.base) (hl : zl ls 7 [(1, zr v1), (2, zr v2), (3, zr v3), (4, .int v4), (0, .ref b)]) (hp : p_L_law_878 xs L k23 v1 v2 v3 v4 h = some (iI 1, h')) : W p l e (gR G hs 16 612) s m #[Value.ref b] below meth c H locs cells slots (lw_Z below #[Value.ref b] s) (F0 m 878 ls []) := by
  obtain ⟨hx, hb, hml, hown, hts, hT, hK, rs, hlk, hret, hnm⟩ := id C
  have hm : ∀ w ∈ MW, w.before #[Value.ref b] s = true := fun w hw => hts w (hT w hw)
  unfold p_L_law_878 at hp
  refine z_aload_n hx hb dL_law_878 rfl (zl_at hl 0 rfl) ?_
  refine lv_aload_n hx hb dL_law_879 rfl (zl_at hl 4 rfl) ?_
  refine lv_iload hx hb dL_law_880 (zl_at hl 3 rfl) ?_
  refine lv_iconst (v := iI 1) hx hb dL_law_882 rfl ?_
  refine lv_iadd hx hb dL_law_883 ?_
  obtain ⟨k1, hp⟩ := ck_i hp
  refine r_sld hx hb hX hbB hR k1 dL_law_884 ?_
  refine z_aload_n hx hb dL_law_885 rfl (zl_at hl 2 rfl) ?_
  obtain ⟨r2, h3, er2, hp⟩ := bR_i hp
  refine r_callSH (n := 3) (As := [zr v1, .int (xs (v4 + (iI 1)).toNatClampNeg), zr v3]) (rest := []) C (c_L_come l hfl G v1 (xs (v4 + (iI 1)).toNatClampNeg) v3 h r2 h3 er2) hR hL mw_838 mw_839 mw_0 mw_840 (by decide +kernel) (by decide) rfl (zl_size hl) rfl (by simp [zr_cat, in_cat]) dL_law_886 (st2 := [.int r2]) rfl (fun H locs cells slots hR hL => ?_)
  refine z_istore (lv' := [(5, .int r2), (1, zr v1), (2, zr v2), (3, zr v3), (4, .int v4), (0, .ref b)]) hx hb dL_law_889 hl (by decide) rfl (fun ls hl => ?_)
  refine z_aload_n hx hb dL_law_891 rfl (zl_at hl 2 rfl) ?_
  refine lv_aload_n hx hb dL_law_892 rfl (zl_at hl 5 rfl) ?_
  refine lv_iload hx hb dL_law_893 (zl_at hl 4 rfl) ?_
  refine lv_iconst (v := iI 1) hx hb dL_law_895 rfl ?_
  refine lv_iadd hx hb dL_law_896 ?_
  obtain ⟨k4, hp⟩ := ck_i hp
  refine r_sld hx hb hX hbB hR k4 dL_law_897 ?_
  obtain ⟨k5, hp⟩ := ck_i hp
  obtain ⟨r6, h7, er6, hp⟩ := bR_i hp
  refine r_callV (ci := 12) (r := (RX11, TX11, 32)) (n := 1) (As := [.int (xs (v4 + (iI 1)).toNatClampNeg)]) (rest := []) C (c_X11_come l G v2 (xs (v4 + (iI 1)).toNatClampNeg) h3 r6 h7 er6) hR hL rfl k5 mw_1196 mw_1197 mw_1198 mw_10 mw_1199 (by decide +kernel) (by decide) rfl (zl_size hl) rfl (by simp [zr_cat, in_cat]) dL_law_898 (st2 := [.int r6]) rfl (fun H locs cells slots hR hL => ?_)
  refine z_istore (lv' := [(6, .int r6), (5, .int r2), (1, zr v1), (2, zr v2), (3, zr v3), (4, .int v4), (0, .ref b)]) hx hb dL_law_901 hl (by decide) rfl (fun ls hl => ?_)
  refine z_aload_n hx hb dL_law_903 rfl (zl_at hl 3 rfl) ?_
  obtain ⟨k8, hp⟩ := ck_i hp
  obtain ⟨r9, h10, er9, hp⟩ := bR_i hp
  refine r_callV (ci := 12) (r := (RX11, TX11, 32)) (n := 0) (As := []) (rest := []) C (c_X11_thrown l G v2 h7 r9 h10 er9) hR hL rfl k8 mw_1079 mw_1080 mw_1081 mw_10 mw_1082 (by decide +kernel) (by decide) rfl (zl_size hl) rfl (by simp [zr_cat, in_cat]) dL_law_904 (st2 := [.int r9]) rfl (fun H locs cells slots hR hL => ?_)
  refine lv_iload hx hb dL_law_907 (zl_at hl 1 rfl) ?_
  refine lv_icmp_eq (tgt := 914) hx hb dL_law_909 (by decide) (fun c11 => ?_) (fun c11 => ?_)
  · replace hp := ite_p hp c11
    refine lv_iload hx hb dL_law_914 (zl_at hl 1 rfl) ?_
    refine lv_if_ne (tgt := 931) hx hb dL_law_916 (by decide) (fun c12 => ?_) (fun c12 => ?_)
    · replace hp := ite_n hp c12
      exact s_L_law_931 hfl hX hbB hz0 hz1 hz2 C hk23 hR hL (zl_sub hl [2, 3, 4, 5, 6] rfl) hp
    · replace hp := ite_p hp c12
      refine z_aload_n hx hb dL_law_919 rfl (zl_at hl 4 rfl) ?_
      refine lv_iconst (v := iI 0) hx hb dL_law_920 rfl ?_
      obtain ⟨k13, hp⟩ := ck_i hp
      refine r_lald hx hb hK hR k13.1 k13.2 dL_law_921 ?_
      refine lv_iload hx hb dL_law_922 (zl_at hl 0 rfl) ?_
      refine lv_i2l (v := (r6).toInt64) hx hb dL_law_924 rfl ?_
      refine W.lcmp hx hb dL_law_925 ?_
      refine lv_if_eq (tgt := 931) hx hb dL_law_926 (by decide) (fun c15 => ?_) (fun c15 => ?_)
      · replace hp := ite_p hp c15
        exact s_L_law_931 hfl hX hbB hz0 hz1 hz2 C hk23 hR hL (zl_sub hl [2, 3, 4, 5, 6] rfl) hp
      · replace hp := ite_n hp c15
        refine lv_iconst (v := iI 0) hx hb dL_law_929 rfl ?_
        exact law_no hp
  · replace hp := ite_n hp c11
    refine lv_iconst (v := iI 0) hx hb dL_law_912 rfl ?_
    exact law_no hp
def p_L_law_987 (xs : Nat → Int32) (L : Nat) (k23 : Nat → Nat → Nat → Int32 → AH → Option (Int32 × AH)) (v1 : Nat) (v2 : Nat) (v3 : Nat) (v4 : Int32) (h : AH) : Option (Int32 × AH) :=
  p_L_law_1463 xs L k23 v1 v2 v3 v4 h
set_option maxHeartbeats 4000000 in
set_option maxRecDepth 100000 in
theorem s_L_law_987 {p : Program} {l : Launch} {e : Env} {s : State} {m : MethodId} {b L : Nat} {xs : Nat → Int32} {nm : String} {below : List Frame} {meth : Method} {c : Code} {G : GG} {hs : AH}  {h' : AH} (hfl : l.stackTraces = false) (hX : va_X b L xs s (gH G)) (hbB : b < gB G) (hz0 : s.heap.size = gB G) (hz1 : gC G - aZ hs = 601024) (hz2 : aU hs = 0) (C : Cx G hs p s m #[Value.ref b] meth c cL_law 7 RL lw_tbl (some .boolean) nm) {k23 : Nat → Nat → Nat → Int32 → AH → Option (Int32 × AH)} (hk23 : ∀ {v1 : Nat} {v2 : Nat} {v3 : Nat} {v4 : Int32} {h : AH} {H : Heap} {locs : List Loc} {cells slots : Nat} {ls : Array Slot}, Rp G h H → (∀ q ∈ locs, gB G ≤ q.base) → zl ls 7 [(1, zr v1), (2, zr v2), (3, zr v3), (4, .int v4), (0, .ref b)] → k23 v1 v2 v3 v4 h = some (iI 1, h') → W p l e (gR G hs 16 612) s m #[Value.ref b] below meth c H locs cells slots (lw_Z below #[Value.ref b] s) (F0 m 23 ls [])) {v1 : Nat} {v2 : Nat} {v3 : Nat} {v4 : Int32} {h : AH} {H : Heap} {locs : List Loc} {cells slots : Nat} {ls : Array Slot} (hR : Rp G h H) (hL : ∀ q ∈ locs, gB G ≤ q.base) (hl : zl ls 7 [(1, zr v1), (2, zr v2), (3, zr v3), (4, .int v4), (0, .ref b)]) (hp : p_L_law_987 xs L k23 v1 v2 v3 v4 h = some (iI 1, h')) : W p l e (gR G hs 16 612) s m #[Value.ref b] below meth c H locs cells slots (lw_Z below #[Value.ref b] s) (F0 m 987 ls []) := by
  obtain ⟨hx, hb, hml, hown, hts, hT, hK, rs, hlk, hret, hnm⟩ := id C
  have hm : ∀ w ∈ MW, w.before #[Value.ref b] s = true := fun w hw => hts w (hT w hw)
  unfold p_L_law_987 at hp
  refine lv_goto (tgt := 1463) hx hb dL_law_987 (by decide) ?_
  exact s_L_law_1463 hfl hX hbB hz0 hz1 hz2 C hk23 hR hL (zl_sub hl [0, 1, 2, 3, 4] rfl) hp
def p_L_law_934 (xs : Nat → Int32) (L : Nat) (k23 : Nat → Nat → Nat → Int32 → AH → Option (Int32 × AH)) (v1 : Nat) (v2 : Nat) (v3 : Nat) (v4 : Int32) (h : AH) : Option (Int32 × AH) :=
  ck (ix (v4 + (iI 1)) L) <|
  bR (p_L_drop v1 (xs (v4 + (iI 1)).toNatClampNeg) v3 h) fun r2 h3 =>
  ck (ix (v4 + (iI 1)) L) <|
  ck (aK h3 v2 = 13) <|
  bR (p_X11_drop v2 (xs (v4 + (iI 1)).toNatClampNeg) h3) fun r6 h7 =>
  ck (aK h7 v2 = 13) <|
  bR (p_X11_thrown v2 h7) fun r9 h10 =>
  if r9 = r2 then
    if r2 = 0 then
      ck (aK h10 v3 = 23 ∧ ix (iI 0) (aN h10 v3)) <|
      if (lg_cmp (aL h10 v3 (iI 0).toNatClampNeg) ((r6).toInt64)) = 0 then
        p_L_law_987 xs L k23 v1 v2 v3 v4 h10
      else
        some ((iI 0), h10)
    else
      p_L_law_987 xs L k23 v1 v2 v3 v4 h10
  else
    some ((iI 0), h10)
set_option maxHeartbeats 4000000 in
set_option maxRecDepth 100000 in
theorem s_L_law_934 {p : Program} {l : Launch} {e : Env} {s : State} {m : MethodId} {b L : Nat} {xs : Nat → Int32} {nm : String} {below : List Frame} {meth : Method} {c : Code} {G : GG} {hs : AH}  {h' : AH} (hfl : l.stackTraces = false) (hX : va_X b L xs s (gH G)) (hbB : b < gB G) (hz0 : s.heap.size = gB G) (hz1 : gC G - aZ hs = 601024) (hz2 : aU hs = 0) (C : Cx G hs p s m #[Value.ref b] meth c cL_law 7 RL lw_tbl (some .boolean) nm) {k23 : Nat → Nat → Nat → Int32 → AH → Option (Int32 × AH)} (hk23 : ∀ {v1 : Nat} {v2 : Nat} {v3 : Nat} {v4 : Int32} {h : AH} {H : Heap} {locs : List Loc} {cells slots : Nat} {ls : Array Slot}, Rp G h H → (∀ q ∈ locs, gB G ≤ q.base) → zl ls 7 [(1, zr v1), (2, zr v2), (3, zr v3), (4, .int v4), (0, .ref b)] → k23 v1 v2 v3 v4 h = some (iI 1, h') → W p l e (gR G hs 16 612) s m #[Value.ref b] below meth c H locs cells slots (lw_Z below #[Value.ref b] s) (F0 m 23 ls [])) {v1 : Nat} {v2 : Nat} {v3 : Nat} {v4 : Int32} {h : AH} {H : Heap} {locs : List Loc} {cells slots : Nat} {ls : Array Slot} (hR : Rp G h H) (hL : ∀ q ∈ locs, gB G ≤ q.base) (hl : zl ls 7 [(1, zr v1), (2, zr v2), (3, zr v3), (4, .int v4), (0, .ref b)]) (hp : p_L_law_934 xs L k23 v1 v2 v3 v4 h = some (iI 1, h')) : W p l e (gR G hs 16 612) s m #[Value.ref b] below meth c H locs cells slots (lw_Z below #[Value.ref b] s) (F0 m 934 ls []) := by
  obtain ⟨hx, hb, hml, hown, hts, hT, hK, rs, hlk, hret, hnm⟩ := id C
  have hm : ∀ w ∈ MW, w.before #[Value.ref b] s = true := fun w hw => hts w (hT w hw)
  unfold p_L_law_934 at hp
  refine z_aload_n hx hb dL_law_934 rfl (zl_at hl 0 rfl) ?_
  refine lv_aload_n hx hb dL_law_935 rfl (zl_at hl 4 rfl) ?_
  refine lv_iload hx hb dL_law_936 (zl_at hl 3 rfl) ?_
  refine lv_iconst (v := iI 1) hx hb dL_law_938 rfl ?_
  refine lv_iadd hx hb dL_law_939 ?_
  obtain ⟨k1, hp⟩ := ck_i hp
  refine r_sld hx hb hX hbB hR k1 dL_law_940 ?_
  refine z_aload_n hx hb dL_law_941 rfl (zl_at hl 2 rfl) ?_
  obtain ⟨r2, h3, er2, hp⟩ := bR_i hp
  refine r_callSH (n := 3) (As := [zr v1, .int (xs (v4 + (iI 1)).toNatClampNeg), zr v3]) (rest := []) C (c_L_drop l hfl G v1 (xs (v4 + (iI 1)).toNatClampNeg) v3 h r2 h3 er2) hR hL mw_896 mw_897 mw_0 mw_898 (by decide +kernel) (by decide) rfl (zl_size hl) rfl (by simp [zr_cat, in_cat]) dL_law_942 (st2 := [.int r2]) rfl (fun H locs cells slots hR hL => ?_)
  refine z_istore (lv' := [(5, .int r2), (1, zr v1), (2, zr v2), (3, zr v3), (4, .int v4), (0, .ref b)]) hx hb dL_law_945 hl (by decide) rfl (fun ls hl => ?_)
  refine z_aload_n hx hb dL_law_947 rfl (zl_at hl 2 rfl) ?_
  refine lv_aload_n hx hb dL_law_948 rfl (zl_at hl 5 rfl) ?_
  refine lv_iload hx hb dL_law_949 (zl_at hl 4 rfl) ?_
  refine lv_iconst (v := iI 1) hx hb dL_law_951 rfl ?_
  refine lv_iadd hx hb dL_law_952 ?_
  obtain ⟨k4, hp⟩ := ck_i hp
  refine r_sld hx hb hX hbB hR k4 dL_law_953 ?_
  obtain ⟨k5, hp⟩ := ck_i hp
  obtain ⟨r6, h7, er6, hp⟩ := bR_i hp
  refine r_callV (ci := 12) (r := (RX11, TX11, 32)) (n := 1) (As := [.int (xs (v4 + (iI 1)).toNatClampNeg)]) (rest := []) C (c_X11_drop l G v2 (xs (v4 + (iI 1)).toNatClampNeg) h3 r6 h7 er6) hR hL rfl k5 mw_1216 mw_1217 mw_1218 mw_10 mw_1219 (by decide +kernel) (by decide) rfl (zl_size hl) rfl (by simp [zr_cat, in_cat]) dL_law_954 (st2 := [.int r6]) rfl (fun H locs cells slots hR hL => ?_)
  refine z_istore (lv' := [(6, .int r6), (5, .int r2), (1, zr v1), (2, zr v2), (3, zr v3), (4, .int v4), (0, .ref b)]) hx hb dL_law_957 hl (by decide) rfl (fun ls hl => ?_)
  refine z_aload_n hx hb dL_law_959 rfl (zl_at hl 3 rfl) ?_
  obtain ⟨k8, hp⟩ := ck_i hp
  obtain ⟨r9, h10, er9, hp⟩ := bR_i hp
  refine r_callV (ci := 12) (r := (RX11, TX11, 32)) (n := 0) (As := []) (rest := []) C (c_X11_thrown l G v2 h7 r9 h10 er9) hR hL rfl k8 mw_1079 mw_1080 mw_1081 mw_10 mw_1082 (by decide +kernel) (by decide) rfl (zl_size hl) rfl (by simp [zr_cat, in_cat]) dL_law_960 (st2 := [.int r9]) rfl (fun H locs cells slots hR hL => ?_)
  refine lv_iload hx hb dL_law_963 (zl_at hl 1 rfl) ?_
  refine lv_icmp_eq (tgt := 970) hx hb dL_law_965 (by decide) (fun c11 => ?_) (fun c11 => ?_)
  · replace hp := ite_p hp c11
    refine lv_iload hx hb dL_law_970 (zl_at hl 1 rfl) ?_
    refine lv_if_ne (tgt := 987) hx hb dL_law_972 (by decide) (fun c12 => ?_) (fun c12 => ?_)
    · replace hp := ite_n hp c12
      exact s_L_law_987 hfl hX hbB hz0 hz1 hz2 C hk23 hR hL (zl_sub hl [2, 3, 4, 5, 6] rfl) hp
    · replace hp := ite_p hp c12
      refine z_aload_n hx hb dL_law_975 rfl (zl_at hl 4 rfl) ?_
      refine lv_iconst (v := iI 0) hx hb dL_law_976 rfl ?_
      obtain ⟨k13, hp⟩ := ck_i hp
      refine r_lald hx hb hK hR k13.1 k13.2 dL_law_977 ?_
      refine lv_iload hx hb dL_law_978 (zl_at hl 0 rfl) ?_
      refine lv_i2l (v := (r6).toInt64) hx hb dL_law_980 rfl ?_
      refine W.lcmp hx hb dL_law_981 ?_
      refine lv_if_eq (tgt := 987) hx hb dL_law_982 (by decide) (fun c15 => ?_) (fun c15 => ?_)
      · replace hp := ite_p hp c15
        exact s_L_law_987 hfl hX hbB hz0 hz1 hz2 C hk23 hR hL (zl_sub hl [2, 3, 4, 5, 6] rfl) hp
      · replace hp := ite_n hp c15
        refine lv_iconst (v := iI 0) hx hb dL_law_985 rfl ?_
        exact law_no hp
  · replace hp := ite_n hp c11
    refine lv_iconst (v := iI 0) hx hb dL_law_968 rfl ?_
    exact law_no hp
def p_L_law_1043 (xs : Nat → Int32) (L : Nat) (k23 : Nat → Nat → Nat → Int32 → AH → Option (Int32 × AH)) (v1 : Nat) (v2 : Nat) (v3 : Nat) (v4 : Int32) (h : AH) : Option (Int32 × AH) :=
  p_L_law_1463 xs L k23 v1 v2 v3 v4 h
set_option maxHeartbeats 4000000 in
set_option maxRecDepth 100000 in
theorem s_L_law_1043 {p : Program} {l : Launch} {e : Env} {s : State} {m : MethodId} {b L : Nat} {xs : Nat → Int32} {nm : String} {below : List Frame} {meth : Method} {c : Code} {G : GG} {hs : AH}  {h' : AH} (hfl : l.stackTraces = false) (hX : va_X b L xs s (gH G)) (hbB : b < gB G) (hz0 : s.heap.size = gB G) (hz1 : gC G - aZ hs = 601024) (hz2 : aU hs = 0) (C : Cx G hs p s m #[Value.ref b] meth c cL_law 7 RL lw_tbl (some .boolean) nm) {k23 : Nat → Nat → Nat → Int32 → AH → Option (Int32 × AH)} (hk23 : ∀ {v1 : Nat} {v2 : Nat} {v3 : Nat} {v4 : Int32} {h : AH} {H : Heap} {locs : List Loc} {cells slots : Nat} {ls : Array Slot}, Rp G h H → (∀ q ∈ locs, gB G ≤ q.base) → zl ls 7 [(1, zr v1), (2, zr v2), (3, zr v3), (4, .int v4), (0, .ref b)] → k23 v1 v2 v3 v4 h = some (iI 1, h') → W p l e (gR G hs 16 612) s m #[Value.ref b] below meth c H locs cells slots (lw_Z below #[Value.ref b] s) (F0 m 23 ls [])) {v1 : Nat} {v2 : Nat} {v3 : Nat} {v4 : Int32} {h : AH} {H : Heap} {locs : List Loc} {cells slots : Nat} {ls : Array Slot} (hR : Rp G h H) (hL : ∀ q ∈ locs, gB G ≤ q.base) (hl : zl ls 7 [(1, zr v1), (2, zr v2), (3, zr v3), (4, .int v4), (0, .ref b)]) (hp : p_L_law_1043 xs L k23 v1 v2 v3 v4 h = some (iI 1, h')) : W p l e (gR G hs 16 612) s m #[Value.ref b] below meth c H locs cells slots (lw_Z below #[Value.ref b] s) (F0 m 1043 ls []) := by
  obtain ⟨hx, hb, hml, hown, hts, hT, hK, rs, hlk, hret, hnm⟩ := id C
  have hm : ∀ w ∈ MW, w.before #[Value.ref b] s = true := fun w hw => hts w (hT w hw)
  unfold p_L_law_1043 at hp
  refine lv_goto (tgt := 1463) hx hb dL_law_1043 (by decide) ?_
  exact s_L_law_1463 hfl hX hbB hz0 hz1 hz2 C hk23 hR hL (zl_sub hl [0, 1, 2, 3, 4] rfl) hp
def p_L_law_990 (xs : Nat → Int32) (L : Nat) (k23 : Nat → Nat → Nat → Int32 → AH → Option (Int32 × AH)) (v1 : Nat) (v2 : Nat) (v3 : Nat) (v4 : Int32) (h : AH) : Option (Int32 × AH) :=
  ck (ix (v4 + (iI 1)) L) <|
  bR (p_L_state v1 (xs (v4 + (iI 1)).toNatClampNeg) v3 h) fun r2 h3 =>
  ck (ix (v4 + (iI 1)) L) <|
  ck (aK h3 v2 = 13) <|
  bR (p_X11_state v2 (xs (v4 + (iI 1)).toNatClampNeg) h3) fun r6 h7 =>
  ck (aK h7 v2 = 13) <|
  bR (p_X11_thrown v2 h7) fun r9 h10 =>
  if r9 = r2 then
    if r2 = 0 then
      ck (aK h10 v3 = 23 ∧ ix (iI 0) (aN h10 v3)) <|
      if (lg_cmp (aL h10 v3 (iI 0).toNatClampNeg) ((r6).toInt64)) = 0 then
        p_L_law_1043 xs L k23 v1 v2 v3 v4 h10
      else
        some ((iI 0), h10)
    else
      p_L_law_1043 xs L k23 v1 v2 v3 v4 h10
  else
    some ((iI 0), h10)
set_option maxHeartbeats 4000000 in
set_option maxRecDepth 100000 in
theorem s_L_law_990 {p : Program} {l : Launch} {e : Env} {s : State} {m : MethodId} {b L : Nat} {xs : Nat → Int32} {nm : String} {below : List Frame} {meth : Method} {c : Code} {G : GG} {hs : AH}  {h' : AH} (hfl : l.stackTraces = false) (hX : va_X b L xs s (gH G)) (hbB : b < gB G) (hz0 : s.heap.size = gB G) (hz1 : gC G - aZ hs = 601024) (hz2 : aU hs = 0) (C : Cx G hs p s m #[Value.ref b] meth c cL_law 7 RL lw_tbl (some .boolean) nm) {k23 : Nat → Nat → Nat → Int32 → AH → Option (Int32 × AH)} (hk23 : ∀ {v1 : Nat} {v2 : Nat} {v3 : Nat} {v4 : Int32} {h : AH} {H : Heap} {locs : List Loc} {cells slots : Nat} {ls : Array Slot}, Rp G h H → (∀ q ∈ locs, gB G ≤ q.base) → zl ls 7 [(1, zr v1), (2, zr v2), (3, zr v3), (4, .int v4), (0, .ref b)] → k23 v1 v2 v3 v4 h = some (iI 1, h') → W p l e (gR G hs 16 612) s m #[Value.ref b] below meth c H locs cells slots (lw_Z below #[Value.ref b] s) (F0 m 23 ls [])) {v1 : Nat} {v2 : Nat} {v3 : Nat} {v4 : Int32} {h : AH} {H : Heap} {locs : List Loc} {cells slots : Nat} {ls : Array Slot} (hR : Rp G h H) (hL : ∀ q ∈ locs, gB G ≤ q.base) (hl : zl ls 7 [(1, zr v1), (2, zr v2), (3, zr v3), (4, .int v4), (0, .ref b)]) (hp : p_L_law_990 xs L k23 v1 v2 v3 v4 h = some (iI 1, h')) : W p l e (gR G hs 16 612) s m #[Value.ref b] below meth c H locs cells slots (lw_Z below #[Value.ref b] s) (F0 m 990 ls []) := by
  obtain ⟨hx, hb, hml, hown, hts, hT, hK, rs, hlk, hret, hnm⟩ := id C
  have hm : ∀ w ∈ MW, w.before #[Value.ref b] s = true := fun w hw => hts w (hT w hw)
  unfold p_L_law_990 at hp
  refine z_aload_n hx hb dL_law_990 rfl (zl_at hl 0 rfl) ?_
  refine lv_aload_n hx hb dL_law_991 rfl (zl_at hl 4 rfl) ?_
  refine lv_iload hx hb dL_law_992 (zl_at hl 3 rfl) ?_
  refine lv_iconst (v := iI 1) hx hb dL_law_994 rfl ?_
  refine lv_iadd hx hb dL_law_995 ?_
  obtain ⟨k1, hp⟩ := ck_i hp
  refine r_sld hx hb hX hbB hR k1 dL_law_996 ?_
  refine z_aload_n hx hb dL_law_997 rfl (zl_at hl 2 rfl) ?_
  obtain ⟨r2, h3, er2, hp⟩ := bR_i hp
  refine r_callSH (n := 3) (As := [zr v1, .int (xs (v4 + (iI 1)).toNatClampNeg), zr v3]) (rest := []) C (c_L_state l hfl G v1 (xs (v4 + (iI 1)).toNatClampNeg) v3 h r2 h3 er2) hR hL mw_903 mw_904 mw_0 mw_905 (by decide +kernel) (by decide) rfl (zl_size hl) rfl (by simp [zr_cat, in_cat]) dL_law_998 (st2 := [.int r2]) rfl (fun H locs cells slots hR hL => ?_)
  refine z_istore (lv' := [(5, .int r2), (1, zr v1), (2, zr v2), (3, zr v3), (4, .int v4), (0, .ref b)]) hx hb dL_law_1001 hl (by decide) rfl (fun ls hl => ?_)
  refine z_aload_n hx hb dL_law_1003 rfl (zl_at hl 2 rfl) ?_
  refine lv_aload_n hx hb dL_law_1004 rfl (zl_at hl 5 rfl) ?_
  refine lv_iload hx hb dL_law_1005 (zl_at hl 4 rfl) ?_
  refine lv_iconst (v := iI 1) hx hb dL_law_1007 rfl ?_
  refine lv_iadd hx hb dL_law_1008 ?_
  obtain ⟨k4, hp⟩ := ck_i hp
  refine r_sld hx hb hX hbB hR k4 dL_law_1009 ?_
  obtain ⟨k5, hp⟩ := ck_i hp
  obtain ⟨r6, h7, er6, hp⟩ := bR_i hp
  refine r_callV (ci := 12) (r := (RX11, TX11, 32)) (n := 1) (As := [.int (xs (v4 + (iI 1)).toNatClampNeg)]) (rest := []) C (c_X11_state l G v2 (xs (v4 + (iI 1)).toNatClampNeg) h3 r6 h7 er6) hR hL rfl k5 mw_1220 mw_1221 mw_1222 mw_10 mw_1223 (by decide +kernel) (by decide) rfl (zl_size hl) rfl (by simp [zr_cat, in_cat]) dL_law_1010 (st2 := [.int r6]) rfl (fun H locs cells slots hR hL => ?_)
  refine z_istore (lv' := [(6, .int r6), (5, .int r2), (1, zr v1), (2, zr v2), (3, zr v3), (4, .int v4), (0, .ref b)]) hx hb dL_law_1013 hl (by decide) rfl (fun ls hl => ?_)
  refine z_aload_n hx hb dL_law_1015 rfl (zl_at hl 3 rfl) ?_
  obtain ⟨k8, hp⟩ := ck_i hp
  obtain ⟨r9, h10, er9, hp⟩ := bR_i hp
  refine r_callV (ci := 12) (r := (RX11, TX11, 32)) (n := 0) (As := []) (rest := []) C (c_X11_thrown l G v2 h7 r9 h10 er9) hR hL rfl k8 mw_1079 mw_1080 mw_1081 mw_10 mw_1082 (by decide +kernel) (by decide) rfl (zl_size hl) rfl (by simp [zr_cat, in_cat]) dL_law_1016 (st2 := [.int r9]) rfl (fun H locs cells slots hR hL => ?_)
  refine lv_iload hx hb dL_law_1019 (zl_at hl 1 rfl) ?_
  refine lv_icmp_eq (tgt := 1026) hx hb dL_law_1021 (by decide) (fun c11 => ?_) (fun c11 => ?_)
  · replace hp := ite_p hp c11
    refine lv_iload hx hb dL_law_1026 (zl_at hl 1 rfl) ?_
    refine lv_if_ne (tgt := 1043) hx hb dL_law_1028 (by decide) (fun c12 => ?_) (fun c12 => ?_)
    · replace hp := ite_n hp c12
      exact s_L_law_1043 hfl hX hbB hz0 hz1 hz2 C hk23 hR hL (zl_sub hl [2, 3, 4, 5, 6] rfl) hp
    · replace hp := ite_p hp c12
      refine z_aload_n hx hb dL_law_1031 rfl (zl_at hl 4 rfl) ?_
      refine lv_iconst (v := iI 0) hx hb dL_law_1032 rfl ?_
      obtain ⟨k13, hp⟩ := ck_i hp
      refine r_lald hx hb hK hR k13.1 k13.2 dL_law_1033 ?_
      refine lv_iload hx hb dL_law_1034 (zl_at hl 0 rfl) ?_
      refine lv_i2l (v := (r6).toInt64) hx hb dL_law_1036 rfl ?_
      refine W.lcmp hx hb dL_law_1037 ?_
      refine lv_if_eq (tgt := 1043) hx hb dL_law_1038 (by decide) (fun c15 => ?_) (fun c15 => ?_)
      · replace hp := ite_p hp c15
        exact s_L_law_1043 hfl hX hbB hz0 hz1 hz2 C hk23 hR hL (zl_sub hl [2, 3, 4, 5, 6] rfl) hp
      · replace hp := ite_n hp c15
        refine lv_iconst (v := iI 0) hx hb dL_law_1041 rfl ?_
        exact law_no hp
  · replace hp := ite_n hp c11
    refine lv_iconst (v := iI 0) hx hb dL_law_1024 rfl ?_
    exact law_no hp
def p_L_law_1099 (xs : Nat → Int32) (L : Nat) (k23 : Nat → Nat → Nat → Int32 → AH → Option (Int32 × AH)) (v1 : Nat) (v2 : Nat) (v3 : Nat) (v4 : Int32) (h : AH) : Option (Int32 × AH) :=
  p_L_law_1463 xs L k23 v1 v2 v3 v4 h
set_option maxHeartbeats 4000000 in
set_option maxRecDepth 100000 in
theorem s_L_law_1099 {p : Program} {l : Launch} {e : Env} {s : State} {m : MethodId} {b L : Nat} {xs : Nat → Int32} {nm : String} {below : List Frame} {meth : Method} {c : Code} {G : GG} {hs : AH}  {h' : AH} (hfl : l.stackTraces = false) (hX : va_X b L xs s (gH G)) (hbB : b < gB G) (hz0 : s.heap.size = gB G) (hz1 : gC G - aZ hs = 601024) (hz2 : aU hs = 0) (C : Cx G hs p s m #[Value.ref b] meth c cL_law 7 RL lw_tbl (some .boolean) nm) {k23 : Nat → Nat → Nat → Int32 → AH → Option (Int32 × AH)} (hk23 : ∀ {v1 : Nat} {v2 : Nat} {v3 : Nat} {v4 : Int32} {h : AH} {H : Heap} {locs : List Loc} {cells slots : Nat} {ls : Array Slot}, Rp G h H → (∀ q ∈ locs, gB G ≤ q.base) → zl ls 7 [(1, zr v1), (2, zr v2), (3, zr v3), (4, .int v4), (0, .ref b)] → k23 v1 v2 v3 v4 h = some (iI 1, h') → W p l e (gR G hs 16 612) s m #[Value.ref b] below meth c H locs cells slots (lw_Z below #[Value.ref b] s) (F0 m 23 ls [])) {v1 : Nat} {v2 : Nat} {v3 : Nat} {v4 : Int32} {h : AH} {H : Heap} {locs : List Loc} {cells slots : Nat} {ls : Array Slot} (hR : Rp G h H) (hL : ∀ q ∈ locs, gB G ≤ q.base) (hl : zl ls 7 [(1, zr v1), (2, zr v2), (3, zr v3), (4, .int v4), (0, .ref b)]) (hp : p_L_law_1099 xs L k23 v1 v2 v3 v4 h = some (iI 1, h')) : W p l e (gR G hs 16 612) s m #[Value.ref b] below meth c H locs cells slots (lw_Z below #[Value.ref b] s) (F0 m 1099 ls []) := by
  obtain ⟨hx, hb, hml, hown, hts, hT, hK, rs, hlk, hret, hnm⟩ := id C
  have hm : ∀ w ∈ MW, w.before #[Value.ref b] s = true := fun w hw => hts w (hT w hw)
  unfold p_L_law_1099 at hp
  refine lv_goto (tgt := 1463) hx hb dL_law_1099 (by decide) ?_
  exact s_L_law_1463 hfl hX hbB hz0 hz1 hz2 C hk23 hR hL (zl_sub hl [0, 1, 2, 3, 4] rfl) hp
def p_L_law_1046 (xs : Nat → Int32) (L : Nat) (k23 : Nat → Nat → Nat → Int32 → AH → Option (Int32 × AH)) (v1 : Nat) (v2 : Nat) (v3 : Nat) (v4 : Int32) (h : AH) : Option (Int32 × AH) :=
  ck (ix (v4 + (iI 1)) L) <|
  bR (p_L_spared v1 (xs (v4 + (iI 1)).toNatClampNeg) v3 h) fun r2 h3 =>
  ck (ix (v4 + (iI 1)) L) <|
  ck (aK h3 v2 = 13) <|
  bR (p_X11_spared v2 (xs (v4 + (iI 1)).toNatClampNeg) h3) fun r6 h7 =>
  ck (aK h7 v2 = 13) <|
  bR (p_X11_thrown v2 h7) fun r9 h10 =>
  if r9 = r2 then
    if r2 = 0 then
      ck (aK h10 v3 = 23 ∧ ix (iI 0) (aN h10 v3)) <|
      if (lg_cmp (aL h10 v3 (iI 0).toNatClampNeg) ((r6).toInt64)) = 0 then
        p_L_law_1099 xs L k23 v1 v2 v3 v4 h10
      else
        some ((iI 0), h10)
    else
      p_L_law_1099 xs L k23 v1 v2 v3 v4 h10
  else
    some ((iI 0), h10)
set_option maxHeartbeats 4000000 in
set_option maxRecDepth 100000 in
theorem s_L_law_1046 {p : Program} {l : Launch} {e : Env} {s : State} {m : MethodId} {b L : Nat} {xs : Nat → Int32} {nm : String} {below : List Frame} {meth : Method} {c : Code} {G : GG} {hs : AH}  {h' : AH} (hfl : l.stackTraces = false) (hX : va_X b L xs s (gH G)) (hbB : b < gB G) (hz0 : s.heap.size = gB G) (hz1 : gC G - aZ hs = 601024) (hz2 : aU hs = 0) (C : Cx G hs p s m #[Value.ref b] meth c cL_law 7 RL lw_tbl (some .boolean) nm) {k23 : Nat → Nat → Nat → Int32 → AH → Option (Int32 × AH)} (hk23 : ∀ {v1 : Nat} {v2 : Nat} {v3 : Nat} {v4 : Int32} {h : AH} {H : Heap} {locs : List Loc} {cells slots : Nat} {ls : Array Slot}, Rp G h H → (∀ q ∈ locs, gB G ≤ q.base) → zl ls 7 [(1, zr v1), (2, zr v2), (3, zr v3), (4, .int v4), (0, .ref b)] → k23 v1 v2 v3 v4 h = some (iI 1, h') → W p l e (gR G hs 16 612) s m #[Value.ref b] below meth c H locs cells slots (lw_Z below #[Value.ref b] s) (F0 m 23 ls [])) {v1 : Nat} {v2 : Nat} {v3 : Nat} {v4 : Int32} {h : AH} {H : Heap} {locs : List Loc} {cells slots : Nat} {ls : Array Slot} (hR : Rp G h H) (hL : ∀ q ∈ locs, gB G ≤ q.base) (hl : zl ls 7 [(1, zr v1), (2, zr v2), (3, zr v3), (4, .int v4), (0, .ref b)]) (hp : p_L_law_1046 xs L k23 v1 v2 v3 v4 h = some (iI 1, h')) : W p l e (gR G hs 16 612) s m #[Value.ref b] below meth c H locs cells slots (lw_Z below #[Value.ref b] s) (F0 m 1046 ls []) := by
  obtain ⟨hx, hb, hml, hown, hts, hT, hK, rs, hlk, hret, hnm⟩ := id C
  have hm : ∀ w ∈ MW, w.before #[Value.ref b] s = true := fun w hw => hts w (hT w hw)
  unfold p_L_law_1046 at hp
  refine z_aload_n hx hb dL_law_1046 rfl (zl_at hl 0 rfl) ?_
  refine lv_aload_n hx hb dL_law_1047 rfl (zl_at hl 4 rfl) ?_
  refine lv_iload hx hb dL_law_1048 (zl_at hl 3 rfl) ?_
  refine lv_iconst (v := iI 1) hx hb dL_law_1050 rfl ?_
  refine lv_iadd hx hb dL_law_1051 ?_
  obtain ⟨k1, hp⟩ := ck_i hp
  refine r_sld hx hb hX hbB hR k1 dL_law_1052 ?_
  refine z_aload_n hx hb dL_law_1053 rfl (zl_at hl 2 rfl) ?_
  obtain ⟨r2, h3, er2, hp⟩ := bR_i hp
  refine r_callSH (n := 3) (As := [zr v1, .int (xs (v4 + (iI 1)).toNatClampNeg), zr v3]) (rest := []) C (c_L_spared l hfl G v1 (xs (v4 + (iI 1)).toNatClampNeg) v3 h r2 h3 er2) hR hL mw_910 mw_911 mw_0 mw_912 (by decide +kernel) (by decide) rfl (zl_size hl) rfl (by simp [zr_cat, in_cat]) dL_law_1054 (st2 := [.int r2]) rfl (fun H locs cells slots hR hL => ?_)
  refine z_istore (lv' := [(5, .int r2), (1, zr v1), (2, zr v2), (3, zr v3), (4, .int v4), (0, .ref b)]) hx hb dL_law_1057 hl (by decide) rfl (fun ls hl => ?_)
  refine z_aload_n hx hb dL_law_1059 rfl (zl_at hl 2 rfl) ?_
  refine lv_aload_n hx hb dL_law_1060 rfl (zl_at hl 5 rfl) ?_
  refine lv_iload hx hb dL_law_1061 (zl_at hl 4 rfl) ?_
  refine lv_iconst (v := iI 1) hx hb dL_law_1063 rfl ?_
  refine lv_iadd hx hb dL_law_1064 ?_
  obtain ⟨k4, hp⟩ := ck_i hp
  refine r_sld hx hb hX hbB hR k4 dL_law_1065 ?_
  obtain ⟨k5, hp⟩ := ck_i hp
  obtain ⟨r6, h7, er6, hp⟩ := bR_i hp
  refine r_callV (ci := 12) (r := (RX11, TX11, 32)) (n := 1) (As := [.int (xs (v4 + (iI 1)).toNatClampNeg)]) (rest := []) C (c_X11_spared l G v2 (xs (v4 + (iI 1)).toNatClampNeg) h3 r6 h7 er6) hR hL rfl k5 mw_1224 mw_1225 mw_1226 mw_10 mw_1227 (by decide +kernel) (by decide) rfl (zl_size hl) rfl (by simp [zr_cat, in_cat]) dL_law_1066 (st2 := [.int r6]) rfl (fun H locs cells slots hR hL => ?_)
  refine z_istore (lv' := [(6, .int r6), (5, .int r2), (1, zr v1), (2, zr v2), (3, zr v3), (4, .int v4), (0, .ref b)]) hx hb dL_law_1069 hl (by decide) rfl (fun ls hl => ?_)
  refine z_aload_n hx hb dL_law_1071 rfl (zl_at hl 3 rfl) ?_
  obtain ⟨k8, hp⟩ := ck_i hp
  obtain ⟨r9, h10, er9, hp⟩ := bR_i hp
  refine r_callV (ci := 12) (r := (RX11, TX11, 32)) (n := 0) (As := []) (rest := []) C (c_X11_thrown l G v2 h7 r9 h10 er9) hR hL rfl k8 mw_1079 mw_1080 mw_1081 mw_10 mw_1082 (by decide +kernel) (by decide) rfl (zl_size hl) rfl (by simp [zr_cat, in_cat]) dL_law_1072 (st2 := [.int r9]) rfl (fun H locs cells slots hR hL => ?_)
  refine lv_iload hx hb dL_law_1075 (zl_at hl 1 rfl) ?_
  refine lv_icmp_eq (tgt := 1082) hx hb dL_law_1077 (by decide) (fun c11 => ?_) (fun c11 => ?_)
  · replace hp := ite_p hp c11
    refine lv_iload hx hb dL_law_1082 (zl_at hl 1 rfl) ?_
    refine lv_if_ne (tgt := 1099) hx hb dL_law_1084 (by decide) (fun c12 => ?_) (fun c12 => ?_)
    · replace hp := ite_n hp c12
      exact s_L_law_1099 hfl hX hbB hz0 hz1 hz2 C hk23 hR hL (zl_sub hl [2, 3, 4, 5, 6] rfl) hp
    · replace hp := ite_p hp c12
      refine z_aload_n hx hb dL_law_1087 rfl (zl_at hl 4 rfl) ?_
      refine lv_iconst (v := iI 0) hx hb dL_law_1088 rfl ?_
      obtain ⟨k13, hp⟩ := ck_i hp
      refine r_lald hx hb hK hR k13.1 k13.2 dL_law_1089 ?_
      refine lv_iload hx hb dL_law_1090 (zl_at hl 0 rfl) ?_
      refine lv_i2l (v := (r6).toInt64) hx hb dL_law_1092 rfl ?_
      refine W.lcmp hx hb dL_law_1093 ?_
      refine lv_if_eq (tgt := 1099) hx hb dL_law_1094 (by decide) (fun c15 => ?_) (fun c15 => ?_)
      · replace hp := ite_p hp c15
        exact s_L_law_1099 hfl hX hbB hz0 hz1 hz2 C hk23 hR hL (zl_sub hl [2, 3, 4, 5, 6] rfl) hp
      · replace hp := ite_n hp c15
        refine lv_iconst (v := iI 0) hx hb dL_law_1097 rfl ?_
        exact law_no hp
  · replace hp := ite_n hp c11
    refine lv_iconst (v := iI 0) hx hb dL_law_1080 rfl ?_
    exact law_no hp
def p_L_law_1174 (xs : Nat → Int32) (L : Nat) (k23 : Nat → Nat → Nat → Int32 → AH → Option (Int32 × AH)) (v1 : Nat) (v2 : Nat) (v3 : Nat) (v4 : Int32) (h : AH) : Option (Int32 × AH) :=
  p_L_law_1463 xs L k23 v1 v2 v3 v4 h
set_option maxHeartbeats 4000000 in
set_option maxRecDepth 100000 in
theorem s_L_law_1174 {p : Program} {l : Launch} {e : Env} {s : State} {m : MethodId} {b L : Nat} {xs : Nat → Int32} {nm : String} {below : List Frame} {meth : Method} {c : Code} {G : GG} {hs : AH}  {h' : AH} (hfl : l.stackTraces = false) (hX : va_X b L xs s (gH G)) (hbB : b < gB G) (hz0 : s.heap.size = gB G) (hz1 : gC G - aZ hs = 601024) (hz2 : aU hs = 0) (C : Cx G hs p s m #[Value.ref b] meth c cL_law 7 RL lw_tbl (some .boolean) nm) {k23 : Nat → Nat → Nat → Int32 → AH → Option (Int32 × AH)} (hk23 : ∀ {v1 : Nat} {v2 : Nat} {v3 : Nat} {v4 : Int32} {h : AH} {H : Heap} {locs : List Loc} {cells slots : Nat} {ls : Array Slot}, Rp G h H → (∀ q ∈ locs, gB G ≤ q.base) → zl ls 7 [(1, zr v1), (2, zr v2), (3, zr v3), (4, .int v4), (0, .ref b)] → k23 v1 v2 v3 v4 h = some (iI 1, h') → W p l e (gR G hs 16 612) s m #[Value.ref b] below meth c H locs cells slots (lw_Z below #[Value.ref b] s) (F0 m 23 ls [])) {v1 : Nat} {v2 : Nat} {v3 : Nat} {v4 : Int32} {h : AH} {H : Heap} {locs : List Loc} {cells slots : Nat} {ls : Array Slot} (hR : Rp G h H) (hL : ∀ q ∈ locs, gB G ≤ q.base) (hl : zl ls 7 [(1, zr v1), (2, zr v2), (3, zr v3), (4, .int v4), (0, .ref b)]) (hp : p_L_law_1174 xs L k23 v1 v2 v3 v4 h = some (iI 1, h')) : W p l e (gR G hs 16 612) s m #[Value.ref b] below meth c H locs cells slots (lw_Z below #[Value.ref b] s) (F0 m 1174 ls []) := by
  obtain ⟨hx, hb, hml, hown, hts, hT, hK, rs, hlk, hret, hnm⟩ := id C
  have hm : ∀ w ∈ MW, w.before #[Value.ref b] s = true := fun w hw => hts w (hT w hw)
  unfold p_L_law_1174 at hp
  refine lv_goto (tgt := 1463) hx hb dL_law_1174 (by decide) ?_
  exact s_L_law_1463 hfl hX hbB hz0 hz1 hz2 C hk23 hR hL (zl_sub hl [0, 1, 2, 3, 4] rfl) hp
def p_L_law_1168 (xs : Nat → Int32) (L : Nat) (k23 : Nat → Nat → Nat → Int32 → AH → Option (Int32 × AH)) (v1 : Nat) (v2 : Nat) (v3 : Nat) (v4 : Int32) (s0 : Int64) (s1 : Int64) (h : AH) : Option (Int32 × AH) :=
  if (lg_cmp s0 s1) = 0 then
    p_L_law_1174 xs L k23 v1 v2 v3 v4 h
  else
    some ((iI 0), h)
set_option maxHeartbeats 4000000 in
set_option maxRecDepth 100000 in
theorem s_L_law_1168 {p : Program} {l : Launch} {e : Env} {s : State} {m : MethodId} {b L : Nat} {xs : Nat → Int32} {nm : String} {below : List Frame} {meth : Method} {c : Code} {G : GG} {hs : AH}  {h' : AH} (hfl : l.stackTraces = false) (hX : va_X b L xs s (gH G)) (hbB : b < gB G) (hz0 : s.heap.size = gB G) (hz1 : gC G - aZ hs = 601024) (hz2 : aU hs = 0) (C : Cx G hs p s m #[Value.ref b] meth c cL_law 7 RL lw_tbl (some .boolean) nm) {k23 : Nat → Nat → Nat → Int32 → AH → Option (Int32 × AH)} (hk23 : ∀ {v1 : Nat} {v2 : Nat} {v3 : Nat} {v4 : Int32} {h : AH} {H : Heap} {locs : List Loc} {cells slots : Nat} {ls : Array Slot}, Rp G h H → (∀ q ∈ locs, gB G ≤ q.base) → zl ls 7 [(1, zr v1), (2, zr v2), (3, zr v3), (4, .int v4), (0, .ref b)] → k23 v1 v2 v3 v4 h = some (iI 1, h') → W p l e (gR G hs 16 612) s m #[Value.ref b] below meth c H locs cells slots (lw_Z below #[Value.ref b] s) (F0 m 23 ls [])) {v1 : Nat} {v2 : Nat} {v3 : Nat} {v4 : Int32} {s0 : Int64} {s1 : Int64} {h : AH} {H : Heap} {locs : List Loc} {cells slots : Nat} {ls : Array Slot} (hR : Rp G h H) (hL : ∀ q ∈ locs, gB G ≤ q.base) (hl : zl ls 7 [(1, zr v1), (2, zr v2), (3, zr v3), (4, .int v4), (0, .ref b)]) (hp : p_L_law_1168 xs L k23 v1 v2 v3 v4 s0 s1 h = some (iI 1, h')) : W p l e (gR G hs 16 612) s m #[Value.ref b] below meth c H locs cells slots (lw_Z below #[Value.ref b] s) (F0 m 1168 ls [.long s1, .long s0]) := by
  obtain ⟨hx, hb, hml, hown, hts, hT, hK, rs, hlk, hret, hnm⟩ := id C
  have hm : ∀ w ∈ MW, w.before #[Value.ref b] s = true := fun w hw => hts w (hT w hw)
  unfold p_L_law_1168 at hp
  refine W.lcmp hx hb dL_law_1168 ?_
  refine lv_if_eq (tgt := 1174) hx hb dL_law_1169 (by decide) (fun c1 => ?_) (fun c1 => ?_)
  · replace hp := ite_p hp c1
    exact s_L_law_1174 hfl hX hbB hz0 hz1 hz2 C hk23 hR hL (zl_sub hl [0, 1, 2, 3, 4] rfl) hp
  · replace hp := ite_n hp c1
    refine lv_iconst (v := iI 0) hx hb dL_law_1172 rfl ?_
    exact law_no hp
def p_L_law_1102 (xs : Nat → Int32) (L : Nat) (k23 : Nat → Nat → Nat → Int32 → AH → Option (Int32 × AH)) (v1 : Nat) (v2 : Nat) (v3 : Nat) (v4 : Int32) (h : AH) : Option (Int32 × AH) :=
  ck (ix (v4 + (iI 1)) L) <|
  ck (ix (v4 + (iI 2)) L) <|
  bR (p_L_lock v1 (xs (v4 + (iI 1)).toNatClampNeg) (xs (v4 + (iI 2)).toNatClampNeg) v3 h) fun r3 h4 =>
  ck (ix (v4 + (iI 1)) L) <|
  ck (ix (v4 + (iI 2)) L) <|
  ck (aK h4 v2 = 13) <|
  bR (p_X11_lock v2 (xs (v4 + (iI 1)).toNatClampNeg) (xs (v4 + (iI 2)).toNatClampNeg) h4) fun r8 h9 =>
  ck (aK h9 v2 = 13) <|
  bR (p_X11_thrown v2 h9) fun r11 h12 =>
  if r11 = r3 then
    if r3 = 0 then
      ck (aK h12 v3 = 23 ∧ ix (iI 0) (aN h12 v3)) <|
      if r8 = 0 then
        p_L_law_1168 xs L k23 v1 v2 v3 v4 (aL h12 v3 (iI 0).toNatClampNeg) 0 h12
      else
        p_L_law_1168 xs L k23 v1 v2 v3 v4 (aL h12 v3 (iI 0).toNatClampNeg) 1 h12
    else
      p_L_law_1174 xs L k23 v1 v2 v3 v4 h12
  else
    some ((iI 0), h12)
set_option maxHeartbeats 4000000 in
set_option maxRecDepth 100000 in
theorem s_L_law_1102 {p : Program} {l : Launch} {e : Env} {s : State} {m : MethodId} {b L : Nat} {xs : Nat → Int32} {nm : String} {below : List Frame} {meth : Method} {c : Code} {G : GG} {hs : AH}  {h' : AH} (hfl : l.stackTraces = false) (hX : va_X b L xs s (gH G)) (hbB : b < gB G) (hz0 : s.heap.size = gB G) (hz1 : gC G - aZ hs = 601024) (hz2 : aU hs = 0) (C : Cx G hs p s m #[Value.ref b] meth c cL_law 7 RL lw_tbl (some .boolean) nm) {k23 : Nat → Nat → Nat → Int32 → AH → Option (Int32 × AH)} (hk23 : ∀ {v1 : Nat} {v2 : Nat} {v3 : Nat} {v4 : Int32} {h : AH} {H : Heap} {locs : List Loc} {cells slots : Nat} {ls : Array Slot}, Rp G h H → (∀ q ∈ locs, gB G ≤ q.base) → zl ls 7 [(1, zr v1), (2, zr v2), (3, zr v3), (4, .int v4), (0, .ref b)] → k23 v1 v2 v3 v4 h = some (iI 1, h') → W p l e (gR G hs 16 612) s m #[Value.ref b] below meth c H locs cells slots (lw_Z below #[Value.ref b] s) (F0 m 23 ls [])) {v1 : Nat} {v2 : Nat} {v3 : Nat} {v4 : Int32} {h : AH} {H : Heap} {locs : List Loc} {cells slots : Nat} {ls : Array Slot} (hR : Rp G h H) (hL : ∀ q ∈ locs, gB G ≤ q.base) (hl : zl ls 7 [(1, zr v1), (2, zr v2), (3, zr v3), (4, .int v4), (0, .ref b)]) (hp : p_L_law_1102 xs L k23 v1 v2 v3 v4 h = some (iI 1, h')) : W p l e (gR G hs 16 612) s m #[Value.ref b] below meth c H locs cells slots (lw_Z below #[Value.ref b] s) (F0 m 1102 ls []) := by
  obtain ⟨hx, hb, hml, hown, hts, hT, hK, rs, hlk, hret, hnm⟩ := id C
  have hm : ∀ w ∈ MW, w.before #[Value.ref b] s = true := fun w hw => hts w (hT w hw)
  unfold p_L_law_1102 at hp
  refine z_aload_n hx hb dL_law_1102 rfl (zl_at hl 0 rfl) ?_
  refine lv_aload_n hx hb dL_law_1103 rfl (zl_at hl 4 rfl) ?_
  refine lv_iload hx hb dL_law_1104 (zl_at hl 3 rfl) ?_
  refine lv_iconst (v := iI 1) hx hb dL_law_1106 rfl ?_
  refine lv_iadd hx hb dL_law_1107 ?_
  obtain ⟨k1, hp⟩ := ck_i hp
  refine r_sld hx hb hX hbB hR k1 dL_law_1108 ?_
  refine lv_aload_n hx hb dL_law_1109 rfl (zl_at hl 4 rfl) ?_
  refine lv_iload hx hb dL_law_1110 (zl_at hl 3 rfl) ?_
  refine lv_iconst (v := iI 2) hx hb dL_law_1112 rfl ?_
  refine lv_iadd hx hb dL_law_1113 ?_
  obtain ⟨k2, hp⟩ := ck_i hp
  refine r_sld hx hb hX hbB hR k2 dL_law_1114 ?_
  refine z_aload_n hx hb dL_law_1115 rfl (zl_at hl 2 rfl) ?_
  obtain ⟨r3, h4, er3, hp⟩ := bR_i hp
  refine r_callSH (n := 4) (As := [zr v1, .int (xs (v4 + (iI 1)).toNatClampNeg), .int (xs (v4 + (iI 2)).toNatClampNeg), zr v3]) (rest := []) C (c_L_lock l hfl G v1 (xs (v4 + (iI 1)).toNatClampNeg) (xs (v4 + (iI 2)).toNatClampNeg) v3 h r3 h4 er3) hR hL mw_917 mw_918 mw_0 mw_919 (by decide +kernel) (by decide) rfl (zl_size hl) rfl (by simp [zr_cat, in_cat]) dL_law_1116 (st2 := [.int r3]) rfl (fun H locs cells slots hR hL => ?_)
  refine z_istore (lv' := [(5, .int r3), (1, zr v1), (2, zr v2), (3, zr v3), (4, .int v4), (0, .ref b)]) hx hb dL_law_1119 hl (by decide) rfl (fun ls hl => ?_)
  refine z_aload_n hx hb dL_law_1121 rfl (zl_at hl 2 rfl) ?_
  refine lv_aload_n hx hb dL_law_1122 rfl (zl_at hl 5 rfl) ?_
  refine lv_iload hx hb dL_law_1123 (zl_at hl 4 rfl) ?_
  refine lv_iconst (v := iI 1) hx hb dL_law_1125 rfl ?_
  refine lv_iadd hx hb dL_law_1126 ?_
  obtain ⟨k5, hp⟩ := ck_i hp
  refine r_sld hx hb hX hbB hR k5 dL_law_1127 ?_
  refine lv_aload_n hx hb dL_law_1128 rfl (zl_at hl 5 rfl) ?_
  refine lv_iload hx hb dL_law_1129 (zl_at hl 4 rfl) ?_
  refine lv_iconst (v := iI 2) hx hb dL_law_1131 rfl ?_
  refine lv_iadd hx hb dL_law_1132 ?_
  obtain ⟨k6, hp⟩ := ck_i hp
  refine r_sld hx hb hX hbB hR k6 dL_law_1133 ?_
  obtain ⟨k7, hp⟩ := ck_i hp
  obtain ⟨r8, h9, er8, hp⟩ := bR_i hp
  refine r_callV (ci := 12) (r := (RX11, TX11, 32)) (n := 2) (As := [.int (xs (v4 + (iI 1)).toNatClampNeg), .int (xs (v4 + (iI 2)).toNatClampNeg)]) (rest := []) C (c_X11_lock l G v2 (xs (v4 + (iI 1)).toNatClampNeg) (xs (v4 + (iI 2)).toNatClampNeg) h4 r8 h9 er8) hR hL rfl k7 mw_1228 mw_1229 mw_1230 mw_10 mw_1231 (by decide +kernel) (by decide) rfl (zl_size hl) rfl (by simp [zr_cat, in_cat]) dL_law_1134 (st2 := [.int r8]) rfl (fun H locs cells slots hR hL => ?_)
  refine z_istore (lv' := [(6, .int r8), (5, .int r3), (1, zr v1), (2, zr v2), (3, zr v3), (4, .int v4), (0, .ref b)]) hx hb dL_law_1137 hl (by decide) rfl (fun ls hl => ?_)
  refine z_aload_n hx hb dL_law_1139 rfl (zl_at hl 3 rfl) ?_
  obtain ⟨k10, hp⟩ := ck_i hp
  obtain ⟨r11, h12, er11, hp⟩ := bR_i hp
  refine r_callV (ci := 12) (r := (RX11, TX11, 32)) (n := 0) (As := []) (rest := []) C (c_X11_thrown l G v2 h9 r11 h12 er11) hR hL rfl k10 mw_1079 mw_1080 mw_1081 mw_10 mw_1082 (by decide +kernel) (by decide) rfl (zl_size hl) rfl (by simp [zr_cat, in_cat]) dL_law_1140 (st2 := [.int r11]) rfl (fun H locs cells slots hR hL => ?_)
  refine lv_iload hx hb dL_law_1143 (zl_at hl 1 rfl) ?_
  refine lv_icmp_eq (tgt := 1150) hx hb dL_law_1145 (by decide) (fun c13 => ?_) (fun c13 => ?_)
  · replace hp := ite_p hp c13
    refine lv_iload hx hb dL_law_1150 (zl_at hl 1 rfl) ?_
    refine lv_if_ne (tgt := 1174) hx hb dL_law_1152 (by decide) (fun c14 => ?_) (fun c14 => ?_)
    · replace hp := ite_n hp c14
      exact s_L_law_1174 hfl hX hbB hz0 hz1 hz2 C hk23 hR hL (zl_sub hl [2, 3, 4, 5, 6] rfl) hp
    · replace hp := ite_p hp c14
      refine z_aload_n hx hb dL_law_1155 rfl (zl_at hl 4 rfl) ?_
      refine lv_iconst (v := iI 0) hx hb dL_law_1156 rfl ?_
      obtain ⟨k15, hp⟩ := ck_i hp
      refine r_lald hx hb hK hR k15.1 k15.2 dL_law_1157 ?_
      refine lv_iload hx hb dL_law_1158 (zl_at hl 0 rfl) ?_
      refine lv_if_eq (tgt := 1167) hx hb dL_law_1160 (by decide) (fun c17 => ?_) (fun c17 => ?_)
      · replace hp := ite_p hp c17
        refine lv_lconst (v := 0) hx hb dL_law_1167 rfl ?_
        exact s_L_law_1168 hfl hX hbB hz0 hz1 hz2 C hk23 hR hL (zl_sub hl [2, 3, 4, 5, 6] rfl) hp
      · replace hp := ite_n hp c17
        refine lv_lconst (v := 1) hx hb dL_law_1163 rfl ?_
        refine lv_goto (tgt := 1168) hx hb dL_law_1164 (by decide) ?_
        exact s_L_law_1168 hfl hX hbB hz0 hz1 hz2 C hk23 hR hL (zl_sub hl [2, 3, 4, 5, 6] rfl) hp
  · replace hp := ite_n hp c13
    refine lv_iconst (v := iI 0) hx hb dL_law_1148 rfl ?_
    exact law_no hp
def p_L_law_1254 (xs : Nat → Int32) (L : Nat) (k23 : Nat → Nat → Nat → Int32 → AH → Option (Int32 × AH)) (v1 : Nat) (v2 : Nat) (v3 : Nat) (v4 : Int32) (h : AH) : Option (Int32 × AH) :=
  p_L_law_1463 xs L k23 v1 v2 v3 v4 h
set_option maxHeartbeats 4000000 in
set_option maxRecDepth 100000 in
theorem s_L_law_1254 {p : Program} {l : Launch} {e : Env} {s : State} {m : MethodId} {b L : Nat} {xs : Nat → Int32} {nm : String} {below : List Frame} {meth : Method} {c : Code} {G : GG} {hs : AH}  {h' : AH} (hfl : l.stackTraces = false) (hX : va_X b L xs s (gH G)) (hbB : b < gB G) (hz0 : s.heap.size = gB G) (hz1 : gC G - aZ hs = 601024) (hz2 : aU hs = 0) (C : Cx G hs p s m #[Value.ref b] meth c cL_law 7 RL lw_tbl (some .boolean) nm) {k23 : Nat → Nat → Nat → Int32 → AH → Option (Int32 × AH)} (hk23 : ∀ {v1 : Nat} {v2 : Nat} {v3 : Nat} {v4 : Int32} {h : AH} {H : Heap} {locs : List Loc} {cells slots : Nat} {ls : Array Slot}, Rp G h H → (∀ q ∈ locs, gB G ≤ q.base) → zl ls 7 [(1, zr v1), (2, zr v2), (3, zr v3), (4, .int v4), (0, .ref b)] → k23 v1 v2 v3 v4 h = some (iI 1, h') → W p l e (gR G hs 16 612) s m #[Value.ref b] below meth c H locs cells slots (lw_Z below #[Value.ref b] s) (F0 m 23 ls [])) {v1 : Nat} {v2 : Nat} {v3 : Nat} {v4 : Int32} {h : AH} {H : Heap} {locs : List Loc} {cells slots : Nat} {ls : Array Slot} (hR : Rp G h H) (hL : ∀ q ∈ locs, gB G ≤ q.base) (hl : zl ls 7 [(1, zr v1), (2, zr v2), (3, zr v3), (4, .int v4), (0, .ref b)]) (hp : p_L_law_1254 xs L k23 v1 v2 v3 v4 h = some (iI 1, h')) : W p l e (gR G hs 16 612) s m #[Value.ref b] below meth c H locs cells slots (lw_Z below #[Value.ref b] s) (F0 m 1254 ls []) := by
  obtain ⟨hx, hb, hml, hown, hts, hT, hK, rs, hlk, hret, hnm⟩ := id C
  have hm : ∀ w ∈ MW, w.before #[Value.ref b] s = true := fun w hw => hts w (hT w hw)
  unfold p_L_law_1254 at hp
  refine lv_goto (tgt := 1463) hx hb dL_law_1254 (by decide) ?_
  exact s_L_law_1463 hfl hX hbB hz0 hz1 hz2 C hk23 hR hL (zl_sub hl [0, 1, 2, 3, 4] rfl) hp
def p_L_law_1177 (xs : Nat → Int32) (L : Nat) (k23 : Nat → Nat → Nat → Int32 → AH → Option (Int32 × AH)) (v1 : Nat) (v2 : Nat) (v3 : Nat) (v4 : Int32) (h : AH) : Option (Int32 × AH) :=
  ck (ix (v4 + (iI 1)) L) <|
  ck (ix (v4 + (iI 2)) L) <|
  ck (ix (v4 + (iI 3)) L) <|
  bR (p_L_save v1 (xs (v4 + (iI 1)).toNatClampNeg) (xs (v4 + (iI 2)).toNatClampNeg) (xs (v4 + (iI 3)).toNatClampNeg) v3 h) fun r4 h5 =>
  ck (ix (v4 + (iI 1)) L) <|
  ck (ix (v4 + (iI 2)) L) <|
  ck (ix (v4 + (iI 3)) L) <|
  ck (aK h5 v2 = 13) <|
  bR (p_X11_save v2 (xs (v4 + (iI 1)).toNatClampNeg) (xs (v4 + (iI 2)).toNatClampNeg) (xs (v4 + (iI 3)).toNatClampNeg) h5) fun r10 h11 =>
  ck (aK h11 v2 = 13) <|
  bR (p_X11_thrown v2 h11) fun r13 h14 =>
  if r13 = r4 then
    if r4 = 0 then
      ck (aK h14 v3 = 23 ∧ ix (iI 0) (aN h14 v3)) <|
      if (lg_cmp (aL h14 v3 (iI 0).toNatClampNeg) ((r10).toInt64)) = 0 then
        p_L_law_1254 xs L k23 v1 v2 v3 v4 h14
      else
        some ((iI 0), h14)
    else
      p_L_law_1254 xs L k23 v1 v2 v3 v4 h14
  else
    some ((iI 0), h14)
set_option maxHeartbeats 4000000 in
set_option maxRecDepth 100000 in
theorem s_L_law_1177 {p : Program} {l : Launch} {e : Env} {s : State} {m : MethodId} {b L : Nat} {xs : Nat → Int32} {nm : String} {below : List Frame} {meth : Method} {c : Code} {G : GG} {hs : AH}  {h' : AH} (hfl : l.stackTraces = false) (hX : va_X b L xs s (gH G)) (hbB : b < gB G) (hz0 : s.heap.size = gB G) (hz1 : gC G - aZ hs = 601024) (hz2 : aU hs = 0) (C : Cx G hs p s m #[Value.ref b] meth c cL_law 7 RL lw_tbl (some .boolean) nm) {k23 : Nat → Nat → Nat → Int32 → AH → Option (Int32 × AH)} (hk23 : ∀ {v1 : Nat} {v2 : Nat} {v3 : Nat} {v4 : Int32} {h : AH} {H : Heap} {locs : List Loc} {cells slots : Nat} {ls : Array Slot}, Rp G h H → (∀ q ∈ locs, gB G ≤ q.base) → zl ls 7 [(1, zr v1), (2, zr v2), (3, zr v3), (4, .int v4), (0, .ref b)] → k23 v1 v2 v3 v4 h = some (iI 1, h') → W p l e (gR G hs 16 612) s m #[Value.ref b] below meth c H locs cells slots (lw_Z below #[Value.ref b] s) (F0 m 23 ls [])) {v1 : Nat} {v2 : Nat} {v3 : Nat} {v4 : Int32} {h : AH} {H : Heap} {locs : List Loc} {cells slots : Nat} {ls : Array Slot} (hR : Rp G h H) (hL : ∀ q ∈ locs, gB G ≤ q.base) (hl : zl ls 7 [(1, zr v1), (2, zr v2), (3, zr v3), (4, .int v4), (0, .ref b)]) (hp : p_L_law_1177 xs L k23 v1 v2 v3 v4 h = some (iI 1, h')) : W p l e (gR G hs 16 612) s m #[Value.ref b] below meth c H locs cells slots (lw_Z below #[Value.ref b] s) (F0 m 1177 ls []) := by
  obtain ⟨hx, hb, hml, hown, hts, hT, hK, rs, hlk, hret, hnm⟩ := id C
  have hm : ∀ w ∈ MW, w.before #[Value.ref b] s = true := fun w hw => hts w (hT w hw)
  unfold p_L_law_1177 at hp
  refine z_aload_n hx hb dL_law_1177 rfl (zl_at hl 0 rfl) ?_
  refine lv_aload_n hx hb dL_law_1178 rfl (zl_at hl 4 rfl) ?_
  refine lv_iload hx hb dL_law_1179 (zl_at hl 3 rfl) ?_
  refine lv_iconst (v := iI 1) hx hb dL_law_1181 rfl ?_
  refine lv_iadd hx hb dL_law_1182 ?_
  obtain ⟨k1, hp⟩ := ck_i hp
  refine r_sld hx hb hX hbB hR k1 dL_law_1183 ?_
  refine lv_aload_n hx hb dL_law_1184 rfl (zl_at hl 4 rfl) ?_
  refine lv_iload hx hb dL_law_1185 (zl_at hl 3 rfl) ?_
  refine lv_iconst (v := iI 2) hx hb dL_law_1187 rfl ?_
  refine lv_iadd hx hb dL_law_1188 ?_
  obtain ⟨k2, hp⟩ := ck_i hp
  refine r_sld hx hb hX hbB hR k2 dL_law_1189 ?_
  refine lv_aload_n hx hb dL_law_1190 rfl (zl_at hl 4 rfl) ?_
  refine lv_iload hx hb dL_law_1191 (zl_at hl 3 rfl) ?_
  refine lv_iconst (v := iI 3) hx hb dL_law_1193 rfl ?_
  refine lv_iadd hx hb dL_law_1194 ?_
  obtain ⟨k3, hp⟩ := ck_i hp
  refine r_sld hx hb hX hbB hR k3 dL_law_1195 ?_
  refine z_aload_n hx hb dL_law_1196 rfl (zl_at hl 2 rfl) ?_
  obtain ⟨r4, h5, er4, hp⟩ := bR_i hp
  refine r_callSH (n := 5) (As := [zr v1, .int (xs (v4 + (iI 1)).toNatClampNeg), .int (xs (v4 + (iI 2)).toNatClampNeg), .int (xs (v4 + (iI 3)).toNatClampNeg), zr v3]) (rest := []) C (c_L_save l hfl G v1 (xs (v4 + (iI 1)).toNatClampNeg) (xs (v4 + (iI 2)).toNatClampNeg) (xs (v4 + (iI 3)).toNatClampNeg) v3 h r4 h5 er4) hR hL mw_926 mw_927 mw_0 mw_928 (by decide +kernel) (by decide) rfl (zl_size hl) rfl (by simp [zr_cat, in_cat]) dL_law_1197 (st2 := [.int r4]) rfl (fun H locs cells slots hR hL => ?_)
  refine z_istore (lv' := [(5, .int r4), (1, zr v1), (2, zr v2), (3, zr v3), (4, .int v4), (0, .ref b)]) hx hb dL_law_1200 hl (by decide) rfl (fun ls hl => ?_)
  refine z_aload_n hx hb dL_law_1202 rfl (zl_at hl 2 rfl) ?_
  refine lv_aload_n hx hb dL_law_1203 rfl (zl_at hl 5 rfl) ?_
  refine lv_iload hx hb dL_law_1204 (zl_at hl 4 rfl) ?_
  refine lv_iconst (v := iI 1) hx hb dL_law_1206 rfl ?_
  refine lv_iadd hx hb dL_law_1207 ?_
  obtain ⟨k6, hp⟩ := ck_i hp
  refine r_sld hx hb hX hbB hR k6 dL_law_1208 ?_
  refine lv_aload_n hx hb dL_law_1209 rfl (zl_at hl 5 rfl) ?_
  refine lv_iload hx hb dL_law_1210 (zl_at hl 4 rfl) ?_
  refine lv_iconst (v := iI 2) hx hb dL_law_1212 rfl ?_
  refine lv_iadd hx hb dL_law_1213 ?_
  obtain ⟨k7, hp⟩ := ck_i hp
  refine r_sld hx hb hX hbB hR k7 dL_law_1214 ?_
  refine lv_aload_n hx hb dL_law_1215 rfl (zl_at hl 5 rfl) ?_
  refine lv_iload hx hb dL_law_1216 (zl_at hl 4 rfl) ?_
  refine lv_iconst (v := iI 3) hx hb dL_law_1218 rfl ?_
  refine lv_iadd hx hb dL_law_1219 ?_
  obtain ⟨k8, hp⟩ := ck_i hp
  refine r_sld hx hb hX hbB hR k8 dL_law_1220 ?_
  obtain ⟨k9, hp⟩ := ck_i hp
  obtain ⟨r10, h11, er10, hp⟩ := bR_i hp
  refine r_callV (ci := 12) (r := (RX11, TX11, 32)) (n := 3) (As := [.int (xs (v4 + (iI 1)).toNatClampNeg), .int (xs (v4 + (iI 2)).toNatClampNeg), .int (xs (v4 + (iI 3)).toNatClampNeg)]) (rest := []) C (c_X11_save l G v2 (xs (v4 + (iI 1)).toNatClampNeg) (xs (v4 + (iI 2)).toNatClampNeg) (xs (v4 + (iI 3)).toNatClampNeg) h5 r10 h11 er10) hR hL rfl k9 mw_1232 mw_1233 mw_1234 mw_10 mw_1235 (by decide +kernel) (by decide) rfl (zl_size hl) rfl (by simp [zr_cat, in_cat]) dL_law_1221 (st2 := [.int r10]) rfl (fun H locs cells slots hR hL => ?_)
  refine z_istore (lv' := [(6, .int r10), (5, .int r4), (1, zr v1), (2, zr v2), (3, zr v3), (4, .int v4), (0, .ref b)]) hx hb dL_law_1224 hl (by decide) rfl (fun ls hl => ?_)
  refine z_aload_n hx hb dL_law_1226 rfl (zl_at hl 3 rfl) ?_
  obtain ⟨k12, hp⟩ := ck_i hp
  obtain ⟨r13, h14, er13, hp⟩ := bR_i hp
  refine r_callV (ci := 12) (r := (RX11, TX11, 32)) (n := 0) (As := []) (rest := []) C (c_X11_thrown l G v2 h11 r13 h14 er13) hR hL rfl k12 mw_1079 mw_1080 mw_1081 mw_10 mw_1082 (by decide +kernel) (by decide) rfl (zl_size hl) rfl (by simp [zr_cat, in_cat]) dL_law_1227 (st2 := [.int r13]) rfl (fun H locs cells slots hR hL => ?_)
  refine lv_iload hx hb dL_law_1230 (zl_at hl 1 rfl) ?_
  refine lv_icmp_eq (tgt := 1237) hx hb dL_law_1232 (by decide) (fun c15 => ?_) (fun c15 => ?_)
  · replace hp := ite_p hp c15
    refine lv_iload hx hb dL_law_1237 (zl_at hl 1 rfl) ?_
    refine lv_if_ne (tgt := 1254) hx hb dL_law_1239 (by decide) (fun c16 => ?_) (fun c16 => ?_)
    · replace hp := ite_n hp c16
      exact s_L_law_1254 hfl hX hbB hz0 hz1 hz2 C hk23 hR hL (zl_sub hl [2, 3, 4, 5, 6] rfl) hp
    · replace hp := ite_p hp c16
      refine z_aload_n hx hb dL_law_1242 rfl (zl_at hl 4 rfl) ?_
      refine lv_iconst (v := iI 0) hx hb dL_law_1243 rfl ?_
      obtain ⟨k17, hp⟩ := ck_i hp
      refine r_lald hx hb hK hR k17.1 k17.2 dL_law_1244 ?_
      refine lv_iload hx hb dL_law_1245 (zl_at hl 0 rfl) ?_
      refine lv_i2l (v := (r10).toInt64) hx hb dL_law_1247 rfl ?_
      refine W.lcmp hx hb dL_law_1248 ?_
      refine lv_if_eq (tgt := 1254) hx hb dL_law_1249 (by decide) (fun c19 => ?_) (fun c19 => ?_)
      · replace hp := ite_p hp c19
        exact s_L_law_1254 hfl hX hbB hz0 hz1 hz2 C hk23 hR hL (zl_sub hl [2, 3, 4, 5, 6] rfl) hp
      · replace hp := ite_n hp c19
        refine lv_iconst (v := iI 0) hx hb dL_law_1252 rfl ?_
        exact law_no hp
  · replace hp := ite_n hp c15
    refine lv_iconst (v := iI 0) hx hb dL_law_1235 rfl ?_
    exact law_no hp
def p_L_law_1257 (xs : Nat → Int32) (L : Nat) (k23 : Nat → Nat → Nat → Int32 → AH → Option (Int32 × AH)) (v1 : Nat) (v2 : Nat) (v3 : Nat) (v4 : Int32) (h : AH) : Option (Int32 × AH) :=
  ck (aK h v1 = 12) <|
  bR (p_X10_write v1 h) fun r2 h3 =>
  ck (aK h3 v2 = 13) <|
  bR (p_X11_write v2 h3) fun r5 h6 =>
  if r2 = r5 then
    p_L_law_1463 xs L k23 v1 v2 v3 v4 h6
  else
    some ((iI 0), h6)
set_option maxHeartbeats 4000000 in
set_option maxRecDepth 100000 in
theorem s_L_law_1257 {p : Program} {l : Launch} {e : Env} {s : State} {m : MethodId} {b L : Nat} {xs : Nat → Int32} {nm : String} {below : List Frame} {meth : Method} {c : Code} {G : GG} {hs : AH}  {h' : AH} (hfl : l.stackTraces = false) (hX : va_X b L xs s (gH G)) (hbB : b < gB G) (hz0 : s.heap.size = gB G) (hz1 : gC G - aZ hs = 601024) (hz2 : aU hs = 0) (C : Cx G hs p s m #[Value.ref b] meth c cL_law 7 RL lw_tbl (some .boolean) nm) {k23 : Nat → Nat → Nat → Int32 → AH → Option (Int32 × AH)} (hk23 : ∀ {v1 : Nat} {v2 : Nat} {v3 : Nat} {v4 : Int32} {h : AH} {H : Heap} {locs : List Loc} {cells slots : Nat} {ls : Array Slot}, Rp G h H → (∀ q ∈ locs, gB G ≤ q.base) → zl ls 7 [(1, zr v1), (2, zr v2), (3, zr v3), (4, .int v4), (0, .ref b)] → k23 v1 v2 v3 v4 h = some (iI 1, h') → W p l e (gR G hs 16 612) s m #[Value.ref b] below meth c H locs cells slots (lw_Z below #[Value.ref b] s) (F0 m 23 ls [])) {v1 : Nat} {v2 : Nat} {v3 : Nat} {v4 : Int32} {h : AH} {H : Heap} {locs : List Loc} {cells slots : Nat} {ls : Array Slot} (hR : Rp G h H) (hL : ∀ q ∈ locs, gB G ≤ q.base) (hl : zl ls 7 [(1, zr v1), (2, zr v2), (3, zr v3), (4, .int v4), (0, .ref b)]) (hp : p_L_law_1257 xs L k23 v1 v2 v3 v4 h = some (iI 1, h')) : W p l e (gR G hs 16 612) s m #[Value.ref b] below meth c H locs cells slots (lw_Z below #[Value.ref b] s) (F0 m 1257 ls []) := by
  obtain ⟨hx, hb, hml, hown, hts, hT, hK, rs, hlk, hret, hnm⟩ := id C
  have hm : ∀ w ∈ MW, w.before #[Value.ref b] s = true := fun w hw => hts w (hT w hw)
  unfold p_L_law_1257 at hp
  refine z_aload_n hx hb dL_law_1257 rfl (zl_at hl 0 rfl) ?_
  obtain ⟨k1, hp⟩ := ck_i hp
  obtain ⟨r2, h3, er2, hp⟩ := bR_i hp
  refine r_callV (ci := 11) (r := (RX10, TX10, 7)) (n := 0) (As := []) (rest := []) C (c_X10_write l G v1 h r2 h3 er2) hR hL rfl k1 mw_206 mw_207 mw_208 mw_1 mw_209 (by decide +kernel) (by decide) rfl (zl_size hl) rfl (by simp [zr_cat, in_cat]) dL_law_1258 (st2 := [.int r2]) rfl (fun H locs cells slots hR hL => ?_)
  refine z_aload_n hx hb dL_law_1261 rfl (zl_at hl 1 rfl) ?_
  obtain ⟨k4, hp⟩ := ck_i hp
  obtain ⟨r5, h6, er5, hp⟩ := bR_i hp
  refine r_callV (ci := 12) (r := (RX11, TX11, 32)) (n := 0) (As := []) (rest := [.int r2]) C (c_X11_write l G v2 h3 r5 h6 er5) hR hL rfl k4 mw_1236 mw_1237 mw_1238 mw_10 mw_1239 (by decide +kernel) (by decide) rfl (zl_size hl) rfl (by simp [zr_cat, in_cat]) dL_law_1262 (st2 := [.int r5, .int r2]) rfl (fun H locs cells slots hR hL => ?_)
  refine lv_icmp_eq (tgt := 1463) hx hb dL_law_1265 (by decide) (fun c7 => ?_) (fun c7 => ?_)
  · replace hp := ite_p hp c7
    exact s_L_law_1463 hfl hX hbB hz0 hz1 hz2 C hk23 hR hL (zl_sub hl [0, 1, 2, 3, 4] rfl) hp
  · replace hp := ite_n hp c7
    refine lv_iconst (v := iI 0) hx hb dL_law_1268 rfl ?_
    exact law_no hp
def p_L_law_1270 (xs : Nat → Int32) (L : Nat) (k23 : Nat → Nat → Nat → Int32 → AH → Option (Int32 × AH)) (v1 : Nat) (v2 : Nat) (v3 : Nat) (v4 : Int32) (h : AH) : Option (Int32 × AH) :=
  ck (aK h v1 = 12) <|
  bR (p_X10_queued v1 h) fun r2 h3 =>
  ck (aK h3 v2 = 13) <|
  bR (p_X11_queued v2 h3) fun r5 h6 =>
  if r2 = r5 then
    p_L_law_1463 xs L k23 v1 v2 v3 v4 h6
  else
    some ((iI 0), h6)
set_option maxHeartbeats 4000000 in
set_option maxRecDepth 100000 in
theorem s_L_law_1270 {p : Program} {l : Launch} {e : Env} {s : State} {m : MethodId} {b L : Nat} {xs : Nat → Int32} {nm : String} {below : List Frame} {meth : Method} {c : Code} {G : GG} {hs : AH}  {h' : AH} (hfl : l.stackTraces = false) (hX : va_X b L xs s (gH G)) (hbB : b < gB G) (hz0 : s.heap.size = gB G) (hz1 : gC G - aZ hs = 601024) (hz2 : aU hs = 0) (C : Cx G hs p s m #[Value.ref b] meth c cL_law 7 RL lw_tbl (some .boolean) nm) {k23 : Nat → Nat → Nat → Int32 → AH → Option (Int32 × AH)} (hk23 : ∀ {v1 : Nat} {v2 : Nat} {v3 : Nat} {v4 : Int32} {h : AH} {H : Heap} {locs : List Loc} {cells slots : Nat} {ls : Array Slot}, Rp G h H → (∀ q ∈ locs, gB G ≤ q.base) → zl ls 7 [(1, zr v1), (2, zr v2), (3, zr v3), (4, .int v4), (0, .ref b)] → k23 v1 v2 v3 v4 h = some (iI 1, h') → W p l e (gR G hs 16 612) s m #[Value.ref b] below meth c H locs cells slots (lw_Z below #[Value.ref b] s) (F0 m 23 ls [])) {v1 : Nat} {v2 : Nat} {v3 : Nat} {v4 : Int32} {h : AH} {H : Heap} {locs : List Loc} {cells slots : Nat} {ls : Array Slot} (hR : Rp G h H) (hL : ∀ q ∈ locs, gB G ≤ q.base) (hl : zl ls 7 [(1, zr v1), (2, zr v2), (3, zr v3), (4, .int v4), (0, .ref b)]) (hp : p_L_law_1270 xs L k23 v1 v2 v3 v4 h = some (iI 1, h')) : W p l e (gR G hs 16 612) s m #[Value.ref b] below meth c H locs cells slots (lw_Z below #[Value.ref b] s) (F0 m 1270 ls []) := by
  obtain ⟨hx, hb, hml, hown, hts, hT, hK, rs, hlk, hret, hnm⟩ := id C
  have hm : ∀ w ∈ MW, w.before #[Value.ref b] s = true := fun w hw => hts w (hT w hw)
  unfold p_L_law_1270 at hp
  refine z_aload_n hx hb dL_law_1270 rfl (zl_at hl 0 rfl) ?_
  obtain ⟨k1, hp⟩ := ck_i hp
  obtain ⟨r2, h3, er2, hp⟩ := bR_i hp
  refine r_callV (ci := 11) (r := (RX10, TX10, 7)) (n := 0) (As := []) (rest := []) C (c_X10_queued l G v1 h r2 h3 er2) hR hL rfl k1 mw_292 mw_293 mw_294 mw_1 mw_295 (by decide +kernel) (by decide) rfl (zl_size hl) rfl (by simp [zr_cat, in_cat]) dL_law_1271 (st2 := [.int r2]) rfl (fun H locs cells slots hR hL => ?_)
  refine z_aload_n hx hb dL_law_1274 rfl (zl_at hl 1 rfl) ?_
  obtain ⟨k4, hp⟩ := ck_i hp
  obtain ⟨r5, h6, er5, hp⟩ := bR_i hp
  refine r_callV (ci := 12) (r := (RX11, TX11, 32)) (n := 0) (As := []) (rest := [.int r2]) C (c_X11_queued l G v2 h3 r5 h6 er5) hR hL rfl k4 mw_1244 mw_1245 mw_1246 mw_10 mw_1247 (by decide +kernel) (by decide) rfl (zl_size hl) rfl (by simp [zr_cat, in_cat]) dL_law_1275 (st2 := [.int r5, .int r2]) rfl (fun H locs cells slots hR hL => ?_)
  refine lv_icmp_eq (tgt := 1463) hx hb dL_law_1278 (by decide) (fun c7 => ?_) (fun c7 => ?_)
  · replace hp := ite_p hp c7
    exact s_L_law_1463 hfl hX hbB hz0 hz1 hz2 C hk23 hR hL (zl_sub hl [0, 1, 2, 3, 4] rfl) hp
  · replace hp := ite_n hp c7
    refine lv_iconst (v := iI 0) hx hb dL_law_1281 rfl ?_
    exact law_no hp
def p_L_law_1336 (xs : Nat → Int32) (L : Nat) (k23 : Nat → Nat → Nat → Int32 → AH → Option (Int32 × AH)) (v1 : Nat) (v2 : Nat) (v3 : Nat) (v4 : Int32) (h : AH) : Option (Int32 × AH) :=
  p_L_law_1463 xs L k23 v1 v2 v3 v4 h
set_option maxHeartbeats 4000000 in
set_option maxRecDepth 100000 in
theorem s_L_law_1336 {p : Program} {l : Launch} {e : Env} {s : State} {m : MethodId} {b L : Nat} {xs : Nat → Int32} {nm : String} {below : List Frame} {meth : Method} {c : Code} {G : GG} {hs : AH}  {h' : AH} (hfl : l.stackTraces = false) (hX : va_X b L xs s (gH G)) (hbB : b < gB G) (hz0 : s.heap.size = gB G) (hz1 : gC G - aZ hs = 601024) (hz2 : aU hs = 0) (C : Cx G hs p s m #[Value.ref b] meth c cL_law 7 RL lw_tbl (some .boolean) nm) {k23 : Nat → Nat → Nat → Int32 → AH → Option (Int32 × AH)} (hk23 : ∀ {v1 : Nat} {v2 : Nat} {v3 : Nat} {v4 : Int32} {h : AH} {H : Heap} {locs : List Loc} {cells slots : Nat} {ls : Array Slot}, Rp G h H → (∀ q ∈ locs, gB G ≤ q.base) → zl ls 7 [(1, zr v1), (2, zr v2), (3, zr v3), (4, .int v4), (0, .ref b)] → k23 v1 v2 v3 v4 h = some (iI 1, h') → W p l e (gR G hs 16 612) s m #[Value.ref b] below meth c H locs cells slots (lw_Z below #[Value.ref b] s) (F0 m 23 ls [])) {v1 : Nat} {v2 : Nat} {v3 : Nat} {v4 : Int32} {h : AH} {H : Heap} {locs : List Loc} {cells slots : Nat} {ls : Array Slot} (hR : Rp G h H) (hL : ∀ q ∈ locs, gB G ≤ q.base) (hl : zl ls 7 [(1, zr v1), (2, zr v2), (3, zr v3), (4, .int v4), (0, .ref b)]) (hp : p_L_law_1336 xs L k23 v1 v2 v3 v4 h = some (iI 1, h')) : W p l e (gR G hs 16 612) s m #[Value.ref b] below meth c H locs cells slots (lw_Z below #[Value.ref b] s) (F0 m 1336 ls []) := by
  obtain ⟨hx, hb, hml, hown, hts, hT, hK, rs, hlk, hret, hnm⟩ := id C
  have hm : ∀ w ∈ MW, w.before #[Value.ref b] s = true := fun w hw => hts w (hT w hw)
  unfold p_L_law_1336 at hp
  refine lv_goto (tgt := 1463) hx hb dL_law_1336 (by decide) ?_
  exact s_L_law_1463 hfl hX hbB hz0 hz1 hz2 C hk23 hR hL (zl_sub hl [0, 1, 2, 3, 4] rfl) hp
def p_L_law_1283 (xs : Nat → Int32) (L : Nat) (k23 : Nat → Nat → Nat → Int32 → AH → Option (Int32 × AH)) (v1 : Nat) (v2 : Nat) (v3 : Nat) (v4 : Int32) (h : AH) : Option (Int32 × AH) :=
  ck (ix (v4 + (iI 1)) L) <|
  bR (p_L_savedVersion v1 (xs (v4 + (iI 1)).toNatClampNeg) v3 h) fun r2 h3 =>
  ck (ix (v4 + (iI 1)) L) <|
  ck (aK h3 v2 = 13) <|
  bR (p_X11_savedVersion v2 (xs (v4 + (iI 1)).toNatClampNeg) h3) fun r6 h7 =>
  ck (aK h7 v2 = 13) <|
  bR (p_X11_thrown v2 h7) fun r9 h10 =>
  if r9 = r2 then
    if r2 = 0 then
      ck (aK h10 v3 = 23 ∧ ix (iI 0) (aN h10 v3)) <|
      if (lg_cmp (aL h10 v3 (iI 0).toNatClampNeg) ((r6).toInt64)) = 0 then
        p_L_law_1336 xs L k23 v1 v2 v3 v4 h10
      else
        some ((iI 0), h10)
    else
      p_L_law_1336 xs L k23 v1 v2 v3 v4 h10
  else
    some ((iI 0), h10)
set_option maxHeartbeats 4000000 in
set_option maxRecDepth 100000 in
theorem s_L_law_1283 {p : Program} {l : Launch} {e : Env} {s : State} {m : MethodId} {b L : Nat} {xs : Nat → Int32} {nm : String} {below : List Frame} {meth : Method} {c : Code} {G : GG} {hs : AH}  {h' : AH} (hfl : l.stackTraces = false) (hX : va_X b L xs s (gH G)) (hbB : b < gB G) (hz0 : s.heap.size = gB G) (hz1 : gC G - aZ hs = 601024) (hz2 : aU hs = 0) (C : Cx G hs p s m #[Value.ref b] meth c cL_law 7 RL lw_tbl (some .boolean) nm) {k23 : Nat → Nat → Nat → Int32 → AH → Option (Int32 × AH)} (hk23 : ∀ {v1 : Nat} {v2 : Nat} {v3 : Nat} {v4 : Int32} {h : AH} {H : Heap} {locs : List Loc} {cells slots : Nat} {ls : Array Slot}, Rp G h H → (∀ q ∈ locs, gB G ≤ q.base) → zl ls 7 [(1, zr v1), (2, zr v2), (3, zr v3), (4, .int v4), (0, .ref b)] → k23 v1 v2 v3 v4 h = some (iI 1, h') → W p l e (gR G hs 16 612) s m #[Value.ref b] below meth c H locs cells slots (lw_Z below #[Value.ref b] s) (F0 m 23 ls [])) {v1 : Nat} {v2 : Nat} {v3 : Nat} {v4 : Int32} {h : AH} {H : Heap} {locs : List Loc} {cells slots : Nat} {ls : Array Slot} (hR : Rp G h H) (hL : ∀ q ∈ locs, gB G ≤ q.base) (hl : zl ls 7 [(1, zr v1), (2, zr v2), (3, zr v3), (4, .int v4), (0, .ref b)]) (hp : p_L_law_1283 xs L k23 v1 v2 v3 v4 h = some (iI 1, h')) : W p l e (gR G hs 16 612) s m #[Value.ref b] below meth c H locs cells slots (lw_Z below #[Value.ref b] s) (F0 m 1283 ls []) := by
  obtain ⟨hx, hb, hml, hown, hts, hT, hK, rs, hlk, hret, hnm⟩ := id C
  have hm : ∀ w ∈ MW, w.before #[Value.ref b] s = true := fun w hw => hts w (hT w hw)
  unfold p_L_law_1283 at hp
  refine z_aload_n hx hb dL_law_1283 rfl (zl_at hl 0 rfl) ?_
  refine lv_aload_n hx hb dL_law_1284 rfl (zl_at hl 4 rfl) ?_
  refine lv_iload hx hb dL_law_1285 (zl_at hl 3 rfl) ?_
  refine lv_iconst (v := iI 1) hx hb dL_law_1287 rfl ?_
  refine lv_iadd hx hb dL_law_1288 ?_
  obtain ⟨k1, hp⟩ := ck_i hp
  refine r_sld hx hb hX hbB hR k1 dL_law_1289 ?_
  refine z_aload_n hx hb dL_law_1290 rfl (zl_at hl 2 rfl) ?_
  obtain ⟨r2, h3, er2, hp⟩ := bR_i hp
  refine r_callSH (n := 3) (As := [zr v1, .int (xs (v4 + (iI 1)).toNatClampNeg), zr v3]) (rest := []) C (c_L_savedVersion l hfl G v1 (xs (v4 + (iI 1)).toNatClampNeg) v3 h r2 h3 er2) hR hL mw_955 mw_956 mw_0 mw_957 (by decide +kernel) (by decide) rfl (zl_size hl) rfl (by simp [zr_cat, in_cat]) dL_law_1291 (st2 := [.int r2]) rfl (fun H locs cells slots hR hL => ?_)
  refine z_istore (lv' := [(5, .int r2), (1, zr v1), (2, zr v2), (3, zr v3), (4, .int v4), (0, .ref b)]) hx hb dL_law_1294 hl (by decide) rfl (fun ls hl => ?_)
  refine z_aload_n hx hb dL_law_1296 rfl (zl_at hl 2 rfl) ?_
  refine lv_aload_n hx hb dL_law_1297 rfl (zl_at hl 5 rfl) ?_
  refine lv_iload hx hb dL_law_1298 (zl_at hl 4 rfl) ?_
  refine lv_iconst (v := iI 1) hx hb dL_law_1300 rfl ?_
  refine lv_iadd hx hb dL_law_1301 ?_
  obtain ⟨k4, hp⟩ := ck_i hp
  refine r_sld hx hb hX hbB hR k4 dL_law_1302 ?_
  obtain ⟨k5, hp⟩ := ck_i hp
  obtain ⟨r6, h7, er6, hp⟩ := bR_i hp
  refine r_callV (ci := 12) (r := (RX11, TX11, 32)) (n := 1) (As := [.int (xs (v4 + (iI 1)).toNatClampNeg)]) (rest := []) C (c_X11_savedVersion l G v2 (xs (v4 + (iI 1)).toNatClampNeg) h3 r6 h7 er6) hR hL rfl k5 mw_1248 mw_1249 mw_1250 mw_10 mw_1251 (by decide +kernel) (by decide) rfl (zl_size hl) rfl (by simp [zr_cat, in_cat]) dL_law_1303 (st2 := [.int r6]) rfl (fun H locs cells slots hR hL => ?_)
  refine z_istore (lv' := [(6, .int r6), (5, .int r2), (1, zr v1), (2, zr v2), (3, zr v3), (4, .int v4), (0, .ref b)]) hx hb dL_law_1306 hl (by decide) rfl (fun ls hl => ?_)
  refine z_aload_n hx hb dL_law_1308 rfl (zl_at hl 3 rfl) ?_
  obtain ⟨k8, hp⟩ := ck_i hp
  obtain ⟨r9, h10, er9, hp⟩ := bR_i hp
  refine r_callV (ci := 12) (r := (RX11, TX11, 32)) (n := 0) (As := []) (rest := []) C (c_X11_thrown l G v2 h7 r9 h10 er9) hR hL rfl k8 mw_1079 mw_1080 mw_1081 mw_10 mw_1082 (by decide +kernel) (by decide) rfl (zl_size hl) rfl (by simp [zr_cat, in_cat]) dL_law_1309 (st2 := [.int r9]) rfl (fun H locs cells slots hR hL => ?_)
  refine lv_iload hx hb dL_law_1312 (zl_at hl 1 rfl) ?_
  refine lv_icmp_eq (tgt := 1319) hx hb dL_law_1314 (by decide) (fun c11 => ?_) (fun c11 => ?_)
  · replace hp := ite_p hp c11
    refine lv_iload hx hb dL_law_1319 (zl_at hl 1 rfl) ?_
    refine lv_if_ne (tgt := 1336) hx hb dL_law_1321 (by decide) (fun c12 => ?_) (fun c12 => ?_)
    · replace hp := ite_n hp c12
      exact s_L_law_1336 hfl hX hbB hz0 hz1 hz2 C hk23 hR hL (zl_sub hl [2, 3, 4, 5, 6] rfl) hp
    · replace hp := ite_p hp c12
      refine z_aload_n hx hb dL_law_1324 rfl (zl_at hl 4 rfl) ?_
      refine lv_iconst (v := iI 0) hx hb dL_law_1325 rfl ?_
      obtain ⟨k13, hp⟩ := ck_i hp
      refine r_lald hx hb hK hR k13.1 k13.2 dL_law_1326 ?_
      refine lv_iload hx hb dL_law_1327 (zl_at hl 0 rfl) ?_
      refine lv_i2l (v := (r6).toInt64) hx hb dL_law_1329 rfl ?_
      refine W.lcmp hx hb dL_law_1330 ?_
      refine lv_if_eq (tgt := 1336) hx hb dL_law_1331 (by decide) (fun c15 => ?_) (fun c15 => ?_)
      · replace hp := ite_p hp c15
        exact s_L_law_1336 hfl hX hbB hz0 hz1 hz2 C hk23 hR hL (zl_sub hl [2, 3, 4, 5, 6] rfl) hp
      · replace hp := ite_n hp c15
        refine lv_iconst (v := iI 0) hx hb dL_law_1334 rfl ?_
        exact law_no hp
  · replace hp := ite_n hp c11
    refine lv_iconst (v := iI 0) hx hb dL_law_1317 rfl ?_
    exact law_no hp
def p_L_law_1392 (xs : Nat → Int32) (L : Nat) (k23 : Nat → Nat → Nat → Int32 → AH → Option (Int32 × AH)) (v1 : Nat) (v2 : Nat) (v3 : Nat) (v4 : Int32) (h : AH) : Option (Int32 × AH) :=
  p_L_law_1463 xs L k23 v1 v2 v3 v4 h
set_option maxHeartbeats 4000000 in
set_option maxRecDepth 100000 in
theorem s_L_law_1392 {p : Program} {l : Launch} {e : Env} {s : State} {m : MethodId} {b L : Nat} {xs : Nat → Int32} {nm : String} {below : List Frame} {meth : Method} {c : Code} {G : GG} {hs : AH}  {h' : AH} (hfl : l.stackTraces = false) (hX : va_X b L xs s (gH G)) (hbB : b < gB G) (hz0 : s.heap.size = gB G) (hz1 : gC G - aZ hs = 601024) (hz2 : aU hs = 0) (C : Cx G hs p s m #[Value.ref b] meth c cL_law 7 RL lw_tbl (some .boolean) nm) {k23 : Nat → Nat → Nat → Int32 → AH → Option (Int32 × AH)} (hk23 : ∀ {v1 : Nat} {v2 : Nat} {v3 : Nat} {v4 : Int32} {h : AH} {H : Heap} {locs : List Loc} {cells slots : Nat} {ls : Array Slot}, Rp G h H → (∀ q ∈ locs, gB G ≤ q.base) → zl ls 7 [(1, zr v1), (2, zr v2), (3, zr v3), (4, .int v4), (0, .ref b)] → k23 v1 v2 v3 v4 h = some (iI 1, h') → W p l e (gR G hs 16 612) s m #[Value.ref b] below meth c H locs cells slots (lw_Z below #[Value.ref b] s) (F0 m 23 ls [])) {v1 : Nat} {v2 : Nat} {v3 : Nat} {v4 : Int32} {h : AH} {H : Heap} {locs : List Loc} {cells slots : Nat} {ls : Array Slot} (hR : Rp G h H) (hL : ∀ q ∈ locs, gB G ≤ q.base) (hl : zl ls 7 [(1, zr v1), (2, zr v2), (3, zr v3), (4, .int v4), (0, .ref b)]) (hp : p_L_law_1392 xs L k23 v1 v2 v3 v4 h = some (iI 1, h')) : W p l e (gR G hs 16 612) s m #[Value.ref b] below meth c H locs cells slots (lw_Z below #[Value.ref b] s) (F0 m 1392 ls []) := by
  obtain ⟨hx, hb, hml, hown, hts, hT, hK, rs, hlk, hret, hnm⟩ := id C
  have hm : ∀ w ∈ MW, w.before #[Value.ref b] s = true := fun w hw => hts w (hT w hw)
  unfold p_L_law_1392 at hp
  refine lv_goto (tgt := 1463) hx hb dL_law_1392 (by decide) ?_
  exact s_L_law_1463 hfl hX hbB hz0 hz1 hz2 C hk23 hR hL (zl_sub hl [0, 1, 2, 3, 4] rfl) hp
def p_L_law_1339 (xs : Nat → Int32) (L : Nat) (k23 : Nat → Nat → Nat → Int32 → AH → Option (Int32 × AH)) (v1 : Nat) (v2 : Nat) (v3 : Nat) (v4 : Int32) (h : AH) : Option (Int32 × AH) :=
  ck (ix (v4 + (iI 1)) L) <|
  bR (p_L_savedLength v1 (xs (v4 + (iI 1)).toNatClampNeg) v3 h) fun r2 h3 =>
  ck (ix (v4 + (iI 1)) L) <|
  ck (aK h3 v2 = 13) <|
  bR (p_X11_savedLength v2 (xs (v4 + (iI 1)).toNatClampNeg) h3) fun r6 h7 =>
  ck (aK h7 v2 = 13) <|
  bR (p_X11_thrown v2 h7) fun r9 h10 =>
  if r9 = r2 then
    if r2 = 0 then
      ck (aK h10 v3 = 23 ∧ ix (iI 0) (aN h10 v3)) <|
      if (lg_cmp (aL h10 v3 (iI 0).toNatClampNeg) ((r6).toInt64)) = 0 then
        p_L_law_1392 xs L k23 v1 v2 v3 v4 h10
      else
        some ((iI 0), h10)
    else
      p_L_law_1392 xs L k23 v1 v2 v3 v4 h10
  else
    some ((iI 0), h10)
set_option maxHeartbeats 4000000 in
set_option maxRecDepth 100000 in
theorem s_L_law_1339 {p : Program} {l : Launch} {e : Env} {s : State} {m : MethodId} {b L : Nat} {xs : Nat → Int32} {nm : String} {below : List Frame} {meth : Method} {c : Code} {G : GG} {hs : AH}  {h' : AH} (hfl : l.stackTraces = false) (hX : va_X b L xs s (gH G)) (hbB : b < gB G) (hz0 : s.heap.size = gB G) (hz1 : gC G - aZ hs = 601024) (hz2 : aU hs = 0) (C : Cx G hs p s m #[Value.ref b] meth c cL_law 7 RL lw_tbl (some .boolean) nm) {k23 : Nat → Nat → Nat → Int32 → AH → Option (Int32 × AH)} (hk23 : ∀ {v1 : Nat} {v2 : Nat} {v3 : Nat} {v4 : Int32} {h : AH} {H : Heap} {locs : List Loc} {cells slots : Nat} {ls : Array Slot}, Rp G h H → (∀ q ∈ locs, gB G ≤ q.base) → zl ls 7 [(1, zr v1), (2, zr v2), (3, zr v3), (4, .int v4), (0, .ref b)] → k23 v1 v2 v3 v4 h = some (iI 1, h') → W p l e (gR G hs 16 612) s m #[Value.ref b] below meth c H locs cells slots (lw_Z below #[Value.ref b] s) (F0 m 23 ls [])) {v1 : Nat} {v2 : Nat} {v3 : Nat} {v4 : Int32} {h : AH} {H : Heap} {locs : List Loc} {cells slots : Nat} {ls : Array Slot} (hR : Rp G h H) (hL : ∀ q ∈ locs, gB G ≤ q.base) (hl : zl ls 7 [(1, zr v1), (2, zr v2), (3, zr v3), (4, .int v4), (0, .ref b)]) (hp : p_L_law_1339 xs L k23 v1 v2 v3 v4 h = some (iI 1, h')) : W p l e (gR G hs 16 612) s m #[Value.ref b] below meth c H locs cells slots (lw_Z below #[Value.ref b] s) (F0 m 1339 ls []) := by
  obtain ⟨hx, hb, hml, hown, hts, hT, hK, rs, hlk, hret, hnm⟩ := id C
  have hm : ∀ w ∈ MW, w.before #[Value.ref b] s = true := fun w hw => hts w (hT w hw)
  unfold p_L_law_1339 at hp
  refine z_aload_n hx hb dL_law_1339 rfl (zl_at hl 0 rfl) ?_
  refine lv_aload_n hx hb dL_law_1340 rfl (zl_at hl 4 rfl) ?_
  refine lv_iload hx hb dL_law_1341 (zl_at hl 3 rfl) ?_
  refine lv_iconst (v := iI 1) hx hb dL_law_1343 rfl ?_
  refine lv_iadd hx hb dL_law_1344 ?_
  obtain ⟨k1, hp⟩ := ck_i hp
  refine r_sld hx hb hX hbB hR k1 dL_law_1345 ?_
  refine z_aload_n hx hb dL_law_1346 rfl (zl_at hl 2 rfl) ?_
  obtain ⟨r2, h3, er2, hp⟩ := bR_i hp
  refine r_callSH (n := 3) (As := [zr v1, .int (xs (v4 + (iI 1)).toNatClampNeg), zr v3]) (rest := []) C (c_L_savedLength l hfl G v1 (xs (v4 + (iI 1)).toNatClampNeg) v3 h r2 h3 er2) hR hL mw_962 mw_963 mw_0 mw_964 (by decide +kernel) (by decide) rfl (zl_size hl) rfl (by simp [zr_cat, in_cat]) dL_law_1347 (st2 := [.int r2]) rfl (fun H locs cells slots hR hL => ?_)
  refine z_istore (lv' := [(5, .int r2), (1, zr v1), (2, zr v2), (3, zr v3), (4, .int v4), (0, .ref b)]) hx hb dL_law_1350 hl (by decide) rfl (fun ls hl => ?_)
  refine z_aload_n hx hb dL_law_1352 rfl (zl_at hl 2 rfl) ?_
  refine lv_aload_n hx hb dL_law_1353 rfl (zl_at hl 5 rfl) ?_
  refine lv_iload hx hb dL_law_1354 (zl_at hl 4 rfl) ?_
  refine lv_iconst (v := iI 1) hx hb dL_law_1356 rfl ?_
  refine lv_iadd hx hb dL_law_1357 ?_
  obtain ⟨k4, hp⟩ := ck_i hp
  refine r_sld hx hb hX hbB hR k4 dL_law_1358 ?_
  obtain ⟨k5, hp⟩ := ck_i hp
  obtain ⟨r6, h7, er6, hp⟩ := bR_i hp
  refine r_callV (ci := 12) (r := (RX11, TX11, 32)) (n := 1) (As := [.int (xs (v4 + (iI 1)).toNatClampNeg)]) (rest := []) C (c_X11_savedLength l G v2 (xs (v4 + (iI 1)).toNatClampNeg) h3 r6 h7 er6) hR hL rfl k5 mw_1252 mw_1253 mw_1254 mw_10 mw_1255 (by decide +kernel) (by decide) rfl (zl_size hl) rfl (by simp [zr_cat, in_cat]) dL_law_1359 (st2 := [.int r6]) rfl (fun H locs cells slots hR hL => ?_)
  refine z_istore (lv' := [(6, .int r6), (5, .int r2), (1, zr v1), (2, zr v2), (3, zr v3), (4, .int v4), (0, .ref b)]) hx hb dL_law_1362 hl (by decide) rfl (fun ls hl => ?_)
  refine z_aload_n hx hb dL_law_1364 rfl (zl_at hl 3 rfl) ?_
  obtain ⟨k8, hp⟩ := ck_i hp
  obtain ⟨r9, h10, er9, hp⟩ := bR_i hp
  refine r_callV (ci := 12) (r := (RX11, TX11, 32)) (n := 0) (As := []) (rest := []) C (c_X11_thrown l G v2 h7 r9 h10 er9) hR hL rfl k8 mw_1079 mw_1080 mw_1081 mw_10 mw_1082 (by decide +kernel) (by decide) rfl (zl_size hl) rfl (by simp [zr_cat, in_cat]) dL_law_1365 (st2 := [.int r9]) rfl (fun H locs cells slots hR hL => ?_)
  refine lv_iload hx hb dL_law_1368 (zl_at hl 1 rfl) ?_
  refine lv_icmp_eq (tgt := 1375) hx hb dL_law_1370 (by decide) (fun c11 => ?_) (fun c11 => ?_)
  · replace hp := ite_p hp c11
    refine lv_iload hx hb dL_law_1375 (zl_at hl 1 rfl) ?_
    refine lv_if_ne (tgt := 1392) hx hb dL_law_1377 (by decide) (fun c12 => ?_) (fun c12 => ?_)
    · replace hp := ite_n hp c12
      exact s_L_law_1392 hfl hX hbB hz0 hz1 hz2 C hk23 hR hL (zl_sub hl [2, 3, 4, 5, 6] rfl) hp
    · replace hp := ite_p hp c12
      refine z_aload_n hx hb dL_law_1380 rfl (zl_at hl 4 rfl) ?_
      refine lv_iconst (v := iI 0) hx hb dL_law_1381 rfl ?_
      obtain ⟨k13, hp⟩ := ck_i hp
      refine r_lald hx hb hK hR k13.1 k13.2 dL_law_1382 ?_
      refine lv_iload hx hb dL_law_1383 (zl_at hl 0 rfl) ?_
      refine lv_i2l (v := (r6).toInt64) hx hb dL_law_1385 rfl ?_
      refine W.lcmp hx hb dL_law_1386 ?_
      refine lv_if_eq (tgt := 1392) hx hb dL_law_1387 (by decide) (fun c15 => ?_) (fun c15 => ?_)
      · replace hp := ite_p hp c15
        exact s_L_law_1392 hfl hX hbB hz0 hz1 hz2 C hk23 hR hL (zl_sub hl [2, 3, 4, 5, 6] rfl) hp
      · replace hp := ite_n hp c15
        refine lv_iconst (v := iI 0) hx hb dL_law_1390 rfl ?_
        exact law_no hp
  · replace hp := ite_n hp c11
    refine lv_iconst (v := iI 0) hx hb dL_law_1373 rfl ?_
    exact law_no hp
def p_L_law_1460 (xs : Nat → Int32) (L : Nat) (k23 : Nat → Nat → Nat → Int32 → AH → Option (Int32 × AH)) (v1 : Nat) (v2 : Nat) (v3 : Nat) (v4 : Int32) (h : AH) : Option (Int32 × AH) :=
  p_L_law_1463 xs L k23 v1 v2 v3 v4 h
set_option maxHeartbeats 4000000 in
set_option maxRecDepth 100000 in
theorem s_L_law_1460 {p : Program} {l : Launch} {e : Env} {s : State} {m : MethodId} {b L : Nat} {xs : Nat → Int32} {nm : String} {below : List Frame} {meth : Method} {c : Code} {G : GG} {hs : AH}  {h' : AH} (hfl : l.stackTraces = false) (hX : va_X b L xs s (gH G)) (hbB : b < gB G) (hz0 : s.heap.size = gB G) (hz1 : gC G - aZ hs = 601024) (hz2 : aU hs = 0) (C : Cx G hs p s m #[Value.ref b] meth c cL_law 7 RL lw_tbl (some .boolean) nm) {k23 : Nat → Nat → Nat → Int32 → AH → Option (Int32 × AH)} (hk23 : ∀ {v1 : Nat} {v2 : Nat} {v3 : Nat} {v4 : Int32} {h : AH} {H : Heap} {locs : List Loc} {cells slots : Nat} {ls : Array Slot}, Rp G h H → (∀ q ∈ locs, gB G ≤ q.base) → zl ls 7 [(1, zr v1), (2, zr v2), (3, zr v3), (4, .int v4), (0, .ref b)] → k23 v1 v2 v3 v4 h = some (iI 1, h') → W p l e (gR G hs 16 612) s m #[Value.ref b] below meth c H locs cells slots (lw_Z below #[Value.ref b] s) (F0 m 23 ls [])) {v1 : Nat} {v2 : Nat} {v3 : Nat} {v4 : Int32} {h : AH} {H : Heap} {locs : List Loc} {cells slots : Nat} {ls : Array Slot} (hR : Rp G h H) (hL : ∀ q ∈ locs, gB G ≤ q.base) (hl : zl ls 7 [(1, zr v1), (2, zr v2), (3, zr v3), (4, .int v4), (0, .ref b)]) (hp : p_L_law_1460 xs L k23 v1 v2 v3 v4 h = some (iI 1, h')) : W p l e (gR G hs 16 612) s m #[Value.ref b] below meth c H locs cells slots (lw_Z below #[Value.ref b] s) (F0 m 1460 ls []) := by
  obtain ⟨hx, hb, hml, hown, hts, hT, hK, rs, hlk, hret, hnm⟩ := id C
  have hm : ∀ w ∈ MW, w.before #[Value.ref b] s = true := fun w hw => hts w (hT w hw)
  unfold p_L_law_1460 at hp
  refine lv_goto (tgt := 1463) hx hb dL_law_1460 (by decide) ?_
  exact s_L_law_1463 hfl hX hbB hz0 hz1 hz2 C hk23 hR hL (zl_sub hl [0, 1, 2, 3, 4] rfl) hp
def p_L_law_1395 (xs : Nat → Int32) (L : Nat) (k23 : Nat → Nat → Nat → Int32 → AH → Option (Int32 × AH)) (v1 : Nat) (v2 : Nat) (v3 : Nat) (v4 : Int32) (h : AH) : Option (Int32 × AH) :=
  ck (ix (v4 + (iI 1)) L) <|
  ck (ix (v4 + (iI 2)) L) <|
  bR (p_L_savedLetter v1 (xs (v4 + (iI 1)).toNatClampNeg) (xs (v4 + (iI 2)).toNatClampNeg) v3 h) fun r3 h4 =>
  ck (ix (v4 + (iI 1)) L) <|
  ck (ix (v4 + (iI 2)) L) <|
  ck (aK h4 v2 = 13) <|
  bR (p_X11_savedLetter v2 (xs (v4 + (iI 1)).toNatClampNeg) (xs (v4 + (iI 2)).toNatClampNeg) h4) fun r8 h9 =>
  ck (aK h9 v2 = 13) <|
  bR (p_X11_thrown v2 h9) fun r11 h12 =>
  if r11 = r3 then
    if r3 = 0 then
      ck (aK h12 v3 = 23 ∧ ix (iI 0) (aN h12 v3)) <|
      if (lg_cmp (aL h12 v3 (iI 0).toNatClampNeg) ((r8).toInt64)) = 0 then
        p_L_law_1460 xs L k23 v1 v2 v3 v4 h12
      else
        some ((iI 0), h12)
    else
      p_L_law_1460 xs L k23 v1 v2 v3 v4 h12
  else
    some ((iI 0), h12)
set_option maxHeartbeats 4000000 in
set_option maxRecDepth 100000 in
theorem s_L_law_1395 {p : Program} {l : Launch} {e : Env} {s : State} {m : MethodId} {b L : Nat} {xs : Nat → Int32} {nm : String} {below : List Frame} {meth : Method} {c : Code} {G : GG} {hs : AH}  {h' : AH} (hfl : l.stackTraces = false) (hX : va_X b L xs s (gH G)) (hbB : b < gB G) (hz0 : s.heap.size = gB G) (hz1 : gC G - aZ hs = 601024) (hz2 : aU hs = 0) (C : Cx G hs p s m #[Value.ref b] meth c cL_law 7 RL lw_tbl (some .boolean) nm) {k23 : Nat → Nat → Nat → Int32 → AH → Option (Int32 × AH)} (hk23 : ∀ {v1 : Nat} {v2 : Nat} {v3 : Nat} {v4 : Int32} {h : AH} {H : Heap} {locs : List Loc} {cells slots : Nat} {ls : Array Slot}, Rp G h H → (∀ q ∈ locs, gB G ≤ q.base) → zl ls 7 [(1, zr v1), (2, zr v2), (3, zr v3), (4, .int v4), (0, .ref b)] → k23 v1 v2 v3 v4 h = some (iI 1, h') → W p l e (gR G hs 16 612) s m #[Value.ref b] below meth c H locs cells slots (lw_Z below #[Value.ref b] s) (F0 m 23 ls [])) {v1 : Nat} {v2 : Nat} {v3 : Nat} {v4 : Int32} {h : AH} {H : Heap} {locs : List Loc} {cells slots : Nat} {ls : Array Slot} (hR : Rp G h H) (hL : ∀ q ∈ locs, gB G ≤ q.base) (hl : zl ls 7 [(1, zr v1), (2, zr v2), (3, zr v3), (4, .int v4), (0, .ref b)]) (hp : p_L_law_1395 xs L k23 v1 v2 v3 v4 h = some (iI 1, h')) : W p l e (gR G hs 16 612) s m #[Value.ref b] below meth c H locs cells slots (lw_Z below #[Value.ref b] s) (F0 m 1395 ls []) := by
  obtain ⟨hx, hb, hml, hown, hts, hT, hK, rs, hlk, hret, hnm⟩ := id C
  have hm : ∀ w ∈ MW, w.before #[Value.ref b] s = true := fun w hw => hts w (hT w hw)
  unfold p_L_law_1395 at hp
  refine z_aload_n hx hb dL_law_1395 rfl (zl_at hl 0 rfl) ?_
  refine lv_aload_n hx hb dL_law_1396 rfl (zl_at hl 4 rfl) ?_
  refine lv_iload hx hb dL_law_1397 (zl_at hl 3 rfl) ?_
  refine lv_iconst (v := iI 1) hx hb dL_law_1399 rfl ?_
  refine lv_iadd hx hb dL_law_1400 ?_
  obtain ⟨k1, hp⟩ := ck_i hp
  refine r_sld hx hb hX hbB hR k1 dL_law_1401 ?_
  refine lv_aload_n hx hb dL_law_1402 rfl (zl_at hl 4 rfl) ?_
  refine lv_iload hx hb dL_law_1403 (zl_at hl 3 rfl) ?_
  refine lv_iconst (v := iI 2) hx hb dL_law_1405 rfl ?_
  refine lv_iadd hx hb dL_law_1406 ?_
  obtain ⟨k2, hp⟩ := ck_i hp
  refine r_sld hx hb hX hbB hR k2 dL_law_1407 ?_
  refine z_aload_n hx hb dL_law_1408 rfl (zl_at hl 2 rfl) ?_
  obtain ⟨r3, h4, er3, hp⟩ := bR_i hp
  refine r_callSH (n := 4) (As := [zr v1, .int (xs (v4 + (iI 1)).toNatClampNeg), .int (xs (v4 + (iI 2)).toNatClampNeg), zr v3]) (rest := []) C (c_L_savedLetter l hfl G v1 (xs (v4 + (iI 1)).toNatClampNeg) (xs (v4 + (iI 2)).toNatClampNeg) v3 h r3 h4 er3) hR hL mw_969 mw_970 mw_0 mw_971 (by decide +kernel) (by decide) rfl (zl_size hl) rfl (by simp [zr_cat, in_cat]) dL_law_1409 (st2 := [.int r3]) rfl (fun H locs cells slots hR hL => ?_)
  refine z_istore (lv' := [(5, .int r3), (1, zr v1), (2, zr v2), (3, zr v3), (4, .int v4), (0, .ref b)]) hx hb dL_law_1412 hl (by decide) rfl (fun ls hl => ?_)
  refine z_aload_n hx hb dL_law_1414 rfl (zl_at hl 2 rfl) ?_
  refine lv_aload_n hx hb dL_law_1415 rfl (zl_at hl 5 rfl) ?_
  refine lv_iload hx hb dL_law_1416 (zl_at hl 4 rfl) ?_
  refine lv_iconst (v := iI 1) hx hb dL_law_1418 rfl ?_
  refine lv_iadd hx hb dL_law_1419 ?_
  obtain ⟨k5, hp⟩ := ck_i hp
  refine r_sld hx hb hX hbB hR k5 dL_law_1420 ?_
  refine lv_aload_n hx hb dL_law_1421 rfl (zl_at hl 5 rfl) ?_
  refine lv_iload hx hb dL_law_1422 (zl_at hl 4 rfl) ?_
  refine lv_iconst (v := iI 2) hx hb dL_law_1424 rfl ?_
  refine lv_iadd hx hb dL_law_1425 ?_
  obtain ⟨k6, hp⟩ := ck_i hp
  refine r_sld hx hb hX hbB hR k6 dL_law_1426 ?_
  obtain ⟨k7, hp⟩ := ck_i hp
  obtain ⟨r8, h9, er8, hp⟩ := bR_i hp
  refine r_callV (ci := 12) (r := (RX11, TX11, 32)) (n := 2) (As := [.int (xs (v4 + (iI 1)).toNatClampNeg), .int (xs (v4 + (iI 2)).toNatClampNeg)]) (rest := []) C (c_X11_savedLetter l G v2 (xs (v4 + (iI 1)).toNatClampNeg) (xs (v4 + (iI 2)).toNatClampNeg) h4 r8 h9 er8) hR hL rfl k7 mw_1256 mw_1257 mw_1258 mw_10 mw_1259 (by decide +kernel) (by decide) rfl (zl_size hl) rfl (by simp [zr_cat, in_cat]) dL_law_1427 (st2 := [.int r8]) rfl (fun H locs cells slots hR hL => ?_)
  refine z_istore (lv' := [(6, .int r8), (5, .int r3), (1, zr v1), (2, zr v2), (3, zr v3), (4, .int v4), (0, .ref b)]) hx hb dL_law_1430 hl (by decide) rfl (fun ls hl => ?_)
  refine z_aload_n hx hb dL_law_1432 rfl (zl_at hl 3 rfl) ?_
  obtain ⟨k10, hp⟩ := ck_i hp
  obtain ⟨r11, h12, er11, hp⟩ := bR_i hp
  refine r_callV (ci := 12) (r := (RX11, TX11, 32)) (n := 0) (As := []) (rest := []) C (c_X11_thrown l G v2 h9 r11 h12 er11) hR hL rfl k10 mw_1079 mw_1080 mw_1081 mw_10 mw_1082 (by decide +kernel) (by decide) rfl (zl_size hl) rfl (by simp [zr_cat, in_cat]) dL_law_1433 (st2 := [.int r11]) rfl (fun H locs cells slots hR hL => ?_)
  refine lv_iload hx hb dL_law_1436 (zl_at hl 1 rfl) ?_
  refine lv_icmp_eq (tgt := 1443) hx hb dL_law_1438 (by decide) (fun c13 => ?_) (fun c13 => ?_)
  · replace hp := ite_p hp c13
    refine lv_iload hx hb dL_law_1443 (zl_at hl 1 rfl) ?_
    refine lv_if_ne (tgt := 1460) hx hb dL_law_1445 (by decide) (fun c14 => ?_) (fun c14 => ?_)
    · replace hp := ite_n hp c14
      exact s_L_law_1460 hfl hX hbB hz0 hz1 hz2 C hk23 hR hL (zl_sub hl [2, 3, 4, 5, 6] rfl) hp
    · replace hp := ite_p hp c14
      refine z_aload_n hx hb dL_law_1448 rfl (zl_at hl 4 rfl) ?_
      refine lv_iconst (v := iI 0) hx hb dL_law_1449 rfl ?_
      obtain ⟨k15, hp⟩ := ck_i hp
      refine r_lald hx hb hK hR k15.1 k15.2 dL_law_1450 ?_
      refine lv_iload hx hb dL_law_1451 (zl_at hl 0 rfl) ?_
      refine lv_i2l (v := (r8).toInt64) hx hb dL_law_1453 rfl ?_
      refine W.lcmp hx hb dL_law_1454 ?_
      refine lv_if_eq (tgt := 1460) hx hb dL_law_1455 (by decide) (fun c17 => ?_) (fun c17 => ?_)
      · replace hp := ite_p hp c17
        exact s_L_law_1460 hfl hX hbB hz0 hz1 hz2 C hk23 hR hL (zl_sub hl [2, 3, 4, 5, 6] rfl) hp
      · replace hp := ite_n hp c17
        refine lv_iconst (v := iI 0) hx hb dL_law_1458 rfl ?_
        exact law_no hp
  · replace hp := ite_n hp c13
    refine lv_iconst (v := iI 0) hx hb dL_law_1441 rfl ?_
    exact law_no hp
def p_L_law_23 (xs : Nat → Int32) (L : Nat)  : Nat → Nat → Nat → Nat → Int32 → AH → Option (Int32 × AH)
  | 0, _, _, _, _, _ => none
  | n + 1, v1, v2, v3, v4, h =>
    if ((nI L) - (iI 4)) < v4 then
      some ((iI 1), h)
    else
      ck (ix v4 L) <|
      if ((xs v4.toNatClampNeg) &&& (iI 31)) = iI 0 then
        p_L_law_140 xs L (p_L_law_23 xs L  n) v1 v2 v3 v4 h
      else
        if ((xs v4.toNatClampNeg) &&& (iI 31)) = iI 1 then
          p_L_law_222 xs L (p_L_law_23 xs L  n) v1 v2 v3 v4 h
        else
          if ((xs v4.toNatClampNeg) &&& (iI 31)) = iI 2 then
            p_L_law_290 xs L (p_L_law_23 xs L  n) v1 v2 v3 v4 h
          else
            if ((xs v4.toNatClampNeg) &&& (iI 31)) = iI 3 then
              p_L_law_370 xs L (p_L_law_23 xs L  n) v1 v2 v3 v4 h
            else
              if ((xs v4.toNatClampNeg) &&& (iI 31)) = iI 4 then
                p_L_law_426 xs L (p_L_law_23 xs L  n) v1 v2 v3 v4 h
              else
                if ((xs v4.toNatClampNeg) &&& (iI 31)) = iI 5 then
                  p_L_law_482 xs L (p_L_law_23 xs L  n) v1 v2 v3 v4 h
                else
                  if ((xs v4.toNatClampNeg) &&& (iI 31)) = iI 6 then
                    p_L_law_550 xs L (p_L_law_23 xs L  n) v1 v2 v3 v4 h
                  else
                    if ((xs v4.toNatClampNeg) &&& (iI 31)) = iI 7 then
                      p_L_law_606 xs L (p_L_law_23 xs L  n) v1 v2 v3 v4 h
                    else
                      if ((xs v4.toNatClampNeg) &&& (iI 31)) = iI 8 then
                        p_L_law_674 xs L (p_L_law_23 xs L  n) v1 v2 v3 v4 h
                      else
                        if ((xs v4.toNatClampNeg) &&& (iI 31)) = iI 9 then
                          p_L_law_742 xs L (p_L_law_23 xs L  n) v1 v2 v3 v4 h
                        else
                          if ((xs v4.toNatClampNeg) &&& (iI 31)) = iI 10 then
                            p_L_law_798 xs L (p_L_law_23 xs L  n) v1 v2 v3 v4 h
                          else
                            if ((xs v4.toNatClampNeg) &&& (iI 31)) = iI 11 then
                              p_L_law_878 xs L (p_L_law_23 xs L  n) v1 v2 v3 v4 h
                            else
                              if ((xs v4.toNatClampNeg) &&& (iI 31)) = iI 12 then
                                p_L_law_934 xs L (p_L_law_23 xs L  n) v1 v2 v3 v4 h
                              else
                                if ((xs v4.toNatClampNeg) &&& (iI 31)) = iI 13 then
                                  p_L_law_990 xs L (p_L_law_23 xs L  n) v1 v2 v3 v4 h
                                else
                                  if ((xs v4.toNatClampNeg) &&& (iI 31)) = iI 14 then
                                    p_L_law_1046 xs L (p_L_law_23 xs L  n) v1 v2 v3 v4 h
                                  else
                                    if ((xs v4.toNatClampNeg) &&& (iI 31)) = iI 15 then
                                      p_L_law_1102 xs L (p_L_law_23 xs L  n) v1 v2 v3 v4 h
                                    else
                                      if ((xs v4.toNatClampNeg) &&& (iI 31)) = iI 16 then
                                        p_L_law_1177 xs L (p_L_law_23 xs L  n) v1 v2 v3 v4 h
                                      else
                                        if ((xs v4.toNatClampNeg) &&& (iI 31)) = iI 17 then
                                          p_L_law_1257 xs L (p_L_law_23 xs L  n) v1 v2 v3 v4 h
                                        else
                                          if ((xs v4.toNatClampNeg) &&& (iI 31)) = iI 18 then
                                            p_L_law_1270 xs L (p_L_law_23 xs L  n) v1 v2 v3 v4 h
                                          else
                                            if ((xs v4.toNatClampNeg) &&& (iI 31)) = iI 19 then
                                              p_L_law_1283 xs L (p_L_law_23 xs L  n) v1 v2 v3 v4 h
                                            else
                                              if ((xs v4.toNatClampNeg) &&& (iI 31)) = iI 20 then
                                                p_L_law_1339 xs L (p_L_law_23 xs L  n) v1 v2 v3 v4 h
                                              else
                                                if ((xs v4.toNatClampNeg) &&& (iI 31)) = iI 21 then
                                                  p_L_law_1395 xs L (p_L_law_23 xs L  n) v1 v2 v3 v4 h
                                                else
                                                  p_L_law_1463 xs L (p_L_law_23 xs L  n) v1 v2 v3 v4 h
set_option maxHeartbeats 4000000 in
set_option maxRecDepth 100000 in
theorem s_L_law_23 {p : Program} {l : Launch} {e : Env} {s : State} {m : MethodId} {b L : Nat} {xs : Nat → Int32} {nm : String} {below : List Frame} {meth : Method} {c : Code} {G : GG} {hs : AH}  {h' : AH} (hfl : l.stackTraces = false) (hX : va_X b L xs s (gH G)) (hbB : b < gB G) (hz0 : s.heap.size = gB G) (hz1 : gC G - aZ hs = 601024) (hz2 : aU hs = 0) (C : Cx G hs p s m #[Value.ref b] meth c cL_law 7 RL lw_tbl (some .boolean) nm)   : ∀ (n : Nat) (v1 : Nat) (v2 : Nat) (v3 : Nat) (v4 : Int32) (h : AH) (H : Heap) (locs : List Loc) (cells slots : Nat) (ls : Array Slot) (hR : Rp G h H) (hL : ∀ q ∈ locs, gB G ≤ q.base) (hl : zl ls 7 [(1, zr v1), (2, zr v2), (3, zr v3), (4, .int v4), (0, .ref b)]) (hp : p_L_law_23 xs L  n v1 v2 v3 v4 h = some (iI 1, h')), W p l e (gR G hs 16 612) s m #[Value.ref b] below meth c H locs cells slots (lw_Z below #[Value.ref b] s) (F0 m 23 ls []) := by
  obtain ⟨hx, hb, hml, hown, hts, hT, hK, rs, hlk, hret, hnm⟩ := id C
  have hm : ∀ w ∈ MW, w.before #[Value.ref b] s = true := fun w hw => hts w (hT w hw)
  intro n
  induction n with
  | zero =>
    intro v1 v2 v3 v4 h H locs cells slots ls hR hL hl hp
    exact absurd (show none = some (iI 1, h') from hp) (by simp)
  | succ n ih =>
    intro v1 v2 v3 v4 h H locs cells slots ls hR hL hl hp
    rw [p_L_law_23.eq_2] at hp
    refine lv_iload hx hb dL_law_23 (zl_at hl 3 rfl) ?_
    refine lv_aload_n hx hb dL_law_25 rfl (zl_at hl 4 rfl) ?_
    refine r_slen hx hb hX hbB hR dL_law_26 ?_
    refine lv_iconst (v := iI 4) hx hb dL_law_27 rfl ?_
    refine lv_isub hx hb dL_law_28 ?_
    refine lv_icmp_gt (tgt := 1469) hx hb dL_law_29 (by decide) (fun c1 => ?_) (fun c1 => ?_)
    · replace hp := ite_p hp c1
      refine lv_iconst (v := iI 1) hx hb dL_law_1469 rfl ?_
      exact r_lawret C hR hL hz0 hz1 hz2 dL_law_1470
    · replace hp := ite_n hp c1
      refine lv_aload_n hx hb dL_law_32 rfl (zl_at hl 4 rfl) ?_
      refine lv_iload hx hb dL_law_33 (zl_at hl 3 rfl) ?_
      obtain ⟨k2, hp⟩ := ck_i hp
      refine r_sld hx hb hX hbB hR k2 dL_law_35 ?_
      refine lv_bipush (v := iI 31) hx hb dL_law_36 (by decide +kernel) ?_
      refine lv_iand hx hb dL_law_38 ?_
      obtain ⟨x_, ex_⟩ : ∃ y : Int32, y = ((xs v4.toNatClampNeg) &&& (iI 31)) := ⟨_, rfl⟩
      by_cases c3 : ((xs v4.toNatClampNeg) &&& (iI 31)) = iI 0
      · replace hp := ite_p hp c3
        refine lv_tableIn (off := 101) (tgt := 140) hx hb dL_law_39 (by rw [c3]; decide +kernel) (by rw [c3]; decide +kernel) (by rw [c3]; decide +kernel) (by decide) ?_
        exact s_L_law_140 hfl hX hbB hz0 hz1 hz2 C (fun hR hL hl hp => ih _ _ _ _ _ _ _ _ _ _ hR hL hl hp) hR hL (zl_sub hl [0, 1, 2, 3, 4] rfl) hp
      replace hp := ite_n hp c3
      by_cases c4 : ((xs v4.toNatClampNeg) &&& (iI 31)) = iI 1
      · replace hp := ite_p hp c4
        refine lv_tableIn (off := 183) (tgt := 222) hx hb dL_law_39 (by rw [c4]; decide +kernel) (by rw [c4]; decide +kernel) (by rw [c4]; decide +kernel) (by decide) ?_
        exact s_L_law_222 hfl hX hbB hz0 hz1 hz2 C (fun hR hL hl hp => ih _ _ _ _ _ _ _ _ _ _ hR hL hl hp) hR hL (zl_sub hl [0, 1, 2, 3, 4] rfl) hp
      replace hp := ite_n hp c4
      by_cases c5 : ((xs v4.toNatClampNeg) &&& (iI 31)) = iI 2
      · replace hp := ite_p hp c5
        refine lv_tableIn (off := 251) (tgt := 290) hx hb dL_law_39 (by rw [c5]; decide +kernel) (by rw [c5]; decide +kernel) (by rw [c5]; decide +kernel) (by decide) ?_
        exact s_L_law_290 hfl hX hbB hz0 hz1 hz2 C (fun hR hL hl hp => ih _ _ _ _ _ _ _ _ _ _ hR hL hl hp) hR hL (zl_sub hl [0, 1, 2, 3, 4] rfl) hp
      replace hp := ite_n hp c5
      by_cases c6 : ((xs v4.toNatClampNeg) &&& (iI 31)) = iI 3
      · replace hp := ite_p hp c6
        refine lv_tableIn (off := 331) (tgt := 370) hx hb dL_law_39 (by rw [c6]; decide +kernel) (by rw [c6]; decide +kernel) (by rw [c6]; decide +kernel) (by decide) ?_
        exact s_L_law_370 hfl hX hbB hz0 hz1 hz2 C (fun hR hL hl hp => ih _ _ _ _ _ _ _ _ _ _ hR hL hl hp) hR hL (zl_sub hl [0, 1, 2, 3, 4] rfl) hp
      replace hp := ite_n hp c6
      by_cases c7 : ((xs v4.toNatClampNeg) &&& (iI 31)) = iI 4
      · replace hp := ite_p hp c7
        refine lv_tableIn (off := 387) (tgt := 426) hx hb dL_law_39 (by rw [c7]; decide +kernel) (by rw [c7]; decide +kernel) (by rw [c7]; decide +kernel) (by decide) ?_
        exact s_L_law_426 hfl hX hbB hz0 hz1 hz2 C (fun hR hL hl hp => ih _ _ _ _ _ _ _ _ _ _ hR hL hl hp) hR hL (zl_sub hl [0, 1, 2, 3, 4] rfl) hp
      replace hp := ite_n hp c7
      by_cases c8 : ((xs v4.toNatClampNeg) &&& (iI 31)) = iI 5
      · replace hp := ite_p hp c8
        refine lv_tableIn (off := 443) (tgt := 482) hx hb dL_law_39 (by rw [c8]; decide +kernel) (by rw [c8]; decide +kernel) (by rw [c8]; decide +kernel) (by decide) ?_
        exact s_L_law_482 hfl hX hbB hz0 hz1 hz2 C (fun hR hL hl hp => ih _ _ _ _ _ _ _ _ _ _ hR hL hl hp) hR hL (zl_sub hl [0, 1, 2, 3, 4] rfl) hp
      replace hp := ite_n hp c8
      by_cases c9 : ((xs v4.toNatClampNeg) &&& (iI 31)) = iI 6
      · replace hp := ite_p hp c9
        refine lv_tableIn (off := 511) (tgt := 550) hx hb dL_law_39 (by rw [c9]; decide +kernel) (by rw [c9]; decide +kernel) (by rw [c9]; decide +kernel) (by decide) ?_
        exact s_L_law_550 hfl hX hbB hz0 hz1 hz2 C (fun hR hL hl hp => ih _ _ _ _ _ _ _ _ _ _ hR hL hl hp) hR hL (zl_sub hl [0, 1, 2, 3, 4] rfl) hp
      replace hp := ite_n hp c9
      by_cases c10 : ((xs v4.toNatClampNeg) &&& (iI 31)) = iI 7
      · replace hp := ite_p hp c10
        refine lv_tableIn (off := 567) (tgt := 606) hx hb dL_law_39 (by rw [c10]; decide +kernel) (by rw [c10]; decide +kernel) (by rw [c10]; decide +kernel) (by decide) ?_
        exact s_L_law_606 hfl hX hbB hz0 hz1 hz2 C (fun hR hL hl hp => ih _ _ _ _ _ _ _ _ _ _ hR hL hl hp) hR hL (zl_sub hl [0, 1, 2, 3, 4] rfl) hp
      replace hp := ite_n hp c10
      by_cases c11 : ((xs v4.toNatClampNeg) &&& (iI 31)) = iI 8
      · replace hp := ite_p hp c11
        refine lv_tableIn (off := 635) (tgt := 674) hx hb dL_law_39 (by rw [c11]; decide +kernel) (by rw [c11]; decide +kernel) (by rw [c11]; decide +kernel) (by decide) ?_
        exact s_L_law_674 hfl hX hbB hz0 hz1 hz2 C (fun hR hL hl hp => ih _ _ _ _ _ _ _ _ _ _ hR hL hl hp) hR hL (zl_sub hl [0, 1, 2, 3, 4] rfl) hp
      replace hp := ite_n hp c11
      by_cases c12 : ((xs v4.toNatClampNeg) &&& (iI 31)) = iI 9
      · replace hp := ite_p hp c12
        refine lv_tableIn (off := 703) (tgt := 742) hx hb dL_law_39 (by rw [c12]; decide +kernel) (by rw [c12]; decide +kernel) (by rw [c12]; decide +kernel) (by decide) ?_
        exact s_L_law_742 hfl hX hbB hz0 hz1 hz2 C (fun hR hL hl hp => ih _ _ _ _ _ _ _ _ _ _ hR hL hl hp) hR hL (zl_sub hl [0, 1, 2, 3, 4] rfl) hp
      replace hp := ite_n hp c12
      by_cases c13 : ((xs v4.toNatClampNeg) &&& (iI 31)) = iI 10
      · replace hp := ite_p hp c13
        refine lv_tableIn (off := 759) (tgt := 798) hx hb dL_law_39 (by rw [c13]; decide +kernel) (by rw [c13]; decide +kernel) (by rw [c13]; decide +kernel) (by decide) ?_
        exact s_L_law_798 hfl hX hbB hz0 hz1 hz2 C (fun hR hL hl hp => ih _ _ _ _ _ _ _ _ _ _ hR hL hl hp) hR hL (zl_sub hl [0, 1, 2, 3, 4] rfl) hp
      replace hp := ite_n hp c13
      by_cases c14 : ((xs v4.toNatClampNeg) &&& (iI 31)) = iI 11
      · replace hp := ite_p hp c14
        refine lv_tableIn (off := 839) (tgt := 878) hx hb dL_law_39 (by rw [c14]; decide +kernel) (by rw [c14]; decide +kernel) (by rw [c14]; decide +kernel) (by decide) ?_
        exact s_L_law_878 hfl hX hbB hz0 hz1 hz2 C (fun hR hL hl hp => ih _ _ _ _ _ _ _ _ _ _ hR hL hl hp) hR hL (zl_sub hl [0, 1, 2, 3, 4] rfl) hp
      replace hp := ite_n hp c14
      by_cases c15 : ((xs v4.toNatClampNeg) &&& (iI 31)) = iI 12
      · replace hp := ite_p hp c15
        refine lv_tableIn (off := 895) (tgt := 934) hx hb dL_law_39 (by rw [c15]; decide +kernel) (by rw [c15]; decide +kernel) (by rw [c15]; decide +kernel) (by decide) ?_
        exact s_L_law_934 hfl hX hbB hz0 hz1 hz2 C (fun hR hL hl hp => ih _ _ _ _ _ _ _ _ _ _ hR hL hl hp) hR hL (zl_sub hl [0, 1, 2, 3, 4] rfl) hp
      replace hp := ite_n hp c15
      by_cases c16 : ((xs v4.toNatClampNeg) &&& (iI 31)) = iI 13
      · replace hp := ite_p hp c16
        refine lv_tableIn (off := 951) (tgt := 990) hx hb dL_law_39 (by rw [c16]; decide +kernel) (by rw [c16]; decide +kernel) (by rw [c16]; decide +kernel) (by decide) ?_
        exact s_L_law_990 hfl hX hbB hz0 hz1 hz2 C (fun hR hL hl hp => ih _ _ _ _ _ _ _ _ _ _ hR hL hl hp) hR hL (zl_sub hl [0, 1, 2, 3, 4] rfl) hp
      replace hp := ite_n hp c16
      by_cases c17 : ((xs v4.toNatClampNeg) &&& (iI 31)) = iI 14
      · replace hp := ite_p hp c17
        refine lv_tableIn (off := 1007) (tgt := 1046) hx hb dL_law_39 (by rw [c17]; decide +kernel) (by rw [c17]; decide +kernel) (by rw [c17]; decide +kernel) (by decide) ?_
        exact s_L_law_1046 hfl hX hbB hz0 hz1 hz2 C (fun hR hL hl hp => ih _ _ _ _ _ _ _ _ _ _ hR hL hl hp) hR hL (zl_sub hl [0, 1, 2, 3, 4] rfl) hp
      replace hp := ite_n hp c17
      by_cases c18 : ((xs v4.toNatClampNeg) &&& (iI 31)) = iI 15
      · replace hp := ite_p hp c18
        refine lv_tableIn (off := 1063) (tgt := 1102) hx hb dL_law_39 (by rw [c18]; decide +kernel) (by rw [c18]; decide +kernel) (by rw [c18]; decide +kernel) (by decide) ?_
        exact s_L_law_1102 hfl hX hbB hz0 hz1 hz2 C (fun hR hL hl hp => ih _ _ _ _ _ _ _ _ _ _ hR hL hl hp) hR hL (zl_sub hl [0, 1, 2, 3, 4] rfl) hp
      replace hp := ite_n hp c18
      by_cases c19 : ((xs v4.toNatClampNeg) &&& (iI 31)) = iI 16
      · replace hp := ite_p hp c19
        refine lv_tableIn (off := 1138) (tgt := 1177) hx hb dL_law_39 (by rw [c19]; decide +kernel) (by rw [c19]; decide +kernel) (by rw [c19]; decide +kernel) (by decide) ?_
        exact s_L_law_1177 hfl hX hbB hz0 hz1 hz2 C (fun hR hL hl hp => ih _ _ _ _ _ _ _ _ _ _ hR hL hl hp) hR hL (zl_sub hl [0, 1, 2, 3, 4] rfl) hp
      replace hp := ite_n hp c19
      by_cases c20 : ((xs v4.toNatClampNeg) &&& (iI 31)) = iI 17
      · replace hp := ite_p hp c20
        refine lv_tableIn (off := 1218) (tgt := 1257) hx hb dL_law_39 (by rw [c20]; decide +kernel) (by rw [c20]; decide +kernel) (by rw [c20]; decide +kernel) (by decide) ?_
        exact s_L_law_1257 hfl hX hbB hz0 hz1 hz2 C (fun hR hL hl hp => ih _ _ _ _ _ _ _ _ _ _ hR hL hl hp) hR hL (zl_sub hl [0, 1, 2, 3, 4] rfl) hp
      replace hp := ite_n hp c20
      by_cases c21 : ((xs v4.toNatClampNeg) &&& (iI 31)) = iI 18
      · replace hp := ite_p hp c21
        refine lv_tableIn (off := 1231) (tgt := 1270) hx hb dL_law_39 (by rw [c21]; decide +kernel) (by rw [c21]; decide +kernel) (by rw [c21]; decide +kernel) (by decide) ?_
        exact s_L_law_1270 hfl hX hbB hz0 hz1 hz2 C (fun hR hL hl hp => ih _ _ _ _ _ _ _ _ _ _ hR hL hl hp) hR hL (zl_sub hl [0, 1, 2, 3, 4] rfl) hp
      replace hp := ite_n hp c21
      by_cases c22 : ((xs v4.toNatClampNeg) &&& (iI 31)) = iI 19
      · replace hp := ite_p hp c22
        refine lv_tableIn (off := 1244) (tgt := 1283) hx hb dL_law_39 (by rw [c22]; decide +kernel) (by rw [c22]; decide +kernel) (by rw [c22]; decide +kernel) (by decide) ?_
        exact s_L_law_1283 hfl hX hbB hz0 hz1 hz2 C (fun hR hL hl hp => ih _ _ _ _ _ _ _ _ _ _ hR hL hl hp) hR hL (zl_sub hl [0, 1, 2, 3, 4] rfl) hp
      replace hp := ite_n hp c22
      by_cases c23 : ((xs v4.toNatClampNeg) &&& (iI 31)) = iI 20
      · replace hp := ite_p hp c23
        refine lv_tableIn (off := 1300) (tgt := 1339) hx hb dL_law_39 (by rw [c23]; decide +kernel) (by rw [c23]; decide +kernel) (by rw [c23]; decide +kernel) (by decide) ?_
        exact s_L_law_1339 hfl hX hbB hz0 hz1 hz2 C (fun hR hL hl hp => ih _ _ _ _ _ _ _ _ _ _ hR hL hl hp) hR hL (zl_sub hl [0, 1, 2, 3, 4] rfl) hp
      replace hp := ite_n hp c23
      by_cases c24 : ((xs v4.toNatClampNeg) &&& (iI 31)) = iI 21
      · replace hp := ite_p hp c24
        refine lv_tableIn (off := 1356) (tgt := 1395) hx hb dL_law_39 (by rw [c24]; decide +kernel) (by rw [c24]; decide +kernel) (by rw [c24]; decide +kernel) (by decide) ?_
        exact s_L_law_1395 hfl hX hbB hz0 hz1 hz2 C (fun hR hL hl hp => ih _ _ _ _ _ _ _ _ _ _ hR hL hl hp) hR hL (zl_sub hl [0, 1, 2, 3, 4] rfl) hp
      replace hp := ite_n hp c24
      refine lv_tableOut (tgt := 1463) hx hb dL_law_39 (by have := lv_neT (a := 0) c3 (by decide +kernel); have := lv_neT (a := 1) c4 (by decide +kernel); have := lv_neT (a := 2) c5 (by decide +kernel); have := lv_neT (a := 3) c6 (by decide +kernel); have := lv_neT (a := 4) c7 (by decide +kernel); have := lv_neT (a := 5) c8 (by decide +kernel); have := lv_neT (a := 6) c9 (by decide +kernel); have := lv_neT (a := 7) c10 (by decide +kernel); have := lv_neT (a := 8) c11 (by decide +kernel); have := lv_neT (a := 9) c12 (by decide +kernel); have := lv_neT (a := 10) c13 (by decide +kernel); have := lv_neT (a := 11) c14 (by decide +kernel); have := lv_neT (a := 12) c15 (by decide +kernel); have := lv_neT (a := 13) c16 (by decide +kernel); have := lv_neT (a := 14) c17 (by decide +kernel); have := lv_neT (a := 15) c18 (by decide +kernel); have := lv_neT (a := 16) c19 (by decide +kernel); have := lv_neT (a := 17) c20 (by decide +kernel); have := lv_neT (a := 18) c21 (by decide +kernel); have := lv_neT (a := 19) c22 (by decide +kernel); have := lv_neT (a := 20) c23 (by decide +kernel); have := lv_neT (a := 21) c24 (by decide +kernel); omega) (by decide) ?_
      exact s_L_law_1463 hfl hX hbB hz0 hz1 hz2 C (fun hR hL hl hp => ih _ _ _ _ _ _ _ _ _ _ hR hL hl hp) hR hL (zl_sub hl [0, 1, 2, 3, 4] rfl) hp
def p_L_law_0 (xs : Nat → Int32) (L : Nat)   (h : AH) : Option (Int32 × AH) :=
  ck (aZ h + 1 ≤ aC h ∧ aU h + 7 ≤ gS) <|
  nm (uN h 12 7) fun h2 =>
  ck (aK h2 (aZ h) ≠ 0) <|
  bR (p_X10_init (aZ h) h2) fun r4 h5 =>
  nm ((aZ h)) fun (x6 : Nat) =>
  ck (aZ h5 + 1 ≤ aC h5 ∧ aU h5 + 32 ≤ gS) <|
  nm (uN h5 13 32) fun h8 =>
  ck (aK h8 (aZ h5) ≠ 0) <|
  bR (p_X11_init (aZ h5) h8) fun r10 h11 =>
  nm ((aZ h5)) fun (x12 : Nat) =>
  ck ((0 ≤ (iI 1) ∧ (iI 1).toNatClampNeg ≤ 100000) ∧ aZ h11 + 1 ≤ aC h11 ∧ aU h11 + (iI 1).toNatClampNeg ≤ gS) <|
  nm (uN h11 23 (iI 1).toNatClampNeg) fun h15 =>
  nm ((aZ h11)) fun (x16 : Nat) =>
  nm ((iI 0)) fun (x17 : Int32) =>
  p_L_law_23 xs L  FU x6 x12 x16 x17 h15
set_option maxHeartbeats 4000000 in
set_option maxRecDepth 100000 in
theorem s_L_law_0 {p : Program} {l : Launch} {e : Env} {s : State} {m : MethodId} {b L : Nat} {xs : Nat → Int32} {nm : String} {below : List Frame} {meth : Method} {c : Code} {G : GG} {hs : AH}  {h' : AH} (hfl : l.stackTraces = false) (hX : va_X b L xs s (gH G)) (hbB : b < gB G) (hz0 : s.heap.size = gB G) (hz1 : gC G - aZ hs = 601024) (hz2 : aU hs = 0) (C : Cx G hs p s m #[Value.ref b] meth c cL_law 7 RL lw_tbl (some .boolean) nm)    {h : AH} {H : Heap} {locs : List Loc} {cells slots : Nat} {ls : Array Slot} (hR : Rp G h H) (hL : ∀ q ∈ locs, gB G ≤ q.base) (hl : zl ls 7 [(0, .ref b)]) (hp : p_L_law_0 xs L   h = some (iI 1, h')) : W p l e (gR G hs 16 612) s m #[Value.ref b] below meth c H locs cells slots (lw_Z below #[Value.ref b] s) (F0 m 0 ls []) := by
  obtain ⟨hx, hb, hml, hown, hts, hT, hK, rs, hlk, hret, hnm⟩ := id C
  have hm : ∀ w ∈ MW, w.before #[Value.ref b] s = true := fun w hw => hts w (hT w hw)
  unfold p_L_law_0 at hp
  obtain ⟨k1, hp⟩ := ck_i hp
  refine r_new (ci := 11) (C := RX10) (T := TX10) (N := 7) (ty0 := tyX10) C hR hL rfl ii_X10 tyX10_ok (fun _ => rfl) (by decide +kernel) mw_28 mw_29 mw_1 k1 dL_law_0 (fun H cells slots hR => ?_)
  obtain ⟨h2, hp, hR⟩ := nm_h hp hR
  refine lv_dup hx hb dL_law_3 (zr_cat _) ?_
  obtain ⟨k3, hp⟩ := ck_i hp
  obtain ⟨r4, h5, er4, hp⟩ := bR_i hp
  refine r_callI (n := 0) (As := []) (rest := [zr (aZ h)]) C (c_X10_init l G (aZ h) h2 r4 h5 er4) hR hL k3 mw_30 mw_31 mw_1 mw_32 rfl (by decide +kernel) (by decide) rfl (zl_size hl) rfl (by simp [zr_cat, in_cat]) dL_law_4 (st2 := [zr (aZ h)]) rfl (fun H locs cells slots hR hL => ?_)
  refine lv_topz (fun x6 ex6 => ?_)
  replace hp := nm_i hp ex6
  refine z_astore_n (lv' := [(1, zr x6), (0, .ref b)]) hx hb dL_law_7 rfl hl (by decide) rfl (fun ls hl => ?_)
  obtain ⟨k7, hp⟩ := ck_i hp
  refine r_new (ci := 12) (C := RX11) (T := TX11) (N := 32) (ty0 := tyX11) C hR hL rfl ii_X11 tyX11_ok (fun _ => rfl) (by decide +kernel) mw_976 mw_977 mw_10 k7 dL_law_8 (fun H cells slots hR => ?_)
  obtain ⟨h8, hp, hR⟩ := nm_h hp hR
  refine lv_dup hx hb dL_law_11 (zr_cat _) ?_
  obtain ⟨k9, hp⟩ := ck_i hp
  obtain ⟨r10, h11, er10, hp⟩ := bR_i hp
  refine r_callI (n := 0) (As := []) (rest := [zr (aZ h5)]) C (c_X11_init l G (aZ h5) h8 r10 h11 er10) hR hL k9 mw_978 mw_979 mw_10 mw_980 rfl (by decide +kernel) (by decide) rfl (zl_size hl) rfl (by simp [zr_cat, in_cat]) dL_law_12 (st2 := [zr (aZ h5)]) rfl (fun H locs cells slots hR hL => ?_)
  refine lv_topz (fun x12 ex12 => ?_)
  replace hp := nm_i hp ex12
  refine z_astore_n (lv' := [(2, zr x12), (1, zr x6), (0, .ref b)]) hx hb dL_law_15 rfl hl (by decide) rfl (fun ls hl => ?_)
  refine lv_iconst (v := iI 1) hx hb dL_law_16 rfl ?_
  obtain ⟨k13, hp⟩ := ck_i hp
  refine r_newa (t := 3) (by decide) rfl (fun _ h9 => nomatch (show FieldType.long = _ from h9)) rfl C hR mw_1260 k13.1 k13.2 dL_law_17 (fun H cells slots hR => ?_)
  obtain ⟨h15, hp, hR⟩ := nm_h hp hR
  refine lv_topz (fun x16 ex16 => ?_)
  replace hp := nm_i hp ex16
  refine z_astore_n (lv' := [(3, zr x16), (2, zr x12), (1, zr x6), (0, .ref b)]) hx hb dL_law_19 rfl hl (by decide) rfl (fun ls hl => ?_)
  refine lv_iconst (v := iI 0) hx hb dL_law_20 rfl ?_
  refine lv_topi (fun x17 ex17 => ?_)
  replace hp := nm_i hp ex17
  refine z_istore (lv' := [(4, .int x17), (3, zr x16), (2, zr x12), (1, zr x6), (0, .ref b)]) hx hb dL_law_21 hl (by decide) rfl (fun ls hl => ?_)
  exact s_L_law_23 hfl hX hbB hz0 hz1 hz2 C  _ _ _ _ _ _ _ _ _ _ _ hR hL (zl_sub hl [3, 2, 1, 0, 4] rfl) hp
