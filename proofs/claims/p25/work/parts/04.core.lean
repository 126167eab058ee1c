/-! ===== the abstract heap: kinds, lengths, ints, references (0: null), longs, size, slots used ===== -/
abbrev AH : Type := (Nat → Nat) × (Nat → Nat) × (Nat → Nat → Int32) × (Nat → Nat → Nat) × (Nat → Nat → Int64) × Nat × Nat × Nat × Nat × Nat
def aK (h : AH) : Nat → Nat := h.1
def aN (h : AH) : Nat → Nat := h.2.1
def aI (h : AH) : Nat → Nat → Int32 := h.2.2.1
def aR (h : AH) : Nat → Nat → Nat := h.2.2.2.1
def aL (h : AH) : Nat → Nat → Int64 := h.2.2.2.2.1
def aZ (h : AH) : Nat := h.2.2.2.2.2.1
def aU (h : AH) : Nat := h.2.2.2.2.2.2.1
/-- the address of the lists' one empty array -/
def aE (h : AH) : Nat := h.2.2.2.2.2.2.2.1
/-- how many cells there may be -/
def aC (h : AH) : Nat := h.2.2.2.2.2.2.2.2.1
/-- the class object of Object[] -/
def aM (h : AH) : Nat := h.2.2.2.2.2.2.2.2.2
def up2 {α : Type} (f : Nat → Nat → α) (a k : Nat) (v : α) : Nat → Nat → α := fun b j => if b = a ∧ j = k then v else f b j
def uI (h : AH) (a k : Nat) (v : Int32) : AH := (aK h, aN h, up2 (aI h) a k v, aR h, aL h, aZ h, aU h, aE h, aC h, aM h)
def uR (h : AH) (a k : Nat) (v : Nat) : AH := (aK h, aN h, aI h, up2 (aR h) a k v, aL h, aZ h, aU h, aE h, aC h, aM h)
def uL (h : AH) (a k : Nat) (v : Int64) : AH := (aK h, aN h, aI h, aR h, up2 (aL h) a k v, aZ h, aU h, aE h, aC h, aM h)
/-- a new cell of kind K with n slots, at aZ h -/
def uN (h : AH) (K n : Nat) : AH := (fun b => if b = aZ h then K else aK h b, fun b => if b = aZ h then n else aN h b, fun b j => if b = aZ h then 0 else aI h b j, fun b j => if b = aZ h then 0 else aR h b j, fun b j => if b = aZ h then 0 else aL h b j, aZ h + 1, aU h + n, aE h, aC h, aM h)
/-- a reference by its number: 0 is null, n + 1 the cell n -/
def zr (r : Nat) : Value := if r = 0 then .null else .ref (r - 1)
theorem zr_0 : zr 0 = .null := rfl
theorem zr_p {r : Nat} (h : r ≠ 0) : zr r = .ref (r - 1) := if_neg h
theorem zr_cat (r : Nat) : (zr r).category = 1 := by unfold zr; split <;> rfl
theorem zr_narrow (r : Nat) (t : FieldType) : narrow t (zr r) = zr r := by unfold zr; split <;> cases t <;> rfl
theorem zr_fitsO (r : Nat) (C : String) : fits (.object C) (zr r) = true := by unfold zr; split <;> rfl
theorem zr_fitsA (r : Nat) (t : FieldType) : fits (.array t) (zr r) = true := by unfold zr; split <;> rfl
def vl (t : FieldType) (i : Int32) (r : Nat) (w : Int64) : Value := match t with
  | .long => .long w
  | .object _ => zr r
  | .array _ => zr r
  | _ => .int i
/-- the types of the arrays' elements, by number: an array's kind is 20 + its number -/
def aty : Nat → FieldType
  | 0 => .int
  | 1 => .char
  | 2 => .boolean
  | 3 => .byte
  | 4 => .object RX9
  | 5 => .object RX4
  | _ => .object "java/lang/Object"
/-- the fields' types, by the class's number in vwCl: an object's kind is 1 + that -/
def cty : Nat → Nat → FieldType
  | 0 => tyJx4a65c
  | 1 => tyX0
  | 2 => tyX1
  | 3 => tyX2
  | 4 => tyX3
  | 5 => tyX4
  | 6 => tyX5
  | 7 => tyX6
  | 8 => tyX7
  | 9 => tyX8
  | 10 => tyX9
  | 11 => tyX10
  | _ => tyX11
/-- what a run's worlds have in common: the classes' numbers and slots, the array classes' numbers, where our cells begin, the heap of the start -/
abbrev GG : Type := va_G × (Nat → ClassId) × Nat × Heap × Nat × Nat × (Nat × Nat × (Nat → Int32))
def gD (G : GG) : va_G := G.1
def gA (G : GG) : Nat → ClassId := G.2.1
def gB (G : GG) : Nat := G.2.2.1
def gH (G : GG) : Heap := G.2.2.2.1
def gE (G : GG) : Nat := G.2.2.2.2.1
/-- the class object of Object[] -/
def gM (G : GG) : Nat := G.2.2.2.2.2.1
/-- the script: its address, its length, its ints -/
def gX (G : GG) : Nat × Nat × (Nat → Int32) := G.2.2.2.2.2.2
def gC (G : GG) : Nat := gB G + 1 + 600130
def gS : Nat := 7301080
/-- the slots of the cells from b on -/
def ss (b : Nat) (H : Heap) : Nat := ((H.toList.map (fun c : Cell => c.slots.size)).drop b).sum
def cA (G : GG) (h : AH) (q : Nat) (H : Heap) : Prop :=
  (∀ (ci : Nat) (r : vw_C), vwCl[ci]? = some r → aK h q = ci + 1 → t_OB (q - 1) ((gD G).1 ci) r.2.2 ((gD G).2 ci) H (fun k => vl (cty ci k) (aI h q k) (aR h q k) (aL h q k))) ∧
  (∀ t : Nat, t < 7 → aK h q = 20 + t → ∃ c : Cell, H[q - 1]? = some c ∧ c.cls = gA G t ∧ (∀ k, c.vm ≠ .statics k) ∧ (0 < aN h q → c.vm = .none) ∧ c.slots.size = aN h q ∧ ∀ k, k < aN h q → c.slots[k]? = some (vl (aty t) (aI h q k) (aR h q k) (aL h q k)))
def Rp (G : GG) (h : AH) (H : Heap) : Prop :=
  H.size + 1 = aZ h ∧ gB G < aZ h ∧ True ∧ (∀ q, aK h q ≠ 0 → q ≠ 0 ∧ q < aZ h ∧ (gB G < q ∨ aK h q = 26 ∧ aN h q = 0)) ∧ (∀ q, cA G h q H) ∧ (∀ q, q < gB G → H[q]? = (gH G)[q]?) ∧ aU h = ss (gB G) H ∧ aZ h ≤ gC G ∧ aU h ≤ gS ∧ aE h = gE G ∧ aC h = gC G ∧ aM h = gM G
def gT (G : GG) : List (ClassId × FieldType) := [(gA G 0, aty 0), (gA G 1, aty 1), (gA G 2, aty 2), (gA G 3, aty 3), (gA G 4, aty 4), (gA G 5, aty 5), (gA G 6, aty 6)]
theorem gT_at (G : GG) {t : Nat} (ht : t < 7) : (gT G)[t]? = some (gA G t, aty t) := by
  match t, ht with
  | 0, _ => rfl
  | 1, _ => rfl
  | 2, _ => rfl
  | 3, _ => rfl
  | 4, _ => rfl
  | 5, _ => rfl
  | 6, _ => rfl
/-! the slots' sum -/
theorem ss_map_get {H H' : Heap} (hz : H'.size = H.size) (hq : ∀ q, q < H.size → (H'[q]?).map (fun c : Cell => c.slots.size) = (H[q]?).map (fun c : Cell => c.slots.size)) : H'.toList.map (fun c : Cell => c.slots.size) = H.toList.map (fun c : Cell => c.slots.size) := by
  apply List.ext_getElem?
  intro i
  rw [List.getElem?_map, List.getElem?_map, Array.getElem?_toList, Array.getElem?_toList]
  rcases Nat.lt_or_ge i H.size with h | h
  · exact hq i h
  · rw [Array.getElem?_eq_none h, Array.getElem?_eq_none (by omega)]
theorem ss_set {b a : Nat} {H H' : Heap} {c c' : Cell} (hz : H'.size = H.size) (ho : ∀ q, q ≠ a → H'[q]? = H[q]?) (h1 : H[a]? = some c) (h2 : H'[a]? = some c') (h3 : c'.slots.size = c.slots.size) : ss b H' = ss b H := by
  unfold ss
  rw [ss_map_get hz (fun q _ => ?_)]
  by_cases hq : q = a
  · subst hq
    rw [h1, h2, Option.map_some, Option.map_some, h3]
  · rw [ho q hq]
theorem ss_push {b n : Nat} {H : Heap} {c : Cell} (hb : b ≤ H.size) (hn : c.slots.size = n) : ss b (H.push c) = ss b H + n := by
  unfold ss
  rw [Array.toList_push, List.map_append, List.drop_append_of_le_length (by simp; exact hb), List.sum_append]
  simp [hn]
theorem push_of {H H' : Heap} {c : Cell} (hz : H'.size = H.size + 1) (h1 : H'[H.size]? = some c) (ho : ∀ q, q < H.size → H'[q]? = H[q]?) : H' = H.push c := by
  apply Array.ext_getElem?
  intro i
  rw [Array.getElem?_push]
  by_cases hi : i = H.size
  · rw [if_pos hi, hi, h1]
  · rw [if_neg hi]
    rcases Nat.lt_or_ge i H.size with h | h
    · exact ho i h
    · rw [Array.getElem?_eq_none (by omega), Array.getElem?_eq_none (by omega)]
theorem ss_split {b : Nat} {Hs H : Heap} (hb : b ≤ Hs.size) (hz : Hs.size ≤ H.size) (hq : ∀ q, q < Hs.size → (H[q]?).map (fun c : Cell => c.slots.size) = (Hs[q]?).map (fun c : Cell => c.slots.size)) : ss b H = ss b Hs + ((H.toList.drop Hs.size).map (fun c : Cell => c.slots.size)).sum := by
  have e : H.toList.map (fun c : Cell => c.slots.size) = Hs.toList.map (fun c : Cell => c.slots.size) ++ ((H.toList.drop Hs.size).map (fun c : Cell => c.slots.size)) := by
    apply List.ext_getElem?
    intro i
    rcases Nat.lt_or_ge i Hs.size with h | h
    · rw [List.getElem?_append_left (by simpa using h), List.getElem?_map, List.getElem?_map, Array.getElem?_toList, Array.getElem?_toList]
      exact hq i h
    · rw [List.getElem?_append_right (by simpa using h), List.getElem?_map, List.getElem?_map, List.getElem?_drop]
      simp only [List.length_map, Array.length_toList]
      rw [show Hs.size + (i - Hs.size) = i by omega]
  unfold ss
  rw [e, List.drop_append_of_le_length (by simpa using hb), List.sum_append]
/-! how the pictures move -/
theorem Rp.cap {G : GG} {h : AH} {H : Heap} (r : Rp G h H) : aC h = gC G := r.2.2.2.2.2.2.2.2.2.2.1
theorem Rp.size {G : GG} {h : AH} {H : Heap} (r : Rp G h H) : H.size + 1 = aZ h := r.1
theorem Rp.nz {G : GG} {h : AH} {H : Heap} (r : Rp G h H) {q : Nat} (hq : aK h q ≠ 0) : q ≠ 0 := (r.2.2.2.1 q hq).1
theorem Rp.lt {G : GG} {h : AH} {H : Heap} (r : Rp G h H) {q : Nat} (hq : aK h q ≠ 0) : q < aZ h := (r.2.2.2.1 q hq).2.1
theorem Rp.hi {G : GG} {h : AH} {H : Heap} (r : Rp G h H) {q : Nat} (hq : aK h q ≠ 0) (h2 : aK h q ≠ 26 ∨ aN h q ≠ 0) : gB G < q := by
  rcases (r.2.2.2.1 q hq).2.2 with z | z
  · exact z
  · omega
theorem Rp.ob {G : GG} {h : AH} {H : Heap} (r : Rp G h H) {q ci : Nat} {C : vw_C} (hc : vwCl[ci]? = some C) (hk : aK h q = ci + 1) : t_OB (q - 1) ((gD G).1 ci) C.2.2 ((gD G).2 ci) H (fun k => vl (cty ci k) (aI h q k) (aR h q k) (aL h q k)) := (r.2.2.2.2.1 q).1 ci C hc hk
theorem Rp.ar {G : GG} {h : AH} {H : Heap} (r : Rp G h H) {q t : Nat} (ht : t < 7) (hk : aK h q = 20 + t) : ∃ c : Cell, H[q - 1]? = some c ∧ c.cls = gA G t ∧ (∀ k, c.vm ≠ .statics k) ∧ (0 < aN h q → c.vm = .none) ∧ c.slots.size = aN h q ∧ ∀ k, k < aN h q → c.slots[k]? = some (vl (aty t) (aI h q k) (aR h q k) (aL h q k)) := (r.2.2.2.2.1 q).2 t ht hk
theorem vwCl_lt {ci : Nat} {C : vw_C} (hc : vwCl[ci]? = some C) : ci < 12 := (List.getElem?_eq_some_iff.mp hc).1
theorem cA.kept {G : GG} {h h' : AH} {q : Nat} {H H' : Heap} (c : cA G h q H) (hH : H'[q - 1]? = H[q - 1]?) (e1 : aK h' q = aK h q) (e2 : aN h' q = aN h q) (e3 : aI h' q = aI h q) (e4 : aR h' q = aR h q) (e5 : aL h' q = aL h q) : cA G h' q H' := by
  refine ⟨fun ci r hr hk => ?_, fun t ht hk => ?_⟩
  · rw [e3, e4, e5]
    exact (c.1 ci r hr (e1 ▸ hk)).kept hH
  · rw [e2, e3, e4, e5, hH]
    exact c.2 t ht (e1 ▸ hk)
/-- one cell has changed -/
theorem Rp.set {G : GG} {h h' : AH} {H H' : Heap} {a : Nat} {c c' : Cell} (r : Rp G h H) (ha : gB G < a) (hz : H'.size = H.size) (ho : ∀ q, q ≠ a - 1 → H'[q]? = H[q]?) (h1 : H[a - 1]? = some c) (h2 : H'[a - 1]? = some c') (h3 : c'.slots.size = c.slots.size)
    (eK : aK h' = aK h) (eN : aN h' = aN h) (eZ : aZ h' = aZ h) (eU : aU h' = aU h) (eI : ∀ q, q ≠ a → aI h' q = aI h q) (eR : ∀ q, q ≠ a → aR h' q = aR h q) (eL : ∀ q, q ≠ a → aL h' q = aL h q) (eE : aE h' = aE h) (eC : aC h' = aC h) (eM : aM h' = aM h) (hc : cA G h' a H') : Rp G h' H' := by
  obtain ⟨r1, r2, r3, r4, r5, r6, r7, r8, r9, r10, r11, r12⟩ := r
  refine ⟨by rw [hz, r1, eZ], by rw [eZ]; exact r2, r3, fun q hq => by rw [eZ, eK, eN]; exact r4 q (by rw [← eK]; exact hq), fun q => ?_, fun q hq => ?_, by rw [eU, r7, ss_set hz ho h1 h2 h3], by rw [eZ]; exact r8, by rw [eU]; exact r9, by rw [eE]; exact r10, by rw [eC]; exact r11, by rw [eM]; exact r12⟩
  · by_cases hq : q = a
    · rw [hq]; exact hc
    · by_cases hk : aK h q = 0
      · exact ⟨fun ci C hC hk' => by rw [eK, hk] at hk'; omega, fun t ht hk' => by rw [eK, hk] at hk'; omega⟩
      · have hq0 := (r4 q hk).1
        exact (r5 q).kept (ho (q - 1) (by omega)) (by rw [eK]) (by rw [eN]) (eI q hq) (eR q hq) (eL q hq)
  · rw [ho q (by omega)]
    exact r6 q hq
/-- one cell is new -/
theorem Rp.new {G : GG} {h : AH} {H H' : Heap} {K n : Nat} {c : Cell} (r : Rp G h H) (hz : H'.size = H.size + 1) (h1 : H'[H.size]? = some c) (ho : ∀ q, q < H.size → H'[q]? = H[q]?) (hn : c.slots.size = n) (hC : aZ h + 1 ≤ aC h) (hS : aU h + n ≤ gS) (hc : cA G (uN h K n) (aZ h) H') : Rp G (uN h K n) H' := by
  obtain ⟨r1, r2, r3, r4, r5, r6, r7, r8, r9, r10, r11, r12⟩ := r
  refine ⟨by rw [hz, r1]; rfl, Nat.lt_of_lt_of_le r2 (Nat.le_succ _), r3, fun q hq => ?_, fun q => ?_, fun q hq => ?_, ?_, by rw [← r11]; exact hC, hS, r10, r11, r12⟩
  · by_cases e : q = aZ h
    · exact ⟨by omega, by show q < aZ h + 1; omega, Or.inl (by omega)⟩
    · have h2 : aK (uN h K n) q = aK h q := if_neg e
      have h5 : aN (uN h K n) q = aN h q := if_neg e
      rw [h2] at hq
      have h3 := r4 q hq
      rw [h2, h5]
      exact ⟨h3.1, by show q < aZ h + 1; omega, h3.2.2⟩
  · by_cases e : q = aZ h
    · rw [e]; exact hc
    · have h2 : aK (uN h K n) q = aK h q := if_neg e
      by_cases h3 : aK h q = 0
      · exact ⟨fun ci C hC hk => by rw [h2, h3] at hk; omega, fun t ht hk => by rw [h2, h3] at hk; omega⟩
      · have h4 := r4 q h3
        exact (r5 q).kept (ho (q - 1) (by omega)) (if_neg e) (if_neg e) (funext fun j => if_neg e) (funext fun j => if_neg e) (funext fun j => if_neg e)
  · rw [ho q (by omega)]
    exact r6 q hq
  · rw [push_of hz h1 ho, ss_push (by omega) hn, ← r7]
    rfl
/-! what is known of the tables -/
def KW : List Cond := tables_1.filter (fun w => w.onTables && w.faceAtom)
theorem KW_t {w : Cond} (i : Nat) (h : tables_1[i]? = some w) (g : (w.onTables && w.faceAtom) = true) : w ∈ KW := List.mem_filter.mpr ⟨List.mem_of_getElem? h, g⟩
def KS : List (Nat × String) := [(268, "no such hand"), (270, "no such text"), (63, "no such letter"), (80, "the text has had all its letters"), (103, "no letter ahead of the cursor"), (115, "no such place"), (129, "nothing to undo"), (149, "nothing to redo"), (166, "no such kind, or its number is out of range"), (173, "no more formats"), (272, "no such format"), (274, "the format is not waiting"), (221, "another hand has locked the text"), (227, "the format is for another text"), (232, "no more saves")]
def KX : List (String × String) := [("java/lang/IllegalArgumentException", "java/lang/IndexOutOfBoundsException"), ("java/lang/IllegalStateException", "java/lang/IndexOutOfBoundsException"), ("java/lang/IllegalStateException", "java/lang/IllegalArgumentException")]
def Kk (G : GG) (U : State) : Prop := va_K (gD G) vwCl (gT G) U ∧ vx_Zq Bundle.tN "UNASSIGNED_STACK" Bundle.steD (fun q => gB G ≤ q) U (gH G) ∧ vx_Zq Bundle.tN "SUPPRESSED_SENTINEL" Bundle.listD (fun q => gB G ≤ q) U (gH G) ∧ va_Z "java/util/ArrayList" "DEFAULTCAPACITY_EMPTY_ELEMENTDATA" "[Ljava/lang/Object;" (zr (gE G)) (fun q => gB G ≤ q) U (gH G) ∧ (gH G).size = gB G ∧
  (∀ w ∈ KW, w.before #[] U = true) ∧ va_AO RX9 U ∧ va_AO RX4 U ∧ va_AO "java/lang/Object" U ∧ va_Mi "[Ljava/lang/Object;" (gM G - 1) U ∧ gM G ≠ 0 ∧ (∀ q ∈ KS, ∃ a, vk_R "CursorKeep" q.1 q.2 a U) ∧ (∀ q ∈ KX, va_Nc q.1 q.2 U) ∧ va_X (gX G).1 (gX G).2.1 (gX G).2.2 U (gH G) ∧ (gX G).1 < gB G
theorem Kk.moved {G : GG} {u U : State} (hW : u.WarmedH U.vm) (h : Kk G u) : Kk G U := by
  obtain ⟨h1, h2, h3, h4, h5, h6, h7, h8, h9, h10, h10b, h11, h12, h13, h14⟩ := h
  have hvm := hW.alike
  refine ⟨va_K.moved hvm h1, vx_Zq.moved hvm h2, vx_Zq.moved hvm h3, va_Z.moved hvm h4, h5, fun w hw => ?_, va_AO.moved hvm h7, va_AO.moved hvm h8, va_AO.moved hvm h9, va_Mi.moved hvm h10, h10b, fun q hq => ?_, fun q hq => va_Nc.moved hvm (h12 q hq), va_X.moved hvm h13, h14⟩
  · have hg := (List.mem_filter.mp hw).2
    rw [Bool.and_eq_true] at hg
    exact va_tabs (u := u.setVm U.vm) hg.1 rfl (Cond.faceAtom_setVm hvm w hg.2 (h6 w hw))
  · obtain ⟨a, ha⟩ := h11 q hq
    exact ⟨a, vk_R.warm hW ha⟩
theorem Kk.scr {G : GG} {b L : Nat} {xs : Nat → Int32} {U : State} (h : Kk G U) (e : gX G = (b, L, xs)) : va_X b L xs U (gH G) ∧ b < gB G := by
  have h1 := h.2.2.2.2.2.2.2.2.2.2.2.2.2
  rw [e] at h1
  exact h1
theorem Kk.face {G : GG} {U : State} (h : Kk G U) {w : Cond} (hw : w ∈ KW) : w.before #[] U = true := h.2.2.2.2.2.1 w hw
theorem Kk.arr {G : GG} {s : State} (hK : Kk G s) {t : Nat} (ht : t < 7) {c : Cell} (h1 : c.cls = gA G t) (h2 : ∀ k, c.vm ≠ .statics k) : s.isArrayOf c (aty t) := by
  obtain ⟨-, k, hk, hkind⟩ := (hK.1.2 t _ (gT_at G ht)).1 0 (fun _ => .null)
  exact ⟨h2, k, by rw [h1]; exact hk, hkind⟩
/-! the counters of new cells and slots are what the sizes say -/
section XEX
variable {p : Program} {l : Launch} {e : Env} {R : Room} {s : State} {m : MethodId} {args : Array Value} {below : List Frame} {meth : Method} {c : Code} {H : Heap} {locs : List Loc} {cells slots : Nat} {Q : State → Prop}
theorem same_exact {G : GG} {hs h : AH} {T : State} {k n : Nat} (rs : Rp G hs s.heap) (r : Rp G h T.heap) (X : s.sameButNew T locs k n) : s.sameButNew T locs (aZ h - aZ hs) (aU h - aU hs) := by
  obtain ⟨x1, x2, x3, x4, x5, x6⟩ := X
  refine ⟨x1, x2, ?_, x4, ?_, x6⟩
  · have h1 := rs.size; have h2 := r.size
    omega
  · have e := ss_split (b := gB G) (Hs := s.heap) (H := T.heap) (by have := rs.size; have := rs.2.1; omega) x2 (fun q hq => ?_)
    · have h1 := rs.2.2.2.2.2.2.1; have h2 := r.2.2.2.2.2.2.1
      have e2 : ((T.heap.toList.drop s.heap.size).map (·.slots.size)).sum = ((T.heap.toList.drop s.heap.size).map (fun c : Cell => c.slots.size)).sum := rfl
      rw [e2]
      omega
    · obtain ⟨c', e1, e2, e3, -⟩ := x6 q _ (Array.getElem?_eq_getElem hq)
      rw [e1, Array.getElem?_eq_getElem hq, Option.map_some, Option.map_some, e3]
theorem W_ex {G : GG} {hs h : AH} {g : JFrame} (rs : Rp G hs s.heap) (r : Rp G h H) (k : aZ hs ≤ aZ h → aU hs ≤ aU h → W p l e R s m args below meth c H locs (aZ h - aZ hs) (aU h - aU hs) Q g) : W p l e R s m args below meth c H locs cells slots Q g := by
  intro T hT X
  have r' : Rp G h (T.setVm s.vm).heap := by
    have e0 : (T.setVm s.vm).heap = T.heap := rfl
    rw [e0, hT]; exact r
  have X2 := same_exact rs r' X.same
  have hz : aZ hs ≤ aZ h := by
    have h1 := rs.size; have h2 := r'.size; have h3 := X.same.2.1
    omega
  have hu : aU hs ≤ aU h := by
    have e := ss_split (b := gB G) (Hs := s.heap) (H := (T.setVm s.vm).heap) (by have := rs.size; have := rs.2.1; omega) X.same.2.1 (fun q hq => ?_)
    · have h1 := rs.2.2.2.2.2.2.1; have h2 := r'.2.2.2.2.2.2.1
      omega
    · obtain ⟨c', e1, e2, e3, -⟩ := X.same.2.2.2.2.2 q _ (Array.getElem?_eq_getElem hq)
      rw [e1, Array.getElem?_eq_getElem hq, Option.map_some, Option.map_some, e3]
  exact k hz hu T hT { X with same := X2 }
end XEX
