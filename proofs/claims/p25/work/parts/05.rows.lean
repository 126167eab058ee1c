/-! ===== one instruction over the abstract heap ===== -/
abbrev ix (i : Int32) (n : Nat) : Prop := 0 ≤ i ∧ i.toNatClampNeg < n
theorem ix_in {i : Int32} {n : Nat} (h : ix i n) : ¬ (i < 0 ∨ n ≤ i.toNatClampNeg) := by
  rintro (z | z)
  · exact Int32.not_lt.mpr h.1 z
  · have := h.2
    omega
theorem ix_nn {i : Int32} {n : Nat} (h : ix i n) : ¬ i < 0 := fun z => ix_in h (Or.inl z)
def ck {α : Type} (c : Prop) [Decidable c] (x : Option α) : Option α := if c then x else none
theorem ck_i {α : Type} {c : Prop} [Decidable c] {x : Option α} {y : α} (h : ck c x = some y) : c ∧ x = some y := by
  unfold ck at h
  by_cases hc : c
  · rw [if_pos hc] at h; exact ⟨hc, h⟩
  · rw [if_neg hc] at h; cases h
theorem ck_p {α : Type} {c : Prop} [Decidable c] {x : Option α} (h : c) : ck c x = x := if_pos h
/-- a name for a value -/
def nm {α β : Type} (x : α) (f : α → β) : β := f x
def bR {α β : Type} (x : Option (α × AH)) (f : α → AH → Option β) : Option β := match x with
  | none => none
  | some (r, h) => f r h
theorem bR_i {α β : Type} {x : Option (α × AH)} {f : α → AH → Option β} {y : β} (h : bR x f = some y) : ∃ (r : α) (h1 : AH), x = some (r, h1) ∧ f r h1 = some y := by
  match x, h with
  | some (r, h1), h => exact ⟨r, h1, rfl, h⟩
def bX {α β : Type} (d : β) (x : Option (Except Nat α × AH)) (f : α → AH → Option (Except Nat β × AH)) : Option (Except Nat β × AH) := match x with
  | none => none
  | some (.ok r, h) => f r h
  | some (.error e, h) => some (.error e, h)
def iI (z : Int) : Int32 := Int32.ofInt z
/-- what a store into a char or boolean place keeps -/
def nC (x : Int32) : Int32 := (x.toUInt32 % 65536).toInt32
def nZ (x : Int32) : Int32 := x &&& 1
abbrev okC (x : Int32) : Prop := 0 ≤ x ∧ x ≤ 65535
abbrev okZ (x : Int32) : Prop := x = 0 ∨ x = 1
theorem okC_f {x : Int32} (h : okC x) : fits .char (.int x) = true := by
  simp [fits, h.1, h.2]
theorem okC_n {x : Int32} (h : okC x) : narrow .char (.int x) = .int x := by
  have h1 : 0 ≤ x.toInt := Int32.le_iff_toInt_le.mp h.1
  have h2 : x.toInt ≤ 65535 := Int32.le_iff_toInt_le.mp h.2
  show Value.int _ = Value.int _
  exact congrArg Value.int (lg_i2c_small h1 (by omega))
theorem okZ_f {x : Int32} (h : okZ x) : fits .boolean (.int x) = true := by
  rcases h with rfl | rfl <;> rfl
theorem okZ_n {x : Int32} (h : okZ x) : narrow .boolean (.int x) = .int x := by
  rcases h with rfl | rfl <;> rfl
theorem nC_n (x : Int32) : narrow .char (.int x) = .int (nC x) := by
  show Value.int _ = Value.int _
  exact congrArg Value.int (lg_i2c_nf x).symm
theorem nZ_n (x : Int32) : narrow .boolean (.int x) = .int (nZ x) := rfl
def gR (G : GG) (hs : AH) (f lo : Nat) : Room := { frames := f, cells := gC G - aZ hs, slots := gS - aU hs, locals := lo }
section XRW
variable {p : Program} {l : Launch} {e : Env} {R : Room} {s : State} {m : MethodId} {args : Array Value} {below : List Frame} {meth : Method} {c : Code} {H : Heap} {locs : List Loc} {cells slots : Nat} {Q : State → Prop}
variable {cc : ByteArray} {pc : Nat} {ls : Array Slot} {rest : List Value} {G : GG} {hs h : AH} {a : Nat}
theorem r_get (hexec : p.tables.exec = Jvm.exec) (hb : c.code = cc) {own ref C : String} {T : u_T} {N ci index : Nat} {Ts : List Cond} (hts : ∀ w ∈ Ts, w.before args s = true) (hin : ∀ w ∈ u_ws C T N, w ∈ Ts) (hown : s.vm.findClass own = some m.cls) (hK : Kk G s) (hR : Rp G h H) (hc : vwCl[ci]? = some (C, T, N)) (hka : aK h a = ci + 1) (k : Nat) (hk : k < N) (hlink : (Cond.fieldLink own index ref (T k).2.1 (T k).2.2.1).before args s = true) (hsame : ∀ x, s.fieldFound? (T k).1 (T k).2.1 (T k).2.2.1 = some x → s.fieldFound? ref (T k).2.1 (T k).2.2.1 = some x) {v : Value} (hv : vl (cty ci k) (aI h a k) (aR h a k) (aL h a k) = v) (hdg : decode cc pc = .ok (.getfield index, 3))
    (kk : W p l e R s m args below meth c H locs cells slots Q (F0 m (pc + 3) ls (v :: rest))) : W p l e R s m args below meth c H locs cells slots Q (F0 m pc ls (zr a :: rest)) := by
  rw [zr_p (hR.nz (by rw [hka]; exact Nat.succ_ne_zero _))]
  obtain ⟨cell, q1, q2, q3, q4⟩ := hR.ob hc hka
  obtain ⟨hS, hfc, kC, hkC, hkind⟩ := hK.1.1 ci _ hc
  obtain ⟨cf, kf, fi, f, hi, hsl⟩ := hS k hk
  refine W.getf hexec hb hown hlink (hsame _ hi) (u_facts hfc hkC (u_lays hts hin hk) hi).1 q1 (by rw [q3]; exact fun h => by cases h) (v := v) ?_ rfl rfl hdg kk
  rw [hsl, q4 k hk]
  exact congrArg some hv
theorem Rp.put {N ci k : Nat} {C : String} {T : u_T} {cell : Cell} {H' : Heap} {h' : AH} {v : Value} (hR : Rp G h H) (hc : vwCl[ci]? = some (C, T, N)) (hka : aK h a = ci + 1) (hk : k < N)
    (q1 : H[a - 1]? = some cell) (q2 : cell.cls = (gD G).1 ci) (q3 : cell.vm = .none) (q4 : ∀ k, k < N → cell.slots[(gD G).2 ci k]? = some (vl (cty ci k) (aI h a k) (aR h a k) (aL h a k))) (hap : ∀ x y, x < N → y < N → x ≠ y → ((gD G).2 ci) x ≠ ((gD G).2 ci) y)
    (e1 : H'[a - 1]? = some (cell.setSlot ((gD G).2 ci k) v)) (e2 : H'.size = H.size) (e3 : ∀ q, q ≠ a - 1 → H'[q]? = H[q]?)
    (eK : aK h' = aK h) (eN : aN h' = aN h) (eZ : aZ h' = aZ h) (eU : aU h' = aU h) (eI : ∀ q, q ≠ a → aI h' q = aI h q) (eR : ∀ q, q ≠ a → aR h' q = aR h q) (eL : ∀ q, q ≠ a → aL h' q = aL h q) (eE : aE h' = aE h) (eC : aC h' = aC h) (eM : aM h' = aM h)
    (hv : ∀ j, j < N → vl (cty ci j) (aI h' a j) (aR h' a j) (aL h' a j) = updV (fun j => vl (cty ci j) (aI h a j) (aR h a j) (aL h a j)) k v j) : Rp G h' H' := by
  have hlt := vwCl_lt hc
  have hB : gB G < a := hR.hi (by omega) (by omega)
  refine hR.set hB e2 e3 q1 e1 (k2_slotsz _ _ _) eK eN eZ eU eI eR eL eE eC eM ⟨fun ci' r hr hk' => ?_, fun t ht hk' => ?_⟩
  · rw [eK, hka] at hk'
    have hci : ci' = ci := by omega
    subst hci
    have hr' := hr.symm.trans hc
    cases hr'
    refine ⟨_, e1, q2, q3, fun j hj => ?_⟩
    rw [t_set q4 hap hk v j hj]
    exact congrArg some (hv j hj).symm
  · rw [eK, hka] at hk'
    omega
theorem updV_I {ci k N : Nat} {x : Int32} (hci : ∀ i r w, vl (cty ci k) i r w = .int i) : ∀ j, j < N → vl (cty ci j) (aI (uI h a k x) a j) (aR (uI h a k x) a j) (aL (uI h a k x) a j) = updV (fun j => vl (cty ci j) (aI h a j) (aR h a j) (aL h a j)) k (.int x) j := by
  intro j _
  by_cases hj : j = k
  · subst hj
    rw [hci]
    show Value.int (if a = a ∧ j = j then x else aI h a j) = if j = j then _ else _
    rw [if_pos ⟨rfl, rfl⟩, if_pos rfl]
  · show vl (cty ci j) (if a = a ∧ j = k then x else aI h a j) _ _ = if j = k then _ else _
    rw [if_neg (fun z => hj z.2), if_neg hj]
    rfl
theorem updV_R {ci k N : Nat} {x : Nat} (hci : ∀ i r w, vl (cty ci k) i r w = zr r) : ∀ j, j < N → vl (cty ci j) (aI (uR h a k x) a j) (aR (uR h a k x) a j) (aL (uR h a k x) a j) = updV (fun j => vl (cty ci j) (aI h a j) (aR h a j) (aL h a j)) k (zr x) j := by
  intro j _
  by_cases hj : j = k
  · subst hj
    rw [hci]
    show zr (if a = a ∧ j = j then x else aR h a j) = if j = j then _ else _
    rw [if_pos ⟨rfl, rfl⟩, if_pos rfl]
  · show vl (cty ci j) _ (if a = a ∧ j = k then x else aR h a j) _ = if j = k then _ else _
    rw [if_neg (fun z => hj z.2), if_neg hj]
    rfl
theorem up2_o {α : Type} (f : Nat → Nat → α) (a k : Nat) (v : α) {q : Nat} (hq : q ≠ a) : up2 f a k v q = f q := funext fun j => if_neg fun z => hq z.1
theorem locs_add {b a k : Nat} (hL : ∀ q ∈ locs, b ≤ q.base) (ha : b < a) : ∀ q ∈ locs ++ [(⟨a - 1, k⟩ : Loc)], b ≤ q.base := by
  intro q hq
  rcases List.mem_append.mp hq with h | h
  · exact hL q h
  · rw [List.mem_singleton.mp h]; exact (by omega : b ≤ a - 1)
theorem r_putI (hexec : p.tables.exec = Jvm.exec) (hb : c.code = cc) {own ref C : String} {T : u_T} {N ci index : Nat} {Ts : List Cond} (hts : ∀ w ∈ Ts, w.before args s = true) (hin : ∀ w ∈ u_ws C T N, w ∈ Ts) {ty0 : Nat → FieldType} (hty : ∀ k, k < N → parseFieldDescriptor (T k).2.2.1 = some (ty0 k)) (hnm : ∀ a, a < N → ∀ b, b < N → a ≠ b → (T a).2.1 ≠ (T b).2.1) (hown : s.vm.findClass own = some m.cls) (hK : Kk G s) (hR : Rp G h H) (hL : ∀ q ∈ locs, gB G ≤ q.base) (hc : vwCl[ci]? = some (C, T, N)) (hka : aK h a = ci + 1) (k : Nat) (hk : k < N) (hlink : (Cond.fieldLink own index ref (T k).2.1 (T k).2.2.1).before args s = true) (hsame : ∀ x, s.fieldFound? (T k).1 (T k).2.1 (T k).2.2.1 = some x → s.fieldFound? ref (T k).2.1 (T k).2.2.1 = some x)
    (hfin : (T k).2.2.2 = false ∨ ((T k).2.2.2 = true ∧ meth.name = "<init>" ∧ (T k).1 = own)) {x : Int32} (hn : narrow (ty0 k) (.int x) = .int x) (hfit : fits (ty0 k) (.int x) = true) (hci : ∀ i r w, vl (cty ci k) i r w = .int i) (hdg : decode cc pc = .ok (.putfield index, 3))
    (kk : ∀ (H1 : Heap) (locs1 : List Loc), Rp G (uI h a k x) H1 → (∀ q ∈ locs1, gB G ≤ q.base) → W p l e R s m args below meth c H1 locs1 cells slots Q (F0 m (pc + 3) ls rest)) : W p l e R s m args below meth c H locs cells slots Q (F0 m pc ls (.int x :: zr a :: rest)) := by
  have hap := va_apart (own := own) hts hin ty0 hty hnm hK.1 hc
  have hB : gB G < a := hR.hi (by omega) (by have := vwCl_lt hc; omega)
  rw [zr_p (hR.nz (by rw [hka]; exact Nat.succ_ne_zero _))]
  obtain ⟨cell, q1, q2, q3, q4⟩ := hR.ob hc hka
  obtain ⟨hS, hfc, kC, hkC, hkind⟩ := hK.1.1 ci _ hc
  obtain ⟨cf, kf, fi, f, hi, hsl⟩ := hS k hk
  have hlay := hts _ (hin _ (u_in_lay hk))
  have hst := (u_facts hfc hkC (u_lays hts hin hk) hi).1
  have kk' : ∀ H' : Heap, H'[a - 1]? = some (cell.setSlot f.slot (.int x)) → H'.size = H.size → (∀ q, q ≠ a - 1 → H'[q]? = H[q]?) → W p l e R s m args below meth c H' (locs ++ [⟨a - 1, f.slot⟩]) cells slots Q (F0 m (pc + 3) ls rest) := by
    intro H' e1 e2 e3
    rw [hsl] at e1
    exact kk H' _ (hR.put hc hka hk q1 q2 q3 q4 hap e1 e2 e3 rfl rfl rfl rfl (fun q hq => up2_o _ _ _ _ hq) (fun _ _ => rfl) (fun _ _ => rfl) rfl rfl rfl (updV_I hci)) (locs_add hL hB)
  rcases hfin with hfin | ⟨hfin, hin2, hdecl⟩
  · unfold u_lay at hlay
    rw [if_neg (by rw [hfin]; decide)] at hlay
    have h6 := u_store hfc hkC hkind hlay hi (hty k hk) hn hfit
    exact W.putK hexec hb (f := f) ⟨hown, hlink, ⟨_, _, _, hsame _ hi⟩, hst⟩ (by rw [q2]; exact h6) q1 q3 (by rw [hsl]; exact k2_hasslot (q4 k hk)) rfl rfl hdg kk'
  · unfold u_lay at hlay
    rw [if_pos hfin] at hlay
    have hcf : m.cls = cf := by
      obtain ⟨_, _, c', _, _, _, -, -, hf', -, -, -, hown2, -⟩ := Cond.laysFinal_spec hlay
      have e1 : c' = cf := by have := hi.symm.trans hf'; simp at this; exact this.1.symm
      rw [hdecl] at hown2
      rw [← e1]; exact Option.some.inj (hown.symm.trans hown2)
    have h6 := u_fits hfc hkC hkind (Or.inr hlay) hi (hty k hk) hn hfit
    exact W.putFinK hexec hb hown hlink (hsame _ hi) hst hcf hin2 (by rw [q2]; exact h6) q1 q3 (by rw [hsl]; exact k2_hasslot (q4 k hk)) rfl rfl hdg kk'
theorem r_putR (hexec : p.tables.exec = Jvm.exec) (hb : c.code = cc) {own ref C : String} {T : u_T} {N ci index : Nat} {Ts : List Cond} (hts : ∀ w ∈ Ts, w.before args s = true) (hin : ∀ w ∈ u_ws C T N, w ∈ Ts) {ty0 : Nat → FieldType} (hty : ∀ k, k < N → parseFieldDescriptor (T k).2.2.1 = some (ty0 k)) (hnm : ∀ a, a < N → ∀ b, b < N → a ≠ b → (T a).2.1 ≠ (T b).2.1) (hown : s.vm.findClass own = some m.cls) (hK : Kk G s) (hR : Rp G h H) (hL : ∀ q ∈ locs, gB G ≤ q.base) (hc : vwCl[ci]? = some (C, T, N)) (hka : aK h a = ci + 1) (k : Nat) (hk : k < N) (hlink : (Cond.fieldLink own index ref (T k).2.1 (T k).2.2.1).before args s = true) (hsame : ∀ x, s.fieldFound? (T k).1 (T k).2.1 (T k).2.2.1 = some x → s.fieldFound? ref (T k).2.1 (T k).2.2.1 = some x)
    (hfin : (T k).2.2.2 = false ∨ ((T k).2.2.2 = true ∧ meth.name = "<init>" ∧ (T k).1 = own)) {x : Nat} (hfit : fits (ty0 k) (zr x) = true) (hci : ∀ i r w, vl (cty ci k) i r w = zr r) (hdg : decode cc pc = .ok (.putfield index, 3))
    (kk : ∀ (H1 : Heap) (locs1 : List Loc), Rp G (uR h a k x) H1 → (∀ q ∈ locs1, gB G ≤ q.base) → W p l e R s m args below meth c H1 locs1 cells slots Q (F0 m (pc + 3) ls rest)) : W p l e R s m args below meth c H locs cells slots Q (F0 m pc ls (zr x :: zr a :: rest)) := by
  have hap := va_apart (own := own) hts hin ty0 hty hnm hK.1 hc
  have hB : gB G < a := hR.hi (by omega) (by have := vwCl_lt hc; omega)
  have hn := zr_narrow x (ty0 k)
  rw [zr_p (r := a) (hR.nz (by rw [hka]; exact Nat.succ_ne_zero _))]
  obtain ⟨cell, q1, q2, q3, q4⟩ := hR.ob hc hka
  obtain ⟨hS, hfc, kC, hkC, hkind⟩ := hK.1.1 ci _ hc
  obtain ⟨cf, kf, fi, f, hi, hsl⟩ := hS k hk
  have hlay := hts _ (hin _ (u_in_lay hk))
  have hst := (u_facts hfc hkC (u_lays hts hin hk) hi).1
  have kk' : ∀ H' : Heap, H'[a - 1]? = some (cell.setSlot f.slot (zr x)) → H'.size = H.size → (∀ q, q ≠ a - 1 → H'[q]? = H[q]?) → W p l e R s m args below meth c H' (locs ++ [⟨a - 1, f.slot⟩]) cells slots Q (F0 m (pc + 3) ls rest) := by
    intro H' e1 e2 e3
    rw [hsl] at e1
    exact kk H' _ (hR.put hc hka hk q1 q2 q3 q4 hap e1 e2 e3 rfl rfl rfl rfl (fun _ _ => rfl) (fun q hq => up2_o _ _ _ _ hq) (fun _ _ => rfl) rfl rfl rfl (updV_R hci)) (locs_add hL hB)
  rcases hfin with hfin | ⟨hfin, hin2, hdecl⟩
  · unfold u_lay at hlay
    rw [if_neg (by rw [hfin]; decide)] at hlay
    have h6 := u_store hfc hkC hkind hlay hi (hty k hk) hn hfit
    exact W.putK hexec hb (f := f) ⟨hown, hlink, ⟨_, _, _, hsame _ hi⟩, hst⟩ (by rw [q2]; exact h6) q1 q3 (by rw [hsl]; exact k2_hasslot (q4 k hk)) rfl rfl hdg kk'
  · unfold u_lay at hlay
    rw [if_pos hfin] at hlay
    have hcf : m.cls = cf := by
      obtain ⟨_, _, c', _, _, _, -, -, hf', -, -, -, hown2, -⟩ := Cond.laysFinal_spec hlay
      have e1 : c' = cf := by have := hi.symm.trans hf'; simp at this; exact this.1.symm
      rw [hdecl] at hown2
      rw [← e1]; exact Option.some.inj (hown.symm.trans hown2)
    have h6 := u_fits hfc hkC hkind (Or.inr hlay) hi (hty k hk) hn hfit
    exact W.putFinK hexec hb hown hlink (hsame _ hi) hst hcf hin2 (by rw [q2]; exact h6) q1 q3 (by rw [hsl]; exact k2_hasslot (q4 k hk)) rfl rfl hdg kk'
/-! arrays -/
theorem Rp.aset {t k : Nat} {cell : Cell} {H' : Heap} {h' : AH} {v : Value} (hR : Rp G h H) (ht : t < 7) (hka : aK h a = 20 + t) (hk : k < aN h a)
    (q1 : H[a - 1]? = some cell) (q2 : cell.cls = gA G t) (q3 : ∀ k, cell.vm ≠ .statics k) (q4 : 0 < aN h a → cell.vm = .none) (q5 : cell.slots.size = aN h a) (q6 : ∀ k, k < aN h a → cell.slots[k]? = some (vl (aty t) (aI h a k) (aR h a k) (aL h a k)))
    (e1 : H'[a - 1]? = some (cell.setSlot k v)) (e2 : H'.size = H.size) (e3 : ∀ q, q ≠ a - 1 → H'[q]? = H[q]?)
    (eK : aK h' = aK h) (eN : aN h' = aN h) (eZ : aZ h' = aZ h) (eU : aU h' = aU h) (eI : ∀ q, q ≠ a → aI h' q = aI h q) (eR : ∀ q, q ≠ a → aR h' q = aR h q) (eL : ∀ q, q ≠ a → aL h' q = aL h q) (eE : aE h' = aE h) (eC : aC h' = aC h) (eM : aM h' = aM h)
    (hv : ∀ j, vl (aty t) (aI h' a j) (aR h' a j) (aL h' a j) = updV (fun j => vl (aty t) (aI h a j) (aR h a j) (aL h a j)) k v j) : Rp G h' H' := by
  have hB : gB G < a := hR.hi (by omega) (by omega)
  refine hR.set hB e2 e3 q1 e1 (k2_slotsz _ _ _) eK eN eZ eU eI eR eL eE eC eM ⟨fun ci' r hr hk' => ?_, fun t' ht' hk' => ?_⟩
  · have := vwCl_lt hr
    rw [eK, hka] at hk'
    omega
  · rw [eK, hka] at hk'
    have hci : t' = t := by omega
    subst hci
    refine ⟨_, e1, q2, q3, by rw [eN]; exact q4, by rw [k2_slotsz, eN]; exact q5, fun j hj => ?_⟩
    rw [eN] at hj
    rw [t_set (iS := fun k => k) q6 (fun _ _ _ _ n => n) hk v j hj]
    exact congrArg some (hv j).symm
theorem updA_I {t k : Nat} {x : Int32} (hci : ∀ i r w, vl (aty t) i r w = .int i) : ∀ j, vl (aty t) (aI (uI h a k x) a j) (aR (uI h a k x) a j) (aL (uI h a k x) a j) = updV (fun j => vl (aty t) (aI h a j) (aR h a j) (aL h a j)) k (.int x) j := by
  intro j
  rw [hci]
  by_cases hj : j = k
  · subst hj
    show Value.int (if a = a ∧ j = j then x else aI h a j) = if j = j then _ else _
    rw [if_pos ⟨rfl, rfl⟩, if_pos rfl]
  · show Value.int (if a = a ∧ j = k then x else aI h a j) = if j = k then _ else _
    rw [if_neg (fun z => hj z.2), if_neg hj]
    exact (hci _ _ _).symm
theorem updA_R {t k : Nat} {x : Nat} (hci : ∀ i r w, vl (aty t) i r w = zr r) : ∀ j, vl (aty t) (aI (uR h a k x) a j) (aR (uR h a k x) a j) (aL (uR h a k x) a j) = updV (fun j => vl (aty t) (aI h a j) (aR h a j) (aL h a j)) k (zr x) j := by
  intro j
  rw [hci]
  by_cases hj : j = k
  · subst hj
    show zr (if a = a ∧ j = j then x else aR h a j) = if j = j then _ else _
    rw [if_pos ⟨rfl, rfl⟩, if_pos rfl]
  · show zr (if a = a ∧ j = k then x else aR h a j) = if j = k then _ else _
    rw [if_neg (fun z => hj z.2), if_neg hj]
    exact (hci _ _ _).symm
theorem ar_known {n : Nat} {cell : Cell} {i : Int32} (q4 : 0 < n → cell.vm = .none) (hin : ix i n) : cell.vm ≠ .unknown := by
  rw [q4 (by have := hin.2; omega)]
  exact fun h => by cases h
theorem r_iald (hexec : p.tables.exec = Jvm.exec) (hb : c.code = cc) (hK : Kk G s) (hR : Rp G h H) (hka : aK h a = 20) {i : Int32} (hin : ix i (aN h a)) (hdg : decode cc pc = .ok (.iaload, 1))
    (kk : W p l e R s m args below meth c H locs cells slots Q (F0 m (pc + 1) ls (.int (aI h a i.toNatClampNeg) :: rest))) : W p l e R s m args below meth c H locs cells slots Q (F0 m pc ls (.int i :: zr a :: rest)) := by
  rw [zr_p (hR.nz (by omega))]
  obtain ⟨cell, q1, q2, q3, q4, q5, q6⟩ := hR.ar (t := 0) (by omega) hka
  exact W.iald (v := .int (aI h a i.toNatClampNeg)) hexec hb q1 (hK.arr (t := 0) (by omega) q2 q3) (ar_known q4 hin) (by rw [q5]; exact ix_in hin) (q6 _ hin.2) rfl rfl hdg kk
theorem r_cald (hexec : p.tables.exec = Jvm.exec) (hb : c.code = cc) (hK : Kk G s) (hR : Rp G h H) (hka : aK h a = 21) {i : Int32} (hin : ix i (aN h a)) (hdg : decode cc pc = .ok (.caload, 1))
    (kk : W p l e R s m args below meth c H locs cells slots Q (F0 m (pc + 1) ls (.int (aI h a i.toNatClampNeg) :: rest))) : W p l e R s m args below meth c H locs cells slots Q (F0 m pc ls (.int i :: zr a :: rest)) := by
  rw [zr_p (hR.nz (by omega))]
  obtain ⟨cell, q1, q2, q3, q4, q5, q6⟩ := hR.ar (t := 1) (by omega) hka
  exact W.cald (v := .int (aI h a i.toNatClampNeg)) hexec hb q1 (hK.arr (t := 1) (by omega) q2 q3) (ar_known q4 hin) (by rw [q5]; exact ix_in hin) (q6 _ hin.2) rfl rfl hdg kk
theorem r_zald (hexec : p.tables.exec = Jvm.exec) (hb : c.code = cc) (hK : Kk G s) (hR : Rp G h H) (hka : aK h a = 22) {i : Int32} (hin : ix i (aN h a)) (hdg : decode cc pc = .ok (.baload, 1))
    (kk : W p l e R s m args below meth c H locs cells slots Q (F0 m (pc + 1) ls (.int (aI h a i.toNatClampNeg) :: rest))) : W p l e R s m args below meth c H locs cells slots Q (F0 m pc ls (.int i :: zr a :: rest)) := by
  rw [zr_p (hR.nz (by omega))]
  obtain ⟨cell, q1, q2, q3, q4, q5, q6⟩ := hR.ar (t := 2) (by omega) hka
  exact W.zald (v := .int (aI h a i.toNatClampNeg)) hexec hb q1 (hK.arr (t := 2) (by omega) q2 q3) (ar_known q4 hin) (by rw [q5]; exact ix_in hin) (q6 _ hin.2) rfl rfl hdg kk
theorem r_aald {t : Nat} (ht : t < 7) (hrf : (aty t).isReference = true) (hci : ∀ i r w, vl (aty t) i r w = zr r) (hexec : p.tables.exec = Jvm.exec) (hb : c.code = cc) (hK : Kk G s) (hR : Rp G h H) (hka : aK h a = 20 + t) {i : Int32} (hin : ix i (aN h a)) (hdg : decode cc pc = .ok (.aaload, 1))
    (kk : W p l e R s m args below meth c H locs cells slots Q (F0 m (pc + 1) ls (zr (aR h a i.toNatClampNeg) :: rest))) : W p l e R s m args below meth c H locs cells slots Q (F0 m pc ls (.int i :: zr a :: rest)) := by
  rw [zr_p (hR.nz (by omega))]
  obtain ⟨cell, q1, q2, q3, q4, q5, q6⟩ := hR.ar (t := t) ht hka
  exact W.aald (v := zr (aR h a i.toNatClampNeg)) hexec hb q1 (hK.arr (t := t) ht q2 q3) hrf (ar_known q4 hin) (by rw [q5]; exact ix_in hin) (by rw [q6 _ hin.2, hci]) rfl rfl hdg kk
theorem r_alen {t : Nat} (ht : t < 7) (hexec : p.tables.exec = Jvm.exec) (hb : c.code = cc) (hK : Kk G s) (hR : Rp G h H) (hka : aK h a = 20 + t) (hdg : decode cc pc = .ok (.arraylength, 1))
    (kk : W p l e R s m args below meth c H locs cells slots Q (F0 m (pc + 1) ls (.int (nI (aN h a)) :: rest))) : W p l e R s m args below meth c H locs cells slots Q (F0 m pc ls (zr a :: rest)) := by
  rw [zr_p (hR.nz (by omega))]
  obtain ⟨cell, q1, q2, q3, q4, q5, q6⟩ := hR.ar (t := t) ht hka
  exact W.alen hexec hb q1 (hK.arr ht q2 q3) (by rw [q5]; rfl) rfl rfl hdg kk
theorem r_iast (hexec : p.tables.exec = Jvm.exec) (hb : c.code = cc) (hK : Kk G s) (hR : Rp G h H) (hL : ∀ q ∈ locs, gB G ≤ q.base) (hka : aK h a = 20) {i x : Int32} (hin : ix i (aN h a)) (hdg : decode cc pc = .ok (.iastore, 1))
    (kk : ∀ (H1 : Heap) (locs1 : List Loc), Rp G (uI h a i.toNatClampNeg x) H1 → (∀ q ∈ locs1, gB G ≤ q.base) → W p l e R s m args below meth c H1 locs1 cells slots Q (F0 m (pc + 1) ls rest)) : W p l e R s m args below meth c H locs cells slots Q (F0 m pc ls (.int x :: .int i :: zr a :: rest)) := by
  have hlt := hin.2
  have hB : gB G < a := hR.hi (by omega) (by omega)
  rw [zr_p (hR.nz (by omega))]
  obtain ⟨cell, q1, q2, q3, q4, q5, q6⟩ := hR.ar (t := 0) (by omega) hka
  refine W.iast hexec hb q1 (hK.arr (t := 0) (by omega) q2 q3) (ar_known q4 hin) (by rw [q5]; exact ix_in hin) rfl rfl hdg fun H1 e1 e2 e3 => ?_
  exact kk H1 _ (hR.aset (by omega) hka hin.2 q1 q2 q3 q4 q5 q6 e1 e2 e3 rfl rfl rfl rfl (fun q hq => up2_o _ _ _ _ hq) (fun _ _ => rfl) (fun _ _ => rfl) rfl rfl rfl (updA_I (fun _ _ _ => rfl))) (locs_add hL hB)
theorem r_cast (hexec : p.tables.exec = Jvm.exec) (hb : c.code = cc) (hK : Kk G s) (hR : Rp G h H) (hL : ∀ q ∈ locs, gB G ≤ q.base) (hka : aK h a = 21) {i x : Int32} (hin : ix i (aN h a)) (hdg : decode cc pc = .ok (.castore, 1))
    (kk : ∀ (H1 : Heap) (locs1 : List Loc), Rp G (uI h a i.toNatClampNeg (nC x)) H1 → (∀ q ∈ locs1, gB G ≤ q.base) → W p l e R s m args below meth c H1 locs1 cells slots Q (F0 m (pc + 1) ls rest)) : W p l e R s m args below meth c H locs cells slots Q (F0 m pc ls (.int x :: .int i :: zr a :: rest)) := by
  have hlt := hin.2
  have hB : gB G < a := hR.hi (by omega) (by omega)
  rw [zr_p (hR.nz (by omega))]
  obtain ⟨cell, q1, q2, q3, q4, q5, q6⟩ := hR.ar (t := 1) (by omega) hka
  refine W.cast hexec hb q1 (hK.arr (t := 1) (by omega) q2 q3) (ar_known q4 hin) (by rw [q5]; exact ix_in hin) rfl rfl hdg fun H1 e1 e2 e3 => ?_
  rw [nC_n] at e1
  exact kk H1 _ (hR.aset (t := 1) (by omega) hka hin.2 q1 q2 q3 q4 q5 q6 e1 e2 e3 rfl rfl rfl rfl (fun q hq => up2_o _ _ _ _ hq) (fun _ _ => rfl) (fun _ _ => rfl) rfl rfl rfl (updA_I (fun _ _ _ => rfl))) (locs_add hL hB)
theorem r_zast (hexec : p.tables.exec = Jvm.exec) (hb : c.code = cc) (hK : Kk G s) (hR : Rp G h H) (hL : ∀ q ∈ locs, gB G ≤ q.base) (hka : aK h a = 22) {i x : Int32} (hin : ix i (aN h a)) (hdg : decode cc pc = .ok (.bastore, 1))
    (kk : ∀ (H1 : Heap) (locs1 : List Loc), Rp G (uI h a i.toNatClampNeg (nZ x)) H1 → (∀ q ∈ locs1, gB G ≤ q.base) → W p l e R s m args below meth c H1 locs1 cells slots Q (F0 m (pc + 1) ls rest)) : W p l e R s m args below meth c H locs cells slots Q (F0 m pc ls (.int x :: .int i :: zr a :: rest)) := by
  have hlt := hin.2
  have hB : gB G < a := hR.hi (by omega) (by omega)
  rw [zr_p (hR.nz (by omega))]
  obtain ⟨cell, q1, q2, q3, q4, q5, q6⟩ := hR.ar (t := 2) (by omega) hka
  refine W.zast hexec hb q1 (hK.arr (t := 2) (by omega) q2 q3) (ar_known q4 hin) (by rw [q5]; exact ix_in hin) rfl rfl hdg fun H1 e1 e2 e3 => ?_
  rw [nZ_n] at e1
  exact kk H1 _ (hR.aset (t := 2) (by omega) hka hin.2 q1 q2 q3 q4 q5 q6 e1 e2 e3 rfl rfl rfl rfl (fun q hq => up2_o _ _ _ _ hq) (fun _ _ => rfl) (fun _ _ => rfl) rfl rfl rfl (updA_I (fun _ _ _ => rfl))) (locs_add hL hB)
theorem r_aast {t ci : Nat} {E : String} {r : vw_C} {v : Nat} (ht : t < 7) (hty : aty t = .object E) (hexec : p.tables.exec = Jvm.exec) (hb : c.code = cc) (hK : Kk G s) (hR : Rp G h H) (hL : ∀ q ∈ locs, gB G ≤ q.base) (hca : r.1 = E ∨ va_Nw (.castable r.1 E) s) (hc : vwCl[ci]? = some r) (hkv : aK h v = ci + 1) (hka : aK h a = 20 + t) {i : Int32} (hin : ix i (aN h a)) (hdg : decode cc pc = .ok (.aastore, 1))
    (kk : ∀ (H1 : Heap) (locs1 : List Loc), Rp G (uR h a i.toNatClampNeg v) H1 → (∀ q ∈ locs1, gB G ≤ q.base) → W p l e R s m args below meth c H1 locs1 cells slots Q (F0 m (pc + 1) ls rest)) : W p l e R s m args below meth c H locs cells slots Q (F0 m pc ls (zr v :: .int i :: zr a :: rest)) := by
  have hlt := hin.2
  have hB : gB G < a := hR.hi (by omega) (by omega)
  obtain ⟨cell, q1, q2, q3, q4, q5, q6⟩ := hR.ar (t := t) ht hka
  obtain ⟨cellV, g1, g2, g3, -⟩ := hR.ob hc hkv
  have hcls := (hK.1.1 ci r hc).2
  obtain ⟨kC, hkC, -⟩ := hcls.2
  have hAr := hK.1.2 t _ (gT_at G ht)
  rw [show ((gA G t, aty t) : ClassId × FieldType).2 = .object E from hty] at hAr
  obtain ⟨-, kA, comp, k1, k2, k3, -⟩ := hAr
  obtain ⟨kE, hkE, -⟩ := Vm.findClass_spec k3
  have f3 : s.vm.assignable ((gD G).1 ci) comp = true := by
    rcases hca with e | hca
    · subst e
      have e2 : comp = (gD G).1 ci := Option.some.inj (k3.symm.trans hcls.1)
      rw [e2]
      exact va_assign hcls
    · obtain ⟨c0, t1, f1, f2, f3⟩ := Cond.castable_spec (va_Nw.use (A := args) rfl hca)
      cases hcls.1.symm.trans f1
      cases k3.symm.trans f2
      exact f3
  rw [zr_p (r := v) (hR.nz (by omega)), zr_p (r := a) (hR.nz (by omega))]
  refine W.aast hexec hb q1 q3 (ar_known q4 hin) (by rw [q2]; exact k1) k2 rfl hkE ⟨ix_nn hin, by rw [q5]; exact hin.2⟩ g1 (fun q h => by rw [g3] at h; cases h) (by rw [g2]; exact hkC) (by rw [g2]; exact f3) rfl rfl hdg fun H1 e1 e2 e3 => ?_
  have e1' : H1[a - 1]? = some (cell.setSlot i.toNatClampNeg (zr v)) := by rw [zr_p (hR.nz (by omega))]; exact e1
  exact kk H1 _ (hR.aset ht hka hin.2 q1 q2 q3 q4 q5 q6 e1' e2 e3 rfl rfl rfl rfl (fun _ _ => rfl) (fun q hq => up2_o _ _ _ _ hq) (fun _ _ => rfl) rfl rfl rfl (updA_R (fun _ _ _ => by rw [hty]; rfl))) (locs_add hL hB)
theorem r_aastN {t : Nat} {E : String} (ht : t < 7) (hty : aty t = .object E) (hexec : p.tables.exec = Jvm.exec) (hb : c.code = cc) (hK : Kk G s) (hR : Rp G h H) (hL : ∀ q ∈ locs, gB G ≤ q.base) (hka : aK h a = 20 + t) {i : Int32} (hin : ix i (aN h a)) (hdg : decode cc pc = .ok (.aastore, 1))
    (kk : ∀ (H1 : Heap) (locs1 : List Loc), Rp G (uR h a i.toNatClampNeg 0) H1 → (∀ q ∈ locs1, gB G ≤ q.base) → W p l e R s m args below meth c H1 locs1 cells slots Q (F0 m (pc + 1) ls rest)) : W p l e R s m args below meth c H locs cells slots Q (F0 m pc ls (zr 0 :: .int i :: zr a :: rest)) := by
  have hlt := hin.2
  have hB : gB G < a := hR.hi (by omega) (by omega)
  obtain ⟨cell, q1, q2, q3, q4, q5, q6⟩ := hR.ar (t := t) ht hka
  rw [zr_p (r := a) (hR.nz (by omega))]
  refine va_WaastN (C := E) hexec hb q1 (by rw [← hty]; exact hK.arr ht q2 q3) (ar_known q4 hin) (by rw [q5]; exact ix_in hin) rfl rfl hdg fun H1 e1 e2 e3 => ?_
  exact kk H1 _ (hR.aset ht hka hin.2 q1 q2 q3 q4 q5 q6 (v := zr 0) e1 e2 e3 rfl rfl rfl rfl (fun _ _ => rfl) (fun q hq => up2_o _ _ _ _ hq) (fun _ _ => rfl) rfl rfl rfl (updA_R (fun _ _ _ => by rw [hty]; rfl))) (locs_add hL hB)
end XRW
