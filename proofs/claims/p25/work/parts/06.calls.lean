/-! ===== locals whose values all take one place ===== -/
def zl (ls : Array Slot) (n : Nat) (l : List (Nat × Value)) : Prop := lv_has ls n l ∧ ∀ q ∈ l, q.2.category = 1
theorem zl_at {ls : Array Slot} {n : Nat} {l : List (Nat × Value)} (h : zl ls n l) (k : Nat) {i : Nat} {v : Value} (hk : l[k]? = some (i, v)) : ls[i]? = some (.val v) := lv_at h.1 k hk
theorem zl_sub {ls : Array Slot} {n : Nat} {l l' : List (Nat × Value)} (h : zl ls n l) (ks : List Nat) (hl : lv_pick l ks = l') : zl ls n l' := by
  refine ⟨lv_sub h.1 ks hl, fun q hq => ?_⟩
  rw [← hl] at hq
  obtain ⟨k, -, hk⟩ := List.mem_filterMap.mp hq
  exact h.2 q (List.mem_of_getElem? hk)
theorem zl_set {ls : Array Slot} {n i : Nat} {l l' : List (Nat × Value)} {v : Value} (h : zl ls n l) (hi : i < n) (hv : v.category = 1) (hl : (i, v) :: l.filter (fun q => !(q.1 == i)) = l') : ∃ ls', storeLocals ls i v = some ls' ∧ zl ls' n l' := by
  obtain ⟨ls', e, h'⟩ := lv_store1 h.1 hi hv
  refine ⟨ls', e, ?_⟩
  have e2 : l.filter (fun q => !(q.1 == i) && !(q.1 + 1 == i && q.2.category == 2)) = l.filter (fun q => !(q.1 == i)) := by
    apply List.filter_congr
    intro q hq
    have hc : (q.2.category == 2) = false := by rw [h.2 q hq]; rfl
    rw [hc, Bool.and_false, Bool.not_false, Bool.and_true]
  rw [e2, hl] at h'
  refine ⟨h', fun q hq => ?_⟩
  rw [← hl] at hq
  rcases List.mem_cons.mp hq with rfl | hq
  · exact hv
  · exact h.2 q (List.mem_filter.mp hq).1
theorem in_cat (x : Int32) : (Value.int x).category = 1 := rfl
theorem zl_size {ls : Array Slot} {n : Nat} {l : List (Nat × Value)} (h : zl ls n l) : ls.size = n := h.1.1
section ZL
variable {p : Program} {l : Launch} {e : Env} {R : Room} {s : State} {m : MethodId} {args : Array Value} {below : List Frame} {meth : Method} {c : Code} {H : Heap} {locs : List Loc} {cells slots : Nat} {Q : State → Prop}
variable {cc : ByteArray} {pc : Nat} {ls : Array Slot} {rest : List Value}
theorem z_store {v : Value} {k : Fin 4} {i nL : Nat} {lv lv' : List (Nat × Value)} (h : zl ls nL lv) (hn : i < nL) (hv : v.category = 1) (hl : (i, v) :: lv.filter (fun q => !(q.1 == i)) = lv') {g g2 : Array Slot → JFrame}
    (row : ∀ ls' : Array Slot, storeLocals ls i v = some ls' → W p l e R s m args below meth c H locs cells slots Q (g2 ls') → W p l e R s m args below meth c H locs cells slots Q (g ls))
    (kk : ∀ ls' : Array Slot, zl ls' nL lv' → W p l e R s m args below meth c H locs cells slots Q (g2 ls')) : W p l e R s m args below meth c H locs cells slots Q (g ls) := by
  obtain ⟨ls', e', h'⟩ := zl_set h hn hv hl
  exact row ls' e' (kk ls' h')
theorem z_istore_n (hexec : p.tables.exec = Jvm.exec) (hb : c.code = cc) {k : Fin 4} {i nL : Nat} {x : Int32} {lv lv' : List (Nat × Value)} (hdg : decode cc pc = .ok (.istore_n k, 1)) (hi : (k : Nat) = i) (h : zl ls nL lv) (hn : i < nL) (hl : (i, Value.int x) :: lv.filter (fun q => !(q.1 == i)) = lv')
    (kk : ∀ ls' : Array Slot, zl ls' nL lv' → W p l e R s m args below meth c H locs cells slots Q (F0 m (pc + 1) ls' rest)) : W p l e R s m args below meth c H locs cells slots Q (F0 m pc ls (.int x :: rest)) := by
  subst hi
  obtain ⟨ls', e', h'⟩ := zl_set (v := .int x) h hn rfl hl
  intro T hT X
  obtain ⟨t, a, b⟩ := kk ls' h' T hT X
  refine ⟨t, ?_, b⟩
  jvm_step X.here [X.here.top, ↓top_set X.here.top, hexec, hb, hdg, e']
  exact a
theorem z_istore (hexec : p.tables.exec = Jvm.exec) (hb : c.code = cc) {i nL : Nat} {x : Int32} {lv lv' : List (Nat × Value)} (hdg : decode cc pc = .ok (.istore i, 2)) (h : zl ls nL lv) (hn : i < nL) (hl : (i, Value.int x) :: lv.filter (fun q => !(q.1 == i)) = lv')
    (kk : ∀ ls' : Array Slot, zl ls' nL lv' → W p l e R s m args below meth c H locs cells slots Q (F0 m (pc + 2) ls' rest)) : W p l e R s m args below meth c H locs cells slots Q (F0 m pc ls (.int x :: rest)) := by
  obtain ⟨ls', e', h'⟩ := zl_set (v := .int x) h hn rfl hl
  intro T hT X
  obtain ⟨t, a, b⟩ := kk ls' h' T hT X
  refine ⟨t, ?_, b⟩
  jvm_step X.here [X.here.top, ↓top_set X.here.top, hexec, hb, hdg, e']
  exact a
theorem z_astore_n (hexec : p.tables.exec = Jvm.exec) (hb : c.code = cc) {k : Fin 4} {i nL : Nat} {x : Nat} {lv lv' : List (Nat × Value)} (hdg : decode cc pc = .ok (.astore_n k, 1)) (hi : (k : Nat) = i) (h : zl ls nL lv) (hn : i < nL) (hl : (i, zr x) :: lv.filter (fun q => !(q.1 == i)) = lv')
    (kk : ∀ ls' : Array Slot, zl ls' nL lv' → W p l e R s m args below meth c H locs cells slots Q (F0 m (pc + 1) ls' rest)) : W p l e R s m args below meth c H locs cells slots Q (F0 m pc ls (zr x :: rest)) := by
  obtain ⟨ls', e', h'⟩ := zl_set (v := zr x) h hn (zr_cat x) hl
  subst hi
  intro T hT X
  obtain ⟨t, a, b⟩ := kk ls' h' T hT X
  refine ⟨t, ?_, b⟩
  by_cases hx : x = 0
  · subst hx
    rw [zr_0] at e' ⊢
    jvm_step X.here [X.here.top, ↓top_set X.here.top, hexec, hb, hdg, e']
    exact ⟨rfl, a⟩
  · rw [zr_p hx] at e' ⊢
    jvm_step X.here [X.here.top, ↓top_set X.here.top, hexec, hb, hdg, e']
    exact ⟨rfl, a⟩
theorem z_astore (hexec : p.tables.exec = Jvm.exec) (hb : c.code = cc) {i nL : Nat} {x : Nat} {lv lv' : List (Nat × Value)} (hdg : decode cc pc = .ok (.astore i, 2)) (h : zl ls nL lv) (hn : i < nL) (hl : (i, zr x) :: lv.filter (fun q => !(q.1 == i)) = lv')
    (kk : ∀ ls' : Array Slot, zl ls' nL lv' → W p l e R s m args below meth c H locs cells slots Q (F0 m (pc + 2) ls' rest)) : W p l e R s m args below meth c H locs cells slots Q (F0 m pc ls (zr x :: rest)) := by
  obtain ⟨ls', e', h'⟩ := zl_set (v := zr x) h hn (zr_cat x) hl
  intro T hT X
  obtain ⟨t, a, b⟩ := kk ls' h' T hT X
  refine ⟨t, ?_, b⟩
  by_cases hx : x = 0
  · subst hx
    rw [zr_0] at e' ⊢
    jvm_step X.here [X.here.top, ↓top_set X.here.top, hexec, hb, hdg, e']
    exact ⟨rfl, a⟩
  · rw [zr_p hx] at e' ⊢
    jvm_step X.here [X.here.top, ↓top_set X.here.top, hexec, hb, hdg, e']
    exact ⟨rfl, a⟩
theorem z_iinc (hexec : p.tables.exec = Jvm.exec) (hb : c.code = cc) {i nL k : Nat} {n : Int} {x : Int32} {lv lv' : List (Nat × Value)} (v : Int32) (hdg : decode cc pc = .ok (.iinc i n, 3)) (h : zl ls nL lv) (hk : lv[k]? = some (i, .int x)) (hv : v = x + iI n) (hn : i < nL) (hl : (i, Value.int v) :: lv.filter (fun q => !(q.1 == i)) = lv')
    (kk : ∀ ls' : Array Slot, zl ls' nL lv' → W p l e R s m args below meth c H locs cells slots Q (F0 m (pc + 3) ls' rest)) : W p l e R s m args below meth c H locs cells slots Q (F0 m pc ls rest) := by
  obtain ⟨ls', e', h'⟩ := zl_set (v := .int v) h hn rfl hl
  refine lv_iinc hexec hb hdg h.1 hk hv.symm hn rfl (fun ls2 hl2 => ?_)
  refine kk ls2 ⟨?_, h'.2⟩
  have e2 : lv.filter (fun q => !(q.1 == i) && !(q.1 + 1 == i && q.2.category == 2)) = lv.filter (fun q => !(q.1 == i)) := by
    apply List.filter_congr
    intro q hq
    have hc : (q.2.category == 2) = false := by rw [h.2 q hq]; rfl
    rw [hc, Bool.and_false, Bool.not_false, Bool.and_true]
  rw [e2, hl] at hl2
  exact hl2
theorem z_aload_n (hexec : p.tables.exec = Jvm.exec) (hb : c.code = cc) {k : Fin 4} {i x : Nat} (hdg : decode cc pc = .ok (.aload_n k, 1)) (hi : (k : Nat) = i) (hl : ls[i]? = some (.val (zr x)))
    (kk : W p l e R s m args below meth c H locs cells slots Q (F0 m (pc + 1) ls (zr x :: rest))) : W p l e R s m args below meth c H locs cells slots Q (F0 m pc ls rest) := by
  by_cases hx : x = 0
  · subst hx
    exact lv_aload_nN hexec hb hdg hi hl kk
  · rw [zr_p hx] at hl kk
    exact lv_aload_n hexec hb hdg hi hl kk
theorem z_aload (hexec : p.tables.exec = Jvm.exec) (hb : c.code = cc) {i x : Nat} (hdg : decode cc pc = .ok (.aload i, 2)) (hl : ls[i]? = some (.val (zr x)))
    (kk : W p l e R s m args below meth c H locs cells slots Q (F0 m (pc + 2) ls (zr x :: rest))) : W p l e R s m args below meth c H locs cells slots Q (F0 m pc ls rest) := by
  by_cases hx : x = 0
  · subst hx
    exact lv_aloadN hexec hb hdg hl kk
  · rw [zr_p hx] at hl kk
    exact lv_aload hexec hb hdg hl kk
theorem z_null (hexec : p.tables.exec = Jvm.exec) (hb : c.code = cc) (hdg : decode cc pc = .ok (.aconst_null, 1)) (kk : W p l e R s m args below meth c H locs cells slots Q (F0 m (pc + 1) ls (zr 0 :: rest))) : W p l e R s m args below meth c H locs cells slots Q (F0 m pc ls rest) := lv_null hexec hb hdg kk
theorem z_ifnull (hexec : p.tables.exec = Jvm.exec) (hb : c.code = cc) {x : Nat} {off : Int} {tgt : Nat} (hdg : decode cc pc = .ok (.ifnull off, 3)) (ht : (pc : Int) + off = (tgt : Int)) (kt : x = 0 → W p l e R s m args below meth c H locs cells slots Q (F0 m tgt ls rest)) (kf : ¬ x = 0 → W p l e R s m args below meth c H locs cells slots Q (F0 m (pc + 3) ls rest)) : W p l e R s m args below meth c H locs cells slots Q (F0 m pc ls (zr x :: rest)) := by
  by_cases hx : x = 0
  · subst hx
    exact lv_ifnullN hexec hb hdg ht (kt rfl)
  · rw [zr_p hx]
    exact lv_ifnull hexec hb hdg (kf hx)
theorem z_ifnonnull (hexec : p.tables.exec = Jvm.exec) (hb : c.code = cc) {x : Nat} {off : Int} {tgt : Nat} (hdg : decode cc pc = .ok (.ifnonnull off, 3)) (ht : (pc : Int) + off = (tgt : Int)) (kt : ¬ x = 0 → W p l e R s m args below meth c H locs cells slots Q (F0 m tgt ls rest)) (kf : x = 0 → W p l e R s m args below meth c H locs cells slots Q (F0 m (pc + 3) ls rest)) : W p l e R s m args below meth c H locs cells slots Q (F0 m pc ls (zr x :: rest)) := by
  by_cases hx : x = 0
  · subst hx
    exact lv_ifnonnullN hexec hb hdg (kf rfl)
  · rw [zr_p hx]
    exact lv_ifnonnull hexec hb hdg ht (kt hx)
def zo (x : Nat) : Option Nat := if x = 0 then none else some (x - 1)
theorem zo_rf (x : Nat) : va_rf (zo x) = zr x := by unfold zo zr; split <;> rfl
theorem zo_eq {x y : Nat} : zo x = zo y ↔ x = y := by
  unfold zo
  constructor
  · intro h
    split at h <;> split at h <;> simp_all <;> omega
  · intro h; rw [h]
theorem z_acmp_eq (hexec : p.tables.exec = Jvm.exec) (hb : c.code = cc) {x y : Nat} {off : Int} {tgt : Nat} (hdg : decode cc pc = .ok (.if_acmp .eq off, 3)) (ht : (pc : Int) + off = (tgt : Int))
    (kt : x = y → W p l e R s m args below meth c H locs cells slots Q (F0 m tgt ls rest)) (kf : ¬ x = y → W p l e R s m args below meth c H locs cells slots Q (F0 m (pc + 3) ls rest)) : W p l e R s m args below meth c H locs cells slots Q (F0 m pc ls (zr y :: zr x :: rest)) := by
  rw [← zo_rf, ← zo_rf]
  exact lv_acmp_eq hexec hb hdg ht (fun h => kt (zo_eq.mp h)) (fun h => kf (fun z => h (zo_eq.mpr z)))
theorem z_acmp_ne (hexec : p.tables.exec = Jvm.exec) (hb : c.code = cc) {x y : Nat} {off : Int} {tgt : Nat} (hdg : decode cc pc = .ok (.if_acmp .ne off, 3)) (ht : (pc : Int) + off = (tgt : Int))
    (kt : ¬ x = y → W p l e R s m args below meth c H locs cells slots Q (F0 m tgt ls rest)) (kf : x = y → W p l e R s m args below meth c H locs cells slots Q (F0 m (pc + 3) ls rest)) : W p l e R s m args below meth c H locs cells slots Q (F0 m pc ls (zr y :: zr x :: rest)) := by
  rw [← zo_rf, ← zo_rf]
  exact lv_acmp_ne hexec hb hdg ht (fun h => kt (fun z => h (zo_eq.mpr z))) (fun h => kf (zo_eq.mp h))
end ZL
/-! ===== contracts: from the abstract heap h, the answer and the abstract heap behind it ===== -/
def Pcc (G : GG) (av : List Value) (h : AH) : Array Value → State → Prop := fun v U => v = av.toArray ∧ Rp G h U.heap ∧ Kk G U
def Qcc (G : GG) (rt : Option Value) (h' : AH) : Array Value → State → Outcome → State → Prop := fun _ _ o t => o = .returned rt ∧ Rp G h' t.heap
theorem Pcc_blind {G : GG} {av : List Value} {h : AH} : FrameBlind (Pcc G av h) := fun a U g mk q => ⟨q.1, q.2.1, q.2.2.moved (u := U) (U := U.calling g mk a) (State.WarmedH.refl U)⟩
def Ct (l : Launch) (y : MethodName) (ws : List Cond) (G : GG) (f lo : Nat) (av : List Value) (h : AH) (rt : Option Value) (h' : AH) : Prop := Met l y ws (gR G h f lo) (Pcc G av h) (Qcc G rt h') (gC G - aZ h) (gS - aU h) (fun q => gB G ≤ q)
/-- what stays while a method's body is walked -/
def Cx (G : GG) (hs : AH) (p : Program) (s : State) (m : MethodId) (args : Array Value) (meth : Method) (c : Code) (cc : ByteArray) (nL : Nat) (own : String) (Ts : List Cond) (ret : Option FieldType) (nm : String) : Prop := p.tables.exec = Jvm.exec ∧ c.code = cc ∧ c.maxLocals = nL ∧ s.vm.findClass own = some m.cls ∧ (∀ w ∈ Ts, w.before args s = true) ∧ (∀ w ∈ MW, w ∈ Ts) ∧ Kk G s ∧ Rp G hs s.heap ∧ meth.locks = false ∧ meth.sig.returnType = ret ∧ meth.name = nm
theorem Ct.of {l : Launch} {y : MethodName} {cc : ByteArray} {n f lo : Nat} {ret : Option FieldType} {G : GG} {av : List Value} {h h' : AH} {rt : Option Value} (hy : plainName y.cls = true) (hlen : (lg_sl av).length ≤ n)
    (body : ∀ (p : Program) (e : Env) (s : State) (m : MethodId) (args : Array Value) (below : List Frame) (meth : Method) (c : Code), Cx G h p s m args meth c cc n y.cls (.code y cc n ret :: MW) ret y.name → Rp G h s.heap → ∀ ls, lv_has ls n (lv_args 0 av) →
      W p l e (gR G h f lo) s m args below meth c s.heap [] 0 0 (MQ below (Qcc G rt h') args s (gC G - aZ h) (gS - aU h) (fun q => gB G ≤ q)) (F0 m 0 ls [])) : Ct l y (.code y cc n ret :: MW) G f lo av h rt h' := by
  refine Met.ofW (cc := cc) (maxL := n) (ret := ret) hy rfl ?_
  intro p e s m args below meth c s₁ B hml hv
  obtain ⟨rfl, hr, hk⟩ := hv
  rw [lg_entry_eq]
  exact body p e s m _ below meth c ⟨B.exec, B.bytes, hml, findClass_of_methodNamed B.named, atoms_spec (ws := .code y cc n ret :: MW) B.pre, fun w hw => List.mem_cons_of_mem _ hw, hk, hr, B.notSynchronized, B.returns, (name_of_methodNamed B.named B.method).1⟩ hr _ (lv_entry av hlen)
section CALLS
variable {p : Program} {l : Launch} {e : Env} {s : State} {m : MethodId} {args : Array Value} {below : List Frame} {meth : Method} {c : Code} {H : Heap} {locs : List Loc} {cells slots : Nat} {Q : State → Prop}
variable {cc bytes : ByteArray} {pc nL f lo f0 lo0 n maxL index : Nat} {ls : Array Slot} {rest As st : List Value} {G : GG} {hs h h' : AH} {b : Nat} {own nm : String} {Ts : List Cond} {ret ret' : Option FieldType} {rt : Option Value} {y : MethodName}
theorem r_fit {R : Room} (rs : Rp G hs s.heap) (r : Rp G h H) (hz : aZ hs ≤ aZ h) (hu : aU hs ≤ aU h) : (aZ h - aZ hs) + (gC G - aZ h) ≤ (gR G hs f0 lo0).cells ∧ (aU h - aU hs) + (gS - aU h) ≤ (gR G hs f0 lo0).slots := by
  have h1 := r.2.2.2.2.2.2.2.1
  have h2 := r.2.2.2.2.2.2.2.2.1
  show (aZ h - aZ hs) + (gC G - aZ h) ≤ gC G - aZ hs ∧ (aU h - aU hs) + (gS - aU h) ≤ gS - aU hs
  omega
theorem r_run (hR : Rp G h H) (hL : ∀ q ∈ locs, gB G ≤ q.base) {a : Array Value} {st0 : List Value} (hr : va_Run p l e (gR G hs f0 lo0) s m args below meth c H locs cells slots (gC G - aZ h) (gS - aU h) (F0 m pc ls st0) rest (Qcc G rt h' a) (fun q => gB G ≤ q))
    (kk : ∀ (H1 : Heap) (locs1 : List Loc) (c1 s1 : Nat), Rp G h' H1 → (∀ q ∈ locs1, gB G ≤ q.base) → W p l e (gR G hs f0 lo0) s m args below meth c H1 locs1 c1 s1 Q (F0 m (pc + 3) ls (rt.toList ++ rest))) : W p l e (gR G hs f0 lo0) s m args below meth c H locs cells slots Q (F0 m pc ls st0) := by
  intro T hT X
  obtain ⟨v, st₀, t, T', L, h0, X', hL', e1, e2, ⟨hv, hq⟩, st⟩ := hr T hT X
  cases hv
  obtain ⟨t2, a1, b1⟩ := kk T'.heap (locs ++ L) _ _ (by rw [e1]; exact hq) (fun q hq => by
    rcases List.mem_append.mp hq with h | h
    · exact hL q h
    · exact hL' q h) T' rfl X'
  exact ⟨t2, st t2 a1, b1⟩
theorem g_V {C : String} (hT : ∀ w ∈ MW, w ∈ Ts) (w1 : Cond.methodLink own index y ∈ MW) (w2 : Cond.instanceMethod y ∈ MW) (w3 : Cond.selects C y y ∈ MW) (w4 : Cond.initialized C ∈ MW) (w5 : Cond.code y bytes maxL ret' ∈ MW) : GoodIn Ts (wsV own index C y (.code y bytes maxL ret' :: MW)) := by
  have hg : ∀ w ∈ MW, w ∈ Ts ∧ ((w.onTables && w.keeps) = true ∨ ∃ ty, w = .arrayClass ty) := fun w hw => ⟨hT w hw, good_of_word (MW_g hw)⟩
  intro w hw
  simp only [wsV, List.cons_append, List.nil_append, List.mem_cons] at hw
  rcases hw with rfl | rfl | rfl | rfl | rfl | hw
  · exact hg _ w1
  · exact hg _ w2
  · exact hg _ w3
  · exact hg _ w4
  · exact hg _ w5
  · exact hg _ hw
theorem g_S (hT : ∀ w ∈ MW, w ∈ Ts) (w1 : Cond.methodLink own index y ∈ MW) (w2 : Cond.static y ∈ MW) (w4 : Cond.initialized y.cls ∈ MW) (w5 : Cond.code y bytes maxL ret' ∈ MW) : GoodIn Ts (va_wsS own index y (.code y bytes maxL ret' :: MW)) := by
  have hg : ∀ w ∈ MW, w ∈ Ts ∧ ((w.onTables && w.keeps) = true ∨ ∃ ty, w = .arrayClass ty) := fun w hw => ⟨hT w hw, good_of_word (MW_g hw)⟩
  intro w hw
  simp only [va_wsS, List.cons_append, List.nil_append, List.mem_cons] at hw
  rcases hw with rfl | rfl | rfl | rfl | hw
  · exact hg _ w1
  · exact hg _ w2
  · exact hg _ w4
  · exact hg _ w5
  · exact hg _ hw
theorem g_F {C : String} {x : MethodName} (hT : ∀ w ∈ MW, w ∈ Ts) (w1 : Cond.methodLink own index x ∈ MW) (w2 : Cond.selects C x y ∈ MW) (w3 : Cond.instanceMethod y ∈ MW) (w4 : Cond.initialized y.cls ∈ MW) (w5 : Cond.code y bytes maxL ret' ∈ MW) : GoodIn Ts (va_wsF own index C x y (.code y bytes maxL ret' :: MW)) := by
  have hg : ∀ w ∈ MW, w ∈ Ts ∧ ((w.onTables && w.keeps) = true ∨ ∃ ty, w = .arrayClass ty) := fun w hw => ⟨hT w hw, good_of_word (MW_g hw)⟩
  intro w hw
  simp only [va_wsF, List.cons_append, List.nil_append, List.mem_cons] at hw
  rcases hw with rfl | rfl | rfl | rfl | rfl | hw
  · exact hg _ w1
  · exact hg _ w2
  · exact hg _ w3
  · exact hg _ w4
  · exact hg _ w5
  · exact hg _ hw
theorem g_I (hT : ∀ w ∈ MW, w ∈ Ts) (w5 : Cond.code y bytes maxL ret' ∈ MW) : GoodIn Ts (.code y bytes maxL ret' :: MW) := by
  have hg : ∀ w ∈ MW, w ∈ Ts ∧ ((w.onTables && w.keeps) = true ∨ ∃ ty, w = .arrayClass ty) := fun w hw => ⟨hT w hw, good_of_word (MW_g hw)⟩
  intro w hw
  rcases List.mem_cons.mp hw with rfl | hw
  · exact hg _ w5
  · exact hg _ hw
theorem Pcc_at (hK : Kk G s) (hR : Rp G h H) (av : List Value) : ∀ U : State, U.heap = H → s.WarmedH U.vm → Pcc G av h av.toArray U := fun _ hU hW => ⟨rfl, by rw [hU]; exact hR, hK.moved hW⟩
theorem r_recv {ci : Nat} {r : vw_C} (hK : Kk G s) (hR : Rp G h H) (hc : vwCl[ci]? = some r) (hk : aK h b = ci + 1) : ∃ cell : Cell, H[b - 1]? = some cell ∧ cell.vm.isStatics = false ∧ s.vm.findClass r.1 = some cell.cls := by
  obtain ⟨cell, g1, g2, g3, -⟩ := hR.ob hc hk
  exact ⟨cell, g1, by rw [g3]; rfl, by rw [g2]; exact (hK.1.1 ci r hc).2.1⟩
theorem r_callV {ci : Nat} {r : vw_C} (C : Cx G hs p s m args meth c cc nL own Ts ret nm) (hM : Ct l y (.code y bytes maxL ret' :: MW) G f lo (.ref (b - 1) :: As) h rt h') (hR : Rp G h H) (hL : ∀ q ∈ locs, gB G ≤ q.base) (hc : vwCl[ci]? = some r) (hk : aK h b = ci + 1)
    (w1 : Cond.methodLink own index y ∈ MW) (w2 : Cond.instanceMethod y ∈ MW) (w3 : Cond.selects r.1 y y ∈ MW) (w4 : Cond.initialized r.1 ∈ MW) (w5 : Cond.code y bytes maxL ret' ∈ MW)
    (hd : y.cls = r.1 ∧ y.cls ≠ "java/lang/invoke/MethodHandle" ∧ y.cls ≠ "java/lang/invoke/VarHandle" ∧ (parseMethodDescriptor y.desc).map (fun d => d.parameters.length) = some n) (hroom : f + 1 ≤ f0 ∧ 8 + (maxL + 11) + lo ≤ lo0) (hn : As.length = n) (hls : ls.size = nL) (hst : st = As.reverse ++ zr b :: rest) (hrest : (rest.map fun v => v.category).sum ≤ 8) {st2 : List Value} (hdg : decode cc pc = .ok (.invokevirtual index, 3)) (hst2 : rt.toList ++ rest = st2)
    (kk : ∀ (H1 : Heap) (locs1 : List Loc) (c1 s1 : Nat), Rp G h' H1 → (∀ q ∈ locs1, gB G ≤ q.base) → W p l e (gR G hs f0 lo0) s m args below meth c H1 locs1 c1 s1 Q (F0 m (pc + 3) ls st2)) : W p l e (gR G hs f0 lo0) s m args below meth c H locs cells slots Q (F0 m pc ls st) := by
  subst hst2
  obtain ⟨hx, hb, hml, hown, hts, hT, hK, rs, -⟩ := C
  rw [zr_p (hR.nz (by omega))] at hst
  subst hst
  refine W_ex rs hR fun hz hu => ?_
  exact r_run hR hL (va_runV (C := r.1) (As := As) (rest := rest) ⟨hx, hb, hml, hown, hts⟩ hM (cwV n hts (g_V hT w1 w2 w3 w4 w5) rfl rfl rfl hd hroom) ⟨Pcc_blind, r_recv hK hR hc hk, Pcc_at hK hR _⟩ rfl hn hls rfl (lv_room hrest) hdg (r_fit (R := gR G hs f0 lo0) rs hR hz hu)) kk
theorem r_callS (C : Cx G hs p s m args meth c cc nL own Ts ret nm) (hM : Ct l y (.code y bytes maxL ret' :: MW) G f lo As h rt h') (hR : Rp G h H) (hL : ∀ q ∈ locs, gB G ≤ q.base)
    (w1 : Cond.methodLink own index y ∈ MW) (w2 : Cond.static y ∈ MW) (w4 : Cond.initialized y.cls ∈ MW) (w5 : Cond.code y bytes maxL ret' ∈ MW)
    (hd : y.cls ≠ "java/lang/invoke/MethodHandle" ∧ y.cls ≠ "java/lang/invoke/VarHandle" ∧ (parseMethodDescriptor y.desc).map (fun d => d.parameters.length) = some n) (hroom : f + 1 ≤ f0 ∧ 8 + (maxL + 11) + lo ≤ lo0) (hn : As.length = n) (hls : ls.size = nL) (hst : st = As.reverse ++ rest) (hrest : (rest.map fun v => v.category).sum ≤ 8) {st2 : List Value} (hdg : decode cc pc = .ok (.invokestatic index, 3)) (hst2 : rt.toList ++ rest = st2)
    (kk : ∀ (H1 : Heap) (locs1 : List Loc) (c1 s1 : Nat), Rp G h' H1 → (∀ q ∈ locs1, gB G ≤ q.base) → W p l e (gR G hs f0 lo0) s m args below meth c H1 locs1 c1 s1 Q (F0 m (pc + 3) ls st2)) : W p l e (gR G hs f0 lo0) s m args below meth c H locs cells slots Q (F0 m pc ls st) := by
  subst hst2
  obtain ⟨hx, hb, hml, hown, hts, hT, hK, rs, -⟩ := C
  subst hst
  refine W_ex rs hR fun hz hu => ?_
  exact r_run hR hL (va_runS (As := As) (rest := rest) ⟨hx, hb, hml, hown, hts⟩ hM (va_cwS n hts (g_S hT w1 w2 w4 w5) rfl rfl rfl hd hroom) ⟨Pcc_blind, Pcc_at hK hR _⟩ rfl hn hls rfl (lv_room hrest) hdg (r_fit (R := gR G hs f0 lo0) rs hR hz hu)) kk
theorem r_callI (C : Cx G hs p s m args meth c cc nL own Ts ret nm) (hM : Ct l y (.code y bytes maxL none :: MW) G f lo (.ref (b - 1) :: As) h rt h') (hR : Rp G h H) (hL : ∀ q ∈ locs, gB G ≤ q.base) (hk : aK h b ≠ 0)
    (w1 : Cond.methodLink own index y ∈ MW) (w2 : Cond.instanceMethod y ∈ MW) (w4 : Cond.initialized y.cls ∈ MW) (w5 : Cond.code y bytes maxL none ∈ MW) (hy1 : y.name = "<init>")
    (hd : y.cls ≠ "java/lang/invoke/MethodHandle" ∧ y.cls ≠ "java/lang/invoke/VarHandle" ∧ (parseMethodDescriptor y.desc).map (fun d => d.parameters.length) = some n) (hroom : f + 1 ≤ f0 ∧ 8 + (maxL + 11) + lo ≤ lo0) (hn : As.length = n) (hls : ls.size = nL) (hst : st = As.reverse ++ zr b :: rest) (hrest : (rest.map fun v => v.category).sum ≤ 8) {st2 : List Value} (hdg : decode cc pc = .ok (.invokespecial index, 3)) (hst2 : rt.toList ++ rest = st2)
    (kk : ∀ (H1 : Heap) (locs1 : List Loc) (c1 s1 : Nat), Rp G h' H1 → (∀ q ∈ locs1, gB G ≤ q.base) → W p l e (gR G hs f0 lo0) s m args below meth c H1 locs1 c1 s1 Q (F0 m (pc + 3) ls st2)) : W p l e (gR G hs f0 lo0) s m args below meth c H locs cells slots Q (F0 m pc ls st) := by
  subst hst2
  obtain ⟨hx, hb, hml, hown, hts, hT, hK, rs, -⟩ := C
  rw [zr_p (hR.nz hk)] at hst
  subst hst
  refine W_ex rs hR fun hz hu => ?_
  exact r_run hR hL (va_runI (As := As) (rest := rest) ⟨hx, hb, hml, hown, hts⟩ hM (cwI n hts (g_I hT w5) rfl rfl rfl (hts _ (hT _ w4)) (hts _ (hT _ w1)) (hts _ (hT _ w2)) hy1 hd hroom) ⟨Pcc_blind, Pcc_at hK hR _⟩ rfl hn hls rfl (lv_room hrest) hdg (r_fit (R := gR G hs f0 lo0) rs hR hz hu)) kk
theorem r_zret {ty : FieldType} {v : Int32} (C : Cx G hs p s m args meth c cc nL own Ts (some ty) nm) (hR : Rp G h H) (hL : ∀ q ∈ locs, gB G ≤ q.base) (hn : narrow ty (.int v) = .int v) (hdg : decode cc pc = .ok (.ireturn, 1)) : W p l e (gR G hs f0 lo0) s m args below meth c H locs cells slots (MQ below (Qcc G (some (.int v)) h) args s (gC G - aZ hs) (gS - aU hs) (fun q => gB G ≤ q)) (F0 m pc ls [.int v]) := by
  obtain ⟨hx, hb, hml, hown, hts, hT, hK, rs, hlk, hr, -⟩ := C
  have h1 := hR.2.2.2.2.2.2.2.1
  have h2 := hR.2.2.2.2.2.2.2.2.1
  refine W_ex rs hR fun hz hu => ?_
  refine W.widen (k := gC G - aZ hs) (n := gS - aU hs) (by omega) (by omega) ?_
  exact W.zret hx hb hr hn (fun t ht _ => ⟨rfl, by rw [ht]; exact hR⟩) hL hdg hlk
theorem r_vret (C : Cx G hs p s m args meth c cc nL own Ts none nm) (hR : Rp G h H) (hL : ∀ q ∈ locs, gB G ≤ q.base) (hdg : decode cc pc = .ok (.return_, 1)) : W p l e (gR G hs f0 lo0) s m args below meth c H locs cells slots (MQ below (Qcc G none h) args s (gC G - aZ hs) (gS - aU hs) (fun q => gB G ≤ q)) (F0 m pc ls []) := by
  obtain ⟨hx, hb, hml, hown, hts, hT, hK, rs, hlk, hr, -⟩ := C
  have h1 := hR.2.2.2.2.2.2.2.1
  have h2 := hR.2.2.2.2.2.2.2.2.1
  refine W_ex rs hR fun hz hu => ?_
  refine W.widen (k := gC G - aZ hs) (n := gS - aU hs) (by omega) (by omega) ?_
  exact W.vret hx hb hr (fun t ht _ => ⟨rfl, by rw [ht]; exact hR⟩) hL hdg hlk
theorem r_aret {ty : FieldType} {v : Nat} (hty : (∃ n, ty = .object n) ∨ ∃ t, ty = .array t) (C : Cx G hs p s m args meth c cc nL own Ts (some ty) nm) (hR : Rp G h H) (hL : ∀ q ∈ locs, gB G ≤ q.base) (hdg : decode cc pc = .ok (.areturn, 1)) : W p l e (gR G hs f0 lo0) s m args below meth c H locs cells slots (MQ below (Qcc G (some (zr v)) h) args s (gC G - aZ hs) (gS - aU hs) (fun q => gB G ≤ q)) (F0 m pc ls [zr v]) := by
  obtain ⟨hx, hb, hml, hown, hts, hT, hK, rs, hlk, hr, -⟩ := C
  have h1 := hR.2.2.2.2.2.2.2.1
  have h2 := hR.2.2.2.2.2.2.2.2.1
  refine W_ex rs hR fun hz hu => ?_
  refine W.widen (k := gC G - aZ hs) (n := gS - aU hs) (by omega) (by omega) ?_
  exact W.aret hx hb hr hty (by unfold zr; split; exact Or.inl rfl; exact Or.inr ⟨_, rfl⟩) (fun t ht _ => ⟨rfl, by rw [ht]; exact hR⟩) hL hdg hlk
/-! new cells -/
theorem r_new {C : String} {T : u_T} {N ci : Nat} {ty0 : Nat → FieldType} (X : Cx G hs p s m args meth c cc nL own Ts ret nm) (hR : Rp G h H) (hL : ∀ q ∈ locs, gB G ≤ q.base) (hc : vwCl[ci]? = some (C, T, N)) (hin : ∀ w ∈ u_ws C T N, w ∈ MW) (hty : ∀ k, k < N → parseFieldDescriptor (T k).2.2.1 = some (ty0 k)) (hcty : ∀ k, cty ci k = ty0 k) (hdef : ∀ k, k < N → defaultValue (ty0 k) = vl (ty0 k) 0 0 0)
    (w1 : Cond.classLink own index C ∈ MW) (w2 : Cond.instantiable C N ∈ MW) (w3 : Cond.initialized C ∈ MW) (hcap : aZ h + 1 ≤ aC h ∧ aU h + N ≤ gS) (hdg : decode cc pc = .ok (.new index, 3))
    (kk : ∀ (H1 : Heap) (c1 s1 : Nat), Rp G (uN h (ci + 1) N) H1 → W p l e (gR G hs f0 lo0) s m args below meth c H1 locs c1 s1 Q (F0 m (pc + 3) ls (zr (aZ h) :: rest))) : W p l e (gR G hs f0 lo0) s m args below meth c H locs cells slots Q (F0 m pc ls rest) := by
  obtain ⟨hx, hb, hml, hown, hts, hT, hK, rs, hlk, hr, -⟩ := X
  refine W_ex rs hR fun hz hu => ?_
  have hcp := hcap.1
  rw [hR.cap] at hcp
  have hz0 : aZ h ≠ 0 := by have := hR.2.1; omega
  refine W.newc hx hb hown (hts _ (hT _ w1)) (hts _ (hT _ w2)) (hts _ (hT _ w3)) rfl hdg (by show _ ≤ gC G - aZ hs; omega) (by have := hcap.2; show _ ≤ gS - aU hs; omega) fun cC kC h1 h2 h3 h4 => ?_
  have hKn := hK.1.1 ci _ hc
  have e0 : (gD G).1 ci = cC := Option.some.inj (hKn.2.1.symm.trans h1)
  rw [show H.size = aZ h - 1 by have := hR.size; omega, ← zr_p hz0]
  refine kk _ _ _ (hR.new (c := { cls := cC, slots := kC.instanceTypes.map defaultValue, vm := .none }) (by simp) (by simp) (fun q hq => by rw [Array.getElem?_push, if_neg (Nat.ne_of_lt hq)]) (by simp [h4]) hcap.1 hcap.2 ⟨fun ci' r hr hk' => ?_, fun t ht hk' => ?_⟩)
  · have hci : ci' = ci := by
      have : aK (uN h (ci + 1) N) (aZ h) = ci + 1 := if_pos rfl
      omega
    subst hci
    cases hr.symm.trans hc
    have hb2 := u_born (o := aZ h - 1) (H := H.push ({ cls := cC, slots := kC.instanceTypes.map defaultValue, vm := .none } : Cell)) ty0 (fun w hw => hts w (hT w hw)) hin hKn (by rw [e0]; exact h2) (by rw [← hR.size, e0, Nat.add_sub_cancel, Array.getElem?_push_size]; rfl) hty
    refine hb2.to fun k hk => ?_
    rw [hdef k hk, hcty k]
    show _ = vl (ty0 k) (if aZ h = aZ h then 0 else _) (if aZ h = aZ h then 0 else _) (if aZ h = aZ h then 0 else _)
    rw [if_pos rfl, if_pos rfl, if_pos rfl]
  · have hlt := vwCl_lt hc
    have : aK (uN h (ci + 1) N) (aZ h) = ci + 1 := if_pos rfl
    omega
theorem new_arr {t n : Nat} {cA0 : ClassId} {x : Value} (hR : Rp G h H) (ht : t < 7) (hA : gA G t = cA0) (hx : x = vl (aty t) 0 0 0) (hcap : aZ h + 1 ≤ aC h ∧ aU h + n ≤ gS) : Rp G (uN h (20 + t) n) (H.push ({ cls := cA0, slots := Array.replicate n x, vm := .none } : Cell)) := by
  refine hR.new (c := { cls := cA0, slots := Array.replicate n x, vm := .none }) (by simp) (by simp) (fun q hq => by rw [Array.getElem?_push, if_neg (Nat.ne_of_lt hq)]) (by simp) hcap.1 hcap.2 ⟨fun ci r hr hk => ?_, fun t' ht' hk => ?_⟩
  · have hlt := vwCl_lt hr
    have : aK (uN h (20 + t) n) (aZ h) = 20 + t := if_pos rfl
    omega
  · have e0 : aK (uN h (20 + t) n) (aZ h) = 20 + t := if_pos rfl
    have e1 : aN (uN h (20 + t) n) (aZ h) = n := if_pos rfl
    have e2 : t' = t := by omega
    subst e2
    rw [e1]
    refine ⟨{ cls := cA0, slots := Array.replicate n x, vm := .none }, by rw [← hR.size, Nat.add_sub_cancel, Array.getElem?_push_size], hA.symm, fun k hk => (by cases hk), fun _ => rfl, by simp, fun k hk => ?_⟩
    have e3 : vl (aty t') (aI (uN h (20 + t') n) (aZ h) k) (aR (uN h (20 + t') n) (aZ h) k) (aL (uN h (20 + t') n) (aZ h) k) = x := by
      rw [hx]
      show vl (aty t') (if aZ h = aZ h then 0 else _) (if aZ h = aZ h then 0 else _) (if aZ h = aZ h then 0 else _) = _
      rw [if_pos rfl, if_pos rfl, if_pos rfl]
    rw [e3]
    simp [hk]
theorem r_newa {t : Nat} {atype : ArrayType} {i : Int32} (ht : t < 7) (hty : newarray.typeOf atype = aty t) (hprim : ∀ C, aty t ≠ .object C) (hdef : defaultValue (aty t) = vl (aty t) 0 0 0) (X : Cx G hs p s m args meth c cc nL own Ts ret nm) (hR : Rp G h H) (w1 : Cond.arrayClass (aty t) ∈ MW) (hi : 0 ≤ i ∧ i.toNatClampNeg ≤ 100000) (hcap : aZ h + 1 ≤ aC h ∧ aU h + i.toNatClampNeg ≤ gS) (hdg : decode cc pc = .ok (.newarray atype, 2))
    (kk : ∀ (H1 : Heap) (c1 s1 : Nat), Rp G (uN h (20 + t) i.toNatClampNeg) H1 → W p l e (gR G hs f0 lo0) s m args below meth c H1 locs c1 s1 Q (F0 m (pc + 2) ls (zr (aZ h) :: rest))) : W p l e (gR G hs f0 lo0) s m args below meth c H locs cells slots Q (F0 m pc ls (.int i :: rest)) := by
  obtain ⟨hx, hb, hml, hown, hts, hT, hK, rs, hlk, hr, -⟩ := X
  refine W_ex rs hR fun hz hu => ?_
  have hcp := hcap.1
  rw [hR.cap] at hcp
  have hz0 : aZ h ≠ 0 := by have := hR.2.1; omega
  have hcb : componentBytes (aty t) ≤ 8 := by cases aty t <;> exact Nat.le_of_ble_eq_true rfl
  have hmul : i.toNatClampNeg * componentBytes (aty t) ≤ 536870912 := Nat.le_trans (Nat.mul_le_mul hi.2 hcb) (by decide)
  refine W.newa hx hb (by rw [hty]; exact hts _ (hT _ w1)) rfl hdg rfl (Int32.not_lt.mpr hi.1) (by rw [hty]; exact hmul) (by show _ ≤ gC G - aZ hs; omega) (by have := hcap.2; show _ ≤ gS - aU hs; omega) fun cA0 kA comp h1 h2 h3 => ?_
  rw [hty] at h1
  have hRA := (hK.1.2 t _ (gT_at G ht)).2
  have hA : gA G t = cA0 := by
    have : s.vm.findClass ("[" ++ (aty t).toString) = some (gA G t) := by
      have h9 : va_RA s (gA G t) (aty t) := hRA
      generalize aty t = ty at h9 hprim
      cases ty with
      | object C => exact absurd rfl (hprim C)
      | _ => exact h9
    exact Option.some.inj (this.symm.trans h1)
  rw [show H.size = aZ h - 1 by have := hR.size; omega, ← zr_p hz0]
  exact kk _ _ _ (new_arr hR ht hA (by rw [hty]; exact hdef) hcap)
theorem r_anew {t : Nat} {E : String} {i : Int32} (ht : t < 7) (hty : aty t = .object E) (X : Cx G hs p s m args meth c cc nL own Ts ret nm) (hover : va_AO E s) (hR : Rp G h H) (w1 : Cond.classLink own index E ∈ MW) (hi : 0 ≤ i ∧ i.toNatClampNeg ≤ 100000) (hcap : aZ h + 1 ≤ aC h ∧ aU h + i.toNatClampNeg ≤ gS) (hdg : decode cc pc = .ok (.anewarray index, 3))
    (kk : ∀ (H1 : Heap) (c1 s1 : Nat), Rp G (uN h (20 + t) i.toNatClampNeg) H1 → W p l e (gR G hs f0 lo0) s m args below meth c H1 locs c1 s1 Q (F0 m (pc + 3) ls (zr (aZ h) :: rest))) : W p l e (gR G hs f0 lo0) s m args below meth c H locs cells slots Q (F0 m pc ls (.int i :: rest)) := by
  obtain ⟨hx, hb, hml, hown, hts, hT, hK, rs, hlk, hr, -⟩ := X
  refine W_ex rs hR fun hz hu => ?_
  have hcp := hcap.1
  rw [hR.cap] at hcp
  have hz0 : aZ h ≠ 0 := by have := hR.2.1; omega
  refine W.anew hx hb hown (hts _ (hT _ w1)) (va_AO.use hover) rfl hdg rfl (Int32.not_lt.mpr hi.1) (by have := hi.2; omega) (by show _ ≤ gC G - aZ hs; omega) (by have := hcap.2; show _ ≤ gS - aU hs; omega) fun cA0 kA comp h1 h2 h3 h4 => ?_
  have hRA := (hK.1.2 t _ (gT_at G ht)).2
  rw [show ((gA G t, aty t) : ClassId × FieldType).2 = .object E from hty] at hRA
  obtain ⟨-, -, -, -, -, h5⟩ := hRA
  have hA : gA G t = cA0 := Option.some.inj (h5.symm.trans h1)
  rw [show H.size = aZ h - 1 by have := hR.size; omega, ← zr_p hz0]
  exact kk _ _ _ (new_arr hR ht hA (by rw [hty]; rfl) hcap)
end CALLS
theorem nm_i {α β : Type} {x y' : α} {f : α → Option β} {z : β} (h : nm x f = some z) (e : y' = x) : f y' = some z := by subst e; exact h
theorem nm_h {β : Type} {G : GG} {H : Heap} {x : AH} {f : AH → Option β} {z : β} (h : nm x f = some z) (r : Rp G x H) : ∃ h1 : AH, f h1 = some z ∧ Rp G h1 H := ⟨x, h, r⟩
def FU : Nat := 100000
theorem ite_p {α : Type} {c : Prop} [Decidable c] {x y : Option α} {z : α} (h : (if c then x else y) = some z) (hc : c) : x = some z := by rw [if_pos hc] at h; exact h
theorem ite_n {α : Type} {c : Prop} [Decidable c] {x y : Option α} {z : α} (h : (if c then x else y) = some z) (hc : ¬ c) : y = some z := by rw [if_neg hc] at h; exact h
section MORE
variable {p : Program} {l : Launch} {e : Env} {R : Room} {s : State} {m : MethodId} {args : Array Value} {below : List Frame} {meth : Method} {c : Code} {H : Heap} {locs : List Loc} {cells slots : Nat} {Q : State → Prop}
variable {cc : ByteArray} {pc nL f0 lo0 index : Nat} {ls : Array Slot} {rest : List Value} {G : GG} {hs h : AH} {own nm : String} {Ts : List Cond} {ret : Option FieldType}
theorem lv_topz {x : Nat} (k : ∀ y : Nat, y = x → W p l e R s m args below meth c H locs cells slots Q (F0 m pc ls (zr y :: rest))) : W p l e R s m args below meth c H locs cells slots Q (F0 m pc ls (zr x :: rest)) := k x rfl
theorem r_objInit {x : Nat} (C : Cx G hs p s m args meth c cc nL own Ts ret nm) (hx0 : x ≠ 0) (w1 : (Cond.methodLink own index Lib.objectInit).before args s = true) (w2 : (Cond.instanceMethod Lib.objectInit).before args s = true) (w3 : (Cond.code Lib.objectInit ⟨#[0xb1]⟩ 1 none).before args s = true) (hls : ls.size = nL) (hd : decode cc pc = .ok (.invokespecial index, 3)) (hframes : 1 ≤ f0) (hlocals : (rest.map fun v => v.category).sum + 12 ≤ lo0)
    (kk : W p l e (gR G hs f0 lo0) s m args below meth c H locs cells slots Q (F0 m (pc + 3) ls rest)) : W p l e (gR G hs f0 lo0) s m args below meth c H locs cells slots Q (F0 m pc ls (zr x :: rest)) := by
  obtain ⟨hx, hb, hml, hown, hts, hT, hK, rs, -⟩ := C
  rw [zr_p hx0]
  exact W.objInit hx hb hown w1 w2 w3 rfl (hls.trans hml.symm) rfl hd hframes (by show 2 * 0 + _ + 12 ≤ lo0; omega) kk
theorem r_castC {ci : Nat} {r : vw_C} {a : Nat} (hexec : p.tables.exec = Jvm.exec) (hb : c.code = cc) (hown : s.vm.findClass own = some m.cls) (w1 : (Cond.classLink own index r.1).before args s = true) (hK : Kk G s) (hR : Rp G h H) (hc : vwCl[ci]? = some r) (hk : aK h a = ci + 1) (hd : decode cc pc = .ok (.checkcast index, 3))
    (kk : W p l e R s m args below meth c H locs cells slots Q (F0 m (pc + 3) ls (zr a :: rest))) : W p l e R s m args below meth c H locs cells slots Q (F0 m pc ls (zr a :: rest)) := by
  rw [zr_p (hR.nz (by omega))] at kk ⊢
  exact va_castS hexec hb hown w1 (hK.1.1 ci r hc).2 (r_recv hK hR hc hk) hd kk
end MORE
/-! ===== locals of which some are longs ===== -/
def zm (ls : Array Slot) (n : Nat) (l : List (Nat × Value)) : Prop := lv_has ls n l
theorem zm_at {ls : Array Slot} {n : Nat} {l : List (Nat × Value)} (h : zm ls n l) (k : Nat) {i : Nat} {v : Value} (hk : l[k]? = some (i, v)) : ls[i]? = some (.val v) := lv_at h k hk
theorem zm_sub {ls : Array Slot} {n : Nat} {l l' : List (Nat × Value)} (h : zm ls n l) (ks : List Nat) (hl : lv_pick l ks = l') : zm ls n l' := lv_sub h ks hl
theorem zm_size {ls : Array Slot} {n : Nat} {l : List (Nat × Value)} (h : zm ls n l) : ls.size = n := h.1
theorem lo_cat (x : Int64) : (Value.long x).category = 2 := rfl
/-- no long lies just ahead of the place -/
def noL (i : Nat) (l : List (Nat × Value)) : Prop := ∀ q ∈ l, q.1 + 1 = i → q.2.category = 1
theorem noL_nil (i : Nat) : noL i [] := fun _ h => nomatch h
theorem noL_c {i k : Nat} {v : Value} {l : List (Nat × Value)} (h : k + 1 ≠ i) (t : noL i l) : noL i ((k, v) :: l) := by
  intro q hq hi
  rcases List.mem_cons.mp hq with e | e
  · subst e; exact absurd hi h
  · exact t q e hi
theorem noL_i {i k : Nat} {x : Int32} {l : List (Nat × Value)} (t : noL i l) : noL i ((k, .int x) :: l) := by
  intro q hq hi
  rcases List.mem_cons.mp hq with e | e
  · subst e; rfl
  · exact t q e hi
theorem noL_z {i k x : Nat} {l : List (Nat × Value)} (t : noL i l) : noL i ((k, zr x) :: l) := by
  intro q hq hi
  rcases List.mem_cons.mp hq with e | e
  · subst e; exact zr_cat x
  · exact t q e hi
theorem re_cat (x : Nat) : (Value.ref x).category = 1 := rfl
theorem noL_r {i k x : Nat} {l : List (Nat × Value)} (t : noL i l) : noL i ((k, .ref x) :: l) := by
  intro q hq hi
  rcases List.mem_cons.mp hq with e | e
  · subst e; rfl
  · exact t q e hi
theorem zm_fil {i : Nat} {l : List (Nat × Value)} (h : noL i l) : l.filter (fun q => !(q.1 == i) && !(q.1 + 1 == i && q.2.category == 2)) = l.filter (fun q => !(q.1 == i)) := by
  apply List.filter_congr
  intro q hq
  by_cases hi : q.1 + 1 = i
  · have hc : (q.2.category == 2) = false := by rw [h q hq hi]; rfl
    rw [hc, Bool.and_false, Bool.not_false, Bool.and_true]
  · have hc : (q.1 + 1 == i) = false := by simpa using hi
    rw [hc, Bool.false_and, Bool.not_false, Bool.and_true]
/-- a long's own place: nothing just ahead of it is a long, and what lay behind it goes -/
theorem zm_fil2 {i : Nat} {l : List (Nat × Value)} (h : noL i l) : l.filter (fun q => !(q.1 == i) && (!(q.1 == i + 1) && !(q.1 + 1 == i && q.2.category == 2))) = l.filter (fun q => !(q.1 == i) && !(q.1 == i + 1)) := by
  apply List.filter_congr
  intro q hq
  by_cases hi : q.1 + 1 = i
  · have hc : (q.2.category == 2) = false := by rw [h q hq hi]; rfl
    rw [hc, Bool.and_false, Bool.not_false, Bool.and_true]
  · have hc : (q.1 + 1 == i) = false := by simpa using hi
    rw [hc, Bool.false_and, Bool.not_false, Bool.and_true]
section ZM
variable {p : Program} {l : Launch} {e : Env} {R : Room} {s : State} {m : MethodId} {args : Array Value} {below : List Frame} {meth : Method} {c : Code} {H : Heap} {locs : List Loc} {cells slots : Nat} {Q : State → Prop}
variable {cc : ByteArray} {pc : Nat} {ls : Array Slot} {rest : List Value}
theorem zm_istore_n (hexec : p.tables.exec = Jvm.exec) (hb : c.code = cc) {k : Fin 4} {i nL : Nat} {x : Int32} {lv lv' : List (Nat × Value)} (hdg : decode cc pc = .ok (.istore_n k, 1)) (hi : (k : Nat) = i) (h : zm ls nL lv) (hn : i < nL) (hd : noL i lv) (hl : (i, Value.int x) :: lv.filter (fun q => !(q.1 == i)) = lv')
    (kk : ∀ ls' : Array Slot, zm ls' nL lv' → W p l e R s m args below meth c H locs cells slots Q (F0 m (pc + 1) ls' rest)) : W p l e R s m args below meth c H locs cells slots Q (F0 m pc ls (.int x :: rest)) :=
  lv_istore_n hexec hb hdg hi h hn (by rw [zm_fil hd]; exact hl) kk
theorem zm_istore (hexec : p.tables.exec = Jvm.exec) (hb : c.code = cc) {i nL : Nat} {x : Int32} {lv lv' : List (Nat × Value)} (hdg : decode cc pc = .ok (.istore i, 2)) (h : zm ls nL lv) (hn : i < nL) (hd : noL i lv) (hl : (i, Value.int x) :: lv.filter (fun q => !(q.1 == i)) = lv')
    (kk : ∀ ls' : Array Slot, zm ls' nL lv' → W p l e R s m args below meth c H locs cells slots Q (F0 m (pc + 2) ls' rest)) : W p l e R s m args below meth c H locs cells slots Q (F0 m pc ls (.int x :: rest)) :=
  lv_istore hexec hb hdg h hn (by rw [zm_fil hd]; exact hl) kk
theorem zm_lstore_n (hexec : p.tables.exec = Jvm.exec) (hb : c.code = cc) {k : Fin 4} {i nL : Nat} {x : Int64} {lv lv' : List (Nat × Value)} (hdg : decode cc pc = .ok (.lstore_n k, 1)) (hi : (k : Nat) = i) (h : zm ls nL lv) (hn : i + 1 < nL) (hd : noL i lv) (hl : (i, Value.long x) :: lv.filter (fun q => !(q.1 == i) && !(q.1 == i + 1)) = lv')
    (kk : ∀ ls' : Array Slot, zm ls' nL lv' → W p l e R s m args below meth c H locs cells slots Q (F0 m (pc + 1) ls' rest)) : W p l e R s m args below meth c H locs cells slots Q (F0 m pc ls (.long x :: rest)) :=
  lv_lstore_n hexec hb hdg hi h hn (by rw [zm_fil2 hd]; exact hl) kk
theorem zm_lstore (hexec : p.tables.exec = Jvm.exec) (hb : c.code = cc) {i nL : Nat} {x : Int64} {lv lv' : List (Nat × Value)} (hdg : decode cc pc = .ok (.lstore i, 2)) (h : zm ls nL lv) (hn : i + 1 < nL) (hd : noL i lv) (hl : (i, Value.long x) :: lv.filter (fun q => !(q.1 == i) && !(q.1 == i + 1)) = lv')
    (kk : ∀ ls' : Array Slot, zm ls' nL lv' → W p l e R s m args below meth c H locs cells slots Q (F0 m (pc + 2) ls' rest)) : W p l e R s m args below meth c H locs cells slots Q (F0 m pc ls (.long x :: rest)) :=
  lv_lstore hexec hb hdg h hn (by rw [zm_fil2 hd]; exact hl) kk
theorem zm_store {v : Value} {i nL : Nat} {lv lv' : List (Nat × Value)} (h : zm ls nL lv) (hn : i < nL) (hv : v.category = 1) (hd : noL i lv) (hl : (i, v) :: lv.filter (fun q => !(q.1 == i)) = lv') : ∃ ls', storeLocals ls i v = some ls' ∧ zm ls' nL lv' := by
  obtain ⟨ls', e, h'⟩ := lv_store1 h hn hv
  rw [zm_fil hd, hl] at h'
  exact ⟨ls', e, h'⟩
theorem zm_astore_n (hexec : p.tables.exec = Jvm.exec) (hb : c.code = cc) {k : Fin 4} {i nL : Nat} {x : Nat} {lv lv' : List (Nat × Value)} (hdg : decode cc pc = .ok (.astore_n k, 1)) (hi : (k : Nat) = i) (h : zm ls nL lv) (hn : i < nL) (hd : noL i lv) (hl : (i, zr x) :: lv.filter (fun q => !(q.1 == i)) = lv')
    (kk : ∀ ls' : Array Slot, zm ls' nL lv' → W p l e R s m args below meth c H locs cells slots Q (F0 m (pc + 1) ls' rest)) : W p l e R s m args below meth c H locs cells slots Q (F0 m pc ls (zr x :: rest)) := by
  obtain ⟨ls', e', h'⟩ := zm_store (v := zr x) h hn (zr_cat x) hd hl
  subst hi
  intro T hT X
  obtain ⟨t, a, b⟩ := kk ls' h' T hT X
  refine ⟨t, ?_, b⟩
  by_cases hx : x = 0
  · subst hx
    rw [zr_0] at e' ⊢
    jvm_step X.here [X.here.top, ↓top_set X.here.top, hexec, hb, hdg, e']
    exact ⟨rfl, a⟩
  · rw [zr_p hx] at e' ⊢
    jvm_step X.here [X.here.top, ↓top_set X.here.top, hexec, hb, hdg, e']
    exact ⟨rfl, a⟩
theorem zm_astore (hexec : p.tables.exec = Jvm.exec) (hb : c.code = cc) {i nL : Nat} {x : Nat} {lv lv' : List (Nat × Value)} (hdg : decode cc pc = .ok (.astore i, 2)) (h : zm ls nL lv) (hn : i < nL) (hd : noL i lv) (hl : (i, zr x) :: lv.filter (fun q => !(q.1 == i)) = lv')
    (kk : ∀ ls' : Array Slot, zm ls' nL lv' → W p l e R s m args below meth c H locs cells slots Q (F0 m (pc + 2) ls' rest)) : W p l e R s m args below meth c H locs cells slots Q (F0 m pc ls (zr x :: rest)) := by
  obtain ⟨ls', e', h'⟩ := zm_store (v := zr x) h hn (zr_cat x) hd hl
  intro T hT X
  obtain ⟨t, a, b⟩ := kk ls' h' T hT X
  refine ⟨t, ?_, b⟩
  by_cases hx : x = 0
  · subst hx
    rw [zr_0] at e' ⊢
    jvm_step X.here [X.here.top, ↓top_set X.here.top, hexec, hb, hdg, e']
    exact ⟨rfl, a⟩
  · rw [zr_p hx] at e' ⊢
    jvm_step X.here [X.here.top, ↓top_set X.here.top, hexec, hb, hdg, e']
    exact ⟨rfl, a⟩
theorem zm_iinc (hexec : p.tables.exec = Jvm.exec) (hb : c.code = cc) {i nL k : Nat} {n : Int} {x : Int32} {lv lv' : List (Nat × Value)} (v : Int32) (hdg : decode cc pc = .ok (.iinc i n, 3)) (h : zm ls nL lv) (hk : lv[k]? = some (i, .int x)) (hv : v = x + iI n) (hn : i < nL) (hd : noL i lv) (hl : (i, Value.int v) :: lv.filter (fun q => !(q.1 == i)) = lv')
    (kk : ∀ ls' : Array Slot, zm ls' nL lv' → W p l e R s m args below meth c H locs cells slots Q (F0 m (pc + 3) ls' rest)) : W p l e R s m args below meth c H locs cells slots Q (F0 m pc ls rest) :=
  lv_iinc hexec hb hdg h hk hv.symm hn (by rw [zm_fil hd]; exact hl) kk
variable {G : GG} {hs h : AH} {nL : Nat} {own nm : String} {Ts : List Cond} {f0 lo0 : Nat}
theorem r_lret {v : Int64} (C : Cx G hs p s m args meth c cc nL own Ts (some .long) nm) (hR : Rp G h H) (hL : ∀ q ∈ locs, gB G ≤ q.base) (hdg : decode cc pc = .ok (.lreturn, 1)) : W p l e (gR G hs f0 lo0) s m args below meth c H locs cells slots (MQ below (Qcc G (some (.long v)) h) args s (gC G - aZ hs) (gS - aU hs) (fun q => gB G ≤ q)) (F0 m pc ls [.long v]) := by
  obtain ⟨hx, hb, hml, hown, hts, hT, hK, rs, hlk, hr, -⟩ := C
  have h1 := hR.2.2.2.2.2.2.2.1
  have h2 := hR.2.2.2.2.2.2.2.2.1
  refine W_ex rs hR fun hz hu => ?_
  refine W.widen (k := gC G - aZ hs) (n := gS - aU hs) (by omega) (by omega) ?_
  exact W.lret hx hb hr (fun t ht _ => ⟨rfl, by rw [ht]; exact hR⟩) hL hdg hlk
theorem r_sld {b L : Nat} {xs : Nat → Int32} (hexec : p.tables.exec = Jvm.exec) (hb : c.code = cc) (hX : va_X b L xs s (gH G)) (hbB : b < gB G) (hR : Rp G h H) {i : Int32} (hin : ix i L) (hdg : decode cc pc = .ok (.iaload, 1))
    (kk : W p l e R s m args below meth c H locs cells slots Q (F0 m (pc + 1) ls (.int (xs i.toNatClampNeg) :: rest))) : W p l e R s m args below meth c H locs cells slots Q (F0 m pc ls (.int i :: .ref b :: rest)) := by
  obtain ⟨scr, h1, h2, h3, h4, h5⟩ := hX
  exact W.iald (v := .int (xs i.toNatClampNeg)) hexec hb (by rw [hR.2.2.2.2.2.1 b hbB]; exact h1) h2 h3 (by rw [h4]; exact ix_in hin) (h5 _ hin.2) rfl rfl hdg kk
theorem r_slen {b L : Nat} {xs : Nat → Int32} (hexec : p.tables.exec = Jvm.exec) (hb : c.code = cc) (hX : va_X b L xs s (gH G)) (hbB : b < gB G) (hR : Rp G h H) (hdg : decode cc pc = .ok (.arraylength, 1))
    (kk : W p l e R s m args below meth c H locs cells slots Q (F0 m (pc + 1) ls (.int (nI L) :: rest))) : W p l e R s m args below meth c H locs cells slots Q (F0 m pc ls (.ref b :: rest)) := by
  obtain ⟨scr, h1, h2, h3, h4, h5⟩ := hX
  exact W.alen (n := nI L) hexec hb (by rw [hR.2.2.2.2.2.1 b hbB]; exact h1) h2 (by rw [h4] <;> rfl) rfl rfl hdg kk
end ZM
