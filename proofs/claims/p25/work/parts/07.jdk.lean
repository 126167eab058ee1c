/-! ===== rows that the JDK's own methods need ===== -/
/-- n values of the array s from sp on, laid into the array d from dp on -/
def uCI (h : AH) (s sp d dp n : Nat) : AH := (aK h, aN h, fun b j => if b = d ∧ dp ≤ j ∧ j < dp + n then aI h s (sp + (j - dp)) else aI h b j, aR h, aL h, aZ h, aU h, aE h, aC h, aM h)
def uCR (h : AH) (s sp d dp n : Nat) : AH := (aK h, aN h, aI h, fun b j => if b = d ∧ dp ≤ j ∧ j < dp + n then aR h s (sp + (j - dp)) else aR h b j, aL h, aZ h, aU h, aE h, aC h, aM h)
/-- each is null or one of our objects -/
abbrev okEl (h : AH) (s sp n : Nat) : Prop := ∀ i, i < n → aR h s (sp + i) = 0 ∨ (1 ≤ aK h (aR h s (sp + i)) ∧ aK h (aR h s (sp + i)) ≤ 12)
theorem zn_int (z : Int32) (hz : 0 ≤ z) : z.toInt = (z.toNatClampNeg : Int) := by
  have hz0 : (0 : Int) ≤ z.toInt := by simpa using Int32.le_iff_toInt_le.mp hz
  show z.toInt = ((z.toInt.toNat : Nat) : Int)
  omega
/-- our classes are Objects -/
theorem kw_obj {G : GG} {s : State} (hK : Kk G s) {ci : Nat} {r : vw_C} (hc : vwCl[ci]? = some r) : va_Nw (.castable r.1 "java/lang/Object") s := by
  have hlt := vwCl_lt hc
  match ci, hlt, hc with
  | 0, _, hc => cases hc; exact hK.face (KW_t 995 (by decide +kernel) (by decide +kernel))
  | 1, _, hc => cases hc; exact hK.face (KW_t 1002 (by decide +kernel) (by decide +kernel))
  | 2, _, hc => cases hc; exact hK.face (KW_t 1005 (by decide +kernel) (by decide +kernel))
  | 3, _, hc => cases hc; exact hK.face (KW_t 1003 (by decide +kernel) (by decide +kernel))
  | 4, _, hc => cases hc; exact hK.face (KW_t 1004 (by decide +kernel) (by decide +kernel))
  | 5, _, hc => cases hc; exact hK.face (KW_t 993 (by decide +kernel) (by decide +kernel))
  | 6, _, hc => cases hc; exact hK.face (KW_t 997 (by decide +kernel) (by decide +kernel))
  | 7, _, hc => cases hc; exact hK.face (KW_t 996 (by decide +kernel) (by decide +kernel))
  | 8, _, hc => cases hc; exact hK.face (KW_t 998 (by decide +kernel) (by decide +kernel))
  | 9, _, hc => cases hc; exact hK.face (KW_t 1006 (by decide +kernel) (by decide +kernel))
  | 10, _, hc => cases hc; exact hK.face (KW_t 992 (by decide +kernel) (by decide +kernel))
  | 11, _, hc => cases hc; exact hK.face (KW_t 994 (by decide +kernel) (by decide +kernel))
theorem vwCl_of {k : Nat} (h : 1 ≤ k ∧ k ≤ 12) : ∃ (ci : Nat) (r : vw_C), vwCl[ci]? = some r ∧ k = ci + 1 := by
  have hlt : k - 1 < vwCl.length := by show k - 1 < 12; omega
  exact ⟨k - 1, vwCl[k - 1], List.getElem?_eq_getElem hlt, by omega⟩
section JD
variable {p : Program} {l : Launch} {e : Env} {s : State} {m : MethodId} {args : Array Value} {below : List Frame} {meth : Method} {c : Code} {H : Heap} {locs : List Loc} {cells slots : Nat} {Q : State → Prop}
variable {cc bytes : ByteArray} {pc nL f lo f0 lo0 n maxL index : Nat} {ls : Array Slot} {rest As st : List Value} {G : GG} {hs h h' : AH} {a b : Nat} {own nm : String} {Ts : List Cond} {ret ret' : Option FieldType} {rt : Option Value} {y : MethodName}
theorem r_aastO {R : Room} {v : Nat} (hexec : p.tables.exec = Jvm.exec) (hb : c.code = cc) (hK : Kk G s) (hR : Rp G h H) (hL : ∀ q ∈ locs, gB G ≤ q.base) (hkv : 1 ≤ aK h v ∧ aK h v ≤ 12) (hka : aK h a = 26) {i : Int32} (hin : ix i (aN h a)) (hdg : decode cc pc = .ok (.aastore, 1))
    (kk : ∀ (H1 : Heap) (locs1 : List Loc), Rp G (uR h a i.toNatClampNeg v) H1 → (∀ q ∈ locs1, gB G ≤ q.base) → W p l e R s m args below meth c H1 locs1 cells slots Q (F0 m (pc + 1) ls rest)) : W p l e R s m args below meth c H locs cells slots Q (F0 m pc ls (zr v :: .int i :: zr a :: rest)) := by
  obtain ⟨ci, r, hc, hk⟩ := vwCl_of hkv
  exact r_aast (t := 6) (ci := ci) (r := r) (by decide) rfl hexec hb hK hR hL (Or.inr (kw_obj hK hc)) hc hk hka hin hdg kk
theorem r_gets (C : Cx G hs p s m args meth c cc nL own Ts ret nm) {R : Room} (hR : Rp G h H) (w1 : (Cond.fieldLink own index "java/util/ArrayList" "DEFAULTCAPACITY_EMPTY_ELEMENTDATA" "[Ljava/lang/Object;").before args s = true) (hdg : decode cc pc = .ok (.getstatic index, 3))
    (kk : W p l e R s m args below meth c H locs cells slots Q (F0 m (pc + 3) ls (zr (aE h) :: rest))) : W p l e R s m args below meth c H locs cells slots Q (F0 m pc ls rest) := by
  obtain ⟨hx, hb, hml, hown, hts, hT, hK, rs, -⟩ := C
  obtain ⟨cf, kf, fi, f, a, cell, h1, h2, h3, h4, h5, h6, h7, h8⟩ := hK.2.2.2.1
  have hsz := hK.2.2.2.2.1
  have hal : a < gB G := by rw [← hsz]; exact (Array.getElem?_eq_some_iff.mp h5).1
  have hE : aE h = gE G := hR.2.2.2.2.2.2.2.2.2.1
  have hc : H[a]? = some cell := by rw [hR.2.2.2.2.2.1 a hal]; exact h5
  rw [hE] at kk
  exact W.gets hx hb hown w1 h1 h2 h3 h4 hc (fun e => by rw [e] at h6; cases h6) h7 rfl hdg kk
theorem r_ldcM (C : Cx G hs p s m args meth c cc nL own Ts ret nm) {R : Room} (hR : Rp G h H) (w1 : (Cond.classLink own index "[Ljava/lang/Object;").before args s = true) (hdg : decode cc pc = .ok (.ldc index, 2))
    (kk : W p l e R s m args below meth c H locs cells slots Q (F0 m (pc + 2) ls (zr (aM h) :: rest))) : W p l e R s m args below meth c H locs cells slots Q (F0 m pc ls rest) := by
  obtain ⟨hx, hb, hml, hown, hts, hT, hK, rs, -⟩ := C
  have hM : aM h = gM G := hR.2.2.2.2.2.2.2.2.2.2.2
  have h1 := hK.2.2.2.2.2.2.2.2.2.1
  have h2 := hK.2.2.2.2.2.2.2.2.2.2.1
  rw [hM, zr_p h2] at kk
  exact va_ldcM hx hb hown w1 h1 hdg kk
theorem r_getC (C : Cx G hs p s m args meth c cc nL own Ts ret nm) (hR : Rp G h H) (hka : aK h a = 26) (w1 : (Cond.methodLink own index ⟨"java/lang/Object", "getClass", "()Ljava/lang/Class;"⟩).before args s = true)
    (w3 : (Cond.selects "[Ljava/lang/Object;" ⟨"java/lang/Object", "getClass", "()Ljava/lang/Class;"⟩ ⟨"java/lang/Object", "getClass", "()Ljava/lang/Class;"⟩).before args s = true) (w4 : (Cond.instanceMethod ⟨"java/lang/Object", "getClass", "()Ljava/lang/Class;"⟩).before args s = true) (w5 : (Cond.native ⟨"java/lang/Object", "getClass", "()Ljava/lang/Class;"⟩).before args s = true)
    (hls : ls.size = nL) (hframes : 1 ≤ f0) (hlocals : (rest.map fun v => v.category).sum + 14 ≤ lo0) (hdg : decode cc pc = .ok (.invokevirtual index, 3))
    (kk : W p l e (gR G hs f0 lo0) s m args below meth c H locs cells slots Q (F0 m (pc + 3) ls (zr (aM h) :: rest))) : W p l e (gR G hs f0 lo0) s m args below meth c H locs cells slots Q (F0 m pc ls (zr a :: rest)) := by
  obtain ⟨hx, hb, hml, hown, hts, hT, hK, rs, -⟩ := C
  have hM : aM h = gM G := hR.2.2.2.2.2.2.2.2.2.2.2
  have h1 := hK.2.2.2.2.2.2.2.2.2.1
  have h2 := hK.2.2.2.2.2.2.2.2.2.2.1
  rw [hM, zr_p h2] at kk
  rw [zr_p (hR.nz (by omega))]
  obtain ⟨cell, q1, q2, q3, q4, q5, q6⟩ := hR.ar (t := 6) (by omega) hka
  have hRA : va_RA s (gA G 6) (.object "java/lang/Object") := (hK.1.2 6 _ (gT_at G (t := 6) (by omega))).2
  have hvs : cell.vm.isStatics = false := by
    cases hv : cell.vm with
    | statics k => exact absurd hv (q3 k)
    | _ => rfl
  exact va_getC hx hb (hml.trans hls.symm) hown w1 (va_any rfl (hK.face (KW_t 1011 (by decide +kernel) (by decide +kernel)))) w3 w4 w5 h1 ⟨cell, q1, hvs, by rw [q2]; exact va_nmO hRA rfl⟩ hframes hlocals hdg kk
theorem r_mmax {x y : Int32} (C : Cx G hs p s m args meth c cc nL own Ts ret nm) (hR : Rp G h H) (w1 : (Cond.methodLink own index Lib.Math.max.name).before args s = true) (w2 : (Cond.static Lib.Math.max.name).before args s = true) (w3 : (Cond.initialized "java/lang/Math").before args s = true) (w4 : (Cond.code Lib.Math.max.name Lib.Math.max.code 2 (some .int)).before args s = true)
    (hls : ls.size = nL) (hframes : 1 ≤ f0) (hlocals : (rest.map fun v => v.category).sum + 13 ≤ lo0) (hdg : decode cc pc = .ok (.invokestatic index, 3))
    (kk : ∀ c1 s1 : Nat, W p l e (gR G hs f0 lo0) s m args below meth c H locs c1 s1 Q (F0 m (pc + 3) ls (.int (if x < y then y else x) :: rest))) : W p l e (gR G hs f0 lo0) s m args below meth c H locs cells slots Q (F0 m pc ls (.int y :: .int x :: rest)) := by
  obtain ⟨hx, hb, hml, hown, hts, hT, hK, rs, -⟩ := C
  refine W_ex rs hR fun hz hu => ?_
  have h1 := hR.2.2.2.2.2.2.2.1
  have h2 := hR.2.2.2.2.2.2.2.2.1
  exact va_mmax hx hb (hml.trans hls.symm) hown w1 w2 w3 w4 hframes hlocals (by show _ ≤ gC G - aZ hs; omega) (by show _ ≤ gS - aU hs; omega) hdg (kk _ _)
theorem r_mmin {x y : Int32} (C : Cx G hs p s m args meth c cc nL own Ts ret nm) (hR : Rp G h H) (w1 : (Cond.methodLink own index Lib.Math.min.name).before args s = true) (w2 : (Cond.static Lib.Math.min.name).before args s = true) (w3 : (Cond.initialized "java/lang/Math").before args s = true) (w4 : (Cond.code Lib.Math.min.name Lib.Math.min.code 2 (some .int)).before args s = true)
    (hls : ls.size = nL) (hframes : 1 ≤ f0) (hlocals : (rest.map fun v => v.category).sum + 13 ≤ lo0) (hdg : decode cc pc = .ok (.invokestatic index, 3))
    (kk : ∀ c1 s1 : Nat, W p l e (gR G hs f0 lo0) s m args below meth c H locs c1 s1 Q (F0 m (pc + 3) ls (.int (if y < x then y else x) :: rest))) : W p l e (gR G hs f0 lo0) s m args below meth c H locs cells slots Q (F0 m pc ls (.int y :: .int x :: rest)) := by
  obtain ⟨hx, hb, hml, hown, hts, hT, hK, rs, -⟩ := C
  refine W_ex rs hR fun hz hu => ?_
  have h1 := hR.2.2.2.2.2.2.2.1
  have h2 := hR.2.2.2.2.2.2.2.2.1
  exact va_mmin hx hb (hml.trans hls.symm) hown w1 w2 w3 w4 hframes hlocals (by show _ ≤ gC G - aZ hs; omega) (by show _ ≤ gS - aU hs; omega) hdg (kk _ _)
/-! System.arraycopy -/
abbrev okCp (h : AH) (K s sp d dp n : Nat) : Prop := (aK h s = K ∧ aK h d = K) ∧ (0 < aN h s ∧ 0 < aN h d) ∧ sp + n ≤ aN h s ∧ dp + n ≤ aN h d
theorem copied_get {h h' : AH} {G : GG} {t sa d sp dp n : Nat} {cs cd : Cell} (q5 : cs.slots.size = aN h sa) (q6 : ∀ k, k < aN h sa → cs.slots[k]? = some (vl (aty t) (aI h sa k) (aR h sa k) (aL h sa k))) (p5 : cd.slots.size = aN h d) (p6 : ∀ k, k < aN h d → cd.slots[k]? = some (vl (aty t) (aI h d k) (aR h d k) (aL h d k)))
    (h1 : sp + n ≤ aN h sa) (h2 : dp + n ≤ aN h d) (hin : ∀ k, dp ≤ k → k < dp + n → vl (aty t) (aI h' d k) (aR h' d k) (aL h' d k) = vl (aty t) (aI h sa (sp + (k - dp))) (aR h sa (sp + (k - dp))) (aL h sa (sp + (k - dp)))) (hout : ∀ k, ¬ (dp ≤ k ∧ k < dp + n) → vl (aty t) (aI h' d k) (aR h' d k) (aL h' d k) = vl (aty t) (aI h d k) (aR h d k) (aL h d k)) :
    ∀ k, k < aN h d → (cd.storeRun dp (cs.stretch sp n)).slots[k]? = some (vl (aty t) (aI h' d k) (aR h' d k) (aL h' d k)) := by
  intro k hk
  have hlen : (cs.stretch sp n).length = n := by simp [Cell.stretch]
  rw [Cell.storeRun_get _ _ _ _ (by rw [hlen, p5]; exact h2), hlen]
  by_cases hr : dp ≤ k ∧ k < dp + n
  · rw [if_pos hr, hin k hr.1 hr.2]
    unfold Cell.stretch
    rw [List.getElem?_map, List.getElem?_range (by omega), Option.map_some, Array.getD_eq_getD_getElem?, q6 _ (by omega)]
    rfl
  · rw [if_neg hr, hout k hr]
    exact p6 k hk
theorem Rp.copy {h' : AH} {H' : Heap} {t sa d sp dp n : Nat} {cs cd : Cell} (hR : Rp G h H) (ht : t < 7) (hkd : aK h d = 20 + t) (hnd : 0 < aN h d) (q5 : cs.slots.size = aN h sa) (q6 : ∀ k, k < aN h sa → cs.slots[k]? = some (vl (aty t) (aI h sa k) (aR h sa k) (aL h sa k)))
    (p1 : H[d - 1]? = some cd) (p2 : cd.cls = gA G t) (p3 : ∀ k, cd.vm ≠ .statics k) (p4 : 0 < aN h d → cd.vm = .none) (p5 : cd.slots.size = aN h d) (p6 : ∀ k, k < aN h d → cd.slots[k]? = some (vl (aty t) (aI h d k) (aR h d k) (aL h d k)))
    (h1 : sp + n ≤ aN h sa) (h2 : dp + n ≤ aN h d) (hin : ∀ k, dp ≤ k → k < dp + n → vl (aty t) (aI h' d k) (aR h' d k) (aL h' d k) = vl (aty t) (aI h sa (sp + (k - dp))) (aR h sa (sp + (k - dp))) (aL h sa (sp + (k - dp)))) (hout : ∀ k, ¬ (dp ≤ k ∧ k < dp + n) → vl (aty t) (aI h' d k) (aR h' d k) (aL h' d k) = vl (aty t) (aI h d k) (aR h d k) (aL h d k))
    (e1 : H'[d - 1]? = some (cd.storeRun dp (cs.stretch sp n))) (e2 : H'.size = H.size) (e3 : ∀ q, q ≠ d - 1 → H'[q]? = H[q]?)
    (eK : aK h' = aK h) (eN : aN h' = aN h) (eZ : aZ h' = aZ h) (eU : aU h' = aU h) (eI : ∀ q, q ≠ d → aI h' q = aI h q) (eR : ∀ q, q ≠ d → aR h' q = aR h q) (eL : ∀ q, q ≠ d → aL h' q = aL h q) (eE : aE h' = aE h) (eC : aC h' = aC h) (eM : aM h' = aM h) : Rp G h' H' := by
  have hB : gB G < d := hR.hi (by omega) (by omega)
  obtain ⟨f1, f2, f3, -, -⟩ := Cell.storeRun_facts cd dp (cs.stretch sp n)
  refine hR.set hB e2 e3 p1 e1 f3 eK eN eZ eU eI eR eL eE eC eM ⟨fun ci' r hr hk' => ?_, fun t' ht' hk' => ?_⟩
  · have := vwCl_lt hr
    rw [eK, hkd] at hk'
    omega
  · rw [eK, hkd] at hk'
    have hci : t' = t := by omega
    subst hci
    refine ⟨_, e1, by rw [f1]; exact p2, by rw [f2]; exact p3, by rw [eN, f2]; exact p4, by rw [f3, eN]; exact p5, fun j hj => ?_⟩
    rw [eN] at hj
    exact copied_get (G := G) q5 q6 p5 p6 h1 h2 hin hout j hj
theorem r_copy {t sa d : Nat} {sp dp nn : Int32} (ht : t < 7) (h' : AH) (C : Cx G hs p s m args meth c cc nL own Ts ret nm) (hR : Rp G h H) (hL : ∀ q ∈ locs, gB G ≤ q.base) (h0 : 0 ≤ sp ∧ 0 ≤ dp ∧ 0 ≤ nn) (hk : okCp h (20 + t) sa sp.toNatClampNeg d dp.toNatClampNeg nn.toNatClampNeg)
    (hel : ∀ (vm' : Vm) (T : State), T.heap = H → s.vm.Alike vm' → ∀ (kd : Class) (comp : ClassId), s.vm.classes[gA G t]? = some kd → kd.kind = .array comp (aty t) → ∀ i, i < nn.toNatClampNeg → fits (aty t) (vl (aty t) (aI h sa (sp.toNatClampNeg + i)) (aR h sa (sp.toNatClampNeg + i)) (aL h sa (sp.toNatClampNeg + i))) = true ∧ (T.setVm vm').takes comp (vl (aty t) (aI h sa (sp.toNatClampNeg + i)) (aR h sa (sp.toNatClampNeg + i)) (aL h sa (sp.toNatClampNeg + i))))
    (hin : ∀ k, dp.toNatClampNeg ≤ k → k < dp.toNatClampNeg + nn.toNatClampNeg → vl (aty t) (aI h' d k) (aR h' d k) (aL h' d k) = vl (aty t) (aI h sa (sp.toNatClampNeg + (k - dp.toNatClampNeg))) (aR h sa (sp.toNatClampNeg + (k - dp.toNatClampNeg))) (aL h sa (sp.toNatClampNeg + (k - dp.toNatClampNeg)))) (hout : ∀ k, ¬ (dp.toNatClampNeg ≤ k ∧ k < dp.toNatClampNeg + nn.toNatClampNeg) → vl (aty t) (aI h' d k) (aR h' d k) (aL h' d k) = vl (aty t) (aI h d k) (aR h d k) (aL h d k))
    (eK : aK h' = aK h) (eN : aN h' = aN h) (eZ : aZ h' = aZ h) (eU : aU h' = aU h) (eI : ∀ q, q ≠ d → aI h' q = aI h q) (eR : ∀ q, q ≠ d → aR h' q = aR h q) (eL : ∀ q, q ≠ d → aL h' q = aL h q) (eE : aE h' = aE h) (eC : aC h' = aC h) (eM : aM h' = aM h)
    (w1 : (Cond.methodLink own index arraycopyName).before args s = true) (w2 : (Cond.native arraycopyName).before args s = true) (w3 : (Cond.static arraycopyName).before args s = true) (w4 : (Cond.initialized "java/lang/System").before args s = true)
    (hls : ls.size = nL) (hframes : 1 ≤ f0) (hlocals : (rest.map fun v => v.category).sum + (nativeFrameWords "java/lang/System" "arraycopy" 5 + 11) ≤ lo0) (hdg : decode cc pc = .ok (.invokestatic index, 3))
    (kk : ∀ (H1 : Heap) (locs1 : List Loc), Rp G h' H1 → (∀ q ∈ locs1, gB G ≤ q.base) → W p l e (gR G hs f0 lo0) s m args below meth c H1 locs1 cells slots Q (F0 m (pc + 3) ls rest)) : W p l e (gR G hs f0 lo0) s m args below meth c H locs cells slots Q (F0 m pc ls (.int nn :: .int dp :: zr d :: .int sp :: zr sa :: rest)) := by
  obtain ⟨hx, hb, hml, hown, hts, hT, hK, rs, -⟩ := C
  obtain ⟨⟨k1, k2⟩, ⟨k3, k4⟩, k5, k6⟩ := hk
  rw [zr_p (r := sa) (hR.nz (by omega)), zr_p (r := d) (hR.nz (by omega))]
  obtain ⟨cs, q1, q2, q3, q4, q5, q6⟩ := hR.ar (t := t) ht k1
  obtain ⟨cd, p1, p2, p3, p4, p5, p6⟩ := hR.ar (t := t) ht k2
  have hB : gB G < d := hR.hi (by omega) (by omega)
  obtain ⟨-, ks, hks, cm0, hkk0⟩ := hK.arr ht q2 q3
  obtain ⟨-, kd, hkd, cm1, hkk1⟩ := hK.arr ht p2 p3
  intro T hTH X
  obtain ⟨vm', X', step⟩ := X.arraycopy hx hown w1 w2 w3 w4 (src := sa - 1) (dst := d - 1) (cs := cs) (cd := cd) (srcPos := sp) (destPos := dp) (n := nn) (by rw [hTH]; exact q1) (by rw [hTH]; exact p1)
    q3 p3 (by rw [q4 k3]; exact fun h => by cases h) (by rw [p4 k4]; exact fun h => by cases h) hks hkd hkk0 hkk1 (by simp) (Int32.not_lt.mpr h0.1) (Int32.not_lt.mpr h0.2.1) (Int32.not_lt.mpr h0.2.2)
    (by rw [zn_int sp h0.1, zn_int nn h0.2.2, q5]; omega) (by rw [zn_int dp h0.2.1, zn_int nn h0.2.2, p5]; omega)
    (fun vm₁ hal i hi => by
      have e : cs.slots.getD (sp.toNatClampNeg + i) .null = vl (aty t) (aI h sa (sp.toNatClampNeg + i)) (aR h sa (sp.toNatClampNeg + i)) (aL h sa (sp.toNatClampNeg + i)) := by
        rw [Array.getD_eq_getD_getElem?, q6 _ (by omega)]
        rfl
      rw [e]
      exact hel vm₁ T hTH hal kd cm1 (by rw [← p2]; exact hkd) hkk1 i hi)
    (g := F0 m pc ls (.int nn :: .int dp :: .ref (d - 1) :: .int sp :: .ref (sa - 1) :: rest)) rfl (by rw [hml]; exact hls) (rest := rest) rfl (by rw [hb]; exact hdg) hframes (by show 2 * 0 + _ + _ ≤ lo0; omega)
  have hl : d - 1 < H.size := (Array.getElem?_eq_some_iff.mp p1).1
  obtain ⟨cc', hcc⟩ : ∃ z, z = copied cs cd sp dp nn := ⟨_, rfl⟩
  rw [← hcc] at X' step
  have hheap : ((T.setVm vm').setCell (d - 1) cc').heap = H.setIfInBounds (d - 1) cc' := by rw [← hTH]; rfl
  obtain ⟨t2, a1, b1⟩ := kk (H.setIfInBounds (d - 1) cc') _ (hR.copy ht k2 k4 q5 q6 p1 p2 p3 p4 p5 p6 k5 k6 hin hout (by rw [show cd.storeRun dp.toNatClampNeg (cs.stretch sp.toNatClampNeg nn.toNatClampNeg) = cc' from hcc.symm]; simp [Array.getElem?_setIfInBounds, hl]) (by simp) (fun q hq => by simp [Array.getElem?_setIfInBounds, Ne.symm hq]) eK eN eZ eU eI eR eL eE eC eM) (fun q hq => by
      rcases List.mem_append.mp hq with h | h
      · exact hL q h
      · obtain ⟨z, -, hz⟩ := List.mem_map.mp h
        rw [← hz]
        show gB G ≤ d - 1
        omega) _ hheap X'
  exact ⟨t2, step t2 a1, b1⟩
theorem r_copyI {sa d : Nat} {sp dp nn : Int32} (C : Cx G hs p s m args meth c cc nL own Ts ret nm) (hR : Rp G h H) (hL : ∀ q ∈ locs, gB G ≤ q.base) (hk : (0 ≤ sp ∧ 0 ≤ dp ∧ 0 ≤ nn) ∧ okCp h 20 sa sp.toNatClampNeg d dp.toNatClampNeg nn.toNatClampNeg)
    (w1 : (Cond.methodLink own index arraycopyName).before args s = true) (w2 : (Cond.native arraycopyName).before args s = true) (w3 : (Cond.static arraycopyName).before args s = true) (w4 : (Cond.initialized "java/lang/System").before args s = true)
    (hls : ls.size = nL) (hframes : 1 ≤ f0) (hrest : (rest.map fun v => v.category).sum ≤ 8) (hlo : 8 + (nativeFrameWords "java/lang/System" "arraycopy" 5 + 11) ≤ lo0) (hdg : decode cc pc = .ok (.invokestatic index, 3))
    (kk : ∀ (H1 : Heap) (locs1 : List Loc), Rp G (uCI h sa sp.toNatClampNeg d dp.toNatClampNeg nn.toNatClampNeg) H1 → (∀ q ∈ locs1, gB G ≤ q.base) → W p l e (gR G hs f0 lo0) s m args below meth c H1 locs1 cells slots Q (F0 m (pc + 3) ls rest)) : W p l e (gR G hs f0 lo0) s m args below meth c H locs cells slots Q (F0 m pc ls (.int nn :: .int dp :: zr d :: .int sp :: zr sa :: rest)) := by
  refine r_copy (t := 0) (by decide) (uCI h sa sp.toNatClampNeg d dp.toNatClampNeg nn.toNatClampNeg) C hR hL hk.1 hk.2 (fun _ _ _ _ _ _ _ _ _ _ => ⟨rfl, trivial⟩) (fun k h1 h2 => ?_) (fun k h1 => ?_) rfl rfl rfl rfl (fun q hq => funext fun j => if_neg (fun z => hq z.1)) (fun _ _ => rfl) (fun _ _ => rfl) rfl rfl rfl w1 w2 w3 w4 hls hframes (by omega) hdg kk
  · exact congrArg Value.int (if_pos ⟨rfl, h1, h2⟩)
  · exact congrArg Value.int (if_neg (fun z => h1 z.2))
theorem r_copyR {sa d : Nat} {sp dp nn : Int32} (C : Cx G hs p s m args meth c cc nL own Ts ret nm) (hR : Rp G h H) (hL : ∀ q ∈ locs, gB G ≤ q.base) (hk : (0 ≤ sp ∧ 0 ≤ dp ∧ 0 ≤ nn) ∧ okCp h 26 sa sp.toNatClampNeg d dp.toNatClampNeg nn.toNatClampNeg) (hel : okEl h sa sp.toNatClampNeg nn.toNatClampNeg)
    (w1 : (Cond.methodLink own index arraycopyName).before args s = true) (w2 : (Cond.native arraycopyName).before args s = true) (w3 : (Cond.static arraycopyName).before args s = true) (w4 : (Cond.initialized "java/lang/System").before args s = true)
    (hls : ls.size = nL) (hframes : 1 ≤ f0) (hrest : (rest.map fun v => v.category).sum ≤ 8) (hlo : 8 + (nativeFrameWords "java/lang/System" "arraycopy" 5 + 11) ≤ lo0) (hdg : decode cc pc = .ok (.invokestatic index, 3))
    (kk : ∀ (H1 : Heap) (locs1 : List Loc), Rp G (uCR h sa sp.toNatClampNeg d dp.toNatClampNeg nn.toNatClampNeg) H1 → (∀ q ∈ locs1, gB G ≤ q.base) → W p l e (gR G hs f0 lo0) s m args below meth c H1 locs1 cells slots Q (F0 m (pc + 3) ls rest)) : W p l e (gR G hs f0 lo0) s m args below meth c H locs cells slots Q (F0 m pc ls (.int nn :: .int dp :: zr d :: .int sp :: zr sa :: rest)) := by
  have hK := C.2.2.2.2.2.2.1
  refine r_copy (t := 6) (by decide) (uCR h sa sp.toNatClampNeg d dp.toNatClampNeg nn.toNatClampNeg) C hR hL hk.1 hk.2 (fun vm₁ T hTH hal kd comp hkd hkk i hi => ?_) (fun k h1 h2 => ?_) (fun k h1 => ?_) rfl rfl rfl rfl (fun _ _ => rfl) (fun q hq => funext fun j => if_neg (fun z => hq z.1)) (fun _ _ => rfl) rfl rfl rfl w1 w2 w3 w4 hls hframes (by omega) hdg kk
  · refine ⟨zr_fitsO _ _, ?_⟩
    show (T.setVm vm₁).takes comp (zr (aR h sa (sp.toNatClampNeg + i)))
    rcases hel i hi with hz | hz
    · rw [hz]; exact trivial
    · obtain ⟨ci, r, hc, hkv⟩ := vwCl_of hz
      obtain ⟨cellV, g1, g2, g3⟩ := r_recv hK hR hc hkv
      rw [zr_p (hR.nz (by omega))]
      have hRA : va_RA s (gA G 6) (.object "java/lang/Object") := (hK.1.2 6 _ (gT_at G (t := 6) (by omega))).2
      obtain ⟨kA, comp', r1, r2, r3, -⟩ := hRA
      cases hkd.symm.trans r1
      cases hkk.symm.trans r2
      obtain ⟨c0, t1, f1, f2, f3⟩ := Cond.castable_spec (va_Nw.use (A := args) rfl (kw_obj hK hc))
      cases g3.symm.trans f1
      cases r3.symm.trans f2
      obtain ⟨kC, hkC, -⟩ := Vm.findClass_spec g3
      obtain ⟨kE, hkE, -⟩ := Vm.findClass_spec r3
      obtain ⟨kC', hkC', -⟩ := hal.2.2 _ _ hkC
      obtain ⟨kE', hkE', -⟩ := hal.2.2 _ _ hkE
      refine ⟨cellV, (show T.heap[_]? = some cellV by rw [hTH]; exact g1), (fun q h => by rw [h] at g2; cases g2), ⟨kC', hkC'⟩, ⟨kE', hkE'⟩, ?_⟩
      show vm₁.assignable _ _ = true
      rw [hal.assignable]
      exact f3
  · exact congrArg zr (if_pos ⟨rfl, h1, h2⟩)
  · exact congrArg zr (if_neg (fun z => h1 z.2))
/-! calls by java/util/List -/
theorem r_callF {ci : Nat} {r : vw_C} {x : MethodName} {count : Nat} (C : Cx G hs p s m args meth c cc nL own Ts ret nm) (hM : Ct l y (.code y bytes maxL ret' :: MW) G f lo (.ref (b - 1) :: As) h rt h') (hR : Rp G h H) (hL : ∀ q ∈ locs, gB G ≤ q.base) (hc : vwCl[ci]? = some r) (hk : aK h b = ci + 1)
    (w1 : Cond.methodLink own index x ∈ MW) (w2 : Cond.selects r.1 x y ∈ MW) (w3 : Cond.instanceMethod y ∈ MW) (w4 : Cond.initialized y.cls ∈ MW) (w5 : Cond.code y bytes maxL ret' ∈ MW) (hF : va_Fw r.1 x y s)
    (hd : x.cls ≠ "java/lang/invoke/MethodHandle" ∧ x.cls ≠ "java/lang/invoke/VarHandle" ∧ (parseMethodDescriptor x.desc).map (fun d => d.parameters.length) = some n) (hroom : f + 1 ≤ f0 ∧ 8 + (maxL + 11) + lo ≤ lo0) (hn : As.length = n) (hls : ls.size = nL) (hst : st = As.reverse ++ zr b :: rest) (hrest : (rest.map fun v => v.category).sum ≤ 8) {st2 : List Value} (hdg : decode cc pc = .ok (.invokeinterface index count, 5)) (hst2 : rt.toList ++ rest = st2)
    (kk : ∀ (H1 : Heap) (locs1 : List Loc) (c1 s1 : Nat), Rp G h' H1 → (∀ q ∈ locs1, gB G ≤ q.base) → W p l e (gR G hs f0 lo0) s m args below meth c H1 locs1 c1 s1 Q (F0 m (pc + 5) ls st2)) : W p l e (gR G hs f0 lo0) s m args below meth c H locs cells slots Q (F0 m pc ls st) := by
  subst hst2
  obtain ⟨hx, hb, hml, hown, hts, hT, hK, rs, -⟩ := C
  rw [zr_p (hR.nz (by omega))] at hst
  subst hst
  refine W_ex rs hR fun hz hu => ?_
  have hr := va_runF (l := l) (p := p) (e := e) (below := below) (meth := meth) (locs := locs) (cells := aZ h - aZ hs) (slots := aU h - aU hs) (R := gR G hs f0 lo0) (C := r.1) (As := As) (rest := rest) (g := F0 m pc ls (As.reverse ++ .ref (b - 1) :: rest)) (hK.1.1 ci r hc).2 ⟨hx, hb, hml, hown, hts⟩ hM (va_cwF n hts (g_F hT w1 w2 w3 w4 w5) rfl rfl rfl hF hd hroom) ⟨Pcc_blind, r_recv hK hR hc hk, Pcc_at hK hR _⟩ rfl hn hls rfl (lv_room hrest) hdg (r_fit (R := gR G hs f0 lo0) rs hR hz hu)
  intro T hTH X
  obtain ⟨v, st₀, t, T', L, h0, X', hL', e1, e2, ⟨hv, hq⟩, stp⟩ := hr T hTH X
  cases hv
  obtain ⟨t2, a1, b1⟩ := kk T'.heap (locs ++ L) _ _ (by rw [e1]; exact hq) (fun q hq => by
    rcases List.mem_append.mp hq with h | h
    · exact hL q h
    · exact hL' q h) T' rfl X'
  exact ⟨t2, stp t2 a1, b1⟩
end JD
theorem fw_size {G : GG} {s : State} (hK : Kk G s) : va_Fw RJx4a65c ⟨"java/util/List", "size", "()I"⟩ yJx4a65c_size_8abf5 s := ⟨(hK.face (KW_t 212 (by decide +kernel) (by decide +kernel))), (hK.face (KW_t 211 (by decide +kernel) (by decide +kernel))), (hK.face (KW_t 217 (by decide +kernel) (by decide +kernel))), (hK.face (KW_t 215 (by decide +kernel) (by decide +kernel))), (hK.face (KW_t 213 (by decide +kernel) (by decide +kernel)))⟩
theorem fw_get {G : GG} {s : State} (hK : Kk G s) : va_Fw RJx4a65c ⟨"java/util/List", "get", "(I)Ljava/lang/Object;"⟩ yJx4a65c_get_915e3 s := ⟨(hK.face (KW_t 222 (by decide +kernel) (by decide +kernel))), (hK.face (KW_t 221 (by decide +kernel) (by decide +kernel))), (hK.face (KW_t 226 (by decide +kernel) (by decide +kernel))), (hK.face (KW_t 224 (by decide +kernel) (by decide +kernel))), (hK.face (KW_t 213 (by decide +kernel) (by decide +kernel)))⟩
theorem fw_add {G : GG} {s : State} (hK : Kk G s) : va_Fw RJx4a65c ⟨"java/util/List", "add", "(Ljava/lang/Object;)Z"⟩ yJx4a65c_add_9ea2d s := ⟨(hK.face (KW_t 483 (by decide +kernel) (by decide +kernel))), (hK.face (KW_t 482 (by decide +kernel) (by decide +kernel))), (hK.face (KW_t 487 (by decide +kernel) (by decide +kernel))), (hK.face (KW_t 485 (by decide +kernel) (by decide +kernel))), (hK.face (KW_t 213 (by decide +kernel) (by decide +kernel)))⟩
theorem fw_remove {G : GG} {s : State} (hK : Kk G s) : va_Fw RJx4a65c ⟨"java/util/List", "remove", "(I)Ljava/lang/Object;"⟩ yJx4a65c_remove_915e3 s := ⟨(hK.face (KW_t 254 (by decide +kernel) (by decide +kernel))), (hK.face (KW_t 253 (by decide +kernel) (by decide +kernel))), (hK.face (KW_t 258 (by decide +kernel) (by decide +kernel))), (hK.face (KW_t 256 (by decide +kernel) (by decide +kernel))), (hK.face (KW_t 213 (by decide +kernel) (by decide +kernel)))⟩
