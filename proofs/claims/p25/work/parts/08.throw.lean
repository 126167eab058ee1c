/-! ===== methods that throw ===== -/
def exN : Nat → String
  | 1 => "java/lang/IndexOutOfBoundsException"
  | 2 => "java/lang/IllegalArgumentException"
  | _ => "java/lang/IllegalStateException"
def Qxx {α : Type} (G : GG) (fv : α → Option Value) (r : Except Nat α) (h' : AH) : Array Value → State → Outcome → State → Prop := fun _ _ o t => ∃ x : α, r = .ok x ∧ o = .returned (fv x) ∧ Rp G h' t.heap
def Xxx {α : Type} (G : GG) (r : Except Nat α) (h' : AH) : String → State → State → Prop := fun E _ t => ∃ e0 : Nat, r = .error e0 ∧ E = exN e0 ∧ Rp G h' t.heap
def Cxt {α : Type} (l : Launch) (y : MethodName) (ws : List Cond) (G : GG) (f lo : Nat) (av : List Value) (h : AH) (fv : α → Option Value) (r : Except Nat α) (h' : AH) : Prop := vx_Met l y ws (gR G h f lo) (Pcc G av h) (Qxx G fv r h') (Xxx G r h') (gC G - aZ h) (gS - aU h) (fun q => gB G ≤ q)
theorem bX_i {α β : Type} {x : Option (Except Nat α × AH)} {d : β} {f : α → AH → Option (Except Nat β × AH)} {r : Except Nat β} {h' : AH} (h : bX d x f = some (r, h')) : (∃ (a : α) (h1 : AH), x = some (.ok a, h1) ∧ f a h1 = some (r, h')) ∨ ∃ e : Nat, x = some (.error e, h') ∧ r = .error e := by
  match x, h with
  | some (.ok a, h1), h => exact Or.inl ⟨a, h1, rfl, h⟩
  | some (.error e, h1), h =>
    have h2 : some ((.error e : Except Nat β), h1) = some (r, h') := h
    cases h2
    exact Or.inr ⟨e, rfl, rfl⟩
def bC {α β : Type} (x : Option (Except Nat α × AH)) (f : α → AH → Option β) (g : Nat → AH → Option β) : Option β := match x with
  | none => none
  | some (.ok r, h) => f r h
  | some (.error e, h) => g e h
theorem bC_i {α β : Type} {x : Option (Except Nat α × AH)} {f : α → AH → Option β} {g : Nat → AH → Option β} {y : β} (h : bC x f g = some y) : (∃ (a : α) (h1 : AH), x = some (.ok a, h1) ∧ f a h1 = some y) ∨ ∃ (e : Nat) (h1 : AH), x = some (.error e, h1) ∧ g e h1 = some y := by
  match x, h with
  | some (.ok a, h1), h => exact Or.inl ⟨a, h1, rfl, h⟩
  | some (.error e, h1), h => exact Or.inr ⟨e, h1, rfl, h⟩
theorem Cxt.of {α : Type} {l : Launch} {y : MethodName} {cc : ByteArray} {n f lo : Nat} {ret : Option FieldType} {G : GG} {av : List Value} {h h' : AH} {fv : α → Option Value} {r : Except Nat α} (hy : plainName y.cls = true) (hlen : (lg_sl av).length ≤ n)
    (body : ∀ (p : Program) (e : Env) (s : State) (m : MethodId) (args : Array Value) (below : List Frame) (meth : Method) (c : Code), Cx G h p s m args meth c cc n y.cls (.code y cc n ret :: MW) ret y.name → (∀ x ∈ c.exceptionTable.toList, False) → Rp G h s.heap → ∀ ls, lv_has ls n (lv_args 0 av) →
      W p l e (gR G h f lo) s m args below meth c s.heap [] 0 0 (vx_MQ below (Qxx G fv r h') (Xxx G r h') args s (gC G - aZ h) (gS - aU h) (fun q => gB G ≤ q)) (F0 m 0 ls [])) : Cxt l y (.code y cc n ret :: MW) G f lo av h fv r h' := by
  refine vx_ofW (cc := cc) (maxL := n) (ret := ret) hy rfl ?_
  intro p e s m args below meth c s₁ B hml htb hv
  obtain ⟨rfl, hr, hk⟩ := hv
  rw [lg_entry_eq]
  exact body p e s m _ below meth c ⟨B.exec, B.bytes, hml, findClass_of_methodNamed B.named, atoms_spec (ws := .code y cc n ret :: MW) B.pre, fun w hw => List.mem_cons_of_mem _ hw, hk, hr, B.notSynchronized, B.returns, (name_of_methodNamed B.named B.method).1⟩ htb hr _ (lv_entry av hlen)
section TH
variable {p : Program} {l : Launch} {e : Env} {s : State} {m : MethodId} {args : Array Value} {below : List Frame} {meth : Method} {c : Code} {H : Heap} {locs : List Loc} {cells slots : Nat} {Q : State → Prop}
variable {cc bytes : ByteArray} {pc nL f lo f0 lo0 n maxL index : Nat} {ls : Array Slot} {rest As st : List Value} {G : GG} {hs h h' h1 : AH} {a b : Nat} {own nm : String} {Ts : List Cond} {ret ret' : Option FieldType} {rt : Option Value} {y : MethodName} {α β : Type}
theorem vxW_ex {g : JFrame} {q : Addr} {R : Room} (rs : Rp G hs s.heap) (r : Rp G h H) (k : aZ hs ≤ aZ h → aU hs ≤ aU h → vx_W p l e R s m args below meth c H locs (aZ h - aZ hs) (aU h - aU hs) Q g q) : vx_W p l e R s m args below meth c H locs cells slots Q g q := by
  intro T hT X
  have r' : Rp G h (T.setVm s.vm).heap := by
    have e0 : (T.setVm s.vm).heap = T.heap := rfl
    rw [e0, hT]; exact r
  have X2 := same_exact rs r' X.same
  have hz : aZ hs ≤ aZ h := by
    have h1 := rs.size; have h2 := r'.size; have h3 := X.same.2.1
    omega
  have hu : aU hs ≤ aU h := by
    have e := ss_split (b := gB G) (Hs := s.heap) (H := (T.setVm s.vm).heap) (by have := rs.size; have := rs.2.1; omega) X.same.2.1 (fun q hq => ?_)
    · have h1 := rs.2.2.2.2.2.2.1; have h2 := r'.2.2.2.2.2.2.1
      omega
    · obtain ⟨c', e1, e2, e3, -⟩ := X.same.2.2.2.2.2 q _ (Array.getElem?_eq_getElem hq)
      rw [e1, Array.getElem?_eq_getElem hq, Option.map_some, Option.map_some, e3]
  exact k hz hu T hT { X with same := X2 }
theorem r_out {fv : α → Option Value} {e0 : Nat} {q : Addr} {ce : Cell} (C : Cx G hs p s m args meth c cc nL own Ts ret nm) (htb : ∀ x ∈ c.exceptionTable.toList, False) (hR : Rp G h H) (hL : ∀ q ∈ locs, gB G ≤ q.base) (hcell : H[q]? = some ce) (hv : ce.vm = .none) (hcl : s.vm.findClass (exN e0) = some ce.cls) :
    vx_W p l e (gR G hs f0 lo0) s m args below meth c H locs cells slots (vx_MQ below (Qxx G fv (.error e0) h) (Xxx G (.error e0 : Except Nat α) h) args s (gC G - aZ hs) (gS - aU hs) (fun q => gB G ≤ q)) (F0 m pc ls rest) q := by
  obtain ⟨hx, hb, hml, hown, hts, hT, hK, rs, hlk, hr, -⟩ := C
  have h1 := hR.2.2.2.2.2.2.2.1
  have h2 := hR.2.2.2.2.2.2.2.2.1
  refine vxW_ex rs hR fun hz hu => ?_
  exact vx_out (fun x hx => absurd hx (fun z => htb x z)) hlk hcell hv hcl (fun t ht _ => ⟨e0, rfl, rfl, by rw [ht]; exact hR⟩) hL (by omega) (by omega)
theorem r_zretX {ty : FieldType} {v : Int32} (C : Cx G hs p s m args meth c cc nL own Ts (some ty) nm) (hR : Rp G h H) (hL : ∀ q ∈ locs, gB G ≤ q.base) (hn : narrow ty (.int v) = .int v) (hdg : decode cc pc = .ok (.ireturn, 1)) : W p l e (gR G hs f0 lo0) s m args below meth c H locs cells slots (vx_MQ below (Qxx G (fun x => some (.int x)) (.ok v) h) (Xxx G (.ok v) h) args s (gC G - aZ hs) (gS - aU hs) (fun q => gB G ≤ q)) (F0 m pc ls [.int v]) := by
  obtain ⟨hx, hb, hml, hown, hts, hT, hK, rs, hlk, hr, -⟩ := C
  have h1 := hR.2.2.2.2.2.2.2.1
  have h2 := hR.2.2.2.2.2.2.2.2.1
  refine W_ex rs hR fun hz hu => ?_
  refine W.widen (k := gC G - aZ hs) (n := gS - aU hs) (by omega) (by omega) ?_
  exact vx_ret (W.zret hx hb hr hn (fun t ht _ => ⟨v, rfl, rfl, by rw [ht]; exact hR⟩) hL hdg hlk)
theorem r_aretX {ty : FieldType} {v : Nat} (hty : (∃ n, ty = .object n) ∨ ∃ t, ty = .array t) (C : Cx G hs p s m args meth c cc nL own Ts (some ty) nm) (hR : Rp G h H) (hL : ∀ q ∈ locs, gB G ≤ q.base) (hdg : decode cc pc = .ok (.areturn, 1)) : W p l e (gR G hs f0 lo0) s m args below meth c H locs cells slots (vx_MQ below (Qxx G (fun x => some (zr x)) (.ok v) h) (Xxx G (.ok v) h) args s (gC G - aZ hs) (gS - aU hs) (fun q => gB G ≤ q)) (F0 m pc ls [zr v]) := by
  obtain ⟨hx, hb, hml, hown, hts, hT, hK, rs, hlk, hr, -⟩ := C
  have h1 := hR.2.2.2.2.2.2.2.1
  have h2 := hR.2.2.2.2.2.2.2.2.1
  refine W_ex rs hR fun hz hu => ?_
  refine W.widen (k := gC G - aZ hs) (n := gS - aU hs) (by omega) (by omega) ?_
  exact vx_ret (W.aret hx hb hr hty (by unfold zr; split; exact Or.inl rfl; exact Or.inr ⟨_, rfl⟩) (fun t ht _ => ⟨v, rfl, rfl, by rw [ht]; exact hR⟩) hL hdg hlk)
/-- a call that returns -/
theorem r_okRun {fv : α → Option Value} {x : α} (hR : Rp G h H) (hL : ∀ q ∈ locs, gB G ≤ q.base) {av : Array Value} {st0 : List Value} (hr : vx_Run p l e (gR G hs f0 lo0) s m args below meth c H locs cells slots (gC G - aZ h) (gS - aU h) (F0 m pc ls st0) rest (Qxx G fv (.ok x) h' av) (Xxx G (.ok x : Except Nat α) h') (fun q => gB G ≤ q))
    (kk : ∀ (H1 : Heap) (locs1 : List Loc) (c1 s1 : Nat), Rp G h' H1 → (∀ q ∈ locs1, gB G ≤ q.base) → W p l e (gR G hs f0 lo0) s m args below meth c H1 locs1 c1 s1 Q (F0 m (pc + 3) ls ((fv x).toList ++ rest))) : W p l e (gR G hs f0 lo0) s m args below meth c H locs cells slots Q (F0 m pc ls st0) := by
  intro T hT X
  rcases hr T hT X with ⟨v, st₀, t, T', L, h0, X', hL', e1, e2, ⟨x', hxx, hv, hq⟩, st⟩ | ⟨q, st₀, t, T', L, E, ce, h0, X', hL', e1, e2, ⟨e0, hx0, -⟩, -⟩
  · cases hxx
    cases hv
    obtain ⟨t2, a1, b1⟩ := kk T'.heap (locs ++ L) _ _ (by rw [e1]; exact hq) (fun q hq => by
      rcases List.mem_append.mp hq with h | h
      · exact hL q h
      · exact hL' q h) T' rfl X'
    exact ⟨t2, st t2 a1, b1⟩
  · cases hx0
/-- a call that throws -/
theorem r_exRun {fv : α → Option Value} {e0 : Nat} (hR : Rp G h H) (hL : ∀ q ∈ locs, gB G ≤ q.base) {av : Array Value} {st0 : List Value} (hr : vx_Run p l e (gR G hs f0 lo0) s m args below meth c H locs cells slots (gC G - aZ h) (gS - aU h) (F0 m pc ls st0) rest (Qxx G fv (.error e0) h' av) (Xxx G (.error e0 : Except Nat α) h') (fun q => gB G ≤ q))
    (kx : ∀ (q9 : Addr) (ce : Cell) (H1 : Heap) (locs1 : List Loc) (c1 s1 : Nat), Rp G h' H1 → (∀ q ∈ locs1, gB G ≤ q.base) → H1[q9]? = some ce → ce.vm = .none → s.vm.findClass (exN e0) = some ce.cls → vx_W p l e (gR G hs f0 lo0) s m args below meth c H1 locs1 c1 s1 Q (F0 m pc ls rest) q9) : W p l e (gR G hs f0 lo0) s m args below meth c H locs cells slots Q (F0 m pc ls st0) := by
  intro T hT X
  rcases hr T hT X with ⟨v, st₀, t, T', L, h0, X', hL', e1, e2, ⟨x', hxx, hv, hq⟩, st⟩ | ⟨q, st₀, t, T', L, E, ce, h0, X', hL', e1, e2, ⟨e1', hx0, hE, hq⟩, hce, hcv, hcl, st⟩
  · cases hxx
  · cases hx0
    subst hE
    obtain ⟨t2, a1, b1⟩ := kx q ce T'.heap (locs ++ L) _ _ (by rw [e1]; exact hq) (fun q hq => by
      rcases List.mem_append.mp hq with h | h
      · exact hL q h
      · exact hL' q h) (by rw [e1]; exact hce) hcv hcl T' rfl X'
    exact ⟨t2, st.trans a1, b1⟩
theorem r_runVX {fv : α → Option Value} {r0 : Except Nat α} {ci : Nat} {r : vw_C} (C : Cx G hs p s m args meth c cc nL own Ts ret nm) (hM : Cxt l y (.code y bytes maxL ret' :: MW) G f lo (.ref (b - 1) :: As) h fv r0 h') (hR : Rp G h H) (hc : vwCl[ci]? = some r) (hk : aK h b = ci + 1)
    (w1 : Cond.methodLink own index y ∈ MW) (w2 : Cond.instanceMethod y ∈ MW) (w3 : Cond.selects r.1 y y ∈ MW) (w4 : Cond.initialized r.1 ∈ MW) (w5 : Cond.code y bytes maxL ret' ∈ MW)
    (hd : y.cls = r.1 ∧ y.cls ≠ "java/lang/invoke/MethodHandle" ∧ y.cls ≠ "java/lang/invoke/VarHandle" ∧ (parseMethodDescriptor y.desc).map (fun d => d.parameters.length) = some n) (hroom : f + 1 ≤ f0 ∧ 8 + (maxL + 11) + lo ≤ lo0) (hn : As.length = n) (hls : ls.size = nL) (hst : st = As.reverse ++ zr b :: rest) (hrest : (rest.map fun v => v.category).sum ≤ 8) (hdg : decode cc pc = .ok (.invokevirtual index, 3))
    (kk : ∀ c1 s1 : Nat, vx_Run p l e (gR G hs f0 lo0) s m args below meth c H locs c1 s1 (gC G - aZ h) (gS - aU h) (F0 m pc ls st) rest (Qxx G fv r0 h' (Value.ref (b - 1) :: As).toArray) (Xxx G r0 h') (fun q => gB G ≤ q) → W p l e (gR G hs f0 lo0) s m args below meth c H locs c1 s1 Q (F0 m pc ls st)) : W p l e (gR G hs f0 lo0) s m args below meth c H locs cells slots Q (F0 m pc ls st) := by
  obtain ⟨hx, hb, hml, hown, hts, hT, hK, rs, -⟩ := C
  rw [zr_p (hR.nz (by omega))] at hst
  subst hst
  refine W_ex rs hR fun hz hu => kk _ _ ?_
  exact vx_runV (C := r.1) (As := As) (rest := rest) ⟨hx, hb, hml, hown, hts⟩ hM (cwV n hts (g_V hT w1 w2 w3 w4 w5) rfl rfl rfl hd hroom) ⟨Pcc_blind, r_recv hK hR hc hk, Pcc_at hK hR _⟩ rfl hn hls rfl (lv_room hrest) hdg (r_fit (R := gR G hs f0 lo0) rs hR hz hu)
theorem r_runSX {fv : α → Option Value} {r0 : Except Nat α} (C : Cx G hs p s m args meth c cc nL own Ts ret nm) (hM : Cxt l y (.code y bytes maxL ret' :: MW) G f lo As h fv r0 h') (hR : Rp G h H)
    (w1 : Cond.methodLink own index y ∈ MW) (w2 : Cond.static y ∈ MW) (w4 : Cond.initialized y.cls ∈ MW) (w5 : Cond.code y bytes maxL ret' ∈ MW)
    (hd : y.cls ≠ "java/lang/invoke/MethodHandle" ∧ y.cls ≠ "java/lang/invoke/VarHandle" ∧ (parseMethodDescriptor y.desc).map (fun d => d.parameters.length) = some n) (hroom : f + 1 ≤ f0 ∧ 8 + (maxL + 11) + lo ≤ lo0) (hn : As.length = n) (hls : ls.size = nL) (hst : st = As.reverse ++ rest) (hrest : (rest.map fun v => v.category).sum ≤ 8) (hdg : decode cc pc = .ok (.invokestatic index, 3))
    (kk : ∀ c1 s1 : Nat, vx_Run p l e (gR G hs f0 lo0) s m args below meth c H locs c1 s1 (gC G - aZ h) (gS - aU h) (F0 m pc ls st) rest (Qxx G fv r0 h' As.toArray) (Xxx G r0 h') (fun q => gB G ≤ q) → W p l e (gR G hs f0 lo0) s m args below meth c H locs c1 s1 Q (F0 m pc ls st)) : W p l e (gR G hs f0 lo0) s m args below meth c H locs cells slots Q (F0 m pc ls st) := by
  obtain ⟨hx, hb, hml, hown, hts, hT, hK, rs, -⟩ := C
  subst hst
  refine W_ex rs hR fun hz hu => kk _ _ ?_
  exact vx_runS (As := As) (rest := rest) ⟨hx, hb, hml, hown, hts⟩ hM (va_cwS n hts (g_S hT w1 w2 w4 w5) rfl rfl rfl hd hroom) ⟨Pcc_blind, Pcc_at hK hR _⟩ rfl hn hls rfl (lv_room hrest) hdg (r_fit (R := gR G hs f0 lo0) rs hR hz hu)
/-- throw new E("text"): one cell of six slots, of no kind -/
theorem r_throw {fv : α → Option Value} {e0 : Nat} {text : String} {names : List String} {ik is ic : Nat} (C : Cx G hs p s m args meth c cc nL own Ts ret nm) (hfl : l.stackTraces = false) (htb : ∀ x ∈ c.exceptionTable.toList, False) (hR : Rp G h H) (hL : ∀ q ∈ locs, gB G ≤ q.base)
    (hcls : Bundle.fit (exN e0) = true) (hnames : ∀ n ∈ names, Bundle.fit n = true) (w1 : Cond.classLink own ik (exN e0) ∈ MW) (w2 : Cond.initialized (exN e0) ∈ MW) (hstr : ∃ sa, vk_R own is text sa s) (hat : ∀ w ∈ vx_atS own ic (exN e0) names, w ∈ MW ∨ w ∈ KW)
    (hgood : ∀ w ∈ Cond.classLink own ik (exN e0) :: Cond.initialized (exN e0) :: vx_atS own ic (exN e0) names, vx_ot w = true) (hls : ls.size = nL)
    {w : Nat} (d0 : decode cc pc = .ok (.new ik, 3)) (d3 : decode cc (pc + 3) = .ok (.dup, 1)) (d4 : (decode cc (pc + 4) = .ok (.ldc is, 2) ∧ w = 2) ∨ (decode cc (pc + 4) = .ok (.ldc_w is, 3) ∧ w = 3)) (d6 : decode cc (pc + 4 + w) = .ok (.invokespecial ic, 3)) (d9 : decode cc (pc + 4 + w + 3) = .ok (.athrow, 1))
    (hf0 : names.length + 3 < f0) (hrest : (rest.map fun v => v.category).sum ≤ 8) (hlo0 : 8 + (13 * (names.length + 1) + 43) ≤ lo0) (hcap : aZ h + 1 ≤ aC h ∧ aU h + 6 ≤ gS) :
    W p l e (gR G hs f0 lo0) s m args below meth c H locs cells slots (vx_MQ below (Qxx G fv (.error e0) (uN h 0 6)) (Xxx G (.error e0 : Except Nat α) (uN h 0 6)) args s (gC G - aZ hs) (gS - aU hs) (fun q => gB G ≤ q)) (F0 m pc ls rest) := by
  obtain ⟨hx, hb, hml, hown, hts, hMW, hK, rs, hlk, hr, -⟩ := C
  obtain ⟨sa, hstr⟩ := hstr
  have hm : ∀ w ∈ MW, w.before args s = true := fun w hw => hts w (hMW w hw)
  refine W_ex rs hR fun hz hu => ?_
  have hcp := hcap.1
  have hcs := hcap.2
  rw [hR.cap] at hcp
  intro T hT X
  have htr : e.platform.stackTraces = false := (show e.platform.stackTraces = l.stackTraces by rw [X.admits.platform]).trans hfl
  have Y := vx_rebase X (R' := { frames := f0, locals := lo0, cells := 1, slots := 6 }) (Nat.le_refl _) (Nat.le_refl _) (by show aZ h - aZ hs + 1 ≤ gC G - aZ hs; omega) (by show aU h - aU hs + 6 ≤ gS - aU hs; omega)
  obtain ⟨s', hA⟩ : ∃ z, z = (T.setVm s.vm).setFrames (.invoking m args :: below) := ⟨_, rfl⟩
  rw [← hA] at Y
  have hvm : s'.vm = s.vm := by rw [hA]; rfl
  have hhp : s'.heap = H := by rw [hA]; exact hT
  have hW0 : s.WarmedH s'.vm := by rw [hvm]; exact State.WarmedH.refl s
  have hat0 : ∀ w ∈ vx_atS own ic (exN e0) names, w.before args s = true := fun w hw => by
    rcases hat w hw with h | h
    · exact hm w h
    · have hg := (List.mem_filter.mp h).2
      rw [Bool.and_eq_true] at hg
      exact va_any hg.1 (hK.face h)
  have hat' : ∀ w ∈ vx_atS own ic (exN e0) names, w.before args s' = true := fun w hw => vx_ot_at hW0 hvm.symm (hgood w (List.mem_cons_of_mem _ (List.mem_cons_of_mem _ hw))) (hat0 w hw)
  have hk' : (Cond.classLink own ik (exN e0)).before args s' = true := vx_ot_at hW0 hvm.symm (hgood _ List.mem_cons_self) (hm _ w1)
  have hini' : (Cond.initialized (exN e0)).before args s' = true := vx_ot_at hW0 hvm.symm (hgood _ (List.mem_cons_of_mem _ List.mem_cons_self)) (hm _ w2)
  have hlow : ∀ q : Nat, q < (gH G).size → ¬ gB G ≤ q → H[q]? = (gH G)[q]? := fun q h1 _ => hR.2.2.2.2.2.1 q (by rw [← hK.2.2.2.2.1]; exact h1)
  have hU' : vx_Zq Bundle.tN "UNASSIGNED_STACK" Bundle.steD (fun q => gB G ≤ q) s' s'.heap := by rw [hhp]; exact vx_Zq.moved hW0.alike (hK.2.1.kept hlow)
  have hN' : vx_Zq Bundle.tN "SUPPRESSED_SENTINEL" Bundle.listD (fun q => gB G ≤ q) s' s'.heap := by rw [hhp]; exact vx_Zq.moved hW0.alike (hK.2.2.1.kept hlow)
  have hh : ∀ w ∈ Bundle.ownAtoms own ic (exN e0) names, w.before args s' = true := vx_own hat' (vx_isRefq hU'.1) (vx_isRefq hN'.1) hU'.2.word hN'.2.word
  have hown' : s'.vm.findClass own = some m.cls := by rw [hvm]; exact hown
  have hins : (Cond.instantiable (exN e0) 6).before args s' = true := hh _ (by simp [Bundle.ownAtoms])
  obtain ⟨vm₁, cX, kX, hfX, hkX, -, -, X₁, st1⟩ := Y.newCold hx (own := own) (C := exN e0) (index := ik) (n := 6) hown' hk' hins hini'
    (g := F0 m pc ls rest) rfl (by rw [hb]; exact d0) (Nat.le_refl _) (Nat.le_refl _)
  generalize hT1 : (T.setVm vm₁).pushCell { cls := cX, slots := kX.instanceTypes.map defaultValue, vm := .none } = T1 at X₁ st1
  have hcat : (Value.ref T.heap.size).category = 1 := rfl
  have hcellA : T1.heap[T.heap.size]? = some (freshCell cX kX) := by rw [← hT1]; exact State.heap_pushCell_size _ _
  have d3' : decode c.code (pc + 3) = .ok (.dup, 1) := by rw [hb]; exact d3
  have hstr' : vk_R own is text sa s' := vk_R.warm hW0 hstr
  obtain ⟨U, hsteps, hrun, hend, hW, hsame, ce, hce, hO⟩ := X₁.ctorThrowS hx htr (own := own) (cls := exN e0) (names := names) (ic := ic) hown' hcls hnames hh (fun x hx => nomatch hx) hfX hkX hcellA (by rw [hhp, hT]; exact Nat.le_refl _) (msg := .ref sa) rfl
    (g := { method := m, pc := pc + 4 + w, locals := ls, stack := .ref sa :: .ref T.heap.size :: .ref T.heap.size :: rest, locked := none }) rfl (hls.trans hml.symm) rfl rfl (rest := rest) rfl
    (by rw [hb]; exact d6) (by rw [hb]; exact d9) (fun x hx => absurd hx (fun z => htb x z)) hf0 (by simp only [List.map_cons, List.sum_cons, hcat]; show 2 * 0 + _ + _ ≤ lo0; omega) hlk
  obtain ⟨f1, f2⟩ := vx_frame hsame
  rw [hhp] at f1 f2
  have hWs : s.WarmedH U.vm := State.WarmedH.trans hW0 hW
  have hcl : s.vm.findClass (exN e0) = some ce.cls := by
    have h9 := hO.cls
    rw [hvm] at h9
    exact h9
  have hsz : U.heap.size = H.size + 1 := by
    have h3 := hsame.2.2.1
    rw [hhp] at h3
    have h4 : T.heap.size < U.heap.size := (Array.getElem?_eq_some_iff.mp hce).1
    rw [hT] at h4
    have h5 : ({ U with vm := s'.vm } : State).heap.size = U.heap.size := rfl
    omega
  have hRU : Rp G (uN h 0 6) U.heap := hR.new hsz (by rw [← hT]; exact hce) (fun q hq => f2 q hq (fun z hz => nomatch hz)) hO.size hcap.1 hcap.2 ⟨fun ci r hr hk => by
      have : aK (uN h 0 6) (aZ h) = 0 := if_pos rfl
      omega, fun t ht hk => by
      have : aK (uN h 0 6) (aZ h) = 0 := if_pos rfl
      omega⟩
  have hall : s.sameButNew ({ U with vm := s.vm } : State) locs (gC G - aZ hs) (gS - aU hs) := by
    subst hA
    obtain ⟨e1, e2⟩ := hsame
    rw [State.setFrames_setFrames] at e1
    have h2 : (T.setVm s.vm).sameButNew ({ U with vm := s.vm } : State) [] (0 + 1) (0 + 6) := ⟨e1, e2⟩
    have h3 := X.same.trans h2
    rw [List.append_nil] at h3
    exact h3.mono (by omega) (by omega)
  refine ⟨U, ?_, .threw T.heap.size, hrun, hend, Or.inr ⟨T.heap.size, rfl, exN e0, ce, locs, ⟨e0, rfl, rfl, hRU⟩, hce, hO.vm, hcl, hWs, hall, hL⟩⟩
  refine st1 _ ?_
  show Steps p.tables e below (T1.setTop { method := m, pc := pc + 3, locals := ls, stack := .ref T.heap.size :: rest, locked := none }) _
  jvm_step X₁.here [X₁.here.top, hx, d3', Value.category]
  rcases d4 with ⟨d4, hw⟩ | ⟨d4, hw⟩
  · subst hw
    exact X₁.ldcString hx (own := own) (text := text) (index := is) (a := sa) hown' hstr'.1 hstr'.2
      (g := { method := m, pc := pc + 4, locals := ls, stack := .ref T.heap.size :: .ref T.heap.size :: rest, locked := none }) rfl (by rw [hb]; exact d4) _ hsteps
  · subst hw
    exact X₁.ldcStringW hx (own := own) (text := text) (index := is) (a := sa) hown' hstr'.1 hstr'.2
      (g := { method := m, pc := pc + 4, locals := ls, stack := .ref T.heap.size :: .ref T.heap.size :: rest, locked := none }) rfl (by rw [hb]; exact d4) _ hsteps
/-! a method with a table of its own, that lets nothing out -/
theorem Ct.ofH {l : Launch} {y : MethodName} {cc : ByteArray} {n f lo : Nat} {ret : Option FieldType} {G : GG} {av : List Value} {h h' : AH} {rt : Option Value} {hh : List (Nat × Nat × Nat × Nat)} (hy : plainName y.cls = true) (hlen : (lg_sl av).length ≤ n)
    (body : ∀ (p : Program) (e : Env) (s : State) (m : MethodId) (args : Array Value) (below : List Frame) (meth : Method) (c : Code), Cx G h p s m args meth c cc n y.cls (.codeWith y cc n ret hh :: MW) ret y.name → c.exceptionTable.toList = tableOf hh → Rp G h s.heap → ∀ ls, lv_has ls n (lv_args 0 av) →
      W p l e (gR G h f lo) s m args below meth c s.heap [] 0 0 (MQ below (Qcc G rt h') args s (gC G - aZ h) (gS - aU h) (fun q => gB G ≤ q)) (F0 m 0 ls [])) : Ct l y (.codeWith y cc n ret hh :: MW) G f lo av h rt h' := by
  unfold Ct Met
  refine MetFree.of_bodyS (code := cc) (maxLocals := n) (ret := ret) hy ?_ ?_
  · intro args s m h hn
    obtain ⟨m9, meth, c, hn9, h1, h2, h3, h4, -, h5, h6, -⟩ := Cond.codeWith_spec (atoms_spec (ws := .codeWith y cc n ret hh :: MW) h _ List.mem_cons_self)
    cases hn.symm.trans hn9
    exact ⟨meth, c, h1, h2, h3, h4, h5, h6⟩
  · intro p e s m args below meth c s₁ B hml hP _
    obtain ⟨rfl, hr, hk⟩ := hP
    have hts := atoms_spec (ws := .codeWith y cc n ret hh :: MW) B.pre
    have hh0 : s₁.heap = s.heap := by rw [B.state]; rfl
    have K := body p e s m _ below meth c ⟨B.exec, B.bytes, hml, findClass_of_methodNamed B.named, hts, fun w hw => List.mem_cons_of_mem _ hw, hk, hr, B.notSynchronized, B.returns, (name_of_methodNamed B.named B.method).1⟩ (vx_table (x := y) B (hts _ List.mem_cons_self)) hr _ (lv_entry av hlen)
    rw [← lg_entry_eq] at K
    obtain ⟨t, a1, o, b1, b2, b3⟩ := K s₁ hh0 (Stand.of_body B)
    exact ⟨t, o, a1, b1, b2, ⟨b3.1, b3.2⟩⟩
theorem r_callSH {hh : List (Nat × Nat × Nat × Nat)} (C : Cx G hs p s m args meth c cc nL own Ts ret nm) (hM : Ct l y (.codeWith y bytes maxL ret' hh :: MW) G f lo As h rt h') (hR : Rp G h H) (hL : ∀ q ∈ locs, gB G ≤ q.base)
    (w1 : Cond.methodLink own index y ∈ MW) (w2 : Cond.static y ∈ MW) (w4 : Cond.initialized y.cls ∈ MW) (w5 : Cond.codeWith y bytes maxL ret' hh ∈ MW)
    (hd : y.cls ≠ "java/lang/invoke/MethodHandle" ∧ y.cls ≠ "java/lang/invoke/VarHandle" ∧ (parseMethodDescriptor y.desc).map (fun d => d.parameters.length) = some n) (hroom : f + 1 ≤ f0 ∧ 8 + (maxL + 11) + lo ≤ lo0) (hn : As.length = n) (hls : ls.size = nL) (hst : st = As.reverse ++ rest) (hrest : (rest.map fun v => v.category).sum ≤ 8) {st2 : List Value} (hdg : decode cc pc = .ok (.invokestatic index, 3)) (hst2 : rt.toList ++ rest = st2)
    (kk : ∀ (H1 : Heap) (locs1 : List Loc) (c1 s1 : Nat), Rp G h' H1 → (∀ q ∈ locs1, gB G ≤ q.base) → W p l e (gR G hs f0 lo0) s m args below meth c H1 locs1 c1 s1 Q (F0 m (pc + 3) ls st2)) : W p l e (gR G hs f0 lo0) s m args below meth c H locs cells slots Q (F0 m pc ls st) := by
  subst hst2
  obtain ⟨hx, hb, hml, hown, hts, hT, hK, rs, -⟩ := C
  subst hst
  have hg : ∀ w ∈ MW, w ∈ Ts ∧ ((w.onTables && w.keeps) = true ∨ ∃ ty, w = .arrayClass ty) := fun w hw => ⟨hT w hw, good_of_word (MW_g hw)⟩
  have hG : GoodIn Ts (va_wsS own index y (.codeWith y bytes maxL ret' hh :: MW)) := by
    intro w hw
    simp only [va_wsS, List.cons_append, List.nil_append, List.mem_cons] at hw
    rcases hw with rfl | rfl | rfl | rfl | hw
    · exact hg _ w1
    · exact hg _ w2
    · exact hg _ w4
    · exact hg _ w5
    · exact hg _ hw
  refine W_ex rs hR fun hz hu => ?_
  exact r_run hR hL (vx_runSW (As := As) (rest := rest) ⟨hx, hb, hml, hown, hts⟩ hM (vx_cwSW n hts hG rfl rfl rfl hd hroom) ⟨Pcc_blind, Pcc_at hK hR _⟩ rfl hn hls rfl (lv_room hrest) hdg (r_fit (R := gR G hs f0 lo0) rs hR hz hu)) kk
/-- a handler catches: at its first row, with the exception on the stack -/
theorem r_catch {name : String} {e0 : Nat} {q : Addr} {ce : Cell} {R : Room} (hown : s.vm.findClass own = some m.cls) (hK : Kk G s) (pre : List ExceptionTableEntry) (x : ExceptionTableEntry) (suf : List ExceptionTableEntry) (hsplit : c.exceptionTable.toList = pre ++ x :: suf)
    (hpass : ∀ z ∈ pre, z.catchType ≠ 0 ∧ ∃ nm : String, (Cond.classLink own z.catchType nm).before args s = true ∧ (exN e0, nm) ∈ KX) (hx : covers x pc = true) (h0 : x.catchType ≠ 0)
    (w1 : (Cond.classLink own x.catchType name).before args s = true) (hcast : Cond.castable (exN e0) name ∈ KW) (hcell : H[q]? = some ce) (hv : ce.vm = .none) (hcl : s.vm.findClass (exN e0) = some ce.cls)
    (kk : W p l e R s m args below meth c H locs cells slots Q (F0 m x.handlerPc ls [zr (q + 1)])) : vx_W p l e R s m args below meth c H locs cells slots Q (F0 m pc ls rest) q := by
  refine vx_catch hown pre x suf hsplit (fun z hz => ?_) hx h0 w1 (va_any rfl (hK.face hcast)) hcell hv hcl kk
  obtain ⟨h1, nm2, h2, h3⟩ := hpass z hz
  exact Or.inr ⟨h1, nm2, h2, hK.2.2.2.2.2.2.2.2.2.2.2.2.1 _ h3⟩
end TH
