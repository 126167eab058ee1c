/-! THE CLAIM OUT OF ONE WALK OF THE LAW'S BODY. Your part is whole_start (and what it stands on); all else here is the same for every law, but numbers. -/
def R_law : String := "CursorKeepLaw"
def lw_P (b : Addr) (xs : List Int32) (args : Array Value) (s : State) : Prop := args = #[.ref b] ∧ s.IntsAt b xs ∧ xs.length ≤ 2048 ∧ (Jvm.Cond.and given_1 narrow_1).before args s = true
def lw_Q (_ : Array Value) (s : State) (o : Outcome) (t : State) : Prop := o = .returned (some (.int 1)) ∧ Framed s o t [] 601024 7293034
def lw_Z (below : List Frame) (a : Array Value) (s : State) : State → Prop := fun t => ∃ o, t.status = .running ∧ Ended t below o ∧ lw_Q a s o t
/-- the law's own end, with 1 on the stack, nothing written that was there before, its room as the claim has it -/
theorem lw_ret {p : Program} {l : Launch} {e : Env} {s : State} {m : MethodId} {below : List Frame} {meth : Method} {c : Code} {b : Nat} (hx : p.tables.exec = Jvm.exec) (hb : c.code = code) (hr : meth.sig.returnType = ret) (hlocks : meth.locks = false) {pc : Nat} {H : Heap} {ls : Array Slot} (hdg : decode code pc = .ok (.ireturn, 1)) : W p l e room_1 s m #[Value.ref b] below meth c H [] 601024 7293034 (lw_Z below #[Value.ref b] s) (F0 m pc ls [.int 1]) := by
  intro T hT X
  obtain ⟨fs, hret, hrun, hended, hW, hframe⟩ := X.leave (v := some (.int 1)) (hlocks := hlocks) (fun h => by rw [hr] at h; cases h)
  have hmeth' : T.vm.method? m = some meth := X.method'
  refine ⟨T.setFrames fs, ?_, .returned (some (.int 1)), hrun, hended, rfl, ⟨_, rfl⟩, hW, hframe⟩
  jvm_step X.here [X.here.top, hx, hb, hdg, hmeth', hr, ret, narrow_b1]
  (try refine ⟨rfl, ?_⟩); (try refine ⟨rfl, ?_⟩)
  first | (intro acts; rw [hret _ acts rfl rfl rfl]) | rw [hret _ _ rfl rfl rfl]
  exact Steps.refl _
/-- what holds at the law's entry: the machine, the code, the tables' words (any of lw_tbl by 'hts w (by decide +kernel)'), the script of L ints xs at the cell b, what the Statement gives of the start (any of its parts by flat_of_before) -/
def lw_At (p : Program) (s : State) (m : MethodId) (meth : Method) (c : Code) (b L : Nat) (xs : Nat → Int32) : Prop :=
  p.tables.exec = Jvm.exec ∧ c.code = code ∧ meth.sig.returnType = ret ∧ c.maxLocals = 7 ∧ s.vm.findClass R_law = some m.cls ∧ (∀ w ∈ lw_tbl, w.before #[Value.ref b] s = true) ∧ va_X b L xs s s.heap ∧ b < s.heap.size ∧ meth.locks = false ∧ (Jvm.Cond.and given_1 narrow_1).before #[Value.ref b] s = true
/-! ===== the law's own rows ===== -/
section LAWR
variable {p : Program} {l : Launch} {e : Env} {R : Room} {s : State} {m : MethodId} {args : Array Value} {below : List Frame} {meth : Method} {c : Code} {H : Heap} {locs : List Loc} {cells slots : Nat} {Q : State → Prop}
variable {cc : ByteArray} {pc : Nat} {ls : Array Slot} {rest : List Value} {G : GG} {hs h : AH} {b L : Nat} {xs : Nat → Int32}
theorem law_no {h h' : AH} {X : Prop} (hp : some (iI 0, h) = some (iI 1, h')) : X := by
  have h1 : iI 0 = iI 1 := congrArg Prod.fst (Option.some.inj hp)
  exact absurd h1 (by decide +kernel)
theorem r_sld (hexec : p.tables.exec = Jvm.exec) (hb : c.code = cc) (hX : va_X b L xs s (gH G)) (hbB : b < gB G) (hR : Rp G h H) {i : Int32} (hin : ix i L) (hdg : decode cc pc = .ok (.iaload, 1))
    (kk : W p l e R s m args below meth c H locs cells slots Q (F0 m (pc + 1) ls (.int (xs i.toNatClampNeg) :: rest))) : W p l e R s m args below meth c H locs cells slots Q (F0 m pc ls (.int i :: .ref b :: rest)) := by
  obtain ⟨scr, h1, h2, h3, h4, h5⟩ := hX
  exact W.iald (v := .int (xs i.toNatClampNeg)) hexec hb (by rw [hR.2.2.2.2.2.1 b hbB]; exact h1) h2 h3 (by rw [h4]; exact ix_in hin) (h5 _ hin.2) rfl rfl hdg kk
theorem r_slen (hexec : p.tables.exec = Jvm.exec) (hb : c.code = cc) (hX : va_X b L xs s (gH G)) (hbB : b < gB G) (hR : Rp G h H) (hdg : decode cc pc = .ok (.arraylength, 1))
    (kk : W p l e R s m args below meth c H locs cells slots Q (F0 m (pc + 1) ls (.int (nI L) :: rest))) : W p l e R s m args below meth c H locs cells slots Q (F0 m pc ls (.ref b :: rest)) := by
  obtain ⟨scr, h1, h2, h3, h4, h5⟩ := hX
  exact W.alen (n := nI L) hexec hb (by rw [hR.2.2.2.2.2.1 b hbB]; exact h1) h2 (by rw [h4] <;> rfl) rfl rfl hdg kk
theorem r_lawret {nm : String} {Ts : List Cond} (C : Cx G hs p s m #[Value.ref b] meth c cL_law 7 RL Ts (some .boolean) nm) (hR : Rp G h H) (hL : ∀ q ∈ locs, gB G ≤ q.base) (hz0 : s.heap.size = gB G) (hz1 : gC G - aZ hs = 601024) (hz2 : aU hs = 0) (hdg : decode cL_law pc = .ok (.ireturn, 1)) :
    W p l e (gR G hs 16 612) s m #[Value.ref b] below meth c H locs cells slots (lw_Z below #[Value.ref b] s) (F0 m pc ls [.int (iI 1)]) := by
  obtain ⟨hx, hb, hml, hown, hts, hT, hK, rs, hlk, hret, -⟩ := C
  have h1 := hR.2.2.2.2.2.2.2.1
  have h2 := hR.2.2.2.2.2.2.2.2.1
  rw [show (iI 1) = (1 : Int32) from by decide +kernel]
  have e2 : gS - aU hs = 7293034 := by rw [hz2]; rfl
  have eR : gR G hs 16 612 = room_1 := by
    unfold gR
    rw [hz1, e2]
    rfl
  refine W_ex rs hR fun hz hu => ?_
  rw [eR]
  refine va_forget (fun q hq => by rw [hz0]; exact hL q hq) ?_
  refine W.widen (k := 601024) (n := 7293034) (by omega) (by have : gS = 7293034 := rfl; omega) ?_
  exact lw_ret hx hb hret hlk hdg
end LAWR
