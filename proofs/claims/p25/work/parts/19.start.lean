/-! ===== the start ===== -/
def h0 (B E M : Nat) : AH := (fun q => if q = E then 26 else 0, fun _ => 0, fun _ _ => 0, fun _ _ => 0, fun _ _ => 0, B + 1, 0, E, B + 1 + 600130, M)
theorem len0 {args : Array Value} {s : State} {t : Term} {a : Nat} {cell : Cell} (h : (Cond.eq (.length t) (.int 0)).before args s = true) (ht : t.eval args s none [] s = some (.ref a)) (hc : s.heap[a]? = some cell) : cell.slots.size = 0 := by
  cases hv : (Term.length t).eval args s none [] s with
  | none => simp [Cond.before, Cond.holds, Cond.value, hv] at h
  | some v =>
    obtain ⟨a', cell', h1, h2, h3⟩ := Term.length_spec hv
    have hsz : cell'.slots.size < 2147483648 := by
      simp only [Term.eval, h1, h2, Option.bind_eq_bind, Option.bind_some] at hv
      by_cases hlt : cell'.slots.size < 2147483648
      · exact hlt
      · simp [hlt] at hv
    have e1 : a' = a := by have := h1.symm.trans ht; cases this; rfl
    subst e1
    have e2 : cell' = cell := by have := (State.arrayAt?_spec h2).1.symm.trans hc; cases this; rfl
    subst e2
    subst h3
    rw [show (Cond.eq (.length t) (.int 0)).before args s = ((Cond.eq (.length t) (.int 0)).value args s none s [] == some true) from rfl, Cond.eq_ints (x := cell'.slots.size.toInt32) (y := 0) hv rfl] at h
    have h5 : cell'.slots.size.toInt32 = 0 := by simpa using h
    have h6 : (Int32.ofNat cell'.slots.size).toInt = 0 := by
      rw [show Int32.ofNat cell'.slots.size = 0 from h5]; rfl
    rw [Int32.toInt_ofNat_small (by omega)] at h6
    omega
theorem cls_start {args : Array Value} {s : State} (hts : ∀ w ∈ lw_tbl, w.before args s = true) : ∃ D : va_G, ∀ (k : Nat) (q : vw_C), vwCl[k]? = some q → u_Kn s q.1 q.2.1 q.2.2 (D.1 k) (D.2 k) := by
  have hm : ∀ w ∈ MW, w.before args s = true := fun w hw => hts w (MW_in hw)
  have hc : ∀ (k : Nat) (q : vw_C), vwCl[k]? = some q → ∃ (cC : ClassId) (iS : Nat → Nat), u_Kn s q.1 q.2.1 q.2.2 cC iS := by
    intro k q hq
    match k, hq with
    | 0, hq => cases hq; exact u_known (C := RJx4a65c) (T := TJx4a65c) (N := 3) (n := 3) hm ii_Jx4a65c (hm _ mw_40)
    | 1, hq => cases hq; exact u_known (C := RX0) (T := TX0) (N := 3) (n := 3) hm ii_X0 (hm _ mw_427)
    | 2, hq => cases hq; exact u_known (C := RX1) (T := TX1) (N := 6) (n := 6) hm ii_X1 (hm _ mw_761)
    | 3, hq => cases hq; exact u_known (C := RX2) (T := TX2) (N := 3) (n := 3) hm ii_X2 (hm _ mw_433)
    | 4, hq => cases hq; exact u_known (C := RX3) (T := TX3) (N := 4) (n := 4) hm ii_X3 (hm _ mw_731)
    | 5, hq => cases hq; exact u_known (C := RX4) (T := TX4) (N := 2) (n := 2) hm ii_X4 (hm _ mw_169)
    | 6, hq => cases hq; exact u_known (C := RX5) (T := TX5) (N := 3) (n := 3) hm ii_X5 (hm _ mw_87)
    | 7, hq => cases hq; exact u_known (C := RX6) (T := TX6) (N := 4) (n := 4) hm ii_X6 (hm _ mw_66)
    | 8, hq => cases hq; exact u_known (C := RX7) (T := TX7) (N := 4) (n := 4) hm ii_X7 (hm _ mw_109)
    | 9, hq => cases hq; exact u_known (C := RX8) (T := TX8) (N := 4) (n := 4) hm ii_X8 (hm _ mw_921)
    | 10, hq => cases hq; exact u_known (C := RX9) (T := TX9) (N := 10) (n := 10) hm ii_X9 (hm _ mw_103)
    | 11, hq => cases hq; exact u_known (C := RX10) (T := TX10) (N := 7) (n := 7) hm ii_X10 (hm _ mw_28)
    | k + 12, hq => exact absurd (vwCl_lt hq) (by omega)
  have hd : ∀ k : Nat, ∃ x : ClassId × (Nat → Nat), ∀ q : vw_C, vwCl[k]? = some q → u_Kn s q.1 q.2.1 q.2.2 x.1 x.2 := by
    intro k
    cases hq : vwCl[k]? with
    | none => exact ⟨(0, fun _ => 0), fun q h => nomatch h⟩
    | some q =>
      obtain ⟨cC, iS, h⟩ := hc k q hq
      exact ⟨(cC, iS), fun q' h' => by cases h'; exact h⟩
  exact ⟨(fun k => (Classical.choose (hd k)).1, fun k => (Classical.choose (hd k)).2), fun k q hq => Classical.choose_spec (hd k) q hq⟩
theorem arr_start {args : Array Value} {s : State} (hts : ∀ w ∈ lw_tbl, w.before args s = true) : ∃ A : Nat → ClassId, ∀ t : Nat, t < 7 → ArrOfT s (A t) (aty t) ∧ va_RA s (A t) (aty t) := by
  have hw : ∀ {w : Cond} (i : Nat), tables_1[i]? = some w → w.before args s = true := fun i h => hts _ (List.mem_append_right _ (List.mem_of_getElem? h))
  have prim : ∀ ty : FieldType, (∀ C, ty ≠ .object C) → (Cond.arrayClass ty).before args s = true → ∃ cA : ClassId, ArrOfT s cA ty ∧ va_RA s cA ty := by
    intro ty hp h
    obtain ⟨c, k, comp, h1, h2, h3⟩ := Cond.arrayClass_spec h
    refine ⟨c, fun N z => ⟨(fun k h => by cases h), k, h2, comp, h3⟩, ?_⟩
    cases ty with
    | object C => exact absurd rfl (hp C)
    | _ => exact h1
  have over : ∀ E : String, (Cond.arrayOver (.object E)).before args s = true → ∃ cA : ClassId, ArrOfT s cA (.object E) ∧ va_RA s cA (.object E) := by
    intro E h
    obtain ⟨comp, c, k, h1, h2, h3, h4, h5⟩ := Cond.arrayOver_spec h
    exact ⟨c, fun N z => ⟨(fun k h => by cases h), k, h3, comp, h4⟩, k, comp, h3, h4, h1, h5⟩
  have hd : ∀ t : Nat, ∃ cA : ClassId, t < 7 → ArrOfT s cA (aty t) ∧ va_RA s cA (aty t) := by
    intro t
    match t with
    | 0 => obtain ⟨c, h⟩ := prim .int (fun C h => nomatch h) (hw 84 (by decide +kernel)); exact ⟨c, fun _ => h⟩
    | 1 => obtain ⟨c, h⟩ := prim .char (fun C h => nomatch h) (hw 85 (by decide +kernel)); exact ⟨c, fun _ => h⟩
    | 2 => obtain ⟨c, h⟩ := prim .boolean (fun C h => nomatch h) (hw 102 (by decide +kernel)); exact ⟨c, fun _ => h⟩
    | 3 => obtain ⟨c, h⟩ := prim .byte (fun C h => nomatch h) (hw 381 (by decide +kernel)); exact ⟨c, fun _ => h⟩
    | 4 => obtain ⟨c, h⟩ := over RX9 (hw 36 (by decide +kernel)); exact ⟨c, fun _ => h⟩
    | 5 => obtain ⟨c, h⟩ := over RX4 (hw 38 (by decide +kernel)); exact ⟨c, fun _ => h⟩
    | 6 => obtain ⟨c, h⟩ := over "java/lang/Object" (hw 537 (by decide +kernel)); exact ⟨c, fun _ => h⟩
    | n + 7 => exact ⟨0, fun h => absurd h (by omega)⟩
  exact ⟨fun t => Classical.choose (hd t), fun t => Classical.choose_spec (hd t)⟩
set_option maxRecDepth 100000 in
theorem ks_in : ∀ q ∈ KS, Cond.stringRef "CursorKeep" q.1 q.2 ∈ tables_1 := List.forall_mem_cons.mpr ⟨List.mem_of_getElem? (i := 355) (by decide +kernel), List.forall_mem_cons.mpr ⟨List.mem_of_getElem? (i := 386) (by decide +kernel), List.forall_mem_cons.mpr ⟨List.mem_of_getElem? (i := 399) (by decide +kernel), List.forall_mem_cons.mpr ⟨List.mem_of_getElem? (i := 419) (by decide +kernel), List.forall_mem_cons.mpr ⟨List.mem_of_getElem? (i := 597) (by decide +kernel), List.forall_mem_cons.mpr ⟨List.mem_of_getElem? (i := 622) (by decide +kernel), List.forall_mem_cons.mpr ⟨List.mem_of_getElem? (i := 645) (by decide +kernel), List.forall_mem_cons.mpr ⟨List.mem_of_getElem? (i := 657) (by decide +kernel), List.forall_mem_cons.mpr ⟨List.mem_of_getElem? (i := 700) (by decide +kernel), List.forall_mem_cons.mpr ⟨List.mem_of_getElem? (i := 701) (by decide +kernel), List.forall_mem_cons.mpr ⟨List.mem_of_getElem? (i := 839) (by decide +kernel), List.forall_mem_cons.mpr ⟨List.mem_of_getElem? (i := 840) (by decide +kernel), List.forall_mem_cons.mpr ⟨List.mem_of_getElem? (i := 911) (by decide +kernel), List.forall_mem_cons.mpr ⟨List.mem_of_getElem? (i := 919) (by decide +kernel), List.forall_mem_cons.mpr ⟨List.mem_of_getElem? (i := 920) (by decide +kernel), fun _ h => nomatch h⟩⟩⟩⟩⟩⟩⟩⟩⟩⟩⟩⟩⟩⟩⟩
set_option maxRecDepth 100000 in
theorem kx_in : ∀ q ∈ KX, Cond.not (.castable q.1 q.2) ∈ flatC (Jvm.Cond.and given_1 narrow_1) := by decide +kernel
set_option maxRecDepth 100000 in
theorem law_start {p : Program} {s : State} {m : MethodId} {meth : Method} {c : Code} {b L : Nat} {xs : Nat → Int32} (C0 : lw_At p s m meth c b L xs) : ∃ G : GG, Rp G (h0 (gB G) (gE G) (gM G)) s.heap ∧ Kk G s ∧ gH G = s.heap ∧ gB G = s.heap.size ∧ gE G ≠ 0 ∧ gE G ≤ gB G ∧ gM G ≠ 0 ∧ gX G = (b, L, xs) := by
  obtain ⟨hx, hb, hr, hml, hown, hts, hX, hbl, hlocks, hgv⟩ := C0
  have hq := flat_of_before _ hgv
  have hw : ∀ {w : Cond} (i : Nat), tables_1[i]? = some w → w.before #[Value.ref b] s = true := fun i h => hts _ (List.mem_append_right _ (List.mem_of_getElem? h))
  obtain ⟨D, hD⟩ := cls_start hts
  obtain ⟨A, hA⟩ := arr_start hts
  have hex : (Cond.exactly (.static "java/util/ArrayList" "DEFAULTCAPACITY_EMPTY_ELEMENTDATA" "[Ljava/lang/Object;") "[Ljava/lang/Object;").before #[Value.ref b] s = true := hq _ (by decide +kernel)
  have hln : (Cond.eq (.length (.static "java/util/ArrayList" "DEFAULTCAPACITY_EMPTY_ELEMENTDATA" "[Ljava/lang/Object;")) (.int 0)).before #[Value.ref b] s = true := hq _ (by decide +kernel)
  obtain ⟨e, ce, cell, ke, ht, hfc, hcell, hk, hst, hcls, -⟩ := Cond.exactly_spec hex
  have hz := len0 hln ht hcell
  obtain ⟨mi, hmi⟩ := va_Mi.of (show (Cond.isRef (.mirror "[Ljava/lang/Object;")).before #[Value.ref b] s = true from hq _ (by decide +kernel))
  have helt : e < s.heap.size := (Array.getElem?_eq_some_iff.mp hcell).1
  have hAl : ∀ a : Nat, a < s.heap.size → ¬ s.heap.size ≤ a := fun a h => Nat.not_le.mpr h
  have hfcA : s.vm.findClass "[Ljava/lang/Object;" = some (A 6) := by
    have h6 := (hA 6 (by decide)).2
    obtain ⟨-, -, -, -, -, h5⟩ := h6
    exact h5
  refine ⟨(D, A, s.heap.size, s.heap, e + 1, mi + 1, (b, L, xs)), ⟨rfl, Nat.lt_succ_self _, trivial, fun q hk' => ?_, fun q => ⟨fun ci r hr' hk' => ?_, fun t ht' hk' => ?_⟩, fun _ _ => rfl, ?_, ?_, Nat.zero_le _, rfl, rfl, rfl⟩, ⟨⟨hD, fun k q hkq => ?_⟩, ?_, ?_, ?_, rfl, ?_, ?_, ?_, ?_, hmi, Nat.succ_ne_zero _, ?_, ?_, hX, hbl⟩, rfl, rfl, Nat.succ_ne_zero _, helt, Nat.succ_ne_zero _, rfl⟩
  · have hk2 : (if q = e + 1 then 26 else 0) ≠ 0 := hk'
    by_cases hqe : q = e + 1
    · subst hqe
      refine ⟨Nat.succ_ne_zero _, ?_, Or.inr ⟨if_pos rfl, rfl⟩⟩
      exact Nat.succ_lt_succ helt
    · rw [if_neg hqe] at hk2; exact absurd rfl hk2
  · have hk2 : (if q = e + 1 then 26 else 0) = ci + 1 := hk'
    have := vwCl_lt hr'
    split at hk2 <;> omega
  · have hk2 : (if q = e + 1 then 26 else 0) = 20 + t := hk'
    by_cases hqe : q = e + 1
    · subst hqe
      rw [if_pos rfl] at hk2
      have ht6 : t = 6 := by omega
      subst ht6
      have hcA : cell.cls = A 6 := by rw [hcls]; exact Option.some.inj (hfc.symm.trans hfcA)
      refine ⟨cell, hcell, hcA, fun k hk9 => ?_, fun h9 => absurd h9 (Nat.lt_irrefl 0), hz, fun k h9 => absurd h9 (Nat.not_lt_zero _)⟩
      rw [hk9] at hst
      cases hst
    · rw [if_neg hqe] at hk2; omega
  · show 0 = ss s.heap.size s.heap
    unfold ss
    rw [List.drop_eq_nil_of_le (by simp)]
    rfl
  · show s.heap.size + 1 ≤ s.heap.size + 1 + 600130
    omega
  · match k, hkq with
    | 0, h => cases h; exact hA 0 (by decide)
    | 1, h => cases h; exact hA 1 (by decide)
    | 2, h => cases h; exact hA 2 (by decide)
    | 3, h => cases h; exact hA 3 (by decide)
    | 4, h => cases h; exact hA 4 (by decide)
    | 5, h => cases h; exact hA 5 (by decide)
    | 6, h => cases h; exact hA 6 (by decide)
    | k + 7, h => simp [gT] at h
  · exact vx_Zqof (hw 341 (by decide +kernel)) (hw 10 (by decide +kernel)) (show (Cond.isRef (.static "java/lang/Throwable" "UNASSIGNED_STACK" "[Ljava/lang/StackTraceElement;")).before #[Value.ref b] s = true from hq _ (by decide +kernel)) hAl
  · exact vx_Zqof (hw 343 (by decide +kernel)) (hw 10 (by decide +kernel)) (show (Cond.isRef (.static "java/lang/Throwable" "SUPPRESSED_SENTINEL" "Ljava/util/List;")).before #[Value.ref b] s = true from hq _ (by decide +kernel)) hAl
  · exact va_Zof (hw 52 (by decide +kernel)) (hw 4 (by decide +kernel)) ht hAl
  · intro w h9
    have h10 := List.mem_filter.mp h9
    have hg := h10.2
    rw [Bool.and_eq_true] at hg
    exact va_any hg.1 (hts w (List.mem_append_right _ h10.1))
  · exact va_AO.of (hw 36 (by decide +kernel))
  · exact va_AO.of (hw 38 (by decide +kernel))
  · exact va_AO.of (hw 537 (by decide +kernel))
  · obtain ⟨cur, hcur⟩ : ∃ cur, s.vm.findClass "CursorKeep" = some cur := by
      obtain ⟨-, h2, -⟩ := hD 11 _ rfl
      exact ⟨_, h2⟩
    intro q h9
    have h11 : Cond.stringRef "CursorKeep" q.1 q.2 ∈ tables_1 := ks_in q h9
    obtain ⟨k, cf, i, a, -, -, -, -, -, h8⟩ := Cond.stringRef_spec (args := #[Value.ref b]) (first := s) (o := none) (s := s) (idx := []) hcur (hts _ (List.mem_append_right _ h11))
    exact ⟨a, vk_R.of (A := #[Value.ref b]) (hts _ (List.mem_append_right _ h11)) h8⟩
  · intro q h9
    have h11 : (Cond.not (.castable q.1 q.2)).before #[Value.ref b] s = true := hq _ (kx_in q h9)
    exact va_Nc.of h11
