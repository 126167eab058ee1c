/-! ===== the law's walk out of the pure program: what is owed is PureLaw ===== -/
theorem no_traces {l : Launch} (hflags : l.flags = flags0) : l.stackTraces = false := by
  unfold Launch.stackTraces
  rw [hflags]
  decide +kernel
def PureLaw : Prop := ∀ (B E M L : Nat) (xs : Nat → Int32), L ≤ 260 → E ≠ 0 → E ≤ B → M ≠ 0 → ∃ h' : AH, p_L_law_0 xs L (h0 B E M) = some (iI 1, h')
theorem whole_start_open (hpure : PureLaw) {p : Program} {e : Env} {s : State} {m : MethodId} {below : List Frame} {meth : Method} {c : Code} (l : Launch) (hflags : l.flags = flags0) {b L : Nat} {xs : Nat → Int32} (hL : L ≤ 260) (C0 : lw_At p s m meth c b L xs) : W p l e room_1 s m #[Value.ref b] below meth c s.heap [] 0 0 (lw_Z below #[Value.ref b] s) (entryFrame m ([Value.ref b] : List Value).toArray 28) := by
  obtain ⟨G, hR, hK, hgH, hgB, hE0, hE1, hM, eX⟩ := law_start C0
  obtain ⟨h', hp⟩ := hpure (gB G) (gE G) (gM G) L xs hL hE0 hE1 hM
  obtain ⟨hx, hb, hr, hml, hown, hts, hX, hbl, hlocks, hgv⟩ := C0
  have hl := lv_entry ([.ref b]) (n := 28) (Nat.le_of_ble_eq_true rfl)
  have hz1 : gC G - aZ (h0 (gB G) (gE G) (gM G)) = 600130 := by
    show gB G + 1 + 600130 - (gB G + 1) = 600130
    omega
  have hz2 : aU (h0 (gB G) (gE G) (gM G)) = 0 := rfl
  have eR : gR G (h0 (gB G) (gE G) (gM G)) 16 610 = room_1 := by
    unfold gR
    rw [hz1, hz2]
    rfl
  rw [lg_entry_eq, ← eR]
  exact s_L_law_0 (nm := meth.name) (no_traces hflags) eX hgB.symm hz1 hz2 ⟨hx, hb, hml, hown, hts, fun w hw => MW_in hw, hK, hR, hlocks, hr, rfl⟩ hR (fun _ hq => nomatch hq) hl hp
