section
-- ===== PART A: goes FIRST, ahead of the names: the tables' words, and 'selects' of the private methods out of them =====
/-- a private method of a class that the tables say can be made, by its rows of tables_1 -/
def lw_okq (q : MethodName × Nat) : Prop := (q.1.cls ≠ "java/lang/invoke/MethodHandle" ∧ q.1.cls ≠ "java/lang/invoke/VarHandle") ∧ Cond.instantiable q.1.cls q.2 ∈ tables_1 ∧ Cond.privateMethod q.1 ∈ tables_1 ∧ Cond.instanceMethod q.1 ∈ tables_1
theorem lw_p0 : lw_okq (⟨"CursorKeep", "isFirstForItsText", "(LCursorKeep$Save;)Z"⟩, 7) := ⟨⟨by decide +kernel, by decide +kernel⟩, List.mem_of_getElem? (i := 29) (by decide +kernel), List.mem_of_getElem? (i := 249) (by decide +kernel), List.mem_of_getElem? (i := 250) (by decide +kernel)⟩
theorem lw_p1 : lw_okq (⟨"java/util/ArrayList", "fastRemove", "([Ljava/lang/Object;I)V"⟩, 3) := ⟨⟨by decide +kernel, by decide +kernel⟩, List.mem_of_getElem? (i := 41) (by decide +kernel), List.mem_of_getElem? (i := 262) (by decide +kernel), List.mem_of_getElem? (i := 263) (by decide +kernel)⟩
theorem lw_p2 : lw_okq (⟨"CursorKeep", "handAt", "(I)LCursorKeep$Hand;"⟩, 7) := ⟨⟨by decide +kernel, by decide +kernel⟩, List.mem_of_getElem? (i := 29) (by decide +kernel), List.mem_of_getElem? (i := 307) (by decide +kernel), List.mem_of_getElem? (i := 308) (by decide +kernel)⟩
theorem lw_p3 : lw_okq (⟨"java/lang/Throwable", "fillInStackTrace", "(I)Ljava/lang/Throwable;"⟩, 6) := ⟨⟨by decide +kernel, by decide +kernel⟩, List.mem_of_getElem? (i := 349) (by decide +kernel), List.mem_of_getElem? (i := 347) (by decide +kernel), List.mem_of_getElem? (i := 348) (by decide +kernel)⟩
theorem lw_p4 : lw_okq (⟨"CursorKeep", "textAt", "(I)LCursorKeep$Text;"⟩, 7) := ⟨⟨by decide +kernel, by decide +kernel⟩, List.mem_of_getElem? (i := 29) (by decide +kernel), List.mem_of_getElem? (i := 379) (by decide +kernel), List.mem_of_getElem? (i := 380) (by decide +kernel)⟩
theorem lw_p5 : lw_okq (⟨"CursorKeep$Text", "cursorSpot", "(I)I"⟩, 10) := ⟨⟨by decide +kernel, by decide +kernel⟩, List.mem_of_getElem? (i := 104) (by decide +kernel), List.mem_of_getElem? (i := 431) (by decide +kernel), List.mem_of_getElem? (i := 432) (by decide +kernel)⟩
theorem lw_p6 : lw_okq (⟨"CursorKeep$Text", "perform", "(LCursorKeep$Deed;)V"⟩, 10) := ⟨⟨by decide +kernel, by decide +kernel⟩, List.mem_of_getElem? (i := 104) (by decide +kernel), List.mem_of_getElem? (i := 453) (by decide +kernel), List.mem_of_getElem? (i := 454) (by decide +kernel)⟩
theorem lw_p7 : lw_okq (⟨"java/util/ArrayList", "add", "(Ljava/lang/Object;[Ljava/lang/Object;I)V"⟩, 3) := ⟨⟨by decide +kernel, by decide +kernel⟩, List.mem_of_getElem? (i := 41) (by decide +kernel), List.mem_of_getElem? (i := 486) (by decide +kernel), List.mem_of_getElem? (i := 487) (by decide +kernel)⟩
theorem lw_p8 : lw_okq (⟨"java/util/ArrayList", "grow", "()[Ljava/lang/Object;"⟩, 3) := ⟨⟨by decide +kernel, by decide +kernel⟩, List.mem_of_getElem? (i := 41) (by decide +kernel), List.mem_of_getElem? (i := 490) (by decide +kernel), List.mem_of_getElem? (i := 491) (by decide +kernel)⟩
theorem lw_p9 : lw_okq (⟨"java/util/ArrayList", "grow", "(I)[Ljava/lang/Object;"⟩, 3) := ⟨⟨by decide +kernel, by decide +kernel⟩, List.mem_of_getElem? (i := 41) (by decide +kernel), List.mem_of_getElem? (i := 494) (by decide +kernel), List.mem_of_getElem? (i := 495) (by decide +kernel)⟩
theorem lw_p10 : lw_okq (⟨"CursorKeep$Plan", "look", "(LCursorKeep$Row;)V"⟩, 4) := ⟨⟨by decide +kernel, by decide +kernel⟩, List.mem_of_getElem? (i := 67) (by decide +kernel), List.mem_of_getElem? (i := 721) (by decide +kernel), List.mem_of_getElem? (i := 722) (by decide +kernel)⟩
theorem lw_p11 : lw_okq (⟨"CursorKeep$Plan", "wantSingleSpaces", "()V"⟩, 4) := ⟨⟨by decide +kernel, by decide +kernel⟩, List.mem_of_getElem? (i := 67) (by decide +kernel), List.mem_of_getElem? (i := 729) (by decide +kernel), List.mem_of_getElem? (i := 730) (by decide +kernel)⟩
theorem lw_p12 : lw_okq (⟨"CursorKeep$Plan", "wantBareEnds", "()V"⟩, 4) := ⟨⟨by decide +kernel, by decide +kernel⟩, List.mem_of_getElem? (i := 67) (by decide +kernel), List.mem_of_getElem? (i := 733) (by decide +kernel), List.mem_of_getElem? (i := 734) (by decide +kernel)⟩
theorem lw_p13 : lw_okq (⟨"CursorKeep$Plan", "wantCapitals", "()V"⟩, 4) := ⟨⟨by decide +kernel, by decide +kernel⟩, List.mem_of_getElem? (i := 67) (by decide +kernel), List.mem_of_getElem? (i := 737) (by decide +kernel), List.mem_of_getElem? (i := 738) (by decide +kernel)⟩
theorem lw_p14 : lw_okq (⟨"CursorKeep$Plan", "wantWrapped", "(I)V"⟩, 4) := ⟨⟨by decide +kernel, by decide +kernel⟩, List.mem_of_getElem? (i := 67) (by decide +kernel), List.mem_of_getElem? (i := 741) (by decide +kernel), List.mem_of_getElem? (i := 742) (by decide +kernel)⟩
theorem lw_p15 : lw_okq (⟨"CursorKeep$Neighbours", "pass", "(LCursorKeep$Row;II[I)I"⟩, 3) := ⟨⟨by decide +kernel, by decide +kernel⟩, List.mem_of_getElem? (i := 88) (by decide +kernel), List.mem_of_getElem? (i := 768) (by decide +kernel), List.mem_of_getElem? (i := 769) (by decide +kernel)⟩
def lw_privs_1 : List (MethodName × Nat) := [(⟨"CursorKeep", "isFirstForItsText", "(LCursorKeep$Save;)Z"⟩, 7), (⟨"java/util/ArrayList", "fastRemove", "([Ljava/lang/Object;I)V"⟩, 3), (⟨"CursorKeep", "handAt", "(I)LCursorKeep$Hand;"⟩, 7), (⟨"java/lang/Throwable", "fillInStackTrace", "(I)Ljava/lang/Throwable;"⟩, 6), (⟨"CursorKeep", "textAt", "(I)LCursorKeep$Text;"⟩, 7), (⟨"CursorKeep$Text", "cursorSpot", "(I)I"⟩, 10), (⟨"CursorKeep$Text", "perform", "(LCursorKeep$Deed;)V"⟩, 10), (⟨"java/util/ArrayList", "add", "(Ljava/lang/Object;[Ljava/lang/Object;I)V"⟩, 3), (⟨"java/util/ArrayList", "grow", "()[Ljava/lang/Object;"⟩, 3), (⟨"java/util/ArrayList", "grow", "(I)[Ljava/lang/Object;"⟩, 3), (⟨"CursorKeep$Plan", "look", "(LCursorKeep$Row;)V"⟩, 4), (⟨"CursorKeep$Plan", "wantSingleSpaces", "()V"⟩, 4), (⟨"CursorKeep$Plan", "wantBareEnds", "()V"⟩, 4), (⟨"CursorKeep$Plan", "wantCapitals", "()V"⟩, 4), (⟨"CursorKeep$Plan", "wantWrapped", "(I)V"⟩, 4), (⟨"CursorKeep$Neighbours", "pass", "(LCursorKeep$Row;II[I)I"⟩, 3)]
theorem lw_r1 : ∀ q ∈ lw_privs_1, lw_okq q := List.forall_mem_cons.mpr ⟨lw_p0, List.forall_mem_cons.mpr ⟨lw_p1, List.forall_mem_cons.mpr ⟨lw_p2, List.forall_mem_cons.mpr ⟨lw_p3, List.forall_mem_cons.mpr ⟨lw_p4, List.forall_mem_cons.mpr ⟨lw_p5, List.forall_mem_cons.mpr ⟨lw_p6, List.forall_mem_cons.mpr ⟨lw_p7, List.forall_mem_cons.mpr ⟨lw_p8, List.forall_mem_cons.mpr ⟨lw_p9, List.forall_mem_cons.mpr ⟨lw_p10, List.forall_mem_cons.mpr ⟨lw_p11, List.forall_mem_cons.mpr ⟨lw_p12, List.forall_mem_cons.mpr ⟨lw_p13, List.forall_mem_cons.mpr ⟨lw_p14, List.forall_mem_cons.mpr ⟨lw_p15, fun _ h => absurd h List.not_mem_nil⟩⟩⟩⟩⟩⟩⟩⟩⟩⟩⟩⟩⟩⟩⟩⟩
theorem lw_p16 : lw_okq (⟨"CursorKeep", "waitingFormatAt", "(I)LCursorKeep$Format;"⟩, 7) := ⟨⟨by decide +kernel, by decide +kernel⟩, List.mem_of_getElem? (i := 29) (by decide +kernel), List.mem_of_getElem? (i := 846) (by decide +kernel), List.mem_of_getElem? (i := 847) (by decide +kernel)⟩
theorem lw_p17 : lw_okq (⟨"CursorKeep", "formatAt", "(I)LCursorKeep$Format;"⟩, 7) := ⟨⟨by decide +kernel, by decide +kernel⟩, List.mem_of_getElem? (i := 29) (by decide +kernel), List.mem_of_getElem? (i := 850) (by decide +kernel), List.mem_of_getElem? (i := 851) (by decide +kernel)⟩
theorem lw_p18 : lw_okq (⟨"CursorKeep$Format", "spares", "(LCursorKeep$Change;LCursorKeep$Neighbours;)Z"⟩, 4) := ⟨⟨by decide +kernel, by decide +kernel⟩, List.mem_of_getElem? (i := 745) (by decide +kernel), List.mem_of_getElem? (i := 872) (by decide +kernel), List.mem_of_getElem? (i := 873) (by decide +kernel)⟩
theorem lw_p19 : lw_okq (⟨"CursorKeepModel", "goes", "(ZZZ)Z"⟩, 32) := ⟨⟨by decide +kernel, by decide +kernel⟩, List.mem_of_getElem? (i := 977) (by decide +kernel), List.mem_of_getElem? (i := 1097) (by decide +kernel), List.mem_of_getElem? (i := 1098) (by decide +kernel)⟩
theorem lw_p20 : lw_okq (⟨"CursorKeepModel", "at", "(II)I"⟩, 32) := ⟨⟨by decide +kernel, by decide +kernel⟩, List.mem_of_getElem? (i := 977) (by decide +kernel), List.mem_of_getElem? (i := 1101) (by decide +kernel), List.mem_of_getElem? (i := 1102) (by decide +kernel)⟩
theorem lw_p21 : lw_okq (⟨"CursorKeepModel", "keeps", "(II)V"⟩, 32) := ⟨⟨by decide +kernel, by decide +kernel⟩, List.mem_of_getElem? (i := 977) (by decide +kernel), List.mem_of_getElem? (i := 1105) (by decide +kernel), List.mem_of_getElem? (i := 1106) (by decide +kernel)⟩
theorem lw_p22 : lw_okq (⟨"CursorKeepModel", "placeOf", "(II)I"⟩, 32) := ⟨⟨by decide +kernel, by decide +kernel⟩, List.mem_of_getElem? (i := 977) (by decide +kernel), List.mem_of_getElem? (i := 1109) (by decide +kernel), List.mem_of_getElem? (i := 1110) (by decide +kernel)⟩
theorem lw_p23 : lw_okq (⟨"CursorKeepModel", "shows", "(I)V"⟩, 32) := ⟨⟨by decide +kernel, by decide +kernel⟩, List.mem_of_getElem? (i := 977) (by decide +kernel), List.mem_of_getElem? (i := 1117) (by decide +kernel), List.mem_of_getElem? (i := 1118) (by decide +kernel)⟩
theorem lw_p24 : lw_okq (⟨"CursorKeepModel", "leaves", "(II)V"⟩, 32) := ⟨⟨by decide +kernel, by decide +kernel⟩, List.mem_of_getElem? (i := 977) (by decide +kernel), List.mem_of_getElem? (i := 1121) (by decide +kernel), List.mem_of_getElem? (i := 1122) (by decide +kernel)⟩
theorem lw_p25 : lw_okq (⟨"CursorKeepModel", "turns", "(IZ)I"⟩, 32) := ⟨⟨by decide +kernel, by decide +kernel⟩, List.mem_of_getElem? (i := 977) (by decide +kernel), List.mem_of_getElem? (i := 1133) (by decide +kernel), List.mem_of_getElem? (i := 1134) (by decide +kernel)⟩
theorem lw_p26 : lw_okq (⟨"CursorKeepModel", "wantsLines", "(II)V"⟩, 32) := ⟨⟨by decide +kernel, by decide +kernel⟩, List.mem_of_getElem? (i := 977) (by decide +kernel), List.mem_of_getElem? (i := 1169) (by decide +kernel), List.mem_of_getElem? (i := 1170) (by decide +kernel)⟩
theorem lw_p27 : lw_okq (⟨"CursorKeepModel", "nextEnd", "(II)I"⟩, 32) := ⟨⟨by decide +kernel, by decide +kernel⟩, List.mem_of_getElem? (i := 977) (by decide +kernel), List.mem_of_getElem? (i := 1173) (by decide +kernel), List.mem_of_getElem? (i := 1174) (by decide +kernel)⟩
theorem lw_p28 : lw_okq (⟨"CursorKeepModel", "signAt", "(II)I"⟩, 32) := ⟨⟨by decide +kernel, by decide +kernel⟩, List.mem_of_getElem? (i := 977) (by decide +kernel), List.mem_of_getElem? (i := 1177) (by decide +kernel), List.mem_of_getElem? (i := 1178) (by decide +kernel)⟩
theorem lw_p29 : lw_okq (⟨"CursorKeepModel", "wants", "(III)V"⟩, 32) := ⟨⟨by decide +kernel, by decide +kernel⟩, List.mem_of_getElem? (i := 977) (by decide +kernel), List.mem_of_getElem? (i := 1181) (by decide +kernel), List.mem_of_getElem? (i := 1182) (by decide +kernel)⟩
theorem lw_p30 : lw_okq (⟨"CursorKeepModel", "wantsLetters", "(II)V"⟩, 32) := ⟨⟨by decide +kernel, by decide +kernel⟩, List.mem_of_getElem? (i := 977) (by decide +kernel), List.mem_of_getElem? (i := 1185) (by decide +kernel), List.mem_of_getElem? (i := 1186) (by decide +kernel)⟩
theorem lw_p31 : lw_okq (⟨"CursorKeepModel", "marks", "(I)V"⟩, 32) := ⟨⟨by decide +kernel, by decide +kernel⟩, List.mem_of_getElem? (i := 977) (by decide +kernel), List.mem_of_getElem? (i := 1189) (by decide +kernel), List.mem_of_getElem? (i := 1190) (by decide +kernel)⟩
def lw_privs_2 : List (MethodName × Nat) := [(⟨"CursorKeep", "waitingFormatAt", "(I)LCursorKeep$Format;"⟩, 7), (⟨"CursorKeep", "formatAt", "(I)LCursorKeep$Format;"⟩, 7), (⟨"CursorKeep$Format", "spares", "(LCursorKeep$Change;LCursorKeep$Neighbours;)Z"⟩, 4), (⟨"CursorKeepModel", "goes", "(ZZZ)Z"⟩, 32), (⟨"CursorKeepModel", "at", "(II)I"⟩, 32), (⟨"CursorKeepModel", "keeps", "(II)V"⟩, 32), (⟨"CursorKeepModel", "placeOf", "(II)I"⟩, 32), (⟨"CursorKeepModel", "shows", "(I)V"⟩, 32), (⟨"CursorKeepModel", "leaves", "(II)V"⟩, 32), (⟨"CursorKeepModel", "turns", "(IZ)I"⟩, 32), (⟨"CursorKeepModel", "wantsLines", "(II)V"⟩, 32), (⟨"CursorKeepModel", "nextEnd", "(II)I"⟩, 32), (⟨"CursorKeepModel", "signAt", "(II)I"⟩, 32), (⟨"CursorKeepModel", "wants", "(III)V"⟩, 32), (⟨"CursorKeepModel", "wantsLetters", "(II)V"⟩, 32), (⟨"CursorKeepModel", "marks", "(I)V"⟩, 32)]
theorem lw_r2 : ∀ q ∈ lw_privs_2, lw_okq q := List.forall_mem_cons.mpr ⟨lw_p16, List.forall_mem_cons.mpr ⟨lw_p17, List.forall_mem_cons.mpr ⟨lw_p18, List.forall_mem_cons.mpr ⟨lw_p19, List.forall_mem_cons.mpr ⟨lw_p20, List.forall_mem_cons.mpr ⟨lw_p21, List.forall_mem_cons.mpr ⟨lw_p22, List.forall_mem_cons.mpr ⟨lw_p23, List.forall_mem_cons.mpr ⟨lw_p24, List.forall_mem_cons.mpr ⟨lw_p25, List.forall_mem_cons.mpr ⟨lw_p26, List.forall_mem_cons.mpr ⟨lw_p27, List.forall_mem_cons.mpr ⟨lw_p28, List.forall_mem_cons.mpr ⟨lw_p29, List.forall_mem_cons.mpr ⟨lw_p30, List.forall_mem_cons.mpr ⟨lw_p31, fun _ h => absurd h List.not_mem_nil⟩⟩⟩⟩⟩⟩⟩⟩⟩⟩⟩⟩⟩⟩⟩⟩
theorem lw_p32 : lw_okq (⟨"CursorKeepModel", "nearest", "(III)I"⟩, 32) := ⟨⟨by decide +kernel, by decide +kernel⟩, List.mem_of_getElem? (i := 977) (by decide +kernel), List.mem_of_getElem? (i := 1193) (by decide +kernel), List.mem_of_getElem? (i := 1194) (by decide +kernel)⟩
theorem lw_p33 : lw_okq (⟨"CursorKeepModel", "isFormat", "(I)Z"⟩, 32) := ⟨⟨by decide +kernel, by decide +kernel⟩, List.mem_of_getElem? (i := 977) (by decide +kernel), List.mem_of_getElem? (i := 1201) (by decide +kernel), List.mem_of_getElem? (i := 1202) (by decide +kernel)⟩
theorem lw_p34 : lw_okq (⟨"CursorKeepModel", "sparedNow", "(I)I"⟩, 32) := ⟨⟨by decide +kernel, by decide +kernel⟩, List.mem_of_getElem? (i := 977) (by decide +kernel), List.mem_of_getElem? (i := 1205) (by decide +kernel), List.mem_of_getElem? (i := 1206) (by decide +kernel)⟩
theorem lw_p35 : lw_okq (⟨"CursorKeepModel", "isSpared", "(II)Z"⟩, 32) := ⟨⟨by decide +kernel, by decide +kernel⟩, List.mem_of_getElem? (i := 977) (by decide +kernel), List.mem_of_getElem? (i := 1209) (by decide +kernel), List.mem_of_getElem? (i := 1210) (by decide +kernel)⟩
theorem lw_p36 : lw_okq (⟨"CursorKeepModel", "hasCursor", "(II)Z"⟩, 32) := ⟨⟨by decide +kernel, by decide +kernel⟩, List.mem_of_getElem? (i := 977) (by decide +kernel), List.mem_of_getElem? (i := 1213) (by decide +kernel), List.mem_of_getElem? (i := 1214) (by decide +kernel)⟩
theorem lw_p37 : lw_okq (⟨"CursorKeepModel", "canWrite", "(I)Z"⟩, 32) := ⟨⟨by decide +kernel, by decide +kernel⟩, List.mem_of_getElem? (i := 977) (by decide +kernel), List.mem_of_getElem? (i := 1241) (by decide +kernel), List.mem_of_getElem? (i := 1242) (by decide +kernel)⟩
def lw_privs_3 : List (MethodName × Nat) := [(⟨"CursorKeepModel", "nearest", "(III)I"⟩, 32), (⟨"CursorKeepModel", "isFormat", "(I)Z"⟩, 32), (⟨"CursorKeepModel", "sparedNow", "(I)I"⟩, 32), (⟨"CursorKeepModel", "isSpared", "(II)Z"⟩, 32), (⟨"CursorKeepModel", "hasCursor", "(II)Z"⟩, 32), (⟨"CursorKeepModel", "canWrite", "(I)Z"⟩, 32)]
theorem lw_r3 : ∀ q ∈ lw_privs_3, lw_okq q := List.forall_mem_cons.mpr ⟨lw_p32, List.forall_mem_cons.mpr ⟨lw_p33, List.forall_mem_cons.mpr ⟨lw_p34, List.forall_mem_cons.mpr ⟨lw_p35, List.forall_mem_cons.mpr ⟨lw_p36, List.forall_mem_cons.mpr ⟨lw_p37, fun _ h => absurd h List.not_mem_nil⟩⟩⟩⟩⟩⟩
def lw_privs : List (MethodName × Nat) := lw_privs_1 ++ (lw_privs_2 ++ (lw_privs_3))
def lw_tbl : List Cond := k2_sels lw_privs ++ tables_1
theorem lw_privs_ok : ∀ q ∈ lw_privs, lw_okq q := by
  show ∀ q ∈ lw_privs_1 ++ (lw_privs_2 ++ (lw_privs_3)), lw_okq q
  exact List.forall_mem_append.mpr ⟨lw_r1, List.forall_mem_append.mpr ⟨lw_r2, lw_r3⟩⟩
-- ===== end of PART A; then your names; then what follows =====
end
section
/-! ===== BEGIN words of one list among another's, by their places ===== -/
theorem goodIn_r {big : List Cond} (ws : List Cond) (ps : List Nat) (hp : ws = ps.filterMap (fun i => big[i]?)) (h : ws.all goodWord = true) : GoodIn big ws := by
  intro w hw
  have h1 := List.all_eq_true.mp h w hw
  rw [hp] at hw
  obtain ⟨i, -, hi⟩ := List.mem_filterMap.mp hw
  have hm : w ∈ big := by first | exact List.mem_of_getElem? hi | exact List.getElem?_mem hi
  exact ⟨hm, good_of_word h1⟩
theorem goodIn_app {big a b : List Cond} (ha : GoodIn big a) (hb : GoodIn big b) : GoodIn big (a ++ b) := fun w h => (List.mem_append.mp h).elim (ha w) (hb w)
theorem goodIn_ca {big a b : List Cond} {c : Cond} (ha : GoodIn big (c :: a)) (hb : GoodIn big b) : GoodIn big (c :: (a ++ b)) := fun w h => (List.mem_cons.mp h).elim (fun e => ha w (List.mem_cons.mpr (Or.inl e))) (fun h => (List.mem_append.mp h).elim (fun h => ha w (List.mem_cons.mpr (Or.inr h))) (hb w))
theorem goodIn_sub {big ws : List Cond} (hm : ∀ w ∈ ws, w ∈ big) (h : ws.all goodWord = true) : GoodIn big ws := fun w hw => ⟨hm w hw, good_of_word (List.all_eq_true.mp h w hw)⟩
/-! ===== END ===== -/

/-! ===== BEGIN exceptions that leave a method, and their catching by the caller (launches without stack traces) ===== -/
section VXA
/-! The laws vx_back, vx_callV, vx_callS, vx_callSW, vx_throw0, vx_throwS follow proofs of the library, with one case more: JvmDerived/Free/Laws.lean (Back.of_free), Shelf42/LK1.lean (callV, callS), Shelf/KitTraced.lean (throwNew0V, throwNewS). -/
/-- where a method has thrown q: the class by its name, the cell, what was written, the world -/
def vx_T (XC : String → State → State → Prop) (st : State) (q : Addr) (t : State) (mc ms : Nat) (free : Addr → Prop) : Prop :=
  ∃ (E : String) (ce : Cell) (L : List Loc), XC E st t ∧ t.heap[q]? = some ce ∧ ce.vm = .none ∧ st.vm.findClass E = some ce.cls ∧ st.WarmedH t.vm ∧ st.sameButNew ({ t with vm := st.vm } : State) L mc ms ∧ ∀ z ∈ L, free z.base
def vx_Q (Qc : Array Value → State → Outcome → State → Prop) (XC : String → State → State → Prop) (mc ms : Nat) (free : Addr → Prop) : Array Value → State → Outcome → State → Prop := fun a st o t =>
  (Qc a st o t ∧ ∃ L, FrameEnd st o t L mc ms ∧ ∀ q ∈ L, free q.base) ∨ ∃ q, o = .threw q ∧ vx_T XC st q t mc ms free
/-- a callee that returns or throws -/
def vx_Met (l : Launch) (y : MethodName) (ws : List Cond) (rm : Room) (Pc : Array Value → State → Prop) (Qc : Array Value → State → Outcome → State → Prop) (XC : String → State → State → Prop) (mc ms : Nat) (free : Addr → Prop) : Prop :=
  MetFree l y (headSpec ws rm) Pc (fun _ _ _ _ _ => True) (vx_Q Qc XC mc ms free)
def vx_Post (XC : String → State → State → Prop) (mc ms : Nat) (free : Addr → Prop) : Pt → Array Value → Addr → Pt → Prop := fun A a q B =>
  ∃ (g : JFrame) (mk : MethodId) (t : State) (L : List Loc) (E : String) (ce : Cell), B.U.heap = t.heap ∧ B.U.vm = t.vm ∧ XC E (A.U.calling g mk a) t ∧ t.heap[q]? = some ce ∧ ce.vm = .none ∧ A.U.vm.findClass E = some ce.cls ∧ B.locs = A.locs ++ L ∧ (∀ z ∈ L, free z.base) ∧ B.cells = A.cells + mc ∧ B.slots = A.slots + ms
def vx_Back (l : Launch) (R : Room) (p : Program) (e : Env) (below : List Frame) (s : State) (sargs : Array Value) (y : MethodName) (len W9 : Nat)
    (Pre : Pt → Array Value → Prop) (Post : Pt → Array Value → Option Value → Pt → Prop) (PostX : Pt → Array Value → Addr → Pt → Prop) : Prop :=
  ∀ (m : MethodId) (meth : Method) (c : Code) (A : Pt) (g : JFrame) (ig : Instr) (mk : MethodId) (a : Array Value),
    Stand p l e R s m sargs below meth c A.U A.locs A.cells A.slots → g.method = m → g.locals.size = c.maxLocals → decode c.code g.pc = .ok (ig, len) →
    2 * g.monitorRoom + (g.stack.map fun v => v.category).sum ≤ W9 → A.U.methodNamed? y = some mk → Pre A a →
    (∃ (v : Option Value) (B : Pt), Stand p l e R s m sargs below meth c B.U B.locs B.cells B.slots ∧ Post A a v B ∧
      Steps p.tables e below (doInvoke e (A.U.setTop g) [] mk a).1 (B.U.setTop { g with pc := g.pc + len, stack := v.toList ++ g.stack })) ∨
    (∃ (q : Addr) (B : Pt), Stand p l e R s m sargs below meth c B.U B.locs B.cells B.slots ∧ PostX A a q B ∧
      Steps p.tables e below (doInvoke e (A.U.setTop g) [] mk a).1 ((B.U.setTop g).pushFrame (.throwing q)))
section Payer
variable {l : Launch} {R : Room} {p : Program} {e : Env} {below : List Frame} {s : State} {sargs : Array Value} {y : MethodName} {len W9 : Nat}
theorem vx_back {ws : List Cond} {rm : Room} {Pc : Array Value → State → Prop} {Qc : Array Value → State → Outcome → State → Prop} {XC : String → State → State → Prop} {mc ms : Nat} {free : Addr → Prop} {bytes : ByteArray} {maxL : Nat} {ret : Option FieldType}
    (hM : vx_Met l y ws rm Pc Qc XC mc ms free) (hblind : FrameBlind Pc) (hrc : rm.cells = mc) (hrs : rm.slots = ms)
    (hframes : rm.frames + 1 ≤ R.frames) (hlocals : W9 + (maxL + 11) + rm.locals ≤ R.locals)
    (hws : ∀ w ∈ ws, ∀ a' U, s.WarmedH U.vm → w.before a' U = true) (hcode : Cond.code y bytes maxL ret ∈ ws) (hinit : ∀ a' U, s.WarmedH U.vm → (Cond.initialized y.cls).before a' U = true) :
    vx_Back l R p e below s sargs y len W9 (PreOf R mc ms Pc) (PostOf Qc mc ms free) (vx_Post XC mc ms free) := by
  intro m meth c A g ig mk a X hg hsize hdg hW hn hp
  have h1 : (headSpec ws rm).pre.before a A.U = true := atoms_intro fun w hw => hws w hw _ _ X.warmed
  have h2 : (Cond.code y bytes maxL ret).before a A.U = true := hws _ hcode _ _ X.warmed
  have h3 : (Cond.initialized y.cls).before a A.U = true := hinit _ _ X.warmed
  have h4 : A.cells + (headSpec ws rm).room.cells ≤ R.cells := by rw [show (headSpec ws rm).room.cells = mc from hrc]; exact hp.1
  have h5 : A.slots + (headSpec ws rm).room.slots ≤ R.slots := by rw [show (headSpec ws rm).room.slots = ms from hrs]; exact hp.2.1
  have hPc : Pc a (A.U.calling g mk a) := hblind _ _ _ _ hp.2.2
  obtain ⟨U, Ls, c0, s0⟩ := A
  dsimp only [Pt.U, Pt.locs, Pt.cells, Pt.slots] at h1 h2 h3 h4 h5 X hn hPc ⊢
  obtain ⟨methY, cY, hmY, hcY, -, hlY, -, -, -, -⟩ := Cond.code_spec hn h2
  obtain ⟨kY, hkY, -⟩ := className_of_methodNamed hn
  have hinitY : kY.init = .initialized := Cond.initialized_spec (findClass_of_methodNamed hn) hkY h3
  have h : At U g.method c below := by rw [hg]; exact X.here
  have hlocals9 : W9 + (maxL + 11) + (headSpec ws rm).room.locals ≤ R.locals := hlocals
  have happ : (headSpec ws rm).appliesLoose y e.platform (U.calling g mk a) = true :=
    Spec.appliesLoose_calling (g := g) h hdg hn hkY hinitY
      (X.room_calling (g := g) (R' := (headSpec ws rm).room) hsize hmY hcY hframes (by rw [hlY]; omega) h4 h5) h1
  obtain ⟨mid, hmid⟩ := h.above
  have hfr : (U.setTop g).frames = (.java g :: mid) ++ below := by rw [State.frames_setTop' g h.top, hmid]; rfl
  obtain ⟨o, s₂, hsteps, -, hend, hq⟩ := Steps.callFree hM p X.admits X.cas X.clock (acts := []) hfr happ hPc trivial
  have hq' : vx_Q Qc XC mc ms free a (U.calling g mk a) o s₂ := hq
  rw [State.frames_setTop' g h.top] at hend
  obtain ⟨g₀, hg0⟩ := Option.isSome_iff_exists.mp h.top
  obtain ⟨r, hr⟩ := State.topJava?_eq_some.mp hg0
  have hr' : (({ U with heap := s₂.heap, slotsUsed := s₂.slotsUsed } : State).setVm s₂.vm).frames = .java g₀ :: r := hr
  rcases hq' with ⟨hqc, L, hfe, hL⟩ | ⟨q, rfl, E, ce, L, hx, hce, hcv, hcl, hW₂, hsm, hL⟩
  · obtain ⟨⟨v, rfl⟩, hW₂, e2, q2, q3, q4, q5, q6⟩ := id hfe
    have e3 : s₂ = ({ (U.calling g mk a).setFrames s₂.frames with heap := s₂.heap, slotsUsed := s₂.slotsUsed } : State).setVm s₂.vm := by
      have : s₂ = ({ s₂ with vm := (U.calling g mk a).vm } : State).setVm s₂.vm := rfl
      rw [e2] at this
      exact this
    obtain ⟨c₂, i₂, len₂, hc₂, hd₂, hf₂⟩ := hend
    have hW' : U.WarmedH s₂.vm := hW₂
    have hcc : c₂ = c := by
      have h1 : s₂.code? g.method = U.code? g.method := by
        rw [State.code?_eq, State.code?_eq, hW'.alike.method?]
      exact Option.some.inj (hc₂.symm.trans (h1.trans h.code))
    subst hcc
    have hlen : len₂ = len := by rw [hdg] at hd₂; cases hd₂; rfl
    subst hlen
    have hs₂ : s₂ = (({ U with heap := s₂.heap, slotsUsed := s₂.slotsUsed } : State).setVm s₂.vm).setTop { g with pc := g.pc + len₂, stack := v.toList ++ g.stack } := by
      refine e3.trans ?_
      rw [hf₂, State.calling_eq h.top, State.setFrames_setFrames, State.setTop_of_frames _ hr', hr]
      rfl
    have hsame : U.sameButNew ({ U with heap := s₂.heap, slotsUsed := s₂.slotsUsed } : State) L mc ms := by
      refine ⟨?_, q2, q3, q4, q5, q6⟩
      obtain ⟨t, ht, -⟩ := State.frames_cons hr
      show ({ U with heap := s₂.heap, slotsUsed := s₂.slotsUsed } : State) = { U.setFrames U.frames with heap := s₂.heap, slotsUsed := s₂.slotsUsed }
      rw [State.setFrames_self ht]
    subst hg
    refine Or.inl ⟨v, ⟨(({ U with heap := s₂.heap, slotsUsed := s₂.slotsUsed } : State).setVm s₂.vm), Ls ++ L, c0 + mc, s0 + ms⟩,
      ⟨X.admits, X.cas, X.clock, X.frames, X.room, X.hears, X.method, X.code, (X.here.setHeapUsed s₂.heap s₂.slotsUsed).setVm hW'.alike, X.tail, State.WarmedH.trans X.warmed hW', X.limits, X.bytes, X.same.trans (hsame.setVm s.vm)⟩,
      ⟨g, mk, s₂, L, rfl, rfl, hqc, rfl, hL, rfl, rfl⟩, ?_⟩
    show Steps p.tables e below _ ((({ U with heap := s₂.heap, slotsUsed := s₂.slotsUsed } : State).setVm s₂.vm).setTop { g with pc := g.pc + len₂, stack := v.toList ++ g.stack })
    rw [← hs₂]
    exact hsteps
  · obtain ⟨e2, q2, q3, q4, q5, q6⟩ := id hsm
    have e3 : s₂ = ({ (U.calling g mk a).setFrames s₂.frames with heap := s₂.heap, slotsUsed := s₂.slotsUsed } : State).setVm s₂.vm := by
      have : s₂ = ({ s₂ with vm := (U.calling g mk a).vm } : State).setVm s₂.vm := rfl
      rw [e2] at this
      exact this
    have hf₂ : s₂.frames = .throwing q :: .java g :: U.frames.tail := hend
    have hW' : U.WarmedH s₂.vm := hW₂
    have hs₂ : s₂ = ((({ U with heap := s₂.heap, slotsUsed := s₂.slotsUsed } : State).setVm s₂.vm).setTop g).pushFrame (.throwing q) := by
      refine e3.trans ?_
      rw [hf₂, State.calling_eq h.top, State.setFrames_setFrames, State.pushFrame, State.frames_setTop _ hr', State.setTop_of_frames _ hr', State.setFrames_setFrames, hr]
      rfl
    have hsame : U.sameButNew ({ U with heap := s₂.heap, slotsUsed := s₂.slotsUsed } : State) L mc ms := by
      refine ⟨?_, q2, q3, q4, q5, q6⟩
      obtain ⟨t, ht, -⟩ := State.frames_cons hr
      show ({ U with heap := s₂.heap, slotsUsed := s₂.slotsUsed } : State) = { U.setFrames U.frames with heap := s₂.heap, slotsUsed := s₂.slotsUsed }
      rw [State.setFrames_self ht]
    subst hg
    refine Or.inr ⟨q, ⟨(({ U with heap := s₂.heap, slotsUsed := s₂.slotsUsed } : State).setVm s₂.vm), Ls ++ L, c0 + mc, s0 + ms⟩,
      ⟨X.admits, X.cas, X.clock, X.frames, X.room, X.hears, X.method, X.code, (X.here.setHeapUsed s₂.heap s₂.slotsUsed).setVm hW'.alike, X.tail, State.WarmedH.trans X.warmed hW', X.limits, X.bytes, X.same.trans (hsame.setVm s.vm)⟩,
      ⟨g, mk, s₂, L, E, ce, rfl, rfl, hx, hce, hcv, hcl, rfl, hL, rfl, rfl⟩, ?_⟩
    show Steps p.tables e below _ (((({ U with heap := s₂.heap, slotsUsed := s₂.slotsUsed } : State).setVm s₂.vm).setTop g).pushFrame (.throwing q))
    rw [← hs₂]
    exact hsteps
end Payer
section Calls
variable {p : Program} {l : Launch} {e : Env} {R : Room} {s : State} {m : MethodId} {args : Array Value} {below : List Frame} {meth : Method} {c : Code} {T : State} {locs : List Loc} {cells slots : Nat}
theorem vx_callV (X : Stand p l e R s m args below meth c T locs cells slots) (hexec : p.tables.exec = Jvm.exec) {own C : String} {index : Nat} {y : MethodName} {bytes : ByteArray} {maxL : Nat} {ret : Option FieldType}
    (hown : s.vm.findClass own = some m.cls) (hlink : (Cond.methodLink own index y).before args s = true) (hinst : (Cond.instanceMethod y).before args s = true) (hsel : (Cond.selects C y y).before args s = true)
    (hcode : (Cond.code y bytes maxL ret).before args s = true) (hy : y.cls ≠ "java/lang/invoke/MethodHandle" ∧ y.cls ≠ "java/lang/invoke/VarHandle")
    {W9 : Nat} {Pre : Pt → Array Value → Prop} {Post : Pt → Array Value → Option Value → Pt → Prop} {PostX : Pt → Array Value → Addr → Pt → Prop} (hK : vx_Back l R p e below s args y 3 W9 Pre Post PostX)
    {b : Addr} {cellB : Cell} (hcell : T.heap[b]? = some cellB) (hobj : cellB.vm.isStatics = false) (hcls : s.vm.findClass C = some cellB.cls)
    {g : JFrame} (hg : g.method = m) (hsize : g.locals.size = c.maxLocals) {argsL rest : List Value} (hlen : ∀ sig, parseMethodDescriptor y.desc = some sig → argsL.length = sig.parameters.length)
    (hstack : g.stack = argsL.reverse ++ .ref b :: rest) (hW : 2 * g.monitorRoom + (rest.map fun v => v.category).sum ≤ W9) (hdg : decode c.code g.pc = .ok (.invokevirtual index, 3))
    (hpre : ∀ vm₁, s.WarmedH vm₁ → Pre ⟨T.setVm vm₁, locs, cells, slots⟩ (Value.ref b :: argsL).toArray) :
    (∃ (v : Option Value) (vm₁ : Vm) (B : Pt), s.WarmedH vm₁ ∧ Stand p l e R s m args below meth c B.U B.locs B.cells B.slots ∧ Post ⟨T.setVm vm₁, locs, cells, slots⟩ (Value.ref b :: argsL).toArray v B ∧
      ∀ target, Steps p.tables e below (B.U.setTop { g with pc := g.pc + 3, stack := v.toList ++ rest }) target → Steps p.tables e below (T.setTop g) target) ∨
    (∃ (q : Addr) (vm₁ : Vm) (B : Pt), s.WarmedH vm₁ ∧ Stand p l e R s m args below meth c B.U B.locs B.cells B.slots ∧ PostX ⟨T.setVm vm₁, locs, cells, slots⟩ (Value.ref b :: argsL).toArray q B ∧
      Steps p.tables e below (T.setTop g) ((B.U.setTop { g with stack := rest }).pushFrame (.throwing q))) := by
  obtain ⟨mk, methM, hnamed, hmethM, hstM, habM⟩ := Cond.instanceMethod_spec hinst
  obtain ⟨methM', cM, hmethM', -, -, -, -, -, -, hsigM⟩ := Cond.code_spec hnamed hcode
  cases hmethM.symm.trans hmethM'
  obtain ⟨c2, r2, m2, q1, q2, q3, q4, kP, hkP, hkPi⟩ := Cond.selects_spec hsel
  cases hcls.symm.trans q1
  cases (State.methodFound?_of_named hnamed hy).symm.trans q2
  cases hnamed.symm.trans q3
  have hselP : selectMethod e.platform s.vm cellB.cls mk = .method mk := by rw [Launch.admits_selectMethod X.admits]; exact q4
  obtain ⟨vm₁, X₁, hstep₁⟩ := X.invokevirtual hexec hown hlink hnamed hmethM hstM hkP hkPi hy (a := b) (cell := cellB) hcell
    (fun z h => by rw [h] at hobj; cases hobj) hselP hmethM habM hkP hkPi (g := g) hg (argsL := argsL) (rest := rest) (hlen _ hsigM) hstack hdg
  rcases hK m meth c ⟨T.setVm vm₁, locs, cells, slots⟩ { g with stack := rest } (.invokevirtual index) mk (Value.ref b :: argsL).toArray X₁ hg hsize hdg hW (X₁.named hnamed) (hpre vm₁ X₁.warmed) with ⟨v, B, X', hpost, hsteps⟩ | ⟨q, B, X', hpost, hsteps⟩
  · exact Or.inl ⟨v, vm₁, B, X₁.warmed, X', hpost, fun target h => hstep₁ _ fun acts => by rw [doInvoke_state]; exact hsteps.trans h⟩
  · exact Or.inr ⟨q, vm₁, B, X₁.warmed, X', hpost, hstep₁ _ fun acts => by rw [doInvoke_state]; exact hsteps⟩
theorem vx_callS (X : Stand p l e R s m args below meth c T locs cells slots) (hexec : p.tables.exec = Jvm.exec) {own : String} {index : Nat} {y : MethodName} {bytes : ByteArray} {maxL : Nat} {ret : Option FieldType}
    (hown : s.vm.findClass own = some m.cls) (hlink : (Cond.methodLink own index y).before args s = true) (hstat : (Cond.static y).before args s = true) (hinit : (Cond.initialized y.cls).before args s = true)
    (hcode : (Cond.code y bytes maxL ret).before args s = true) (hy : y.cls ≠ "java/lang/invoke/MethodHandle" ∧ y.cls ≠ "java/lang/invoke/VarHandle")
    {W9 : Nat} {Pre : Pt → Array Value → Prop} {Post : Pt → Array Value → Option Value → Pt → Prop} {PostX : Pt → Array Value → Addr → Pt → Prop} (hK : vx_Back l R p e below s args y 3 W9 Pre Post PostX)
    {g : JFrame} (hg : g.method = m) (hsize : g.locals.size = c.maxLocals) {argsL rest : List Value} (hlen : ∀ sig, parseMethodDescriptor y.desc = some sig → argsL.length = sig.parameters.length)
    (hstack : g.stack = argsL.reverse ++ rest) (hW : 2 * g.monitorRoom + (rest.map fun v => v.category).sum ≤ W9) (hdg : decode c.code g.pc = .ok (.invokestatic index, 3))
    (hpre : ∀ vm₁, s.WarmedH vm₁ → Pre ⟨T.setVm vm₁, locs, cells, slots⟩ argsL.toArray) :
    (∃ (v : Option Value) (vm₁ : Vm) (B : Pt), s.WarmedH vm₁ ∧ Stand p l e R s m args below meth c B.U B.locs B.cells B.slots ∧ Post ⟨T.setVm vm₁, locs, cells, slots⟩ argsL.toArray v B ∧
      ∀ target, Steps p.tables e below (B.U.setTop { g with pc := g.pc + 3, stack := v.toList ++ rest }) target → Steps p.tables e below (T.setTop g) target) ∨
    (∃ (q : Addr) (vm₁ : Vm) (B : Pt), s.WarmedH vm₁ ∧ Stand p l e R s m args below meth c B.U B.locs B.cells B.slots ∧ PostX ⟨T.setVm vm₁, locs, cells, slots⟩ argsL.toArray q B ∧
      Steps p.tables e below (T.setTop g) ((B.U.setTop { g with stack := rest }).pushFrame (.throwing q))) := by
  obtain ⟨mk, hnamed⟩ := Cond.code_named hcode
  obtain ⟨methM, cM, hmethM, -, -, -, -, -, -, hsigM⟩ := Cond.code_spec hnamed hcode
  have hstatic : methM.isStatic = true := Cond.static_spec hnamed hmethM hstat
  obtain ⟨kP, hkP, -⟩ := className_of_methodNamed hnamed
  have hinitP : kP.init = .initialized := Cond.initialized_spec (findClass_of_methodNamed hnamed) hkP hinit
  obtain ⟨vm₁, X₁, hstep₁⟩ := X.invokestatic hexec hown hlink hnamed hmethM hstatic hkP hinitP hy (g := g) hg (argsL := argsL) (rest := rest) (hlen _ hsigM) hstack hdg
  rcases hK m meth c ⟨T.setVm vm₁, locs, cells, slots⟩ { g with stack := rest } (.invokestatic index) mk argsL.toArray X₁ hg hsize hdg hW (X₁.named hnamed) (hpre vm₁ X₁.warmed) with ⟨v, B, X', hpost, hsteps⟩ | ⟨q, B, X', hpost, hsteps⟩
  · exact Or.inl ⟨v, vm₁, B, X₁.warmed, X', hpost, fun target h => hstep₁ _ fun acts => by rw [doInvoke_state]; exact hsteps.trans h⟩
  · exact Or.inr ⟨q, vm₁, B, X₁.warmed, X', hpost, hstep₁ _ fun acts => by rw [doInvoke_state]; exact hsteps⟩
end Calls
theorem vx_cls {s : State} {T : State} {vm₁ : Vm} {E : String} {k : ClassId} (hW : s.WarmedH vm₁) (h : (T.setVm vm₁).vm.findClass E = some k) : s.vm.findClass E = some k := by
  have h1 : vm₁.findClass E = some k := h
  rw [hW.alike.findClass] at h1
  exact h1
/-- the method's frame g, with q thrown over it -/
def vx_W (p : Program) (l : Launch) (e : Env) (R : Room) (s : State) (m : MethodId) (args : Array Value) (below : List Frame) (meth : Method) (c : Code) (H : Heap) (locs : List Loc) (cells slots : Nat) (Q : State → Prop) (g : JFrame) (q : Addr) : Prop :=
  ∀ T : State, T.heap = H → Stand p l e R s m args below meth c T locs cells slots → ∃ t, Steps p.tables e below ((T.setTop g).pushFrame (.throwing q)) t ∧ Q t
def vx_Run (p : Program) (l : Launch) (e : Env) (R : Room) (s : State) (m : MethodId) (args : Array Value) (below : List Frame) (meth : Method) (c : Code) (H : Heap) (locs : List Loc) (cells slots mc ms : Nat) (g : JFrame) (rest : List Value) (Qa : State → Outcome → State → Prop) (XC : String → State → State → Prop) (free : Addr → Prop) : Prop :=
  ∀ T : State, T.heap = H → Stand p l e R s m args below meth c T locs cells slots →
    (∃ (v : Option Value) (st₀ t T' : State) (L : List Loc), st₀.heap = H ∧ Stand p l e R s m args below meth c T' (locs ++ L) (cells + mc) (slots + ms) ∧ (∀ q ∈ L, free q.base) ∧ T'.heap = t.heap ∧ T'.vm = t.vm ∧ Qa st₀ (.returned v) t ∧
      Goes p e below T g T' { g with pc := g.pc + 3, stack := v.toList ++ rest }) ∨
    (∃ (q : Addr) (st₀ t T' : State) (L : List Loc) (E : String) (ce : Cell), st₀.heap = H ∧ Stand p l e R s m args below meth c T' (locs ++ L) (cells + mc) (slots + ms) ∧ (∀ z ∈ L, free z.base) ∧ T'.heap = t.heap ∧ T'.vm = t.vm ∧ XC E st₀ t ∧ t.heap[q]? = some ce ∧ ce.vm = .none ∧ s.vm.findClass E = some ce.cls ∧
      Steps p.tables e below (T.setTop g) ((T'.setTop { g with stack := rest }).pushFrame (.throwing q)))
def vx_X {S : Type} (px : S → Prop) (B : String → S → State → Prop) (A : Nat → Prop) : String → State → State → Prop := fun E st t => ∃ u : S, px u ∧ B E u t ∧ va_F A st t
section Runs
variable {p : Program} {l : Launch} {e : Env} {R : Room} {s : State} {m : MethodId} {args : Array Value} {below : List Frame} {meth : Method} {c : Code} {H : Heap} {locs : List Loc} {cells slots : Nat}
variable {y : MethodName} {bytes cc : ByteArray} {maxL nL mc ms n index : Nat} {ret : Option FieldType} {ws : List Cond} {rm : Room} {Pc : Array Value → State → Prop} {Qc : Array Value → State → Outcome → State → Prop} {XC : String → State → State → Prop} {free : Addr → Prop} {Ts : List Cond} {own C : String} {b : Addr} {As rest : List Value} {g : JFrame}
theorem vx_callBack (cb : CallB R s args own index y bytes maxL ret ws rm mc ms n) (hM : vx_Met l y ws rm Pc Qc XC mc ms free) (hbl : FrameBlind Pc) : vx_Back l R p e below s args y 3 8 (PreOf R mc ms Pc) (PostOf Qc mc ms free) (vx_Post XC mc ms free) := by
  obtain ⟨hrc, hrs, hfr, hlo, hws, hcw, -, hini, -⟩ := cb
  exact vx_back (bytes := bytes) (maxL := maxL) (ret := ret) hM hbl hrc hrs hfr hlo hws hcw (fun a' U hW => word_at hW (Or.inl (by first | rfl | simp [Cond.onTables, Cond.keeps, Cond.steady])) hini)
theorem vx_runV (S : CallFix p m c cc nL s args Ts own) (hM : vx_Met l y ws rm Pc Qc XC mc ms free) (cw : CallW R s args own C index y bytes maxL ret ws rm mc ms n) (hp : PreV s H C b Pc As)
    (hg : g.method = m) (hn : As.length = n) (hsize : g.locals.size = nL) (hstack : g.stack = As.reverse ++ .ref b :: rest) (hW : 2 * g.monitorRoom + (rest.map fun v => v.category).sum ≤ 8) (hdg : decode cc g.pc = .ok (.invokevirtual index, 3)) (hf : cells + mc ≤ R.cells ∧ slots + ms ≤ R.slots) :
    vx_Run p l e R s m args below meth c H locs cells slots mc ms g rest (Qc (Value.ref b :: As).toArray) XC free := by
  have hK : vx_Back l R p e below s args y 3 8 (PreOf R mc ms Pc) (PostOf Qc mc ms free) (vx_Post XC mc ms free) := vx_callBack cw.1 hM hp.1
  obtain ⟨⟨-, -, -, -, -, -, hcode, -, hy, hlen, hl⟩, hin, hse⟩ := cw
  obtain ⟨hx, hb, hml, ho, -⟩ := S
  obtain ⟨-, ⟨cellB, hcB, hoB, hclB⟩, hPc⟩ := hp
  intro T hT X
  rcases vx_callV X hx (C := C) (bytes := bytes) (maxL := maxL) (ret := ret) ho hl hin hse hcode hy hK (by rw [hT]; exact hcB) hoB hclB hg (hsize.trans hml.symm) (argsL := As) (rest := rest) (fun sig h => hn.trans (hlen sig h)) hstack hW (by rw [hb]; exact hdg)
    (fun vm₁ hW₁ => ⟨hf.1, hf.2, hPc (T.setVm vm₁) hT hW₁⟩) with ⟨v, vm₁, ⟨U', l2, c2, s2⟩, hW₁, X', ⟨g', mk, t, L, e1, e2, hq, h1, hL, h2, h3⟩, st⟩ | ⟨q, vm₁, ⟨U', l2, c2, s2⟩, hW₁, X', ⟨g', mk, t, L, E, ce, e1, e2, hq, hce, hcv, hcl, h1, hL, h2, h3⟩, st⟩
  · dsimp only [Pt.U, Pt.locs, Pt.cells, Pt.slots] at X' e1 e2 h1 h2 h3 st
    subst h1; subst h2; subst h3
    exact Or.inl ⟨v, (T.setVm vm₁).calling g' mk (Value.ref b :: As).toArray, t, U', L, hT, X', hL, e1, e2, hq, st⟩
  · dsimp only [Pt.U, Pt.locs, Pt.cells, Pt.slots] at X' e1 e2 h1 h2 h3 st hcl
    subst h1; subst h2; subst h3
    exact Or.inr ⟨q, (T.setVm vm₁).calling g' mk (Value.ref b :: As).toArray, t, U', L, E, ce, hT, X', hL, e1, e2, hq, hce, hcv, vx_cls hW₁ hcl, st⟩
theorem vx_runS (S : CallFix p m c cc nL s args Ts own) (hM : vx_Met l y ws rm Pc Qc XC mc ms free) (cw : CallB R s args own index y bytes maxL ret ws rm mc ms n ∧ (Cond.static y).before args s = true) (hp : PreS s H Pc As)
    (hg : g.method = m) (hn : As.length = n) (hsize : g.locals.size = nL) (hstack : g.stack = As.reverse ++ rest) (hW : 2 * g.monitorRoom + (rest.map fun v => v.category).sum ≤ 8) (hdg : decode cc g.pc = .ok (.invokestatic index, 3)) (hf : cells + mc ≤ R.cells ∧ slots + ms ≤ R.slots) :
    vx_Run p l e R s m args below meth c H locs cells slots mc ms g rest (Qc As.toArray) XC free := by
  have hK : vx_Back l R p e below s args y 3 8 (PreOf R mc ms Pc) (PostOf Qc mc ms free) (vx_Post XC mc ms free) := vx_callBack cw.1 hM hp.1
  obtain ⟨⟨-, -, -, -, -, -, hcode, hini, hy, hlen, hl⟩, hstt⟩ := cw
  obtain ⟨hx, hb, hml, ho, -⟩ := S
  intro T hT X
  rcases vx_callS X hx (bytes := bytes) (maxL := maxL) (ret := ret) ho hl hstt hini hcode hy hK hg (hsize.trans hml.symm) (argsL := As) (rest := rest) (fun sig h => hn.trans (hlen sig h)) hstack hW (by rw [hb]; exact hdg)
    (fun vm₁ hW₁ => ⟨hf.1, hf.2, hp.2 (T.setVm vm₁) hT hW₁⟩) with ⟨v, vm₁, ⟨U', l2, c2, s2⟩, hW₁, X', ⟨g', mk, t, L, e1, e2, hq, h1, hL, h2, h3⟩, st⟩ | ⟨q, vm₁, ⟨U', l2, c2, s2⟩, hW₁, X', ⟨g', mk, t, L, E, ce, e1, e2, hq, hce, hcv, hcl, h1, hL, h2, h3⟩, st⟩
  · dsimp only [Pt.U, Pt.locs, Pt.cells, Pt.slots] at X' e1 e2 h1 h2 h3 st
    subst h1; subst h2; subst h3
    exact Or.inl ⟨v, (T.setVm vm₁).calling g' mk As.toArray, t, U', L, hT, X', hL, e1, e2, hq, st⟩
  · dsimp only [Pt.U, Pt.locs, Pt.cells, Pt.slots] at X' e1 e2 h1 h2 h3 st hcl
    subst h1; subst h2; subst h3
    exact Or.inr ⟨q, (T.setVm vm₁).calling g' mk As.toArray, t, U', L, E, ce, hT, X', hL, e1, e2, hq, hce, hcv, vx_cls hW₁ hcl, st⟩
end Runs
section Rows
variable {p : Program} {l : Launch} {e : Env} {R : Room} {s : State} {m : MethodId} {args : Array Value} {below : List Frame} {meth : Method} {c : Code} {H : Heap} {locs : List Loc} {cells slots : Nat} {Q : State → Prop}
variable {mc ms : Nat} {free : Addr → Prop} {A0 A1 : Nat → Prop} {H0 : Heap} {a : Array Value} {pc : Nat} {ls : Array Slot} {st0 rest : List Value}
theorem vx_keep {st₀ t T' : State} {L : List Loc} (h0 : st₀.heap = H) (e1 : T'.heap = t.heap) (hS : va_S A0 H0 H locs) (hA : ∀ q, q < H.size → A1 q → A0 q) (hf : ∀ q, free q → A0 q) (hL : ∀ q ∈ L, free q.base) (hF : va_F A1 st₀ t) :
    H.size ≤ T'.heap.size ∧ (∀ q : Nat, q < H.size → ¬ A1 q → T'.heap[q]? = H[q]?) ∧ va_S A0 H0 T'.heap (locs ++ L) := by
  obtain ⟨hz, hk⟩ := hF
  rw [h0] at hz hk
  exact ⟨by rw [e1]; exact hz, fun q h1 h2 => by rw [e1]; exact hk q h1 h2,
    ⟨Nat.le_trans hS.1 (by rw [e1]; exact hz), fun q h1 h2 => by rw [e1, hk q (Nat.lt_of_lt_of_le h1 hS.1) (fun z => h2 (hA q (Nat.lt_of_lt_of_le h1 hS.1) z))]; exact hS.2.1 q h1 h2, fun q hq => by
      rcases List.mem_append.mp hq with h | h
      · exact hS.2.2 q h
      · exact hf _ (hL q h)⟩⟩
theorem vx_calli {S SX : Type} {post : Int32 → S → Prop} {px : SX → Prop} {B : S → State → Prop} {BX : String → SX → State → Prop} {AX : Nat → Prop} (hr : vx_Run p l e R s m args below meth c H locs cells slots mc ms (F0 m pc ls st0) rest (va_Qi post B A1 a) (vx_X px BX AX) free) (hS : va_S A0 H0 H locs) (hA : ∀ q, q < H.size → A1 q → A0 q) (hf : ∀ q, free q → A0 q) (hAX : ∀ q, q < H.size → AX q → A0 q)
    (kx : ∀ (E : String) (ce : Cell) (q9 : Addr) (u : SX) (t : State) (H1 : Heap) (locs1 : List Loc), t.heap = H1 → s.vm.Alike t.vm → px u → BX E u t → H.size ≤ H1.size → (∀ q : Nat, q < H.size → ¬ AX q → H1[q]? = H[q]?) → va_S A0 H0 H1 locs1 → H1[q9]? = some ce → ce.vm = .none → s.vm.findClass E = some ce.cls → vx_W p l e R s m args below meth c H1 locs1 (cells + mc) (slots + ms) Q (F0 m pc ls rest) q9)
    (kk : ∀ (r : Int32) (u : S) (t : State) (H1 : Heap) (locs1 : List Loc), t.heap = H1 → s.vm.Alike t.vm → post r u → B u t → H.size ≤ H1.size → (∀ q : Nat, q < H.size → ¬ A1 q → H1[q]? = H[q]?) → va_S A0 H0 H1 locs1 → W p l e R s m args below meth c H1 locs1 (cells + mc) (slots + ms) Q (F0 m (pc + 3) ls (.int r :: rest))) : W p l e R s m args below meth c H locs cells slots Q (F0 m pc ls st0) := by
  intro T hT X
  rcases hr T hT X with ⟨v, st₀, t, T', L, h0, X', hL, e1, e2, ⟨⟨r, u, hv, hp, hb⟩, hF⟩, st⟩ | ⟨q, st₀, t, T', L, E, ce, h0, X', hL, e1, e2, ⟨u, hp, hb, hF⟩, hce, hcv, hcl, st⟩
  · cases hv
    obtain ⟨k1, k2, k3⟩ := vx_keep h0 e1 hS hA hf hL hF
    obtain ⟨t2, a1, b1⟩ := kk r u t T'.heap (locs ++ L) e1.symm (by rw [← e2]; exact X'.warmed.alike) hp hb k1 k2 k3 T' rfl X'
    exact ⟨t2, st t2 a1, b1⟩
  · obtain ⟨k1, k2, k3⟩ := vx_keep h0 e1 hS hAX hf hL hF
    obtain ⟨t2, a1, b1⟩ := kx E ce q u t T'.heap (locs ++ L) e1.symm (by rw [← e2]; exact X'.warmed.alike) hp hb k1 k2 k3 (by rw [e1]; exact hce) hcv hcl T' rfl X'
    exact ⟨t2, st.trans a1, b1⟩
theorem vx_calll {S SX : Type} {post : Int64 → S → Prop} {px : SX → Prop} {B : S → State → Prop} {BX : String → SX → State → Prop} {AX : Nat → Prop} (hr : vx_Run p l e R s m args below meth c H locs cells slots mc ms (F0 m pc ls st0) rest (va_Ql post B A1 a) (vx_X px BX AX) free) (hS : va_S A0 H0 H locs) (hA : ∀ q, q < H.size → A1 q → A0 q) (hf : ∀ q, free q → A0 q) (hAX : ∀ q, q < H.size → AX q → A0 q)
    (kx : ∀ (E : String) (ce : Cell) (q9 : Addr) (u : SX) (t : State) (H1 : Heap) (locs1 : List Loc), t.heap = H1 → s.vm.Alike t.vm → px u → BX E u t → H.size ≤ H1.size → (∀ q : Nat, q < H.size → ¬ AX q → H1[q]? = H[q]?) → va_S A0 H0 H1 locs1 → H1[q9]? = some ce → ce.vm = .none → s.vm.findClass E = some ce.cls → vx_W p l e R s m args below meth c H1 locs1 (cells + mc) (slots + ms) Q (F0 m pc ls rest) q9)
    (kk : ∀ (r : Int64) (u : S) (t : State) (H1 : Heap) (locs1 : List Loc), t.heap = H1 → s.vm.Alike t.vm → post r u → B u t → H.size ≤ H1.size → (∀ q : Nat, q < H.size → ¬ A1 q → H1[q]? = H[q]?) → va_S A0 H0 H1 locs1 → W p l e R s m args below meth c H1 locs1 (cells + mc) (slots + ms) Q (F0 m (pc + 3) ls (.long r :: rest))) : W p l e R s m args below meth c H locs cells slots Q (F0 m pc ls st0) := by
  intro T hT X
  rcases hr T hT X with ⟨v, st₀, t, T', L, h0, X', hL, e1, e2, ⟨⟨r, u, hv, hp, hb⟩, hF⟩, st⟩ | ⟨q, st₀, t, T', L, E, ce, h0, X', hL, e1, e2, ⟨u, hp, hb, hF⟩, hce, hcv, hcl, st⟩
  · cases hv
    obtain ⟨k1, k2, k3⟩ := vx_keep h0 e1 hS hA hf hL hF
    obtain ⟨t2, a1, b1⟩ := kk r u t T'.heap (locs ++ L) e1.symm (by rw [← e2]; exact X'.warmed.alike) hp hb k1 k2 k3 T' rfl X'
    exact ⟨t2, st t2 a1, b1⟩
  · obtain ⟨k1, k2, k3⟩ := vx_keep h0 e1 hS hAX hf hL hF
    obtain ⟨t2, a1, b1⟩ := kx E ce q u t T'.heap (locs ++ L) e1.symm (by rw [← e2]; exact X'.warmed.alike) hp hb k1 k2 k3 (by rw [e1]; exact hce) hcv hcl T' rfl X'
    exact ⟨t2, st.trans a1, b1⟩
theorem vx_callf {S SX : Type} {post : UInt32 → S → Prop} {px : SX → Prop} {B : S → State → Prop} {BX : String → SX → State → Prop} {AX : Nat → Prop} (hr : vx_Run p l e R s m args below meth c H locs cells slots mc ms (F0 m pc ls st0) rest (va_Qf post B A1 a) (vx_X px BX AX) free) (hS : va_S A0 H0 H locs) (hA : ∀ q, q < H.size → A1 q → A0 q) (hf : ∀ q, free q → A0 q) (hAX : ∀ q, q < H.size → AX q → A0 q)
    (kx : ∀ (E : String) (ce : Cell) (q9 : Addr) (u : SX) (t : State) (H1 : Heap) (locs1 : List Loc), t.heap = H1 → s.vm.Alike t.vm → px u → BX E u t → H.size ≤ H1.size → (∀ q : Nat, q < H.size → ¬ AX q → H1[q]? = H[q]?) → va_S A0 H0 H1 locs1 → H1[q9]? = some ce → ce.vm = .none → s.vm.findClass E = some ce.cls → vx_W p l e R s m args below meth c H1 locs1 (cells + mc) (slots + ms) Q (F0 m pc ls rest) q9)
    (kk : ∀ (r : UInt32) (u : S) (t : State) (H1 : Heap) (locs1 : List Loc), t.heap = H1 → s.vm.Alike t.vm → post r u → B u t → H.size ≤ H1.size → (∀ q : Nat, q < H.size → ¬ A1 q → H1[q]? = H[q]?) → va_S A0 H0 H1 locs1 → W p l e R s m args below meth c H1 locs1 (cells + mc) (slots + ms) Q (F0 m (pc + 3) ls (.float r :: rest))) : W p l e R s m args below meth c H locs cells slots Q (F0 m pc ls st0) := by
  intro T hT X
  rcases hr T hT X with ⟨v, st₀, t, T', L, h0, X', hL, e1, e2, ⟨⟨r, u, hv, hp, hb⟩, hF⟩, st⟩ | ⟨q, st₀, t, T', L, E, ce, h0, X', hL, e1, e2, ⟨u, hp, hb, hF⟩, hce, hcv, hcl, st⟩
  · cases hv
    obtain ⟨k1, k2, k3⟩ := vx_keep h0 e1 hS hA hf hL hF
    obtain ⟨t2, a1, b1⟩ := kk r u t T'.heap (locs ++ L) e1.symm (by rw [← e2]; exact X'.warmed.alike) hp hb k1 k2 k3 T' rfl X'
    exact ⟨t2, st t2 a1, b1⟩
  · obtain ⟨k1, k2, k3⟩ := vx_keep h0 e1 hS hAX hf hL hF
    obtain ⟨t2, a1, b1⟩ := kx E ce q u t T'.heap (locs ++ L) e1.symm (by rw [← e2]; exact X'.warmed.alike) hp hb k1 k2 k3 (by rw [e1]; exact hce) hcv hcl T' rfl X'
    exact ⟨t2, st.trans a1, b1⟩
theorem vx_calld {S SX : Type} {post : UInt64 → S → Prop} {px : SX → Prop} {B : S → State → Prop} {BX : String → SX → State → Prop} {AX : Nat → Prop} (hr : vx_Run p l e R s m args below meth c H locs cells slots mc ms (F0 m pc ls st0) rest (va_Qd post B A1 a) (vx_X px BX AX) free) (hS : va_S A0 H0 H locs) (hA : ∀ q, q < H.size → A1 q → A0 q) (hf : ∀ q, free q → A0 q) (hAX : ∀ q, q < H.size → AX q → A0 q)
    (kx : ∀ (E : String) (ce : Cell) (q9 : Addr) (u : SX) (t : State) (H1 : Heap) (locs1 : List Loc), t.heap = H1 → s.vm.Alike t.vm → px u → BX E u t → H.size ≤ H1.size → (∀ q : Nat, q < H.size → ¬ AX q → H1[q]? = H[q]?) → va_S A0 H0 H1 locs1 → H1[q9]? = some ce → ce.vm = .none → s.vm.findClass E = some ce.cls → vx_W p l e R s m args below meth c H1 locs1 (cells + mc) (slots + ms) Q (F0 m pc ls rest) q9)
    (kk : ∀ (r : UInt64) (u : S) (t : State) (H1 : Heap) (locs1 : List Loc), t.heap = H1 → s.vm.Alike t.vm → post r u → B u t → H.size ≤ H1.size → (∀ q : Nat, q < H.size → ¬ A1 q → H1[q]? = H[q]?) → va_S A0 H0 H1 locs1 → W p l e R s m args below meth c H1 locs1 (cells + mc) (slots + ms) Q (F0 m (pc + 3) ls (.double r :: rest))) : W p l e R s m args below meth c H locs cells slots Q (F0 m pc ls st0) := by
  intro T hT X
  rcases hr T hT X with ⟨v, st₀, t, T', L, h0, X', hL, e1, e2, ⟨⟨r, u, hv, hp, hb⟩, hF⟩, st⟩ | ⟨q, st₀, t, T', L, E, ce, h0, X', hL, e1, e2, ⟨u, hp, hb, hF⟩, hce, hcv, hcl, st⟩
  · cases hv
    obtain ⟨k1, k2, k3⟩ := vx_keep h0 e1 hS hA hf hL hF
    obtain ⟨t2, a1, b1⟩ := kk r u t T'.heap (locs ++ L) e1.symm (by rw [← e2]; exact X'.warmed.alike) hp hb k1 k2 k3 T' rfl X'
    exact ⟨t2, st t2 a1, b1⟩
  · obtain ⟨k1, k2, k3⟩ := vx_keep h0 e1 hS hAX hf hL hF
    obtain ⟨t2, a1, b1⟩ := kx E ce q u t T'.heap (locs ++ L) e1.symm (by rw [← e2]; exact X'.warmed.alike) hp hb k1 k2 k3 (by rw [e1]; exact hce) hcv hcl T' rfl X'
    exact ⟨t2, st.trans a1, b1⟩
theorem vx_callv {S SX : Type} {post : S → Prop} {px : SX → Prop} {B : S → State → Prop} {BX : String → SX → State → Prop} {AX : Nat → Prop} (hr : vx_Run p l e R s m args below meth c H locs cells slots mc ms (F0 m pc ls st0) rest (va_Qv post B A1 a) (vx_X px BX AX) free) (hS : va_S A0 H0 H locs) (hA : ∀ q, q < H.size → A1 q → A0 q) (hf : ∀ q, free q → A0 q) (hAX : ∀ q, q < H.size → AX q → A0 q)
    (kx : ∀ (E : String) (ce : Cell) (q9 : Addr) (u : SX) (t : State) (H1 : Heap) (locs1 : List Loc), t.heap = H1 → s.vm.Alike t.vm → px u → BX E u t → H.size ≤ H1.size → (∀ q : Nat, q < H.size → ¬ AX q → H1[q]? = H[q]?) → va_S A0 H0 H1 locs1 → H1[q9]? = some ce → ce.vm = .none → s.vm.findClass E = some ce.cls → vx_W p l e R s m args below meth c H1 locs1 (cells + mc) (slots + ms) Q (F0 m pc ls rest) q9)
    (kk : ∀ (u : S) (t : State) (H1 : Heap) (locs1 : List Loc), t.heap = H1 → s.vm.Alike t.vm → post u → B u t → H.size ≤ H1.size → (∀ q : Nat, q < H.size → ¬ A1 q → H1[q]? = H[q]?) → va_S A0 H0 H1 locs1 → W p l e R s m args below meth c H1 locs1 (cells + mc) (slots + ms) Q (F0 m (pc + 3) ls (rest))) : W p l e R s m args below meth c H locs cells slots Q (F0 m pc ls st0) := by
  intro T hT X
  rcases hr T hT X with ⟨v, st₀, t, T', L, h0, X', hL, e1, e2, ⟨⟨u, hv, hp, hb⟩, hF⟩, st⟩ | ⟨q, st₀, t, T', L, E, ce, h0, X', hL, e1, e2, ⟨u, hp, hb, hF⟩, hce, hcv, hcl, st⟩
  · cases hv
    obtain ⟨k1, k2, k3⟩ := vx_keep h0 e1 hS hA hf hL hF
    obtain ⟨t2, a1, b1⟩ := kk u t T'.heap (locs ++ L) e1.symm (by rw [← e2]; exact X'.warmed.alike) hp hb k1 k2 k3 T' rfl X'
    exact ⟨t2, st t2 a1, b1⟩
  · obtain ⟨k1, k2, k3⟩ := vx_keep h0 e1 hS hAX hf hL hF
    obtain ⟨t2, a1, b1⟩ := kx E ce q u t T'.heap (locs ++ L) e1.symm (by rw [← e2]; exact X'.warmed.alike) hp hb k1 k2 k3 (by rw [e1]; exact hce) hcv hcl T' rfl X'
    exact ⟨t2, st.trans a1, b1⟩
/-- caught by the row x of this method's table; the rows ahead don't take it -/
theorem vx_catch {own name : String} {E : String} {ce : Cell} {q : Addr} (hown : s.vm.findClass own = some m.cls) (pre : List ExceptionTableEntry) (x : ExceptionTableEntry) (suf : List ExceptionTableEntry) (hsplit : c.exceptionTable.toList = pre ++ x :: suf)
    (hpass : ∀ z ∈ pre, covers z pc = false ∨ (z.catchType ≠ 0 ∧ ∃ nm : String, (Cond.classLink own z.catchType nm).before args s = true ∧ va_Nc E nm s)) (hx : covers x pc = true) (h0 : x.catchType ≠ 0)
    (hlink : (Cond.classLink own x.catchType name).before args s = true) (hcast : (Cond.castable E name).before args s = true) (hcell : H[q]? = some ce) (hv : ce.vm = .none) (hcl : s.vm.findClass E = some ce.cls)
    (kk : W p l e R s m args below meth c H locs cells slots Q (F0 m x.handlerPc ls [.ref q])) : vx_W p l e R s m args below meth c H locs cells slots Q (F0 m pc ls rest) q := by
  intro T hT X
  have hpl : e.platform.magicAccessors = ({} : Platform).magicAccessors := by rw [X.admits.platform]
  obtain ⟨c3, c4, hc3, hc4, hasg⟩ := Cond.castable_spec hcast
  cases Option.some.inj (hc3.symm.trans hcl)
  obtain ⟨c5, hc5, hcl5⟩ := Cond.classLink_spec hown hlink e.platform hpl
  cases Option.some.inj (hc4.symm.trans hc5)
  obtain ⟨vm', X', st⟩ := X.thenCaughtThrough q (g := F0 m pc ls rest) rfl (Steps.refl _) (by rw [hT]; exact hcell) (by rw [hv]; rfl) (by obtain ⟨k9, h9, -⟩ := Vm.findClass_spec hcl; exact ⟨k9, h9⟩) pre x suf hsplit
    (fun z hz => by
      rcases hpass z hz with h | ⟨hz0, nm, hl1, hn1⟩
      · exact Or.inl h
      · obtain ⟨c6, hc6, hcl6⟩ := Cond.classLink_spec hown hl1 e.platform hpl
        obtain ⟨a8, b8, h1, h2, h3⟩ := hn1
        cases Option.some.inj (h1.symm.trans hcl)
        cases Option.some.inj (h2.symm.trans hc6)
        exact Or.inr ⟨hz0, _, hcl6, h3⟩) hx (Or.inr ⟨h0, c4, hcl5, hasg⟩)
  obtain ⟨t, a1, b1⟩ := kk (T.setVm vm') hT X'
  exact ⟨t, st.trans a1, b1⟩
end Rows
section Ends
variable {p : Program} {l : Launch} {e : Env} {R : Room} {s : State} {m : MethodId} {args : Array Value} {below : List Frame} {meth : Method} {c : Code} {H : Heap} {locs : List Loc} {cells slots : Nat} {Q : State → Prop}
variable {mc ms : Nat} {free : Addr → Prop} {A0 A1 : Nat → Prop} {H0 : Heap} {a : Array Value} {ls : Array Slot} {st0 rest : List Value}
variable {Qc : Array Value → State → Outcome → State → Prop} {XC : String → State → State → Prop}
/-- what a body that may throw owes at its end -/
def vx_MQ (below : List Frame) (Qc : Array Value → State → Outcome → State → Prop) (XC : String → State → State → Prop) (a : Array Value) (s : State) (mc ms : Nat) (free : Addr → Prop) : State → Prop := fun t =>
  ∃ o, t.status = .running ∧ Ended t below o ∧ vx_Q Qc XC mc ms free a s o t
theorem vx_ret {g : JFrame} {mc ms : Nat} (k : W p l e R s m args below meth c H locs cells slots (MQ below Qc args s mc ms free) g) : W p l e R s m args below meth c H locs cells slots (vx_MQ below Qc XC args s mc ms free) g := by
  intro T hT X
  obtain ⟨t, a1, o, b1, b2, b3, b4⟩ := k T hT X
  exact ⟨t, a1, o, b1, b2, Or.inl ⟨b3, b4⟩⟩
/-- not caught here: it goes on to the caller -/
theorem vx_widen {g : JFrame} {q : Addr} {k n : Nat} (h1 : cells ≤ k) (h2 : slots ≤ n) (kk : vx_W p l e R s m args below meth c H locs k n Q g q) : vx_W p l e R s m args below meth c H locs cells slots Q g q := fun T hT X => kk T hT (stand_widen X h1 h2)
theorem vx_out {pc : Nat} {E : String} {ce : Cell} {q : Addr} {mc ms : Nat} (hout : ∀ x ∈ c.exceptionTable.toList, covers x pc = false) (hlocks : meth.locks = false) (hcell : H[q]? = some ce) (hv : ce.vm = .none) (hcl : s.vm.findClass E = some ce.cls)
    (hx : ∀ t : State, t.heap = H → s.vm.Alike t.vm → XC E s t) (hf : ∀ z ∈ locs, free z.base) (hc : cells ≤ mc) (hs : slots ≤ ms) :
    vx_W p l e R s m args below meth c H locs cells slots (vx_MQ below Qc XC args s mc ms free) (F0 m pc ls rest) q := by
  intro T hT X
  obtain ⟨st1, hrun, hend, hW, hsm⟩ := X.leaveThrown q (g := F0 m pc ls rest) rfl rfl rfl hout hlocks
  have hcell9 : (T.setFrames (.throwing q :: below)).heap[q]? = some ce := by
    show T.heap[q]? = some ce
    rw [hT]; exact hcell
  exact ⟨_, st1, .threw q, hrun, hend, Or.inr ⟨q, rfl, E, ce, locs, hx _ hT hW.alike, hcell9, hv, hcl, hW, hsm.mono hc hs, hf⟩⟩
theorem vx_frame {U : State} {k n : Nat} (h : s.sameButNew ({ U with vm := s.vm } : State) locs k n) : s.heap.size ≤ U.heap.size ∧ ∀ q : Nat, q < s.heap.size → (∀ z ∈ locs, z.base ≠ q) → U.heap[q]? = s.heap[q]? := by
  obtain ⟨-, h2, -, -, -, h6⟩ := h
  refine ⟨h2, fun q hq hz => ?_⟩
  obtain ⟨c9, e1, e2, e3, e4⟩ := h6 q _ (Array.getElem?_eq_getElem hq)
  have hs : c9.slots = (s.heap[q]).slots := Array.ext_getElem? fun i => e4 i fun hm => hz _ hm rfl
  have h9 : c9 = s.heap[q] := by
    rw [hs] at e2
    exact e2
  have e5 : U.heap[q]? = some c9 := e1
  rw [e5, h9, Array.getElem?_eq_getElem hq]
/-- the words of a throw but the four that speak of the heap -/
def vx_no (w : Cond) : Bool := decide (w ≠ .isRef (.static Bundle.tN "UNASSIGNED_STACK" Bundle.steD)) && decide (w ≠ .isRef (.static Bundle.tN "SUPPRESSED_SENTINEL" Bundle.listD)) && decide (w ≠ .laysStatic Bundle.tN "UNASSIGNED_STACK" Bundle.steD) && decide (w ≠ .laysStatic Bundle.tN "SUPPRESSED_SENTINEL" Bundle.listD)
def vx_at0 (own : String) (ic : Nat) (X : String) (names : List String) : List Cond := (Bundle.ownAtoms0 own ic X names).filter vx_no
def vx_atS (own : String) (ic : Nat) (X : String) (names : List String) : List Cond := (Bundle.ownAtoms own ic X names).filter vx_no
/-- a word that the tables alone decide, or a good one -/
def vx_ot (w : Cond) : Bool := w.onTables || goodWord w
theorem vx_ot_at {args a' : Array Value} {s U : State} {w : Cond} (hW : s.WarmedH U.vm) (hvm : s.vm = U.vm) (hg : vx_ot w = true) (h : w.before args s = true) : w.before a' U = true := by
  simp only [vx_ot, Bool.or_eq_true] at hg
  rcases hg with hg | hg
  · exact va_tabs hg hvm h
  · exact word_at hW (good_of_word hg) h
/-- a list's words: the good ones out of the method's own list, the others by premises of their own -/
theorem vx_hat {args : Array Value} {s : State} {L B : List Cond} (h1 : ∀ w ∈ L.filter goodWord, w.before args s = true) (h2 : ∀ w ∈ L.filter (fun w => !goodWord w), w ∈ B) (h3 : ∀ w ∈ B, w.before args s = true) : ∀ w ∈ L, w.before args s = true := by
  intro w hw
  by_cases g : goodWord w = true
  · exact h1 w (List.mem_filter.mpr ⟨hw, g⟩)
  · refine h3 w (h2 w (List.mem_filter.mpr ⟨hw, ?_⟩))
    show (!goodWord w) = true
    cases hgw : goodWord w
    · rfl
    · exact absurd hgw g
theorem vx_c {args : Array Value} {s : State} {w : Cond} {B : List Cond} (h : w.before args s = true) (t : ∀ w ∈ B, w.before args s = true) : ∀ w' ∈ w :: B, w'.before args s = true := fun w' h' => (List.mem_cons.mp h').elim (fun e => by rw [e]; exact h) (t w')
theorem vx_n {args : Array Value} {s : State} : ∀ w ∈ ([] : List Cond), w.before args s = true := fun _ h => nomatch h
theorem vx_own {args : Array Value} {s : State} {L : List Cond} (h1 : ∀ w ∈ L.filter vx_no, w.before args s = true)
    (hU : (Cond.isRef (.static Bundle.tN "UNASSIGNED_STACK" Bundle.steD)).before args s = true) (hN : (Cond.isRef (.static Bundle.tN "SUPPRESSED_SENTINEL" Bundle.listD)).before args s = true)
    (lU : (Cond.laysStatic Bundle.tN "UNASSIGNED_STACK" Bundle.steD).before args s = true) (lN : (Cond.laysStatic Bundle.tN "SUPPRESSED_SENTINEL" Bundle.listD).before args s = true) : ∀ w ∈ L, w.before args s = true := by
  intro w hw
  by_cases e1 : w = .isRef (.static Bundle.tN "UNASSIGNED_STACK" Bundle.steD)
  · rw [e1]; exact hU
  · by_cases e2 : w = .isRef (.static Bundle.tN "SUPPRESSED_SENTINEL" Bundle.listD)
    · rw [e2]; exact hN
    · by_cases e3 : w = .laysStatic Bundle.tN "UNASSIGNED_STACK" Bundle.steD
      · rw [e3]; exact lU
      · by_cases e4 : w = .laysStatic Bundle.tN "SUPPRESSED_SENTINEL" Bundle.listD
        · rw [e4]; exact lN
        · exact h1 w (List.mem_filter.mpr ⟨hw, by unfold vx_no; rw [decide_eq_true e1, decide_eq_true e2, decide_eq_true e3, decide_eq_true e4]; rfl⟩)
/-- where a static field lies, its class's statics cell in H -/
def vx_L (C n d : String) (A : Nat → Prop) (U : State) (H : Heap) : Prop := ∃ (c : ClassId) (k : Class) (i : Nat) (f : Field) (a : Nat) (cell : Cell), U.vm.findClass C = some c ∧ U.fieldFound? C n d = some (c, k, i, f) ∧ f.isStatic = true ∧ k.statics = some a ∧ H[a]? = some cell ∧ cell.vm.isStatics = true ∧ cell.cls = c ∧ f.slot < cell.slots.size ∧ k.staticTypes[f.slot]? = some f.type ∧ ¬ A a
theorem vx_L.moved {C n d : String} {A : Nat → Prop} {u U : State} {H : Heap} (hvm : u.vm.Alike U.vm) (h : vx_L C n d A u H) : vx_L C n d A U H := by
  obtain ⟨c, k, i, f, a, cell, h1, h2, h3, h4, h5, h6, h7, h8, h9, h10⟩ := h
  obtain ⟨k', hi', he⟩ := State.fieldFound?_setVm hvm h2
  exact ⟨c, k', i, f, a, cell, by rw [hvm.findClass]; exact h1, hi', h3, by rw [he]; exact h4, h5, h6, h7, h8, by rw [he]; exact h9, h10⟩
theorem vx_L.kept {C n d : String} {A : Nat → Prop} {U : State} {H H1 : Heap} (h : vx_L C n d A U H) (hq : ∀ a : Nat, a < H.size → ¬ A a → H1[a]? = H[a]?) : vx_L C n d A U H1 := by
  obtain ⟨c, k, i, f, a, cell, h1, h2, h3, h4, h5, h6, h7, h8, h9, h10⟩ := h
  exact ⟨c, k, i, f, a, cell, h1, h2, h3, h4, by rw [hq a (Array.getElem?_eq_some_iff.mp h5).1 h10]; exact h5, h6, h7, h8, h9, h10⟩
theorem vx_L.narrow {C n d : String} {A B : Nat → Prop} {U : State} {H : Heap} (h : vx_L C n d A U H) (hAB : ∀ q, B q → A q) : vx_L C n d B U H := by
  obtain ⟨c, k, i, f, a, cell, h1, h2, h3, h4, h5, h6, h7, h8, h9, h10⟩ := h
  exact ⟨c, k, i, f, a, cell, h1, h2, h3, h4, h5, h6, h7, h8, h9, fun z => h10 (hAB _ z)⟩
theorem vx_L.word {C n d : String} {A : Nat → Prop} {s : State} {args : Array Value} (h : vx_L C n d A s s.heap) : (Cond.laysStatic C n d).before args s = true := by
  obtain ⟨c, k, i, f, a, cell, h1, h2, h3, h4, h5, h6, h7, h8, h9, -⟩ := h
  show (Cond.laysStatic C n d).holds args s none s [] = true
  exact Cond.laysStatic_of h1 h2 h3 h4 h5 h6 h7 h8 h9
/-- .. and what it holds: null or some reference -/
def vx_Zq (C n d : String) (A : Nat → Prop) (U : State) (H : Heap) : Prop := va_Zq C n d A U H ∧ vx_L C n d A U H
theorem vx_Zq.moved {C n d : String} {A : Nat → Prop} {u U : State} {H : Heap} (hvm : u.vm.Alike U.vm) (h : vx_Zq C n d A u H) : vx_Zq C n d A U H := ⟨va_Zq.moved hvm h.1, vx_L.moved hvm h.2⟩
theorem vx_Zq.kept {C n d : String} {A : Nat → Prop} {U : State} {H H1 : Heap} (h : vx_Zq C n d A U H) (hq : ∀ a : Nat, a < H.size → ¬ A a → H1[a]? = H[a]?) : vx_Zq C n d A U H1 := ⟨va_Zq.kept h.1 hq, vx_L.kept h.2 hq⟩
theorem vx_Zq.narrow {C n d : String} {A B : Nat → Prop} {U : State} {H : Heap} (h : vx_Zq C n d A U H) (hAB : ∀ q, B q → A q) : vx_Zq C n d B U H := ⟨va_Zq.narrow h.1 hAB, vx_L.narrow h.2 hAB⟩
theorem vx_Zqof {args : Array Value} {s : State} {C n d : String} {A : Nat → Prop} (hl : (Cond.laysStatic C n d).before args s = true) (hini : (Cond.initialized C).before args s = true) (h : (Cond.isRef (.static C n d)).before args s = true) (hA : ∀ a : Nat, a < s.heap.size → ¬ A a) : vx_Zq C n d A s s.heap := by
  refine ⟨va_Zqof hl hini h hA, ?_⟩
  obtain ⟨c, k, i, f, a, cell, h1, h2, h3, h4, h5, h6, h7, h8, h9⟩ := Cond.laysStatic_spec hl
  exact ⟨c, k, i, f, a, cell, h1, h2, h3, h4, h5, h6, h7, h8, h9, hA a (Array.getElem?_eq_some_iff.mp h5).1⟩
theorem vx_isRef {C n d : String} {v : Value} {A : Nat → Prop} {s : State} {args : Array Value} (h : va_Z C n d v A s s.heap) (hv : v.isRef = true) : (Cond.isRef (.static C n d)).before args s = true := by
  obtain ⟨cf, kf, fi, f, a, cell, h1, h2, h3, h4, h5, h6, h7, -⟩ := h
  have he : (Term.static C n d).eval args s none [] s = some v := by
    simp [Term.eval, State.fieldNamed?, h1, h2, h4, h5, h6, h7]
  simp only [Cond.before, Cond.holds, Cond.value, he]
  cases v <;> simp_all [Value.isRef]
theorem vx_isRefq {C n d : String} {A : Nat → Prop} {s : State} {args : Array Value} (h : va_Zq C n d A s s.heap) : (Cond.isRef (.static C n d)).before args s = true := by
  rcases h with h | ⟨t, h⟩
  · exact vx_isRef h rfl
  · exact vx_isRef h rfl
/-- the same frame, seen from here: as if the method were called anew in this heap -/
theorem vx_rebase {T : State} (X : Stand p l e R s m args below meth c T locs cells slots) {R' : Room} (hf : R'.frames ≤ R.frames) (hl : R'.locals ≤ R.locals) (hc : cells + R'.cells ≤ R.cells) (hs : slots + R'.slots ≤ R.slots) :
    Stand p l e R' ((T.setVm s.vm).setFrames (.invoking m args :: below)) m args below meth c T [] 0 0 := by
  have htop : (T.setVm s.vm).topJava?.isSome := X.here.top
  have hF : ((T.setVm s.vm).setFrames (.invoking m args :: below)).frames = .invoking m args :: below := State.frames_setFrames _ (State.cur_lt_of_top htop)
  obtain ⟨g₀, hg0⟩ := Option.isSome_iff_exists.mp htop
  obtain ⟨r, hr⟩ := State.topJava?_eq_some.mp hg0
  have hl9 : e.platform.stackLimits (T.setVm s.vm).me = e.platform.stackLimits s.me := X.limits
  have hb9 : (T.setVm s.vm).me.stackBytes = s.me.stackBytes := X.bytes
  refine ⟨X.admits, X.cas, X.clock, hF, ?_, X.hears, X.method, X.code, X.here, X.tail, X.warmed, ?_, ?_, ?_⟩
  · have h := X.room
    have hU : ((T.setVm s.vm).setFrames (.invoking m args :: below)).localsInUse = s.localsInUse := by
      rw [State.localsInUse_invoking hF (meth := meth) (c := c) X.method X.code, State.localsInUse_invoking X.frames X.method X.code]
    simp only [State.hasRoom, Bool.and_eq_true, decide_eq_true_eq] at h ⊢
    obtain ⟨⟨⟨⟨h1, h2, h3, h4, h5, h6⟩, h7⟩, h8⟩, h9⟩ := h
    rw [X.frames, List.length_cons] at h2 h3
    have q1 := X.heapSize
    have q2 := X.used
    simp only [hF, hU, List.length_cons, State.stackLimits_setFrames, State.stackBytes_setFrames, hl9, hb9]
    refine ⟨⟨⟨⟨by omega, by omega, by omega, by omega, by omega, h6⟩, ?_⟩, ?_⟩, X.book⟩
    · show T.heap.size + R'.cells ≤ e.platform.maxCells
      omega
    · show T.slotsUsed + R'.slots ≤ e.platform.maxSlots
      omega
  · rw [State.stackLimits_setFrames]; rfl
  · rw [State.stackBytes_setFrames]; rfl
  · refine ⟨?_, Nat.le_refl _, Nat.le_refl _, ?_, ?_, fun a c9 h9 => ⟨c9, h9, rfl, rfl, fun _ _ => rfl⟩⟩
    · obtain ⟨t, ht, -⟩ := State.frames_cons hr
      show T.setVm s.vm = { ((T.setVm s.vm).setFrames (.invoking m args :: below)).setFrames (T.setVm s.vm).frames with heap := T.heap, slotsUsed := T.slotsUsed }
      rw [State.setFrames_setFrames, State.setFrames_self ht]
      rfl
    · show T.slotsUsed = T.slotsUsed + ((T.heap.toList.drop T.heap.size).map (·.slots.size)).sum
      rw [List.drop_eq_nil_of_le (Nat.le_of_eq Array.length_toList)]
      rfl
    · show ((T.heap.toList.drop T.heap.size).map (·.slots.size)).sum ≤ 0
      rw [List.drop_eq_nil_of_le (Nat.le_of_eq Array.length_toList)]
      exact Nat.le_refl _
/-- 'throw new E()': new; dup; invokespecial; athrow -/
theorem vx_throw0 {cc : ByteArray} {pc : Nat} (hexec : p.tables.exec = Jvm.exec) (hb : c.code = cc) (hl : l.stackTraces = false) {own cls : String} {names : List String} {ik ic mc ms : Nat} {A : Nat → Prop}
    (hown : s.vm.findClass own = some m.cls) (hcls : Bundle.fit cls = true) (hnames : ∀ n ∈ names, Bundle.fit n = true)
    (hk : (Cond.classLink own ik cls).before args s = true) (hini : (Cond.initialized cls).before args s = true) (hat : ∀ w ∈ vx_at0 own ic cls names, w.before args s = true)
    (hgood : ∀ w ∈ Cond.classLink own ik cls :: Cond.initialized cls :: vx_at0 own ic cls names, vx_ot w = true)
    (hU : vx_Zq Bundle.tN "UNASSIGNED_STACK" Bundle.steD A s s.heap) (hN : vx_Zq Bundle.tN "SUPPRESSED_SENTINEL" Bundle.listD A s s.heap) (hS : va_S A s.heap H locs) (hsize : ls.size = c.maxLocals)
    (d0 : decode cc pc = .ok (.new ik, 3)) (d3 : decode cc (pc + 3) = .ok (.dup, 1)) (d4 : decode cc (pc + 4) = .ok (.invokespecial ic, 3)) (d7 : decode cc (pc + 7) = .ok (.athrow, 1))
    (hout : ∀ x ∈ c.exceptionTable.toList, covers x (pc + 7) = false)
    (hRframes : names.length + 3 < R.frames) (hRlocals : (rest.map fun v => v.category).sum + (13 * (names.length + 1) + 42) ≤ R.locals) (hRcells : cells + 1 ≤ R.cells) (hRslots : slots + 6 ≤ R.slots) (hlocks : meth.locks = false)
    (hx : ∀ t : State, s.vm.Alike t.vm → H.size ≤ t.heap.size → (∀ q : Nat, q < H.size → t.heap[q]? = H[q]?) → XC cls s t)
    (hf : ∀ z ∈ locs, free z.base) (hc : cells + 1 ≤ mc) (hs : slots + 6 ≤ ms) :
    W p l e R s m args below meth c H locs cells slots (vx_MQ below Qc XC args s mc ms free) (F0 m pc ls rest) := by
  intro T hT X
  have htr : e.platform.stackTraces = false := (show e.platform.stackTraces = l.stackTraces by rw [X.admits.platform]).trans hl
  have Y := vx_rebase X (R' := { frames := R.frames, locals := R.locals, cells := 1, slots := 6 }) (Nat.le_refl _) (Nat.le_refl _) hRcells hRslots
  obtain ⟨s', hA⟩ : ∃ z, z = (T.setVm s.vm).setFrames (.invoking m args :: below) := ⟨_, rfl⟩
  rw [← hA] at Y
  have hvm : s'.vm = s.vm := by rw [hA]; rfl
  have hhp : s'.heap = H := by rw [hA]; exact hT
  have hW0 : s.WarmedH s'.vm := by rw [hvm]; exact State.WarmedH.refl s
  have hat' : ∀ w ∈ vx_at0 own ic cls names, w.before args s' = true := fun w hw => vx_ot_at hW0 hvm.symm (hgood w (List.mem_cons_of_mem _ (List.mem_cons_of_mem _ hw))) (hat w hw)
  have hk' : (Cond.classLink own ik cls).before args s' = true := vx_ot_at hW0 hvm.symm (hgood _ List.mem_cons_self) hk
  have hini' : (Cond.initialized cls).before args s' = true := vx_ot_at hW0 hvm.symm (hgood _ (List.mem_cons_of_mem _ List.mem_cons_self)) hini
  have hU' : vx_Zq Bundle.tN "UNASSIGNED_STACK" Bundle.steD A s' s'.heap := by rw [hhp]; exact vx_Zq.moved hW0.alike (hU.kept hS.2.1)
  have hN' : vx_Zq Bundle.tN "SUPPRESSED_SENTINEL" Bundle.listD A s' s'.heap := by rw [hhp]; exact vx_Zq.moved hW0.alike (hN.kept hS.2.1)
  have h : ∀ w ∈ Bundle.ownAtoms0 own ic cls names, w.before args s' = true := vx_own hat' (vx_isRefq hU'.1) (vx_isRefq hN'.1) hU'.2.word hN'.2.word
  have hown' : s'.vm.findClass own = some m.cls := by rw [hvm]; exact hown
  have hins : (Cond.instantiable cls 6).before args s' = true := h _ (by simp [Bundle.ownAtoms0])
  obtain ⟨vm₁, cX, kX, hfX, hkX, -, -, X₁, st1⟩ := Y.newCold hexec (own := own) (C := cls) (index := ik) (n := 6) hown' hk' hins hini'
    (g := F0 m pc ls rest) rfl (by rw [hb]; exact d0) (Nat.le_refl _) (Nat.le_refl _)
  generalize hT1 : (T.setVm vm₁).pushCell { cls := cX, slots := kX.instanceTypes.map defaultValue, vm := .none } = T1 at X₁ st1
  have hcat : (Value.ref T.heap.size).category = 1 := rfl
  have hcellA : T1.heap[T.heap.size]? = some (freshCell cX kX) := by rw [← hT1]; exact State.heap_pushCell_size _ _
  have d3' : decode c.code (pc + 3) = .ok (.dup, 1) := by rw [hb]; exact d3
  obtain ⟨U, hsteps, hrun, hend, hW, hsame, ce, hce, hO⟩ := X₁.ctorThrow0 hexec htr (own := own) (cls := cls) (names := names) (ic := ic) hown' hcls hnames h (fun x hx => nomatch hx) hfX hkX hcellA (by rw [hhp, hT]; exact Nat.le_refl _)
    (g := { method := m, pc := pc + 4, locals := ls, stack := .ref T.heap.size :: .ref T.heap.size :: rest, locked := none }) rfl hsize rfl rfl (rest := rest) rfl
    (by rw [hb]; exact d4) (by rw [hb]; exact d7) hout hRframes (by simp only [List.map_cons, List.sum_cons, hcat]; omega) hlocks
  obtain ⟨f1, f2⟩ := vx_frame hsame
  rw [hhp] at f1 f2
  have hWs : s.WarmedH U.vm := State.WarmedH.trans hW0 hW
  have hcl : s.vm.findClass cls = some ce.cls := by
    have h9 := hO.cls
    rw [hvm] at h9
    exact h9
  have hall : s.sameButNew ({ U with vm := s.vm } : State) locs mc ms := by
    subst hA
    obtain ⟨e1, e2⟩ := hsame
    rw [State.setFrames_setFrames] at e1
    have h2 : (T.setVm s.vm).sameButNew ({ U with vm := s.vm } : State) [] (0 + 1) (0 + 6) := ⟨e1, e2⟩
    have h3 := X.same.trans h2
    rw [List.append_nil] at h3
    exact h3.mono hc hs
  refine ⟨U, ?_, .threw T.heap.size, hrun, hend, Or.inr ⟨T.heap.size, rfl, cls, ce, locs, hx U hWs.alike f1 (fun q hq => f2 q hq (fun z hz => nomatch hz)), hce, hO.vm, hcl, hWs, hall, hf⟩⟩
  refine st1 _ ?_
  show Steps p.tables e below (T1.setTop { method := m, pc := pc + 3, locals := ls, stack := .ref T.heap.size :: rest, locked := none }) _
  jvm_step X₁.here [X₁.here.top, hexec, d3', Value.category]
  exact hsteps
/-- 'throw new E("text")': new; dup; ldc; invokespecial; athrow -/
theorem vx_throwS {cc : ByteArray} {pc : Nat} (hexec : p.tables.exec = Jvm.exec) (hb : c.code = cc) (hl : l.stackTraces = false) {own cls text : String} {names : List String} {ik is ic mc ms sa : Nat} {A : Nat → Prop}
    (hown : s.vm.findClass own = some m.cls) (hcls : Bundle.fit cls = true) (hnames : ∀ n ∈ names, Bundle.fit n = true)
    (hk : (Cond.classLink own ik cls).before args s = true) (hini : (Cond.initialized cls).before args s = true) (hstr : vk_R own is text sa s) (hat : ∀ w ∈ vx_atS own ic cls names, w.before args s = true)
    (hgood : ∀ w ∈ Cond.classLink own ik cls :: Cond.initialized cls :: vx_atS own ic cls names, vx_ot w = true)
    (hU : vx_Zq Bundle.tN "UNASSIGNED_STACK" Bundle.steD A s s.heap) (hN : vx_Zq Bundle.tN "SUPPRESSED_SENTINEL" Bundle.listD A s s.heap) (hS : va_S A s.heap H locs) (hsize : ls.size = c.maxLocals)
    (d0 : decode cc pc = .ok (.new ik, 3)) (d3 : decode cc (pc + 3) = .ok (.dup, 1)) (d4 : decode cc (pc + 4) = .ok (.ldc is, 2)) (d6 : decode cc (pc + 6) = .ok (.invokespecial ic, 3)) (d9 : decode cc (pc + 9) = .ok (.athrow, 1))
    (hout : ∀ x ∈ c.exceptionTable.toList, covers x (pc + 9) = false)
    (hRframes : names.length + 3 < R.frames) (hRlocals : (rest.map fun v => v.category).sum + (13 * (names.length + 1) + 43) ≤ R.locals) (hRcells : cells + 1 ≤ R.cells) (hRslots : slots + 6 ≤ R.slots) (hlocks : meth.locks = false)
    (hx : ∀ t : State, s.vm.Alike t.vm → H.size ≤ t.heap.size → (∀ q : Nat, q < H.size → t.heap[q]? = H[q]?) → XC cls s t)
    (hf : ∀ z ∈ locs, free z.base) (hc : cells + 1 ≤ mc) (hs : slots + 6 ≤ ms) :
    W p l e R s m args below meth c H locs cells slots (vx_MQ below Qc XC args s mc ms free) (F0 m pc ls rest) := by
  intro T hT X
  have htr : e.platform.stackTraces = false := (show e.platform.stackTraces = l.stackTraces by rw [X.admits.platform]).trans hl
  have Y := vx_rebase X (R' := { frames := R.frames, locals := R.locals, cells := 1, slots := 6 }) (Nat.le_refl _) (Nat.le_refl _) hRcells hRslots
  obtain ⟨s', hA⟩ : ∃ z, z = (T.setVm s.vm).setFrames (.invoking m args :: below) := ⟨_, rfl⟩
  rw [← hA] at Y
  have hvm : s'.vm = s.vm := by rw [hA]; rfl
  have hhp : s'.heap = H := by rw [hA]; exact hT
  have hW0 : s.WarmedH s'.vm := by rw [hvm]; exact State.WarmedH.refl s
  have hat' : ∀ w ∈ vx_atS own ic cls names, w.before args s' = true := fun w hw => vx_ot_at hW0 hvm.symm (hgood w (List.mem_cons_of_mem _ (List.mem_cons_of_mem _ hw))) (hat w hw)
  have hk' : (Cond.classLink own ik cls).before args s' = true := vx_ot_at hW0 hvm.symm (hgood _ List.mem_cons_self) hk
  have hini' : (Cond.initialized cls).before args s' = true := vx_ot_at hW0 hvm.symm (hgood _ (List.mem_cons_of_mem _ List.mem_cons_self)) hini
  have hU' : vx_Zq Bundle.tN "UNASSIGNED_STACK" Bundle.steD A s' s'.heap := by rw [hhp]; exact vx_Zq.moved hW0.alike (hU.kept hS.2.1)
  have hN' : vx_Zq Bundle.tN "SUPPRESSED_SENTINEL" Bundle.listD A s' s'.heap := by rw [hhp]; exact vx_Zq.moved hW0.alike (hN.kept hS.2.1)
  have h : ∀ w ∈ Bundle.ownAtoms own ic cls names, w.before args s' = true := vx_own hat' (vx_isRefq hU'.1) (vx_isRefq hN'.1) hU'.2.word hN'.2.word
  have hown' : s'.vm.findClass own = some m.cls := by rw [hvm]; exact hown
  have hins : (Cond.instantiable cls 6).before args s' = true := h _ (by simp [Bundle.ownAtoms])
  obtain ⟨vm₁, cX, kX, hfX, hkX, -, -, X₁, st1⟩ := Y.newCold hexec (own := own) (C := cls) (index := ik) (n := 6) hown' hk' hins hini'
    (g := F0 m pc ls rest) rfl (by rw [hb]; exact d0) (Nat.le_refl _) (Nat.le_refl _)
  generalize hT1 : (T.setVm vm₁).pushCell { cls := cX, slots := kX.instanceTypes.map defaultValue, vm := .none } = T1 at X₁ st1
  have hcat : (Value.ref T.heap.size).category = 1 := rfl
  have hcellA : T1.heap[T.heap.size]? = some (freshCell cX kX) := by rw [← hT1]; exact State.heap_pushCell_size _ _
  have d3' : decode c.code (pc + 3) = .ok (.dup, 1) := by rw [hb]; exact d3
  have d4' : decode c.code (pc + 4) = .ok (.ldc is, 2) := by rw [hb]; exact d4
  have hstr' : vk_R own is text sa s' := vk_R.warm hW0 hstr
  obtain ⟨U, hsteps, hrun, hend, hW, hsame, ce, hce, hO⟩ := X₁.ctorThrowS hexec htr (own := own) (cls := cls) (names := names) (ic := ic) hown' hcls hnames h (fun x hx => nomatch hx) hfX hkX hcellA (by rw [hhp, hT]; exact Nat.le_refl _) (msg := .ref sa) rfl
    (g := { method := m, pc := pc + 6, locals := ls, stack := .ref sa :: .ref T.heap.size :: .ref T.heap.size :: rest, locked := none }) rfl hsize rfl rfl (rest := rest) rfl
    (by rw [hb]; exact d6) (by rw [hb]; exact d9) hout hRframes (by simp only [List.map_cons, List.sum_cons, hcat]; omega) hlocks
  obtain ⟨f1, f2⟩ := vx_frame hsame
  rw [hhp] at f1 f2
  have hWs : s.WarmedH U.vm := State.WarmedH.trans hW0 hW
  have hcl : s.vm.findClass cls = some ce.cls := by
    have h9 := hO.cls
    rw [hvm] at h9
    exact h9
  have hall : s.sameButNew ({ U with vm := s.vm } : State) locs mc ms := by
    subst hA
    obtain ⟨e1, e2⟩ := hsame
    rw [State.setFrames_setFrames] at e1
    have h2 : (T.setVm s.vm).sameButNew ({ U with vm := s.vm } : State) [] (0 + 1) (0 + 6) := ⟨e1, e2⟩
    have h3 := X.same.trans h2
    rw [List.append_nil] at h3
    exact h3.mono hc hs
  refine ⟨U, ?_, .threw T.heap.size, hrun, hend, Or.inr ⟨T.heap.size, rfl, cls, ce, locs, hx U hWs.alike f1 (fun q hq => f2 q hq (fun z hz => nomatch hz)), hce, hO.vm, hcl, hWs, hall, hf⟩⟩
  refine st1 _ ?_
  show Steps p.tables e below (T1.setTop { method := m, pc := pc + 3, locals := ls, stack := .ref T.heap.size :: rest, locked := none }) _
  jvm_step X₁.here [X₁.here.top, hexec, d3', Value.category]
  exact X₁.ldcString hexec (own := own) (text := text) (index := is) (a := sa) hown' hstr'.1 hstr'.2
    (g := { method := m, pc := pc + 4, locals := ls, stack := .ref T.heap.size :: .ref T.heap.size :: rest, locked := none }) rfl d4' _ hsteps
/-- 'throw new E("text")', the text by a wide index -/
theorem vx_throwSW {cc : ByteArray} {pc : Nat} (hexec : p.tables.exec = Jvm.exec) (hb : c.code = cc) (hl : l.stackTraces = false) {own cls text : String} {names : List String} {ik is ic mc ms sa : Nat} {A : Nat → Prop}
    (hown : s.vm.findClass own = some m.cls) (hcls : Bundle.fit cls = true) (hnames : ∀ n ∈ names, Bundle.fit n = true)
    (hk : (Cond.classLink own ik cls).before args s = true) (hini : (Cond.initialized cls).before args s = true) (hstr : vk_R own is text sa s) (hat : ∀ w ∈ vx_atS own ic cls names, w.before args s = true)
    (hgood : ∀ w ∈ Cond.classLink own ik cls :: Cond.initialized cls :: vx_atS own ic cls names, vx_ot w = true)
    (hU : vx_Zq Bundle.tN "UNASSIGNED_STACK" Bundle.steD A s s.heap) (hN : vx_Zq Bundle.tN "SUPPRESSED_SENTINEL" Bundle.listD A s s.heap) (hS : va_S A s.heap H locs) (hsize : ls.size = c.maxLocals)
    (d0 : decode cc pc = .ok (.new ik, 3)) (d3 : decode cc (pc + 3) = .ok (.dup, 1)) (d4 : decode cc (pc + 4) = .ok (.ldc_w is, 3)) (d7 : decode cc (pc + 7) = .ok (.invokespecial ic, 3)) (d10 : decode cc (pc + 10) = .ok (.athrow, 1))
    (hout : ∀ x ∈ c.exceptionTable.toList, covers x (pc + 10) = false)
    (hRframes : names.length + 3 < R.frames) (hRlocals : (rest.map fun v => v.category).sum + (13 * (names.length + 1) + 43) ≤ R.locals) (hRcells : cells + 1 ≤ R.cells) (hRslots : slots + 6 ≤ R.slots) (hlocks : meth.locks = false)
    (hx : ∀ t : State, s.vm.Alike t.vm → H.size ≤ t.heap.size → (∀ q : Nat, q < H.size → t.heap[q]? = H[q]?) → XC cls s t)
    (hf : ∀ z ∈ locs, free z.base) (hc : cells + 1 ≤ mc) (hs : slots + 6 ≤ ms) :
    W p l e R s m args below meth c H locs cells slots (vx_MQ below Qc XC args s mc ms free) (F0 m pc ls rest) := by
  intro T hT X
  have htr : e.platform.stackTraces = false := (show e.platform.stackTraces = l.stackTraces by rw [X.admits.platform]).trans hl
  have Y := vx_rebase X (R' := { frames := R.frames, locals := R.locals, cells := 1, slots := 6 }) (Nat.le_refl _) (Nat.le_refl _) hRcells hRslots
  obtain ⟨s', hA⟩ : ∃ z, z = (T.setVm s.vm).setFrames (.invoking m args :: below) := ⟨_, rfl⟩
  rw [← hA] at Y
  have hvm : s'.vm = s.vm := by rw [hA]; rfl
  have hhp : s'.heap = H := by rw [hA]; exact hT
  have hW0 : s.WarmedH s'.vm := by rw [hvm]; exact State.WarmedH.refl s
  have hat' : ∀ w ∈ vx_atS own ic cls names, w.before args s' = true := fun w hw => vx_ot_at hW0 hvm.symm (hgood w (List.mem_cons_of_mem _ (List.mem_cons_of_mem _ hw))) (hat w hw)
  have hk' : (Cond.classLink own ik cls).before args s' = true := vx_ot_at hW0 hvm.symm (hgood _ List.mem_cons_self) hk
  have hini' : (Cond.initialized cls).before args s' = true := vx_ot_at hW0 hvm.symm (hgood _ (List.mem_cons_of_mem _ List.mem_cons_self)) hini
  have hU' : vx_Zq Bundle.tN "UNASSIGNED_STACK" Bundle.steD A s' s'.heap := by rw [hhp]; exact vx_Zq.moved hW0.alike (hU.kept hS.2.1)
  have hN' : vx_Zq Bundle.tN "SUPPRESSED_SENTINEL" Bundle.listD A s' s'.heap := by rw [hhp]; exact vx_Zq.moved hW0.alike (hN.kept hS.2.1)
  have h : ∀ w ∈ Bundle.ownAtoms own ic cls names, w.before args s' = true := vx_own hat' (vx_isRefq hU'.1) (vx_isRefq hN'.1) hU'.2.word hN'.2.word
  have hown' : s'.vm.findClass own = some m.cls := by rw [hvm]; exact hown
  have hins : (Cond.instantiable cls 6).before args s' = true := h _ (by simp [Bundle.ownAtoms])
  obtain ⟨vm₁, cX, kX, hfX, hkX, -, -, X₁, st1⟩ := Y.newCold hexec (own := own) (C := cls) (index := ik) (n := 6) hown' hk' hins hini'
    (g := F0 m pc ls rest) rfl (by rw [hb]; exact d0) (Nat.le_refl _) (Nat.le_refl _)
  generalize hT1 : (T.setVm vm₁).pushCell { cls := cX, slots := kX.instanceTypes.map defaultValue, vm := .none } = T1 at X₁ st1
  have hcat : (Value.ref T.heap.size).category = 1 := rfl
  have hcellA : T1.heap[T.heap.size]? = some (freshCell cX kX) := by rw [← hT1]; exact State.heap_pushCell_size _ _
  have d3' : decode c.code (pc + 3) = .ok (.dup, 1) := by rw [hb]; exact d3
  have d4' : decode c.code (pc + 4) = .ok (.ldc_w is, 3) := by rw [hb]; exact d4
  have hstr' : vk_R own is text sa s' := vk_R.warm hW0 hstr
  obtain ⟨U, hsteps, hrun, hend, hW, hsame, ce, hce, hO⟩ := X₁.ctorThrowS hexec htr (own := own) (cls := cls) (names := names) (ic := ic) hown' hcls hnames h (fun x hx => nomatch hx) hfX hkX hcellA (by rw [hhp, hT]; exact Nat.le_refl _) (msg := .ref sa) rfl
    (g := { method := m, pc := pc + 7, locals := ls, stack := .ref sa :: .ref T.heap.size :: .ref T.heap.size :: rest, locked := none }) rfl hsize rfl rfl (rest := rest) rfl
    (by rw [hb]; exact d7) (by rw [hb]; exact d10) hout hRframes (by simp only [List.map_cons, List.sum_cons, hcat]; omega) hlocks
  obtain ⟨f1, f2⟩ := vx_frame hsame
  rw [hhp] at f1 f2
  have hWs : s.WarmedH U.vm := State.WarmedH.trans hW0 hW
  have hcl : s.vm.findClass cls = some ce.cls := by
    have h9 := hO.cls
    rw [hvm] at h9
    exact h9
  have hall : s.sameButNew ({ U with vm := s.vm } : State) locs mc ms := by
    subst hA
    obtain ⟨e1, e2⟩ := hsame
    rw [State.setFrames_setFrames] at e1
    have h2 : (T.setVm s.vm).sameButNew ({ U with vm := s.vm } : State) [] (0 + 1) (0 + 6) := ⟨e1, e2⟩
    have h3 := X.same.trans h2
    rw [List.append_nil] at h3
    exact h3.mono hc hs
  refine ⟨U, ?_, .threw T.heap.size, hrun, hend, Or.inr ⟨T.heap.size, rfl, cls, ce, locs, hx U hWs.alike f1 (fun q hq => f2 q hq (fun z hz => nomatch hz)), hce, hO.vm, hcl, hWs, hall, hf⟩⟩
  refine st1 _ ?_
  show Steps p.tables e below (T1.setTop { method := m, pc := pc + 3, locals := ls, stack := .ref T.heap.size :: rest, locked := none }) _
  jvm_step X₁.here [X₁.here.top, hexec, d3', Value.category]
  exact X₁.ldcStringW hexec (own := own) (text := text) (index := is) (a := sa) hown' hstr'.1 hstr'.2
    (g := { method := m, pc := pc + 4, locals := ls, stack := .ref T.heap.size :: .ref T.heap.size :: rest, locked := none }) rfl d4' _ hsteps
end Ends
section Bodies
variable {l : Launch}
theorem vx_ofW {y : MethodName} {ws ws' : List Cond} {rm : Room} {Pc : Array Value → State → Prop} {Qc : Array Value → State → Outcome → State → Prop} {XC : String → State → State → Prop} {mc ms : Nat} {free : Addr → Prop} {cc : ByteArray} {maxL : Nat} {ret : Option FieldType}
    (hy : plainName y.cls = true) (hw : ws = Cond.code y cc maxL ret :: ws')
    (body : ∀ p e s m args below meth c s₁, BodyLoose p l y (headSpec ws rm) cc maxL ret e s m args below meth c s₁ → c.maxLocals = maxL → (∀ x ∈ c.exceptionTable.toList, False) → Pc args s →
      W p l e (headSpec ws rm).room s m args below meth c s.heap [] 0 0 (vx_MQ below Qc XC args s mc ms free) (entryFrame m args maxL)) : vx_Met l y ws rm Pc Qc XC mc ms free := by
  refine MetFree.of_bodyS (code := cc) (maxLocals := maxL) (ret := ret) hy ?_ ?_
  · intro args s m h hn
    obtain ⟨meth, c, h1, h2, h3, h4, h5, h6, -, -⟩ := Cond.code_spec hn (atoms_spec (ws := ws) h _ (by rw [hw]; exact List.mem_cons_self))
    exact ⟨meth, c, h1, h2, h3, h4, h5, h6⟩
  · intro p e s m args below meth c s₁ B hml hP _
    have hh0 : s₁.heap = s.heap := by rw [B.state]; rfl
    have ht : ∀ x ∈ c.exceptionTable.toList, False := by
      obtain ⟨meth9, c9, h1, h2, -, -, -, -, h7, -⟩ := Cond.code_spec B.named (atoms_spec (ws := ws) B.pre _ (by rw [hw]; exact List.mem_cons_self))
      cases Option.some.inj (h1.symm.trans B.method)
      cases Option.some.inj (h2.symm.trans (Stand.of_body B).code)
      intro x hx
      rw [Array.isEmpty_iff.mp h7] at hx
      cases hx
    obtain ⟨t, a1, o, b1, b2, b3⟩ := body p e s m args below meth c s₁ B hml ht hP s₁ hh0 (Stand.of_body B)
    exact ⟨t, o, a1, b1, b2, b3⟩
/-- the table of a body with handlers -/
theorem vx_table {p : Program} {x y : MethodName} {S : Spec} {cc bytes : ByteArray} {maxL maxL' : Nat} {ret ret' : Option FieldType} {e : Env} {s s₁ : State} {m : MethodId} {args : Array Value} {below : List Frame} {meth : Method} {c : Code} {hh : List (Nat × Nat × Nat × Nat)}
    (B : BodyLoose p l y S cc maxL ret e s m args below meth c s₁) (h : (Cond.codeWith y bytes maxL' ret' hh).before args s = true) : c.exceptionTable.toList = tableOf hh := by
  obtain ⟨m9, meth9, c9, hn9, h1, h2, -, -, h6, -⟩ := Cond.codeWith_spec h
  cases Option.some.inj (hn9.symm.trans B.named)
  cases Option.some.inj (h1.symm.trans B.method)
  cases Option.some.inj (h2.symm.trans (Stand.of_body B).code)
  rw [← h6, table_eq]
end Bodies
end VXA
/-! ===== END ===== -/
/-! ===== BEGIN a static call of a method with an exception table ===== -/
section VXS
variable {p : Program} {l : Launch} {e : Env} {R : Room} {s : State} {m : MethodId} {args : Array Value} {below : List Frame} {meth : Method} {c : Code} {T : State} {H : Heap} {locs : List Loc} {cells slots : Nat}
abbrev vx_CSW (R : Room) (s : State) (args : Array Value) (own : String) (index : Nat) (y : MethodName) (bytes : ByteArray) (maxL : Nat) (ret : Option FieldType) (hh : List (Nat × Nat × Nat × Nat)) (ws : List Cond) (rm : Room) (mc ms n : Nat) : Prop :=
  (rm.cells = mc ∧ rm.slots = ms ∧ rm.frames + 1 ≤ R.frames ∧ 8 + (maxL + 11) + rm.locals ≤ R.locals ∧ (∀ w ∈ ws, ∀ (a' : Array Value) (U : State), s.WarmedH U.vm → w.before a' U = true) ∧ Cond.codeWith y bytes maxL ret hh ∈ ws) ∧
  (Cond.codeWith y bytes maxL ret hh).before args s = true ∧ (Cond.initialized y.cls).before args s = true ∧ (y.cls ≠ "java/lang/invoke/MethodHandle" ∧ y.cls ≠ "java/lang/invoke/VarHandle") ∧
  (∀ sig, parseMethodDescriptor y.desc = some sig → n = sig.parameters.length) ∧ (Cond.methodLink own index y).before args s = true ∧ (Cond.static y).before args s = true
theorem vx_cwSW {own : String} {index maxL mc ms : Nat} {y : MethodName} {bytes : ByteArray} {ret : Option FieldType} {hh : List (Nat × Nat × Nat × Nat)} {Ts ws ws' : List Cond} {rm : Room} (n : Nat) (ht : ∀ w ∈ Ts, w.before args s = true) (hT : GoodIn Ts (va_wsS own index y ws)) (hw : ws = Cond.codeWith y bytes maxL ret hh :: ws') (hrc : rm.cells = mc) (hrs : rm.slots = ms)
    (hd : y.cls ≠ "java/lang/invoke/MethodHandle" ∧ y.cls ≠ "java/lang/invoke/VarHandle" ∧ (parseMethodDescriptor y.desc).map (fun d => d.parameters.length) = some n) (hR : rm.frames + 1 ≤ R.frames ∧ 8 + (maxL + 11) + rm.locals ≤ R.locals) :
    vx_CSW R s args own index y bytes maxL ret hh ws rm mc ms n := by
  have ok : ∀ w ∈ va_wsS own index y ws, w.before args s = true := fun w h => ht w (hT w h).1
  have hG : GoodIn Ts ws := fun w h => hT w (by unfold va_wsS; exact List.mem_append_right _ h)
  have hc : Cond.codeWith y bytes maxL ret hh ∈ ws := by rw [hw]; exact List.mem_cons_self
  refine ⟨⟨hrc, hrs, hR.1, hR.2, pay_in ht hG, hc⟩, ht _ (hG _ hc).1, ok _ (by simp [va_wsS]), ⟨hd.1, hd.2.1⟩, fun sig h => ?_, ok _ (by simp [va_wsS]), ok _ (by simp [va_wsS])⟩
  have h2 := hd.2.2
  rw [h] at h2
  exact (Option.some.inj h2).symm
theorem vx_callSW (X : Stand p l e R s m args below meth c T locs cells slots) (hexec : p.tables.exec = Jvm.exec) {own : String} {index : Nat} {y : MethodName} {bytes : ByteArray} {maxL : Nat} {ret : Option FieldType} {hh : List (Nat × Nat × Nat × Nat)}
    (hown : s.vm.findClass own = some m.cls) (hlink : (Cond.methodLink own index y).before args s = true) (hstat : (Cond.static y).before args s = true) (hinit : (Cond.initialized y.cls).before args s = true)
    (hcode : (Cond.codeWith y bytes maxL ret hh).before args s = true) (hy : y.cls ≠ "java/lang/invoke/MethodHandle" ∧ y.cls ≠ "java/lang/invoke/VarHandle")
    {W9 : Nat} {Pre : Pt → Array Value → Prop} {Post : Pt → Array Value → Option Value → Pt → Prop} (hK : Back l R p e below s args y 3 W9 Pre Post)
    {g : JFrame} (hg : g.method = m) (hsize : g.locals.size = c.maxLocals) {argsL rest : List Value} (hlen : ∀ sig, parseMethodDescriptor y.desc = some sig → argsL.length = sig.parameters.length)
    (hstack : g.stack = argsL.reverse ++ rest) (hW : 2 * g.monitorRoom + (rest.map fun v => v.category).sum ≤ W9) (hdg : decode c.code g.pc = .ok (.invokestatic index, 3))
    (hpre : ∀ vm₁, s.WarmedH vm₁ → Pre ⟨T.setVm vm₁, locs, cells, slots⟩ argsL.toArray) :
    ∃ (v : Option Value) (vm₁ : Vm) (B : Pt), s.WarmedH vm₁ ∧ Stand p l e R s m args below meth c B.U B.locs B.cells B.slots ∧ Post ⟨T.setVm vm₁, locs, cells, slots⟩ argsL.toArray v B ∧
      ∀ target, Steps p.tables e below (B.U.setTop { g with pc := g.pc + 3, stack := v.toList ++ rest }) target → Steps p.tables e below (T.setTop g) target := by
  obtain ⟨mk, methM, cM, hnamed, hmethM, -, -, -, -, -, -, hsigM⟩ := Cond.codeWith_spec hcode
  have hstatic : methM.isStatic = true := Cond.static_spec hnamed hmethM hstat
  obtain ⟨kP, hkP, -⟩ := className_of_methodNamed hnamed
  have hinitP : kP.init = .initialized := Cond.initialized_spec (findClass_of_methodNamed hnamed) hkP hinit
  obtain ⟨vm₁, X₁, hstep₁⟩ := X.invokestatic hexec hown hlink hnamed hmethM hstatic hkP hinitP hy (g := g) hg (argsL := argsL) (rest := rest) (hlen _ hsigM) hstack hdg
  obtain ⟨v, B, X', hpost, hsteps⟩ := hK m meth c ⟨T.setVm vm₁, locs, cells, slots⟩ { g with stack := rest } (.invokestatic index) mk argsL.toArray X₁ hg hsize hdg hW (X₁.named hnamed) (hpre vm₁ X₁.warmed)
  exact ⟨v, vm₁, B, X₁.warmed, X', hpost, fun target h => hstep₁ _ fun acts => by rw [doInvoke_state]; exact hsteps.trans h⟩
theorem vx_runSW {y : MethodName} {bytes cc : ByteArray} {maxL nL mc ms n index : Nat} {ret : Option FieldType} {hh : List (Nat × Nat × Nat × Nat)} {ws : List Cond} {rm : Room} {Pc : Array Value → State → Prop} {Qc : Array Value → State → Outcome → State → Prop} {free : Addr → Prop} {Ts : List Cond} {own : String} {As rest : List Value} {g : JFrame}
    (S : CallFix p m c cc nL s args Ts own) (hM : Met l y ws rm Pc Qc mc ms free) (cw : vx_CSW R s args own index y bytes maxL ret hh ws rm mc ms n) (hp : PreS s H Pc As)
    (hg : g.method = m) (hn : As.length = n) (hsize : g.locals.size = nL) (hstack : g.stack = As.reverse ++ rest) (hW : 2 * g.monitorRoom + (rest.map fun v => v.category).sum ≤ 8) (hdg : decode cc g.pc = .ok (.invokestatic index, 3)) (hf : cells + mc ≤ R.cells ∧ slots + ms ≤ R.slots) :
    va_Run p l e R s m args below meth c H locs cells slots mc ms g rest (Qc As.toArray) (free) := by
  obtain ⟨⟨hrc, hrs, hfr, hlo, hws, hcw⟩, hcode, hini, hy, hlen, hl, hstt⟩ := cw
  have hK : Back l R p e below s args y 3 8 (PreOf R mc ms Pc) (PostOf Qc mc ms free) := va_backW (hh := hh) (bytes := bytes) (maxL := maxL) (ret := ret) hM hp.1 hrc hrs hfr hlo hws hcw (fun a' U hW => word_at hW (Or.inl (by first | rfl | simp [Cond.onTables, Cond.keeps, Cond.steady])) hini)
  obtain ⟨hx, hb, hml, ho, -⟩ := S
  intro T hT X
  obtain ⟨v, vm₁, ⟨U', l2, c2, s2⟩, hW₁, X', ⟨g', mk, t, L, e1, e2, hq, h1, hL, h2, h3⟩, st⟩ := vx_callSW X hx (hh := hh) (bytes := bytes) (maxL := maxL) (ret := ret) ho hl hstt hini hcode hy hK hg (hsize.trans hml.symm) (argsL := As) (rest := rest) (fun sig h => hn.trans (hlen sig h)) hstack hW (by rw [hb]; exact hdg)
    (fun vm₁ hW₁ => ⟨hf.1, hf.2, hp.2 (T.setVm vm₁) hT hW₁⟩)
  dsimp only [Pt.U, Pt.locs, Pt.cells, Pt.slots] at X' e1 e2 h1 h2 h3 st
  subst h1; subst h2; subst h3
  exact ⟨v, (T.setVm vm₁).calling g' mk As.toArray, t, U', L, hT, X', hL, e1, e2, hq, st⟩
/-- not caught here, past rows that name other classes: it goes on to the caller -/
theorem vx_outP {p : Program} {l : Launch} {e : Env} {R : Room} {s : State} {m : MethodId} {args : Array Value} {below : List Frame} {meth : Method} {c : Code} {H : Heap} {locs : List Loc} {cells slots : Nat} {free : Addr → Prop} {ls : Array Slot} {rest : List Value} {Qc : Array Value → State → Outcome → State → Prop} {XC : String → State → State → Prop}
    {pc : Nat} {own E : String} {ce : Cell} {q : Addr} {mc ms : Nat} (hown : s.vm.findClass own = some m.cls) (hlocks : meth.locks = false)
    (hpass : ∀ z ∈ c.exceptionTable.toList, covers z pc = false ∨ (z.catchType ≠ 0 ∧ ∃ nm : String, (Cond.classLink own z.catchType nm).before args s = true ∧ va_Nc E nm s)) (hcell : H[q]? = some ce) (hv : ce.vm = .none) (hcl : s.vm.findClass E = some ce.cls)
    (hx : ∀ t : State, t.heap = H → s.vm.Alike t.vm → XC E s t) (hf : ∀ z ∈ locs, free z.base) (hc : cells ≤ mc) (hs : slots ≤ ms) :
    vx_W p l e R s m args below meth c H locs cells slots (vx_MQ below Qc XC args s mc ms free) (F0 m pc ls rest) q := by
  intro T hT X
  have hpl : e.platform.magicAccessors = ({} : Platform).magicAccessors := by rw [X.admits.platform]
  obtain ⟨vm', hW', X', st⟩ := X.outThrough hlocks q (g := F0 m pc ls rest) rfl rfl rfl (cell := ce) (by rw [hT]; exact hcell) (by rw [hv]; rfl)
    (by obtain ⟨k9, h9, -⟩ := Vm.findClass_spec hcl; exact ⟨k9, h9⟩) (fun z hz => by
      rcases hpass z hz with h | ⟨hz0, nm, hl1, hn1⟩
      · exact Or.inl h
      · obtain ⟨c6, hc6, hcl6⟩ := Cond.classLink_spec hown hl1 e.platform hpl
        obtain ⟨a8, b8, h1, h2, h3⟩ := hn1
        cases Option.some.inj (h1.symm.trans hcl)
        cases Option.some.inj (h2.symm.trans hc6)
        exact Or.inr ⟨hz0, _, hcl6, h3⟩)
  obtain ⟨g₀, hfr⟩ := X'.frames_eq
  have hcell9 : ((T.setVm vm').setFrames (.throwing q :: below)).heap[q]? = some ce := by
    show T.heap[q]? = some ce
    rw [hT]; exact hcell
  have hend : Ended ((T.setVm vm').setFrames (.throwing q :: below)) below (.threw q) := State.frames_setFrames _ (State.cur_lt_of_frames hfr)
  refine ⟨(T.setVm vm').setFrames (.throwing q :: below), ?_, .threw q, X'.here.running, hend, Or.inr ⟨q, rfl, E, ce, locs, hx _ hT (X'.ends _).1.alike, hcell9, hv, hcl, (X'.ends _).1, (X'.ends _).2.mono hc hs, hf⟩⟩
  rw [X.pushThrowing_eq]
  exact st
/-- a thing of a world lies in the heap -/
theorem vx_lt {D : va_G} {cl : List vw_C} {ws : va_W} {H1 : Heap} (h : va_P D cl ws H1) {k : Nat} {q : Nat × va_E} (hk : ws[k]? = some q) : q.1 < H1.size := (h k q hk).lt
end VXS
/-! ===== END ===== -/
/-! ===== BEGIN methods with a table of their own: called by a name, returning or throwing ===== -/
section VXH
/-! vx_backW, vx_callVX, vx_callSX, vx_callVW, vx_runVW, vx_runVX, vx_runSX, vx_ofWH follow the same proofs as their sisters above (Free/Laws.lean, Shelf42/LK1.lean); vx_outP calls Shelf42/NT130.lean (outThrough). -/
section
variable {l : Launch} {R : Room} {p : Program} {e : Env} {below : List Frame} {s : State} {sargs : Array Value} {y : MethodName} {len W9 : Nat}
theorem vx_backW {ws : List Cond} {rm : Room} {Pc : Array Value → State → Prop} {Qc : Array Value → State → Outcome → State → Prop} {XC : String → State → State → Prop} {mc ms : Nat} {free : Addr → Prop} {bytes : ByteArray} {maxL : Nat} {ret : Option FieldType} {hh : List (Nat × Nat × Nat × Nat)}
    (hM : vx_Met l y ws rm Pc Qc XC mc ms free) (hblind : FrameBlind Pc) (hrc : rm.cells = mc) (hrs : rm.slots = ms)
    (hframes : rm.frames + 1 ≤ R.frames) (hlocals : W9 + (maxL + 11) + rm.locals ≤ R.locals)
    (hws : ∀ w ∈ ws, ∀ a' U, s.WarmedH U.vm → w.before a' U = true) (hcode : Cond.codeWith y bytes maxL ret hh ∈ ws) (hinit : ∀ a' U, s.WarmedH U.vm → (Cond.initialized y.cls).before a' U = true) :
    vx_Back l R p e below s sargs y len W9 (PreOf R mc ms Pc) (PostOf Qc mc ms free) (vx_Post XC mc ms free) := by
  intro m meth c A g ig mk a X hg hsize hdg hW hn hp
  have h1 : (headSpec ws rm).pre.before a A.U = true := atoms_intro fun w hw => hws w hw _ _ X.warmed
  have h2 : (Cond.codeWith y bytes maxL ret hh).before a A.U = true := hws _ hcode _ _ X.warmed
  have h3 : (Cond.initialized y.cls).before a A.U = true := hinit _ _ X.warmed
  have h4 : A.cells + (headSpec ws rm).room.cells ≤ R.cells := by rw [show (headSpec ws rm).room.cells = mc from hrc]; exact hp.1
  have h5 : A.slots + (headSpec ws rm).room.slots ≤ R.slots := by rw [show (headSpec ws rm).room.slots = ms from hrs]; exact hp.2.1
  have hPc : Pc a (A.U.calling g mk a) := hblind _ _ _ _ hp.2.2
  obtain ⟨U, Ls, c0, s0⟩ := A
  dsimp only [Pt.U, Pt.locs, Pt.cells, Pt.slots] at h1 h2 h3 h4 h5 X hn hPc ⊢
  obtain ⟨m9, methY, cY, hn9, hmY, hcY, -, hlY, -⟩ := Cond.codeWith_spec h2
  cases Option.some.inj (hn9.symm.trans hn)
  obtain ⟨kY, hkY, -⟩ := className_of_methodNamed hn
  have hinitY : kY.init = .initialized := Cond.initialized_spec (findClass_of_methodNamed hn) hkY h3
  have h : At U g.method c below := by rw [hg]; exact X.here
  have hlocals9 : W9 + (maxL + 11) + (headSpec ws rm).room.locals ≤ R.locals := hlocals
  have happ : (headSpec ws rm).appliesLoose y e.platform (U.calling g mk a) = true :=
    Spec.appliesLoose_calling (g := g) h hdg hn hkY hinitY
      (X.room_calling (g := g) (R' := (headSpec ws rm).room) hsize hmY hcY hframes (by rw [hlY]; omega) h4 h5) h1
  obtain ⟨mid, hmid⟩ := h.above
  have hfr : (U.setTop g).frames = (.java g :: mid) ++ below := by rw [State.frames_setTop' g h.top, hmid]; rfl
  obtain ⟨o, s₂, hsteps, -, hend, hq⟩ := Steps.callFree hM p X.admits X.cas X.clock (acts := []) hfr happ hPc trivial
  have hq' : vx_Q Qc XC mc ms free a (U.calling g mk a) o s₂ := hq
  rw [State.frames_setTop' g h.top] at hend
  obtain ⟨g₀, hg0⟩ := Option.isSome_iff_exists.mp h.top
  obtain ⟨r, hr⟩ := State.topJava?_eq_some.mp hg0
  have hr' : (({ U with heap := s₂.heap, slotsUsed := s₂.slotsUsed } : State).setVm s₂.vm).frames = .java g₀ :: r := hr
  rcases hq' with ⟨hqc, L, hfe, hL⟩ | ⟨q, rfl, E, ce, L, hx, hce, hcv, hcl, hW₂, hsm, hL⟩
  · obtain ⟨⟨v, rfl⟩, hW₂, e2, q2, q3, q4, q5, q6⟩ := id hfe
    have e3 : s₂ = ({ (U.calling g mk a).setFrames s₂.frames with heap := s₂.heap, slotsUsed := s₂.slotsUsed } : State).setVm s₂.vm := by
      have : s₂ = ({ s₂ with vm := (U.calling g mk a).vm } : State).setVm s₂.vm := rfl
      rw [e2] at this
      exact this
    obtain ⟨c₂, i₂, len₂, hc₂, hd₂, hf₂⟩ := hend
    have hW' : U.WarmedH s₂.vm := hW₂
    have hcc : c₂ = c := by
      have h1 : s₂.code? g.method = U.code? g.method := by
        rw [State.code?_eq, State.code?_eq, hW'.alike.method?]
      exact Option.some.inj (hc₂.symm.trans (h1.trans h.code))
    subst hcc
    have hlen : len₂ = len := by rw [hdg] at hd₂; cases hd₂; rfl
    subst hlen
    have hs₂ : s₂ = (({ U with heap := s₂.heap, slotsUsed := s₂.slotsUsed } : State).setVm s₂.vm).setTop { g with pc := g.pc + len₂, stack := v.toList ++ g.stack } := by
      refine e3.trans ?_
      rw [hf₂, State.calling_eq h.top, State.setFrames_setFrames, State.setTop_of_frames _ hr', hr]
      rfl
    have hsame : U.sameButNew ({ U with heap := s₂.heap, slotsUsed := s₂.slotsUsed } : State) L mc ms := by
      refine ⟨?_, q2, q3, q4, q5, q6⟩
      obtain ⟨t, ht, -⟩ := State.frames_cons hr
      show ({ U with heap := s₂.heap, slotsUsed := s₂.slotsUsed } : State) = { U.setFrames U.frames with heap := s₂.heap, slotsUsed := s₂.slotsUsed }
      rw [State.setFrames_self ht]
    subst hg
    refine Or.inl ⟨v, ⟨(({ U with heap := s₂.heap, slotsUsed := s₂.slotsUsed } : State).setVm s₂.vm), Ls ++ L, c0 + mc, s0 + ms⟩,
      ⟨X.admits, X.cas, X.clock, X.frames, X.room, X.hears, X.method, X.code, (X.here.setHeapUsed s₂.heap s₂.slotsUsed).setVm hW'.alike, X.tail, State.WarmedH.trans X.warmed hW', X.limits, X.bytes, X.same.trans (hsame.setVm s.vm)⟩,
      ⟨g, mk, s₂, L, rfl, rfl, hqc, rfl, hL, rfl, rfl⟩, ?_⟩
    show Steps p.tables e below _ ((({ U with heap := s₂.heap, slotsUsed := s₂.slotsUsed } : State).setVm s₂.vm).setTop { g with pc := g.pc + len₂, stack := v.toList ++ g.stack })
    rw [← hs₂]
    exact hsteps
  · obtain ⟨e2, q2, q3, q4, q5, q6⟩ := id hsm
    have e3 : s₂ = ({ (U.calling g mk a).setFrames s₂.frames with heap := s₂.heap, slotsUsed := s₂.slotsUsed } : State).setVm s₂.vm := by
      have : s₂ = ({ s₂ with vm := (U.calling g mk a).vm } : State).setVm s₂.vm := rfl
      rw [e2] at this
      exact this
    have hf₂ : s₂.frames = .throwing q :: .java g :: U.frames.tail := hend
    have hW' : U.WarmedH s₂.vm := hW₂
    have hs₂ : s₂ = ((({ U with heap := s₂.heap, slotsUsed := s₂.slotsUsed } : State).setVm s₂.vm).setTop g).pushFrame (.throwing q) := by
      refine e3.trans ?_
      rw [hf₂, State.calling_eq h.top, State.setFrames_setFrames, State.pushFrame, State.frames_setTop _ hr', State.setTop_of_frames _ hr', State.setFrames_setFrames, hr]
      rfl
    have hsame : U.sameButNew ({ U with heap := s₂.heap, slotsUsed := s₂.slotsUsed } : State) L mc ms := by
      refine ⟨?_, q2, q3, q4, q5, q6⟩
      obtain ⟨t, ht, -⟩ := State.frames_cons hr
      show ({ U with heap := s₂.heap, slotsUsed := s₂.slotsUsed } : State) = { U.setFrames U.frames with heap := s₂.heap, slotsUsed := s₂.slotsUsed }
      rw [State.setFrames_self ht]
    subst hg
    refine Or.inr ⟨q, ⟨(({ U with heap := s₂.heap, slotsUsed := s₂.slotsUsed } : State).setVm s₂.vm), Ls ++ L, c0 + mc, s0 + ms⟩,
      ⟨X.admits, X.cas, X.clock, X.frames, X.room, X.hears, X.method, X.code, (X.here.setHeapUsed s₂.heap s₂.slotsUsed).setVm hW'.alike, X.tail, State.WarmedH.trans X.warmed hW', X.limits, X.bytes, X.same.trans (hsame.setVm s.vm)⟩,
      ⟨g, mk, s₂, L, E, ce, rfl, rfl, hx, hce, hcv, hcl, rfl, hL, rfl, rfl⟩, ?_⟩
    show Steps p.tables e below _ (((({ U with heap := s₂.heap, slotsUsed := s₂.slotsUsed } : State).setVm s₂.vm).setTop g).pushFrame (.throwing q))
    rw [← hs₂]
    exact hsteps
end
variable {p : Program} {l : Launch} {e : Env} {R : Room} {s : State} {m : MethodId} {args : Array Value} {below : List Frame} {meth : Method} {c : Code} {T : State} {H : Heap} {locs : List Loc} {cells slots : Nat}
theorem vx_callVX (X : Stand p l e R s m args below meth c T locs cells slots) (hexec : p.tables.exec = Jvm.exec) {own C : String} {index : Nat} {y : MethodName} {bytes : ByteArray} {maxL : Nat} {ret : Option FieldType} {hh : List (Nat × Nat × Nat × Nat)}
    (hown : s.vm.findClass own = some m.cls) (hlink : (Cond.methodLink own index y).before args s = true) (hinst : (Cond.instanceMethod y).before args s = true) (hsel : (Cond.selects C y y).before args s = true)
    (hcode : (Cond.codeWith y bytes maxL ret hh).before args s = true) (hy : y.cls ≠ "java/lang/invoke/MethodHandle" ∧ y.cls ≠ "java/lang/invoke/VarHandle")
    {W9 : Nat} {Pre : Pt → Array Value → Prop} {Post : Pt → Array Value → Option Value → Pt → Prop} {PostX : Pt → Array Value → Addr → Pt → Prop} (hK : vx_Back l R p e below s args y 3 W9 Pre Post PostX)
    {b : Addr} {cellB : Cell} (hcell : T.heap[b]? = some cellB) (hobj : cellB.vm.isStatics = false) (hcls : s.vm.findClass C = some cellB.cls)
    {g : JFrame} (hg : g.method = m) (hsize : g.locals.size = c.maxLocals) {argsL rest : List Value} (hlen : ∀ sig, parseMethodDescriptor y.desc = some sig → argsL.length = sig.parameters.length)
    (hstack : g.stack = argsL.reverse ++ .ref b :: rest) (hW : 2 * g.monitorRoom + (rest.map fun v => v.category).sum ≤ W9) (hdg : decode c.code g.pc = .ok (.invokevirtual index, 3))
    (hpre : ∀ vm₁, s.WarmedH vm₁ → Pre ⟨T.setVm vm₁, locs, cells, slots⟩ (Value.ref b :: argsL).toArray) :
    (∃ (v : Option Value) (vm₁ : Vm) (B : Pt), s.WarmedH vm₁ ∧ Stand p l e R s m args below meth c B.U B.locs B.cells B.slots ∧ Post ⟨T.setVm vm₁, locs, cells, slots⟩ (Value.ref b :: argsL).toArray v B ∧
      ∀ target, Steps p.tables e below (B.U.setTop { g with pc := g.pc + 3, stack := v.toList ++ rest }) target → Steps p.tables e below (T.setTop g) target) ∨
    (∃ (q : Addr) (vm₁ : Vm) (B : Pt), s.WarmedH vm₁ ∧ Stand p l e R s m args below meth c B.U B.locs B.cells B.slots ∧ PostX ⟨T.setVm vm₁, locs, cells, slots⟩ (Value.ref b :: argsL).toArray q B ∧
      Steps p.tables e below (T.setTop g) ((B.U.setTop { g with stack := rest }).pushFrame (.throwing q))) := by
  obtain ⟨mk, methM, hnamed, hmethM, hstM, habM⟩ := Cond.instanceMethod_spec hinst
  obtain ⟨m8, methM', cM, hn8, hmethM', -, -, -, -, -, -, hsigM⟩ := Cond.codeWith_spec hcode
  cases Option.some.inj (hn8.symm.trans hnamed)
  cases hmethM.symm.trans hmethM'
  obtain ⟨c2, r2, m2, q1, q2, q3, q4, kP, hkP, hkPi⟩ := Cond.selects_spec hsel
  cases hcls.symm.trans q1
  cases (State.methodFound?_of_named hnamed hy).symm.trans q2
  cases hnamed.symm.trans q3
  have hselP : selectMethod e.platform s.vm cellB.cls mk = .method mk := by rw [Launch.admits_selectMethod X.admits]; exact q4
  obtain ⟨vm₁, X₁, hstep₁⟩ := X.invokevirtual hexec hown hlink hnamed hmethM hstM hkP hkPi hy (a := b) (cell := cellB) hcell
    (fun z h => by rw [h] at hobj; cases hobj) hselP hmethM habM hkP hkPi (g := g) hg (argsL := argsL) (rest := rest) (hlen _ hsigM) hstack hdg
  rcases hK m meth c ⟨T.setVm vm₁, locs, cells, slots⟩ { g with stack := rest } (.invokevirtual index) mk (Value.ref b :: argsL).toArray X₁ hg hsize hdg hW (X₁.named hnamed) (hpre vm₁ X₁.warmed) with ⟨v, B, X', hpost, hsteps⟩ | ⟨q, B, X', hpost, hsteps⟩
  · exact Or.inl ⟨v, vm₁, B, X₁.warmed, X', hpost, fun target h => hstep₁ _ fun acts => by rw [doInvoke_state]; exact hsteps.trans h⟩
  · exact Or.inr ⟨q, vm₁, B, X₁.warmed, X', hpost, hstep₁ _ fun acts => by rw [doInvoke_state]; exact hsteps⟩
theorem vx_callSX (X : Stand p l e R s m args below meth c T locs cells slots) (hexec : p.tables.exec = Jvm.exec) {own : String} {index : Nat} {y : MethodName} {bytes : ByteArray} {maxL : Nat} {ret : Option FieldType} {hh : List (Nat × Nat × Nat × Nat)}
    (hown : s.vm.findClass own = some m.cls) (hlink : (Cond.methodLink own index y).before args s = true) (hstat : (Cond.static y).before args s = true) (hinit : (Cond.initialized y.cls).before args s = true)
    (hcode : (Cond.codeWith y bytes maxL ret hh).before args s = true) (hy : y.cls ≠ "java/lang/invoke/MethodHandle" ∧ y.cls ≠ "java/lang/invoke/VarHandle")
    {W9 : Nat} {Pre : Pt → Array Value → Prop} {Post : Pt → Array Value → Option Value → Pt → Prop} {PostX : Pt → Array Value → Addr → Pt → Prop} (hK : vx_Back l R p e below s args y 3 W9 Pre Post PostX)
    {g : JFrame} (hg : g.method = m) (hsize : g.locals.size = c.maxLocals) {argsL rest : List Value} (hlen : ∀ sig, parseMethodDescriptor y.desc = some sig → argsL.length = sig.parameters.length)
    (hstack : g.stack = argsL.reverse ++ rest) (hW : 2 * g.monitorRoom + (rest.map fun v => v.category).sum ≤ W9) (hdg : decode c.code g.pc = .ok (.invokestatic index, 3))
    (hpre : ∀ vm₁, s.WarmedH vm₁ → Pre ⟨T.setVm vm₁, locs, cells, slots⟩ argsL.toArray) :
    (∃ (v : Option Value) (vm₁ : Vm) (B : Pt), s.WarmedH vm₁ ∧ Stand p l e R s m args below meth c B.U B.locs B.cells B.slots ∧ Post ⟨T.setVm vm₁, locs, cells, slots⟩ argsL.toArray v B ∧
      ∀ target, Steps p.tables e below (B.U.setTop { g with pc := g.pc + 3, stack := v.toList ++ rest }) target → Steps p.tables e below (T.setTop g) target) ∨
    (∃ (q : Addr) (vm₁ : Vm) (B : Pt), s.WarmedH vm₁ ∧ Stand p l e R s m args below meth c B.U B.locs B.cells B.slots ∧ PostX ⟨T.setVm vm₁, locs, cells, slots⟩ argsL.toArray q B ∧
      Steps p.tables e below (T.setTop g) ((B.U.setTop { g with stack := rest }).pushFrame (.throwing q))) := by
  obtain ⟨mk, methM, cM, hnamed, hmethM, -, -, -, -, -, -, hsigM⟩ := Cond.codeWith_spec hcode
  have hstatic : methM.isStatic = true := Cond.static_spec hnamed hmethM hstat
  obtain ⟨kP, hkP, -⟩ := className_of_methodNamed hnamed
  have hinitP : kP.init = .initialized := Cond.initialized_spec (findClass_of_methodNamed hnamed) hkP hinit
  obtain ⟨vm₁, X₁, hstep₁⟩ := X.invokestatic hexec hown hlink hnamed hmethM hstatic hkP hinitP hy (g := g) hg (argsL := argsL) (rest := rest) (hlen _ hsigM) hstack hdg
  rcases hK m meth c ⟨T.setVm vm₁, locs, cells, slots⟩ { g with stack := rest } (.invokestatic index) mk argsL.toArray X₁ hg hsize hdg hW (X₁.named hnamed) (hpre vm₁ X₁.warmed) with ⟨v, B, X', hpost, hsteps⟩ | ⟨q, B, X', hpost, hsteps⟩
  · exact Or.inl ⟨v, vm₁, B, X₁.warmed, X', hpost, fun target h => hstep₁ _ fun acts => by rw [doInvoke_state]; exact hsteps.trans h⟩
  · exact Or.inr ⟨q, vm₁, B, X₁.warmed, X', hpost, hstep₁ _ fun acts => by rw [doInvoke_state]; exact hsteps⟩
theorem vx_callVW (X : Stand p l e R s m args below meth c T locs cells slots) (hexec : p.tables.exec = Jvm.exec) {own C : String} {index : Nat} {y : MethodName} {bytes : ByteArray} {maxL : Nat} {ret : Option FieldType} {hh : List (Nat × Nat × Nat × Nat)}
    (hown : s.vm.findClass own = some m.cls) (hlink : (Cond.methodLink own index y).before args s = true) (hinst : (Cond.instanceMethod y).before args s = true) (hsel : (Cond.selects C y y).before args s = true)
    (hcode : (Cond.codeWith y bytes maxL ret hh).before args s = true) (hy : y.cls ≠ "java/lang/invoke/MethodHandle" ∧ y.cls ≠ "java/lang/invoke/VarHandle")
    {W9 : Nat} {Pre : Pt → Array Value → Prop} {Post : Pt → Array Value → Option Value → Pt → Prop} (hK : Back l R p e below s args y 3 W9 Pre Post)
    {b : Addr} {cellB : Cell} (hcell : T.heap[b]? = some cellB) (hobj : cellB.vm.isStatics = false) (hcls : s.vm.findClass C = some cellB.cls)
    {g : JFrame} (hg : g.method = m) (hsize : g.locals.size = c.maxLocals) {argsL rest : List Value} (hlen : ∀ sig, parseMethodDescriptor y.desc = some sig → argsL.length = sig.parameters.length)
    (hstack : g.stack = argsL.reverse ++ .ref b :: rest) (hW : 2 * g.monitorRoom + (rest.map fun v => v.category).sum ≤ W9) (hdg : decode c.code g.pc = .ok (.invokevirtual index, 3))
    (hpre : ∀ vm₁, s.WarmedH vm₁ → Pre ⟨T.setVm vm₁, locs, cells, slots⟩ (Value.ref b :: argsL).toArray) :
    ∃ (v : Option Value) (vm₁ : Vm) (B : Pt), s.WarmedH vm₁ ∧ Stand p l e R s m args below meth c B.U B.locs B.cells B.slots ∧ Post ⟨T.setVm vm₁, locs, cells, slots⟩ (Value.ref b :: argsL).toArray v B ∧
      ∀ target, Steps p.tables e below (B.U.setTop { g with pc := g.pc + 3, stack := v.toList ++ rest }) target → Steps p.tables e below (T.setTop g) target := by
  obtain ⟨mk, methM, hnamed, hmethM, hstM, habM⟩ := Cond.instanceMethod_spec hinst
  obtain ⟨m8, methM', cM, hn8, hmethM', -, -, -, -, -, -, hsigM⟩ := Cond.codeWith_spec hcode
  cases Option.some.inj (hn8.symm.trans hnamed)
  cases hmethM.symm.trans hmethM'
  obtain ⟨c2, r2, m2, q1, q2, q3, q4, kP, hkP, hkPi⟩ := Cond.selects_spec hsel
  cases hcls.symm.trans q1
  cases (State.methodFound?_of_named hnamed hy).symm.trans q2
  cases hnamed.symm.trans q3
  have hselP : selectMethod e.platform s.vm cellB.cls mk = .method mk := by rw [Launch.admits_selectMethod X.admits]; exact q4
  obtain ⟨vm₁, X₁, hstep₁⟩ := X.invokevirtual hexec hown hlink hnamed hmethM hstM hkP hkPi hy (a := b) (cell := cellB) hcell
    (fun z h => by rw [h] at hobj; cases hobj) hselP hmethM habM hkP hkPi (g := g) hg (argsL := argsL) (rest := rest) (hlen _ hsigM) hstack hdg
  obtain ⟨v, B, X', hpost, hsteps⟩ := hK m meth c ⟨T.setVm vm₁, locs, cells, slots⟩ { g with stack := rest } (.invokevirtual index) mk (Value.ref b :: argsL).toArray X₁ hg hsize hdg hW (X₁.named hnamed) (hpre vm₁ X₁.warmed)
  exact ⟨v, vm₁, B, X₁.warmed, X', hpost, fun target h => hstep₁ _ fun acts => by rw [doInvoke_state]; exact hsteps.trans h⟩
abbrev vx_CVW (R : Room) (s : State) (args : Array Value) (own C : String) (index : Nat) (y : MethodName) (bytes : ByteArray) (maxL : Nat) (ret : Option FieldType) (hh : List (Nat × Nat × Nat × Nat)) (ws : List Cond) (rm : Room) (mc ms n : Nat) : Prop :=
  (rm.cells = mc ∧ rm.slots = ms ∧ rm.frames + 1 ≤ R.frames ∧ 8 + (maxL + 11) + rm.locals ≤ R.locals ∧ (∀ w ∈ ws, ∀ (a' : Array Value) (U : State), s.WarmedH U.vm → w.before a' U = true) ∧ Cond.codeWith y bytes maxL ret hh ∈ ws) ∧
  (Cond.codeWith y bytes maxL ret hh).before args s = true ∧ (Cond.initialized y.cls).before args s = true ∧ (y.cls ≠ "java/lang/invoke/MethodHandle" ∧ y.cls ≠ "java/lang/invoke/VarHandle") ∧
  (∀ sig, parseMethodDescriptor y.desc = some sig → n = sig.parameters.length) ∧ (Cond.methodLink own index y).before args s = true ∧ (Cond.instanceMethod y).before args s = true ∧ (Cond.selects C y y).before args s = true
theorem vx_cwVW {own C : String} {index maxL mc ms : Nat} {y : MethodName} {bytes : ByteArray} {ret : Option FieldType} {hh : List (Nat × Nat × Nat × Nat)} {Ts ws ws' : List Cond} {rm : Room} (n : Nat) (ht : ∀ w ∈ Ts, w.before args s = true) (hT : GoodIn Ts (wsV own index C y ws)) (hw : ws = Cond.codeWith y bytes maxL ret hh :: ws') (hrc : rm.cells = mc) (hrs : rm.slots = ms)
    (hd : y.cls = C ∧ y.cls ≠ "java/lang/invoke/MethodHandle" ∧ y.cls ≠ "java/lang/invoke/VarHandle" ∧ (parseMethodDescriptor y.desc).map (fun d => d.parameters.length) = some n) (hR : rm.frames + 1 ≤ R.frames ∧ 8 + (maxL + 11) + rm.locals ≤ R.locals) :
    vx_CVW R s args own C index y bytes maxL ret hh ws rm mc ms n := by
  obtain ⟨hC, hd⟩ := hd
  subst hC
  have ok : ∀ w ∈ wsV own index y.cls y ws, w.before args s = true := fun w h => ht w (hT w h).1
  have hG : GoodIn Ts ws := fun w h => hT w (by unfold wsV; exact List.mem_append_right _ h)
  have hc : Cond.codeWith y bytes maxL ret hh ∈ ws := by rw [hw]; exact List.mem_cons_self
  refine ⟨⟨hrc, hrs, hR.1, hR.2, pay_in ht hG, hc⟩, ht _ (hG _ hc).1, ok _ (by simp [wsV]), ⟨hd.1, hd.2.1⟩, fun sig h => ?_, ok _ (by simp [wsV]), ok _ (by simp [wsV]), ok _ (by simp [wsV])⟩
  have h2 := hd.2.2
  rw [h] at h2
  exact (Option.some.inj h2).symm
theorem vx_runVW {y : MethodName} {bytes cc : ByteArray} {maxL nL mc ms n index : Nat} {ret : Option FieldType} {hh : List (Nat × Nat × Nat × Nat)} {ws : List Cond} {rm : Room} {Pc : Array Value → State → Prop} {Qc : Array Value → State → Outcome → State → Prop} {free : Addr → Prop} {Ts : List Cond} {own C : String} {b : Addr} {As rest : List Value} {g : JFrame}
    (S : CallFix p m c cc nL s args Ts own) (hM : Met l y ws rm Pc Qc mc ms free) (cw : vx_CVW R s args own C index y bytes maxL ret hh ws rm mc ms n) (hp : PreV s H C b Pc As)
    (hg : g.method = m) (hn : As.length = n) (hsize : g.locals.size = nL) (hstack : g.stack = As.reverse ++ .ref b :: rest) (hW : 2 * g.monitorRoom + (rest.map fun v => v.category).sum ≤ 8) (hdg : decode cc g.pc = .ok (.invokevirtual index, 3)) (hf : cells + mc ≤ R.cells ∧ slots + ms ≤ R.slots) :
    va_Run p l e R s m args below meth c H locs cells slots mc ms g rest (Qc (Value.ref b :: As).toArray) free := by
  obtain ⟨⟨hrc, hrs, hfr, hlo, hws, hcw⟩, hcode, hini, hy, hlen, hl, hin, hse⟩ := cw
  have hK : Back l R p e below s args y 3 8 (PreOf R mc ms Pc) (PostOf Qc mc ms free) := va_backW (hh := hh) (bytes := bytes) (maxL := maxL) (ret := ret) hM hp.1 hrc hrs hfr hlo hws hcw (fun a' U hW => word_at hW (Or.inl (by first | rfl | simp [Cond.onTables, Cond.keeps, Cond.steady])) hini)
  obtain ⟨hx, hb, hml, ho, -⟩ := S
  obtain ⟨-, ⟨cellB, hcB, hoB, hclB⟩, hPc⟩ := hp
  intro T hT X
  obtain ⟨v, vm₁, ⟨U', l2, c2, s2⟩, hW₁, X', ⟨g', mk, t, L, e1, e2, hq, h1, hL, h2, h3⟩, st⟩ := vx_callVW X hx (C := C) (hh := hh) (bytes := bytes) (maxL := maxL) (ret := ret) ho hl hin hse hcode hy hK (by rw [hT]; exact hcB) hoB hclB hg (hsize.trans hml.symm) (argsL := As) (rest := rest) (fun sig h => hn.trans (hlen sig h)) hstack hW (by rw [hb]; exact hdg)
    (fun vm₁ hW₁ => ⟨hf.1, hf.2, hPc (T.setVm vm₁) hT hW₁⟩)
  dsimp only [Pt.U, Pt.locs, Pt.cells, Pt.slots] at X' e1 e2 h1 h2 h3 st
  subst h1; subst h2; subst h3
  exact ⟨v, (T.setVm vm₁).calling g' mk (Value.ref b :: As).toArray, t, U', L, hT, X', hL, e1, e2, hq, st⟩
section
variable {y : MethodName} {bytes cc : ByteArray} {maxL nL mc ms n index : Nat} {ret : Option FieldType} {ws : List Cond} {rm : Room} {Pc : Array Value → State → Prop} {Qc : Array Value → State → Outcome → State → Prop} {XC : String → State → State → Prop} {free : Addr → Prop} {Ts : List Cond} {own C : String} {b : Addr} {As rest : List Value} {g : JFrame}
theorem vx_runVX {hh : List (Nat × Nat × Nat × Nat)} (S : CallFix p m c cc nL s args Ts own) (hM : vx_Met l y ws rm Pc Qc XC mc ms free) (cw : vx_CVW R s args own C index y bytes maxL ret hh ws rm mc ms n) (hp : PreV s H C b Pc As)
    (hg : g.method = m) (hn : As.length = n) (hsize : g.locals.size = nL) (hstack : g.stack = As.reverse ++ .ref b :: rest) (hW : 2 * g.monitorRoom + (rest.map fun v => v.category).sum ≤ 8) (hdg : decode cc g.pc = .ok (.invokevirtual index, 3)) (hf : cells + mc ≤ R.cells ∧ slots + ms ≤ R.slots) :
    vx_Run p l e R s m args below meth c H locs cells slots mc ms g rest (Qc (Value.ref b :: As).toArray) XC free := by
  obtain ⟨⟨hrc, hrs, hfr, hlo, hws, hcw⟩, hcode, hini, hy, hlen, hl, hin, hse⟩ := cw
  have hK : vx_Back l R p e below s args y 3 8 (PreOf R mc ms Pc) (PostOf Qc mc ms free) (vx_Post XC mc ms free) := vx_backW (hh := hh) (bytes := bytes) (maxL := maxL) (ret := ret) hM hp.1 hrc hrs hfr hlo hws hcw (fun a' U hW => word_at hW (Or.inl (by first | rfl | simp [Cond.onTables, Cond.keeps, Cond.steady])) hini)
  obtain ⟨hx, hb, hml, ho, -⟩ := S
  obtain ⟨-, ⟨cellB, hcB, hoB, hclB⟩, hPc⟩ := hp
  intro T hT X
  rcases vx_callVX X hx (C := C) (hh := hh) (bytes := bytes) (maxL := maxL) (ret := ret) ho hl hin hse hcode hy hK (by rw [hT]; exact hcB) hoB hclB hg (hsize.trans hml.symm) (argsL := As) (rest := rest) (fun sig h => hn.trans (hlen sig h)) hstack hW (by rw [hb]; exact hdg)
    (fun vm₁ hW₁ => ⟨hf.1, hf.2, hPc (T.setVm vm₁) hT hW₁⟩) with ⟨v, vm₁, ⟨U', l2, c2, s2⟩, hW₁, X', ⟨g', mk, t, L, e1, e2, hq, h1, hL, h2, h3⟩, st⟩ | ⟨q, vm₁, ⟨U', l2, c2, s2⟩, hW₁, X', ⟨g', mk, t, L, E, ce, e1, e2, hq, hce, hcv, hcl, h1, hL, h2, h3⟩, st⟩
  · dsimp only [Pt.U, Pt.locs, Pt.cells, Pt.slots] at X' e1 e2 h1 h2 h3 st
    subst h1; subst h2; subst h3
    exact Or.inl ⟨v, (T.setVm vm₁).calling g' mk (Value.ref b :: As).toArray, t, U', L, hT, X', hL, e1, e2, hq, st⟩
  · dsimp only [Pt.U, Pt.locs, Pt.cells, Pt.slots] at X' e1 e2 h1 h2 h3 st hcl
    subst h1; subst h2; subst h3
    exact Or.inr ⟨q, (T.setVm vm₁).calling g' mk (Value.ref b :: As).toArray, t, U', L, E, ce, hT, X', hL, e1, e2, hq, hce, hcv, vx_cls hW₁ hcl, st⟩
theorem vx_runSX {hh : List (Nat × Nat × Nat × Nat)} (S : CallFix p m c cc nL s args Ts own) (hM : vx_Met l y ws rm Pc Qc XC mc ms free) (cw : vx_CSW R s args own index y bytes maxL ret hh ws rm mc ms n) (hp : PreS s H Pc As)
    (hg : g.method = m) (hn : As.length = n) (hsize : g.locals.size = nL) (hstack : g.stack = As.reverse ++ rest) (hW : 2 * g.monitorRoom + (rest.map fun v => v.category).sum ≤ 8) (hdg : decode cc g.pc = .ok (.invokestatic index, 3)) (hf : cells + mc ≤ R.cells ∧ slots + ms ≤ R.slots) :
    vx_Run p l e R s m args below meth c H locs cells slots mc ms g rest (Qc As.toArray) XC free := by
  obtain ⟨⟨hrc, hrs, hfr, hlo, hws, hcw⟩, hcode, hini, hy, hlen, hl, hstt⟩ := cw
  have hK : vx_Back l R p e below s args y 3 8 (PreOf R mc ms Pc) (PostOf Qc mc ms free) (vx_Post XC mc ms free) := vx_backW (hh := hh) (bytes := bytes) (maxL := maxL) (ret := ret) hM hp.1 hrc hrs hfr hlo hws hcw (fun a' U hW => word_at hW (Or.inl (by first | rfl | simp [Cond.onTables, Cond.keeps, Cond.steady])) hini)
  obtain ⟨hx, hb, hml, ho, -⟩ := S
  intro T hT X
  rcases vx_callSX X hx (hh := hh) (bytes := bytes) (maxL := maxL) (ret := ret) ho hl hstt hini hcode hy hK hg (hsize.trans hml.symm) (argsL := As) (rest := rest) (fun sig h => hn.trans (hlen sig h)) hstack hW (by rw [hb]; exact hdg)
    (fun vm₁ hW₁ => ⟨hf.1, hf.2, hp.2 (T.setVm vm₁) hT hW₁⟩) with ⟨v, vm₁, ⟨U', l2, c2, s2⟩, hW₁, X', ⟨g', mk, t, L, e1, e2, hq, h1, hL, h2, h3⟩, st⟩ | ⟨q, vm₁, ⟨U', l2, c2, s2⟩, hW₁, X', ⟨g', mk, t, L, E, ce, e1, e2, hq, hce, hcv, hcl, h1, hL, h2, h3⟩, st⟩
  · dsimp only [Pt.U, Pt.locs, Pt.cells, Pt.slots] at X' e1 e2 h1 h2 h3 st
    subst h1; subst h2; subst h3
    exact Or.inl ⟨v, (T.setVm vm₁).calling g' mk As.toArray, t, U', L, hT, X', hL, e1, e2, hq, st⟩
  · dsimp only [Pt.U, Pt.locs, Pt.cells, Pt.slots] at X' e1 e2 h1 h2 h3 st hcl
    subst h1; subst h2; subst h3
    exact Or.inr ⟨q, (T.setVm vm₁).calling g' mk As.toArray, t, U', L, E, ce, hT, X', hL, e1, e2, hq, hce, hcv, vx_cls hW₁ hcl, st⟩
end
end VXH
theorem vx_ofWH {l : Launch} {y : MethodName} {ws ws' : List Cond} {rm : Room} {Pc : Array Value → State → Prop} {Qc : Array Value → State → Outcome → State → Prop} {XC : String → State → State → Prop} {mc ms : Nat} {free : Addr → Prop} {cc : ByteArray} {maxL : Nat} {ret : Option FieldType} {hh : List (Nat × Nat × Nat × Nat)}
    (hy : plainName y.cls = true) (hw : ws = Cond.codeWith y cc maxL ret hh :: ws')
    (body : ∀ p e s m args below meth c s₁, BodyLoose p l y (headSpec ws rm) cc maxL ret e s m args below meth c s₁ → c.maxLocals = maxL → Pc args s →
      W p l e (headSpec ws rm).room s m args below meth c s.heap [] 0 0 (vx_MQ below Qc XC args s mc ms free) (entryFrame m args maxL)) : vx_Met l y ws rm Pc Qc XC mc ms free := by
  refine MetFree.of_bodyS (code := cc) (maxLocals := maxL) (ret := ret) hy ?_ ?_
  · intro args s m h hn
    obtain ⟨m9, meth, c, hn9, h1, h2, h3, h4, -, h5, h6, -⟩ := Cond.codeWith_spec (atoms_spec (ws := ws) h _ (by rw [hw]; exact List.mem_cons_self))
    cases hn.symm.trans hn9
    exact ⟨meth, c, h1, h2, h3, h4, h5, h6⟩
  · intro p e s m args below meth c s₁ B hml hP _
    have hh0 : s₁.heap = s.heap := by rw [B.state]; rfl
    obtain ⟨t, a1, o, b1, b2, b3⟩ := body p e s m args below meth c s₁ B hml hP s₁ hh0 (Stand.of_body B)
    exact ⟨t, o, a1, b1, b2, b3⟩
/-! ===== END ===== -/
end
section
def RX0 : String := "CursorKeep$Act"
def TX0 : u_T := fun k => match k with
  | 0 => ("CursorKeep$Act", "text", "LCursorKeep$Text;", true)
  | 1 => ("CursorKeep$Act", "letter", "I", true)
  | _ => ("CursorKeep$Act", "typed", "Z", true)
def tyX0 : Nat → FieldType := fun k => match k with
  | 0 => .object "CursorKeep$Text"
  | 1 => .int
  | _ => .boolean
abbrev wsX00 : List Cond := u_ws RX0 TX0 3
theorem nmX0 : ∀ a, a < 3 → ∀ b, b < 3 → a ≠ b → (TX0 a).2.1 ≠ (TX0 b).2.1 := by decide +kernel
theorem tyX0_ok : ∀ k, k < 3 → parseFieldDescriptor (TX0 k).2.2.1 = some (tyX0 k) := by decide +kernel
abbrev cX0_init : ByteArray := prog_2_method_1_code
def yX0_init : MethodName := ⟨RX0, "<init>", "(LCursorKeep$Text;IZ)V"⟩
def RX1 : String := "CursorKeep$Change"
def TX1 : u_T := fun k => match k with
  | 0 => ("CursorKeep$Change", "letter", "I", true)
  | 1 => ("CursorKeep$Change", "had", "C", true)
  | 2 => ("CursorKeep$Change", "wanted", "C", true)
  | 3 => ("CursorKeep$Change", "ahead", "I", true)
  | 4 => ("CursorKeep$Change", "behind", "I", true)
  | _ => ("CursorKeep$Change", "isSpared", "Z", false)
def tyX1 : Nat → FieldType := fun k => match k with
  | 0 => .int
  | 1 => .char
  | 2 => .char
  | 3 => .int
  | 4 => .int
  | _ => .boolean
abbrev wsX10 : List Cond := u_ws RX1 TX1 6
theorem nmX1 : ∀ a, a < 6 → ∀ b, b < 6 → a ≠ b → (TX1 a).2.1 ≠ (TX1 b).2.1 := by decide +kernel
theorem tyX1_ok : ∀ k, k < 6 → parseFieldDescriptor (TX1 k).2.2.1 = some (tyX1 k) := by decide +kernel
abbrev cX1_init : ByteArray := prog_3_method_1_code
def yX1_init : MethodName := ⟨RX1, "<init>", "(ICCII)V"⟩
abbrev cX1_goes : ByteArray := prog_3_method_2_code
def yX1_goes : MethodName := ⟨RX1, "goes", "()Z"⟩
def RX2 : String := "CursorKeep$Deed"
def TX2 : u_T := fun k => match k with
  | 0 => ("CursorKeep$Deed", "kind", "I", true)
  | 1 => ("CursorKeep$Deed", "where", "I", true)
  | _ => ("CursorKeep$Deed", "sign", "C", true)
def tyX2 : Nat → FieldType := fun k => match k with
  | 0 => .int
  | 1 => .int
  | _ => .char
abbrev wsX20 : List Cond := u_ws RX2 TX2 3
theorem nmX2 : ∀ a, a < 3 → ∀ b, b < 3 → a ≠ b → (TX2 a).2.1 ≠ (TX2 b).2.1 := by decide +kernel
theorem tyX2_ok : ∀ k, k < 3 → parseFieldDescriptor (TX2 k).2.2.1 = some (tyX2 k) := by decide +kernel
abbrev cX2_init : ByteArray := prog_4_method_1_code
def yX2_init : MethodName := ⟨RX2, "<init>", "(IIC)V"⟩
abbrev cX2_doTo : ByteArray := prog_4_method_2_code
def yX2_doTo : MethodName := ⟨RX2, "doTo", "(LCursorKeep$Row;)V"⟩
def RX3 : String := "CursorKeep$Format"
def TX3 : u_T := fun k => match k with
  | 0 => ("CursorKeep$Format", "text", "LCursorKeep$Text;", true)
  | 1 => ("CursorKeep$Format", "changes", "Ljava/util/List;", true)
  | 2 => ("CursorKeep$Format", "state", "I", false)
  | _ => ("CursorKeep$Format", "sparedAtEnd", "I", false)
def tyX3 : Nat → FieldType := fun k => match k with
  | 0 => .object "CursorKeep$Text"
  | 1 => .object "java/util/List"
  | 2 => .int
  | _ => .int
abbrev wsX30 : List Cond := u_ws RX3 TX3 4
theorem nmX3 : ∀ a, a < 4 → ∀ b, b < 4 → a ≠ b → (TX3 a).2.1 ≠ (TX3 b).2.1 := by decide +kernel
theorem tyX3_ok : ∀ k, k < 4 → parseFieldDescriptor (TX3 k).2.2.1 = some (tyX3 k) := by decide +kernel
abbrev cX3_init : ByteArray := prog_5_method_1_code
def yX3_init : MethodName := ⟨RX3, "<init>", "(LCursorKeep$Text;Ljava/util/List;)V"⟩
abbrev cX3_end : ByteArray := prog_5_method_2_code
def yX3_end : MethodName := ⟨RX3, "end", "(II)V"⟩
abbrev cX3_judge : ByteArray := prog_5_method_3_code
def yX3_judge : MethodName := ⟨RX3, "judge", "(LCursorKeep$Neighbours;)I"⟩
abbrev cX3_doChanges : ByteArray := prog_5_method_4_code
def yX3_doChanges : MethodName := ⟨RX3, "doChanges", "()V"⟩
abbrev cX3_spares : ByteArray := prog_5_method_5_code
def yX3_spares : MethodName := ⟨RX3, "spares", "(LCursorKeep$Change;LCursorKeep$Neighbours;)Z"⟩
def RX4 : String := "CursorKeep$Hand"
def TX4 : u_T := fun k => match k with
  | 0 => ("CursorKeep$Hand", "acts", "Ljava/util/List;", true)
  | _ => ("CursorKeep$Hand", "standing", "I", false)
def tyX4 : Nat → FieldType := fun k => match k with
  | 0 => .object "java/util/List"
  | _ => .int
abbrev wsX40 : List Cond := u_ws RX4 TX4 2
theorem nmX4 : ∀ a, a < 2 → ∀ b, b < 2 → a ≠ b → (TX4 a).2.1 ≠ (TX4 b).2.1 := by decide +kernel
theorem tyX4_ok : ∀ k, k < 2 → parseFieldDescriptor (TX4 k).2.2.1 = some (tyX4 k) := by decide +kernel
abbrev cX4_init : ByteArray := prog_6_method_1_code
def yX4_init : MethodName := ⟨RX4, "<init>", "()V"⟩
abbrev cX4_remember : ByteArray := prog_6_method_2_code
def yX4_remember : MethodName := ⟨RX4, "remember", "(LCursorKeep$Act;)V"⟩
abbrev cX4_stepBack : ByteArray := prog_6_method_3_code
def yX4_stepBack : MethodName := ⟨RX4, "stepBack", "()LCursorKeep$Act;"⟩
abbrev cX4_stepForth : ByteArray := prog_6_method_4_code
def yX4_stepForth : MethodName := ⟨RX4, "stepForth", "()LCursorKeep$Act;"⟩
def RX5 : String := "CursorKeep$Neighbours"
def TX5 : u_T := fun k => match k with
  | 0 => ("CursorKeep$Neighbours", "going", "[Z", true)
  | 1 => ("CursorKeep$Neighbours", "ahead", "[I", true)
  | _ => ("CursorKeep$Neighbours", "behind", "[I", true)
def tyX5 : Nat → FieldType := fun k => match k with
  | 0 => .array .boolean
  | 1 => .array .int
  | _ => .array .int
abbrev wsX50 : List Cond := u_ws RX5 TX5 3
theorem nmX5 : ∀ a, a < 3 → ∀ b, b < 3 → a ≠ b → (TX5 a).2.1 ≠ (TX5 b).2.1 := by decide +kernel
theorem tyX5_ok : ∀ k, k < 3 → parseFieldDescriptor (TX5 k).2.2.1 = some (tyX5 k) := by decide +kernel
abbrev cX5_init : ByteArray := prog_7_method_1_code
def yX5_init : MethodName := ⟨RX5, "<init>", "()V"⟩
abbrev cX5_forgetGoing : ByteArray := prog_7_method_2_code
def yX5_forgetGoing : MethodName := ⟨RX5, "forgetGoing", "()V"⟩
abbrev cX5_markGoing : ByteArray := prog_7_method_3_code
def yX5_markGoing : MethodName := ⟨RX5, "markGoing", "(I)V"⟩
abbrev cX5_find : ByteArray := prog_7_method_4_code
def yX5_find : MethodName := ⟨RX5, "find", "(LCursorKeep$Row;)V"⟩
abbrev cX5_aheadOf : ByteArray := prog_7_method_5_code
def yX5_aheadOf : MethodName := ⟨RX5, "aheadOf", "(I)I"⟩
abbrev cX5_behindOf : ByteArray := prog_7_method_6_code
def yX5_behindOf : MethodName := ⟨RX5, "behindOf", "(I)I"⟩
abbrev cX5_pass : ByteArray := prog_7_method_7_code
def yX5_pass : MethodName := ⟨RX5, "pass", "(LCursorKeep$Row;II[I)I"⟩
abbrev cX5_isLetter : ByteArray := prog_7_method_8_code
def yX5_isLetter : MethodName := ⟨RX5, "isLetter", "(I)Z"⟩
def RX6 : String := "CursorKeep$Plan"
def TX6 : u_T := fun k => match k with
  | 0 => ("CursorKeep$Plan", "letters", "[I", true)
  | 1 => ("CursorKeep$Plan", "signs", "[C", true)
  | 2 => ("CursorKeep$Plan", "wanted", "[C", true)
  | _ => ("CursorKeep$Plan", "count", "I", false)
def tyX6 : Nat → FieldType := fun k => match k with
  | 0 => .array .int
  | 1 => .array .char
  | 2 => .array .char
  | _ => .int
abbrev wsX60 : List Cond := u_ws RX6 TX6 4
theorem nmX6 : ∀ a, a < 4 → ∀ b, b < 4 → a ≠ b → (TX6 a).2.1 ≠ (TX6 b).2.1 := by decide +kernel
theorem tyX6_ok : ∀ k, k < 4 → parseFieldDescriptor (TX6 k).2.2.1 = some (tyX6 k) := by decide +kernel
abbrev cX6_init : ByteArray := prog_8_method_1_code
def yX6_init : MethodName := ⟨RX6, "<init>", "()V"⟩
abbrev cX6_draw : ByteArray := prog_8_method_2_code
def yX6_draw : MethodName := ⟨RX6, "draw", "(LCursorKeep$Row;II)V"⟩
abbrev cX6_changes : ByteArray := prog_8_method_3_code
def yX6_changes : MethodName := ⟨RX6, "changes", "(LCursorKeep$Row;LCursorKeep$Neighbours;)Ljava/util/List;"⟩
abbrev cX6_look : ByteArray := prog_8_method_4_code
def yX6_look : MethodName := ⟨RX6, "look", "(LCursorKeep$Row;)V"⟩
abbrev cX6_wantSingleSpaces : ByteArray := prog_8_method_5_code
def yX6_wantSingleSpaces : MethodName := ⟨RX6, "wantSingleSpaces", "()V"⟩
abbrev cX6_wantBareEnds : ByteArray := prog_8_method_6_code
def yX6_wantBareEnds : MethodName := ⟨RX6, "wantBareEnds", "()V"⟩
abbrev cX6_wantCapitals : ByteArray := prog_8_method_7_code
def yX6_wantCapitals : MethodName := ⟨RX6, "wantCapitals", "()V"⟩
abbrev cX6_wantWrapped : ByteArray := prog_8_method_8_code
def yX6_wantWrapped : MethodName := ⟨RX6, "wantWrapped", "(I)V"⟩
def RX7 : String := "CursorKeep$Row"
def TX7 : u_T := fun k => match k with
  | 0 => ("CursorKeep$Row", "order", "[I", true)
  | 1 => ("CursorKeep$Row", "signs", "[C", true)
  | 2 => ("CursorKeep$Row", "there", "[Z", true)
  | _ => ("CursorKeep$Row", "count", "I", false)
def tyX7 : Nat → FieldType := fun k => match k with
  | 0 => .array .int
  | 1 => .array .char
  | 2 => .array .boolean
  | _ => .int
abbrev wsX70 : List Cond := u_ws RX7 TX7 4
theorem nmX7 : ∀ a, a < 4 → ∀ b, b < 4 → a ≠ b → (TX7 a).2.1 ≠ (TX7 b).2.1 := by decide +kernel
theorem tyX7_ok : ∀ k, k < 4 → parseFieldDescriptor (TX7 k).2.2.1 = some (tyX7 k) := by decide +kernel
abbrev cX7_init : ByteArray := prog_9_method_1_code
def yX7_init : MethodName := ⟨RX7, "<init>", "()V"⟩
abbrev cX7_empty : ByteArray := prog_9_method_2_code
def yX7_empty : MethodName := ⟨RX7, "empty", "()V"⟩
abbrev cX7_count : ByteArray := prog_9_method_3_code
def yX7_count : MethodName := ⟨RX7, "count", "()I"⟩
abbrev cX7_isFull : ByteArray := prog_9_method_4_code
def yX7_isFull : MethodName := ⟨RX7, "isFull", "()Z"⟩
abbrev cX7_has : ByteArray := prog_9_method_5_code
def yX7_has : MethodName := ⟨RX7, "has", "(I)Z"⟩
abbrev cX7_shows : ByteArray := prog_9_method_6_code
def yX7_shows : MethodName := ⟨RX7, "shows", "(I)Z"⟩
abbrev cX7_signOf : ByteArray := prog_9_method_7_code
def yX7_signOf : MethodName := ⟨RX7, "signOf", "(I)C"⟩
abbrev cX7_letterAt : ByteArray := prog_9_method_8_code
def yX7_letterAt : MethodName := ⟨RX7, "letterAt", "(I)I"⟩
abbrev cX7_spotOf : ByteArray := prog_9_method_9_code
def yX7_spotOf : MethodName := ⟨RX7, "spotOf", "(I)I"⟩
abbrev cX7_nearestShownAhead : ByteArray := prog_9_method_10_code
def yX7_nearestShownAhead : MethodName := ⟨RX7, "nearestShownAhead", "(I)I"⟩
abbrev cX7_nearestShownFrom : ByteArray := prog_9_method_11_code
def yX7_nearestShownFrom : MethodName := ⟨RX7, "nearestShownFrom", "(I)I"⟩
abbrev cX7_shownCount : ByteArray := prog_9_method_12_code
def yX7_shownCount : MethodName := ⟨RX7, "shownCount", "()I"⟩
abbrev cX7_shownCountAhead : ByteArray := prog_9_method_13_code
def yX7_shownCountAhead : MethodName := ⟨RX7, "shownCountAhead", "(I)I"⟩
abbrev cX7_shownLetter : ByteArray := prog_9_method_14_code
def yX7_shownLetter : MethodName := ⟨RX7, "shownLetter", "(I)I"⟩
abbrev cX7_put : ByteArray := prog_9_method_15_code
def yX7_put : MethodName := ⟨RX7, "put", "(IC)V"⟩
abbrev cX7_setThere : ByteArray := prog_9_method_16_code
def yX7_setThere : MethodName := ⟨RX7, "setThere", "(IZ)V"⟩
abbrev cX7_setSign : ByteArray := prog_9_method_17_code
def yX7_setSign : MethodName := ⟨RX7, "setSign", "(IC)V"⟩
def RX8 : String := "CursorKeep$Save"
def TX8 : u_T := fun k => match k with
  | 0 => ("CursorKeep$Save", "number", "I", true)
  | 1 => ("CursorKeep$Save", "text", "LCursorKeep$Text;", true)
  | 2 => ("CursorKeep$Save", "hand", "I", true)
  | _ => ("CursorKeep$Save", "awaited", "LCursorKeep$Format;", true)
def tyX8 : Nat → FieldType := fun k => match k with
  | 0 => .int
  | 1 => .object "CursorKeep$Text"
  | 2 => .int
  | _ => .object "CursorKeep$Format"
abbrev wsX80 : List Cond := u_ws RX8 TX8 4
theorem nmX8 : ∀ a, a < 4 → ∀ b, b < 4 → a ≠ b → (TX8 a).2.1 ≠ (TX8 b).2.1 := by decide +kernel
theorem tyX8_ok : ∀ k, k < 4 → parseFieldDescriptor (TX8 k).2.2.1 = some (tyX8 k) := by decide +kernel
abbrev cX8_init : ByteArray := prog_10_method_1_code
def yX8_init : MethodName := ⟨RX8, "<init>", "(IILCursorKeep$Text;LCursorKeep$Format;)V"⟩
abbrev cX8_isReady : ByteArray := prog_10_method_2_code
def yX8_isReady : MethodName := ⟨RX8, "isReady", "()Z"⟩
def RX9 : String := "CursorKeep$Text"
def TX9 : u_T := fun k => match k with
  | 0 => ("CursorKeep$Text", "number", "I", true)
  | 1 => ("CursorKeep$Text", "row", "LCursorKeep$Row;", true)
  | 2 => ("CursorKeep$Text", "savedSigns", "[C", true)
  | 3 => ("CursorKeep$Text", "version", "I", false)
  | 4 => ("CursorKeep$Text", "lockedBy", "I", false)
  | 5 => ("CursorKeep$Text", "savedVersion", "I", false)
  | 6 => ("CursorKeep$Text", "savedCount", "I", false)
  | 7 => ("CursorKeep$Text", "anew", "LCursorKeep$Row;", true)
  | 8 => ("CursorKeep$Text", "deeds", "Ljava/util/List;", true)
  | _ => ("CursorKeep$Text", "cursors", "[I", true)
def tyX9 : Nat → FieldType := fun k => match k with
  | 0 => .int
  | 1 => .object "CursorKeep$Row"
  | 2 => .array .char
  | 3 => .int
  | 4 => .int
  | 5 => .int
  | 6 => .int
  | 7 => .object "CursorKeep$Row"
  | 8 => .object "java/util/List"
  | _ => .array .int
abbrev wsX90 : List Cond := u_ws RX9 TX9 10
theorem nmX9 : ∀ a, a < 10 → ∀ b, b < 10 → a ≠ b → (TX9 a).2.1 ≠ (TX9 b).2.1 := by decide +kernel
theorem tyX9_ok : ∀ k, k < 10 → parseFieldDescriptor (TX9 k).2.2.1 = some (tyX9 k) := by decide +kernel
abbrev cX9_init : ByteArray := prog_11_method_1_code
def yX9_init : MethodName := ⟨RX9, "<init>", "(I)V"⟩
abbrev cX9_isFreeFor : ByteArray := prog_11_method_2_code
def yX9_isFreeFor : MethodName := ⟨RX9, "isFreeFor", "(I)Z"⟩
abbrev cX9_cursorPlace : ByteArray := prog_11_method_3_code
def yX9_cursorPlace : MethodName := ⟨RX9, "cursorPlace", "(I)I"⟩
abbrev cX9_letterAheadOfCursor : ByteArray := prog_11_method_4_code
def yX9_letterAheadOfCursor : MethodName := ⟨RX9, "letterAheadOfCursor", "(I)I"⟩
abbrev cX9_setCursor : ByteArray := prog_11_method_5_code
def yX9_setCursor : MethodName := ⟨RX9, "setCursor", "(II)V"⟩
abbrev cX9_hasCursorAt : ByteArray := prog_11_method_6_code
def yX9_hasCursorAt : MethodName := ⟨RX9, "hasCursorAt", "(I)Z"⟩
abbrev cX9_putAheadOfCursor : ByteArray := prog_11_method_7_code
def yX9_putAheadOfCursor : MethodName := ⟨RX9, "putAheadOfCursor", "(IC)I"⟩
abbrev cX9_turn : ByteArray := prog_11_method_8_code
def yX9_turn : MethodName := ⟨RX9, "turn", "(IZ)V"⟩
abbrev cX9_letGo : ByteArray := prog_11_method_9_code
def yX9_letGo : MethodName := ⟨RX9, "letGo", "(I)V"⟩
abbrev cX9_become : ByteArray := prog_11_method_10_code
def yX9_become : MethodName := ⟨RX9, "become", "(IC)V"⟩
abbrev cX9_rowAnew : ByteArray := prog_11_method_11_code
def yX9_rowAnew : MethodName := ⟨RX9, "rowAnew", "()LCursorKeep$Row;"⟩
abbrev cX9_keepAsSaved : ByteArray := prog_11_method_12_code
def yX9_keepAsSaved : MethodName := ⟨RX9, "keepAsSaved", "()V"⟩
abbrev cX9_cursorSpot : ByteArray := prog_11_method_13_code
def yX9_cursorSpot : MethodName := ⟨RX9, "cursorSpot", "(I)I"⟩
abbrev cX9_perform : ByteArray := prog_11_method_14_code
def yX9_perform : MethodName := ⟨RX9, "perform", "(LCursorKeep$Deed;)V"⟩
def RX10 : String := "CursorKeep"
def TX10 : u_T := fun k => match k with
  | 0 => ("CursorKeep", "texts", "[LCursorKeep$Text;", true)
  | 1 => ("CursorKeep", "hands", "[LCursorKeep$Hand;", true)
  | 2 => ("CursorKeep", "formats", "Ljava/util/List;", true)
  | 3 => ("CursorKeep", "queue", "Ljava/util/List;", true)
  | 4 => ("CursorKeep", "plan", "LCursorKeep$Plan;", true)
  | 5 => ("CursorKeep", "neighbours", "LCursorKeep$Neighbours;", true)
  | _ => ("CursorKeep", "saves", "I", false)
def tyX10 : Nat → FieldType := fun k => match k with
  | 0 => .array (.object "CursorKeep$Text")
  | 1 => .array (.object "CursorKeep$Hand")
  | 2 => .object "java/util/List"
  | 3 => .object "java/util/List"
  | 4 => .object "CursorKeep$Plan"
  | 5 => .object "CursorKeep$Neighbours"
  | _ => .int
abbrev wsX100 : List Cond := u_ws RX10 TX10 7
theorem nmX10 : ∀ a, a < 7 → ∀ b, b < 7 → a ≠ b → (TX10 a).2.1 ≠ (TX10 b).2.1 := by decide +kernel
theorem tyX10_ok : ∀ k, k < 7 → parseFieldDescriptor (TX10 k).2.2.1 = some (tyX10 k) := by decide +kernel
abbrev cX10_init : ByteArray := prog_1_method_1_code
def yX10_init : MethodName := ⟨RX10, "<init>", "()V"⟩
abbrev cX10_type : ByteArray := prog_1_method_2_code
def yX10_type : MethodName := ⟨RX10, "type", "(IIC)I"⟩
abbrev cX10_erase : ByteArray := prog_1_method_3_code
def yX10_erase : MethodName := ⟨RX10, "erase", "(II)I"⟩
abbrev cX10_moveTo : ByteArray := prog_1_method_4_code
def yX10_moveTo : MethodName := ⟨RX10, "moveTo", "(III)I"⟩
abbrev cX10_undo : ByteArray := prog_1_method_5_code
def yX10_undo : MethodName := ⟨RX10, "undo", "(I)I"⟩
abbrev cX10_redo : ByteArray := prog_1_method_6_code
def yX10_redo : MethodName := ⟨RX10, "redo", "(I)I"⟩
abbrev cX10_place : ByteArray := prog_1_method_7_code
def yX10_place : MethodName := ⟨RX10, "place", "(II)I"⟩
abbrev cX10_length : ByteArray := prog_1_method_8_code
def yX10_length : MethodName := ⟨RX10, "length", "(I)I"⟩
abbrev cX10_letter : ByteArray := prog_1_method_9_code
def yX10_letter : MethodName := ⟨RX10, "letter", "(II)C"⟩
abbrev cX10_letterAnew : ByteArray := prog_1_method_10_code
def yX10_letterAnew : MethodName := ⟨RX10, "letterAnew", "(II)C"⟩
abbrev cX10_version : ByteArray := prog_1_method_11_code
def yX10_version : MethodName := ⟨RX10, "version", "(I)I"⟩
abbrev cX10_ask : ByteArray := prog_1_method_12_code
def yX10_ask : MethodName := ⟨RX10, "ask", "(III)I"⟩
abbrev cX10_come : ByteArray := prog_1_method_13_code
def yX10_come : MethodName := ⟨RX10, "come", "(I)I"⟩
abbrev cX10_drop : ByteArray := prog_1_method_14_code
def yX10_drop : MethodName := ⟨RX10, "drop", "(I)I"⟩
abbrev cX10_state : ByteArray := prog_1_method_15_code
def yX10_state : MethodName := ⟨RX10, "state", "(I)I"⟩
abbrev cX10_spared : ByteArray := prog_1_method_16_code
def yX10_spared : MethodName := ⟨RX10, "spared", "(I)I"⟩
abbrev cX10_lock : ByteArray := prog_1_method_17_code
def yX10_lock : MethodName := ⟨RX10, "lock", "(II)Z"⟩
abbrev cX10_save : ByteArray := prog_1_method_18_code
def yX10_save : MethodName := ⟨RX10, "save", "(III)I"⟩
abbrev cX10_write : ByteArray := prog_1_method_19_code
def yX10_write : MethodName := ⟨RX10, "write", "()I"⟩
abbrev cX10_queued : ByteArray := prog_1_method_20_code
def yX10_queued : MethodName := ⟨RX10, "queued", "()I"⟩
abbrev cX10_savedVersion : ByteArray := prog_1_method_21_code
def yX10_savedVersion : MethodName := ⟨RX10, "savedVersion", "(I)I"⟩
abbrev cX10_savedLength : ByteArray := prog_1_method_22_code
def yX10_savedLength : MethodName := ⟨RX10, "savedLength", "(I)I"⟩
abbrev cX10_savedLetter : ByteArray := prog_1_method_23_code
def yX10_savedLetter : MethodName := ⟨RX10, "savedLetter", "(II)C"⟩
abbrev cX10_handAt : ByteArray := prog_1_method_24_code
def yX10_handAt : MethodName := ⟨RX10, "handAt", "(I)LCursorKeep$Hand;"⟩
abbrev cX10_textAt : ByteArray := prog_1_method_25_code
def yX10_textAt : MethodName := ⟨RX10, "textAt", "(I)LCursorKeep$Text;"⟩
abbrev cX10_formatAt : ByteArray := prog_1_method_26_code
def yX10_formatAt : MethodName := ⟨RX10, "formatAt", "(I)LCursorKeep$Format;"⟩
abbrev cX10_waitingFormatAt : ByteArray := prog_1_method_27_code
def yX10_waitingFormatAt : MethodName := ⟨RX10, "waitingFormatAt", "(I)LCursorKeep$Format;"⟩
abbrev cX10_isFirstForItsText : ByteArray := prog_1_method_28_code
def yX10_isFirstForItsText : MethodName := ⟨RX10, "isFirstForItsText", "(LCursorKeep$Save;)Z"⟩
abbrev cX10_shownSign : ByteArray := prog_1_method_29_code
def yX10_shownSign : MethodName := ⟨RX10, "shownSign", "(LCursorKeep$Row;I)C"⟩
abbrev cX10_canBeTyped : ByteArray := prog_1_method_30_code
def yX10_canBeTyped : MethodName := ⟨RX10, "canBeTyped", "(C)Z"⟩
abbrev cX10_canBeAsked : ByteArray := prog_1_method_31_code
def yX10_canBeAsked : MethodName := ⟨RX10, "canBeAsked", "(II)Z"⟩
def RX11 : String := "CursorKeepModel"
def TX11 : u_T := fun k => match k with
  | 0 => ("CursorKeepModel", "order", "[I", true)
  | 1 => ("CursorKeepModel", "sign", "[I", true)
  | 2 => ("CursorKeepModel", "isThere", "[Z", true)
  | 3 => ("CursorKeepModel", "typed", "[I", true)
  | 4 => ("CursorKeepModel", "version", "[I", true)
  | 5 => ("CursorKeepModel", "cursor", "[I", true)
  | 6 => ("CursorKeepModel", "act", "[I", true)
  | 7 => ("CursorKeepModel", "acts", "[I", true)
  | 8 => ("CursorKeepModel", "undone", "[I", true)
  | 9 => ("CursorKeepModel", "formatText", "[I", true)
  | 10 => ("CursorKeepModel", "formatState", "[I", true)
  | 11 => ("CursorKeepModel", "changes", "[I", true)
  | 12 => ("CursorKeepModel", "sparedThen", "[I", true)
  | 13 => ("CursorKeepModel", "letter", "[I", true)
  | 14 => ("CursorKeepModel", "was", "[I", true)
  | 15 => ("CursorKeepModel", "becomes", "[I", true)
  | 16 => ("CursorKeepModel", "ahead", "[I", true)
  | 17 => ("CursorKeepModel", "behind", "[I", true)
  | 18 => ("CursorKeepModel", "formats", "I", false)
  | 19 => ("CursorKeepModel", "saveHand", "[I", true)
  | 20 => ("CursorKeepModel", "saveText", "[I", true)
  | 21 => ("CursorKeepModel", "saveFormat", "[I", true)
  | 22 => ("CursorKeepModel", "isWritten", "[Z", true)
  | 23 => ("CursorKeepModel", "saves", "I", false)
  | 24 => ("CursorKeepModel", "locker", "[I", true)
  | 25 => ("CursorKeepModel", "savedVersion", "[I", true)
  | 26 => ("CursorKeepModel", "savedLength", "[I", true)
  | 27 => ("CursorKeepModel", "saved", "[I", true)
  | 28 => ("CursorKeepModel", "shown", "[I", true)
  | 29 => ("CursorKeepModel", "many", "I", false)
  | 30 => ("CursorKeepModel", "isLeaving", "[Z", true)
  | _ => ("CursorKeepModel", "thrown", "I", false)
def tyX11 : Nat → FieldType := fun k => match k with
  | 0 => .array .int
  | 1 => .array .int
  | 2 => .array .boolean
  | 3 => .array .int
  | 4 => .array .int
  | 5 => .array .int
  | 6 => .array .int
  | 7 => .array .int
  | 8 => .array .int
  | 9 => .array .int
  | 10 => .array .int
  | 11 => .array .int
  | 12 => .array .int
  | 13 => .array .int
  | 14 => .array .int
  | 15 => .array .int
  | 16 => .array .int
  | 17 => .array .int
  | 18 => .int
  | 19 => .array .int
  | 20 => .array .int
  | 21 => .array .int
  | 22 => .array .boolean
  | 23 => .int
  | 24 => .array .int
  | 25 => .array .int
  | 26 => .array .int
  | 27 => .array .int
  | 28 => .array .int
  | 29 => .int
  | 30 => .array .boolean
  | _ => .int
abbrev wsX110 : List Cond := u_ws RX11 TX11 32
theorem nmX11 : ∀ a, a < 32 → ∀ b, b < 32 → a ≠ b → (TX11 a).2.1 ≠ (TX11 b).2.1 := by decide +kernel
theorem tyX11_ok : ∀ k, k < 32 → parseFieldDescriptor (TX11 k).2.2.1 = some (tyX11 k) := by decide +kernel
abbrev cX11_init : ByteArray := prog_13_method_1_code
def yX11_init : MethodName := ⟨RX11, "<init>", "()V"⟩
abbrev cX11_thrown : ByteArray := prog_13_method_2_code
def yX11_thrown : MethodName := ⟨RX11, "thrown", "()I"⟩
abbrev cX11_goes : ByteArray := prog_13_method_3_code
def yX11_goes : MethodName := ⟨RX11, "goes", "(ZZZ)Z"⟩
abbrev cX11_isBelow : ByteArray := prog_13_method_4_code
def yX11_isBelow : MethodName := ⟨RX11, "isBelow", "(II)Z"⟩
abbrev cX11_isHand : ByteArray := prog_13_method_5_code
def yX11_isHand : MethodName := ⟨RX11, "isHand", "(II)Z"⟩
abbrev cX11_shows : ByteArray := prog_13_method_6_code
def yX11_shows : MethodName := ⟨RX11, "shows", "(I)V"⟩
abbrev cX11_at : ByteArray := prog_13_method_7_code
def yX11_at : MethodName := ⟨RX11, "at", "(II)I"⟩
abbrev cX11_placeOf : ByteArray := prog_13_method_8_code
def yX11_placeOf : MethodName := ⟨RX11, "placeOf", "(II)I"⟩
abbrev cX11_leaves : ByteArray := prog_13_method_9_code
def yX11_leaves : MethodName := ⟨RX11, "leaves", "(II)V"⟩
abbrev cX11_keeps : ByteArray := prog_13_method_10_code
def yX11_keeps : MethodName := ⟨RX11, "keeps", "(II)V"⟩
abbrev cX11_isLetter : ByteArray := prog_13_method_11_code
def yX11_isLetter : MethodName := ⟨RX11, "isLetter", "(I)Z"⟩
abbrev cX11_type : ByteArray := prog_13_method_12_code
def yX11_type : MethodName := ⟨RX11, "type", "(IIC)I"⟩
abbrev cX11_erase : ByteArray := prog_13_method_13_code
def yX11_erase : MethodName := ⟨RX11, "erase", "(II)I"⟩
abbrev cX11_moveTo : ByteArray := prog_13_method_14_code
def yX11_moveTo : MethodName := ⟨RX11, "moveTo", "(III)I"⟩
abbrev cX11_turns : ByteArray := prog_13_method_15_code
def yX11_turns : MethodName := ⟨RX11, "turns", "(IZ)I"⟩
abbrev cX11_undo : ByteArray := prog_13_method_16_code
def yX11_undo : MethodName := ⟨RX11, "undo", "(I)I"⟩
abbrev cX11_redo : ByteArray := prog_13_method_17_code
def yX11_redo : MethodName := ⟨RX11, "redo", "(I)I"⟩
abbrev cX11_isText : ByteArray := prog_13_method_18_code
def yX11_isText : MethodName := ⟨RX11, "isText", "(I)Z"⟩
abbrev cX11_place : ByteArray := prog_13_method_19_code
def yX11_place : MethodName := ⟨RX11, "place", "(II)I"⟩
abbrev cX11_length : ByteArray := prog_13_method_20_code
def yX11_length : MethodName := ⟨RX11, "length", "(I)I"⟩
abbrev cX11_letter : ByteArray := prog_13_method_21_code
def yX11_letter : MethodName := ⟨RX11, "letter", "(II)C"⟩
abbrev cX11_letterAnew : ByteArray := prog_13_method_22_code
def yX11_letterAnew : MethodName := ⟨RX11, "letterAnew", "(II)C"⟩
abbrev cX11_version : ByteArray := prog_13_method_23_code
def yX11_version : MethodName := ⟨RX11, "version", "(I)I"⟩
abbrev cX11_signAt : ByteArray := prog_13_method_24_code
def yX11_signAt : MethodName := ⟨RX11, "signAt", "(II)I"⟩
abbrev cX11_wants : ByteArray := prog_13_method_25_code
def yX11_wants : MethodName := ⟨RX11, "wants", "(III)V"⟩
abbrev cX11_nextEnd : ByteArray := prog_13_method_26_code
def yX11_nextEnd : MethodName := ⟨RX11, "nextEnd", "(II)I"⟩
abbrev cX11_wantsLetters : ByteArray := prog_13_method_27_code
def yX11_wantsLetters : MethodName := ⟨RX11, "wantsLetters", "(II)V"⟩
abbrev cX11_wantsLines : ByteArray := prog_13_method_28_code
def yX11_wantsLines : MethodName := ⟨RX11, "wantsLines", "(II)V"⟩
abbrev cX11_marks : ByteArray := prog_13_method_29_code
def yX11_marks : MethodName := ⟨RX11, "marks", "(I)V"⟩
abbrev cX11_nearest : ByteArray := prog_13_method_30_code
def yX11_nearest : MethodName := ⟨RX11, "nearest", "(III)I"⟩
abbrev cX11_ask : ByteArray := prog_13_method_31_code
def yX11_ask : MethodName := ⟨RX11, "ask", "(III)I"⟩
abbrev cX11_isFormat : ByteArray := prog_13_method_32_code
def yX11_isFormat : MethodName := ⟨RX11, "isFormat", "(I)Z"⟩
abbrev cX11_hasCursor : ByteArray := prog_13_method_33_code
def yX11_hasCursor : MethodName := ⟨RX11, "hasCursor", "(II)Z"⟩
abbrev cX11_isSpared : ByteArray := prog_13_method_34_code
def yX11_isSpared : MethodName := ⟨RX11, "isSpared", "(II)Z"⟩
abbrev cX11_sparedNow : ByteArray := prog_13_method_35_code
def yX11_sparedNow : MethodName := ⟨RX11, "sparedNow", "(I)I"⟩
abbrev cX11_come : ByteArray := prog_13_method_36_code
def yX11_come : MethodName := ⟨RX11, "come", "(I)I"⟩
abbrev cX11_drop : ByteArray := prog_13_method_37_code
def yX11_drop : MethodName := ⟨RX11, "drop", "(I)I"⟩
abbrev cX11_state : ByteArray := prog_13_method_38_code
def yX11_state : MethodName := ⟨RX11, "state", "(I)I"⟩
abbrev cX11_spared : ByteArray := prog_13_method_39_code
def yX11_spared : MethodName := ⟨RX11, "spared", "(I)I"⟩
abbrev cX11_lock : ByteArray := prog_13_method_40_code
def yX11_lock : MethodName := ⟨RX11, "lock", "(II)Z"⟩
abbrev cX11_save : ByteArray := prog_13_method_41_code
def yX11_save : MethodName := ⟨RX11, "save", "(III)I"⟩
abbrev cX11_canWrite : ByteArray := prog_13_method_42_code
def yX11_canWrite : MethodName := ⟨RX11, "canWrite", "(I)Z"⟩
abbrev cX11_write : ByteArray := prog_13_method_43_code
def yX11_write : MethodName := ⟨RX11, "write", "()I"⟩
abbrev cX11_queued : ByteArray := prog_13_method_44_code
def yX11_queued : MethodName := ⟨RX11, "queued", "()I"⟩
abbrev cX11_savedVersion : ByteArray := prog_13_method_45_code
def yX11_savedVersion : MethodName := ⟨RX11, "savedVersion", "(I)I"⟩
abbrev cX11_savedLength : ByteArray := prog_13_method_46_code
def yX11_savedLength : MethodName := ⟨RX11, "savedLength", "(I)I"⟩
abbrev cX11_savedLetter : ByteArray := prog_13_method_47_code
def yX11_savedLetter : MethodName := ⟨RX11, "savedLetter", "(II)C"⟩
def RJx145de : String := "java/io/Serializable"
def TJx145de : u_T := fun k => match k with
  | _ => ("", "", "", false)
def tyJx145de : Nat → FieldType := fun k => match k with
  | _ => .int
abbrev wsJx145de0 : List Cond := u_ws RJx145de TJx145de 0
theorem nmJx145de : ∀ a, a < 0 → ∀ b, b < 0 → a ≠ b → (TJx145de a).2.1 ≠ (TJx145de b).2.1 := by decide +kernel
theorem tyJx145de_ok : ∀ k, k < 0 → parseFieldDescriptor (TJx145de k).2.2.1 = some (tyJx145de k) := by decide +kernel
def RJx8e188 : String := "java/lang/Cloneable"
def TJx8e188 : u_T := fun k => match k with
  | _ => ("", "", "", false)
def tyJx8e188 : Nat → FieldType := fun k => match k with
  | _ => .int
abbrev wsJx8e1880 : List Cond := u_ws RJx8e188 TJx8e188 0
theorem nmJx8e188 : ∀ a, a < 0 → ∀ b, b < 0 → a ≠ b → (TJx8e188 a).2.1 ≠ (TJx8e188 b).2.1 := by decide +kernel
theorem tyJx8e188_ok : ∀ k, k < 0 → parseFieldDescriptor (TJx8e188 k).2.2.1 = some (tyJx8e188 k) := by decide +kernel
def RJxab1ab : String := "java/lang/Iterable"
def TJxab1ab : u_T := fun k => match k with
  | _ => ("", "", "", false)
def tyJxab1ab : Nat → FieldType := fun k => match k with
  | _ => .int
abbrev wsJxab1ab0 : List Cond := u_ws RJxab1ab TJxab1ab 0
theorem nmJxab1ab : ∀ a, a < 0 → ∀ b, b < 0 → a ≠ b → (TJxab1ab a).2.1 ≠ (TJxab1ab b).2.1 := by decide +kernel
theorem tyJxab1ab_ok : ∀ k, k < 0 → parseFieldDescriptor (TJxab1ab k).2.2.1 = some (tyJxab1ab k) := by decide +kernel
def RJ9 : String := "java/lang/Math"
def TJ9 : u_T := fun k => match k with
  | _ => ("", "", "", false)
def tyJ9 : Nat → FieldType := fun k => match k with
  | _ => .int
abbrev wsJ90 : List Cond := u_ws RJ9 TJ9 0
theorem nmJ9 : ∀ a, a < 0 → ∀ b, b < 0 → a ≠ b → (TJ9 a).2.1 ≠ (TJ9 b).2.1 := by decide +kernel
theorem tyJ9_ok : ∀ k, k < 0 → parseFieldDescriptor (TJ9 k).2.2.1 = some (tyJ9 k) := by decide +kernel
abbrev cJ9_max_7cf53 : ByteArray := prog_21_method_65_code
def yJ9_max_7cf53 : MethodName := ⟨RJ9, "max", "(II)I"⟩
abbrev cJ9_min_7cf53 : ByteArray := prog_21_method_69_code
def yJ9_min_7cf53 : MethodName := ⟨RJ9, "min", "(II)I"⟩
def RJ0 : String := "java/lang/String"
def TJ0 : u_T := fun k => match k with
  | _ => ("", "", "", false)
def tyJ0 : Nat → FieldType := fun k => match k with
  | _ => .int
abbrev wsJ00 : List Cond := u_ws RJ0 TJ0 0
theorem nmJ0 : ∀ a, a < 0 → ∀ b, b < 0 → a ≠ b → (TJ0 a).2.1 ≠ (TJ0 b).2.1 := by decide +kernel
theorem tyJ0_ok : ∀ k, k < 0 → parseFieldDescriptor (TJ0 k).2.2.1 = some (tyJ0 k) := by decide +kernel
def RJ10 : String := "java/lang/System"
def TJ10 : u_T := fun k => match k with
  | _ => ("", "", "", false)
def tyJ10 : Nat → FieldType := fun k => match k with
  | _ => .int
abbrev wsJ100 : List Cond := u_ws RJ10 TJ10 0
theorem nmJ10 : ∀ a, a < 0 → ∀ b, b < 0 → a ≠ b → (TJ10 a).2.1 ≠ (TJ10 b).2.1 := by decide +kernel
theorem tyJ10_ok : ∀ k, k < 0 → parseFieldDescriptor (TJ10 k).2.2.1 = some (tyJ10 k) := by decide +kernel
def RJxa1e45 : String := "java/util/AbstractCollection"
def TJxa1e45 : u_T := fun k => match k with
  | _ => ("", "", "", false)
def tyJxa1e45 : Nat → FieldType := fun k => match k with
  | _ => .int
abbrev wsJxa1e450 : List Cond := u_ws RJxa1e45 TJxa1e45 0
theorem nmJxa1e45 : ∀ a, a < 0 → ∀ b, b < 0 → a ≠ b → (TJxa1e45 a).2.1 ≠ (TJxa1e45 b).2.1 := by decide +kernel
theorem tyJxa1e45_ok : ∀ k, k < 0 → parseFieldDescriptor (TJxa1e45 k).2.2.1 = some (tyJxa1e45 k) := by decide +kernel
abbrev cJxa1e45_init_da8c8 : ByteArray := prog_26_method_1_code
def yJxa1e45_init_da8c8 : MethodName := ⟨RJxa1e45, "<init>", "()V"⟩
def RJxc12de : String := "java/util/AbstractList"
def TJxc12de : u_T := fun k => match k with
  | _ => ("", "", "", false)
def tyJxc12de : Nat → FieldType := fun k => match k with
  | _ => .int
abbrev wsJxc12de0 : List Cond := u_ws RJxc12de TJxc12de 0
theorem nmJxc12de : ∀ a, a < 0 → ∀ b, b < 0 → a ≠ b → (TJxc12de a).2.1 ≠ (TJxc12de b).2.1 := by decide +kernel
theorem tyJxc12de_ok : ∀ k, k < 0 → parseFieldDescriptor (TJxc12de k).2.2.1 = some (tyJxc12de k) := by decide +kernel
abbrev cJxc12de_init_da8c8 : ByteArray := prog_27_method_1_code
def yJxc12de_init_da8c8 : MethodName := ⟨RJxc12de, "<init>", "()V"⟩
def RJx4a65c : String := "java/util/ArrayList"
def TJx4a65c : u_T := fun k => match k with
  | 0 => ("java/util/AbstractList", "modCount", "I", false)
  | 1 => ("java/util/ArrayList", "elementData", "[Ljava/lang/Object;", false)
  | _ => ("java/util/ArrayList", "size", "I", false)
def tyJx4a65c : Nat → FieldType := fun k => match k with
  | 0 => .int
  | 1 => .array (.object "java/lang/Object")
  | _ => .int
abbrev wsJx4a65c0 : List Cond := u_ws RJx4a65c TJx4a65c 3
theorem nmJx4a65c : ∀ a, a < 3 → ∀ b, b < 3 → a ≠ b → (TJx4a65c a).2.1 ≠ (TJx4a65c b).2.1 := by decide +kernel
theorem tyJx4a65c_ok : ∀ k, k < 3 → parseFieldDescriptor (TJx4a65c k).2.2.1 = some (tyJx4a65c k) := by decide +kernel
abbrev cJx4a65c_init_da8c8 : ByteArray := prog_28_method_2_code
def yJx4a65c_init_da8c8 : MethodName := ⟨RJx4a65c, "<init>", "()V"⟩
abbrev cJx4a65c_grow_92f84 : ByteArray := prog_28_method_6_code
def yJx4a65c_grow_92f84 : MethodName := ⟨RJx4a65c, "grow", "(I)[Ljava/lang/Object;"⟩
abbrev cJx4a65c_grow_d5877 : ByteArray := prog_28_method_7_code
def yJx4a65c_grow_d5877 : MethodName := ⟨RJx4a65c, "grow", "()[Ljava/lang/Object;"⟩
abbrev cJx4a65c_size_8abf5 : ByteArray := prog_28_method_8_code
def yJx4a65c_size_8abf5 : MethodName := ⟨RJx4a65c, "size", "()I"⟩
abbrev cJx4a65c_elementData_915e3 : ByteArray := prog_28_method_18_code
def yJx4a65c_elementData_915e3 : MethodName := ⟨RJx4a65c, "elementData", "(I)Ljava/lang/Object;"⟩
abbrev cJx4a65c_get_915e3 : ByteArray := prog_28_method_20_code
def yJx4a65c_get_915e3 : MethodName := ⟨RJx4a65c, "get", "(I)Ljava/lang/Object;"⟩
abbrev cJx4a65c_add_72be8 : ByteArray := prog_28_method_24_code
def yJx4a65c_add_72be8 : MethodName := ⟨RJx4a65c, "add", "(Ljava/lang/Object;[Ljava/lang/Object;I)V"⟩
abbrev cJx4a65c_add_9ea2d : ByteArray := prog_28_method_25_code
def yJx4a65c_add_9ea2d : MethodName := ⟨RJx4a65c, "add", "(Ljava/lang/Object;)Z"⟩
abbrev cJx4a65c_remove_915e3 : ByteArray := prog_28_method_29_code
def yJx4a65c_remove_915e3 : MethodName := ⟨RJx4a65c, "remove", "(I)Ljava/lang/Object;"⟩
abbrev cJx4a65c_fastRemove_b59b0 : ByteArray := prog_28_method_39_code
def yJx4a65c_fastRemove_b59b0 : MethodName := ⟨RJx4a65c, "fastRemove", "([Ljava/lang/Object;I)V"⟩
def RJ7 : String := "java/util/Arrays"
def TJ7 : u_T := fun k => match k with
  | _ => ("", "", "", false)
def tyJ7 : Nat → FieldType := fun k => match k with
  | _ => .int
abbrev wsJ70 : List Cond := u_ws RJ7 TJ7 0
theorem nmJ7 : ∀ a, a < 0 → ∀ b, b < 0 → a ≠ b → (TJ7 a).2.1 ≠ (TJ7 b).2.1 := by decide +kernel
theorem tyJ7_ok : ∀ k, k < 0 → parseFieldDescriptor (TJ7 k).2.2.1 = some (tyJ7 k) := by decide +kernel
abbrev cJ7_copyOf_1904c : ByteArray := prog_29_method_119_code
def yJ7_copyOf_1904c : MethodName := ⟨RJ7, "copyOf", "([Ljava/lang/Object;I)[Ljava/lang/Object;"⟩
abbrev cJ7_copyOf_6403c : ByteArray := prog_29_method_120_code
def yJ7_copyOf_6403c : MethodName := ⟨RJ7, "copyOf", "([Ljava/lang/Object;ILjava/lang/Class;)[Ljava/lang/Object;"⟩
def RJx5ef63 : String := "java/util/Collection"
def TJx5ef63 : u_T := fun k => match k with
  | _ => ("", "", "", false)
def tyJx5ef63 : Nat → FieldType := fun k => match k with
  | _ => .int
abbrev wsJx5ef630 : List Cond := u_ws RJx5ef63 TJx5ef63 0
theorem nmJx5ef63 : ∀ a, a < 0 → ∀ b, b < 0 → a ≠ b → (TJx5ef63 a).2.1 ≠ (TJx5ef63 b).2.1 := by decide +kernel
theorem tyJx5ef63_ok : ∀ k, k < 0 → parseFieldDescriptor (TJx5ef63 k).2.2.1 = some (tyJx5ef63 k) := by decide +kernel
def RJxbd725 : String := "java/util/List"
def TJxbd725 : u_T := fun k => match k with
  | _ => ("", "", "", false)
def tyJxbd725 : Nat → FieldType := fun k => match k with
  | _ => .int
abbrev wsJxbd7250 : List Cond := u_ws RJxbd725 TJxbd725 0
theorem nmJxbd725 : ∀ a, a < 0 → ∀ b, b < 0 → a ≠ b → (TJxbd725 a).2.1 ≠ (TJxbd725 b).2.1 := by decide +kernel
theorem tyJxbd725_ok : ∀ k, k < 0 → parseFieldDescriptor (TJxbd725 k).2.2.1 = some (tyJxbd725 k) := by decide +kernel
def RJ15 : String := "java/util/Objects"
def TJ15 : u_T := fun k => match k with
  | _ => ("", "", "", false)
def tyJ15 : Nat → FieldType := fun k => match k with
  | _ => .int
abbrev wsJ150 : List Cond := u_ws RJ15 TJ15 0
theorem nmJ15 : ∀ a, a < 0 → ∀ b, b < 0 → a ≠ b → (TJ15 a).2.1 ≠ (TJ15 b).2.1 := by decide +kernel
theorem tyJ15_ok : ∀ k, k < 0 → parseFieldDescriptor (TJ15 k).2.2.1 = some (tyJ15 k) := by decide +kernel
abbrev cJ15_checkIndex_7cf53 : ByteArray := prog_32_method_17_code
def yJ15_checkIndex_7cf53 : MethodName := ⟨RJ15, "checkIndex", "(II)I"⟩
def RJxf0a74 : String := "java/util/RandomAccess"
def TJxf0a74 : u_T := fun k => match k with
  | _ => ("", "", "", false)
def tyJxf0a74 : Nat → FieldType := fun k => match k with
  | _ => .int
abbrev wsJxf0a740 : List Cond := u_ws RJxf0a74 TJxf0a74 0
theorem nmJxf0a74 : ∀ a, a < 0 → ∀ b, b < 0 → a ≠ b → (TJxf0a74 a).2.1 ≠ (TJxf0a74 b).2.1 := by decide +kernel
theorem tyJxf0a74_ok : ∀ k, k < 0 → parseFieldDescriptor (TJxf0a74 k).2.2.1 = some (tyJxf0a74 k) := by decide +kernel
def RJxa66e6 : String := "java/util/SequencedCollection"
def TJxa66e6 : u_T := fun k => match k with
  | _ => ("", "", "", false)
def tyJxa66e6 : Nat → FieldType := fun k => match k with
  | _ => .int
abbrev wsJxa66e60 : List Cond := u_ws RJxa66e6 TJxa66e6 0
theorem nmJxa66e6 : ∀ a, a < 0 → ∀ b, b < 0 → a ≠ b → (TJxa66e6 a).2.1 ≠ (TJxa66e6 b).2.1 := by decide +kernel
theorem tyJxa66e6_ok : ∀ k, k < 0 → parseFieldDescriptor (TJxa66e6 k).2.2.1 = some (tyJxa66e6 k) := by decide +kernel
def RJ8 : String := "jdk/internal/util/ArraysSupport"
def TJ8 : u_T := fun k => match k with
  | _ => ("", "", "", false)
def tyJ8 : Nat → FieldType := fun k => match k with
  | _ => .int
abbrev wsJ80 : List Cond := u_ws RJ8 TJ8 0
theorem nmJ8 : ∀ a, a < 0 → ∀ b, b < 0 → a ≠ b → (TJ8 a).2.1 ≠ (TJ8 b).2.1 := by decide +kernel
theorem tyJ8_ok : ∀ k, k < 0 → parseFieldDescriptor (TJ8 k).2.2.1 = some (tyJ8 k) := by decide +kernel
abbrev cJ8_newLength_cabcc : ByteArray := prog_35_method_27_code
def yJ8_newLength_cabcc : MethodName := ⟨RJ8, "newLength", "(III)I"⟩
abbrev cJ8_hugeLength_7cf53 : ByteArray := prog_35_method_28_code
def yJ8_hugeLength_7cf53 : MethodName := ⟨RJ8, "hugeLength", "(II)I"⟩
def RJ3 : String := "jdk/internal/util/Preconditions"
def TJ3 : u_T := fun k => match k with
  | _ => ("", "", "", false)
def tyJ3 : Nat → FieldType := fun k => match k with
  | _ => .int
abbrev wsJ30 : List Cond := u_ws RJ3 TJ3 0
theorem nmJ3 : ∀ a, a < 0 → ∀ b, b < 0 → a ≠ b → (TJ3 a).2.1 ≠ (TJ3 b).2.1 := by decide +kernel
theorem tyJ3_ok : ∀ k, k < 0 → parseFieldDescriptor (TJ3 k).2.2.1 = some (tyJ3 k) := by decide +kernel
abbrev cJ3_checkIndex_8e157 : ByteArray := prog_36_method_11_code
def yJ3_checkIndex_8e157 : MethodName := ⟨RJ3, "checkIndex", "(IILjava/util/function/BiFunction;)I"⟩
def RL : String := "CursorKeepLaw"
abbrev cL_type : ByteArray := method_3_code
def yL_type : MethodName := ⟨RL, "type", "(LCursorKeep;IIC[J)I"⟩
abbrev cL_erase : ByteArray := method_4_code
def yL_erase : MethodName := ⟨RL, "erase", "(LCursorKeep;II[J)I"⟩
abbrev cL_moveTo : ByteArray := method_5_code
def yL_moveTo : MethodName := ⟨RL, "moveTo", "(LCursorKeep;III[J)I"⟩
abbrev cL_undo : ByteArray := method_6_code
def yL_undo : MethodName := ⟨RL, "undo", "(LCursorKeep;I[J)I"⟩
abbrev cL_redo : ByteArray := method_7_code
def yL_redo : MethodName := ⟨RL, "redo", "(LCursorKeep;I[J)I"⟩
abbrev cL_place : ByteArray := method_8_code
def yL_place : MethodName := ⟨RL, "place", "(LCursorKeep;II[J)I"⟩
abbrev cL_length : ByteArray := method_9_code
def yL_length : MethodName := ⟨RL, "length", "(LCursorKeep;I[J)I"⟩
abbrev cL_letter : ByteArray := method_10_code
def yL_letter : MethodName := ⟨RL, "letter", "(LCursorKeep;II[J)I"⟩
abbrev cL_letterAnew : ByteArray := method_11_code
def yL_letterAnew : MethodName := ⟨RL, "letterAnew", "(LCursorKeep;II[J)I"⟩
abbrev cL_version : ByteArray := method_12_code
def yL_version : MethodName := ⟨RL, "version", "(LCursorKeep;I[J)I"⟩
abbrev cL_ask : ByteArray := method_13_code
def yL_ask : MethodName := ⟨RL, "ask", "(LCursorKeep;III[J)I"⟩
abbrev cL_come : ByteArray := method_14_code
def yL_come : MethodName := ⟨RL, "come", "(LCursorKeep;I[J)I"⟩
abbrev cL_drop : ByteArray := method_15_code
def yL_drop : MethodName := ⟨RL, "drop", "(LCursorKeep;I[J)I"⟩
abbrev cL_state : ByteArray := method_16_code
def yL_state : MethodName := ⟨RL, "state", "(LCursorKeep;I[J)I"⟩
abbrev cL_spared : ByteArray := method_17_code
def yL_spared : MethodName := ⟨RL, "spared", "(LCursorKeep;I[J)I"⟩
abbrev cL_lock : ByteArray := method_18_code
def yL_lock : MethodName := ⟨RL, "lock", "(LCursorKeep;II[J)I"⟩
abbrev cL_save : ByteArray := method_19_code
def yL_save : MethodName := ⟨RL, "save", "(LCursorKeep;III[J)I"⟩
abbrev cL_savedVersion : ByteArray := method_20_code
def yL_savedVersion : MethodName := ⟨RL, "savedVersion", "(LCursorKeep;I[J)I"⟩
abbrev cL_savedLength : ByteArray := method_21_code
def yL_savedLength : MethodName := ⟨RL, "savedLength", "(LCursorKeep;I[J)I"⟩
abbrev cL_savedLetter : ByteArray := method_22_code
def yL_savedLetter : MethodName := ⟨RL, "savedLetter", "(LCursorKeep;II[J)I"⟩
abbrev cL_law : ByteArray := code
def yL_law : MethodName := ⟨RL, "law", "([I)Z"⟩
set_option maxRecDepth 20000 in
theorem dX0_init_0 : decode cX0_init 0 = .ok (.aload_n 0, 1) := by decide +kernel
theorem dX0_init_1 : decode cX0_init 1 = .ok (.invokespecial 1, 3) := by decide +kernel
theorem dX0_init_4 : decode cX0_init 4 = .ok (.aload_n 0, 1) := by decide +kernel
theorem dX0_init_5 : decode cX0_init 5 = .ok (.aload_n 1, 1) := by decide +kernel
theorem dX0_init_6 : decode cX0_init 6 = .ok (.putfield 7, 3) := by decide +kernel
theorem dX0_init_9 : decode cX0_init 9 = .ok (.aload_n 0, 1) := by decide +kernel
theorem dX0_init_10 : decode cX0_init 10 = .ok (.iload_n 2, 1) := by decide +kernel
theorem dX0_init_11 : decode cX0_init 11 = .ok (.putfield 13, 3) := by decide +kernel
theorem dX0_init_14 : decode cX0_init 14 = .ok (.aload_n 0, 1) := by decide +kernel
theorem dX0_init_15 : decode cX0_init 15 = .ok (.iload_n 3, 1) := by decide +kernel
theorem dX0_init_16 : decode cX0_init 16 = .ok (.putfield 17, 3) := by decide +kernel
theorem dX0_init_19 : decode cX0_init 19 = .ok (.return_, 1) := by decide +kernel
theorem dX1_init_0 : decode cX1_init 0 = .ok (.aload_n 0, 1) := by decide +kernel
theorem dX1_init_1 : decode cX1_init 1 = .ok (.invokespecial 3, 3) := by decide +kernel
theorem dX1_init_4 : decode cX1_init 4 = .ok (.aload_n 0, 1) := by decide +kernel
theorem dX1_init_5 : decode cX1_init 5 = .ok (.iload_n 1, 1) := by decide +kernel
theorem dX1_init_6 : decode cX1_init 6 = .ok (.putfield 9, 3) := by decide +kernel
theorem dX1_init_9 : decode cX1_init 9 = .ok (.aload_n 0, 1) := by decide +kernel
theorem dX1_init_10 : decode cX1_init 10 = .ok (.iload_n 2, 1) := by decide +kernel
theorem dX1_init_11 : decode cX1_init 11 = .ok (.putfield 15, 3) := by decide +kernel
theorem dX1_init_14 : decode cX1_init 14 = .ok (.aload_n 0, 1) := by decide +kernel
theorem dX1_init_15 : decode cX1_init 15 = .ok (.iload_n 3, 1) := by decide +kernel
theorem dX1_init_16 : decode cX1_init 16 = .ok (.putfield 19, 3) := by decide +kernel
theorem dX1_init_19 : decode cX1_init 19 = .ok (.aload_n 0, 1) := by decide +kernel
theorem dX1_init_20 : decode cX1_init 20 = .ok (.iload 4, 2) := by decide +kernel
theorem dX1_init_22 : decode cX1_init 22 = .ok (.putfield 22, 3) := by decide +kernel
theorem dX1_init_25 : decode cX1_init 25 = .ok (.aload_n 0, 1) := by decide +kernel
theorem dX1_init_26 : decode cX1_init 26 = .ok (.iload 5, 2) := by decide +kernel
theorem dX1_init_28 : decode cX1_init 28 = .ok (.putfield 25, 3) := by decide +kernel
theorem dX1_init_31 : decode cX1_init 31 = .ok (.return_, 1) := by decide +kernel
theorem dX1_goes_0 : decode cX1_goes 0 = .ok (.aload_n 0, 1) := by decide +kernel
theorem dX1_goes_1 : decode cX1_goes 1 = .ok (.getfield 19, 3) := by decide +kernel
theorem dX1_goes_4 : decode cX1_goes 4 = .ok (.iconst 1, 1) := by decide +kernel
theorem dX1_goes_5 : decode cX1_goes 5 = .ok (.if_icmp .ne 7, 3) := by decide +kernel
theorem dX1_goes_8 : decode cX1_goes 8 = .ok (.iconst 1, 1) := by decide +kernel
theorem dX1_goes_9 : decode cX1_goes 9 = .ok (.goto 4, 3) := by decide +kernel
theorem dX1_goes_12 : decode cX1_goes 12 = .ok (.iconst 0, 1) := by decide +kernel
theorem dX1_goes_13 : decode cX1_goes 13 = .ok (.ireturn, 1) := by decide +kernel
theorem dX2_init_0 : decode cX2_init 0 = .ok (.aload_n 0, 1) := by decide +kernel
theorem dX2_init_1 : decode cX2_init 1 = .ok (.invokespecial 1, 3) := by decide +kernel
theorem dX2_init_4 : decode cX2_init 4 = .ok (.aload_n 0, 1) := by decide +kernel
theorem dX2_init_5 : decode cX2_init 5 = .ok (.iload_n 1, 1) := by decide +kernel
theorem dX2_init_6 : decode cX2_init 6 = .ok (.putfield 7, 3) := by decide +kernel
theorem dX2_init_9 : decode cX2_init 9 = .ok (.aload_n 0, 1) := by decide +kernel
theorem dX2_init_10 : decode cX2_init 10 = .ok (.iload_n 2, 1) := by decide +kernel
theorem dX2_init_11 : decode cX2_init 11 = .ok (.putfield 13, 3) := by decide +kernel
theorem dX2_init_14 : decode cX2_init 14 = .ok (.aload_n 0, 1) := by decide +kernel
theorem dX2_init_15 : decode cX2_init 15 = .ok (.iload_n 3, 1) := by decide +kernel
theorem dX2_init_16 : decode cX2_init 16 = .ok (.putfield 16, 3) := by decide +kernel
theorem dX2_init_19 : decode cX2_init 19 = .ok (.return_, 1) := by decide +kernel
theorem dX2_doTo_0 : decode cX2_doTo 0 = .ok (.aload_n 0, 1) := by decide +kernel
theorem dX2_doTo_1 : decode cX2_doTo 1 = .ok (.getfield 7, 3) := by decide +kernel
theorem dX2_doTo_4 : decode cX2_doTo 4 = .ok (.tableswitch 67 0 2 #[28, 43, 55], 28) := by decide +kernel
theorem dX2_doTo_32 : decode cX2_doTo 32 = .ok (.aload_n 1, 1) := by decide +kernel
theorem dX2_doTo_33 : decode cX2_doTo 33 = .ok (.aload_n 0, 1) := by decide +kernel
theorem dX2_doTo_34 : decode cX2_doTo 34 = .ok (.getfield 13, 3) := by decide +kernel
theorem dX2_doTo_37 : decode cX2_doTo 37 = .ok (.aload_n 0, 1) := by decide +kernel
theorem dX2_doTo_38 : decode cX2_doTo 38 = .ok (.getfield 16, 3) := by decide +kernel
theorem dX2_doTo_41 : decode cX2_doTo 41 = .ok (.invokevirtual 20, 3) := by decide +kernel
theorem dX2_doTo_44 : decode cX2_doTo 44 = .ok (.goto 39, 3) := by decide +kernel
theorem dX2_doTo_47 : decode cX2_doTo 47 = .ok (.aload_n 1, 1) := by decide +kernel
theorem dX2_doTo_48 : decode cX2_doTo 48 = .ok (.aload_n 0, 1) := by decide +kernel
theorem dX2_doTo_49 : decode cX2_doTo 49 = .ok (.getfield 13, 3) := by decide +kernel
theorem dX2_doTo_52 : decode cX2_doTo 52 = .ok (.iconst 0, 1) := by decide +kernel
theorem dX2_doTo_53 : decode cX2_doTo 53 = .ok (.invokevirtual 26, 3) := by decide +kernel
theorem dX2_doTo_56 : decode cX2_doTo 56 = .ok (.goto 27, 3) := by decide +kernel
theorem dX2_doTo_59 : decode cX2_doTo 59 = .ok (.aload_n 1, 1) := by decide +kernel
theorem dX2_doTo_60 : decode cX2_doTo 60 = .ok (.aload_n 0, 1) := by decide +kernel
theorem dX2_doTo_61 : decode cX2_doTo 61 = .ok (.getfield 13, 3) := by decide +kernel
theorem dX2_doTo_64 : decode cX2_doTo 64 = .ok (.iconst 1, 1) := by decide +kernel
theorem dX2_doTo_65 : decode cX2_doTo 65 = .ok (.invokevirtual 26, 3) := by decide +kernel
theorem dX2_doTo_68 : decode cX2_doTo 68 = .ok (.goto 15, 3) := by decide +kernel
theorem dX2_doTo_71 : decode cX2_doTo 71 = .ok (.aload_n 1, 1) := by decide +kernel
theorem dX2_doTo_72 : decode cX2_doTo 72 = .ok (.aload_n 0, 1) := by decide +kernel
theorem dX2_doTo_73 : decode cX2_doTo 73 = .ok (.getfield 13, 3) := by decide +kernel
theorem dX2_doTo_76 : decode cX2_doTo 76 = .ok (.aload_n 0, 1) := by decide +kernel
theorem dX2_doTo_77 : decode cX2_doTo 77 = .ok (.getfield 16, 3) := by decide +kernel
theorem dX2_doTo_80 : decode cX2_doTo 80 = .ok (.invokevirtual 30, 3) := by decide +kernel
theorem dX2_doTo_83 : decode cX2_doTo 83 = .ok (.return_, 1) := by decide +kernel
theorem dX3_init_0 : decode cX3_init 0 = .ok (.aload_n 0, 1) := by decide +kernel
theorem dX3_init_1 : decode cX3_init 1 = .ok (.invokespecial 3, 3) := by decide +kernel
theorem dX3_init_4 : decode cX3_init 4 = .ok (.aload_n 0, 1) := by decide +kernel
theorem dX3_init_5 : decode cX3_init 5 = .ok (.iconst 0, 1) := by decide +kernel
theorem dX3_init_6 : decode cX3_init 6 = .ok (.putfield 9, 3) := by decide +kernel
theorem dX3_init_9 : decode cX3_init 9 = .ok (.aload_n 0, 1) := by decide +kernel
theorem dX3_init_10 : decode cX3_init 10 = .ok (.aload_n 1, 1) := by decide +kernel
theorem dX3_init_11 : decode cX3_init 11 = .ok (.putfield 15, 3) := by decide +kernel
theorem dX3_init_14 : decode cX3_init 14 = .ok (.aload_n 0, 1) := by decide +kernel
theorem dX3_init_15 : decode cX3_init 15 = .ok (.aload_n 2, 1) := by decide +kernel
theorem dX3_init_16 : decode cX3_init 16 = .ok (.putfield 19, 3) := by decide +kernel
theorem dX3_init_19 : decode cX3_init 19 = .ok (.return_, 1) := by decide +kernel
theorem dX3_end_0 : decode cX3_end 0 = .ok (.aload_n 0, 1) := by decide +kernel
theorem dX3_end_1 : decode cX3_end 1 = .ok (.iload_n 1, 1) := by decide +kernel
theorem dX3_end_2 : decode cX3_end 2 = .ok (.putfield 9, 3) := by decide +kernel
theorem dX3_end_5 : decode cX3_end 5 = .ok (.aload_n 0, 1) := by decide +kernel
theorem dX3_end_6 : decode cX3_end 6 = .ok (.iload_n 2, 1) := by decide +kernel
theorem dX3_end_7 : decode cX3_end 7 = .ok (.putfield 23, 3) := by decide +kernel
theorem dX3_end_10 : decode cX3_end 10 = .ok (.return_, 1) := by decide +kernel
theorem dX3_judge_0 : decode cX3_judge 0 = .ok (.aload_n 1, 1) := by decide +kernel
theorem dX3_judge_1 : decode cX3_judge 1 = .ok (.invokevirtual 26, 3) := by decide +kernel
theorem dX3_judge_4 : decode cX3_judge 4 = .ok (.iconst 0, 1) := by decide +kernel
theorem dX3_judge_5 : decode cX3_judge 5 = .ok (.istore_n 2, 1) := by decide +kernel
theorem dX3_judge_6 : decode cX3_judge 6 = .ok (.iload_n 2, 1) := by decide +kernel
theorem dX3_judge_7 : decode cX3_judge 7 = .ok (.aload_n 0, 1) := by decide +kernel
theorem dX3_judge_8 : decode cX3_judge 8 = .ok (.getfield 19, 3) := by decide +kernel
theorem dX3_judge_11 : decode cX3_judge 11 = .ok (.invokeinterface 31 1, 5) := by decide +kernel
theorem dX3_judge_16 : decode cX3_judge 16 = .ok (.if_icmp .ge 48, 3) := by decide +kernel
theorem dX3_judge_19 : decode cX3_judge 19 = .ok (.aload_n 0, 1) := by decide +kernel
theorem dX3_judge_20 : decode cX3_judge 20 = .ok (.getfield 19, 3) := by decide +kernel
theorem dX3_judge_23 : decode cX3_judge 23 = .ok (.iload_n 2, 1) := by decide +kernel
theorem dX3_judge_24 : decode cX3_judge 24 = .ok (.invokeinterface 37 2, 5) := by decide +kernel
theorem dX3_judge_29 : decode cX3_judge 29 = .ok (.checkcast 41, 3) := by decide +kernel
theorem dX3_judge_32 : decode cX3_judge 32 = .ok (.invokevirtual 43, 3) := by decide +kernel
theorem dX3_judge_35 : decode cX3_judge 35 = .ok (.ifCond .eq 23, 3) := by decide +kernel
theorem dX3_judge_38 : decode cX3_judge 38 = .ok (.aload_n 1, 1) := by decide +kernel
theorem dX3_judge_39 : decode cX3_judge 39 = .ok (.aload_n 0, 1) := by decide +kernel
theorem dX3_judge_40 : decode cX3_judge 40 = .ok (.getfield 19, 3) := by decide +kernel
theorem dX3_judge_43 : decode cX3_judge 43 = .ok (.iload_n 2, 1) := by decide +kernel
theorem dX3_judge_44 : decode cX3_judge 44 = .ok (.invokeinterface 37 2, 5) := by decide +kernel
theorem dX3_judge_49 : decode cX3_judge 49 = .ok (.checkcast 41, 3) := by decide +kernel
theorem dX3_judge_52 : decode cX3_judge 52 = .ok (.getfield 47, 3) := by decide +kernel
theorem dX3_judge_55 : decode cX3_judge 55 = .ok (.invokevirtual 50, 3) := by decide +kernel
theorem dX3_judge_58 : decode cX3_judge 58 = .ok (.iinc 2 1, 3) := by decide +kernel
theorem dX3_judge_61 : decode cX3_judge 61 = .ok (.goto (-55), 3) := by decide +kernel
theorem dX3_judge_64 : decode cX3_judge 64 = .ok (.aload_n 1, 1) := by decide +kernel
theorem dX3_judge_65 : decode cX3_judge 65 = .ok (.aload_n 0, 1) := by decide +kernel
theorem dX3_judge_66 : decode cX3_judge 66 = .ok (.getfield 15, 3) := by decide +kernel
theorem dX3_judge_69 : decode cX3_judge 69 = .ok (.getfield 54, 3) := by decide +kernel
theorem dX3_judge_72 : decode cX3_judge 72 = .ok (.invokevirtual 60, 3) := by decide +kernel
theorem dX3_judge_75 : decode cX3_judge 75 = .ok (.iconst 0, 1) := by decide +kernel
theorem dX3_judge_76 : decode cX3_judge 76 = .ok (.istore_n 2, 1) := by decide +kernel
theorem dX3_judge_77 : decode cX3_judge 77 = .ok (.iconst 0, 1) := by decide +kernel
theorem dX3_judge_78 : decode cX3_judge 78 = .ok (.istore_n 3, 1) := by decide +kernel
theorem dX3_judge_79 : decode cX3_judge 79 = .ok (.iload_n 3, 1) := by decide +kernel
theorem dX3_judge_80 : decode cX3_judge 80 = .ok (.aload_n 0, 1) := by decide +kernel
theorem dX3_judge_81 : decode cX3_judge 81 = .ok (.getfield 19, 3) := by decide +kernel
theorem dX3_judge_84 : decode cX3_judge 84 = .ok (.invokeinterface 31 1, 5) := by decide +kernel
theorem dX3_judge_89 : decode cX3_judge 89 = .ok (.if_icmp .ge 47, 3) := by decide +kernel
theorem dX3_judge_92 : decode cX3_judge 92 = .ok (.aload_n 0, 1) := by decide +kernel
theorem dX3_judge_93 : decode cX3_judge 93 = .ok (.getfield 19, 3) := by decide +kernel
theorem dX3_judge_96 : decode cX3_judge 96 = .ok (.iload_n 3, 1) := by decide +kernel
theorem dX3_judge_97 : decode cX3_judge 97 = .ok (.invokeinterface 37 2, 5) := by decide +kernel
theorem dX3_judge_102 : decode cX3_judge 102 = .ok (.checkcast 41, 3) := by decide +kernel
theorem dX3_judge_105 : decode cX3_judge 105 = .ok (.astore 4, 2) := by decide +kernel
theorem dX3_judge_107 : decode cX3_judge 107 = .ok (.aload 4, 2) := by decide +kernel
theorem dX3_judge_109 : decode cX3_judge 109 = .ok (.aload_n 0, 1) := by decide +kernel
theorem dX3_judge_110 : decode cX3_judge 110 = .ok (.aload 4, 2) := by decide +kernel
theorem dX3_judge_112 : decode cX3_judge 112 = .ok (.aload_n 1, 1) := by decide +kernel
theorem dX3_judge_113 : decode cX3_judge 113 = .ok (.invokevirtual 64, 3) := by decide +kernel
theorem dX3_judge_116 : decode cX3_judge 116 = .ok (.putfield 68, 3) := by decide +kernel
theorem dX3_judge_119 : decode cX3_judge 119 = .ok (.aload 4, 2) := by decide +kernel
theorem dX3_judge_121 : decode cX3_judge 121 = .ok (.getfield 68, 3) := by decide +kernel
theorem dX3_judge_124 : decode cX3_judge 124 = .ok (.ifCond .eq 6, 3) := by decide +kernel
theorem dX3_judge_127 : decode cX3_judge 127 = .ok (.iinc 2 1, 3) := by decide +kernel
theorem dX3_judge_130 : decode cX3_judge 130 = .ok (.iinc 3 1, 3) := by decide +kernel
theorem dX3_judge_133 : decode cX3_judge 133 = .ok (.goto (-54), 3) := by decide +kernel
theorem dX3_judge_136 : decode cX3_judge 136 = .ok (.iload_n 2, 1) := by decide +kernel
theorem dX3_judge_137 : decode cX3_judge 137 = .ok (.ireturn, 1) := by decide +kernel
theorem dX3_doChanges_0 : decode cX3_doChanges 0 = .ok (.iconst 0, 1) := by decide +kernel
theorem dX3_doChanges_1 : decode cX3_doChanges 1 = .ok (.istore_n 1, 1) := by decide +kernel
theorem dX3_doChanges_2 : decode cX3_doChanges 2 = .ok (.iconst 0, 1) := by decide +kernel
theorem dX3_doChanges_3 : decode cX3_doChanges 3 = .ok (.istore_n 2, 1) := by decide +kernel
theorem dX3_doChanges_4 : decode cX3_doChanges 4 = .ok (.iload_n 2, 1) := by decide +kernel
theorem dX3_doChanges_5 : decode cX3_doChanges 5 = .ok (.aload_n 0, 1) := by decide +kernel
theorem dX3_doChanges_6 : decode cX3_doChanges 6 = .ok (.getfield 19, 3) := by decide +kernel
theorem dX3_doChanges_9 : decode cX3_doChanges 9 = .ok (.invokeinterface 31 1, 5) := by decide +kernel
theorem dX3_doChanges_14 : decode cX3_doChanges 14 = .ok (.if_icmp .ge 71, 3) := by decide +kernel
theorem dX3_doChanges_17 : decode cX3_doChanges 17 = .ok (.aload_n 0, 1) := by decide +kernel
theorem dX3_doChanges_18 : decode cX3_doChanges 18 = .ok (.getfield 19, 3) := by decide +kernel
theorem dX3_doChanges_21 : decode cX3_doChanges 21 = .ok (.iload_n 2, 1) := by decide +kernel
theorem dX3_doChanges_22 : decode cX3_doChanges 22 = .ok (.invokeinterface 37 2, 5) := by decide +kernel
theorem dX3_doChanges_27 : decode cX3_doChanges 27 = .ok (.checkcast 41, 3) := by decide +kernel
theorem dX3_doChanges_30 : decode cX3_doChanges 30 = .ok (.astore_n 3, 1) := by decide +kernel
theorem dX3_doChanges_31 : decode cX3_doChanges 31 = .ok (.aload_n 3, 1) := by decide +kernel
theorem dX3_doChanges_32 : decode cX3_doChanges 32 = .ok (.getfield 68, 3) := by decide +kernel
theorem dX3_doChanges_35 : decode cX3_doChanges 35 = .ok (.ifCond .eq 6, 3) := by decide +kernel
theorem dX3_doChanges_38 : decode cX3_doChanges 38 = .ok (.goto 41, 3) := by decide +kernel
theorem dX3_doChanges_41 : decode cX3_doChanges 41 = .ok (.iconst 1, 1) := by decide +kernel
theorem dX3_doChanges_42 : decode cX3_doChanges 42 = .ok (.istore_n 1, 1) := by decide +kernel
theorem dX3_doChanges_43 : decode cX3_doChanges 43 = .ok (.aload_n 3, 1) := by decide +kernel
theorem dX3_doChanges_44 : decode cX3_doChanges 44 = .ok (.invokevirtual 43, 3) := by decide +kernel
theorem dX3_doChanges_47 : decode cX3_doChanges 47 = .ok (.ifCond .eq 17, 3) := by decide +kernel
theorem dX3_doChanges_50 : decode cX3_doChanges 50 = .ok (.aload_n 0, 1) := by decide +kernel
theorem dX3_doChanges_51 : decode cX3_doChanges 51 = .ok (.getfield 15, 3) := by decide +kernel
theorem dX3_doChanges_54 : decode cX3_doChanges 54 = .ok (.aload_n 3, 1) := by decide +kernel
theorem dX3_doChanges_55 : decode cX3_doChanges 55 = .ok (.getfield 47, 3) := by decide +kernel
theorem dX3_doChanges_58 : decode cX3_doChanges 58 = .ok (.invokevirtual 72, 3) := by decide +kernel
theorem dX3_doChanges_61 : decode cX3_doChanges 61 = .ok (.goto 18, 3) := by decide +kernel
theorem dX3_doChanges_64 : decode cX3_doChanges 64 = .ok (.aload_n 0, 1) := by decide +kernel
theorem dX3_doChanges_65 : decode cX3_doChanges 65 = .ok (.getfield 15, 3) := by decide +kernel
theorem dX3_doChanges_68 : decode cX3_doChanges 68 = .ok (.aload_n 3, 1) := by decide +kernel
theorem dX3_doChanges_69 : decode cX3_doChanges 69 = .ok (.getfield 47, 3) := by decide +kernel
theorem dX3_doChanges_72 : decode cX3_doChanges 72 = .ok (.aload_n 3, 1) := by decide +kernel
theorem dX3_doChanges_73 : decode cX3_doChanges 73 = .ok (.getfield 75, 3) := by decide +kernel
theorem dX3_doChanges_76 : decode cX3_doChanges 76 = .ok (.invokevirtual 79, 3) := by decide +kernel
theorem dX3_doChanges_79 : decode cX3_doChanges 79 = .ok (.iinc 2 1, 3) := by decide +kernel
theorem dX3_doChanges_82 : decode cX3_doChanges 82 = .ok (.goto (-78), 3) := by decide +kernel
theorem dX3_doChanges_85 : decode cX3_doChanges 85 = .ok (.iload_n 1, 1) := by decide +kernel
theorem dX3_doChanges_86 : decode cX3_doChanges 86 = .ok (.ifCond .eq 16, 3) := by decide +kernel
theorem dX3_doChanges_89 : decode cX3_doChanges 89 = .ok (.aload_n 0, 1) := by decide +kernel
theorem dX3_doChanges_90 : decode cX3_doChanges 90 = .ok (.getfield 15, 3) := by decide +kernel
theorem dX3_doChanges_93 : decode cX3_doChanges 93 = .ok (.dup, 1) := by decide +kernel
theorem dX3_doChanges_94 : decode cX3_doChanges 94 = .ok (.getfield 83, 3) := by decide +kernel
theorem dX3_doChanges_97 : decode cX3_doChanges 97 = .ok (.iconst 1, 1) := by decide +kernel
theorem dX3_doChanges_98 : decode cX3_doChanges 98 = .ok (.iadd, 1) := by decide +kernel
theorem dX3_doChanges_99 : decode cX3_doChanges 99 = .ok (.putfield 83, 3) := by decide +kernel
theorem dX3_doChanges_102 : decode cX3_doChanges 102 = .ok (.return_, 1) := by decide +kernel
theorem dX3_spares_0 : decode cX3_spares 0 = .ok (.aload_n 1, 1) := by decide +kernel
theorem dX3_spares_1 : decode cX3_spares 1 = .ok (.getfield 47, 3) := by decide +kernel
theorem dX3_spares_4 : decode cX3_spares 4 = .ok (.istore_n 3, 1) := by decide +kernel
theorem dX3_spares_5 : decode cX3_spares 5 = .ok (.aload_n 0, 1) := by decide +kernel
theorem dX3_spares_6 : decode cX3_spares 6 = .ok (.getfield 15, 3) := by decide +kernel
theorem dX3_spares_9 : decode cX3_spares 9 = .ok (.getfield 54, 3) := by decide +kernel
theorem dX3_spares_12 : decode cX3_spares 12 = .ok (.iload_n 3, 1) := by decide +kernel
theorem dX3_spares_13 : decode cX3_spares 13 = .ok (.invokevirtual 86, 3) := by decide +kernel
theorem dX3_spares_16 : decode cX3_spares 16 = .ok (.ifCond .eq 63, 3) := by decide +kernel
theorem dX3_spares_19 : decode cX3_spares 19 = .ok (.aload_n 0, 1) := by decide +kernel
theorem dX3_spares_20 : decode cX3_spares 20 = .ok (.getfield 15, 3) := by decide +kernel
theorem dX3_spares_23 : decode cX3_spares 23 = .ok (.getfield 54, 3) := by decide +kernel
theorem dX3_spares_26 : decode cX3_spares 26 = .ok (.iload_n 3, 1) := by decide +kernel
theorem dX3_spares_27 : decode cX3_spares 27 = .ok (.invokevirtual 92, 3) := by decide +kernel
theorem dX3_spares_30 : decode cX3_spares 30 = .ok (.aload_n 1, 1) := by decide +kernel
theorem dX3_spares_31 : decode cX3_spares 31 = .ok (.getfield 96, 3) := by decide +kernel
theorem dX3_spares_34 : decode cX3_spares 34 = .ok (.if_icmp .ne 45, 3) := by decide +kernel
theorem dX3_spares_37 : decode cX3_spares 37 = .ok (.aload_n 1, 1) := by decide +kernel
theorem dX3_spares_38 : decode cX3_spares 38 = .ok (.invokevirtual 43, 3) := by decide +kernel
theorem dX3_spares_41 : decode cX3_spares 41 = .ok (.ifCond .eq 14, 3) := by decide +kernel
theorem dX3_spares_44 : decode cX3_spares 44 = .ok (.aload_n 0, 1) := by decide +kernel
theorem dX3_spares_45 : decode cX3_spares 45 = .ok (.getfield 15, 3) := by decide +kernel
theorem dX3_spares_48 : decode cX3_spares 48 = .ok (.iload_n 3, 1) := by decide +kernel
theorem dX3_spares_49 : decode cX3_spares 49 = .ok (.invokevirtual 99, 3) := by decide +kernel
theorem dX3_spares_52 : decode cX3_spares 52 = .ok (.ifCond .ne 27, 3) := by decide +kernel
theorem dX3_spares_55 : decode cX3_spares 55 = .ok (.aload_n 2, 1) := by decide +kernel
theorem dX3_spares_56 : decode cX3_spares 56 = .ok (.iload_n 3, 1) := by decide +kernel
theorem dX3_spares_57 : decode cX3_spares 57 = .ok (.invokevirtual 102, 3) := by decide +kernel
theorem dX3_spares_60 : decode cX3_spares 60 = .ok (.aload_n 1, 1) := by decide +kernel
theorem dX3_spares_61 : decode cX3_spares 61 = .ok (.getfield 106, 3) := by decide +kernel
theorem dX3_spares_64 : decode cX3_spares 64 = .ok (.if_icmp .ne 15, 3) := by decide +kernel
theorem dX3_spares_67 : decode cX3_spares 67 = .ok (.aload_n 2, 1) := by decide +kernel
theorem dX3_spares_68 : decode cX3_spares 68 = .ok (.iload_n 3, 1) := by decide +kernel
theorem dX3_spares_69 : decode cX3_spares 69 = .ok (.invokevirtual 109, 3) := by decide +kernel
theorem dX3_spares_72 : decode cX3_spares 72 = .ok (.aload_n 1, 1) := by decide +kernel
theorem dX3_spares_73 : decode cX3_spares 73 = .ok (.getfield 112, 3) := by decide +kernel
theorem dX3_spares_76 : decode cX3_spares 76 = .ok (.if_icmp .eq 7, 3) := by decide +kernel
theorem dX3_spares_79 : decode cX3_spares 79 = .ok (.iconst 1, 1) := by decide +kernel
theorem dX3_spares_80 : decode cX3_spares 80 = .ok (.goto 4, 3) := by decide +kernel
theorem dX3_spares_83 : decode cX3_spares 83 = .ok (.iconst 0, 1) := by decide +kernel
theorem dX3_spares_84 : decode cX3_spares 84 = .ok (.ireturn, 1) := by decide +kernel
theorem dX4_init_0 : decode cX4_init 0 = .ok (.aload_n 0, 1) := by decide +kernel
theorem dX4_init_1 : decode cX4_init 1 = .ok (.invokespecial 3, 3) := by decide +kernel
theorem dX4_init_4 : decode cX4_init 4 = .ok (.aload_n 0, 1) := by decide +kernel
theorem dX4_init_5 : decode cX4_init 5 = .ok (.new 9, 3) := by decide +kernel
theorem dX4_init_8 : decode cX4_init 8 = .ok (.dup, 1) := by decide +kernel
theorem dX4_init_9 : decode cX4_init 9 = .ok (.invokespecial 11, 3) := by decide +kernel
theorem dX4_init_12 : decode cX4_init 12 = .ok (.putfield 12, 3) := by decide +kernel
theorem dX4_init_15 : decode cX4_init 15 = .ok (.return_, 1) := by decide +kernel
theorem dX4_remember_0 : decode cX4_remember 0 = .ok (.aload_n 0, 1) := by decide +kernel
theorem dX4_remember_1 : decode cX4_remember 1 = .ok (.getfield 12, 3) := by decide +kernel
theorem dX4_remember_4 : decode cX4_remember 4 = .ok (.invokeinterface 18 1, 5) := by decide +kernel
theorem dX4_remember_9 : decode cX4_remember 9 = .ok (.iconst 1, 1) := by decide +kernel
theorem dX4_remember_10 : decode cX4_remember 10 = .ok (.isub, 1) := by decide +kernel
theorem dX4_remember_11 : decode cX4_remember 11 = .ok (.istore_n 2, 1) := by decide +kernel
theorem dX4_remember_12 : decode cX4_remember 12 = .ok (.iload_n 2, 1) := by decide +kernel
theorem dX4_remember_13 : decode cX4_remember 13 = .ok (.aload_n 0, 1) := by decide +kernel
theorem dX4_remember_14 : decode cX4_remember 14 = .ok (.getfield 24, 3) := by decide +kernel
theorem dX4_remember_17 : decode cX4_remember 17 = .ok (.if_icmp .lt 20, 3) := by decide +kernel
theorem dX4_remember_20 : decode cX4_remember 20 = .ok (.aload_n 0, 1) := by decide +kernel
theorem dX4_remember_21 : decode cX4_remember 21 = .ok (.getfield 12, 3) := by decide +kernel
theorem dX4_remember_24 : decode cX4_remember 24 = .ok (.iload_n 2, 1) := by decide +kernel
theorem dX4_remember_25 : decode cX4_remember 25 = .ok (.invokeinterface 28 2, 5) := by decide +kernel
theorem dX4_remember_30 : decode cX4_remember 30 = .ok (.pop, 1) := by decide +kernel
theorem dX4_remember_31 : decode cX4_remember 31 = .ok (.iinc 2 (-1), 3) := by decide +kernel
theorem dX4_remember_34 : decode cX4_remember 34 = .ok (.goto (-22), 3) := by decide +kernel
theorem dX4_remember_37 : decode cX4_remember 37 = .ok (.aload_n 0, 1) := by decide +kernel
theorem dX4_remember_38 : decode cX4_remember 38 = .ok (.getfield 12, 3) := by decide +kernel
theorem dX4_remember_41 : decode cX4_remember 41 = .ok (.invokeinterface 18 1, 5) := by decide +kernel
theorem dX4_remember_46 : decode cX4_remember 46 = .ok (.sipush 512, 3) := by decide +kernel
theorem dX4_remember_49 : decode cX4_remember 49 = .ok (.if_icmp .ge 14, 3) := by decide +kernel
theorem dX4_remember_52 : decode cX4_remember 52 = .ok (.aload_n 0, 1) := by decide +kernel
theorem dX4_remember_53 : decode cX4_remember 53 = .ok (.getfield 12, 3) := by decide +kernel
theorem dX4_remember_56 : decode cX4_remember 56 = .ok (.aload_n 1, 1) := by decide +kernel
theorem dX4_remember_57 : decode cX4_remember 57 = .ok (.invokeinterface 32 2, 5) := by decide +kernel
theorem dX4_remember_62 : decode cX4_remember 62 = .ok (.pop, 1) := by decide +kernel
theorem dX4_remember_63 : decode cX4_remember 63 = .ok (.aload_n 0, 1) := by decide +kernel
theorem dX4_remember_64 : decode cX4_remember 64 = .ok (.aload_n 0, 1) := by decide +kernel
theorem dX4_remember_65 : decode cX4_remember 65 = .ok (.getfield 12, 3) := by decide +kernel
theorem dX4_remember_68 : decode cX4_remember 68 = .ok (.invokeinterface 18 1, 5) := by decide +kernel
theorem dX4_remember_73 : decode cX4_remember 73 = .ok (.putfield 24, 3) := by decide +kernel
theorem dX4_remember_76 : decode cX4_remember 76 = .ok (.return_, 1) := by decide +kernel
theorem dX4_stepBack_0 : decode cX4_stepBack 0 = .ok (.aload_n 0, 1) := by decide +kernel
theorem dX4_stepBack_1 : decode cX4_stepBack 1 = .ok (.getfield 24, 3) := by decide +kernel
theorem dX4_stepBack_4 : decode cX4_stepBack 4 = .ok (.ifCond .le 19, 3) := by decide +kernel
theorem dX4_stepBack_7 : decode cX4_stepBack 7 = .ok (.aload_n 0, 1) := by decide +kernel
theorem dX4_stepBack_8 : decode cX4_stepBack 8 = .ok (.getfield 24, 3) := by decide +kernel
theorem dX4_stepBack_11 : decode cX4_stepBack 11 = .ok (.aload_n 0, 1) := by decide +kernel
theorem dX4_stepBack_12 : decode cX4_stepBack 12 = .ok (.getfield 12, 3) := by decide +kernel
theorem dX4_stepBack_15 : decode cX4_stepBack 15 = .ok (.invokeinterface 18 1, 5) := by decide +kernel
theorem dX4_stepBack_20 : decode cX4_stepBack 20 = .ok (.if_icmp .le 5, 3) := by decide +kernel
theorem dX4_stepBack_23 : decode cX4_stepBack 23 = .ok (.aconst_null, 1) := by decide +kernel
theorem dX4_stepBack_24 : decode cX4_stepBack 24 = .ok (.areturn, 1) := by decide +kernel
theorem dX4_stepBack_25 : decode cX4_stepBack 25 = .ok (.aload_n 0, 1) := by decide +kernel
theorem dX4_stepBack_26 : decode cX4_stepBack 26 = .ok (.dup, 1) := by decide +kernel
theorem dX4_stepBack_27 : decode cX4_stepBack 27 = .ok (.getfield 24, 3) := by decide +kernel
theorem dX4_stepBack_30 : decode cX4_stepBack 30 = .ok (.iconst 1, 1) := by decide +kernel
theorem dX4_stepBack_31 : decode cX4_stepBack 31 = .ok (.isub, 1) := by decide +kernel
theorem dX4_stepBack_32 : decode cX4_stepBack 32 = .ok (.putfield 24, 3) := by decide +kernel
theorem dX4_stepBack_35 : decode cX4_stepBack 35 = .ok (.aload_n 0, 1) := by decide +kernel
theorem dX4_stepBack_36 : decode cX4_stepBack 36 = .ok (.getfield 12, 3) := by decide +kernel
theorem dX4_stepBack_39 : decode cX4_stepBack 39 = .ok (.aload_n 0, 1) := by decide +kernel
theorem dX4_stepBack_40 : decode cX4_stepBack 40 = .ok (.getfield 24, 3) := by decide +kernel
theorem dX4_stepBack_43 : decode cX4_stepBack 43 = .ok (.invokeinterface 36 2, 5) := by decide +kernel
theorem dX4_stepBack_48 : decode cX4_stepBack 48 = .ok (.checkcast 39, 3) := by decide +kernel
theorem dX4_stepBack_51 : decode cX4_stepBack 51 = .ok (.areturn, 1) := by decide +kernel
theorem dX4_stepForth_0 : decode cX4_stepForth 0 = .ok (.aload_n 0, 1) := by decide +kernel
theorem dX4_stepForth_1 : decode cX4_stepForth 1 = .ok (.getfield 24, 3) := by decide +kernel
theorem dX4_stepForth_4 : decode cX4_stepForth 4 = .ok (.ifCond .lt 19, 3) := by decide +kernel
theorem dX4_stepForth_7 : decode cX4_stepForth 7 = .ok (.aload_n 0, 1) := by decide +kernel
theorem dX4_stepForth_8 : decode cX4_stepForth 8 = .ok (.getfield 24, 3) := by decide +kernel
theorem dX4_stepForth_11 : decode cX4_stepForth 11 = .ok (.aload_n 0, 1) := by decide +kernel
theorem dX4_stepForth_12 : decode cX4_stepForth 12 = .ok (.getfield 12, 3) := by decide +kernel
theorem dX4_stepForth_15 : decode cX4_stepForth 15 = .ok (.invokeinterface 18 1, 5) := by decide +kernel
theorem dX4_stepForth_20 : decode cX4_stepForth 20 = .ok (.if_icmp .lt 5, 3) := by decide +kernel
theorem dX4_stepForth_23 : decode cX4_stepForth 23 = .ok (.aconst_null, 1) := by decide +kernel
theorem dX4_stepForth_24 : decode cX4_stepForth 24 = .ok (.areturn, 1) := by decide +kernel
theorem dX4_stepForth_25 : decode cX4_stepForth 25 = .ok (.aload_n 0, 1) := by decide +kernel
theorem dX4_stepForth_26 : decode cX4_stepForth 26 = .ok (.dup, 1) := by decide +kernel
theorem dX4_stepForth_27 : decode cX4_stepForth 27 = .ok (.getfield 24, 3) := by decide +kernel
theorem dX4_stepForth_30 : decode cX4_stepForth 30 = .ok (.iconst 1, 1) := by decide +kernel
theorem dX4_stepForth_31 : decode cX4_stepForth 31 = .ok (.iadd, 1) := by decide +kernel
theorem dX4_stepForth_32 : decode cX4_stepForth 32 = .ok (.putfield 24, 3) := by decide +kernel
theorem dX4_stepForth_35 : decode cX4_stepForth 35 = .ok (.aload_n 0, 1) := by decide +kernel
theorem dX4_stepForth_36 : decode cX4_stepForth 36 = .ok (.getfield 12, 3) := by decide +kernel
theorem dX4_stepForth_39 : decode cX4_stepForth 39 = .ok (.aload_n 0, 1) := by decide +kernel
theorem dX4_stepForth_40 : decode cX4_stepForth 40 = .ok (.getfield 24, 3) := by decide +kernel
theorem dX4_stepForth_43 : decode cX4_stepForth 43 = .ok (.iconst 1, 1) := by decide +kernel
theorem dX4_stepForth_44 : decode cX4_stepForth 44 = .ok (.isub, 1) := by decide +kernel
theorem dX4_stepForth_45 : decode cX4_stepForth 45 = .ok (.invokeinterface 36 2, 5) := by decide +kernel
theorem dX4_stepForth_50 : decode cX4_stepForth 50 = .ok (.checkcast 39, 3) := by decide +kernel
theorem dX4_stepForth_53 : decode cX4_stepForth 53 = .ok (.areturn, 1) := by decide +kernel
theorem dX5_init_0 : decode cX5_init 0 = .ok (.aload_n 0, 1) := by decide +kernel
theorem dX5_init_1 : decode cX5_init 1 = .ok (.invokespecial 3, 3) := by decide +kernel
theorem dX5_init_4 : decode cX5_init 4 = .ok (.aload_n 0, 1) := by decide +kernel
theorem dX5_init_5 : decode cX5_init 5 = .ok (.sipush 150, 3) := by decide +kernel
theorem dX5_init_8 : decode cX5_init 8 = .ok (.newarray .boolean, 2) := by decide +kernel
theorem dX5_init_10 : decode cX5_init 10 = .ok (.putfield 9, 3) := by decide +kernel
theorem dX5_init_13 : decode cX5_init 13 = .ok (.aload_n 0, 1) := by decide +kernel
theorem dX5_init_14 : decode cX5_init 14 = .ok (.sipush 150, 3) := by decide +kernel
theorem dX5_init_17 : decode cX5_init 17 = .ok (.newarray .int, 2) := by decide +kernel
theorem dX5_init_19 : decode cX5_init 19 = .ok (.putfield 15, 3) := by decide +kernel
theorem dX5_init_22 : decode cX5_init 22 = .ok (.aload_n 0, 1) := by decide +kernel
theorem dX5_init_23 : decode cX5_init 23 = .ok (.sipush 150, 3) := by decide +kernel
theorem dX5_init_26 : decode cX5_init 26 = .ok (.newarray .int, 2) := by decide +kernel
theorem dX5_init_28 : decode cX5_init 28 = .ok (.putfield 19, 3) := by decide +kernel
theorem dX5_init_31 : decode cX5_init 31 = .ok (.return_, 1) := by decide +kernel
theorem dX5_forgetGoing_0 : decode cX5_forgetGoing 0 = .ok (.iconst 0, 1) := by decide +kernel
theorem dX5_forgetGoing_1 : decode cX5_forgetGoing 1 = .ok (.istore_n 1, 1) := by decide +kernel
theorem dX5_forgetGoing_2 : decode cX5_forgetGoing 2 = .ok (.iload_n 1, 1) := by decide +kernel
theorem dX5_forgetGoing_3 : decode cX5_forgetGoing 3 = .ok (.sipush 150, 3) := by decide +kernel
theorem dX5_forgetGoing_6 : decode cX5_forgetGoing 6 = .ok (.if_icmp .ge 16, 3) := by decide +kernel
theorem dX5_forgetGoing_9 : decode cX5_forgetGoing 9 = .ok (.aload_n 0, 1) := by decide +kernel
theorem dX5_forgetGoing_10 : decode cX5_forgetGoing 10 = .ok (.getfield 9, 3) := by decide +kernel
theorem dX5_forgetGoing_13 : decode cX5_forgetGoing 13 = .ok (.iload_n 1, 1) := by decide +kernel
theorem dX5_forgetGoing_14 : decode cX5_forgetGoing 14 = .ok (.iconst 0, 1) := by decide +kernel
theorem dX5_forgetGoing_15 : decode cX5_forgetGoing 15 = .ok (.bastore, 1) := by decide +kernel
theorem dX5_forgetGoing_16 : decode cX5_forgetGoing 16 = .ok (.iinc 1 1, 3) := by decide +kernel
theorem dX5_forgetGoing_19 : decode cX5_forgetGoing 19 = .ok (.goto (-17), 3) := by decide +kernel
theorem dX5_forgetGoing_22 : decode cX5_forgetGoing 22 = .ok (.return_, 1) := by decide +kernel
theorem dX5_markGoing_0 : decode cX5_markGoing 0 = .ok (.iload_n 1, 1) := by decide +kernel
theorem dX5_markGoing_1 : decode cX5_markGoing 1 = .ok (.invokestatic 22, 3) := by decide +kernel
theorem dX5_markGoing_4 : decode cX5_markGoing 4 = .ok (.ifCond .eq 10, 3) := by decide +kernel
theorem dX5_markGoing_7 : decode cX5_markGoing 7 = .ok (.aload_n 0, 1) := by decide +kernel
theorem dX5_markGoing_8 : decode cX5_markGoing 8 = .ok (.getfield 9, 3) := by decide +kernel
theorem dX5_markGoing_11 : decode cX5_markGoing 11 = .ok (.iload_n 1, 1) := by decide +kernel
theorem dX5_markGoing_12 : decode cX5_markGoing 12 = .ok (.iconst 1, 1) := by decide +kernel
theorem dX5_markGoing_13 : decode cX5_markGoing 13 = .ok (.bastore, 1) := by decide +kernel
theorem dX5_markGoing_14 : decode cX5_markGoing 14 = .ok (.return_, 1) := by decide +kernel
theorem dX5_find_0 : decode cX5_find 0 = .ok (.iconst (-1), 1) := by decide +kernel
theorem dX5_find_1 : decode cX5_find 1 = .ok (.istore_n 2, 1) := by decide +kernel
theorem dX5_find_2 : decode cX5_find 2 = .ok (.iconst 0, 1) := by decide +kernel
theorem dX5_find_3 : decode cX5_find 3 = .ok (.istore_n 3, 1) := by decide +kernel
theorem dX5_find_4 : decode cX5_find 4 = .ok (.iload_n 3, 1) := by decide +kernel
theorem dX5_find_5 : decode cX5_find 5 = .ok (.aload_n 1, 1) := by decide +kernel
theorem dX5_find_6 : decode cX5_find 6 = .ok (.invokevirtual 26, 3) := by decide +kernel
theorem dX5_find_9 : decode cX5_find 9 = .ok (.if_icmp .ge 25, 3) := by decide +kernel
theorem dX5_find_12 : decode cX5_find 12 = .ok (.aload_n 0, 1) := by decide +kernel
theorem dX5_find_13 : decode cX5_find 13 = .ok (.aload_n 1, 1) := by decide +kernel
theorem dX5_find_14 : decode cX5_find 14 = .ok (.aload_n 1, 1) := by decide +kernel
theorem dX5_find_15 : decode cX5_find 15 = .ok (.iload_n 3, 1) := by decide +kernel
theorem dX5_find_16 : decode cX5_find 16 = .ok (.invokevirtual 32, 3) := by decide +kernel
theorem dX5_find_19 : decode cX5_find 19 = .ok (.iload_n 2, 1) := by decide +kernel
theorem dX5_find_20 : decode cX5_find 20 = .ok (.aload_n 0, 1) := by decide +kernel
theorem dX5_find_21 : decode cX5_find 21 = .ok (.getfield 15, 3) := by decide +kernel
theorem dX5_find_24 : decode cX5_find 24 = .ok (.invokevirtual 36, 3) := by decide +kernel
theorem dX5_find_27 : decode cX5_find 27 = .ok (.istore_n 2, 1) := by decide +kernel
theorem dX5_find_28 : decode cX5_find 28 = .ok (.iinc 3 1, 3) := by decide +kernel
theorem dX5_find_31 : decode cX5_find 31 = .ok (.goto (-27), 3) := by decide +kernel
theorem dX5_find_34 : decode cX5_find 34 = .ok (.iconst (-1), 1) := by decide +kernel
theorem dX5_find_35 : decode cX5_find 35 = .ok (.istore_n 2, 1) := by decide +kernel
theorem dX5_find_36 : decode cX5_find 36 = .ok (.aload_n 1, 1) := by decide +kernel
theorem dX5_find_37 : decode cX5_find 37 = .ok (.invokevirtual 26, 3) := by decide +kernel
theorem dX5_find_40 : decode cX5_find 40 = .ok (.iconst 1, 1) := by decide +kernel
theorem dX5_find_41 : decode cX5_find 41 = .ok (.isub, 1) := by decide +kernel
theorem dX5_find_42 : decode cX5_find 42 = .ok (.istore_n 3, 1) := by decide +kernel
theorem dX5_find_43 : decode cX5_find 43 = .ok (.iload_n 3, 1) := by decide +kernel
theorem dX5_find_44 : decode cX5_find 44 = .ok (.ifCond .lt 25, 3) := by decide +kernel
theorem dX5_find_47 : decode cX5_find 47 = .ok (.aload_n 0, 1) := by decide +kernel
theorem dX5_find_48 : decode cX5_find 48 = .ok (.aload_n 1, 1) := by decide +kernel
theorem dX5_find_49 : decode cX5_find 49 = .ok (.aload_n 1, 1) := by decide +kernel
theorem dX5_find_50 : decode cX5_find 50 = .ok (.iload_n 3, 1) := by decide +kernel
theorem dX5_find_51 : decode cX5_find 51 = .ok (.invokevirtual 32, 3) := by decide +kernel
theorem dX5_find_54 : decode cX5_find 54 = .ok (.iload_n 2, 1) := by decide +kernel
theorem dX5_find_55 : decode cX5_find 55 = .ok (.aload_n 0, 1) := by decide +kernel
theorem dX5_find_56 : decode cX5_find 56 = .ok (.getfield 19, 3) := by decide +kernel
theorem dX5_find_59 : decode cX5_find 59 = .ok (.invokevirtual 36, 3) := by decide +kernel
theorem dX5_find_62 : decode cX5_find 62 = .ok (.istore_n 2, 1) := by decide +kernel
theorem dX5_find_63 : decode cX5_find 63 = .ok (.iinc 3 (-1), 3) := by decide +kernel
theorem dX5_find_66 : decode cX5_find 66 = .ok (.goto (-23), 3) := by decide +kernel
theorem dX5_find_69 : decode cX5_find 69 = .ok (.return_, 1) := by decide +kernel
theorem dX5_aheadOf_0 : decode cX5_aheadOf 0 = .ok (.iload_n 1, 1) := by decide +kernel
theorem dX5_aheadOf_1 : decode cX5_aheadOf 1 = .ok (.invokestatic 22, 3) := by decide +kernel
theorem dX5_aheadOf_4 : decode cX5_aheadOf 4 = .ok (.ifCond .eq 12, 3) := by decide +kernel
theorem dX5_aheadOf_7 : decode cX5_aheadOf 7 = .ok (.aload_n 0, 1) := by decide +kernel
theorem dX5_aheadOf_8 : decode cX5_aheadOf 8 = .ok (.getfield 15, 3) := by decide +kernel
theorem dX5_aheadOf_11 : decode cX5_aheadOf 11 = .ok (.iload_n 1, 1) := by decide +kernel
theorem dX5_aheadOf_12 : decode cX5_aheadOf 12 = .ok (.iaload, 1) := by decide +kernel
theorem dX5_aheadOf_13 : decode cX5_aheadOf 13 = .ok (.goto 4, 3) := by decide +kernel
theorem dX5_aheadOf_16 : decode cX5_aheadOf 16 = .ok (.iconst (-1), 1) := by decide +kernel
theorem dX5_aheadOf_17 : decode cX5_aheadOf 17 = .ok (.ireturn, 1) := by decide +kernel
theorem dX5_behindOf_0 : decode cX5_behindOf 0 = .ok (.iload_n 1, 1) := by decide +kernel
theorem dX5_behindOf_1 : decode cX5_behindOf 1 = .ok (.invokestatic 22, 3) := by decide +kernel
theorem dX5_behindOf_4 : decode cX5_behindOf 4 = .ok (.ifCond .eq 12, 3) := by decide +kernel
theorem dX5_behindOf_7 : decode cX5_behindOf 7 = .ok (.aload_n 0, 1) := by decide +kernel
theorem dX5_behindOf_8 : decode cX5_behindOf 8 = .ok (.getfield 19, 3) := by decide +kernel
theorem dX5_behindOf_11 : decode cX5_behindOf 11 = .ok (.iload_n 1, 1) := by decide +kernel
theorem dX5_behindOf_12 : decode cX5_behindOf 12 = .ok (.iaload, 1) := by decide +kernel
theorem dX5_behindOf_13 : decode cX5_behindOf 13 = .ok (.goto 4, 3) := by decide +kernel
theorem dX5_behindOf_16 : decode cX5_behindOf 16 = .ok (.iconst (-1), 1) := by decide +kernel
theorem dX5_behindOf_17 : decode cX5_behindOf 17 = .ok (.ireturn, 1) := by decide +kernel
theorem dX5_pass_0 : decode cX5_pass 0 = .ok (.iload_n 2, 1) := by decide +kernel
theorem dX5_pass_1 : decode cX5_pass 1 = .ok (.invokestatic 22, 3) := by decide +kernel
theorem dX5_pass_4 : decode cX5_pass 4 = .ok (.ifCond .eq 10, 3) := by decide +kernel
theorem dX5_pass_7 : decode cX5_pass 7 = .ok (.iload_n 2, 1) := by decide +kernel
theorem dX5_pass_8 : decode cX5_pass 8 = .ok (.aload 4, 2) := by decide +kernel
theorem dX5_pass_10 : decode cX5_pass 10 = .ok (.arraylength, 1) := by decide +kernel
theorem dX5_pass_11 : decode cX5_pass 11 = .ok (.if_icmp .lt 5, 3) := by decide +kernel
theorem dX5_pass_14 : decode cX5_pass 14 = .ok (.iload_n 3, 1) := by decide +kernel
theorem dX5_pass_15 : decode cX5_pass 15 = .ok (.ireturn, 1) := by decide +kernel
theorem dX5_pass_16 : decode cX5_pass 16 = .ok (.aload 4, 2) := by decide +kernel
theorem dX5_pass_18 : decode cX5_pass 18 = .ok (.iload_n 2, 1) := by decide +kernel
theorem dX5_pass_19 : decode cX5_pass 19 = .ok (.iload_n 3, 1) := by decide +kernel
theorem dX5_pass_20 : decode cX5_pass 20 = .ok (.iastore, 1) := by decide +kernel
theorem dX5_pass_21 : decode cX5_pass 21 = .ok (.aload_n 1, 1) := by decide +kernel
theorem dX5_pass_22 : decode cX5_pass 22 = .ok (.iload_n 2, 1) := by decide +kernel
theorem dX5_pass_23 : decode cX5_pass 23 = .ok (.invokevirtual 40, 3) := by decide +kernel
theorem dX5_pass_26 : decode cX5_pass 26 = .ok (.ifCond .eq 16, 3) := by decide +kernel
theorem dX5_pass_29 : decode cX5_pass 29 = .ok (.aload_n 0, 1) := by decide +kernel
theorem dX5_pass_30 : decode cX5_pass 30 = .ok (.getfield 9, 3) := by decide +kernel
theorem dX5_pass_33 : decode cX5_pass 33 = .ok (.iload_n 2, 1) := by decide +kernel
theorem dX5_pass_34 : decode cX5_pass 34 = .ok (.baload, 1) := by decide +kernel
theorem dX5_pass_35 : decode cX5_pass 35 = .ok (.ifCond .ne 7, 3) := by decide +kernel
theorem dX5_pass_38 : decode cX5_pass 38 = .ok (.iload_n 2, 1) := by decide +kernel
theorem dX5_pass_39 : decode cX5_pass 39 = .ok (.goto 4, 3) := by decide +kernel
theorem dX5_pass_42 : decode cX5_pass 42 = .ok (.iload_n 3, 1) := by decide +kernel
theorem dX5_pass_43 : decode cX5_pass 43 = .ok (.ireturn, 1) := by decide +kernel
theorem dX5_isLetter_0 : decode cX5_isLetter 0 = .ok (.iload_n 0, 1) := by decide +kernel
theorem dX5_isLetter_1 : decode cX5_isLetter 1 = .ok (.ifCond .lt 14, 3) := by decide +kernel
theorem dX5_isLetter_4 : decode cX5_isLetter 4 = .ok (.iload_n 0, 1) := by decide +kernel
theorem dX5_isLetter_5 : decode cX5_isLetter 5 = .ok (.sipush 150, 3) := by decide +kernel
theorem dX5_isLetter_8 : decode cX5_isLetter 8 = .ok (.if_icmp .ge 7, 3) := by decide +kernel
theorem dX5_isLetter_11 : decode cX5_isLetter 11 = .ok (.iconst 1, 1) := by decide +kernel
theorem dX5_isLetter_12 : decode cX5_isLetter 12 = .ok (.goto 4, 3) := by decide +kernel
theorem dX5_isLetter_15 : decode cX5_isLetter 15 = .ok (.iconst 0, 1) := by decide +kernel
theorem dX5_isLetter_16 : decode cX5_isLetter 16 = .ok (.ireturn, 1) := by decide +kernel
theorem dX6_init_0 : decode cX6_init 0 = .ok (.aload_n 0, 1) := by decide +kernel
theorem dX6_init_1 : decode cX6_init 1 = .ok (.invokespecial 3, 3) := by decide +kernel
theorem dX6_init_4 : decode cX6_init 4 = .ok (.aload_n 0, 1) := by decide +kernel
theorem dX6_init_5 : decode cX6_init 5 = .ok (.sipush 150, 3) := by decide +kernel
theorem dX6_init_8 : decode cX6_init 8 = .ok (.newarray .int, 2) := by decide +kernel
theorem dX6_init_10 : decode cX6_init 10 = .ok (.putfield 9, 3) := by decide +kernel
theorem dX6_init_13 : decode cX6_init 13 = .ok (.aload_n 0, 1) := by decide +kernel
theorem dX6_init_14 : decode cX6_init 14 = .ok (.sipush 150, 3) := by decide +kernel
theorem dX6_init_17 : decode cX6_init 17 = .ok (.newarray .char, 2) := by decide +kernel
theorem dX6_init_19 : decode cX6_init 19 = .ok (.putfield 15, 3) := by decide +kernel
theorem dX6_init_22 : decode cX6_init 22 = .ok (.aload_n 0, 1) := by decide +kernel
theorem dX6_init_23 : decode cX6_init 23 = .ok (.sipush 150, 3) := by decide +kernel
theorem dX6_init_26 : decode cX6_init 26 = .ok (.newarray .char, 2) := by decide +kernel
theorem dX6_init_28 : decode cX6_init 28 = .ok (.putfield 19, 3) := by decide +kernel
theorem dX6_init_31 : decode cX6_init 31 = .ok (.return_, 1) := by decide +kernel
theorem dX6_draw_0 : decode cX6_draw 0 = .ok (.aload_n 0, 1) := by decide +kernel
theorem dX6_draw_1 : decode cX6_draw 1 = .ok (.aload_n 1, 1) := by decide +kernel
theorem dX6_draw_2 : decode cX6_draw 2 = .ok (.invokevirtual 22, 3) := by decide +kernel
theorem dX6_draw_5 : decode cX6_draw 5 = .ok (.iload_n 2, 1) := by decide +kernel
theorem dX6_draw_6 : decode cX6_draw 6 = .ok (.tableswitch 47 0 2 #[26, 33, 40], 26) := by decide +kernel
theorem dX6_draw_32 : decode cX6_draw 32 = .ok (.aload_n 0, 1) := by decide +kernel
theorem dX6_draw_33 : decode cX6_draw 33 = .ok (.invokevirtual 26, 3) := by decide +kernel
theorem dX6_draw_36 : decode cX6_draw 36 = .ok (.goto 22, 3) := by decide +kernel
theorem dX6_draw_39 : decode cX6_draw 39 = .ok (.aload_n 0, 1) := by decide +kernel
theorem dX6_draw_40 : decode cX6_draw 40 = .ok (.invokevirtual 29, 3) := by decide +kernel
theorem dX6_draw_43 : decode cX6_draw 43 = .ok (.goto 15, 3) := by decide +kernel
theorem dX6_draw_46 : decode cX6_draw 46 = .ok (.aload_n 0, 1) := by decide +kernel
theorem dX6_draw_47 : decode cX6_draw 47 = .ok (.invokevirtual 32, 3) := by decide +kernel
theorem dX6_draw_50 : decode cX6_draw 50 = .ok (.goto 8, 3) := by decide +kernel
theorem dX6_draw_53 : decode cX6_draw 53 = .ok (.aload_n 0, 1) := by decide +kernel
theorem dX6_draw_54 : decode cX6_draw 54 = .ok (.iload_n 3, 1) := by decide +kernel
theorem dX6_draw_55 : decode cX6_draw 55 = .ok (.invokevirtual 35, 3) := by decide +kernel
theorem dX6_draw_58 : decode cX6_draw 58 = .ok (.return_, 1) := by decide +kernel
theorem dX6_changes_0 : decode cX6_changes 0 = .ok (.aload_n 2, 1) := by decide +kernel
theorem dX6_changes_1 : decode cX6_changes 1 = .ok (.invokevirtual 39, 3) := by decide +kernel
theorem dX6_changes_4 : decode cX6_changes 4 = .ok (.iconst 0, 1) := by decide +kernel
theorem dX6_changes_5 : decode cX6_changes 5 = .ok (.istore_n 3, 1) := by decide +kernel
theorem dX6_changes_6 : decode cX6_changes 6 = .ok (.iload_n 3, 1) := by decide +kernel
theorem dX6_changes_7 : decode cX6_changes 7 = .ok (.aload_n 0, 1) := by decide +kernel
theorem dX6_changes_8 : decode cX6_changes 8 = .ok (.getfield 44, 3) := by decide +kernel
theorem dX6_changes_11 : decode cX6_changes 11 = .ok (.if_icmp .ge 29, 3) := by decide +kernel
theorem dX6_changes_14 : decode cX6_changes 14 = .ok (.aload_n 0, 1) := by decide +kernel
theorem dX6_changes_15 : decode cX6_changes 15 = .ok (.getfield 19, 3) := by decide +kernel
theorem dX6_changes_18 : decode cX6_changes 18 = .ok (.iload_n 3, 1) := by decide +kernel
theorem dX6_changes_19 : decode cX6_changes 19 = .ok (.caload, 1) := by decide +kernel
theorem dX6_changes_20 : decode cX6_changes 20 = .ok (.iconst 1, 1) := by decide +kernel
theorem dX6_changes_21 : decode cX6_changes 21 = .ok (.if_icmp .ne 13, 3) := by decide +kernel
theorem dX6_changes_24 : decode cX6_changes 24 = .ok (.aload_n 2, 1) := by decide +kernel
theorem dX6_changes_25 : decode cX6_changes 25 = .ok (.aload_n 0, 1) := by decide +kernel
theorem dX6_changes_26 : decode cX6_changes 26 = .ok (.getfield 9, 3) := by decide +kernel
theorem dX6_changes_29 : decode cX6_changes 29 = .ok (.iload_n 3, 1) := by decide +kernel
theorem dX6_changes_30 : decode cX6_changes 30 = .ok (.iaload, 1) := by decide +kernel
theorem dX6_changes_31 : decode cX6_changes 31 = .ok (.invokevirtual 48, 3) := by decide +kernel
theorem dX6_changes_34 : decode cX6_changes 34 = .ok (.iinc 3 1, 3) := by decide +kernel
theorem dX6_changes_37 : decode cX6_changes 37 = .ok (.goto (-31), 3) := by decide +kernel
theorem dX6_changes_40 : decode cX6_changes 40 = .ok (.aload_n 2, 1) := by decide +kernel
theorem dX6_changes_41 : decode cX6_changes 41 = .ok (.aload_n 1, 1) := by decide +kernel
theorem dX6_changes_42 : decode cX6_changes 42 = .ok (.invokevirtual 51, 3) := by decide +kernel
theorem dX6_changes_45 : decode cX6_changes 45 = .ok (.new 54, 3) := by decide +kernel
theorem dX6_changes_48 : decode cX6_changes 48 = .ok (.dup, 1) := by decide +kernel
theorem dX6_changes_49 : decode cX6_changes 49 = .ok (.invokespecial 56, 3) := by decide +kernel
theorem dX6_changes_52 : decode cX6_changes 52 = .ok (.astore_n 3, 1) := by decide +kernel
theorem dX6_changes_53 : decode cX6_changes 53 = .ok (.iconst 0, 1) := by decide +kernel
theorem dX6_changes_54 : decode cX6_changes 54 = .ok (.istore 4, 2) := by decide +kernel
theorem dX6_changes_56 : decode cX6_changes 56 = .ok (.iload 4, 2) := by decide +kernel
theorem dX6_changes_58 : decode cX6_changes 58 = .ok (.aload_n 0, 1) := by decide +kernel
theorem dX6_changes_59 : decode cX6_changes 59 = .ok (.getfield 44, 3) := by decide +kernel
theorem dX6_changes_62 : decode cX6_changes 62 = .ok (.if_icmp .ge 70, 3) := by decide +kernel
theorem dX6_changes_65 : decode cX6_changes 65 = .ok (.aload_n 0, 1) := by decide +kernel
theorem dX6_changes_66 : decode cX6_changes 66 = .ok (.getfield 19, 3) := by decide +kernel
theorem dX6_changes_69 : decode cX6_changes 69 = .ok (.iload 4, 2) := by decide +kernel
theorem dX6_changes_71 : decode cX6_changes 71 = .ok (.caload, 1) := by decide +kernel
theorem dX6_changes_72 : decode cX6_changes 72 = .ok (.ifCond .eq 54, 3) := by decide +kernel
theorem dX6_changes_75 : decode cX6_changes 75 = .ok (.aload_n 0, 1) := by decide +kernel
theorem dX6_changes_76 : decode cX6_changes 76 = .ok (.getfield 9, 3) := by decide +kernel
theorem dX6_changes_79 : decode cX6_changes 79 = .ok (.iload 4, 2) := by decide +kernel
theorem dX6_changes_81 : decode cX6_changes 81 = .ok (.iaload, 1) := by decide +kernel
theorem dX6_changes_82 : decode cX6_changes 82 = .ok (.istore 5, 2) := by decide +kernel
theorem dX6_changes_84 : decode cX6_changes 84 = .ok (.aload_n 3, 1) := by decide +kernel
theorem dX6_changes_85 : decode cX6_changes 85 = .ok (.new 57, 3) := by decide +kernel
theorem dX6_changes_88 : decode cX6_changes 88 = .ok (.dup, 1) := by decide +kernel
theorem dX6_changes_89 : decode cX6_changes 89 = .ok (.iload 5, 2) := by decide +kernel
theorem dX6_changes_91 : decode cX6_changes 91 = .ok (.aload_n 0, 1) := by decide +kernel
theorem dX6_changes_92 : decode cX6_changes 92 = .ok (.getfield 15, 3) := by decide +kernel
theorem dX6_changes_95 : decode cX6_changes 95 = .ok (.iload 4, 2) := by decide +kernel
theorem dX6_changes_97 : decode cX6_changes 97 = .ok (.caload, 1) := by decide +kernel
theorem dX6_changes_98 : decode cX6_changes 98 = .ok (.aload_n 0, 1) := by decide +kernel
theorem dX6_changes_99 : decode cX6_changes 99 = .ok (.getfield 19, 3) := by decide +kernel
theorem dX6_changes_102 : decode cX6_changes 102 = .ok (.iload 4, 2) := by decide +kernel
theorem dX6_changes_104 : decode cX6_changes 104 = .ok (.caload, 1) := by decide +kernel
theorem dX6_changes_105 : decode cX6_changes 105 = .ok (.aload_n 2, 1) := by decide +kernel
theorem dX6_changes_106 : decode cX6_changes 106 = .ok (.iload 5, 2) := by decide +kernel
theorem dX6_changes_108 : decode cX6_changes 108 = .ok (.invokevirtual 59, 3) := by decide +kernel
theorem dX6_changes_111 : decode cX6_changes 111 = .ok (.aload_n 2, 1) := by decide +kernel
theorem dX6_changes_112 : decode cX6_changes 112 = .ok (.iload 5, 2) := by decide +kernel
theorem dX6_changes_114 : decode cX6_changes 114 = .ok (.invokevirtual 63, 3) := by decide +kernel
theorem dX6_changes_117 : decode cX6_changes 117 = .ok (.invokespecial 66, 3) := by decide +kernel
theorem dX6_changes_120 : decode cX6_changes 120 = .ok (.invokeinterface 69 2, 5) := by decide +kernel
theorem dX6_changes_125 : decode cX6_changes 125 = .ok (.pop, 1) := by decide +kernel
theorem dX6_changes_126 : decode cX6_changes 126 = .ok (.iinc 4 1, 3) := by decide +kernel
theorem dX6_changes_129 : decode cX6_changes 129 = .ok (.goto (-73), 3) := by decide +kernel
theorem dX6_changes_132 : decode cX6_changes 132 = .ok (.aload_n 3, 1) := by decide +kernel
theorem dX6_changes_133 : decode cX6_changes 133 = .ok (.areturn, 1) := by decide +kernel
theorem dX6_look_0 : decode cX6_look 0 = .ok (.aload_n 0, 1) := by decide +kernel
theorem dX6_look_1 : decode cX6_look 1 = .ok (.iconst 0, 1) := by decide +kernel
theorem dX6_look_2 : decode cX6_look 2 = .ok (.putfield 44, 3) := by decide +kernel
theorem dX6_look_5 : decode cX6_look 5 = .ok (.iconst 0, 1) := by decide +kernel
theorem dX6_look_6 : decode cX6_look 6 = .ok (.istore_n 2, 1) := by decide +kernel
theorem dX6_look_7 : decode cX6_look 7 = .ok (.iload_n 2, 1) := by decide +kernel
theorem dX6_look_8 : decode cX6_look 8 = .ok (.aload_n 1, 1) := by decide +kernel
theorem dX6_look_9 : decode cX6_look 9 = .ok (.invokevirtual 75, 3) := by decide +kernel
theorem dX6_look_12 : decode cX6_look 12 = .ok (.if_icmp .ge 77, 3) := by decide +kernel
theorem dX6_look_15 : decode cX6_look 15 = .ok (.aload_n 1, 1) := by decide +kernel
theorem dX6_look_16 : decode cX6_look 16 = .ok (.iload_n 2, 1) := by decide +kernel
theorem dX6_look_17 : decode cX6_look 17 = .ok (.invokevirtual 80, 3) := by decide +kernel
theorem dX6_look_20 : decode cX6_look 20 = .ok (.istore_n 3, 1) := by decide +kernel
theorem dX6_look_21 : decode cX6_look 21 = .ok (.aload_n 1, 1) := by decide +kernel
theorem dX6_look_22 : decode cX6_look 22 = .ok (.iload_n 3, 1) := by decide +kernel
theorem dX6_look_23 : decode cX6_look 23 = .ok (.invokevirtual 83, 3) := by decide +kernel
theorem dX6_look_26 : decode cX6_look 26 = .ok (.ifCond .eq 57, 3) := by decide +kernel
theorem dX6_look_29 : decode cX6_look 29 = .ok (.aload_n 0, 1) := by decide +kernel
theorem dX6_look_30 : decode cX6_look 30 = .ok (.getfield 44, 3) := by decide +kernel
theorem dX6_look_33 : decode cX6_look 33 = .ok (.sipush 150, 3) := by decide +kernel
theorem dX6_look_36 : decode cX6_look 36 = .ok (.if_icmp .ge 47, 3) := by decide +kernel
theorem dX6_look_39 : decode cX6_look 39 = .ok (.aload_n 0, 1) := by decide +kernel
theorem dX6_look_40 : decode cX6_look 40 = .ok (.getfield 9, 3) := by decide +kernel
theorem dX6_look_43 : decode cX6_look 43 = .ok (.aload_n 0, 1) := by decide +kernel
theorem dX6_look_44 : decode cX6_look 44 = .ok (.getfield 44, 3) := by decide +kernel
theorem dX6_look_47 : decode cX6_look 47 = .ok (.iload_n 3, 1) := by decide +kernel
theorem dX6_look_48 : decode cX6_look 48 = .ok (.iastore, 1) := by decide +kernel
theorem dX6_look_49 : decode cX6_look 49 = .ok (.aload_n 0, 1) := by decide +kernel
theorem dX6_look_50 : decode cX6_look 50 = .ok (.getfield 15, 3) := by decide +kernel
theorem dX6_look_53 : decode cX6_look 53 = .ok (.aload_n 0, 1) := by decide +kernel
theorem dX6_look_54 : decode cX6_look 54 = .ok (.getfield 44, 3) := by decide +kernel
theorem dX6_look_57 : decode cX6_look 57 = .ok (.aload_n 1, 1) := by decide +kernel
theorem dX6_look_58 : decode cX6_look 58 = .ok (.iload_n 3, 1) := by decide +kernel
theorem dX6_look_59 : decode cX6_look 59 = .ok (.invokevirtual 87, 3) := by decide +kernel
theorem dX6_look_62 : decode cX6_look 62 = .ok (.castore, 1) := by decide +kernel
theorem dX6_look_63 : decode cX6_look 63 = .ok (.aload_n 0, 1) := by decide +kernel
theorem dX6_look_64 : decode cX6_look 64 = .ok (.getfield 19, 3) := by decide +kernel
theorem dX6_look_67 : decode cX6_look 67 = .ok (.aload_n 0, 1) := by decide +kernel
theorem dX6_look_68 : decode cX6_look 68 = .ok (.getfield 44, 3) := by decide +kernel
theorem dX6_look_71 : decode cX6_look 71 = .ok (.iconst 0, 1) := by decide +kernel
theorem dX6_look_72 : decode cX6_look 72 = .ok (.castore, 1) := by decide +kernel
theorem dX6_look_73 : decode cX6_look 73 = .ok (.aload_n 0, 1) := by decide +kernel
theorem dX6_look_74 : decode cX6_look 74 = .ok (.dup, 1) := by decide +kernel
theorem dX6_look_75 : decode cX6_look 75 = .ok (.getfield 44, 3) := by decide +kernel
theorem dX6_look_78 : decode cX6_look 78 = .ok (.iconst 1, 1) := by decide +kernel
theorem dX6_look_79 : decode cX6_look 79 = .ok (.iadd, 1) := by decide +kernel
theorem dX6_look_80 : decode cX6_look 80 = .ok (.putfield 44, 3) := by decide +kernel
theorem dX6_look_83 : decode cX6_look 83 = .ok (.iinc 2 1, 3) := by decide +kernel
theorem dX6_look_86 : decode cX6_look 86 = .ok (.goto (-79), 3) := by decide +kernel
theorem dX6_look_89 : decode cX6_look 89 = .ok (.return_, 1) := by decide +kernel
theorem dX6_wantSingleSpaces_0 : decode cX6_wantSingleSpaces 0 = .ok (.iconst 1, 1) := by decide +kernel
theorem dX6_wantSingleSpaces_1 : decode cX6_wantSingleSpaces 1 = .ok (.istore_n 1, 1) := by decide +kernel
theorem dX6_wantSingleSpaces_2 : decode cX6_wantSingleSpaces 2 = .ok (.iload_n 1, 1) := by decide +kernel
theorem dX6_wantSingleSpaces_3 : decode cX6_wantSingleSpaces 3 = .ok (.aload_n 0, 1) := by decide +kernel
theorem dX6_wantSingleSpaces_4 : decode cX6_wantSingleSpaces 4 = .ok (.getfield 44, 3) := by decide +kernel
theorem dX6_wantSingleSpaces_7 : decode cX6_wantSingleSpaces 7 = .ok (.if_icmp .ge 40, 3) := by decide +kernel
theorem dX6_wantSingleSpaces_10 : decode cX6_wantSingleSpaces 10 = .ok (.aload_n 0, 1) := by decide +kernel
theorem dX6_wantSingleSpaces_11 : decode cX6_wantSingleSpaces 11 = .ok (.getfield 15, 3) := by decide +kernel
theorem dX6_wantSingleSpaces_14 : decode cX6_wantSingleSpaces 14 = .ok (.iload_n 1, 1) := by decide +kernel
theorem dX6_wantSingleSpaces_15 : decode cX6_wantSingleSpaces 15 = .ok (.caload, 1) := by decide +kernel
theorem dX6_wantSingleSpaces_16 : decode cX6_wantSingleSpaces 16 = .ok (.bipush 32, 2) := by decide +kernel
theorem dX6_wantSingleSpaces_18 : decode cX6_wantSingleSpaces 18 = .ok (.if_icmp .ne 23, 3) := by decide +kernel
theorem dX6_wantSingleSpaces_21 : decode cX6_wantSingleSpaces 21 = .ok (.aload_n 0, 1) := by decide +kernel
theorem dX6_wantSingleSpaces_22 : decode cX6_wantSingleSpaces 22 = .ok (.getfield 15, 3) := by decide +kernel
theorem dX6_wantSingleSpaces_25 : decode cX6_wantSingleSpaces 25 = .ok (.iload_n 1, 1) := by decide +kernel
theorem dX6_wantSingleSpaces_26 : decode cX6_wantSingleSpaces 26 = .ok (.iconst 1, 1) := by decide +kernel
theorem dX6_wantSingleSpaces_27 : decode cX6_wantSingleSpaces 27 = .ok (.isub, 1) := by decide +kernel
theorem dX6_wantSingleSpaces_28 : decode cX6_wantSingleSpaces 28 = .ok (.caload, 1) := by decide +kernel
theorem dX6_wantSingleSpaces_29 : decode cX6_wantSingleSpaces 29 = .ok (.bipush 32, 2) := by decide +kernel
theorem dX6_wantSingleSpaces_31 : decode cX6_wantSingleSpaces 31 = .ok (.if_icmp .ne 10, 3) := by decide +kernel
theorem dX6_wantSingleSpaces_34 : decode cX6_wantSingleSpaces 34 = .ok (.aload_n 0, 1) := by decide +kernel
theorem dX6_wantSingleSpaces_35 : decode cX6_wantSingleSpaces 35 = .ok (.getfield 19, 3) := by decide +kernel
theorem dX6_wantSingleSpaces_38 : decode cX6_wantSingleSpaces 38 = .ok (.iload_n 1, 1) := by decide +kernel
theorem dX6_wantSingleSpaces_39 : decode cX6_wantSingleSpaces 39 = .ok (.iconst 1, 1) := by decide +kernel
theorem dX6_wantSingleSpaces_40 : decode cX6_wantSingleSpaces 40 = .ok (.castore, 1) := by decide +kernel
theorem dX6_wantSingleSpaces_41 : decode cX6_wantSingleSpaces 41 = .ok (.iinc 1 1, 3) := by decide +kernel
theorem dX6_wantSingleSpaces_44 : decode cX6_wantSingleSpaces 44 = .ok (.goto (-42), 3) := by decide +kernel
theorem dX6_wantSingleSpaces_47 : decode cX6_wantSingleSpaces 47 = .ok (.return_, 1) := by decide +kernel
theorem dX6_wantBareEnds_0 : decode cX6_wantBareEnds 0 = .ok (.iconst 1, 1) := by decide +kernel
theorem dX6_wantBareEnds_1 : decode cX6_wantBareEnds 1 = .ok (.istore_n 1, 1) := by decide +kernel
theorem dX6_wantBareEnds_2 : decode cX6_wantBareEnds 2 = .ok (.aload_n 0, 1) := by decide +kernel
theorem dX6_wantBareEnds_3 : decode cX6_wantBareEnds 3 = .ok (.getfield 44, 3) := by decide +kernel
theorem dX6_wantBareEnds_6 : decode cX6_wantBareEnds 6 = .ok (.iconst 1, 1) := by decide +kernel
theorem dX6_wantBareEnds_7 : decode cX6_wantBareEnds 7 = .ok (.isub, 1) := by decide +kernel
theorem dX6_wantBareEnds_8 : decode cX6_wantBareEnds 8 = .ok (.istore_n 2, 1) := by decide +kernel
theorem dX6_wantBareEnds_9 : decode cX6_wantBareEnds 9 = .ok (.iload_n 2, 1) := by decide +kernel
theorem dX6_wantBareEnds_10 : decode cX6_wantBareEnds 10 = .ok (.ifCond .lt 51, 3) := by decide +kernel
theorem dX6_wantBareEnds_13 : decode cX6_wantBareEnds 13 = .ok (.aload_n 0, 1) := by decide +kernel
theorem dX6_wantBareEnds_14 : decode cX6_wantBareEnds 14 = .ok (.getfield 15, 3) := by decide +kernel
theorem dX6_wantBareEnds_17 : decode cX6_wantBareEnds 17 = .ok (.iload_n 2, 1) := by decide +kernel
theorem dX6_wantBareEnds_18 : decode cX6_wantBareEnds 18 = .ok (.caload, 1) := by decide +kernel
theorem dX6_wantBareEnds_19 : decode cX6_wantBareEnds 19 = .ok (.bipush 32, 2) := by decide +kernel
theorem dX6_wantBareEnds_21 : decode cX6_wantBareEnds 21 = .ok (.if_icmp .eq 23, 3) := by decide +kernel
theorem dX6_wantBareEnds_24 : decode cX6_wantBareEnds 24 = .ok (.aload_n 0, 1) := by decide +kernel
theorem dX6_wantBareEnds_25 : decode cX6_wantBareEnds 25 = .ok (.getfield 15, 3) := by decide +kernel
theorem dX6_wantBareEnds_28 : decode cX6_wantBareEnds 28 = .ok (.iload_n 2, 1) := by decide +kernel
theorem dX6_wantBareEnds_29 : decode cX6_wantBareEnds 29 = .ok (.caload, 1) := by decide +kernel
theorem dX6_wantBareEnds_30 : decode cX6_wantBareEnds 30 = .ok (.bipush 47, 2) := by decide +kernel
theorem dX6_wantBareEnds_32 : decode cX6_wantBareEnds 32 = .ok (.if_icmp .ne 7, 3) := by decide +kernel
theorem dX6_wantBareEnds_35 : decode cX6_wantBareEnds 35 = .ok (.iconst 1, 1) := by decide +kernel
theorem dX6_wantBareEnds_36 : decode cX6_wantBareEnds 36 = .ok (.goto 4, 3) := by decide +kernel
theorem dX6_wantBareEnds_39 : decode cX6_wantBareEnds 39 = .ok (.iconst 0, 1) := by decide +kernel
theorem dX6_wantBareEnds_40 : decode cX6_wantBareEnds 40 = .ok (.istore_n 1, 1) := by decide +kernel
theorem dX6_wantBareEnds_41 : decode cX6_wantBareEnds 41 = .ok (.goto 14, 3) := by decide +kernel
theorem dX6_wantBareEnds_44 : decode cX6_wantBareEnds 44 = .ok (.iload_n 1, 1) := by decide +kernel
theorem dX6_wantBareEnds_45 : decode cX6_wantBareEnds 45 = .ok (.ifCond .eq 10, 3) := by decide +kernel
theorem dX6_wantBareEnds_48 : decode cX6_wantBareEnds 48 = .ok (.aload_n 0, 1) := by decide +kernel
theorem dX6_wantBareEnds_49 : decode cX6_wantBareEnds 49 = .ok (.getfield 19, 3) := by decide +kernel
theorem dX6_wantBareEnds_52 : decode cX6_wantBareEnds 52 = .ok (.iload_n 2, 1) := by decide +kernel
theorem dX6_wantBareEnds_53 : decode cX6_wantBareEnds 53 = .ok (.iconst 1, 1) := by decide +kernel
theorem dX6_wantBareEnds_54 : decode cX6_wantBareEnds 54 = .ok (.castore, 1) := by decide +kernel
theorem dX6_wantBareEnds_55 : decode cX6_wantBareEnds 55 = .ok (.iinc 2 (-1), 3) := by decide +kernel
theorem dX6_wantBareEnds_58 : decode cX6_wantBareEnds 58 = .ok (.goto (-49), 3) := by decide +kernel
theorem dX6_wantBareEnds_61 : decode cX6_wantBareEnds 61 = .ok (.return_, 1) := by decide +kernel
theorem dX6_wantCapitals_0 : decode cX6_wantCapitals 0 = .ok (.iconst 1, 1) := by decide +kernel
theorem dX6_wantCapitals_1 : decode cX6_wantCapitals 1 = .ok (.istore_n 1, 1) := by decide +kernel
theorem dX6_wantCapitals_2 : decode cX6_wantCapitals 2 = .ok (.iconst 0, 1) := by decide +kernel
theorem dX6_wantCapitals_3 : decode cX6_wantCapitals 3 = .ok (.istore_n 2, 1) := by decide +kernel
theorem dX6_wantCapitals_4 : decode cX6_wantCapitals 4 = .ok (.iload_n 2, 1) := by decide +kernel
theorem dX6_wantCapitals_5 : decode cX6_wantCapitals 5 = .ok (.aload_n 0, 1) := by decide +kernel
theorem dX6_wantCapitals_6 : decode cX6_wantCapitals 6 = .ok (.getfield 44, 3) := by decide +kernel
theorem dX6_wantCapitals_9 : decode cX6_wantCapitals 9 = .ok (.if_icmp .ge 71, 3) := by decide +kernel
theorem dX6_wantCapitals_12 : decode cX6_wantCapitals 12 = .ok (.iload_n 1, 1) := by decide +kernel
theorem dX6_wantCapitals_13 : decode cX6_wantCapitals 13 = .ok (.ifCond .eq 44, 3) := by decide +kernel
theorem dX6_wantCapitals_16 : decode cX6_wantCapitals 16 = .ok (.aload_n 0, 1) := by decide +kernel
theorem dX6_wantCapitals_17 : decode cX6_wantCapitals 17 = .ok (.getfield 15, 3) := by decide +kernel
theorem dX6_wantCapitals_20 : decode cX6_wantCapitals 20 = .ok (.iload_n 2, 1) := by decide +kernel
theorem dX6_wantCapitals_21 : decode cX6_wantCapitals 21 = .ok (.caload, 1) := by decide +kernel
theorem dX6_wantCapitals_22 : decode cX6_wantCapitals 22 = .ok (.bipush 97, 2) := by decide +kernel
theorem dX6_wantCapitals_24 : decode cX6_wantCapitals 24 = .ok (.if_icmp .lt 33, 3) := by decide +kernel
theorem dX6_wantCapitals_27 : decode cX6_wantCapitals 27 = .ok (.aload_n 0, 1) := by decide +kernel
theorem dX6_wantCapitals_28 : decode cX6_wantCapitals 28 = .ok (.getfield 15, 3) := by decide +kernel
theorem dX6_wantCapitals_31 : decode cX6_wantCapitals 31 = .ok (.iload_n 2, 1) := by decide +kernel
theorem dX6_wantCapitals_32 : decode cX6_wantCapitals 32 = .ok (.caload, 1) := by decide +kernel
theorem dX6_wantCapitals_33 : decode cX6_wantCapitals 33 = .ok (.bipush 122, 2) := by decide +kernel
theorem dX6_wantCapitals_35 : decode cX6_wantCapitals 35 = .ok (.if_icmp .gt 22, 3) := by decide +kernel
theorem dX6_wantCapitals_38 : decode cX6_wantCapitals 38 = .ok (.aload_n 0, 1) := by decide +kernel
theorem dX6_wantCapitals_39 : decode cX6_wantCapitals 39 = .ok (.getfield 19, 3) := by decide +kernel
theorem dX6_wantCapitals_42 : decode cX6_wantCapitals 42 = .ok (.iload_n 2, 1) := by decide +kernel
theorem dX6_wantCapitals_43 : decode cX6_wantCapitals 43 = .ok (.aload_n 0, 1) := by decide +kernel
theorem dX6_wantCapitals_44 : decode cX6_wantCapitals 44 = .ok (.getfield 15, 3) := by decide +kernel
theorem dX6_wantCapitals_47 : decode cX6_wantCapitals 47 = .ok (.iload_n 2, 1) := by decide +kernel
theorem dX6_wantCapitals_48 : decode cX6_wantCapitals 48 = .ok (.caload, 1) := by decide +kernel
theorem dX6_wantCapitals_49 : decode cX6_wantCapitals 49 = .ok (.bipush 97, 2) := by decide +kernel
theorem dX6_wantCapitals_51 : decode cX6_wantCapitals 51 = .ok (.isub, 1) := by decide +kernel
theorem dX6_wantCapitals_52 : decode cX6_wantCapitals 52 = .ok (.bipush 65, 2) := by decide +kernel
theorem dX6_wantCapitals_54 : decode cX6_wantCapitals 54 = .ok (.iadd, 1) := by decide +kernel
theorem dX6_wantCapitals_55 : decode cX6_wantCapitals 55 = .ok (.i2c, 1) := by decide +kernel
theorem dX6_wantCapitals_56 : decode cX6_wantCapitals 56 = .ok (.castore, 1) := by decide +kernel
theorem dX6_wantCapitals_57 : decode cX6_wantCapitals 57 = .ok (.aload_n 0, 1) := by decide +kernel
theorem dX6_wantCapitals_58 : decode cX6_wantCapitals 58 = .ok (.getfield 15, 3) := by decide +kernel
theorem dX6_wantCapitals_61 : decode cX6_wantCapitals 61 = .ok (.iload_n 2, 1) := by decide +kernel
theorem dX6_wantCapitals_62 : decode cX6_wantCapitals 62 = .ok (.caload, 1) := by decide +kernel
theorem dX6_wantCapitals_63 : decode cX6_wantCapitals 63 = .ok (.bipush 47, 2) := by decide +kernel
theorem dX6_wantCapitals_65 : decode cX6_wantCapitals 65 = .ok (.if_icmp .ne 7, 3) := by decide +kernel
theorem dX6_wantCapitals_68 : decode cX6_wantCapitals 68 = .ok (.iconst 1, 1) := by decide +kernel
theorem dX6_wantCapitals_69 : decode cX6_wantCapitals 69 = .ok (.goto 4, 3) := by decide +kernel
theorem dX6_wantCapitals_72 : decode cX6_wantCapitals 72 = .ok (.iconst 0, 1) := by decide +kernel
theorem dX6_wantCapitals_73 : decode cX6_wantCapitals 73 = .ok (.istore_n 1, 1) := by decide +kernel
theorem dX6_wantCapitals_74 : decode cX6_wantCapitals 74 = .ok (.iinc 2 1, 3) := by decide +kernel
theorem dX6_wantCapitals_77 : decode cX6_wantCapitals 77 = .ok (.goto (-73), 3) := by decide +kernel
theorem dX6_wantCapitals_80 : decode cX6_wantCapitals 80 = .ok (.return_, 1) := by decide +kernel
theorem dX6_wantWrapped_0 : decode cX6_wantWrapped 0 = .ok (.iconst 0, 1) := by decide +kernel
theorem dX6_wantWrapped_1 : decode cX6_wantWrapped 1 = .ok (.istore_n 2, 1) := by decide +kernel
theorem dX6_wantWrapped_2 : decode cX6_wantWrapped 2 = .ok (.iconst (-1), 1) := by decide +kernel
theorem dX6_wantWrapped_3 : decode cX6_wantWrapped 3 = .ok (.istore_n 3, 1) := by decide +kernel
theorem dX6_wantWrapped_4 : decode cX6_wantWrapped 4 = .ok (.iconst 0, 1) := by decide +kernel
theorem dX6_wantWrapped_5 : decode cX6_wantWrapped 5 = .ok (.istore 4, 2) := by decide +kernel
theorem dX6_wantWrapped_7 : decode cX6_wantWrapped 7 = .ok (.iload 4, 2) := by decide +kernel
theorem dX6_wantWrapped_9 : decode cX6_wantWrapped 9 = .ok (.aload_n 0, 1) := by decide +kernel
theorem dX6_wantWrapped_10 : decode cX6_wantWrapped 10 = .ok (.getfield 44, 3) := by decide +kernel
theorem dX6_wantWrapped_13 : decode cX6_wantWrapped 13 = .ok (.if_icmp .ge 72, 3) := by decide +kernel
theorem dX6_wantWrapped_16 : decode cX6_wantWrapped 16 = .ok (.aload_n 0, 1) := by decide +kernel
theorem dX6_wantWrapped_17 : decode cX6_wantWrapped 17 = .ok (.getfield 15, 3) := by decide +kernel
theorem dX6_wantWrapped_20 : decode cX6_wantWrapped 20 = .ok (.iload 4, 2) := by decide +kernel
theorem dX6_wantWrapped_22 : decode cX6_wantWrapped 22 = .ok (.caload, 1) := by decide +kernel
theorem dX6_wantWrapped_23 : decode cX6_wantWrapped 23 = .ok (.bipush 47, 2) := by decide +kernel
theorem dX6_wantWrapped_25 : decode cX6_wantWrapped 25 = .ok (.if_icmp .ne 13, 3) := by decide +kernel
theorem dX6_wantWrapped_28 : decode cX6_wantWrapped 28 = .ok (.iload 4, 2) := by decide +kernel
theorem dX6_wantWrapped_30 : decode cX6_wantWrapped 30 = .ok (.iconst 1, 1) := by decide +kernel
theorem dX6_wantWrapped_31 : decode cX6_wantWrapped 31 = .ok (.iadd, 1) := by decide +kernel
theorem dX6_wantWrapped_32 : decode cX6_wantWrapped 32 = .ok (.istore_n 2, 1) := by decide +kernel
theorem dX6_wantWrapped_33 : decode cX6_wantWrapped 33 = .ok (.iconst (-1), 1) := by decide +kernel
theorem dX6_wantWrapped_34 : decode cX6_wantWrapped 34 = .ok (.istore_n 3, 1) := by decide +kernel
theorem dX6_wantWrapped_35 : decode cX6_wantWrapped 35 = .ok (.goto 44, 3) := by decide +kernel
theorem dX6_wantWrapped_38 : decode cX6_wantWrapped 38 = .ok (.aload_n 0, 1) := by decide +kernel
theorem dX6_wantWrapped_39 : decode cX6_wantWrapped 39 = .ok (.getfield 15, 3) := by decide +kernel
theorem dX6_wantWrapped_42 : decode cX6_wantWrapped 42 = .ok (.iload 4, 2) := by decide +kernel
theorem dX6_wantWrapped_44 : decode cX6_wantWrapped 44 = .ok (.caload, 1) := by decide +kernel
theorem dX6_wantWrapped_45 : decode cX6_wantWrapped 45 = .ok (.bipush 32, 2) := by decide +kernel
theorem dX6_wantWrapped_47 : decode cX6_wantWrapped 47 = .ok (.if_icmp .ne 6, 3) := by decide +kernel
theorem dX6_wantWrapped_50 : decode cX6_wantWrapped 50 = .ok (.iload 4, 2) := by decide +kernel
theorem dX6_wantWrapped_52 : decode cX6_wantWrapped 52 = .ok (.istore_n 3, 1) := by decide +kernel
theorem dX6_wantWrapped_53 : decode cX6_wantWrapped 53 = .ok (.iload 4, 2) := by decide +kernel
theorem dX6_wantWrapped_55 : decode cX6_wantWrapped 55 = .ok (.iload_n 2, 1) := by decide +kernel
theorem dX6_wantWrapped_56 : decode cX6_wantWrapped 56 = .ok (.isub, 1) := by decide +kernel
theorem dX6_wantWrapped_57 : decode cX6_wantWrapped 57 = .ok (.iload_n 1, 1) := by decide +kernel
theorem dX6_wantWrapped_58 : decode cX6_wantWrapped 58 = .ok (.if_icmp .ne 21, 3) := by decide +kernel
theorem dX6_wantWrapped_61 : decode cX6_wantWrapped 61 = .ok (.iload_n 3, 1) := by decide +kernel
theorem dX6_wantWrapped_62 : decode cX6_wantWrapped 62 = .ok (.ifCond .lt 17, 3) := by decide +kernel
theorem dX6_wantWrapped_65 : decode cX6_wantWrapped 65 = .ok (.aload_n 0, 1) := by decide +kernel
theorem dX6_wantWrapped_66 : decode cX6_wantWrapped 66 = .ok (.getfield 19, 3) := by decide +kernel
theorem dX6_wantWrapped_69 : decode cX6_wantWrapped 69 = .ok (.iload_n 3, 1) := by decide +kernel
theorem dX6_wantWrapped_70 : decode cX6_wantWrapped 70 = .ok (.bipush 47, 2) := by decide +kernel
theorem dX6_wantWrapped_72 : decode cX6_wantWrapped 72 = .ok (.castore, 1) := by decide +kernel
theorem dX6_wantWrapped_73 : decode cX6_wantWrapped 73 = .ok (.iload_n 3, 1) := by decide +kernel
theorem dX6_wantWrapped_74 : decode cX6_wantWrapped 74 = .ok (.iconst 1, 1) := by decide +kernel
theorem dX6_wantWrapped_75 : decode cX6_wantWrapped 75 = .ok (.iadd, 1) := by decide +kernel
theorem dX6_wantWrapped_76 : decode cX6_wantWrapped 76 = .ok (.istore_n 2, 1) := by decide +kernel
theorem dX6_wantWrapped_77 : decode cX6_wantWrapped 77 = .ok (.iconst (-1), 1) := by decide +kernel
theorem dX6_wantWrapped_78 : decode cX6_wantWrapped 78 = .ok (.istore_n 3, 1) := by decide +kernel
theorem dX6_wantWrapped_79 : decode cX6_wantWrapped 79 = .ok (.iinc 4 1, 3) := by decide +kernel
theorem dX6_wantWrapped_82 : decode cX6_wantWrapped 82 = .ok (.goto (-75), 3) := by decide +kernel
theorem dX6_wantWrapped_85 : decode cX6_wantWrapped 85 = .ok (.return_, 1) := by decide +kernel
theorem dX7_init_0 : decode cX7_init 0 = .ok (.aload_n 0, 1) := by decide +kernel
theorem dX7_init_1 : decode cX7_init 1 = .ok (.invokespecial 3, 3) := by decide +kernel
theorem dX7_init_4 : decode cX7_init 4 = .ok (.aload_n 0, 1) := by decide +kernel
theorem dX7_init_5 : decode cX7_init 5 = .ok (.sipush 150, 3) := by decide +kernel
theorem dX7_init_8 : decode cX7_init 8 = .ok (.newarray .int, 2) := by decide +kernel
theorem dX7_init_10 : decode cX7_init 10 = .ok (.putfield 9, 3) := by decide +kernel
theorem dX7_init_13 : decode cX7_init 13 = .ok (.aload_n 0, 1) := by decide +kernel
theorem dX7_init_14 : decode cX7_init 14 = .ok (.sipush 150, 3) := by decide +kernel
theorem dX7_init_17 : decode cX7_init 17 = .ok (.newarray .char, 2) := by decide +kernel
theorem dX7_init_19 : decode cX7_init 19 = .ok (.putfield 15, 3) := by decide +kernel
theorem dX7_init_22 : decode cX7_init 22 = .ok (.aload_n 0, 1) := by decide +kernel
theorem dX7_init_23 : decode cX7_init 23 = .ok (.sipush 150, 3) := by decide +kernel
theorem dX7_init_26 : decode cX7_init 26 = .ok (.newarray .boolean, 2) := by decide +kernel
theorem dX7_init_28 : decode cX7_init 28 = .ok (.putfield 19, 3) := by decide +kernel
theorem dX7_init_31 : decode cX7_init 31 = .ok (.return_, 1) := by decide +kernel
theorem dX7_empty_0 : decode cX7_empty 0 = .ok (.aload_n 0, 1) := by decide +kernel
theorem dX7_empty_1 : decode cX7_empty 1 = .ok (.iconst 0, 1) := by decide +kernel
theorem dX7_empty_2 : decode cX7_empty 2 = .ok (.putfield 23, 3) := by decide +kernel
theorem dX7_empty_5 : decode cX7_empty 5 = .ok (.return_, 1) := by decide +kernel
theorem dX7_count_0 : decode cX7_count 0 = .ok (.aload_n 0, 1) := by decide +kernel
theorem dX7_count_1 : decode cX7_count 1 = .ok (.getfield 23, 3) := by decide +kernel
theorem dX7_count_4 : decode cX7_count 4 = .ok (.ireturn, 1) := by decide +kernel
theorem dX7_isFull_0 : decode cX7_isFull 0 = .ok (.aload_n 0, 1) := by decide +kernel
theorem dX7_isFull_1 : decode cX7_isFull 1 = .ok (.getfield 23, 3) := by decide +kernel
theorem dX7_isFull_4 : decode cX7_isFull 4 = .ok (.sipush 150, 3) := by decide +kernel
theorem dX7_isFull_7 : decode cX7_isFull 7 = .ok (.if_icmp .lt 7, 3) := by decide +kernel
theorem dX7_isFull_10 : decode cX7_isFull 10 = .ok (.iconst 1, 1) := by decide +kernel
theorem dX7_isFull_11 : decode cX7_isFull 11 = .ok (.goto 4, 3) := by decide +kernel
theorem dX7_isFull_14 : decode cX7_isFull 14 = .ok (.iconst 0, 1) := by decide +kernel
theorem dX7_isFull_15 : decode cX7_isFull 15 = .ok (.ireturn, 1) := by decide +kernel
theorem dX7_has_0 : decode cX7_has 0 = .ok (.iload_n 1, 1) := by decide +kernel
theorem dX7_has_1 : decode cX7_has 1 = .ok (.ifCond .lt 15, 3) := by decide +kernel
theorem dX7_has_4 : decode cX7_has 4 = .ok (.iload_n 1, 1) := by decide +kernel
theorem dX7_has_5 : decode cX7_has 5 = .ok (.aload_n 0, 1) := by decide +kernel
theorem dX7_has_6 : decode cX7_has 6 = .ok (.getfield 23, 3) := by decide +kernel
theorem dX7_has_9 : decode cX7_has 9 = .ok (.if_icmp .ge 7, 3) := by decide +kernel
theorem dX7_has_12 : decode cX7_has 12 = .ok (.iconst 1, 1) := by decide +kernel
theorem dX7_has_13 : decode cX7_has 13 = .ok (.goto 4, 3) := by decide +kernel
theorem dX7_has_16 : decode cX7_has 16 = .ok (.iconst 0, 1) := by decide +kernel
theorem dX7_has_17 : decode cX7_has 17 = .ok (.ireturn, 1) := by decide +kernel
theorem dX7_shows_0 : decode cX7_shows 0 = .ok (.aload_n 0, 1) := by decide +kernel
theorem dX7_shows_1 : decode cX7_shows 1 = .ok (.iload_n 1, 1) := by decide +kernel
theorem dX7_shows_2 : decode cX7_shows 2 = .ok (.invokevirtual 27, 3) := by decide +kernel
theorem dX7_shows_5 : decode cX7_shows 5 = .ok (.ifCond .eq 16, 3) := by decide +kernel
theorem dX7_shows_8 : decode cX7_shows 8 = .ok (.aload_n 0, 1) := by decide +kernel
theorem dX7_shows_9 : decode cX7_shows 9 = .ok (.getfield 19, 3) := by decide +kernel
theorem dX7_shows_12 : decode cX7_shows 12 = .ok (.iload_n 1, 1) := by decide +kernel
theorem dX7_shows_13 : decode cX7_shows 13 = .ok (.baload, 1) := by decide +kernel
theorem dX7_shows_14 : decode cX7_shows 14 = .ok (.ifCond .eq 7, 3) := by decide +kernel
theorem dX7_shows_17 : decode cX7_shows 17 = .ok (.iconst 1, 1) := by decide +kernel
theorem dX7_shows_18 : decode cX7_shows 18 = .ok (.goto 4, 3) := by decide +kernel
theorem dX7_shows_21 : decode cX7_shows 21 = .ok (.iconst 0, 1) := by decide +kernel
theorem dX7_shows_22 : decode cX7_shows 22 = .ok (.ireturn, 1) := by decide +kernel
theorem dX7_signOf_0 : decode cX7_signOf 0 = .ok (.aload_n 0, 1) := by decide +kernel
theorem dX7_signOf_1 : decode cX7_signOf 1 = .ok (.iload_n 1, 1) := by decide +kernel
theorem dX7_signOf_2 : decode cX7_signOf 2 = .ok (.invokevirtual 27, 3) := by decide +kernel
theorem dX7_signOf_5 : decode cX7_signOf 5 = .ok (.ifCond .eq 12, 3) := by decide +kernel
theorem dX7_signOf_8 : decode cX7_signOf 8 = .ok (.aload_n 0, 1) := by decide +kernel
theorem dX7_signOf_9 : decode cX7_signOf 9 = .ok (.getfield 15, 3) := by decide +kernel
theorem dX7_signOf_12 : decode cX7_signOf 12 = .ok (.iload_n 1, 1) := by decide +kernel
theorem dX7_signOf_13 : decode cX7_signOf 13 = .ok (.caload, 1) := by decide +kernel
theorem dX7_signOf_14 : decode cX7_signOf 14 = .ok (.goto 4, 3) := by decide +kernel
theorem dX7_signOf_17 : decode cX7_signOf 17 = .ok (.iconst 0, 1) := by decide +kernel
theorem dX7_signOf_18 : decode cX7_signOf 18 = .ok (.ireturn, 1) := by decide +kernel
theorem dX7_letterAt_0 : decode cX7_letterAt 0 = .ok (.iload_n 1, 1) := by decide +kernel
theorem dX7_letterAt_1 : decode cX7_letterAt 1 = .ok (.ifCond .lt 20, 3) := by decide +kernel
theorem dX7_letterAt_4 : decode cX7_letterAt 4 = .ok (.iload_n 1, 1) := by decide +kernel
theorem dX7_letterAt_5 : decode cX7_letterAt 5 = .ok (.aload_n 0, 1) := by decide +kernel
theorem dX7_letterAt_6 : decode cX7_letterAt 6 = .ok (.getfield 23, 3) := by decide +kernel
theorem dX7_letterAt_9 : decode cX7_letterAt 9 = .ok (.if_icmp .ge 12, 3) := by decide +kernel
theorem dX7_letterAt_12 : decode cX7_letterAt 12 = .ok (.aload_n 0, 1) := by decide +kernel
theorem dX7_letterAt_13 : decode cX7_letterAt 13 = .ok (.getfield 9, 3) := by decide +kernel
theorem dX7_letterAt_16 : decode cX7_letterAt 16 = .ok (.iload_n 1, 1) := by decide +kernel
theorem dX7_letterAt_17 : decode cX7_letterAt 17 = .ok (.iaload, 1) := by decide +kernel
theorem dX7_letterAt_18 : decode cX7_letterAt 18 = .ok (.goto 4, 3) := by decide +kernel
theorem dX7_letterAt_21 : decode cX7_letterAt 21 = .ok (.iconst (-1), 1) := by decide +kernel
theorem dX7_letterAt_22 : decode cX7_letterAt 22 = .ok (.ireturn, 1) := by decide +kernel
theorem dX7_spotOf_0 : decode cX7_spotOf 0 = .ok (.iconst 0, 1) := by decide +kernel
theorem dX7_spotOf_1 : decode cX7_spotOf 1 = .ok (.istore_n 2, 1) := by decide +kernel
theorem dX7_spotOf_2 : decode cX7_spotOf 2 = .ok (.iload_n 2, 1) := by decide +kernel
theorem dX7_spotOf_3 : decode cX7_spotOf 3 = .ok (.aload_n 0, 1) := by decide +kernel
theorem dX7_spotOf_4 : decode cX7_spotOf 4 = .ok (.getfield 23, 3) := by decide +kernel
theorem dX7_spotOf_7 : decode cX7_spotOf 7 = .ok (.if_icmp .ge 21, 3) := by decide +kernel
theorem dX7_spotOf_10 : decode cX7_spotOf 10 = .ok (.aload_n 0, 1) := by decide +kernel
theorem dX7_spotOf_11 : decode cX7_spotOf 11 = .ok (.getfield 9, 3) := by decide +kernel
theorem dX7_spotOf_14 : decode cX7_spotOf 14 = .ok (.iload_n 2, 1) := by decide +kernel
theorem dX7_spotOf_15 : decode cX7_spotOf 15 = .ok (.iaload, 1) := by decide +kernel
theorem dX7_spotOf_16 : decode cX7_spotOf 16 = .ok (.iload_n 1, 1) := by decide +kernel
theorem dX7_spotOf_17 : decode cX7_spotOf 17 = .ok (.if_icmp .ne 5, 3) := by decide +kernel
theorem dX7_spotOf_20 : decode cX7_spotOf 20 = .ok (.iload_n 2, 1) := by decide +kernel
theorem dX7_spotOf_21 : decode cX7_spotOf 21 = .ok (.ireturn, 1) := by decide +kernel
theorem dX7_spotOf_22 : decode cX7_spotOf 22 = .ok (.iinc 2 1, 3) := by decide +kernel
theorem dX7_spotOf_25 : decode cX7_spotOf 25 = .ok (.goto (-23), 3) := by decide +kernel
theorem dX7_spotOf_28 : decode cX7_spotOf 28 = .ok (.aload_n 0, 1) := by decide +kernel
theorem dX7_spotOf_29 : decode cX7_spotOf 29 = .ok (.getfield 23, 3) := by decide +kernel
theorem dX7_spotOf_32 : decode cX7_spotOf 32 = .ok (.ireturn, 1) := by decide +kernel
theorem dX7_nearestShownAhead_0 : decode cX7_nearestShownAhead 0 = .ok (.iload_n 1, 1) := by decide +kernel
theorem dX7_nearestShownAhead_1 : decode cX7_nearestShownAhead 1 = .ok (.iconst 1, 1) := by decide +kernel
theorem dX7_nearestShownAhead_2 : decode cX7_nearestShownAhead 2 = .ok (.isub, 1) := by decide +kernel
theorem dX7_nearestShownAhead_3 : decode cX7_nearestShownAhead 3 = .ok (.istore_n 2, 1) := by decide +kernel
theorem dX7_nearestShownAhead_4 : decode cX7_nearestShownAhead 4 = .ok (.iload_n 2, 1) := by decide +kernel
theorem dX7_nearestShownAhead_5 : decode cX7_nearestShownAhead 5 = .ok (.ifCond .lt 27, 3) := by decide +kernel
theorem dX7_nearestShownAhead_8 : decode cX7_nearestShownAhead 8 = .ok (.aload_n 0, 1) := by decide +kernel
theorem dX7_nearestShownAhead_9 : decode cX7_nearestShownAhead 9 = .ok (.aload_n 0, 1) := by decide +kernel
theorem dX7_nearestShownAhead_10 : decode cX7_nearestShownAhead 10 = .ok (.iload_n 2, 1) := by decide +kernel
theorem dX7_nearestShownAhead_11 : decode cX7_nearestShownAhead 11 = .ok (.invokevirtual 31, 3) := by decide +kernel
theorem dX7_nearestShownAhead_14 : decode cX7_nearestShownAhead 14 = .ok (.invokevirtual 35, 3) := by decide +kernel
theorem dX7_nearestShownAhead_17 : decode cX7_nearestShownAhead 17 = .ok (.ifCond .eq 9, 3) := by decide +kernel
theorem dX7_nearestShownAhead_20 : decode cX7_nearestShownAhead 20 = .ok (.aload_n 0, 1) := by decide +kernel
theorem dX7_nearestShownAhead_21 : decode cX7_nearestShownAhead 21 = .ok (.iload_n 2, 1) := by decide +kernel
theorem dX7_nearestShownAhead_22 : decode cX7_nearestShownAhead 22 = .ok (.invokevirtual 31, 3) := by decide +kernel
theorem dX7_nearestShownAhead_25 : decode cX7_nearestShownAhead 25 = .ok (.ireturn, 1) := by decide +kernel
theorem dX7_nearestShownAhead_26 : decode cX7_nearestShownAhead 26 = .ok (.iinc 2 (-1), 3) := by decide +kernel
theorem dX7_nearestShownAhead_29 : decode cX7_nearestShownAhead 29 = .ok (.goto (-25), 3) := by decide +kernel
theorem dX7_nearestShownAhead_32 : decode cX7_nearestShownAhead 32 = .ok (.iconst (-1), 1) := by decide +kernel
theorem dX7_nearestShownAhead_33 : decode cX7_nearestShownAhead 33 = .ok (.ireturn, 1) := by decide +kernel
theorem dX7_nearestShownFrom_0 : decode cX7_nearestShownFrom 0 = .ok (.iload_n 1, 1) := by decide +kernel
theorem dX7_nearestShownFrom_1 : decode cX7_nearestShownFrom 1 = .ok (.istore_n 2, 1) := by decide +kernel
theorem dX7_nearestShownFrom_2 : decode cX7_nearestShownFrom 2 = .ok (.iload_n 2, 1) := by decide +kernel
theorem dX7_nearestShownFrom_3 : decode cX7_nearestShownFrom 3 = .ok (.aload_n 0, 1) := by decide +kernel
theorem dX7_nearestShownFrom_4 : decode cX7_nearestShownFrom 4 = .ok (.getfield 23, 3) := by decide +kernel
theorem dX7_nearestShownFrom_7 : decode cX7_nearestShownFrom 7 = .ok (.if_icmp .ge 27, 3) := by decide +kernel
theorem dX7_nearestShownFrom_10 : decode cX7_nearestShownFrom 10 = .ok (.aload_n 0, 1) := by decide +kernel
theorem dX7_nearestShownFrom_11 : decode cX7_nearestShownFrom 11 = .ok (.aload_n 0, 1) := by decide +kernel
theorem dX7_nearestShownFrom_12 : decode cX7_nearestShownFrom 12 = .ok (.iload_n 2, 1) := by decide +kernel
theorem dX7_nearestShownFrom_13 : decode cX7_nearestShownFrom 13 = .ok (.invokevirtual 31, 3) := by decide +kernel
theorem dX7_nearestShownFrom_16 : decode cX7_nearestShownFrom 16 = .ok (.invokevirtual 35, 3) := by decide +kernel
theorem dX7_nearestShownFrom_19 : decode cX7_nearestShownFrom 19 = .ok (.ifCond .eq 9, 3) := by decide +kernel
theorem dX7_nearestShownFrom_22 : decode cX7_nearestShownFrom 22 = .ok (.aload_n 0, 1) := by decide +kernel
theorem dX7_nearestShownFrom_23 : decode cX7_nearestShownFrom 23 = .ok (.iload_n 2, 1) := by decide +kernel
theorem dX7_nearestShownFrom_24 : decode cX7_nearestShownFrom 24 = .ok (.invokevirtual 31, 3) := by decide +kernel
theorem dX7_nearestShownFrom_27 : decode cX7_nearestShownFrom 27 = .ok (.ireturn, 1) := by decide +kernel
theorem dX7_nearestShownFrom_28 : decode cX7_nearestShownFrom 28 = .ok (.iinc 2 1, 3) := by decide +kernel
theorem dX7_nearestShownFrom_31 : decode cX7_nearestShownFrom 31 = .ok (.goto (-29), 3) := by decide +kernel
theorem dX7_nearestShownFrom_34 : decode cX7_nearestShownFrom 34 = .ok (.iconst (-1), 1) := by decide +kernel
theorem dX7_nearestShownFrom_35 : decode cX7_nearestShownFrom 35 = .ok (.ireturn, 1) := by decide +kernel
theorem dX7_shownCount_0 : decode cX7_shownCount 0 = .ok (.aload_n 0, 1) := by decide +kernel
theorem dX7_shownCount_1 : decode cX7_shownCount 1 = .ok (.aload_n 0, 1) := by decide +kernel
theorem dX7_shownCount_2 : decode cX7_shownCount 2 = .ok (.getfield 23, 3) := by decide +kernel
theorem dX7_shownCount_5 : decode cX7_shownCount 5 = .ok (.invokevirtual 38, 3) := by decide +kernel
theorem dX7_shownCount_8 : decode cX7_shownCount 8 = .ok (.ireturn, 1) := by decide +kernel
theorem dX7_shownCountAhead_0 : decode cX7_shownCountAhead 0 = .ok (.iconst 0, 1) := by decide +kernel
theorem dX7_shownCountAhead_1 : decode cX7_shownCountAhead 1 = .ok (.istore_n 2, 1) := by decide +kernel
theorem dX7_shownCountAhead_2 : decode cX7_shownCountAhead 2 = .ok (.iconst 0, 1) := by decide +kernel
theorem dX7_shownCountAhead_3 : decode cX7_shownCountAhead 3 = .ok (.istore_n 3, 1) := by decide +kernel
theorem dX7_shownCountAhead_4 : decode cX7_shownCountAhead 4 = .ok (.iload_n 3, 1) := by decide +kernel
theorem dX7_shownCountAhead_5 : decode cX7_shownCountAhead 5 = .ok (.iload_n 1, 1) := by decide +kernel
theorem dX7_shownCountAhead_6 : decode cX7_shownCountAhead 6 = .ok (.if_icmp .ge 24, 3) := by decide +kernel
theorem dX7_shownCountAhead_9 : decode cX7_shownCountAhead 9 = .ok (.aload_n 0, 1) := by decide +kernel
theorem dX7_shownCountAhead_10 : decode cX7_shownCountAhead 10 = .ok (.aload_n 0, 1) := by decide +kernel
theorem dX7_shownCountAhead_11 : decode cX7_shownCountAhead 11 = .ok (.iload_n 3, 1) := by decide +kernel
theorem dX7_shownCountAhead_12 : decode cX7_shownCountAhead 12 = .ok (.invokevirtual 31, 3) := by decide +kernel
theorem dX7_shownCountAhead_15 : decode cX7_shownCountAhead 15 = .ok (.invokevirtual 35, 3) := by decide +kernel
theorem dX7_shownCountAhead_18 : decode cX7_shownCountAhead 18 = .ok (.ifCond .eq 6, 3) := by decide +kernel
theorem dX7_shownCountAhead_21 : decode cX7_shownCountAhead 21 = .ok (.iinc 2 1, 3) := by decide +kernel
theorem dX7_shownCountAhead_24 : decode cX7_shownCountAhead 24 = .ok (.iinc 3 1, 3) := by decide +kernel
theorem dX7_shownCountAhead_27 : decode cX7_shownCountAhead 27 = .ok (.goto (-23), 3) := by decide +kernel
theorem dX7_shownCountAhead_30 : decode cX7_shownCountAhead 30 = .ok (.iload_n 2, 1) := by decide +kernel
theorem dX7_shownCountAhead_31 : decode cX7_shownCountAhead 31 = .ok (.ireturn, 1) := by decide +kernel
theorem dX7_shownLetter_0 : decode cX7_shownLetter 0 = .ok (.iconst 0, 1) := by decide +kernel
theorem dX7_shownLetter_1 : decode cX7_shownLetter 1 = .ok (.istore_n 2, 1) := by decide +kernel
theorem dX7_shownLetter_2 : decode cX7_shownLetter 2 = .ok (.iconst 0, 1) := by decide +kernel
theorem dX7_shownLetter_3 : decode cX7_shownLetter 3 = .ok (.istore_n 3, 1) := by decide +kernel
theorem dX7_shownLetter_4 : decode cX7_shownLetter 4 = .ok (.iload_n 3, 1) := by decide +kernel
theorem dX7_shownLetter_5 : decode cX7_shownLetter 5 = .ok (.aload_n 0, 1) := by decide +kernel
theorem dX7_shownLetter_6 : decode cX7_shownLetter 6 = .ok (.getfield 23, 3) := by decide +kernel
theorem dX7_shownLetter_9 : decode cX7_shownLetter 9 = .ok (.if_icmp .ge 37, 3) := by decide +kernel
theorem dX7_shownLetter_12 : decode cX7_shownLetter 12 = .ok (.aload_n 0, 1) := by decide +kernel
theorem dX7_shownLetter_13 : decode cX7_shownLetter 13 = .ok (.aload_n 0, 1) := by decide +kernel
theorem dX7_shownLetter_14 : decode cX7_shownLetter 14 = .ok (.getfield 9, 3) := by decide +kernel
theorem dX7_shownLetter_17 : decode cX7_shownLetter 17 = .ok (.iload_n 3, 1) := by decide +kernel
theorem dX7_shownLetter_18 : decode cX7_shownLetter 18 = .ok (.iaload, 1) := by decide +kernel
theorem dX7_shownLetter_19 : decode cX7_shownLetter 19 = .ok (.invokevirtual 35, 3) := by decide +kernel
theorem dX7_shownLetter_22 : decode cX7_shownLetter 22 = .ok (.ifCond .eq 18, 3) := by decide +kernel
theorem dX7_shownLetter_25 : decode cX7_shownLetter 25 = .ok (.iload_n 2, 1) := by decide +kernel
theorem dX7_shownLetter_26 : decode cX7_shownLetter 26 = .ok (.iload_n 1, 1) := by decide +kernel
theorem dX7_shownLetter_27 : decode cX7_shownLetter 27 = .ok (.if_icmp .ne 10, 3) := by decide +kernel
theorem dX7_shownLetter_30 : decode cX7_shownLetter 30 = .ok (.aload_n 0, 1) := by decide +kernel
theorem dX7_shownLetter_31 : decode cX7_shownLetter 31 = .ok (.getfield 9, 3) := by decide +kernel
theorem dX7_shownLetter_34 : decode cX7_shownLetter 34 = .ok (.iload_n 3, 1) := by decide +kernel
theorem dX7_shownLetter_35 : decode cX7_shownLetter 35 = .ok (.iaload, 1) := by decide +kernel
theorem dX7_shownLetter_36 : decode cX7_shownLetter 36 = .ok (.ireturn, 1) := by decide +kernel
theorem dX7_shownLetter_37 : decode cX7_shownLetter 37 = .ok (.iinc 2 1, 3) := by decide +kernel
theorem dX7_shownLetter_40 : decode cX7_shownLetter 40 = .ok (.iinc 3 1, 3) := by decide +kernel
theorem dX7_shownLetter_43 : decode cX7_shownLetter 43 = .ok (.goto (-39), 3) := by decide +kernel
theorem dX7_shownLetter_46 : decode cX7_shownLetter 46 = .ok (.iconst (-1), 1) := by decide +kernel
theorem dX7_shownLetter_47 : decode cX7_shownLetter 47 = .ok (.ireturn, 1) := by decide +kernel
theorem dX7_put_0 : decode cX7_put 0 = .ok (.aload_n 0, 1) := by decide +kernel
theorem dX7_put_1 : decode cX7_put 1 = .ok (.invokevirtual 41, 3) := by decide +kernel
theorem dX7_put_4 : decode cX7_put 4 = .ok (.ifCond .ne 15, 3) := by decide +kernel
theorem dX7_put_7 : decode cX7_put 7 = .ok (.iload_n 1, 1) := by decide +kernel
theorem dX7_put_8 : decode cX7_put 8 = .ok (.ifCond .lt 11, 3) := by decide +kernel
theorem dX7_put_11 : decode cX7_put 11 = .ok (.iload_n 1, 1) := by decide +kernel
theorem dX7_put_12 : decode cX7_put 12 = .ok (.aload_n 0, 1) := by decide +kernel
theorem dX7_put_13 : decode cX7_put 13 = .ok (.getfield 23, 3) := by decide +kernel
theorem dX7_put_16 : decode cX7_put 16 = .ok (.if_icmp .le 4, 3) := by decide +kernel
theorem dX7_put_19 : decode cX7_put 19 = .ok (.return_, 1) := by decide +kernel
theorem dX7_put_20 : decode cX7_put 20 = .ok (.aload_n 0, 1) := by decide +kernel
theorem dX7_put_21 : decode cX7_put 21 = .ok (.getfield 9, 3) := by decide +kernel
theorem dX7_put_24 : decode cX7_put 24 = .ok (.iload_n 1, 1) := by decide +kernel
theorem dX7_put_25 : decode cX7_put 25 = .ok (.aload_n 0, 1) := by decide +kernel
theorem dX7_put_26 : decode cX7_put 26 = .ok (.getfield 9, 3) := by decide +kernel
theorem dX7_put_29 : decode cX7_put 29 = .ok (.iload_n 1, 1) := by decide +kernel
theorem dX7_put_30 : decode cX7_put 30 = .ok (.iconst 1, 1) := by decide +kernel
theorem dX7_put_31 : decode cX7_put 31 = .ok (.iadd, 1) := by decide +kernel
theorem dX7_put_32 : decode cX7_put 32 = .ok (.aload_n 0, 1) := by decide +kernel
theorem dX7_put_33 : decode cX7_put 33 = .ok (.getfield 23, 3) := by decide +kernel
theorem dX7_put_36 : decode cX7_put 36 = .ok (.iload_n 1, 1) := by decide +kernel
theorem dX7_put_37 : decode cX7_put 37 = .ok (.isub, 1) := by decide +kernel
theorem dX7_put_38 : decode cX7_put 38 = .ok (.invokestatic 45, 3) := by decide +kernel
theorem dX7_put_41 : decode cX7_put 41 = .ok (.aload_n 0, 1) := by decide +kernel
theorem dX7_put_42 : decode cX7_put 42 = .ok (.getfield 9, 3) := by decide +kernel
theorem dX7_put_45 : decode cX7_put 45 = .ok (.iload_n 1, 1) := by decide +kernel
theorem dX7_put_46 : decode cX7_put 46 = .ok (.aload_n 0, 1) := by decide +kernel
theorem dX7_put_47 : decode cX7_put 47 = .ok (.getfield 23, 3) := by decide +kernel
theorem dX7_put_50 : decode cX7_put 50 = .ok (.iastore, 1) := by decide +kernel
theorem dX7_put_51 : decode cX7_put 51 = .ok (.aload_n 0, 1) := by decide +kernel
theorem dX7_put_52 : decode cX7_put 52 = .ok (.getfield 15, 3) := by decide +kernel
theorem dX7_put_55 : decode cX7_put 55 = .ok (.aload_n 0, 1) := by decide +kernel
theorem dX7_put_56 : decode cX7_put 56 = .ok (.getfield 23, 3) := by decide +kernel
theorem dX7_put_59 : decode cX7_put 59 = .ok (.iload_n 2, 1) := by decide +kernel
theorem dX7_put_60 : decode cX7_put 60 = .ok (.castore, 1) := by decide +kernel
theorem dX7_put_61 : decode cX7_put 61 = .ok (.aload_n 0, 1) := by decide +kernel
theorem dX7_put_62 : decode cX7_put 62 = .ok (.getfield 19, 3) := by decide +kernel
theorem dX7_put_65 : decode cX7_put 65 = .ok (.aload_n 0, 1) := by decide +kernel
theorem dX7_put_66 : decode cX7_put 66 = .ok (.getfield 23, 3) := by decide +kernel
theorem dX7_put_69 : decode cX7_put 69 = .ok (.iconst 1, 1) := by decide +kernel
theorem dX7_put_70 : decode cX7_put 70 = .ok (.bastore, 1) := by decide +kernel
theorem dX7_put_71 : decode cX7_put 71 = .ok (.aload_n 0, 1) := by decide +kernel
theorem dX7_put_72 : decode cX7_put 72 = .ok (.dup, 1) := by decide +kernel
theorem dX7_put_73 : decode cX7_put 73 = .ok (.getfield 23, 3) := by decide +kernel
theorem dX7_put_76 : decode cX7_put 76 = .ok (.iconst 1, 1) := by decide +kernel
theorem dX7_put_77 : decode cX7_put 77 = .ok (.iadd, 1) := by decide +kernel
theorem dX7_put_78 : decode cX7_put 78 = .ok (.putfield 23, 3) := by decide +kernel
theorem dX7_put_81 : decode cX7_put 81 = .ok (.return_, 1) := by decide +kernel
theorem dX7_setThere_0 : decode cX7_setThere 0 = .ok (.aload_n 0, 1) := by decide +kernel
theorem dX7_setThere_1 : decode cX7_setThere 1 = .ok (.iload_n 1, 1) := by decide +kernel
theorem dX7_setThere_2 : decode cX7_setThere 2 = .ok (.invokevirtual 27, 3) := by decide +kernel
theorem dX7_setThere_5 : decode cX7_setThere 5 = .ok (.ifCond .eq 10, 3) := by decide +kernel
theorem dX7_setThere_8 : decode cX7_setThere 8 = .ok (.aload_n 0, 1) := by decide +kernel
theorem dX7_setThere_9 : decode cX7_setThere 9 = .ok (.getfield 19, 3) := by decide +kernel
theorem dX7_setThere_12 : decode cX7_setThere 12 = .ok (.iload_n 1, 1) := by decide +kernel
theorem dX7_setThere_13 : decode cX7_setThere 13 = .ok (.iload_n 2, 1) := by decide +kernel
theorem dX7_setThere_14 : decode cX7_setThere 14 = .ok (.bastore, 1) := by decide +kernel
theorem dX7_setThere_15 : decode cX7_setThere 15 = .ok (.return_, 1) := by decide +kernel
theorem dX7_setSign_0 : decode cX7_setSign 0 = .ok (.aload_n 0, 1) := by decide +kernel
theorem dX7_setSign_1 : decode cX7_setSign 1 = .ok (.iload_n 1, 1) := by decide +kernel
theorem dX7_setSign_2 : decode cX7_setSign 2 = .ok (.invokevirtual 27, 3) := by decide +kernel
theorem dX7_setSign_5 : decode cX7_setSign 5 = .ok (.ifCond .eq 10, 3) := by decide +kernel
theorem dX7_setSign_8 : decode cX7_setSign 8 = .ok (.aload_n 0, 1) := by decide +kernel
theorem dX7_setSign_9 : decode cX7_setSign 9 = .ok (.getfield 15, 3) := by decide +kernel
theorem dX7_setSign_12 : decode cX7_setSign 12 = .ok (.iload_n 1, 1) := by decide +kernel
theorem dX7_setSign_13 : decode cX7_setSign 13 = .ok (.iload_n 2, 1) := by decide +kernel
theorem dX7_setSign_14 : decode cX7_setSign 14 = .ok (.castore, 1) := by decide +kernel
theorem dX7_setSign_15 : decode cX7_setSign 15 = .ok (.return_, 1) := by decide +kernel
theorem dX8_init_0 : decode cX8_init 0 = .ok (.aload_n 0, 1) := by decide +kernel
theorem dX8_init_1 : decode cX8_init 1 = .ok (.invokespecial 3, 3) := by decide +kernel
theorem dX8_init_4 : decode cX8_init 4 = .ok (.aload_n 0, 1) := by decide +kernel
theorem dX8_init_5 : decode cX8_init 5 = .ok (.iload_n 1, 1) := by decide +kernel
theorem dX8_init_6 : decode cX8_init 6 = .ok (.putfield 9, 3) := by decide +kernel
theorem dX8_init_9 : decode cX8_init 9 = .ok (.aload_n 0, 1) := by decide +kernel
theorem dX8_init_10 : decode cX8_init 10 = .ok (.iload_n 2, 1) := by decide +kernel
theorem dX8_init_11 : decode cX8_init 11 = .ok (.putfield 15, 3) := by decide +kernel
theorem dX8_init_14 : decode cX8_init 14 = .ok (.aload_n 0, 1) := by decide +kernel
theorem dX8_init_15 : decode cX8_init 15 = .ok (.aload_n 3, 1) := by decide +kernel
theorem dX8_init_16 : decode cX8_init 16 = .ok (.putfield 18, 3) := by decide +kernel
theorem dX8_init_19 : decode cX8_init 19 = .ok (.aload_n 0, 1) := by decide +kernel
theorem dX8_init_20 : decode cX8_init 20 = .ok (.aload 4, 2) := by decide +kernel
theorem dX8_init_22 : decode cX8_init 22 = .ok (.putfield 22, 3) := by decide +kernel
theorem dX8_init_25 : decode cX8_init 25 = .ok (.return_, 1) := by decide +kernel
theorem dX8_isReady_0 : decode cX8_isReady 0 = .ok (.aload_n 0, 1) := by decide +kernel
theorem dX8_isReady_1 : decode cX8_isReady 1 = .ok (.getfield 22, 3) := by decide +kernel
theorem dX8_isReady_4 : decode cX8_isReady 4 = .ok (.ifnull 13, 3) := by decide +kernel
theorem dX8_isReady_7 : decode cX8_isReady 7 = .ok (.aload_n 0, 1) := by decide +kernel
theorem dX8_isReady_8 : decode cX8_isReady 8 = .ok (.getfield 22, 3) := by decide +kernel
theorem dX8_isReady_11 : decode cX8_isReady 11 = .ok (.getfield 26, 3) := by decide +kernel
theorem dX8_isReady_14 : decode cX8_isReady 14 = .ok (.ifCond .eq 21, 3) := by decide +kernel
theorem dX8_isReady_17 : decode cX8_isReady 17 = .ok (.aload_n 0, 1) := by decide +kernel
theorem dX8_isReady_18 : decode cX8_isReady 18 = .ok (.getfield 18, 3) := by decide +kernel
theorem dX8_isReady_21 : decode cX8_isReady 21 = .ok (.aload_n 0, 1) := by decide +kernel
theorem dX8_isReady_22 : decode cX8_isReady 22 = .ok (.getfield 15, 3) := by decide +kernel
theorem dX8_isReady_25 : decode cX8_isReady 25 = .ok (.invokevirtual 31, 3) := by decide +kernel
theorem dX8_isReady_28 : decode cX8_isReady 28 = .ok (.ifCond .eq 7, 3) := by decide +kernel
theorem dX8_isReady_31 : decode cX8_isReady 31 = .ok (.iconst 1, 1) := by decide +kernel
theorem dX8_isReady_32 : decode cX8_isReady 32 = .ok (.goto 4, 3) := by decide +kernel
theorem dX8_isReady_35 : decode cX8_isReady 35 = .ok (.iconst 0, 1) := by decide +kernel
theorem dX8_isReady_36 : decode cX8_isReady 36 = .ok (.ireturn, 1) := by decide +kernel
theorem dX9_init_0 : decode cX9_init 0 = .ok (.aload_n 0, 1) := by decide +kernel
theorem dX9_init_1 : decode cX9_init 1 = .ok (.invokespecial 3, 3) := by decide +kernel
theorem dX9_init_4 : decode cX9_init 4 = .ok (.aload_n 0, 1) := by decide +kernel
theorem dX9_init_5 : decode cX9_init 5 = .ok (.new 9, 3) := by decide +kernel
theorem dX9_init_8 : decode cX9_init 8 = .ok (.dup, 1) := by decide +kernel
theorem dX9_init_9 : decode cX9_init 9 = .ok (.invokespecial 11, 3) := by decide +kernel
theorem dX9_init_12 : decode cX9_init 12 = .ok (.putfield 12, 3) := by decide +kernel
theorem dX9_init_15 : decode cX9_init 15 = .ok (.aload_n 0, 1) := by decide +kernel
theorem dX9_init_16 : decode cX9_init 16 = .ok (.sipush 150, 3) := by decide +kernel
theorem dX9_init_19 : decode cX9_init 19 = .ok (.newarray .char, 2) := by decide +kernel
theorem dX9_init_21 : decode cX9_init 21 = .ok (.putfield 18, 3) := by decide +kernel
theorem dX9_init_24 : decode cX9_init 24 = .ok (.aload_n 0, 1) := by decide +kernel
theorem dX9_init_25 : decode cX9_init 25 = .ok (.iconst (-1), 1) := by decide +kernel
theorem dX9_init_26 : decode cX9_init 26 = .ok (.putfield 22, 3) := by decide +kernel
theorem dX9_init_29 : decode cX9_init 29 = .ok (.aload_n 0, 1) := by decide +kernel
theorem dX9_init_30 : decode cX9_init 30 = .ok (.iconst (-1), 1) := by decide +kernel
theorem dX9_init_31 : decode cX9_init 31 = .ok (.putfield 26, 3) := by decide +kernel
theorem dX9_init_34 : decode cX9_init 34 = .ok (.aload_n 0, 1) := by decide +kernel
theorem dX9_init_35 : decode cX9_init 35 = .ok (.new 9, 3) := by decide +kernel
theorem dX9_init_38 : decode cX9_init 38 = .ok (.dup, 1) := by decide +kernel
theorem dX9_init_39 : decode cX9_init 39 = .ok (.invokespecial 11, 3) := by decide +kernel
theorem dX9_init_42 : decode cX9_init 42 = .ok (.putfield 29, 3) := by decide +kernel
theorem dX9_init_45 : decode cX9_init 45 = .ok (.aload_n 0, 1) := by decide +kernel
theorem dX9_init_46 : decode cX9_init 46 = .ok (.new 32, 3) := by decide +kernel
theorem dX9_init_49 : decode cX9_init 49 = .ok (.dup, 1) := by decide +kernel
theorem dX9_init_50 : decode cX9_init 50 = .ok (.invokespecial 34, 3) := by decide +kernel
theorem dX9_init_53 : decode cX9_init 53 = .ok (.putfield 35, 3) := by decide +kernel
theorem dX9_init_56 : decode cX9_init 56 = .ok (.aload_n 0, 1) := by decide +kernel
theorem dX9_init_57 : decode cX9_init 57 = .ok (.iconst 5, 1) := by decide +kernel
theorem dX9_init_58 : decode cX9_init 58 = .ok (.newarray .int, 2) := by decide +kernel
theorem dX9_init_60 : decode cX9_init 60 = .ok (.putfield 39, 3) := by decide +kernel
theorem dX9_init_63 : decode cX9_init 63 = .ok (.aload_n 0, 1) := by decide +kernel
theorem dX9_init_64 : decode cX9_init 64 = .ok (.iload_n 1, 1) := by decide +kernel
theorem dX9_init_65 : decode cX9_init 65 = .ok (.putfield 43, 3) := by decide +kernel
theorem dX9_init_68 : decode cX9_init 68 = .ok (.iconst 0, 1) := by decide +kernel
theorem dX9_init_69 : decode cX9_init 69 = .ok (.istore_n 2, 1) := by decide +kernel
theorem dX9_init_70 : decode cX9_init 70 = .ok (.iload_n 2, 1) := by decide +kernel
theorem dX9_init_71 : decode cX9_init 71 = .ok (.iconst 5, 1) := by decide +kernel
theorem dX9_init_72 : decode cX9_init 72 = .ok (.if_icmp .ge 16, 3) := by decide +kernel
theorem dX9_init_75 : decode cX9_init 75 = .ok (.aload_n 0, 1) := by decide +kernel
theorem dX9_init_76 : decode cX9_init 76 = .ok (.getfield 39, 3) := by decide +kernel
theorem dX9_init_79 : decode cX9_init 79 = .ok (.iload_n 2, 1) := by decide +kernel
theorem dX9_init_80 : decode cX9_init 80 = .ok (.iconst (-1), 1) := by decide +kernel
theorem dX9_init_81 : decode cX9_init 81 = .ok (.iastore, 1) := by decide +kernel
theorem dX9_init_82 : decode cX9_init 82 = .ok (.iinc 2 1, 3) := by decide +kernel
theorem dX9_init_85 : decode cX9_init 85 = .ok (.goto (-15), 3) := by decide +kernel
theorem dX9_init_88 : decode cX9_init 88 = .ok (.return_, 1) := by decide +kernel
theorem dX9_isFreeFor_0 : decode cX9_isFreeFor 0 = .ok (.aload_n 0, 1) := by decide +kernel
theorem dX9_isFreeFor_1 : decode cX9_isFreeFor 1 = .ok (.getfield 22, 3) := by decide +kernel
theorem dX9_isFreeFor_4 : decode cX9_isFreeFor 4 = .ok (.iconst (-1), 1) := by decide +kernel
theorem dX9_isFreeFor_5 : decode cX9_isFreeFor 5 = .ok (.if_icmp .eq 11, 3) := by decide +kernel
theorem dX9_isFreeFor_8 : decode cX9_isFreeFor 8 = .ok (.aload_n 0, 1) := by decide +kernel
theorem dX9_isFreeFor_9 : decode cX9_isFreeFor 9 = .ok (.getfield 22, 3) := by decide +kernel
theorem dX9_isFreeFor_12 : decode cX9_isFreeFor 12 = .ok (.iload_n 1, 1) := by decide +kernel
theorem dX9_isFreeFor_13 : decode cX9_isFreeFor 13 = .ok (.if_icmp .ne 7, 3) := by decide +kernel
theorem dX9_isFreeFor_16 : decode cX9_isFreeFor 16 = .ok (.iconst 1, 1) := by decide +kernel
theorem dX9_isFreeFor_17 : decode cX9_isFreeFor 17 = .ok (.goto 4, 3) := by decide +kernel
theorem dX9_isFreeFor_20 : decode cX9_isFreeFor 20 = .ok (.iconst 0, 1) := by decide +kernel
theorem dX9_isFreeFor_21 : decode cX9_isFreeFor 21 = .ok (.ireturn, 1) := by decide +kernel
theorem dX9_cursorPlace_0 : decode cX9_cursorPlace 0 = .ok (.aload_n 0, 1) := by decide +kernel
theorem dX9_cursorPlace_1 : decode cX9_cursorPlace 1 = .ok (.getfield 12, 3) := by decide +kernel
theorem dX9_cursorPlace_4 : decode cX9_cursorPlace 4 = .ok (.aload_n 0, 1) := by decide +kernel
theorem dX9_cursorPlace_5 : decode cX9_cursorPlace 5 = .ok (.iload_n 1, 1) := by decide +kernel
theorem dX9_cursorPlace_6 : decode cX9_cursorPlace 6 = .ok (.invokevirtual 46, 3) := by decide +kernel
theorem dX9_cursorPlace_9 : decode cX9_cursorPlace 9 = .ok (.invokevirtual 50, 3) := by decide +kernel
theorem dX9_cursorPlace_12 : decode cX9_cursorPlace 12 = .ok (.ireturn, 1) := by decide +kernel
theorem dX9_letterAheadOfCursor_0 : decode cX9_letterAheadOfCursor 0 = .ok (.aload_n 0, 1) := by decide +kernel
theorem dX9_letterAheadOfCursor_1 : decode cX9_letterAheadOfCursor 1 = .ok (.getfield 12, 3) := by decide +kernel
theorem dX9_letterAheadOfCursor_4 : decode cX9_letterAheadOfCursor 4 = .ok (.aload_n 0, 1) := by decide +kernel
theorem dX9_letterAheadOfCursor_5 : decode cX9_letterAheadOfCursor 5 = .ok (.iload_n 1, 1) := by decide +kernel
theorem dX9_letterAheadOfCursor_6 : decode cX9_letterAheadOfCursor 6 = .ok (.invokevirtual 46, 3) := by decide +kernel
theorem dX9_letterAheadOfCursor_9 : decode cX9_letterAheadOfCursor 9 = .ok (.invokevirtual 53, 3) := by decide +kernel
theorem dX9_letterAheadOfCursor_12 : decode cX9_letterAheadOfCursor 12 = .ok (.ireturn, 1) := by decide +kernel
theorem dX9_setCursor_0 : decode cX9_setCursor 0 = .ok (.iload_n 1, 1) := by decide +kernel
theorem dX9_setCursor_1 : decode cX9_setCursor 1 = .ok (.ifCond .lt 15, 3) := by decide +kernel
theorem dX9_setCursor_4 : decode cX9_setCursor 4 = .ok (.iload_n 1, 1) := by decide +kernel
theorem dX9_setCursor_5 : decode cX9_setCursor 5 = .ok (.iconst 5, 1) := by decide +kernel
theorem dX9_setCursor_6 : decode cX9_setCursor 6 = .ok (.if_icmp .ge 10, 3) := by decide +kernel
theorem dX9_setCursor_9 : decode cX9_setCursor 9 = .ok (.aload_n 0, 1) := by decide +kernel
theorem dX9_setCursor_10 : decode cX9_setCursor 10 = .ok (.getfield 39, 3) := by decide +kernel
theorem dX9_setCursor_13 : decode cX9_setCursor 13 = .ok (.iload_n 1, 1) := by decide +kernel
theorem dX9_setCursor_14 : decode cX9_setCursor 14 = .ok (.iload_n 2, 1) := by decide +kernel
theorem dX9_setCursor_15 : decode cX9_setCursor 15 = .ok (.iastore, 1) := by decide +kernel
theorem dX9_setCursor_16 : decode cX9_setCursor 16 = .ok (.return_, 1) := by decide +kernel
theorem dX9_hasCursorAt_0 : decode cX9_hasCursorAt 0 = .ok (.iconst 0, 1) := by decide +kernel
theorem dX9_hasCursorAt_1 : decode cX9_hasCursorAt 1 = .ok (.istore_n 2, 1) := by decide +kernel
theorem dX9_hasCursorAt_2 : decode cX9_hasCursorAt 2 = .ok (.iload_n 2, 1) := by decide +kernel
theorem dX9_hasCursorAt_3 : decode cX9_hasCursorAt 3 = .ok (.iconst 5, 1) := by decide +kernel
theorem dX9_hasCursorAt_4 : decode cX9_hasCursorAt 4 = .ok (.if_icmp .ge 21, 3) := by decide +kernel
theorem dX9_hasCursorAt_7 : decode cX9_hasCursorAt 7 = .ok (.aload_n 0, 1) := by decide +kernel
theorem dX9_hasCursorAt_8 : decode cX9_hasCursorAt 8 = .ok (.getfield 39, 3) := by decide +kernel
theorem dX9_hasCursorAt_11 : decode cX9_hasCursorAt 11 = .ok (.iload_n 2, 1) := by decide +kernel
theorem dX9_hasCursorAt_12 : decode cX9_hasCursorAt 12 = .ok (.iaload, 1) := by decide +kernel
theorem dX9_hasCursorAt_13 : decode cX9_hasCursorAt 13 = .ok (.iload_n 1, 1) := by decide +kernel
theorem dX9_hasCursorAt_14 : decode cX9_hasCursorAt 14 = .ok (.if_icmp .ne 5, 3) := by decide +kernel
theorem dX9_hasCursorAt_17 : decode cX9_hasCursorAt 17 = .ok (.iconst 1, 1) := by decide +kernel
theorem dX9_hasCursorAt_18 : decode cX9_hasCursorAt 18 = .ok (.ireturn, 1) := by decide +kernel
theorem dX9_hasCursorAt_19 : decode cX9_hasCursorAt 19 = .ok (.iinc 2 1, 3) := by decide +kernel
theorem dX9_hasCursorAt_22 : decode cX9_hasCursorAt 22 = .ok (.goto (-20), 3) := by decide +kernel
theorem dX9_hasCursorAt_25 : decode cX9_hasCursorAt 25 = .ok (.iconst 0, 1) := by decide +kernel
theorem dX9_hasCursorAt_26 : decode cX9_hasCursorAt 26 = .ok (.ireturn, 1) := by decide +kernel
theorem dX9_putAheadOfCursor_0 : decode cX9_putAheadOfCursor 0 = .ok (.aload_n 0, 1) := by decide +kernel
theorem dX9_putAheadOfCursor_1 : decode cX9_putAheadOfCursor 1 = .ok (.getfield 12, 3) := by decide +kernel
theorem dX9_putAheadOfCursor_4 : decode cX9_putAheadOfCursor 4 = .ok (.invokevirtual 56, 3) := by decide +kernel
theorem dX9_putAheadOfCursor_7 : decode cX9_putAheadOfCursor 7 = .ok (.istore_n 3, 1) := by decide +kernel
theorem dX9_putAheadOfCursor_8 : decode cX9_putAheadOfCursor 8 = .ok (.aload_n 0, 1) := by decide +kernel
theorem dX9_putAheadOfCursor_9 : decode cX9_putAheadOfCursor 9 = .ok (.new 60, 3) := by decide +kernel
theorem dX9_putAheadOfCursor_12 : decode cX9_putAheadOfCursor 12 = .ok (.dup, 1) := by decide +kernel
theorem dX9_putAheadOfCursor_13 : decode cX9_putAheadOfCursor 13 = .ok (.iconst 0, 1) := by decide +kernel
theorem dX9_putAheadOfCursor_14 : decode cX9_putAheadOfCursor 14 = .ok (.aload_n 0, 1) := by decide +kernel
theorem dX9_putAheadOfCursor_15 : decode cX9_putAheadOfCursor 15 = .ok (.iload_n 1, 1) := by decide +kernel
theorem dX9_putAheadOfCursor_16 : decode cX9_putAheadOfCursor 16 = .ok (.invokevirtual 46, 3) := by decide +kernel
theorem dX9_putAheadOfCursor_19 : decode cX9_putAheadOfCursor 19 = .ok (.iload_n 2, 1) := by decide +kernel
theorem dX9_putAheadOfCursor_20 : decode cX9_putAheadOfCursor 20 = .ok (.invokespecial 62, 3) := by decide +kernel
theorem dX9_putAheadOfCursor_23 : decode cX9_putAheadOfCursor 23 = .ok (.invokevirtual 65, 3) := by decide +kernel
theorem dX9_putAheadOfCursor_26 : decode cX9_putAheadOfCursor 26 = .ok (.aload_n 0, 1) := by decide +kernel
theorem dX9_putAheadOfCursor_27 : decode cX9_putAheadOfCursor 27 = .ok (.dup, 1) := by decide +kernel
theorem dX9_putAheadOfCursor_28 : decode cX9_putAheadOfCursor 28 = .ok (.getfield 69, 3) := by decide +kernel
theorem dX9_putAheadOfCursor_31 : decode cX9_putAheadOfCursor 31 = .ok (.iconst 1, 1) := by decide +kernel
theorem dX9_putAheadOfCursor_32 : decode cX9_putAheadOfCursor 32 = .ok (.iadd, 1) := by decide +kernel
theorem dX9_putAheadOfCursor_33 : decode cX9_putAheadOfCursor 33 = .ok (.putfield 69, 3) := by decide +kernel
theorem dX9_putAheadOfCursor_36 : decode cX9_putAheadOfCursor 36 = .ok (.iload_n 3, 1) := by decide +kernel
theorem dX9_putAheadOfCursor_37 : decode cX9_putAheadOfCursor 37 = .ok (.ireturn, 1) := by decide +kernel
theorem dX9_turn_0 : decode cX9_turn 0 = .ok (.aload_n 0, 1) := by decide +kernel
theorem dX9_turn_1 : decode cX9_turn 1 = .ok (.getfield 12, 3) := by decide +kernel
theorem dX9_turn_4 : decode cX9_turn 4 = .ok (.iload_n 1, 1) := by decide +kernel
theorem dX9_turn_5 : decode cX9_turn 5 = .ok (.invokevirtual 72, 3) := by decide +kernel
theorem dX9_turn_8 : decode cX9_turn 8 = .ok (.iload_n 2, 1) := by decide +kernel
theorem dX9_turn_9 : decode cX9_turn 9 = .ok (.if_icmp .ne 4, 3) := by decide +kernel
theorem dX9_turn_12 : decode cX9_turn 12 = .ok (.return_, 1) := by decide +kernel
theorem dX9_turn_13 : decode cX9_turn 13 = .ok (.iload_n 2, 1) := by decide +kernel
theorem dX9_turn_14 : decode cX9_turn 14 = .ok (.ifCond .eq 20, 3) := by decide +kernel
theorem dX9_turn_17 : decode cX9_turn 17 = .ok (.aload_n 0, 1) := by decide +kernel
theorem dX9_turn_18 : decode cX9_turn 18 = .ok (.new 60, 3) := by decide +kernel
theorem dX9_turn_21 : decode cX9_turn 21 = .ok (.dup, 1) := by decide +kernel
theorem dX9_turn_22 : decode cX9_turn 22 = .ok (.iconst 2, 1) := by decide +kernel
theorem dX9_turn_23 : decode cX9_turn 23 = .ok (.iload_n 1, 1) := by decide +kernel
theorem dX9_turn_24 : decode cX9_turn 24 = .ok (.iconst 0, 1) := by decide +kernel
theorem dX9_turn_25 : decode cX9_turn 25 = .ok (.invokespecial 62, 3) := by decide +kernel
theorem dX9_turn_28 : decode cX9_turn 28 = .ok (.invokevirtual 65, 3) := by decide +kernel
theorem dX9_turn_31 : decode cX9_turn 31 = .ok (.goto 8, 3) := by decide +kernel
theorem dX9_turn_34 : decode cX9_turn 34 = .ok (.aload_n 0, 1) := by decide +kernel
theorem dX9_turn_35 : decode cX9_turn 35 = .ok (.iload_n 1, 1) := by decide +kernel
theorem dX9_turn_36 : decode cX9_turn 36 = .ok (.invokevirtual 76, 3) := by decide +kernel
theorem dX9_turn_39 : decode cX9_turn 39 = .ok (.aload_n 0, 1) := by decide +kernel
theorem dX9_turn_40 : decode cX9_turn 40 = .ok (.dup, 1) := by decide +kernel
theorem dX9_turn_41 : decode cX9_turn 41 = .ok (.getfield 69, 3) := by decide +kernel
theorem dX9_turn_44 : decode cX9_turn 44 = .ok (.iconst 1, 1) := by decide +kernel
theorem dX9_turn_45 : decode cX9_turn 45 = .ok (.iadd, 1) := by decide +kernel
theorem dX9_turn_46 : decode cX9_turn 46 = .ok (.putfield 69, 3) := by decide +kernel
theorem dX9_turn_49 : decode cX9_turn 49 = .ok (.return_, 1) := by decide +kernel
theorem dX9_letGo_0 : decode cX9_letGo 0 = .ok (.aload_n 0, 1) := by decide +kernel
theorem dX9_letGo_1 : decode cX9_letGo 1 = .ok (.new 60, 3) := by decide +kernel
theorem dX9_letGo_4 : decode cX9_letGo 4 = .ok (.dup, 1) := by decide +kernel
theorem dX9_letGo_5 : decode cX9_letGo 5 = .ok (.iconst 1, 1) := by decide +kernel
theorem dX9_letGo_6 : decode cX9_letGo 6 = .ok (.iload_n 1, 1) := by decide +kernel
theorem dX9_letGo_7 : decode cX9_letGo 7 = .ok (.iconst 0, 1) := by decide +kernel
theorem dX9_letGo_8 : decode cX9_letGo 8 = .ok (.invokespecial 62, 3) := by decide +kernel
theorem dX9_letGo_11 : decode cX9_letGo 11 = .ok (.invokevirtual 65, 3) := by decide +kernel
theorem dX9_letGo_14 : decode cX9_letGo 14 = .ok (.aload_n 0, 1) := by decide +kernel
theorem dX9_letGo_15 : decode cX9_letGo 15 = .ok (.getfield 12, 3) := by decide +kernel
theorem dX9_letGo_18 : decode cX9_letGo 18 = .ok (.aload_n 0, 1) := by decide +kernel
theorem dX9_letGo_19 : decode cX9_letGo 19 = .ok (.getfield 12, 3) := by decide +kernel
theorem dX9_letGo_22 : decode cX9_letGo 22 = .ok (.iload_n 1, 1) := by decide +kernel
theorem dX9_letGo_23 : decode cX9_letGo 23 = .ok (.invokevirtual 80, 3) := by decide +kernel
theorem dX9_letGo_26 : decode cX9_letGo 26 = .ok (.invokevirtual 83, 3) := by decide +kernel
theorem dX9_letGo_29 : decode cX9_letGo 29 = .ok (.istore_n 2, 1) := by decide +kernel
theorem dX9_letGo_30 : decode cX9_letGo 30 = .ok (.iconst 0, 1) := by decide +kernel
theorem dX9_letGo_31 : decode cX9_letGo 31 = .ok (.istore_n 3, 1) := by decide +kernel
theorem dX9_letGo_32 : decode cX9_letGo 32 = .ok (.iload_n 3, 1) := by decide +kernel
theorem dX9_letGo_33 : decode cX9_letGo 33 = .ok (.iconst 5, 1) := by decide +kernel
theorem dX9_letGo_34 : decode cX9_letGo 34 = .ok (.if_icmp .ge 26, 3) := by decide +kernel
theorem dX9_letGo_37 : decode cX9_letGo 37 = .ok (.aload_n 0, 1) := by decide +kernel
theorem dX9_letGo_38 : decode cX9_letGo 38 = .ok (.getfield 39, 3) := by decide +kernel
theorem dX9_letGo_41 : decode cX9_letGo 41 = .ok (.iload_n 3, 1) := by decide +kernel
theorem dX9_letGo_42 : decode cX9_letGo 42 = .ok (.iaload, 1) := by decide +kernel
theorem dX9_letGo_43 : decode cX9_letGo 43 = .ok (.iload_n 1, 1) := by decide +kernel
theorem dX9_letGo_44 : decode cX9_letGo 44 = .ok (.if_icmp .ne 10, 3) := by decide +kernel
theorem dX9_letGo_47 : decode cX9_letGo 47 = .ok (.aload_n 0, 1) := by decide +kernel
theorem dX9_letGo_48 : decode cX9_letGo 48 = .ok (.getfield 39, 3) := by decide +kernel
theorem dX9_letGo_51 : decode cX9_letGo 51 = .ok (.iload_n 3, 1) := by decide +kernel
theorem dX9_letGo_52 : decode cX9_letGo 52 = .ok (.iload_n 2, 1) := by decide +kernel
theorem dX9_letGo_53 : decode cX9_letGo 53 = .ok (.iastore, 1) := by decide +kernel
theorem dX9_letGo_54 : decode cX9_letGo 54 = .ok (.iinc 3 1, 3) := by decide +kernel
theorem dX9_letGo_57 : decode cX9_letGo 57 = .ok (.goto (-25), 3) := by decide +kernel
theorem dX9_letGo_60 : decode cX9_letGo 60 = .ok (.return_, 1) := by decide +kernel
theorem dX9_become_0 : decode cX9_become 0 = .ok (.aload_n 0, 1) := by decide +kernel
theorem dX9_become_1 : decode cX9_become 1 = .ok (.new 60, 3) := by decide +kernel
theorem dX9_become_4 : decode cX9_become 4 = .ok (.dup, 1) := by decide +kernel
theorem dX9_become_5 : decode cX9_become 5 = .ok (.iconst 3, 1) := by decide +kernel
theorem dX9_become_6 : decode cX9_become 6 = .ok (.iload_n 1, 1) := by decide +kernel
theorem dX9_become_7 : decode cX9_become 7 = .ok (.iload_n 2, 1) := by decide +kernel
theorem dX9_become_8 : decode cX9_become 8 = .ok (.invokespecial 62, 3) := by decide +kernel
theorem dX9_become_11 : decode cX9_become 11 = .ok (.invokevirtual 65, 3) := by decide +kernel
theorem dX9_become_14 : decode cX9_become 14 = .ok (.return_, 1) := by decide +kernel
theorem dX9_rowAnew_0 : decode cX9_rowAnew 0 = .ok (.aload_n 0, 1) := by decide +kernel
theorem dX9_rowAnew_1 : decode cX9_rowAnew 1 = .ok (.getfield 29, 3) := by decide +kernel
theorem dX9_rowAnew_4 : decode cX9_rowAnew 4 = .ok (.invokevirtual 86, 3) := by decide +kernel
theorem dX9_rowAnew_7 : decode cX9_rowAnew 7 = .ok (.iconst 0, 1) := by decide +kernel
theorem dX9_rowAnew_8 : decode cX9_rowAnew 8 = .ok (.istore_n 1, 1) := by decide +kernel
theorem dX9_rowAnew_9 : decode cX9_rowAnew 9 = .ok (.iload_n 1, 1) := by decide +kernel
theorem dX9_rowAnew_10 : decode cX9_rowAnew 10 = .ok (.aload_n 0, 1) := by decide +kernel
theorem dX9_rowAnew_11 : decode cX9_rowAnew 11 = .ok (.getfield 35, 3) := by decide +kernel
theorem dX9_rowAnew_14 : decode cX9_rowAnew 14 = .ok (.invokeinterface 89 1, 5) := by decide +kernel
theorem dX9_rowAnew_19 : decode cX9_rowAnew 19 = .ok (.if_icmp .ge 29, 3) := by decide +kernel
theorem dX9_rowAnew_22 : decode cX9_rowAnew 22 = .ok (.aload_n 0, 1) := by decide +kernel
theorem dX9_rowAnew_23 : decode cX9_rowAnew 23 = .ok (.getfield 35, 3) := by decide +kernel
theorem dX9_rowAnew_26 : decode cX9_rowAnew 26 = .ok (.iload_n 1, 1) := by decide +kernel
theorem dX9_rowAnew_27 : decode cX9_rowAnew 27 = .ok (.invokeinterface 94 2, 5) := by decide +kernel
theorem dX9_rowAnew_32 : decode cX9_rowAnew 32 = .ok (.checkcast 60, 3) := by decide +kernel
theorem dX9_rowAnew_35 : decode cX9_rowAnew 35 = .ok (.aload_n 0, 1) := by decide +kernel
theorem dX9_rowAnew_36 : decode cX9_rowAnew 36 = .ok (.getfield 29, 3) := by decide +kernel
theorem dX9_rowAnew_39 : decode cX9_rowAnew 39 = .ok (.invokevirtual 98, 3) := by decide +kernel
theorem dX9_rowAnew_42 : decode cX9_rowAnew 42 = .ok (.iinc 1 1, 3) := by decide +kernel
theorem dX9_rowAnew_45 : decode cX9_rowAnew 45 = .ok (.goto (-36), 3) := by decide +kernel
theorem dX9_rowAnew_48 : decode cX9_rowAnew 48 = .ok (.aload_n 0, 1) := by decide +kernel
theorem dX9_rowAnew_49 : decode cX9_rowAnew 49 = .ok (.getfield 29, 3) := by decide +kernel
theorem dX9_rowAnew_52 : decode cX9_rowAnew 52 = .ok (.areturn, 1) := by decide +kernel
theorem dX9_keepAsSaved_0 : decode cX9_keepAsSaved 0 = .ok (.aload_n 0, 1) := by decide +kernel
theorem dX9_keepAsSaved_1 : decode cX9_keepAsSaved 1 = .ok (.iconst 0, 1) := by decide +kernel
theorem dX9_keepAsSaved_2 : decode cX9_keepAsSaved 2 = .ok (.putfield 102, 3) := by decide +kernel
theorem dX9_keepAsSaved_5 : decode cX9_keepAsSaved 5 = .ok (.iconst 0, 1) := by decide +kernel
theorem dX9_keepAsSaved_6 : decode cX9_keepAsSaved 6 = .ok (.istore_n 1, 1) := by decide +kernel
theorem dX9_keepAsSaved_7 : decode cX9_keepAsSaved 7 = .ok (.iload_n 1, 1) := by decide +kernel
theorem dX9_keepAsSaved_8 : decode cX9_keepAsSaved 8 = .ok (.aload_n 0, 1) := by decide +kernel
theorem dX9_keepAsSaved_9 : decode cX9_keepAsSaved 9 = .ok (.getfield 12, 3) := by decide +kernel
theorem dX9_keepAsSaved_12 : decode cX9_keepAsSaved 12 = .ok (.invokevirtual 56, 3) := by decide +kernel
theorem dX9_keepAsSaved_15 : decode cX9_keepAsSaved 15 = .ok (.if_icmp .ge 66, 3) := by decide +kernel
theorem dX9_keepAsSaved_18 : decode cX9_keepAsSaved 18 = .ok (.aload_n 0, 1) := by decide +kernel
theorem dX9_keepAsSaved_19 : decode cX9_keepAsSaved 19 = .ok (.getfield 12, 3) := by decide +kernel
theorem dX9_keepAsSaved_22 : decode cX9_keepAsSaved 22 = .ok (.iload_n 1, 1) := by decide +kernel
theorem dX9_keepAsSaved_23 : decode cX9_keepAsSaved 23 = .ok (.invokevirtual 105, 3) := by decide +kernel
theorem dX9_keepAsSaved_26 : decode cX9_keepAsSaved 26 = .ok (.istore_n 2, 1) := by decide +kernel
theorem dX9_keepAsSaved_27 : decode cX9_keepAsSaved 27 = .ok (.aload_n 0, 1) := by decide +kernel
theorem dX9_keepAsSaved_28 : decode cX9_keepAsSaved 28 = .ok (.getfield 12, 3) := by decide +kernel
theorem dX9_keepAsSaved_31 : decode cX9_keepAsSaved 31 = .ok (.iload_n 2, 1) := by decide +kernel
theorem dX9_keepAsSaved_32 : decode cX9_keepAsSaved 32 = .ok (.invokevirtual 72, 3) := by decide +kernel
theorem dX9_keepAsSaved_35 : decode cX9_keepAsSaved 35 = .ok (.ifCond .eq 40, 3) := by decide +kernel
theorem dX9_keepAsSaved_38 : decode cX9_keepAsSaved 38 = .ok (.aload_n 0, 1) := by decide +kernel
theorem dX9_keepAsSaved_39 : decode cX9_keepAsSaved 39 = .ok (.getfield 102, 3) := by decide +kernel
theorem dX9_keepAsSaved_42 : decode cX9_keepAsSaved 42 = .ok (.sipush 150, 3) := by decide +kernel
theorem dX9_keepAsSaved_45 : decode cX9_keepAsSaved 45 = .ok (.if_icmp .ge 30, 3) := by decide +kernel
theorem dX9_keepAsSaved_48 : decode cX9_keepAsSaved 48 = .ok (.aload_n 0, 1) := by decide +kernel
theorem dX9_keepAsSaved_49 : decode cX9_keepAsSaved 49 = .ok (.getfield 18, 3) := by decide +kernel
theorem dX9_keepAsSaved_52 : decode cX9_keepAsSaved 52 = .ok (.aload_n 0, 1) := by decide +kernel
theorem dX9_keepAsSaved_53 : decode cX9_keepAsSaved 53 = .ok (.getfield 102, 3) := by decide +kernel
theorem dX9_keepAsSaved_56 : decode cX9_keepAsSaved 56 = .ok (.aload_n 0, 1) := by decide +kernel
theorem dX9_keepAsSaved_57 : decode cX9_keepAsSaved 57 = .ok (.getfield 12, 3) := by decide +kernel
theorem dX9_keepAsSaved_60 : decode cX9_keepAsSaved 60 = .ok (.iload_n 2, 1) := by decide +kernel
theorem dX9_keepAsSaved_61 : decode cX9_keepAsSaved 61 = .ok (.invokevirtual 108, 3) := by decide +kernel
theorem dX9_keepAsSaved_64 : decode cX9_keepAsSaved 64 = .ok (.castore, 1) := by decide +kernel
theorem dX9_keepAsSaved_65 : decode cX9_keepAsSaved 65 = .ok (.aload_n 0, 1) := by decide +kernel
theorem dX9_keepAsSaved_66 : decode cX9_keepAsSaved 66 = .ok (.dup, 1) := by decide +kernel
theorem dX9_keepAsSaved_67 : decode cX9_keepAsSaved 67 = .ok (.getfield 102, 3) := by decide +kernel
theorem dX9_keepAsSaved_70 : decode cX9_keepAsSaved 70 = .ok (.iconst 1, 1) := by decide +kernel
theorem dX9_keepAsSaved_71 : decode cX9_keepAsSaved 71 = .ok (.iadd, 1) := by decide +kernel
theorem dX9_keepAsSaved_72 : decode cX9_keepAsSaved 72 = .ok (.putfield 102, 3) := by decide +kernel
theorem dX9_keepAsSaved_75 : decode cX9_keepAsSaved 75 = .ok (.iinc 1 1, 3) := by decide +kernel
theorem dX9_keepAsSaved_78 : decode cX9_keepAsSaved 78 = .ok (.goto (-71), 3) := by decide +kernel
theorem dX9_keepAsSaved_81 : decode cX9_keepAsSaved 81 = .ok (.aload_n 0, 1) := by decide +kernel
theorem dX9_keepAsSaved_82 : decode cX9_keepAsSaved 82 = .ok (.aload_n 0, 1) := by decide +kernel
theorem dX9_keepAsSaved_83 : decode cX9_keepAsSaved 83 = .ok (.getfield 69, 3) := by decide +kernel
theorem dX9_keepAsSaved_86 : decode cX9_keepAsSaved 86 = .ok (.putfield 26, 3) := by decide +kernel
theorem dX9_keepAsSaved_89 : decode cX9_keepAsSaved 89 = .ok (.return_, 1) := by decide +kernel
theorem dX9_cursorSpot_0 : decode cX9_cursorSpot 0 = .ok (.aload_n 0, 1) := by decide +kernel
theorem dX9_cursorSpot_1 : decode cX9_cursorSpot 1 = .ok (.getfield 12, 3) := by decide +kernel
theorem dX9_cursorSpot_4 : decode cX9_cursorSpot 4 = .ok (.iload_n 1, 1) := by decide +kernel
theorem dX9_cursorSpot_5 : decode cX9_cursorSpot 5 = .ok (.ifCond .lt 17, 3) := by decide +kernel
theorem dX9_cursorSpot_8 : decode cX9_cursorSpot 8 = .ok (.iload_n 1, 1) := by decide +kernel
theorem dX9_cursorSpot_9 : decode cX9_cursorSpot 9 = .ok (.iconst 5, 1) := by decide +kernel
theorem dX9_cursorSpot_10 : decode cX9_cursorSpot 10 = .ok (.if_icmp .ge 12, 3) := by decide +kernel
theorem dX9_cursorSpot_13 : decode cX9_cursorSpot 13 = .ok (.aload_n 0, 1) := by decide +kernel
theorem dX9_cursorSpot_14 : decode cX9_cursorSpot 14 = .ok (.getfield 39, 3) := by decide +kernel
theorem dX9_cursorSpot_17 : decode cX9_cursorSpot 17 = .ok (.iload_n 1, 1) := by decide +kernel
theorem dX9_cursorSpot_18 : decode cX9_cursorSpot 18 = .ok (.iaload, 1) := by decide +kernel
theorem dX9_cursorSpot_19 : decode cX9_cursorSpot 19 = .ok (.goto 4, 3) := by decide +kernel
theorem dX9_cursorSpot_22 : decode cX9_cursorSpot 22 = .ok (.iconst (-1), 1) := by decide +kernel
theorem dX9_cursorSpot_23 : decode cX9_cursorSpot 23 = .ok (.invokevirtual 80, 3) := by decide +kernel
theorem dX9_cursorSpot_26 : decode cX9_cursorSpot 26 = .ok (.ireturn, 1) := by decide +kernel
theorem dX9_perform_0 : decode cX9_perform 0 = .ok (.aload_n 1, 1) := by decide +kernel
theorem dX9_perform_1 : decode cX9_perform 1 = .ok (.aload_n 0, 1) := by decide +kernel
theorem dX9_perform_2 : decode cX9_perform 2 = .ok (.getfield 12, 3) := by decide +kernel
theorem dX9_perform_5 : decode cX9_perform 5 = .ok (.invokevirtual 98, 3) := by decide +kernel
theorem dX9_perform_8 : decode cX9_perform 8 = .ok (.aload_n 0, 1) := by decide +kernel
theorem dX9_perform_9 : decode cX9_perform 9 = .ok (.getfield 35, 3) := by decide +kernel
theorem dX9_perform_12 : decode cX9_perform 12 = .ok (.invokeinterface 89 1, 5) := by decide +kernel
theorem dX9_perform_17 : decode cX9_perform 17 = .ok (.sipush 1174, 3) := by decide +kernel
theorem dX9_perform_20 : decode cX9_perform 20 = .ok (.if_icmp .ge 14, 3) := by decide +kernel
theorem dX9_perform_23 : decode cX9_perform 23 = .ok (.aload_n 0, 1) := by decide +kernel
theorem dX9_perform_24 : decode cX9_perform 24 = .ok (.getfield 35, 3) := by decide +kernel
theorem dX9_perform_27 : decode cX9_perform 27 = .ok (.aload_n 1, 1) := by decide +kernel
theorem dX9_perform_28 : decode cX9_perform 28 = .ok (.invokeinterface 112 2, 5) := by decide +kernel
theorem dX9_perform_33 : decode cX9_perform 33 = .ok (.pop, 1) := by decide +kernel
theorem dX9_perform_34 : decode cX9_perform 34 = .ok (.return_, 1) := by decide +kernel
theorem dX10_init_0 : decode cX10_init 0 = .ok (.aload_n 0, 1) := by decide +kernel
theorem dX10_init_1 : decode cX10_init 1 = .ok (.invokespecial 3, 3) := by decide +kernel
theorem dX10_init_4 : decode cX10_init 4 = .ok (.aload_n 0, 1) := by decide +kernel
theorem dX10_init_5 : decode cX10_init 5 = .ok (.iconst 3, 1) := by decide +kernel
theorem dX10_init_6 : decode cX10_init 6 = .ok (.anewarray 9, 3) := by decide +kernel
theorem dX10_init_9 : decode cX10_init 9 = .ok (.putfield 11, 3) := by decide +kernel
theorem dX10_init_12 : decode cX10_init 12 = .ok (.aload_n 0, 1) := by decide +kernel
theorem dX10_init_13 : decode cX10_init 13 = .ok (.iconst 5, 1) := by decide +kernel
theorem dX10_init_14 : decode cX10_init 14 = .ok (.anewarray 15, 3) := by decide +kernel
theorem dX10_init_17 : decode cX10_init 17 = .ok (.putfield 17, 3) := by decide +kernel
theorem dX10_init_20 : decode cX10_init 20 = .ok (.aload_n 0, 1) := by decide +kernel
theorem dX10_init_21 : decode cX10_init 21 = .ok (.new 21, 3) := by decide +kernel
theorem dX10_init_24 : decode cX10_init 24 = .ok (.dup, 1) := by decide +kernel
theorem dX10_init_25 : decode cX10_init 25 = .ok (.invokespecial 23, 3) := by decide +kernel
theorem dX10_init_28 : decode cX10_init 28 = .ok (.putfield 24, 3) := by decide +kernel
theorem dX10_init_31 : decode cX10_init 31 = .ok (.aload_n 0, 1) := by decide +kernel
theorem dX10_init_32 : decode cX10_init 32 = .ok (.new 21, 3) := by decide +kernel
theorem dX10_init_35 : decode cX10_init 35 = .ok (.dup, 1) := by decide +kernel
theorem dX10_init_36 : decode cX10_init 36 = .ok (.invokespecial 23, 3) := by decide +kernel
theorem dX10_init_39 : decode cX10_init 39 = .ok (.putfield 28, 3) := by decide +kernel
theorem dX10_init_42 : decode cX10_init 42 = .ok (.aload_n 0, 1) := by decide +kernel
theorem dX10_init_43 : decode cX10_init 43 = .ok (.new 31, 3) := by decide +kernel
theorem dX10_init_46 : decode cX10_init 46 = .ok (.dup, 1) := by decide +kernel
theorem dX10_init_47 : decode cX10_init 47 = .ok (.invokespecial 33, 3) := by decide +kernel
theorem dX10_init_50 : decode cX10_init 50 = .ok (.putfield 34, 3) := by decide +kernel
theorem dX10_init_53 : decode cX10_init 53 = .ok (.aload_n 0, 1) := by decide +kernel
theorem dX10_init_54 : decode cX10_init 54 = .ok (.new 38, 3) := by decide +kernel
theorem dX10_init_57 : decode cX10_init 57 = .ok (.dup, 1) := by decide +kernel
theorem dX10_init_58 : decode cX10_init 58 = .ok (.invokespecial 40, 3) := by decide +kernel
theorem dX10_init_61 : decode cX10_init 61 = .ok (.putfield 41, 3) := by decide +kernel
theorem dX10_init_64 : decode cX10_init 64 = .ok (.iconst 0, 1) := by decide +kernel
theorem dX10_init_65 : decode cX10_init 65 = .ok (.istore_n 1, 1) := by decide +kernel
theorem dX10_init_66 : decode cX10_init 66 = .ok (.iload_n 1, 1) := by decide +kernel
theorem dX10_init_67 : decode cX10_init 67 = .ok (.iconst 3, 1) := by decide +kernel
theorem dX10_init_68 : decode cX10_init 68 = .ok (.if_icmp .ge 23, 3) := by decide +kernel
theorem dX10_init_71 : decode cX10_init 71 = .ok (.aload_n 0, 1) := by decide +kernel
theorem dX10_init_72 : decode cX10_init 72 = .ok (.getfield 11, 3) := by decide +kernel
theorem dX10_init_75 : decode cX10_init 75 = .ok (.iload_n 1, 1) := by decide +kernel
theorem dX10_init_76 : decode cX10_init 76 = .ok (.new 9, 3) := by decide +kernel
theorem dX10_init_79 : decode cX10_init 79 = .ok (.dup, 1) := by decide +kernel
theorem dX10_init_80 : decode cX10_init 80 = .ok (.iload_n 1, 1) := by decide +kernel
theorem dX10_init_81 : decode cX10_init 81 = .ok (.invokespecial 45, 3) := by decide +kernel
theorem dX10_init_84 : decode cX10_init 84 = .ok (.aastore, 1) := by decide +kernel
theorem dX10_init_85 : decode cX10_init 85 = .ok (.iinc 1 1, 3) := by decide +kernel
theorem dX10_init_88 : decode cX10_init 88 = .ok (.goto (-22), 3) := by decide +kernel
theorem dX10_init_91 : decode cX10_init 91 = .ok (.iconst 0, 1) := by decide +kernel
theorem dX10_init_92 : decode cX10_init 92 = .ok (.istore_n 1, 1) := by decide +kernel
theorem dX10_init_93 : decode cX10_init 93 = .ok (.iload_n 1, 1) := by decide +kernel
theorem dX10_init_94 : decode cX10_init 94 = .ok (.iconst 5, 1) := by decide +kernel
theorem dX10_init_95 : decode cX10_init 95 = .ok (.if_icmp .ge 22, 3) := by decide +kernel
theorem dX10_init_98 : decode cX10_init 98 = .ok (.aload_n 0, 1) := by decide +kernel
theorem dX10_init_99 : decode cX10_init 99 = .ok (.getfield 17, 3) := by decide +kernel
theorem dX10_init_102 : decode cX10_init 102 = .ok (.iload_n 1, 1) := by decide +kernel
theorem dX10_init_103 : decode cX10_init 103 = .ok (.new 15, 3) := by decide +kernel
theorem dX10_init_106 : decode cX10_init 106 = .ok (.dup, 1) := by decide +kernel
theorem dX10_init_107 : decode cX10_init 107 = .ok (.invokespecial 48, 3) := by decide +kernel
theorem dX10_init_110 : decode cX10_init 110 = .ok (.aastore, 1) := by decide +kernel
theorem dX10_init_111 : decode cX10_init 111 = .ok (.iinc 1 1, 3) := by decide +kernel
theorem dX10_init_114 : decode cX10_init 114 = .ok (.goto (-21), 3) := by decide +kernel
theorem dX10_init_117 : decode cX10_init 117 = .ok (.return_, 1) := by decide +kernel
theorem dX10_type_0 : decode cX10_type 0 = .ok (.aload_n 0, 1) := by decide +kernel
theorem dX10_type_1 : decode cX10_type 1 = .ok (.iload_n 1, 1) := by decide +kernel
theorem dX10_type_2 : decode cX10_type 2 = .ok (.invokevirtual 49, 3) := by decide +kernel
theorem dX10_type_5 : decode cX10_type 5 = .ok (.astore 4, 2) := by decide +kernel
theorem dX10_type_7 : decode cX10_type 7 = .ok (.aload_n 0, 1) := by decide +kernel
theorem dX10_type_8 : decode cX10_type 8 = .ok (.iload_n 2, 1) := by decide +kernel
theorem dX10_type_9 : decode cX10_type 9 = .ok (.invokevirtual 53, 3) := by decide +kernel
theorem dX10_type_12 : decode cX10_type 12 = .ok (.astore 5, 2) := by decide +kernel
theorem dX10_type_14 : decode cX10_type 14 = .ok (.iload_n 3, 1) := by decide +kernel
theorem dX10_type_15 : decode cX10_type 15 = .ok (.invokestatic 57, 3) := by decide +kernel
theorem dX10_type_18 : decode cX10_type 18 = .ok (.ifCond .ne 13, 3) := by decide +kernel
theorem dX10_type_21 : decode cX10_type 21 = .ok (.new 61, 3) := by decide +kernel
theorem dX10_type_24 : decode cX10_type 24 = .ok (.dup, 1) := by decide +kernel
theorem dX10_type_25 : decode cX10_type 25 = .ok (.ldc 63, 2) := by decide +kernel
theorem dX10_type_27 : decode cX10_type 27 = .ok (.invokespecial 65, 3) := by decide +kernel
theorem dX10_type_30 : decode cX10_type 30 = .ok (.athrow, 1) := by decide +kernel
theorem dX10_type_31 : decode cX10_type 31 = .ok (.aload 5, 2) := by decide +kernel
theorem dX10_type_33 : decode cX10_type 33 = .ok (.getfield 68, 3) := by decide +kernel
theorem dX10_type_36 : decode cX10_type 36 = .ok (.invokevirtual 72, 3) := by decide +kernel
theorem dX10_type_39 : decode cX10_type 39 = .ok (.ifCond .eq 13, 3) := by decide +kernel
theorem dX10_type_42 : decode cX10_type 42 = .ok (.new 78, 3) := by decide +kernel
theorem dX10_type_45 : decode cX10_type 45 = .ok (.dup, 1) := by decide +kernel
theorem dX10_type_46 : decode cX10_type 46 = .ok (.ldc 80, 2) := by decide +kernel
theorem dX10_type_48 : decode cX10_type 48 = .ok (.invokespecial 82, 3) := by decide +kernel
theorem dX10_type_51 : decode cX10_type 51 = .ok (.athrow, 1) := by decide +kernel
theorem dX10_type_52 : decode cX10_type 52 = .ok (.aload 4, 2) := by decide +kernel
theorem dX10_type_54 : decode cX10_type 54 = .ok (.new 83, 3) := by decide +kernel
theorem dX10_type_57 : decode cX10_type 57 = .ok (.dup, 1) := by decide +kernel
theorem dX10_type_58 : decode cX10_type 58 = .ok (.aload 5, 2) := by decide +kernel
theorem dX10_type_60 : decode cX10_type 60 = .ok (.aload 5, 2) := by decide +kernel
theorem dX10_type_62 : decode cX10_type 62 = .ok (.iload_n 1, 1) := by decide +kernel
theorem dX10_type_63 : decode cX10_type 63 = .ok (.iload_n 3, 1) := by decide +kernel
theorem dX10_type_64 : decode cX10_type 64 = .ok (.invokevirtual 85, 3) := by decide +kernel
theorem dX10_type_67 : decode cX10_type 67 = .ok (.iconst 1, 1) := by decide +kernel
theorem dX10_type_68 : decode cX10_type 68 = .ok (.invokespecial 89, 3) := by decide +kernel
theorem dX10_type_71 : decode cX10_type 71 = .ok (.invokevirtual 92, 3) := by decide +kernel
theorem dX10_type_74 : decode cX10_type 74 = .ok (.aload 5, 2) := by decide +kernel
theorem dX10_type_76 : decode cX10_type 76 = .ok (.iload_n 1, 1) := by decide +kernel
theorem dX10_type_77 : decode cX10_type 77 = .ok (.invokevirtual 96, 3) := by decide +kernel
theorem dX10_type_80 : decode cX10_type 80 = .ok (.ireturn, 1) := by decide +kernel
theorem dX10_erase_0 : decode cX10_erase 0 = .ok (.aload_n 0, 1) := by decide +kernel
theorem dX10_erase_1 : decode cX10_erase 1 = .ok (.iload_n 1, 1) := by decide +kernel
theorem dX10_erase_2 : decode cX10_erase 2 = .ok (.invokevirtual 49, 3) := by decide +kernel
theorem dX10_erase_5 : decode cX10_erase 5 = .ok (.astore_n 3, 1) := by decide +kernel
theorem dX10_erase_6 : decode cX10_erase 6 = .ok (.aload_n 0, 1) := by decide +kernel
theorem dX10_erase_7 : decode cX10_erase 7 = .ok (.iload_n 2, 1) := by decide +kernel
theorem dX10_erase_8 : decode cX10_erase 8 = .ok (.invokevirtual 53, 3) := by decide +kernel
theorem dX10_erase_11 : decode cX10_erase 11 = .ok (.astore 4, 2) := by decide +kernel
theorem dX10_erase_13 : decode cX10_erase 13 = .ok (.aload 4, 2) := by decide +kernel
theorem dX10_erase_15 : decode cX10_erase 15 = .ok (.iload_n 1, 1) := by decide +kernel
theorem dX10_erase_16 : decode cX10_erase 16 = .ok (.invokevirtual 100, 3) := by decide +kernel
theorem dX10_erase_19 : decode cX10_erase 19 = .ok (.istore 5, 2) := by decide +kernel
theorem dX10_erase_21 : decode cX10_erase 21 = .ok (.iload 5, 2) := by decide +kernel
theorem dX10_erase_23 : decode cX10_erase 23 = .ok (.iconst (-1), 1) := by decide +kernel
theorem dX10_erase_24 : decode cX10_erase 24 = .ok (.if_icmp .ne 13, 3) := by decide +kernel
theorem dX10_erase_27 : decode cX10_erase 27 = .ok (.new 78, 3) := by decide +kernel
theorem dX10_erase_30 : decode cX10_erase 30 = .ok (.dup, 1) := by decide +kernel
theorem dX10_erase_31 : decode cX10_erase 31 = .ok (.ldc 103, 2) := by decide +kernel
theorem dX10_erase_33 : decode cX10_erase 33 = .ok (.invokespecial 82, 3) := by decide +kernel
theorem dX10_erase_36 : decode cX10_erase 36 = .ok (.athrow, 1) := by decide +kernel
theorem dX10_erase_37 : decode cX10_erase 37 = .ok (.aload 4, 2) := by decide +kernel
theorem dX10_erase_39 : decode cX10_erase 39 = .ok (.iload 5, 2) := by decide +kernel
theorem dX10_erase_41 : decode cX10_erase 41 = .ok (.iconst 0, 1) := by decide +kernel
theorem dX10_erase_42 : decode cX10_erase 42 = .ok (.invokevirtual 105, 3) := by decide +kernel
theorem dX10_erase_45 : decode cX10_erase 45 = .ok (.aload_n 3, 1) := by decide +kernel
theorem dX10_erase_46 : decode cX10_erase 46 = .ok (.new 83, 3) := by decide +kernel
theorem dX10_erase_49 : decode cX10_erase 49 = .ok (.dup, 1) := by decide +kernel
theorem dX10_erase_50 : decode cX10_erase 50 = .ok (.aload 4, 2) := by decide +kernel
theorem dX10_erase_52 : decode cX10_erase 52 = .ok (.iload 5, 2) := by decide +kernel
theorem dX10_erase_54 : decode cX10_erase 54 = .ok (.iconst 0, 1) := by decide +kernel
theorem dX10_erase_55 : decode cX10_erase 55 = .ok (.invokespecial 89, 3) := by decide +kernel
theorem dX10_erase_58 : decode cX10_erase 58 = .ok (.invokevirtual 92, 3) := by decide +kernel
theorem dX10_erase_61 : decode cX10_erase 61 = .ok (.aload 4, 2) := by decide +kernel
theorem dX10_erase_63 : decode cX10_erase 63 = .ok (.iload_n 1, 1) := by decide +kernel
theorem dX10_erase_64 : decode cX10_erase 64 = .ok (.invokevirtual 96, 3) := by decide +kernel
theorem dX10_erase_67 : decode cX10_erase 67 = .ok (.ireturn, 1) := by decide +kernel
theorem dX10_moveTo_0 : decode cX10_moveTo 0 = .ok (.aload_n 0, 1) := by decide +kernel
theorem dX10_moveTo_1 : decode cX10_moveTo 1 = .ok (.iload_n 1, 1) := by decide +kernel
theorem dX10_moveTo_2 : decode cX10_moveTo 2 = .ok (.invokevirtual 49, 3) := by decide +kernel
theorem dX10_moveTo_5 : decode cX10_moveTo 5 = .ok (.pop, 1) := by decide +kernel
theorem dX10_moveTo_6 : decode cX10_moveTo 6 = .ok (.aload_n 0, 1) := by decide +kernel
theorem dX10_moveTo_7 : decode cX10_moveTo 7 = .ok (.iload_n 2, 1) := by decide +kernel
theorem dX10_moveTo_8 : decode cX10_moveTo 8 = .ok (.invokevirtual 53, 3) := by decide +kernel
theorem dX10_moveTo_11 : decode cX10_moveTo 11 = .ok (.astore 4, 2) := by decide +kernel
theorem dX10_moveTo_13 : decode cX10_moveTo 13 = .ok (.iload_n 3, 1) := by decide +kernel
theorem dX10_moveTo_14 : decode cX10_moveTo 14 = .ok (.ifCond .lt 15, 3) := by decide +kernel
theorem dX10_moveTo_17 : decode cX10_moveTo 17 = .ok (.iload_n 3, 1) := by decide +kernel
theorem dX10_moveTo_18 : decode cX10_moveTo 18 = .ok (.aload 4, 2) := by decide +kernel
theorem dX10_moveTo_20 : decode cX10_moveTo 20 = .ok (.getfield 68, 3) := by decide +kernel
theorem dX10_moveTo_23 : decode cX10_moveTo 23 = .ok (.invokevirtual 109, 3) := by decide +kernel
theorem dX10_moveTo_26 : decode cX10_moveTo 26 = .ok (.if_icmp .le 13, 3) := by decide +kernel
theorem dX10_moveTo_29 : decode cX10_moveTo 29 = .ok (.new 113, 3) := by decide +kernel
theorem dX10_moveTo_32 : decode cX10_moveTo 32 = .ok (.dup, 1) := by decide +kernel
theorem dX10_moveTo_33 : decode cX10_moveTo 33 = .ok (.ldc 115, 2) := by decide +kernel
theorem dX10_moveTo_35 : decode cX10_moveTo 35 = .ok (.invokespecial 117, 3) := by decide +kernel
theorem dX10_moveTo_38 : decode cX10_moveTo 38 = .ok (.athrow, 1) := by decide +kernel
theorem dX10_moveTo_39 : decode cX10_moveTo 39 = .ok (.aload 4, 2) := by decide +kernel
theorem dX10_moveTo_41 : decode cX10_moveTo 41 = .ok (.iload_n 1, 1) := by decide +kernel
theorem dX10_moveTo_42 : decode cX10_moveTo 42 = .ok (.invokevirtual 96, 3) := by decide +kernel
theorem dX10_moveTo_45 : decode cX10_moveTo 45 = .ok (.istore 5, 2) := by decide +kernel
theorem dX10_moveTo_47 : decode cX10_moveTo 47 = .ok (.aload 4, 2) := by decide +kernel
theorem dX10_moveTo_49 : decode cX10_moveTo 49 = .ok (.iload_n 1, 1) := by decide +kernel
theorem dX10_moveTo_50 : decode cX10_moveTo 50 = .ok (.aload 4, 2) := by decide +kernel
theorem dX10_moveTo_52 : decode cX10_moveTo 52 = .ok (.getfield 68, 3) := by decide +kernel
theorem dX10_moveTo_55 : decode cX10_moveTo 55 = .ok (.iload_n 3, 1) := by decide +kernel
theorem dX10_moveTo_56 : decode cX10_moveTo 56 = .ok (.invokevirtual 118, 3) := by decide +kernel
theorem dX10_moveTo_59 : decode cX10_moveTo 59 = .ok (.invokevirtual 121, 3) := by decide +kernel
theorem dX10_moveTo_62 : decode cX10_moveTo 62 = .ok (.iload 5, 2) := by decide +kernel
theorem dX10_moveTo_64 : decode cX10_moveTo 64 = .ok (.ireturn, 1) := by decide +kernel
theorem dX10_undo_0 : decode cX10_undo 0 = .ok (.aload_n 0, 1) := by decide +kernel
theorem dX10_undo_1 : decode cX10_undo 1 = .ok (.iload_n 1, 1) := by decide +kernel
theorem dX10_undo_2 : decode cX10_undo 2 = .ok (.invokevirtual 49, 3) := by decide +kernel
theorem dX10_undo_5 : decode cX10_undo 5 = .ok (.invokevirtual 125, 3) := by decide +kernel
theorem dX10_undo_8 : decode cX10_undo 8 = .ok (.astore_n 2, 1) := by decide +kernel
theorem dX10_undo_9 : decode cX10_undo 9 = .ok (.aload_n 2, 1) := by decide +kernel
theorem dX10_undo_10 : decode cX10_undo 10 = .ok (.ifnonnull 13, 3) := by decide +kernel
theorem dX10_undo_13 : decode cX10_undo 13 = .ok (.new 78, 3) := by decide +kernel
theorem dX10_undo_16 : decode cX10_undo 16 = .ok (.dup, 1) := by decide +kernel
theorem dX10_undo_17 : decode cX10_undo 17 = .ok (.ldc 129, 2) := by decide +kernel
theorem dX10_undo_19 : decode cX10_undo 19 = .ok (.invokespecial 82, 3) := by decide +kernel
theorem dX10_undo_22 : decode cX10_undo 22 = .ok (.athrow, 1) := by decide +kernel
theorem dX10_undo_23 : decode cX10_undo 23 = .ok (.aload_n 2, 1) := by decide +kernel
theorem dX10_undo_24 : decode cX10_undo 24 = .ok (.getfield 131, 3) := by decide +kernel
theorem dX10_undo_27 : decode cX10_undo 27 = .ok (.aload_n 2, 1) := by decide +kernel
theorem dX10_undo_28 : decode cX10_undo 28 = .ok (.getfield 135, 3) := by decide +kernel
theorem dX10_undo_31 : decode cX10_undo 31 = .ok (.aload_n 2, 1) := by decide +kernel
theorem dX10_undo_32 : decode cX10_undo 32 = .ok (.getfield 139, 3) := by decide +kernel
theorem dX10_undo_35 : decode cX10_undo 35 = .ok (.ifCond .ne 7, 3) := by decide +kernel
theorem dX10_undo_38 : decode cX10_undo 38 = .ok (.iconst 1, 1) := by decide +kernel
theorem dX10_undo_39 : decode cX10_undo 39 = .ok (.goto 4, 3) := by decide +kernel
theorem dX10_undo_42 : decode cX10_undo 42 = .ok (.iconst 0, 1) := by decide +kernel
theorem dX10_undo_43 : decode cX10_undo 43 = .ok (.invokevirtual 105, 3) := by decide +kernel
theorem dX10_undo_46 : decode cX10_undo 46 = .ok (.aload_n 2, 1) := by decide +kernel
theorem dX10_undo_47 : decode cX10_undo 47 = .ok (.getfield 131, 3) := by decide +kernel
theorem dX10_undo_50 : decode cX10_undo 50 = .ok (.getfield 143, 3) := by decide +kernel
theorem dX10_undo_53 : decode cX10_undo 53 = .ok (.ireturn, 1) := by decide +kernel
theorem dX10_redo_0 : decode cX10_redo 0 = .ok (.aload_n 0, 1) := by decide +kernel
theorem dX10_redo_1 : decode cX10_redo 1 = .ok (.iload_n 1, 1) := by decide +kernel
theorem dX10_redo_2 : decode cX10_redo 2 = .ok (.invokevirtual 49, 3) := by decide +kernel
theorem dX10_redo_5 : decode cX10_redo 5 = .ok (.invokevirtual 146, 3) := by decide +kernel
theorem dX10_redo_8 : decode cX10_redo 8 = .ok (.astore_n 2, 1) := by decide +kernel
theorem dX10_redo_9 : decode cX10_redo 9 = .ok (.aload_n 2, 1) := by decide +kernel
theorem dX10_redo_10 : decode cX10_redo 10 = .ok (.ifnonnull 13, 3) := by decide +kernel
theorem dX10_redo_13 : decode cX10_redo 13 = .ok (.new 78, 3) := by decide +kernel
theorem dX10_redo_16 : decode cX10_redo 16 = .ok (.dup, 1) := by decide +kernel
theorem dX10_redo_17 : decode cX10_redo 17 = .ok (.ldc 149, 2) := by decide +kernel
theorem dX10_redo_19 : decode cX10_redo 19 = .ok (.invokespecial 82, 3) := by decide +kernel
theorem dX10_redo_22 : decode cX10_redo 22 = .ok (.athrow, 1) := by decide +kernel
theorem dX10_redo_23 : decode cX10_redo 23 = .ok (.aload_n 2, 1) := by decide +kernel
theorem dX10_redo_24 : decode cX10_redo 24 = .ok (.getfield 131, 3) := by decide +kernel
theorem dX10_redo_27 : decode cX10_redo 27 = .ok (.aload_n 2, 1) := by decide +kernel
theorem dX10_redo_28 : decode cX10_redo 28 = .ok (.getfield 135, 3) := by decide +kernel
theorem dX10_redo_31 : decode cX10_redo 31 = .ok (.aload_n 2, 1) := by decide +kernel
theorem dX10_redo_32 : decode cX10_redo 32 = .ok (.getfield 139, 3) := by decide +kernel
theorem dX10_redo_35 : decode cX10_redo 35 = .ok (.invokevirtual 105, 3) := by decide +kernel
theorem dX10_redo_38 : decode cX10_redo 38 = .ok (.aload_n 2, 1) := by decide +kernel
theorem dX10_redo_39 : decode cX10_redo 39 = .ok (.getfield 131, 3) := by decide +kernel
theorem dX10_redo_42 : decode cX10_redo 42 = .ok (.getfield 143, 3) := by decide +kernel
theorem dX10_redo_45 : decode cX10_redo 45 = .ok (.ireturn, 1) := by decide +kernel
theorem dX10_place_0 : decode cX10_place 0 = .ok (.aload_n 0, 1) := by decide +kernel
theorem dX10_place_1 : decode cX10_place 1 = .ok (.iload_n 1, 1) := by decide +kernel
theorem dX10_place_2 : decode cX10_place 2 = .ok (.invokevirtual 49, 3) := by decide +kernel
theorem dX10_place_5 : decode cX10_place 5 = .ok (.pop, 1) := by decide +kernel
theorem dX10_place_6 : decode cX10_place 6 = .ok (.aload_n 0, 1) := by decide +kernel
theorem dX10_place_7 : decode cX10_place 7 = .ok (.iload_n 2, 1) := by decide +kernel
theorem dX10_place_8 : decode cX10_place 8 = .ok (.invokevirtual 53, 3) := by decide +kernel
theorem dX10_place_11 : decode cX10_place 11 = .ok (.iload_n 1, 1) := by decide +kernel
theorem dX10_place_12 : decode cX10_place 12 = .ok (.invokevirtual 96, 3) := by decide +kernel
theorem dX10_place_15 : decode cX10_place 15 = .ok (.ireturn, 1) := by decide +kernel
theorem dX10_length_0 : decode cX10_length 0 = .ok (.aload_n 0, 1) := by decide +kernel
theorem dX10_length_1 : decode cX10_length 1 = .ok (.iload_n 1, 1) := by decide +kernel
theorem dX10_length_2 : decode cX10_length 2 = .ok (.invokevirtual 53, 3) := by decide +kernel
theorem dX10_length_5 : decode cX10_length 5 = .ok (.getfield 68, 3) := by decide +kernel
theorem dX10_length_8 : decode cX10_length 8 = .ok (.invokevirtual 109, 3) := by decide +kernel
theorem dX10_length_11 : decode cX10_length 11 = .ok (.ireturn, 1) := by decide +kernel
theorem dX10_letter_0 : decode cX10_letter 0 = .ok (.aload_n 0, 1) := by decide +kernel
theorem dX10_letter_1 : decode cX10_letter 1 = .ok (.iload_n 1, 1) := by decide +kernel
theorem dX10_letter_2 : decode cX10_letter 2 = .ok (.invokevirtual 53, 3) := by decide +kernel
theorem dX10_letter_5 : decode cX10_letter 5 = .ok (.getfield 68, 3) := by decide +kernel
theorem dX10_letter_8 : decode cX10_letter 8 = .ok (.iload_n 2, 1) := by decide +kernel
theorem dX10_letter_9 : decode cX10_letter 9 = .ok (.invokestatic 151, 3) := by decide +kernel
theorem dX10_letter_12 : decode cX10_letter 12 = .ok (.ireturn, 1) := by decide +kernel
theorem dX10_letterAnew_0 : decode cX10_letterAnew 0 = .ok (.aload_n 0, 1) := by decide +kernel
theorem dX10_letterAnew_1 : decode cX10_letterAnew 1 = .ok (.iload_n 1, 1) := by decide +kernel
theorem dX10_letterAnew_2 : decode cX10_letterAnew 2 = .ok (.invokevirtual 53, 3) := by decide +kernel
theorem dX10_letterAnew_5 : decode cX10_letterAnew 5 = .ok (.invokevirtual 155, 3) := by decide +kernel
theorem dX10_letterAnew_8 : decode cX10_letterAnew 8 = .ok (.iload_n 2, 1) := by decide +kernel
theorem dX10_letterAnew_9 : decode cX10_letterAnew 9 = .ok (.invokestatic 151, 3) := by decide +kernel
theorem dX10_letterAnew_12 : decode cX10_letterAnew 12 = .ok (.ireturn, 1) := by decide +kernel
theorem dX10_version_0 : decode cX10_version 0 = .ok (.aload_n 0, 1) := by decide +kernel
theorem dX10_version_1 : decode cX10_version 1 = .ok (.iload_n 1, 1) := by decide +kernel
theorem dX10_version_2 : decode cX10_version 2 = .ok (.invokevirtual 53, 3) := by decide +kernel
theorem dX10_version_5 : decode cX10_version 5 = .ok (.getfield 159, 3) := by decide +kernel
theorem dX10_version_8 : decode cX10_version 8 = .ok (.ireturn, 1) := by decide +kernel
theorem dX10_ask_0 : decode cX10_ask 0 = .ok (.aload_n 0, 1) := by decide +kernel
theorem dX10_ask_1 : decode cX10_ask 1 = .ok (.iload_n 1, 1) := by decide +kernel
theorem dX10_ask_2 : decode cX10_ask 2 = .ok (.invokevirtual 53, 3) := by decide +kernel
theorem dX10_ask_5 : decode cX10_ask 5 = .ok (.astore 4, 2) := by decide +kernel
theorem dX10_ask_7 : decode cX10_ask 7 = .ok (.iload_n 2, 1) := by decide +kernel
theorem dX10_ask_8 : decode cX10_ask 8 = .ok (.iload_n 3, 1) := by decide +kernel
theorem dX10_ask_9 : decode cX10_ask 9 = .ok (.invokestatic 162, 3) := by decide +kernel
theorem dX10_ask_12 : decode cX10_ask 12 = .ok (.ifCond .ne 13, 3) := by decide +kernel
theorem dX10_ask_15 : decode cX10_ask 15 = .ok (.new 61, 3) := by decide +kernel
theorem dX10_ask_18 : decode cX10_ask 18 = .ok (.dup, 1) := by decide +kernel
theorem dX10_ask_19 : decode cX10_ask 19 = .ok (.ldc 166, 2) := by decide +kernel
theorem dX10_ask_21 : decode cX10_ask 21 = .ok (.invokespecial 65, 3) := by decide +kernel
theorem dX10_ask_24 : decode cX10_ask 24 = .ok (.athrow, 1) := by decide +kernel
theorem dX10_ask_25 : decode cX10_ask 25 = .ok (.aload_n 0, 1) := by decide +kernel
theorem dX10_ask_26 : decode cX10_ask 26 = .ok (.getfield 24, 3) := by decide +kernel
theorem dX10_ask_29 : decode cX10_ask 29 = .ok (.invokeinterface 168 1, 5) := by decide +kernel
theorem dX10_ask_34 : decode cX10_ask 34 = .ok (.bipush 60, 2) := by decide +kernel
theorem dX10_ask_36 : decode cX10_ask 36 = .ok (.if_icmp .lt 13, 3) := by decide +kernel
theorem dX10_ask_39 : decode cX10_ask 39 = .ok (.new 78, 3) := by decide +kernel
theorem dX10_ask_42 : decode cX10_ask 42 = .ok (.dup, 1) := by decide +kernel
theorem dX10_ask_43 : decode cX10_ask 43 = .ok (.ldc 173, 2) := by decide +kernel
theorem dX10_ask_45 : decode cX10_ask 45 = .ok (.invokespecial 82, 3) := by decide +kernel
theorem dX10_ask_48 : decode cX10_ask 48 = .ok (.athrow, 1) := by decide +kernel
theorem dX10_ask_49 : decode cX10_ask 49 = .ok (.aload_n 0, 1) := by decide +kernel
theorem dX10_ask_50 : decode cX10_ask 50 = .ok (.getfield 34, 3) := by decide +kernel
theorem dX10_ask_53 : decode cX10_ask 53 = .ok (.aload 4, 2) := by decide +kernel
theorem dX10_ask_55 : decode cX10_ask 55 = .ok (.getfield 68, 3) := by decide +kernel
theorem dX10_ask_58 : decode cX10_ask 58 = .ok (.iload_n 2, 1) := by decide +kernel
theorem dX10_ask_59 : decode cX10_ask 59 = .ok (.iload_n 3, 1) := by decide +kernel
theorem dX10_ask_60 : decode cX10_ask 60 = .ok (.invokevirtual 175, 3) := by decide +kernel
theorem dX10_ask_63 : decode cX10_ask 63 = .ok (.aload_n 0, 1) := by decide +kernel
theorem dX10_ask_64 : decode cX10_ask 64 = .ok (.getfield 24, 3) := by decide +kernel
theorem dX10_ask_67 : decode cX10_ask 67 = .ok (.new 179, 3) := by decide +kernel
theorem dX10_ask_70 : decode cX10_ask 70 = .ok (.dup, 1) := by decide +kernel
theorem dX10_ask_71 : decode cX10_ask 71 = .ok (.aload 4, 2) := by decide +kernel
theorem dX10_ask_73 : decode cX10_ask 73 = .ok (.aload_n 0, 1) := by decide +kernel
theorem dX10_ask_74 : decode cX10_ask 74 = .ok (.getfield 34, 3) := by decide +kernel
theorem dX10_ask_77 : decode cX10_ask 77 = .ok (.aload 4, 2) := by decide +kernel
theorem dX10_ask_79 : decode cX10_ask 79 = .ok (.getfield 68, 3) := by decide +kernel
theorem dX10_ask_82 : decode cX10_ask 82 = .ok (.aload_n 0, 1) := by decide +kernel
theorem dX10_ask_83 : decode cX10_ask 83 = .ok (.getfield 41, 3) := by decide +kernel
theorem dX10_ask_86 : decode cX10_ask 86 = .ok (.invokevirtual 181, 3) := by decide +kernel
theorem dX10_ask_89 : decode cX10_ask 89 = .ok (.invokespecial 185, 3) := by decide +kernel
theorem dX10_ask_92 : decode cX10_ask 92 = .ok (.invokeinterface 188 2, 5) := by decide +kernel
theorem dX10_ask_97 : decode cX10_ask 97 = .ok (.pop, 1) := by decide +kernel
theorem dX10_ask_98 : decode cX10_ask 98 = .ok (.aload_n 0, 1) := by decide +kernel
theorem dX10_ask_99 : decode cX10_ask 99 = .ok (.getfield 24, 3) := by decide +kernel
theorem dX10_ask_102 : decode cX10_ask 102 = .ok (.invokeinterface 168 1, 5) := by decide +kernel
theorem dX10_ask_107 : decode cX10_ask 107 = .ok (.iconst 1, 1) := by decide +kernel
theorem dX10_ask_108 : decode cX10_ask 108 = .ok (.isub, 1) := by decide +kernel
theorem dX10_ask_109 : decode cX10_ask 109 = .ok (.ireturn, 1) := by decide +kernel
theorem dX10_come_0 : decode cX10_come 0 = .ok (.aload_n 0, 1) := by decide +kernel
theorem dX10_come_1 : decode cX10_come 1 = .ok (.iload_n 1, 1) := by decide +kernel
theorem dX10_come_2 : decode cX10_come 2 = .ok (.invokevirtual 192, 3) := by decide +kernel
theorem dX10_come_5 : decode cX10_come 5 = .ok (.astore_n 2, 1) := by decide +kernel
theorem dX10_come_6 : decode cX10_come 6 = .ok (.aload_n 2, 1) := by decide +kernel
theorem dX10_come_7 : decode cX10_come 7 = .ok (.aload_n 0, 1) := by decide +kernel
theorem dX10_come_8 : decode cX10_come 8 = .ok (.getfield 41, 3) := by decide +kernel
theorem dX10_come_11 : decode cX10_come 11 = .ok (.invokevirtual 196, 3) := by decide +kernel
theorem dX10_come_14 : decode cX10_come 14 = .ok (.istore_n 3, 1) := by decide +kernel
theorem dX10_come_15 : decode cX10_come 15 = .ok (.aload_n 2, 1) := by decide +kernel
theorem dX10_come_16 : decode cX10_come 16 = .ok (.invokevirtual 200, 3) := by decide +kernel
theorem dX10_come_19 : decode cX10_come 19 = .ok (.aload_n 2, 1) := by decide +kernel
theorem dX10_come_20 : decode cX10_come 20 = .ok (.iconst 1, 1) := by decide +kernel
theorem dX10_come_21 : decode cX10_come 21 = .ok (.iload_n 3, 1) := by decide +kernel
theorem dX10_come_22 : decode cX10_come 22 = .ok (.invokevirtual 203, 3) := by decide +kernel
theorem dX10_come_25 : decode cX10_come 25 = .ok (.aload_n 2, 1) := by decide +kernel
theorem dX10_come_26 : decode cX10_come 26 = .ok (.getfield 206, 3) := by decide +kernel
theorem dX10_come_29 : decode cX10_come 29 = .ok (.invokeinterface 168 1, 5) := by decide +kernel
theorem dX10_come_34 : decode cX10_come 34 = .ok (.iload_n 3, 1) := by decide +kernel
theorem dX10_come_35 : decode cX10_come 35 = .ok (.isub, 1) := by decide +kernel
theorem dX10_come_36 : decode cX10_come 36 = .ok (.ireturn, 1) := by decide +kernel
theorem dX10_drop_0 : decode cX10_drop 0 = .ok (.aload_n 0, 1) := by decide +kernel
theorem dX10_drop_1 : decode cX10_drop 1 = .ok (.iload_n 1, 1) := by decide +kernel
theorem dX10_drop_2 : decode cX10_drop 2 = .ok (.invokevirtual 192, 3) := by decide +kernel
theorem dX10_drop_5 : decode cX10_drop 5 = .ok (.astore_n 2, 1) := by decide +kernel
theorem dX10_drop_6 : decode cX10_drop 6 = .ok (.aload_n 2, 1) := by decide +kernel
theorem dX10_drop_7 : decode cX10_drop 7 = .ok (.iconst 2, 1) := by decide +kernel
theorem dX10_drop_8 : decode cX10_drop 8 = .ok (.aload_n 2, 1) := by decide +kernel
theorem dX10_drop_9 : decode cX10_drop 9 = .ok (.getfield 206, 3) := by decide +kernel
theorem dX10_drop_12 : decode cX10_drop 12 = .ok (.invokeinterface 168 1, 5) := by decide +kernel
theorem dX10_drop_17 : decode cX10_drop 17 = .ok (.invokevirtual 203, 3) := by decide +kernel
theorem dX10_drop_20 : decode cX10_drop 20 = .ok (.aload_n 2, 1) := by decide +kernel
theorem dX10_drop_21 : decode cX10_drop 21 = .ok (.getfield 206, 3) := by decide +kernel
theorem dX10_drop_24 : decode cX10_drop 24 = .ok (.invokeinterface 168 1, 5) := by decide +kernel
theorem dX10_drop_29 : decode cX10_drop 29 = .ok (.ireturn, 1) := by decide +kernel
theorem dX10_state_0 : decode cX10_state 0 = .ok (.aload_n 0, 1) := by decide +kernel
theorem dX10_state_1 : decode cX10_state 1 = .ok (.iload_n 1, 1) := by decide +kernel
theorem dX10_state_2 : decode cX10_state 2 = .ok (.invokevirtual 208, 3) := by decide +kernel
theorem dX10_state_5 : decode cX10_state 5 = .ok (.getfield 211, 3) := by decide +kernel
theorem dX10_state_8 : decode cX10_state 8 = .ok (.ireturn, 1) := by decide +kernel
theorem dX10_spared_0 : decode cX10_spared 0 = .ok (.aload_n 0, 1) := by decide +kernel
theorem dX10_spared_1 : decode cX10_spared 1 = .ok (.iload_n 1, 1) := by decide +kernel
theorem dX10_spared_2 : decode cX10_spared 2 = .ok (.invokevirtual 208, 3) := by decide +kernel
theorem dX10_spared_5 : decode cX10_spared 5 = .ok (.astore_n 2, 1) := by decide +kernel
theorem dX10_spared_6 : decode cX10_spared 6 = .ok (.aload_n 2, 1) := by decide +kernel
theorem dX10_spared_7 : decode cX10_spared 7 = .ok (.getfield 211, 3) := by decide +kernel
theorem dX10_spared_10 : decode cX10_spared 10 = .ok (.ifCond .ne 14, 3) := by decide +kernel
theorem dX10_spared_13 : decode cX10_spared 13 = .ok (.aload_n 2, 1) := by decide +kernel
theorem dX10_spared_14 : decode cX10_spared 14 = .ok (.aload_n 0, 1) := by decide +kernel
theorem dX10_spared_15 : decode cX10_spared 15 = .ok (.getfield 41, 3) := by decide +kernel
theorem dX10_spared_18 : decode cX10_spared 18 = .ok (.invokevirtual 196, 3) := by decide +kernel
theorem dX10_spared_21 : decode cX10_spared 21 = .ok (.goto 7, 3) := by decide +kernel
theorem dX10_spared_24 : decode cX10_spared 24 = .ok (.aload_n 2, 1) := by decide +kernel
theorem dX10_spared_25 : decode cX10_spared 25 = .ok (.getfield 214, 3) := by decide +kernel
theorem dX10_spared_28 : decode cX10_spared 28 = .ok (.ireturn, 1) := by decide +kernel
theorem dX10_lock_0 : decode cX10_lock 0 = .ok (.aload_n 0, 1) := by decide +kernel
theorem dX10_lock_1 : decode cX10_lock 1 = .ok (.iload_n 1, 1) := by decide +kernel
theorem dX10_lock_2 : decode cX10_lock 2 = .ok (.invokevirtual 49, 3) := by decide +kernel
theorem dX10_lock_5 : decode cX10_lock 5 = .ok (.pop, 1) := by decide +kernel
theorem dX10_lock_6 : decode cX10_lock 6 = .ok (.aload_n 0, 1) := by decide +kernel
theorem dX10_lock_7 : decode cX10_lock 7 = .ok (.iload_n 2, 1) := by decide +kernel
theorem dX10_lock_8 : decode cX10_lock 8 = .ok (.invokevirtual 53, 3) := by decide +kernel
theorem dX10_lock_11 : decode cX10_lock 11 = .ok (.astore_n 3, 1) := by decide +kernel
theorem dX10_lock_12 : decode cX10_lock 12 = .ok (.aload_n 3, 1) := by decide +kernel
theorem dX10_lock_13 : decode cX10_lock 13 = .ok (.iload_n 1, 1) := by decide +kernel
theorem dX10_lock_14 : decode cX10_lock 14 = .ok (.invokevirtual 217, 3) := by decide +kernel
theorem dX10_lock_17 : decode cX10_lock 17 = .ok (.ifCond .ne 13, 3) := by decide +kernel
theorem dX10_lock_20 : decode cX10_lock 20 = .ok (.new 78, 3) := by decide +kernel
theorem dX10_lock_23 : decode cX10_lock 23 = .ok (.dup, 1) := by decide +kernel
theorem dX10_lock_24 : decode cX10_lock 24 = .ok (.ldc 221, 2) := by decide +kernel
theorem dX10_lock_26 : decode cX10_lock 26 = .ok (.invokespecial 82, 3) := by decide +kernel
theorem dX10_lock_29 : decode cX10_lock 29 = .ok (.athrow, 1) := by decide +kernel
theorem dX10_lock_30 : decode cX10_lock 30 = .ok (.aload_n 3, 1) := by decide +kernel
theorem dX10_lock_31 : decode cX10_lock 31 = .ok (.aload_n 3, 1) := by decide +kernel
theorem dX10_lock_32 : decode cX10_lock 32 = .ok (.getfield 223, 3) := by decide +kernel
theorem dX10_lock_35 : decode cX10_lock 35 = .ok (.iload_n 1, 1) := by decide +kernel
theorem dX10_lock_36 : decode cX10_lock 36 = .ok (.if_icmp .ne 7, 3) := by decide +kernel
theorem dX10_lock_39 : decode cX10_lock 39 = .ok (.iconst (-1), 1) := by decide +kernel
theorem dX10_lock_40 : decode cX10_lock 40 = .ok (.goto 4, 3) := by decide +kernel
theorem dX10_lock_43 : decode cX10_lock 43 = .ok (.iload_n 1, 1) := by decide +kernel
theorem dX10_lock_44 : decode cX10_lock 44 = .ok (.putfield 223, 3) := by decide +kernel
theorem dX10_lock_47 : decode cX10_lock 47 = .ok (.aload_n 3, 1) := by decide +kernel
theorem dX10_lock_48 : decode cX10_lock 48 = .ok (.getfield 223, 3) := by decide +kernel
theorem dX10_lock_51 : decode cX10_lock 51 = .ok (.iload_n 1, 1) := by decide +kernel
theorem dX10_lock_52 : decode cX10_lock 52 = .ok (.if_icmp .ne 7, 3) := by decide +kernel
theorem dX10_lock_55 : decode cX10_lock 55 = .ok (.iconst 1, 1) := by decide +kernel
theorem dX10_lock_56 : decode cX10_lock 56 = .ok (.goto 4, 3) := by decide +kernel
theorem dX10_lock_59 : decode cX10_lock 59 = .ok (.iconst 0, 1) := by decide +kernel
theorem dX10_lock_60 : decode cX10_lock 60 = .ok (.ireturn, 1) := by decide +kernel
theorem dX10_save_0 : decode cX10_save 0 = .ok (.aload_n 0, 1) := by decide +kernel
theorem dX10_save_1 : decode cX10_save 1 = .ok (.iload_n 1, 1) := by decide +kernel
theorem dX10_save_2 : decode cX10_save 2 = .ok (.invokevirtual 49, 3) := by decide +kernel
theorem dX10_save_5 : decode cX10_save 5 = .ok (.pop, 1) := by decide +kernel
theorem dX10_save_6 : decode cX10_save 6 = .ok (.aload_n 0, 1) := by decide +kernel
theorem dX10_save_7 : decode cX10_save 7 = .ok (.iload_n 2, 1) := by decide +kernel
theorem dX10_save_8 : decode cX10_save 8 = .ok (.invokevirtual 53, 3) := by decide +kernel
theorem dX10_save_11 : decode cX10_save 11 = .ok (.astore 4, 2) := by decide +kernel
theorem dX10_save_13 : decode cX10_save 13 = .ok (.iload_n 3, 1) := by decide +kernel
theorem dX10_save_14 : decode cX10_save 14 = .ok (.iconst (-1), 1) := by decide +kernel
theorem dX10_save_15 : decode cX10_save 15 = .ok (.if_icmp .ne 7, 3) := by decide +kernel
theorem dX10_save_18 : decode cX10_save 18 = .ok (.aconst_null, 1) := by decide +kernel
theorem dX10_save_19 : decode cX10_save 19 = .ok (.goto 8, 3) := by decide +kernel
theorem dX10_save_22 : decode cX10_save 22 = .ok (.aload_n 0, 1) := by decide +kernel
theorem dX10_save_23 : decode cX10_save 23 = .ok (.iload_n 3, 1) := by decide +kernel
theorem dX10_save_24 : decode cX10_save 24 = .ok (.invokevirtual 208, 3) := by decide +kernel
theorem dX10_save_27 : decode cX10_save 27 = .ok (.astore 5, 2) := by decide +kernel
theorem dX10_save_29 : decode cX10_save 29 = .ok (.aload 5, 2) := by decide +kernel
theorem dX10_save_31 : decode cX10_save 31 = .ok (.ifnull 23, 3) := by decide +kernel
theorem dX10_save_34 : decode cX10_save 34 = .ok (.aload 5, 2) := by decide +kernel
theorem dX10_save_36 : decode cX10_save 36 = .ok (.getfield 226, 3) := by decide +kernel
theorem dX10_save_39 : decode cX10_save 39 = .ok (.aload 4, 2) := by decide +kernel
theorem dX10_save_41 : decode cX10_save 41 = .ok (.if_acmp .eq 13, 3) := by decide +kernel
theorem dX10_save_44 : decode cX10_save 44 = .ok (.new 61, 3) := by decide +kernel
theorem dX10_save_47 : decode cX10_save 47 = .ok (.dup, 1) := by decide +kernel
theorem dX10_save_48 : decode cX10_save 48 = .ok (.ldc 227, 2) := by decide +kernel
theorem dX10_save_50 : decode cX10_save 50 = .ok (.invokespecial 65, 3) := by decide +kernel
theorem dX10_save_53 : decode cX10_save 53 = .ok (.athrow, 1) := by decide +kernel
theorem dX10_save_54 : decode cX10_save 54 = .ok (.aload_n 0, 1) := by decide +kernel
theorem dX10_save_55 : decode cX10_save 55 = .ok (.getfield 229, 3) := by decide +kernel
theorem dX10_save_58 : decode cX10_save 58 = .ok (.bipush 60, 2) := by decide +kernel
theorem dX10_save_60 : decode cX10_save 60 = .ok (.if_icmp .lt 13, 3) := by decide +kernel
theorem dX10_save_63 : decode cX10_save 63 = .ok (.new 78, 3) := by decide +kernel
theorem dX10_save_66 : decode cX10_save 66 = .ok (.dup, 1) := by decide +kernel
theorem dX10_save_67 : decode cX10_save 67 = .ok (.ldc 232, 2) := by decide +kernel
theorem dX10_save_69 : decode cX10_save 69 = .ok (.invokespecial 82, 3) := by decide +kernel
theorem dX10_save_72 : decode cX10_save 72 = .ok (.athrow, 1) := by decide +kernel
theorem dX10_save_73 : decode cX10_save 73 = .ok (.aload_n 0, 1) := by decide +kernel
theorem dX10_save_74 : decode cX10_save 74 = .ok (.getfield 28, 3) := by decide +kernel
theorem dX10_save_77 : decode cX10_save 77 = .ok (.new 234, 3) := by decide +kernel
theorem dX10_save_80 : decode cX10_save 80 = .ok (.dup, 1) := by decide +kernel
theorem dX10_save_81 : decode cX10_save 81 = .ok (.aload_n 0, 1) := by decide +kernel
theorem dX10_save_82 : decode cX10_save 82 = .ok (.getfield 229, 3) := by decide +kernel
theorem dX10_save_85 : decode cX10_save 85 = .ok (.iload_n 1, 1) := by decide +kernel
theorem dX10_save_86 : decode cX10_save 86 = .ok (.aload 4, 2) := by decide +kernel
theorem dX10_save_88 : decode cX10_save 88 = .ok (.aload 5, 2) := by decide +kernel
theorem dX10_save_90 : decode cX10_save 90 = .ok (.invokespecial 236, 3) := by decide +kernel
theorem dX10_save_93 : decode cX10_save 93 = .ok (.invokeinterface 188 2, 5) := by decide +kernel
theorem dX10_save_98 : decode cX10_save 98 = .ok (.pop, 1) := by decide +kernel
theorem dX10_save_99 : decode cX10_save 99 = .ok (.aload_n 0, 1) := by decide +kernel
theorem dX10_save_100 : decode cX10_save 100 = .ok (.dup, 1) := by decide +kernel
theorem dX10_save_101 : decode cX10_save 101 = .ok (.getfield 229, 3) := by decide +kernel
theorem dX10_save_104 : decode cX10_save 104 = .ok (.iconst 1, 1) := by decide +kernel
theorem dX10_save_105 : decode cX10_save 105 = .ok (.iadd, 1) := by decide +kernel
theorem dX10_save_106 : decode cX10_save 106 = .ok (.putfield 229, 3) := by decide +kernel
theorem dX10_save_109 : decode cX10_save 109 = .ok (.aload_n 0, 1) := by decide +kernel
theorem dX10_save_110 : decode cX10_save 110 = .ok (.getfield 229, 3) := by decide +kernel
theorem dX10_save_113 : decode cX10_save 113 = .ok (.iconst 1, 1) := by decide +kernel
theorem dX10_save_114 : decode cX10_save 114 = .ok (.isub, 1) := by decide +kernel
theorem dX10_save_115 : decode cX10_save 115 = .ok (.ireturn, 1) := by decide +kernel
theorem dX10_write_0 : decode cX10_write 0 = .ok (.iconst 0, 1) := by decide +kernel
theorem dX10_write_1 : decode cX10_write 1 = .ok (.istore_n 1, 1) := by decide +kernel
theorem dX10_write_2 : decode cX10_write 2 = .ok (.iload_n 1, 1) := by decide +kernel
theorem dX10_write_3 : decode cX10_write 3 = .ok (.aload_n 0, 1) := by decide +kernel
theorem dX10_write_4 : decode cX10_write 4 = .ok (.getfield 28, 3) := by decide +kernel
theorem dX10_write_7 : decode cX10_write 7 = .ok (.invokeinterface 168 1, 5) := by decide +kernel
theorem dX10_write_12 : decode cX10_write 12 = .ok (.if_icmp .ge 61, 3) := by decide +kernel
theorem dX10_write_15 : decode cX10_write 15 = .ok (.aload_n 0, 1) := by decide +kernel
theorem dX10_write_16 : decode cX10_write 16 = .ok (.getfield 28, 3) := by decide +kernel
theorem dX10_write_19 : decode cX10_write 19 = .ok (.iload_n 1, 1) := by decide +kernel
theorem dX10_write_20 : decode cX10_write 20 = .ok (.invokeinterface 239 2, 5) := by decide +kernel
theorem dX10_write_25 : decode cX10_write 25 = .ok (.checkcast 234, 3) := by decide +kernel
theorem dX10_write_28 : decode cX10_write 28 = .ok (.astore_n 2, 1) := by decide +kernel
theorem dX10_write_29 : decode cX10_write 29 = .ok (.aload_n 2, 1) := by decide +kernel
theorem dX10_write_30 : decode cX10_write 30 = .ok (.invokevirtual 243, 3) := by decide +kernel
theorem dX10_write_33 : decode cX10_write 33 = .ok (.ifCond .eq 34, 3) := by decide +kernel
theorem dX10_write_36 : decode cX10_write 36 = .ok (.aload_n 0, 1) := by decide +kernel
theorem dX10_write_37 : decode cX10_write 37 = .ok (.aload_n 2, 1) := by decide +kernel
theorem dX10_write_38 : decode cX10_write 38 = .ok (.invokevirtual 246, 3) := by decide +kernel
theorem dX10_write_41 : decode cX10_write 41 = .ok (.ifCond .eq 26, 3) := by decide +kernel
theorem dX10_write_44 : decode cX10_write 44 = .ok (.aload_n 0, 1) := by decide +kernel
theorem dX10_write_45 : decode cX10_write 45 = .ok (.getfield 28, 3) := by decide +kernel
theorem dX10_write_48 : decode cX10_write 48 = .ok (.iload_n 1, 1) := by decide +kernel
theorem dX10_write_49 : decode cX10_write 49 = .ok (.invokeinterface 250 2, 5) := by decide +kernel
theorem dX10_write_54 : decode cX10_write 54 = .ok (.pop, 1) := by decide +kernel
theorem dX10_write_55 : decode cX10_write 55 = .ok (.aload_n 2, 1) := by decide +kernel
theorem dX10_write_56 : decode cX10_write 56 = .ok (.getfield 253, 3) := by decide +kernel
theorem dX10_write_59 : decode cX10_write 59 = .ok (.invokevirtual 254, 3) := by decide +kernel
theorem dX10_write_62 : decode cX10_write 62 = .ok (.aload_n 2, 1) := by decide +kernel
theorem dX10_write_63 : decode cX10_write 63 = .ok (.getfield 257, 3) := by decide +kernel
theorem dX10_write_66 : decode cX10_write 66 = .ok (.ireturn, 1) := by decide +kernel
theorem dX10_write_67 : decode cX10_write 67 = .ok (.iinc 1 1, 3) := by decide +kernel
theorem dX10_write_70 : decode cX10_write 70 = .ok (.goto (-68), 3) := by decide +kernel
theorem dX10_write_73 : decode cX10_write 73 = .ok (.iconst (-1), 1) := by decide +kernel
theorem dX10_write_74 : decode cX10_write 74 = .ok (.ireturn, 1) := by decide +kernel
theorem dX10_queued_0 : decode cX10_queued 0 = .ok (.aload_n 0, 1) := by decide +kernel
theorem dX10_queued_1 : decode cX10_queued 1 = .ok (.getfield 28, 3) := by decide +kernel
theorem dX10_queued_4 : decode cX10_queued 4 = .ok (.invokeinterface 168 1, 5) := by decide +kernel
theorem dX10_queued_9 : decode cX10_queued 9 = .ok (.ireturn, 1) := by decide +kernel
theorem dX10_savedVersion_0 : decode cX10_savedVersion 0 = .ok (.aload_n 0, 1) := by decide +kernel
theorem dX10_savedVersion_1 : decode cX10_savedVersion 1 = .ok (.iload_n 1, 1) := by decide +kernel
theorem dX10_savedVersion_2 : decode cX10_savedVersion 2 = .ok (.invokevirtual 53, 3) := by decide +kernel
theorem dX10_savedVersion_5 : decode cX10_savedVersion 5 = .ok (.getfield 258, 3) := by decide +kernel
theorem dX10_savedVersion_8 : decode cX10_savedVersion 8 = .ok (.ireturn, 1) := by decide +kernel
theorem dX10_savedLength_0 : decode cX10_savedLength 0 = .ok (.aload_n 0, 1) := by decide +kernel
theorem dX10_savedLength_1 : decode cX10_savedLength 1 = .ok (.iload_n 1, 1) := by decide +kernel
theorem dX10_savedLength_2 : decode cX10_savedLength 2 = .ok (.invokevirtual 53, 3) := by decide +kernel
theorem dX10_savedLength_5 : decode cX10_savedLength 5 = .ok (.getfield 261, 3) := by decide +kernel
theorem dX10_savedLength_8 : decode cX10_savedLength 8 = .ok (.ireturn, 1) := by decide +kernel
theorem dX10_savedLetter_0 : decode cX10_savedLetter 0 = .ok (.aload_n 0, 1) := by decide +kernel
theorem dX10_savedLetter_1 : decode cX10_savedLetter 1 = .ok (.iload_n 1, 1) := by decide +kernel
theorem dX10_savedLetter_2 : decode cX10_savedLetter 2 = .ok (.invokevirtual 53, 3) := by decide +kernel
theorem dX10_savedLetter_5 : decode cX10_savedLetter 5 = .ok (.astore_n 3, 1) := by decide +kernel
theorem dX10_savedLetter_6 : decode cX10_savedLetter 6 = .ok (.iload_n 2, 1) := by decide +kernel
theorem dX10_savedLetter_7 : decode cX10_savedLetter 7 = .ok (.ifCond .lt 11, 3) := by decide +kernel
theorem dX10_savedLetter_10 : decode cX10_savedLetter 10 = .ok (.iload_n 2, 1) := by decide +kernel
theorem dX10_savedLetter_11 : decode cX10_savedLetter 11 = .ok (.aload_n 3, 1) := by decide +kernel
theorem dX10_savedLetter_12 : decode cX10_savedLetter 12 = .ok (.getfield 261, 3) := by decide +kernel
theorem dX10_savedLetter_15 : decode cX10_savedLetter 15 = .ok (.if_icmp .lt 13, 3) := by decide +kernel
theorem dX10_savedLetter_18 : decode cX10_savedLetter 18 = .ok (.new 113, 3) := by decide +kernel
theorem dX10_savedLetter_21 : decode cX10_savedLetter 21 = .ok (.dup, 1) := by decide +kernel
theorem dX10_savedLetter_22 : decode cX10_savedLetter 22 = .ok (.ldc 115, 2) := by decide +kernel
theorem dX10_savedLetter_24 : decode cX10_savedLetter 24 = .ok (.invokespecial 117, 3) := by decide +kernel
theorem dX10_savedLetter_27 : decode cX10_savedLetter 27 = .ok (.athrow, 1) := by decide +kernel
theorem dX10_savedLetter_28 : decode cX10_savedLetter 28 = .ok (.aload_n 3, 1) := by decide +kernel
theorem dX10_savedLetter_29 : decode cX10_savedLetter 29 = .ok (.getfield 264, 3) := by decide +kernel
theorem dX10_savedLetter_32 : decode cX10_savedLetter 32 = .ok (.iload_n 2, 1) := by decide +kernel
theorem dX10_savedLetter_33 : decode cX10_savedLetter 33 = .ok (.caload, 1) := by decide +kernel
theorem dX10_savedLetter_34 : decode cX10_savedLetter 34 = .ok (.ireturn, 1) := by decide +kernel
theorem dX10_handAt_0 : decode cX10_handAt 0 = .ok (.iload_n 1, 1) := by decide +kernel
theorem dX10_handAt_1 : decode cX10_handAt 1 = .ok (.ifCond .lt 17, 3) := by decide +kernel
theorem dX10_handAt_4 : decode cX10_handAt 4 = .ok (.iload_n 1, 1) := by decide +kernel
theorem dX10_handAt_5 : decode cX10_handAt 5 = .ok (.iconst 5, 1) := by decide +kernel
theorem dX10_handAt_6 : decode cX10_handAt 6 = .ok (.if_icmp .ge 12, 3) := by decide +kernel
theorem dX10_handAt_9 : decode cX10_handAt 9 = .ok (.aload_n 0, 1) := by decide +kernel
theorem dX10_handAt_10 : decode cX10_handAt 10 = .ok (.getfield 17, 3) := by decide +kernel
theorem dX10_handAt_13 : decode cX10_handAt 13 = .ok (.iload_n 1, 1) := by decide +kernel
theorem dX10_handAt_14 : decode cX10_handAt 14 = .ok (.aaload, 1) := by decide +kernel
theorem dX10_handAt_15 : decode cX10_handAt 15 = .ok (.goto 4, 3) := by decide +kernel
theorem dX10_handAt_18 : decode cX10_handAt 18 = .ok (.aconst_null, 1) := by decide +kernel
theorem dX10_handAt_19 : decode cX10_handAt 19 = .ok (.astore_n 2, 1) := by decide +kernel
theorem dX10_handAt_20 : decode cX10_handAt 20 = .ok (.aload_n 2, 1) := by decide +kernel
theorem dX10_handAt_21 : decode cX10_handAt 21 = .ok (.ifnonnull 14, 3) := by decide +kernel
theorem dX10_handAt_24 : decode cX10_handAt 24 = .ok (.new 113, 3) := by decide +kernel
theorem dX10_handAt_27 : decode cX10_handAt 27 = .ok (.dup, 1) := by decide +kernel
theorem dX10_handAt_28 : decode cX10_handAt 28 = .ok (.ldc_w 268, 3) := by decide +kernel
theorem dX10_handAt_31 : decode cX10_handAt 31 = .ok (.invokespecial 117, 3) := by decide +kernel
theorem dX10_handAt_34 : decode cX10_handAt 34 = .ok (.athrow, 1) := by decide +kernel
theorem dX10_handAt_35 : decode cX10_handAt 35 = .ok (.aload_n 2, 1) := by decide +kernel
theorem dX10_handAt_36 : decode cX10_handAt 36 = .ok (.areturn, 1) := by decide +kernel
theorem dX10_textAt_0 : decode cX10_textAt 0 = .ok (.iload_n 1, 1) := by decide +kernel
theorem dX10_textAt_1 : decode cX10_textAt 1 = .ok (.ifCond .lt 17, 3) := by decide +kernel
theorem dX10_textAt_4 : decode cX10_textAt 4 = .ok (.iload_n 1, 1) := by decide +kernel
theorem dX10_textAt_5 : decode cX10_textAt 5 = .ok (.iconst 3, 1) := by decide +kernel
theorem dX10_textAt_6 : decode cX10_textAt 6 = .ok (.if_icmp .ge 12, 3) := by decide +kernel
theorem dX10_textAt_9 : decode cX10_textAt 9 = .ok (.aload_n 0, 1) := by decide +kernel
theorem dX10_textAt_10 : decode cX10_textAt 10 = .ok (.getfield 11, 3) := by decide +kernel
theorem dX10_textAt_13 : decode cX10_textAt 13 = .ok (.iload_n 1, 1) := by decide +kernel
theorem dX10_textAt_14 : decode cX10_textAt 14 = .ok (.aaload, 1) := by decide +kernel
theorem dX10_textAt_15 : decode cX10_textAt 15 = .ok (.goto 4, 3) := by decide +kernel
theorem dX10_textAt_18 : decode cX10_textAt 18 = .ok (.aconst_null, 1) := by decide +kernel
theorem dX10_textAt_19 : decode cX10_textAt 19 = .ok (.astore_n 2, 1) := by decide +kernel
theorem dX10_textAt_20 : decode cX10_textAt 20 = .ok (.aload_n 2, 1) := by decide +kernel
theorem dX10_textAt_21 : decode cX10_textAt 21 = .ok (.ifnonnull 14, 3) := by decide +kernel
theorem dX10_textAt_24 : decode cX10_textAt 24 = .ok (.new 113, 3) := by decide +kernel
theorem dX10_textAt_27 : decode cX10_textAt 27 = .ok (.dup, 1) := by decide +kernel
theorem dX10_textAt_28 : decode cX10_textAt 28 = .ok (.ldc_w 270, 3) := by decide +kernel
theorem dX10_textAt_31 : decode cX10_textAt 31 = .ok (.invokespecial 117, 3) := by decide +kernel
theorem dX10_textAt_34 : decode cX10_textAt 34 = .ok (.athrow, 1) := by decide +kernel
theorem dX10_textAt_35 : decode cX10_textAt 35 = .ok (.aload_n 2, 1) := by decide +kernel
theorem dX10_textAt_36 : decode cX10_textAt 36 = .ok (.areturn, 1) := by decide +kernel
theorem dX10_formatAt_0 : decode cX10_formatAt 0 = .ok (.iload_n 1, 1) := by decide +kernel
theorem dX10_formatAt_1 : decode cX10_formatAt 1 = .ok (.ifCond .lt 16, 3) := by decide +kernel
theorem dX10_formatAt_4 : decode cX10_formatAt 4 = .ok (.iload_n 1, 1) := by decide +kernel
theorem dX10_formatAt_5 : decode cX10_formatAt 5 = .ok (.aload_n 0, 1) := by decide +kernel
theorem dX10_formatAt_6 : decode cX10_formatAt 6 = .ok (.getfield 24, 3) := by decide +kernel
theorem dX10_formatAt_9 : decode cX10_formatAt 9 = .ok (.invokeinterface 168 1, 5) := by decide +kernel
theorem dX10_formatAt_14 : decode cX10_formatAt 14 = .ok (.if_icmp .lt 14, 3) := by decide +kernel
theorem dX10_formatAt_17 : decode cX10_formatAt 17 = .ok (.new 113, 3) := by decide +kernel
theorem dX10_formatAt_20 : decode cX10_formatAt 20 = .ok (.dup, 1) := by decide +kernel
theorem dX10_formatAt_21 : decode cX10_formatAt 21 = .ok (.ldc_w 272, 3) := by decide +kernel
theorem dX10_formatAt_24 : decode cX10_formatAt 24 = .ok (.invokespecial 117, 3) := by decide +kernel
theorem dX10_formatAt_27 : decode cX10_formatAt 27 = .ok (.athrow, 1) := by decide +kernel
theorem dX10_formatAt_28 : decode cX10_formatAt 28 = .ok (.aload_n 0, 1) := by decide +kernel
theorem dX10_formatAt_29 : decode cX10_formatAt 29 = .ok (.getfield 24, 3) := by decide +kernel
theorem dX10_formatAt_32 : decode cX10_formatAt 32 = .ok (.iload_n 1, 1) := by decide +kernel
theorem dX10_formatAt_33 : decode cX10_formatAt 33 = .ok (.invokeinterface 239 2, 5) := by decide +kernel
theorem dX10_formatAt_38 : decode cX10_formatAt 38 = .ok (.checkcast 179, 3) := by decide +kernel
theorem dX10_formatAt_41 : decode cX10_formatAt 41 = .ok (.areturn, 1) := by decide +kernel
theorem dX10_waitingFormatAt_0 : decode cX10_waitingFormatAt 0 = .ok (.aload_n 0, 1) := by decide +kernel
theorem dX10_waitingFormatAt_1 : decode cX10_waitingFormatAt 1 = .ok (.iload_n 1, 1) := by decide +kernel
theorem dX10_waitingFormatAt_2 : decode cX10_waitingFormatAt 2 = .ok (.invokevirtual 208, 3) := by decide +kernel
theorem dX10_waitingFormatAt_5 : decode cX10_waitingFormatAt 5 = .ok (.astore_n 2, 1) := by decide +kernel
theorem dX10_waitingFormatAt_6 : decode cX10_waitingFormatAt 6 = .ok (.aload_n 2, 1) := by decide +kernel
theorem dX10_waitingFormatAt_7 : decode cX10_waitingFormatAt 7 = .ok (.getfield 211, 3) := by decide +kernel
theorem dX10_waitingFormatAt_10 : decode cX10_waitingFormatAt 10 = .ok (.ifCond .eq 14, 3) := by decide +kernel
theorem dX10_waitingFormatAt_13 : decode cX10_waitingFormatAt 13 = .ok (.new 78, 3) := by decide +kernel
theorem dX10_waitingFormatAt_16 : decode cX10_waitingFormatAt 16 = .ok (.dup, 1) := by decide +kernel
theorem dX10_waitingFormatAt_17 : decode cX10_waitingFormatAt 17 = .ok (.ldc_w 274, 3) := by decide +kernel
theorem dX10_waitingFormatAt_20 : decode cX10_waitingFormatAt 20 = .ok (.invokespecial 82, 3) := by decide +kernel
theorem dX10_waitingFormatAt_23 : decode cX10_waitingFormatAt 23 = .ok (.athrow, 1) := by decide +kernel
theorem dX10_waitingFormatAt_24 : decode cX10_waitingFormatAt 24 = .ok (.aload_n 2, 1) := by decide +kernel
theorem dX10_waitingFormatAt_25 : decode cX10_waitingFormatAt 25 = .ok (.areturn, 1) := by decide +kernel
theorem dX10_isFirstForItsText_0 : decode cX10_isFirstForItsText 0 = .ok (.iconst 0, 1) := by decide +kernel
theorem dX10_isFirstForItsText_1 : decode cX10_isFirstForItsText 1 = .ok (.istore_n 2, 1) := by decide +kernel
theorem dX10_isFirstForItsText_2 : decode cX10_isFirstForItsText 2 = .ok (.iload_n 2, 1) := by decide +kernel
theorem dX10_isFirstForItsText_3 : decode cX10_isFirstForItsText 3 = .ok (.aload_n 0, 1) := by decide +kernel
theorem dX10_isFirstForItsText_4 : decode cX10_isFirstForItsText 4 = .ok (.getfield 28, 3) := by decide +kernel
theorem dX10_isFirstForItsText_7 : decode cX10_isFirstForItsText 7 = .ok (.invokeinterface 168 1, 5) := by decide +kernel
theorem dX10_isFirstForItsText_12 : decode cX10_isFirstForItsText 12 = .ok (.if_icmp .ge 52, 3) := by decide +kernel
theorem dX10_isFirstForItsText_15 : decode cX10_isFirstForItsText 15 = .ok (.aload_n 0, 1) := by decide +kernel
theorem dX10_isFirstForItsText_16 : decode cX10_isFirstForItsText 16 = .ok (.getfield 28, 3) := by decide +kernel
theorem dX10_isFirstForItsText_19 : decode cX10_isFirstForItsText 19 = .ok (.iload_n 2, 1) := by decide +kernel
theorem dX10_isFirstForItsText_20 : decode cX10_isFirstForItsText 20 = .ok (.invokeinterface 239 2, 5) := by decide +kernel
theorem dX10_isFirstForItsText_25 : decode cX10_isFirstForItsText 25 = .ok (.checkcast 234, 3) := by decide +kernel
theorem dX10_isFirstForItsText_28 : decode cX10_isFirstForItsText 28 = .ok (.getfield 253, 3) := by decide +kernel
theorem dX10_isFirstForItsText_31 : decode cX10_isFirstForItsText 31 = .ok (.aload_n 1, 1) := by decide +kernel
theorem dX10_isFirstForItsText_32 : decode cX10_isFirstForItsText 32 = .ok (.getfield 253, 3) := by decide +kernel
theorem dX10_isFirstForItsText_35 : decode cX10_isFirstForItsText 35 = .ok (.if_acmp .ne 23, 3) := by decide +kernel
theorem dX10_isFirstForItsText_38 : decode cX10_isFirstForItsText 38 = .ok (.aload_n 0, 1) := by decide +kernel
theorem dX10_isFirstForItsText_39 : decode cX10_isFirstForItsText 39 = .ok (.getfield 28, 3) := by decide +kernel
theorem dX10_isFirstForItsText_42 : decode cX10_isFirstForItsText 42 = .ok (.iload_n 2, 1) := by decide +kernel
theorem dX10_isFirstForItsText_43 : decode cX10_isFirstForItsText 43 = .ok (.invokeinterface 239 2, 5) := by decide +kernel
theorem dX10_isFirstForItsText_48 : decode cX10_isFirstForItsText 48 = .ok (.aload_n 1, 1) := by decide +kernel
theorem dX10_isFirstForItsText_49 : decode cX10_isFirstForItsText 49 = .ok (.if_acmp .ne 7, 3) := by decide +kernel
theorem dX10_isFirstForItsText_52 : decode cX10_isFirstForItsText 52 = .ok (.iconst 1, 1) := by decide +kernel
theorem dX10_isFirstForItsText_53 : decode cX10_isFirstForItsText 53 = .ok (.goto 4, 3) := by decide +kernel
theorem dX10_isFirstForItsText_56 : decode cX10_isFirstForItsText 56 = .ok (.iconst 0, 1) := by decide +kernel
theorem dX10_isFirstForItsText_57 : decode cX10_isFirstForItsText 57 = .ok (.ireturn, 1) := by decide +kernel
theorem dX10_isFirstForItsText_58 : decode cX10_isFirstForItsText 58 = .ok (.iinc 2 1, 3) := by decide +kernel
theorem dX10_isFirstForItsText_61 : decode cX10_isFirstForItsText 61 = .ok (.goto (-59), 3) := by decide +kernel
theorem dX10_isFirstForItsText_64 : decode cX10_isFirstForItsText 64 = .ok (.iconst 0, 1) := by decide +kernel
theorem dX10_isFirstForItsText_65 : decode cX10_isFirstForItsText 65 = .ok (.ireturn, 1) := by decide +kernel
theorem dX10_shownSign_0 : decode cX10_shownSign 0 = .ok (.aload_n 0, 1) := by decide +kernel
theorem dX10_shownSign_1 : decode cX10_shownSign 1 = .ok (.iload_n 1, 1) := by decide +kernel
theorem dX10_shownSign_2 : decode cX10_shownSign 2 = .ok (.invokevirtual 118, 3) := by decide +kernel
theorem dX10_shownSign_5 : decode cX10_shownSign 5 = .ok (.istore_n 2, 1) := by decide +kernel
theorem dX10_shownSign_6 : decode cX10_shownSign 6 = .ok (.iload_n 2, 1) := by decide +kernel
theorem dX10_shownSign_7 : decode cX10_shownSign 7 = .ok (.iconst (-1), 1) := by decide +kernel
theorem dX10_shownSign_8 : decode cX10_shownSign 8 = .ok (.if_icmp .ne 13, 3) := by decide +kernel
theorem dX10_shownSign_11 : decode cX10_shownSign 11 = .ok (.new 113, 3) := by decide +kernel
theorem dX10_shownSign_14 : decode cX10_shownSign 14 = .ok (.dup, 1) := by decide +kernel
theorem dX10_shownSign_15 : decode cX10_shownSign 15 = .ok (.ldc 115, 2) := by decide +kernel
theorem dX10_shownSign_17 : decode cX10_shownSign 17 = .ok (.invokespecial 117, 3) := by decide +kernel
theorem dX10_shownSign_20 : decode cX10_shownSign 20 = .ok (.athrow, 1) := by decide +kernel
theorem dX10_shownSign_21 : decode cX10_shownSign 21 = .ok (.aload_n 0, 1) := by decide +kernel
theorem dX10_shownSign_22 : decode cX10_shownSign 22 = .ok (.iload_n 2, 1) := by decide +kernel
theorem dX10_shownSign_23 : decode cX10_shownSign 23 = .ok (.invokevirtual 276, 3) := by decide +kernel
theorem dX10_shownSign_26 : decode cX10_shownSign 26 = .ok (.ireturn, 1) := by decide +kernel
theorem dX10_canBeTyped_0 : decode cX10_canBeTyped 0 = .ok (.iload_n 0, 1) := by decide +kernel
theorem dX10_canBeTyped_1 : decode cX10_canBeTyped 1 = .ok (.bipush 97, 2) := by decide +kernel
theorem dX10_canBeTyped_3 : decode cX10_canBeTyped 3 = .ok (.if_icmp .lt 9, 3) := by decide +kernel
theorem dX10_canBeTyped_6 : decode cX10_canBeTyped 6 = .ok (.iload_n 0, 1) := by decide +kernel
theorem dX10_canBeTyped_7 : decode cX10_canBeTyped 7 = .ok (.bipush 122, 2) := by decide +kernel
theorem dX10_canBeTyped_9 : decode cX10_canBeTyped 9 = .ok (.if_icmp .le 39, 3) := by decide +kernel
theorem dX10_canBeTyped_12 : decode cX10_canBeTyped 12 = .ok (.iload_n 0, 1) := by decide +kernel
theorem dX10_canBeTyped_13 : decode cX10_canBeTyped 13 = .ok (.bipush 65, 2) := by decide +kernel
theorem dX10_canBeTyped_15 : decode cX10_canBeTyped 15 = .ok (.if_icmp .lt 9, 3) := by decide +kernel
theorem dX10_canBeTyped_18 : decode cX10_canBeTyped 18 = .ok (.iload_n 0, 1) := by decide +kernel
theorem dX10_canBeTyped_19 : decode cX10_canBeTyped 19 = .ok (.bipush 90, 2) := by decide +kernel
theorem dX10_canBeTyped_21 : decode cX10_canBeTyped 21 = .ok (.if_icmp .le 27, 3) := by decide +kernel
theorem dX10_canBeTyped_24 : decode cX10_canBeTyped 24 = .ok (.iload_n 0, 1) := by decide +kernel
theorem dX10_canBeTyped_25 : decode cX10_canBeTyped 25 = .ok (.bipush 48, 2) := by decide +kernel
theorem dX10_canBeTyped_27 : decode cX10_canBeTyped 27 = .ok (.if_icmp .lt 9, 3) := by decide +kernel
theorem dX10_canBeTyped_30 : decode cX10_canBeTyped 30 = .ok (.iload_n 0, 1) := by decide +kernel
theorem dX10_canBeTyped_31 : decode cX10_canBeTyped 31 = .ok (.bipush 57, 2) := by decide +kernel
theorem dX10_canBeTyped_33 : decode cX10_canBeTyped 33 = .ok (.if_icmp .le 15, 3) := by decide +kernel
theorem dX10_canBeTyped_36 : decode cX10_canBeTyped 36 = .ok (.iload_n 0, 1) := by decide +kernel
theorem dX10_canBeTyped_37 : decode cX10_canBeTyped 37 = .ok (.bipush 32, 2) := by decide +kernel
theorem dX10_canBeTyped_39 : decode cX10_canBeTyped 39 = .ok (.if_icmp .eq 9, 3) := by decide +kernel
theorem dX10_canBeTyped_42 : decode cX10_canBeTyped 42 = .ok (.iload_n 0, 1) := by decide +kernel
theorem dX10_canBeTyped_43 : decode cX10_canBeTyped 43 = .ok (.bipush 47, 2) := by decide +kernel
theorem dX10_canBeTyped_45 : decode cX10_canBeTyped 45 = .ok (.if_icmp .ne 7, 3) := by decide +kernel
theorem dX10_canBeTyped_48 : decode cX10_canBeTyped 48 = .ok (.iconst 1, 1) := by decide +kernel
theorem dX10_canBeTyped_49 : decode cX10_canBeTyped 49 = .ok (.goto 4, 3) := by decide +kernel
theorem dX10_canBeTyped_52 : decode cX10_canBeTyped 52 = .ok (.iconst 0, 1) := by decide +kernel
theorem dX10_canBeTyped_53 : decode cX10_canBeTyped 53 = .ok (.ireturn, 1) := by decide +kernel
theorem dX10_canBeAsked_0 : decode cX10_canBeAsked 0 = .ok (.iload_n 0, 1) := by decide +kernel
theorem dX10_canBeAsked_1 : decode cX10_canBeAsked 1 = .ok (.iconst 3, 1) := by decide +kernel
theorem dX10_canBeAsked_2 : decode cX10_canBeAsked 2 = .ok (.if_icmp .ne 20, 3) := by decide +kernel
theorem dX10_canBeAsked_5 : decode cX10_canBeAsked 5 = .ok (.iload_n 1, 1) := by decide +kernel
theorem dX10_canBeAsked_6 : decode cX10_canBeAsked 6 = .ok (.iconst 5, 1) := by decide +kernel
theorem dX10_canBeAsked_7 : decode cX10_canBeAsked 7 = .ok (.if_icmp .lt 13, 3) := by decide +kernel
theorem dX10_canBeAsked_10 : decode cX10_canBeAsked 10 = .ok (.iload_n 1, 1) := by decide +kernel
theorem dX10_canBeAsked_11 : decode cX10_canBeAsked 11 = .ok (.bipush 40, 2) := by decide +kernel
theorem dX10_canBeAsked_13 : decode cX10_canBeAsked 13 = .ok (.if_icmp .gt 7, 3) := by decide +kernel
theorem dX10_canBeAsked_16 : decode cX10_canBeAsked 16 = .ok (.iconst 1, 1) := by decide +kernel
theorem dX10_canBeAsked_17 : decode cX10_canBeAsked 17 = .ok (.goto 4, 3) := by decide +kernel
theorem dX10_canBeAsked_20 : decode cX10_canBeAsked 20 = .ok (.iconst 0, 1) := by decide +kernel
theorem dX10_canBeAsked_21 : decode cX10_canBeAsked 21 = .ok (.ireturn, 1) := by decide +kernel
theorem dX10_canBeAsked_22 : decode cX10_canBeAsked 22 = .ok (.iload_n 0, 1) := by decide +kernel
theorem dX10_canBeAsked_23 : decode cX10_canBeAsked 23 = .ok (.ifCond .eq 13, 3) := by decide +kernel
theorem dX10_canBeAsked_26 : decode cX10_canBeAsked 26 = .ok (.iload_n 0, 1) := by decide +kernel
theorem dX10_canBeAsked_27 : decode cX10_canBeAsked 27 = .ok (.iconst 1, 1) := by decide +kernel
theorem dX10_canBeAsked_28 : decode cX10_canBeAsked 28 = .ok (.if_icmp .eq 8, 3) := by decide +kernel
theorem dX10_canBeAsked_31 : decode cX10_canBeAsked 31 = .ok (.iload_n 0, 1) := by decide +kernel
theorem dX10_canBeAsked_32 : decode cX10_canBeAsked 32 = .ok (.iconst 2, 1) := by decide +kernel
theorem dX10_canBeAsked_33 : decode cX10_canBeAsked 33 = .ok (.if_icmp .ne 11, 3) := by decide +kernel
theorem dX10_canBeAsked_36 : decode cX10_canBeAsked 36 = .ok (.iload_n 1, 1) := by decide +kernel
theorem dX10_canBeAsked_37 : decode cX10_canBeAsked 37 = .ok (.ifCond .ne 7, 3) := by decide +kernel
theorem dX10_canBeAsked_40 : decode cX10_canBeAsked 40 = .ok (.iconst 1, 1) := by decide +kernel
theorem dX10_canBeAsked_41 : decode cX10_canBeAsked 41 = .ok (.goto 4, 3) := by decide +kernel
theorem dX10_canBeAsked_44 : decode cX10_canBeAsked 44 = .ok (.iconst 0, 1) := by decide +kernel
theorem dX10_canBeAsked_45 : decode cX10_canBeAsked 45 = .ok (.ireturn, 1) := by decide +kernel
theorem dX11_init_0 : decode cX11_init 0 = .ok (.aload_n 0, 1) := by decide +kernel
theorem dX11_init_1 : decode cX11_init 1 = .ok (.invokespecial 1, 3) := by decide +kernel
theorem dX11_init_4 : decode cX11_init 4 = .ok (.aload_n 0, 1) := by decide +kernel
theorem dX11_init_5 : decode cX11_init 5 = .ok (.sipush 450, 3) := by decide +kernel
theorem dX11_init_8 : decode cX11_init 8 = .ok (.newarray .int, 2) := by decide +kernel
theorem dX11_init_10 : decode cX11_init 10 = .ok (.putfield 7, 3) := by decide +kernel
theorem dX11_init_13 : decode cX11_init 13 = .ok (.aload_n 0, 1) := by decide +kernel
theorem dX11_init_14 : decode cX11_init 14 = .ok (.sipush 450, 3) := by decide +kernel
theorem dX11_init_17 : decode cX11_init 17 = .ok (.newarray .int, 2) := by decide +kernel
theorem dX11_init_19 : decode cX11_init 19 = .ok (.putfield 13, 3) := by decide +kernel
theorem dX11_init_22 : decode cX11_init 22 = .ok (.aload_n 0, 1) := by decide +kernel
theorem dX11_init_23 : decode cX11_init 23 = .ok (.sipush 450, 3) := by decide +kernel
theorem dX11_init_26 : decode cX11_init 26 = .ok (.newarray .boolean, 2) := by decide +kernel
theorem dX11_init_28 : decode cX11_init 28 = .ok (.putfield 16, 3) := by decide +kernel
theorem dX11_init_31 : decode cX11_init 31 = .ok (.aload_n 0, 1) := by decide +kernel
theorem dX11_init_32 : decode cX11_init 32 = .ok (.iconst 3, 1) := by decide +kernel
theorem dX11_init_33 : decode cX11_init 33 = .ok (.newarray .int, 2) := by decide +kernel
theorem dX11_init_35 : decode cX11_init 35 = .ok (.putfield 20, 3) := by decide +kernel
theorem dX11_init_38 : decode cX11_init 38 = .ok (.aload_n 0, 1) := by decide +kernel
theorem dX11_init_39 : decode cX11_init 39 = .ok (.iconst 3, 1) := by decide +kernel
theorem dX11_init_40 : decode cX11_init 40 = .ok (.newarray .int, 2) := by decide +kernel
theorem dX11_init_42 : decode cX11_init 42 = .ok (.putfield 23, 3) := by decide +kernel
theorem dX11_init_45 : decode cX11_init 45 = .ok (.aload_n 0, 1) := by decide +kernel
theorem dX11_init_46 : decode cX11_init 46 = .ok (.bipush 15, 2) := by decide +kernel
theorem dX11_init_48 : decode cX11_init 48 = .ok (.newarray .int, 2) := by decide +kernel
theorem dX11_init_50 : decode cX11_init 50 = .ok (.putfield 26, 3) := by decide +kernel
theorem dX11_init_53 : decode cX11_init 53 = .ok (.aload_n 0, 1) := by decide +kernel
theorem dX11_init_54 : decode cX11_init 54 = .ok (.sipush 3000, 3) := by decide +kernel
theorem dX11_init_57 : decode cX11_init 57 = .ok (.newarray .int, 2) := by decide +kernel
theorem dX11_init_59 : decode cX11_init 59 = .ok (.putfield 29, 3) := by decide +kernel
theorem dX11_init_62 : decode cX11_init 62 = .ok (.aload_n 0, 1) := by decide +kernel
theorem dX11_init_63 : decode cX11_init 63 = .ok (.iconst 5, 1) := by decide +kernel
theorem dX11_init_64 : decode cX11_init 64 = .ok (.newarray .int, 2) := by decide +kernel
theorem dX11_init_66 : decode cX11_init 66 = .ok (.putfield 32, 3) := by decide +kernel
theorem dX11_init_69 : decode cX11_init 69 = .ok (.aload_n 0, 1) := by decide +kernel
theorem dX11_init_70 : decode cX11_init 70 = .ok (.iconst 5, 1) := by decide +kernel
theorem dX11_init_71 : decode cX11_init 71 = .ok (.newarray .int, 2) := by decide +kernel
theorem dX11_init_73 : decode cX11_init 73 = .ok (.putfield 35, 3) := by decide +kernel
theorem dX11_init_76 : decode cX11_init 76 = .ok (.aload_n 0, 1) := by decide +kernel
theorem dX11_init_77 : decode cX11_init 77 = .ok (.bipush 60, 2) := by decide +kernel
theorem dX11_init_79 : decode cX11_init 79 = .ok (.newarray .int, 2) := by decide +kernel
theorem dX11_init_81 : decode cX11_init 81 = .ok (.putfield 38, 3) := by decide +kernel
theorem dX11_init_84 : decode cX11_init 84 = .ok (.aload_n 0, 1) := by decide +kernel
theorem dX11_init_85 : decode cX11_init 85 = .ok (.bipush 60, 2) := by decide +kernel
theorem dX11_init_87 : decode cX11_init 87 = .ok (.newarray .int, 2) := by decide +kernel
theorem dX11_init_89 : decode cX11_init 89 = .ok (.putfield 41, 3) := by decide +kernel
theorem dX11_init_92 : decode cX11_init 92 = .ok (.aload_n 0, 1) := by decide +kernel
theorem dX11_init_93 : decode cX11_init 93 = .ok (.bipush 60, 2) := by decide +kernel
theorem dX11_init_95 : decode cX11_init 95 = .ok (.newarray .int, 2) := by decide +kernel
theorem dX11_init_97 : decode cX11_init 97 = .ok (.putfield 44, 3) := by decide +kernel
theorem dX11_init_100 : decode cX11_init 100 = .ok (.aload_n 0, 1) := by decide +kernel
theorem dX11_init_101 : decode cX11_init 101 = .ok (.bipush 60, 2) := by decide +kernel
theorem dX11_init_103 : decode cX11_init 103 = .ok (.newarray .int, 2) := by decide +kernel
theorem dX11_init_105 : decode cX11_init 105 = .ok (.putfield 47, 3) := by decide +kernel
theorem dX11_init_108 : decode cX11_init 108 = .ok (.aload_n 0, 1) := by decide +kernel
theorem dX11_init_109 : decode cX11_init 109 = .ok (.sipush 9000, 3) := by decide +kernel
theorem dX11_init_112 : decode cX11_init 112 = .ok (.newarray .int, 2) := by decide +kernel
theorem dX11_init_114 : decode cX11_init 114 = .ok (.putfield 50, 3) := by decide +kernel
theorem dX11_init_117 : decode cX11_init 117 = .ok (.aload_n 0, 1) := by decide +kernel
theorem dX11_init_118 : decode cX11_init 118 = .ok (.sipush 9000, 3) := by decide +kernel
theorem dX11_init_121 : decode cX11_init 121 = .ok (.newarray .int, 2) := by decide +kernel
theorem dX11_init_123 : decode cX11_init 123 = .ok (.putfield 53, 3) := by decide +kernel
theorem dX11_init_126 : decode cX11_init 126 = .ok (.aload_n 0, 1) := by decide +kernel
theorem dX11_init_127 : decode cX11_init 127 = .ok (.sipush 9000, 3) := by decide +kernel
theorem dX11_init_130 : decode cX11_init 130 = .ok (.newarray .int, 2) := by decide +kernel
theorem dX11_init_132 : decode cX11_init 132 = .ok (.putfield 56, 3) := by decide +kernel
theorem dX11_init_135 : decode cX11_init 135 = .ok (.aload_n 0, 1) := by decide +kernel
theorem dX11_init_136 : decode cX11_init 136 = .ok (.sipush 9000, 3) := by decide +kernel
theorem dX11_init_139 : decode cX11_init 139 = .ok (.newarray .int, 2) := by decide +kernel
theorem dX11_init_141 : decode cX11_init 141 = .ok (.putfield 59, 3) := by decide +kernel
theorem dX11_init_144 : decode cX11_init 144 = .ok (.aload_n 0, 1) := by decide +kernel
theorem dX11_init_145 : decode cX11_init 145 = .ok (.sipush 9000, 3) := by decide +kernel
theorem dX11_init_148 : decode cX11_init 148 = .ok (.newarray .int, 2) := by decide +kernel
theorem dX11_init_150 : decode cX11_init 150 = .ok (.putfield 62, 3) := by decide +kernel
theorem dX11_init_153 : decode cX11_init 153 = .ok (.aload_n 0, 1) := by decide +kernel
theorem dX11_init_154 : decode cX11_init 154 = .ok (.bipush 60, 2) := by decide +kernel
theorem dX11_init_156 : decode cX11_init 156 = .ok (.newarray .int, 2) := by decide +kernel
theorem dX11_init_158 : decode cX11_init 158 = .ok (.putfield 65, 3) := by decide +kernel
theorem dX11_init_161 : decode cX11_init 161 = .ok (.aload_n 0, 1) := by decide +kernel
theorem dX11_init_162 : decode cX11_init 162 = .ok (.bipush 60, 2) := by decide +kernel
theorem dX11_init_164 : decode cX11_init 164 = .ok (.newarray .int, 2) := by decide +kernel
theorem dX11_init_166 : decode cX11_init 166 = .ok (.putfield 68, 3) := by decide +kernel
theorem dX11_init_169 : decode cX11_init 169 = .ok (.aload_n 0, 1) := by decide +kernel
theorem dX11_init_170 : decode cX11_init 170 = .ok (.bipush 60, 2) := by decide +kernel
theorem dX11_init_172 : decode cX11_init 172 = .ok (.newarray .int, 2) := by decide +kernel
theorem dX11_init_174 : decode cX11_init 174 = .ok (.putfield 71, 3) := by decide +kernel
theorem dX11_init_177 : decode cX11_init 177 = .ok (.aload_n 0, 1) := by decide +kernel
theorem dX11_init_178 : decode cX11_init 178 = .ok (.bipush 60, 2) := by decide +kernel
theorem dX11_init_180 : decode cX11_init 180 = .ok (.newarray .boolean, 2) := by decide +kernel
theorem dX11_init_182 : decode cX11_init 182 = .ok (.putfield 74, 3) := by decide +kernel
theorem dX11_init_185 : decode cX11_init 185 = .ok (.aload_n 0, 1) := by decide +kernel
theorem dX11_init_186 : decode cX11_init 186 = .ok (.iconst 3, 1) := by decide +kernel
theorem dX11_init_187 : decode cX11_init 187 = .ok (.newarray .int, 2) := by decide +kernel
theorem dX11_init_189 : decode cX11_init 189 = .ok (.putfield 77, 3) := by decide +kernel
theorem dX11_init_192 : decode cX11_init 192 = .ok (.aload_n 0, 1) := by decide +kernel
theorem dX11_init_193 : decode cX11_init 193 = .ok (.iconst 3, 1) := by decide +kernel
theorem dX11_init_194 : decode cX11_init 194 = .ok (.newarray .int, 2) := by decide +kernel
theorem dX11_init_196 : decode cX11_init 196 = .ok (.putfield 80, 3) := by decide +kernel
theorem dX11_init_199 : decode cX11_init 199 = .ok (.aload_n 0, 1) := by decide +kernel
theorem dX11_init_200 : decode cX11_init 200 = .ok (.iconst 3, 1) := by decide +kernel
theorem dX11_init_201 : decode cX11_init 201 = .ok (.newarray .int, 2) := by decide +kernel
theorem dX11_init_203 : decode cX11_init 203 = .ok (.putfield 83, 3) := by decide +kernel
theorem dX11_init_206 : decode cX11_init 206 = .ok (.aload_n 0, 1) := by decide +kernel
theorem dX11_init_207 : decode cX11_init 207 = .ok (.sipush 450, 3) := by decide +kernel
theorem dX11_init_210 : decode cX11_init 210 = .ok (.newarray .int, 2) := by decide +kernel
theorem dX11_init_212 : decode cX11_init 212 = .ok (.putfield 86, 3) := by decide +kernel
theorem dX11_init_215 : decode cX11_init 215 = .ok (.aload_n 0, 1) := by decide +kernel
theorem dX11_init_216 : decode cX11_init 216 = .ok (.sipush 150, 3) := by decide +kernel
theorem dX11_init_219 : decode cX11_init 219 = .ok (.newarray .int, 2) := by decide +kernel
theorem dX11_init_221 : decode cX11_init 221 = .ok (.putfield 89, 3) := by decide +kernel
theorem dX11_init_224 : decode cX11_init 224 = .ok (.aload_n 0, 1) := by decide +kernel
theorem dX11_init_225 : decode cX11_init 225 = .ok (.sipush 150, 3) := by decide +kernel
theorem dX11_init_228 : decode cX11_init 228 = .ok (.newarray .boolean, 2) := by decide +kernel
theorem dX11_init_230 : decode cX11_init 230 = .ok (.putfield 92, 3) := by decide +kernel
theorem dX11_init_233 : decode cX11_init 233 = .ok (.iconst 0, 1) := by decide +kernel
theorem dX11_init_234 : decode cX11_init 234 = .ok (.istore_n 1, 1) := by decide +kernel
theorem dX11_init_235 : decode cX11_init 235 = .ok (.iload_n 1, 1) := by decide +kernel
theorem dX11_init_236 : decode cX11_init 236 = .ok (.iconst 3, 1) := by decide +kernel
theorem dX11_init_237 : decode cX11_init 237 = .ok (.if_icmp .ge 23, 3) := by decide +kernel
theorem dX11_init_240 : decode cX11_init 240 = .ok (.aload_n 0, 1) := by decide +kernel
theorem dX11_init_241 : decode cX11_init 241 = .ok (.getfield 77, 3) := by decide +kernel
theorem dX11_init_244 : decode cX11_init 244 = .ok (.iload_n 1, 1) := by decide +kernel
theorem dX11_init_245 : decode cX11_init 245 = .ok (.iconst (-1), 1) := by decide +kernel
theorem dX11_init_246 : decode cX11_init 246 = .ok (.iastore, 1) := by decide +kernel
theorem dX11_init_247 : decode cX11_init 247 = .ok (.aload_n 0, 1) := by decide +kernel
theorem dX11_init_248 : decode cX11_init 248 = .ok (.getfield 80, 3) := by decide +kernel
theorem dX11_init_251 : decode cX11_init 251 = .ok (.iload_n 1, 1) := by decide +kernel
theorem dX11_init_252 : decode cX11_init 252 = .ok (.iconst (-1), 1) := by decide +kernel
theorem dX11_init_253 : decode cX11_init 253 = .ok (.iastore, 1) := by decide +kernel
theorem dX11_init_254 : decode cX11_init 254 = .ok (.iinc 1 1, 3) := by decide +kernel
theorem dX11_init_257 : decode cX11_init 257 = .ok (.goto (-22), 3) := by decide +kernel
theorem dX11_init_260 : decode cX11_init 260 = .ok (.iconst 0, 1) := by decide +kernel
theorem dX11_init_261 : decode cX11_init 261 = .ok (.istore_n 1, 1) := by decide +kernel
theorem dX11_init_262 : decode cX11_init 262 = .ok (.iload_n 1, 1) := by decide +kernel
theorem dX11_init_263 : decode cX11_init 263 = .ok (.bipush 15, 2) := by decide +kernel
theorem dX11_init_265 : decode cX11_init 265 = .ok (.if_icmp .ge 16, 3) := by decide +kernel
theorem dX11_init_268 : decode cX11_init 268 = .ok (.aload_n 0, 1) := by decide +kernel
theorem dX11_init_269 : decode cX11_init 269 = .ok (.getfield 26, 3) := by decide +kernel
theorem dX11_init_272 : decode cX11_init 272 = .ok (.iload_n 1, 1) := by decide +kernel
theorem dX11_init_273 : decode cX11_init 273 = .ok (.iconst (-1), 1) := by decide +kernel
theorem dX11_init_274 : decode cX11_init 274 = .ok (.iastore, 1) := by decide +kernel
theorem dX11_init_275 : decode cX11_init 275 = .ok (.iinc 1 1, 3) := by decide +kernel
theorem dX11_init_278 : decode cX11_init 278 = .ok (.goto (-16), 3) := by decide +kernel
theorem dX11_init_281 : decode cX11_init 281 = .ok (.return_, 1) := by decide +kernel
theorem dX11_thrown_0 : decode cX11_thrown 0 = .ok (.aload_n 0, 1) := by decide +kernel
theorem dX11_thrown_1 : decode cX11_thrown 1 = .ok (.getfield 95, 3) := by decide +kernel
theorem dX11_thrown_4 : decode cX11_thrown 4 = .ok (.ireturn, 1) := by decide +kernel
theorem dX11_goes_0 : decode cX11_goes 0 = .ok (.aload_n 0, 1) := by decide +kernel
theorem dX11_goes_1 : decode cX11_goes 1 = .ok (.iload_n 1, 1) := by decide +kernel
theorem dX11_goes_2 : decode cX11_goes 2 = .ok (.ifCond .ne 7, 3) := by decide +kernel
theorem dX11_goes_5 : decode cX11_goes 5 = .ok (.iconst 1, 1) := by decide +kernel
theorem dX11_goes_6 : decode cX11_goes 6 = .ok (.goto 20, 3) := by decide +kernel
theorem dX11_goes_9 : decode cX11_goes 9 = .ok (.iload_n 2, 1) := by decide +kernel
theorem dX11_goes_10 : decode cX11_goes 10 = .ok (.ifCond .ne 7, 3) := by decide +kernel
theorem dX11_goes_13 : decode cX11_goes 13 = .ok (.iconst 2, 1) := by decide +kernel
theorem dX11_goes_14 : decode cX11_goes 14 = .ok (.goto 12, 3) := by decide +kernel
theorem dX11_goes_17 : decode cX11_goes 17 = .ok (.iload_n 3, 1) := by decide +kernel
theorem dX11_goes_18 : decode cX11_goes 18 = .ok (.ifCond .ne 7, 3) := by decide +kernel
theorem dX11_goes_21 : decode cX11_goes 21 = .ok (.iconst 3, 1) := by decide +kernel
theorem dX11_goes_22 : decode cX11_goes 22 = .ok (.goto 4, 3) := by decide +kernel
theorem dX11_goes_25 : decode cX11_goes 25 = .ok (.iconst 0, 1) := by decide +kernel
theorem dX11_goes_26 : decode cX11_goes 26 = .ok (.putfield 95, 3) := by decide +kernel
theorem dX11_goes_29 : decode cX11_goes 29 = .ok (.aload_n 0, 1) := by decide +kernel
theorem dX11_goes_30 : decode cX11_goes 30 = .ok (.getfield 95, 3) := by decide +kernel
theorem dX11_goes_33 : decode cX11_goes 33 = .ok (.ifCond .ne 7, 3) := by decide +kernel
theorem dX11_goes_36 : decode cX11_goes 36 = .ok (.iconst 1, 1) := by decide +kernel
theorem dX11_goes_37 : decode cX11_goes 37 = .ok (.goto 4, 3) := by decide +kernel
theorem dX11_goes_40 : decode cX11_goes 40 = .ok (.iconst 0, 1) := by decide +kernel
theorem dX11_goes_41 : decode cX11_goes 41 = .ok (.ireturn, 1) := by decide +kernel
theorem dX11_isBelow_0 : decode cX11_isBelow 0 = .ok (.iload_n 0, 1) := by decide +kernel
theorem dX11_isBelow_1 : decode cX11_isBelow 1 = .ok (.ifCond .lt 12, 3) := by decide +kernel
theorem dX11_isBelow_4 : decode cX11_isBelow 4 = .ok (.iload_n 0, 1) := by decide +kernel
theorem dX11_isBelow_5 : decode cX11_isBelow 5 = .ok (.iload_n 1, 1) := by decide +kernel
theorem dX11_isBelow_6 : decode cX11_isBelow 6 = .ok (.if_icmp .ge 7, 3) := by decide +kernel
theorem dX11_isBelow_9 : decode cX11_isBelow 9 = .ok (.iconst 1, 1) := by decide +kernel
theorem dX11_isBelow_10 : decode cX11_isBelow 10 = .ok (.goto 4, 3) := by decide +kernel
theorem dX11_isBelow_13 : decode cX11_isBelow 13 = .ok (.iconst 0, 1) := by decide +kernel
theorem dX11_isBelow_14 : decode cX11_isBelow 14 = .ok (.ireturn, 1) := by decide +kernel
theorem dX11_isHand_0 : decode cX11_isHand 0 = .ok (.iload_n 0, 1) := by decide +kernel
theorem dX11_isHand_1 : decode cX11_isHand 1 = .ok (.iconst 5, 1) := by decide +kernel
theorem dX11_isHand_2 : decode cX11_isHand 2 = .ok (.invokestatic 99, 3) := by decide +kernel
theorem dX11_isHand_5 : decode cX11_isHand 5 = .ok (.ifCond .eq 15, 3) := by decide +kernel
theorem dX11_isHand_8 : decode cX11_isHand 8 = .ok (.iload_n 1, 1) := by decide +kernel
theorem dX11_isHand_9 : decode cX11_isHand 9 = .ok (.iconst 3, 1) := by decide +kernel
theorem dX11_isHand_10 : decode cX11_isHand 10 = .ok (.invokestatic 99, 3) := by decide +kernel
theorem dX11_isHand_13 : decode cX11_isHand 13 = .ok (.ifCond .eq 7, 3) := by decide +kernel
theorem dX11_isHand_16 : decode cX11_isHand 16 = .ok (.iconst 1, 1) := by decide +kernel
theorem dX11_isHand_17 : decode cX11_isHand 17 = .ok (.goto 4, 3) := by decide +kernel
theorem dX11_isHand_20 : decode cX11_isHand 20 = .ok (.iconst 0, 1) := by decide +kernel
theorem dX11_isHand_21 : decode cX11_isHand 21 = .ok (.ireturn, 1) := by decide +kernel
theorem dX11_shows_0 : decode cX11_shows 0 = .ok (.aload_n 0, 1) := by decide +kernel
theorem dX11_shows_1 : decode cX11_shows 1 = .ok (.iconst 0, 1) := by decide +kernel
theorem dX11_shows_2 : decode cX11_shows 2 = .ok (.putfield 103, 3) := by decide +kernel
theorem dX11_shows_5 : decode cX11_shows 5 = .ok (.iconst 0, 1) := by decide +kernel
theorem dX11_shows_6 : decode cX11_shows 6 = .ok (.istore_n 2, 1) := by decide +kernel
theorem dX11_shows_7 : decode cX11_shows 7 = .ok (.iload_n 2, 1) := by decide +kernel
theorem dX11_shows_8 : decode cX11_shows 8 = .ok (.aload_n 0, 1) := by decide +kernel
theorem dX11_shows_9 : decode cX11_shows 9 = .ok (.getfield 20, 3) := by decide +kernel
theorem dX11_shows_12 : decode cX11_shows 12 = .ok (.iload_n 1, 1) := by decide +kernel
theorem dX11_shows_13 : decode cX11_shows 13 = .ok (.iaload, 1) := by decide +kernel
theorem dX11_shows_14 : decode cX11_shows 14 = .ok (.if_icmp .ge 57, 3) := by decide +kernel
theorem dX11_shows_17 : decode cX11_shows 17 = .ok (.aload_n 0, 1) := by decide +kernel
theorem dX11_shows_18 : decode cX11_shows 18 = .ok (.getfield 7, 3) := by decide +kernel
theorem dX11_shows_21 : decode cX11_shows 21 = .ok (.sipush 150, 3) := by decide +kernel
theorem dX11_shows_24 : decode cX11_shows 24 = .ok (.iload_n 1, 1) := by decide +kernel
theorem dX11_shows_25 : decode cX11_shows 25 = .ok (.imul, 1) := by decide +kernel
theorem dX11_shows_26 : decode cX11_shows 26 = .ok (.iload_n 2, 1) := by decide +kernel
theorem dX11_shows_27 : decode cX11_shows 27 = .ok (.iadd, 1) := by decide +kernel
theorem dX11_shows_28 : decode cX11_shows 28 = .ok (.iaload, 1) := by decide +kernel
theorem dX11_shows_29 : decode cX11_shows 29 = .ok (.istore_n 3, 1) := by decide +kernel
theorem dX11_shows_30 : decode cX11_shows 30 = .ok (.aload_n 0, 1) := by decide +kernel
theorem dX11_shows_31 : decode cX11_shows 31 = .ok (.getfield 16, 3) := by decide +kernel
theorem dX11_shows_34 : decode cX11_shows 34 = .ok (.sipush 150, 3) := by decide +kernel
theorem dX11_shows_37 : decode cX11_shows 37 = .ok (.iload_n 1, 1) := by decide +kernel
theorem dX11_shows_38 : decode cX11_shows 38 = .ok (.imul, 1) := by decide +kernel
theorem dX11_shows_39 : decode cX11_shows 39 = .ok (.iload_n 3, 1) := by decide +kernel
theorem dX11_shows_40 : decode cX11_shows 40 = .ok (.iadd, 1) := by decide +kernel
theorem dX11_shows_41 : decode cX11_shows 41 = .ok (.baload, 1) := by decide +kernel
theorem dX11_shows_42 : decode cX11_shows 42 = .ok (.ifCond .eq 23, 3) := by decide +kernel
theorem dX11_shows_45 : decode cX11_shows 45 = .ok (.aload_n 0, 1) := by decide +kernel
theorem dX11_shows_46 : decode cX11_shows 46 = .ok (.getfield 89, 3) := by decide +kernel
theorem dX11_shows_49 : decode cX11_shows 49 = .ok (.aload_n 0, 1) := by decide +kernel
theorem dX11_shows_50 : decode cX11_shows 50 = .ok (.getfield 103, 3) := by decide +kernel
theorem dX11_shows_53 : decode cX11_shows 53 = .ok (.iload_n 3, 1) := by decide +kernel
theorem dX11_shows_54 : decode cX11_shows 54 = .ok (.iastore, 1) := by decide +kernel
theorem dX11_shows_55 : decode cX11_shows 55 = .ok (.aload_n 0, 1) := by decide +kernel
theorem dX11_shows_56 : decode cX11_shows 56 = .ok (.dup, 1) := by decide +kernel
theorem dX11_shows_57 : decode cX11_shows 57 = .ok (.getfield 103, 3) := by decide +kernel
theorem dX11_shows_60 : decode cX11_shows 60 = .ok (.iconst 1, 1) := by decide +kernel
theorem dX11_shows_61 : decode cX11_shows 61 = .ok (.iadd, 1) := by decide +kernel
theorem dX11_shows_62 : decode cX11_shows 62 = .ok (.putfield 103, 3) := by decide +kernel
theorem dX11_shows_65 : decode cX11_shows 65 = .ok (.iinc 2 1, 3) := by decide +kernel
theorem dX11_shows_68 : decode cX11_shows 68 = .ok (.goto (-61), 3) := by decide +kernel
theorem dX11_shows_71 : decode cX11_shows 71 = .ok (.return_, 1) := by decide +kernel
theorem dX11_at_0 : decode cX11_at 0 = .ok (.iconst 0, 1) := by decide +kernel
theorem dX11_at_1 : decode cX11_at 1 = .ok (.istore_n 3, 1) := by decide +kernel
theorem dX11_at_2 : decode cX11_at 2 = .ok (.iload_n 3, 1) := by decide +kernel
theorem dX11_at_3 : decode cX11_at 3 = .ok (.aload_n 0, 1) := by decide +kernel
theorem dX11_at_4 : decode cX11_at 4 = .ok (.getfield 20, 3) := by decide +kernel
theorem dX11_at_7 : decode cX11_at 7 = .ok (.iload_n 1, 1) := by decide +kernel
theorem dX11_at_8 : decode cX11_at 8 = .ok (.iaload, 1) := by decide +kernel
theorem dX11_at_9 : decode cX11_at 9 = .ok (.if_icmp .ge 25, 3) := by decide +kernel
theorem dX11_at_12 : decode cX11_at 12 = .ok (.aload_n 0, 1) := by decide +kernel
theorem dX11_at_13 : decode cX11_at 13 = .ok (.getfield 7, 3) := by decide +kernel
theorem dX11_at_16 : decode cX11_at 16 = .ok (.sipush 150, 3) := by decide +kernel
theorem dX11_at_19 : decode cX11_at 19 = .ok (.iload_n 1, 1) := by decide +kernel
theorem dX11_at_20 : decode cX11_at 20 = .ok (.imul, 1) := by decide +kernel
theorem dX11_at_21 : decode cX11_at 21 = .ok (.iload_n 3, 1) := by decide +kernel
theorem dX11_at_22 : decode cX11_at 22 = .ok (.iadd, 1) := by decide +kernel
theorem dX11_at_23 : decode cX11_at 23 = .ok (.iaload, 1) := by decide +kernel
theorem dX11_at_24 : decode cX11_at 24 = .ok (.iload_n 2, 1) := by decide +kernel
theorem dX11_at_25 : decode cX11_at 25 = .ok (.if_icmp .eq 9, 3) := by decide +kernel
theorem dX11_at_28 : decode cX11_at 28 = .ok (.iinc 3 1, 3) := by decide +kernel
theorem dX11_at_31 : decode cX11_at 31 = .ok (.goto (-29), 3) := by decide +kernel
theorem dX11_at_34 : decode cX11_at 34 = .ok (.iload_n 3, 1) := by decide +kernel
theorem dX11_at_35 : decode cX11_at 35 = .ok (.ireturn, 1) := by decide +kernel
theorem dX11_placeOf_0 : decode cX11_placeOf 0 = .ok (.aload_n 0, 1) := by decide +kernel
theorem dX11_placeOf_1 : decode cX11_placeOf 1 = .ok (.iload_n 2, 1) := by decide +kernel
theorem dX11_placeOf_2 : decode cX11_placeOf 2 = .ok (.aload_n 0, 1) := by decide +kernel
theorem dX11_placeOf_3 : decode cX11_placeOf 3 = .ok (.getfield 26, 3) := by decide +kernel
theorem dX11_placeOf_6 : decode cX11_placeOf 6 = .ok (.iconst 5, 1) := by decide +kernel
theorem dX11_placeOf_7 : decode cX11_placeOf 7 = .ok (.iload_n 2, 1) := by decide +kernel
theorem dX11_placeOf_8 : decode cX11_placeOf 8 = .ok (.imul, 1) := by decide +kernel
theorem dX11_placeOf_9 : decode cX11_placeOf 9 = .ok (.iload_n 1, 1) := by decide +kernel
theorem dX11_placeOf_10 : decode cX11_placeOf 10 = .ok (.iadd, 1) := by decide +kernel
theorem dX11_placeOf_11 : decode cX11_placeOf 11 = .ok (.iaload, 1) := by decide +kernel
theorem dX11_placeOf_12 : decode cX11_placeOf 12 = .ok (.invokevirtual 106, 3) := by decide +kernel
theorem dX11_placeOf_15 : decode cX11_placeOf 15 = .ok (.istore_n 3, 1) := by decide +kernel
theorem dX11_placeOf_16 : decode cX11_placeOf 16 = .ok (.iconst 0, 1) := by decide +kernel
theorem dX11_placeOf_17 : decode cX11_placeOf 17 = .ok (.istore 4, 2) := by decide +kernel
theorem dX11_placeOf_19 : decode cX11_placeOf 19 = .ok (.iconst 0, 1) := by decide +kernel
theorem dX11_placeOf_20 : decode cX11_placeOf 20 = .ok (.istore 5, 2) := by decide +kernel
theorem dX11_placeOf_22 : decode cX11_placeOf 22 = .ok (.iload 5, 2) := by decide +kernel
theorem dX11_placeOf_24 : decode cX11_placeOf 24 = .ok (.iload_n 3, 1) := by decide +kernel
theorem dX11_placeOf_25 : decode cX11_placeOf 25 = .ok (.if_icmp .ge 46, 3) := by decide +kernel
theorem dX11_placeOf_28 : decode cX11_placeOf 28 = .ok (.iload 4, 2) := by decide +kernel
theorem dX11_placeOf_30 : decode cX11_placeOf 30 = .ok (.aload_n 0, 1) := by decide +kernel
theorem dX11_placeOf_31 : decode cX11_placeOf 31 = .ok (.getfield 16, 3) := by decide +kernel
theorem dX11_placeOf_34 : decode cX11_placeOf 34 = .ok (.sipush 150, 3) := by decide +kernel
theorem dX11_placeOf_37 : decode cX11_placeOf 37 = .ok (.iload_n 2, 1) := by decide +kernel
theorem dX11_placeOf_38 : decode cX11_placeOf 38 = .ok (.imul, 1) := by decide +kernel
theorem dX11_placeOf_39 : decode cX11_placeOf 39 = .ok (.aload_n 0, 1) := by decide +kernel
theorem dX11_placeOf_40 : decode cX11_placeOf 40 = .ok (.getfield 7, 3) := by decide +kernel
theorem dX11_placeOf_43 : decode cX11_placeOf 43 = .ok (.sipush 150, 3) := by decide +kernel
theorem dX11_placeOf_46 : decode cX11_placeOf 46 = .ok (.iload_n 2, 1) := by decide +kernel
theorem dX11_placeOf_47 : decode cX11_placeOf 47 = .ok (.imul, 1) := by decide +kernel
theorem dX11_placeOf_48 : decode cX11_placeOf 48 = .ok (.iload 5, 2) := by decide +kernel
theorem dX11_placeOf_50 : decode cX11_placeOf 50 = .ok (.iadd, 1) := by decide +kernel
theorem dX11_placeOf_51 : decode cX11_placeOf 51 = .ok (.iaload, 1) := by decide +kernel
theorem dX11_placeOf_52 : decode cX11_placeOf 52 = .ok (.iadd, 1) := by decide +kernel
theorem dX11_placeOf_53 : decode cX11_placeOf 53 = .ok (.baload, 1) := by decide +kernel
theorem dX11_placeOf_54 : decode cX11_placeOf 54 = .ok (.ifCond .eq 7, 3) := by decide +kernel
theorem dX11_placeOf_57 : decode cX11_placeOf 57 = .ok (.iconst 1, 1) := by decide +kernel
theorem dX11_placeOf_58 : decode cX11_placeOf 58 = .ok (.goto 4, 3) := by decide +kernel
theorem dX11_placeOf_61 : decode cX11_placeOf 61 = .ok (.iconst 0, 1) := by decide +kernel
theorem dX11_placeOf_62 : decode cX11_placeOf 62 = .ok (.iadd, 1) := by decide +kernel
theorem dX11_placeOf_63 : decode cX11_placeOf 63 = .ok (.istore 4, 2) := by decide +kernel
theorem dX11_placeOf_65 : decode cX11_placeOf 65 = .ok (.iinc 5 1, 3) := by decide +kernel
theorem dX11_placeOf_68 : decode cX11_placeOf 68 = .ok (.goto (-46), 3) := by decide +kernel
theorem dX11_placeOf_71 : decode cX11_placeOf 71 = .ok (.iload 4, 2) := by decide +kernel
theorem dX11_placeOf_73 : decode cX11_placeOf 73 = .ok (.ireturn, 1) := by decide +kernel
theorem dX11_leaves_0 : decode cX11_leaves 0 = .ok (.aload_n 0, 1) := by decide +kernel
theorem dX11_leaves_1 : decode cX11_leaves 1 = .ok (.getfield 16, 3) := by decide +kernel
theorem dX11_leaves_4 : decode cX11_leaves 4 = .ok (.sipush 150, 3) := by decide +kernel
theorem dX11_leaves_7 : decode cX11_leaves 7 = .ok (.iload_n 1, 1) := by decide +kernel
theorem dX11_leaves_8 : decode cX11_leaves 8 = .ok (.imul, 1) := by decide +kernel
theorem dX11_leaves_9 : decode cX11_leaves 9 = .ok (.iload_n 2, 1) := by decide +kernel
theorem dX11_leaves_10 : decode cX11_leaves 10 = .ok (.iadd, 1) := by decide +kernel
theorem dX11_leaves_11 : decode cX11_leaves 11 = .ok (.iconst 0, 1) := by decide +kernel
theorem dX11_leaves_12 : decode cX11_leaves 12 = .ok (.bastore, 1) := by decide +kernel
theorem dX11_leaves_13 : decode cX11_leaves 13 = .ok (.iconst (-1), 1) := by decide +kernel
theorem dX11_leaves_14 : decode cX11_leaves 14 = .ok (.istore_n 3, 1) := by decide +kernel
theorem dX11_leaves_15 : decode cX11_leaves 15 = .ok (.aload_n 0, 1) := by decide +kernel
theorem dX11_leaves_16 : decode cX11_leaves 16 = .ok (.getfield 20, 3) := by decide +kernel
theorem dX11_leaves_19 : decode cX11_leaves 19 = .ok (.iload_n 1, 1) := by decide +kernel
theorem dX11_leaves_20 : decode cX11_leaves 20 = .ok (.iaload, 1) := by decide +kernel
theorem dX11_leaves_21 : decode cX11_leaves 21 = .ok (.iconst 1, 1) := by decide +kernel
theorem dX11_leaves_22 : decode cX11_leaves 22 = .ok (.isub, 1) := by decide +kernel
theorem dX11_leaves_23 : decode cX11_leaves 23 = .ok (.istore 4, 2) := by decide +kernel
theorem dX11_leaves_25 : decode cX11_leaves 25 = .ok (.iload 4, 2) := by decide +kernel
theorem dX11_leaves_27 : decode cX11_leaves 27 = .ok (.aload_n 0, 1) := by decide +kernel
theorem dX11_leaves_28 : decode cX11_leaves 28 = .ok (.iload_n 1, 1) := by decide +kernel
theorem dX11_leaves_29 : decode cX11_leaves 29 = .ok (.iload_n 2, 1) := by decide +kernel
theorem dX11_leaves_30 : decode cX11_leaves 30 = .ok (.invokevirtual 106, 3) := by decide +kernel
theorem dX11_leaves_33 : decode cX11_leaves 33 = .ok (.if_icmp .le 47, 3) := by decide +kernel
theorem dX11_leaves_36 : decode cX11_leaves 36 = .ok (.aload_n 0, 1) := by decide +kernel
theorem dX11_leaves_37 : decode cX11_leaves 37 = .ok (.getfield 7, 3) := by decide +kernel
theorem dX11_leaves_40 : decode cX11_leaves 40 = .ok (.sipush 150, 3) := by decide +kernel
theorem dX11_leaves_43 : decode cX11_leaves 43 = .ok (.iload_n 1, 1) := by decide +kernel
theorem dX11_leaves_44 : decode cX11_leaves 44 = .ok (.imul, 1) := by decide +kernel
theorem dX11_leaves_45 : decode cX11_leaves 45 = .ok (.iload 4, 2) := by decide +kernel
theorem dX11_leaves_47 : decode cX11_leaves 47 = .ok (.iadd, 1) := by decide +kernel
theorem dX11_leaves_48 : decode cX11_leaves 48 = .ok (.iaload, 1) := by decide +kernel
theorem dX11_leaves_49 : decode cX11_leaves 49 = .ok (.istore 5, 2) := by decide +kernel
theorem dX11_leaves_51 : decode cX11_leaves 51 = .ok (.aload_n 0, 1) := by decide +kernel
theorem dX11_leaves_52 : decode cX11_leaves 52 = .ok (.getfield 16, 3) := by decide +kernel
theorem dX11_leaves_55 : decode cX11_leaves 55 = .ok (.sipush 150, 3) := by decide +kernel
theorem dX11_leaves_58 : decode cX11_leaves 58 = .ok (.iload_n 1, 1) := by decide +kernel
theorem dX11_leaves_59 : decode cX11_leaves 59 = .ok (.imul, 1) := by decide +kernel
theorem dX11_leaves_60 : decode cX11_leaves 60 = .ok (.iload 5, 2) := by decide +kernel
theorem dX11_leaves_62 : decode cX11_leaves 62 = .ok (.iadd, 1) := by decide +kernel
theorem dX11_leaves_63 : decode cX11_leaves 63 = .ok (.baload, 1) := by decide +kernel
theorem dX11_leaves_64 : decode cX11_leaves 64 = .ok (.ifCond .eq 8, 3) := by decide +kernel
theorem dX11_leaves_67 : decode cX11_leaves 67 = .ok (.iload 5, 2) := by decide +kernel
theorem dX11_leaves_69 : decode cX11_leaves 69 = .ok (.goto 4, 3) := by decide +kernel
theorem dX11_leaves_72 : decode cX11_leaves 72 = .ok (.iload_n 3, 1) := by decide +kernel
theorem dX11_leaves_73 : decode cX11_leaves 73 = .ok (.istore_n 3, 1) := by decide +kernel
theorem dX11_leaves_74 : decode cX11_leaves 74 = .ok (.iinc 4 (-1), 3) := by decide +kernel
theorem dX11_leaves_77 : decode cX11_leaves 77 = .ok (.goto (-52), 3) := by decide +kernel
theorem dX11_leaves_80 : decode cX11_leaves 80 = .ok (.iconst 0, 1) := by decide +kernel
theorem dX11_leaves_81 : decode cX11_leaves 81 = .ok (.istore 4, 2) := by decide +kernel
theorem dX11_leaves_83 : decode cX11_leaves 83 = .ok (.iload 4, 2) := by decide +kernel
theorem dX11_leaves_85 : decode cX11_leaves 85 = .ok (.iconst 5, 1) := by decide +kernel
theorem dX11_leaves_86 : decode cX11_leaves 86 = .ok (.if_icmp .ge 50, 3) := by decide +kernel
theorem dX11_leaves_89 : decode cX11_leaves 89 = .ok (.aload_n 0, 1) := by decide +kernel
theorem dX11_leaves_90 : decode cX11_leaves 90 = .ok (.getfield 26, 3) := by decide +kernel
theorem dX11_leaves_93 : decode cX11_leaves 93 = .ok (.iconst 5, 1) := by decide +kernel
theorem dX11_leaves_94 : decode cX11_leaves 94 = .ok (.iload_n 1, 1) := by decide +kernel
theorem dX11_leaves_95 : decode cX11_leaves 95 = .ok (.imul, 1) := by decide +kernel
theorem dX11_leaves_96 : decode cX11_leaves 96 = .ok (.iload 4, 2) := by decide +kernel
theorem dX11_leaves_98 : decode cX11_leaves 98 = .ok (.iadd, 1) := by decide +kernel
theorem dX11_leaves_99 : decode cX11_leaves 99 = .ok (.aload_n 0, 1) := by decide +kernel
theorem dX11_leaves_100 : decode cX11_leaves 100 = .ok (.getfield 26, 3) := by decide +kernel
theorem dX11_leaves_103 : decode cX11_leaves 103 = .ok (.iconst 5, 1) := by decide +kernel
theorem dX11_leaves_104 : decode cX11_leaves 104 = .ok (.iload_n 1, 1) := by decide +kernel
theorem dX11_leaves_105 : decode cX11_leaves 105 = .ok (.imul, 1) := by decide +kernel
theorem dX11_leaves_106 : decode cX11_leaves 106 = .ok (.iload 4, 2) := by decide +kernel
theorem dX11_leaves_108 : decode cX11_leaves 108 = .ok (.iadd, 1) := by decide +kernel
theorem dX11_leaves_109 : decode cX11_leaves 109 = .ok (.iaload, 1) := by decide +kernel
theorem dX11_leaves_110 : decode cX11_leaves 110 = .ok (.iload_n 2, 1) := by decide +kernel
theorem dX11_leaves_111 : decode cX11_leaves 111 = .ok (.if_icmp .ne 7, 3) := by decide +kernel
theorem dX11_leaves_114 : decode cX11_leaves 114 = .ok (.iload_n 3, 1) := by decide +kernel
theorem dX11_leaves_115 : decode cX11_leaves 115 = .ok (.goto 14, 3) := by decide +kernel
theorem dX11_leaves_118 : decode cX11_leaves 118 = .ok (.aload_n 0, 1) := by decide +kernel
theorem dX11_leaves_119 : decode cX11_leaves 119 = .ok (.getfield 26, 3) := by decide +kernel
theorem dX11_leaves_122 : decode cX11_leaves 122 = .ok (.iconst 5, 1) := by decide +kernel
theorem dX11_leaves_123 : decode cX11_leaves 123 = .ok (.iload_n 1, 1) := by decide +kernel
theorem dX11_leaves_124 : decode cX11_leaves 124 = .ok (.imul, 1) := by decide +kernel
theorem dX11_leaves_125 : decode cX11_leaves 125 = .ok (.iload 4, 2) := by decide +kernel
theorem dX11_leaves_127 : decode cX11_leaves 127 = .ok (.iadd, 1) := by decide +kernel
theorem dX11_leaves_128 : decode cX11_leaves 128 = .ok (.iaload, 1) := by decide +kernel
theorem dX11_leaves_129 : decode cX11_leaves 129 = .ok (.iastore, 1) := by decide +kernel
theorem dX11_leaves_130 : decode cX11_leaves 130 = .ok (.iinc 4 1, 3) := by decide +kernel
theorem dX11_leaves_133 : decode cX11_leaves 133 = .ok (.goto (-50), 3) := by decide +kernel
theorem dX11_leaves_136 : decode cX11_leaves 136 = .ok (.return_, 1) := by decide +kernel
theorem dX11_keeps_0 : decode cX11_keeps 0 = .ok (.aload_n 0, 1) := by decide +kernel
theorem dX11_keeps_1 : decode cX11_keeps 1 = .ok (.getfield 29, 3) := by decide +kernel
theorem dX11_keeps_4 : decode cX11_keeps 4 = .ok (.sipush 600, 3) := by decide +kernel
theorem dX11_keeps_7 : decode cX11_keeps 7 = .ok (.iload_n 1, 1) := by decide +kernel
theorem dX11_keeps_8 : decode cX11_keeps 8 = .ok (.imul, 1) := by decide +kernel
theorem dX11_keeps_9 : decode cX11_keeps 9 = .ok (.aload_n 0, 1) := by decide +kernel
theorem dX11_keeps_10 : decode cX11_keeps 10 = .ok (.getfield 32, 3) := by decide +kernel
theorem dX11_keeps_13 : decode cX11_keeps 13 = .ok (.iload_n 1, 1) := by decide +kernel
theorem dX11_keeps_14 : decode cX11_keeps 14 = .ok (.iaload, 1) := by decide +kernel
theorem dX11_keeps_15 : decode cX11_keeps 15 = .ok (.iadd, 1) := by decide +kernel
theorem dX11_keeps_16 : decode cX11_keeps 16 = .ok (.iload_n 2, 1) := by decide +kernel
theorem dX11_keeps_17 : decode cX11_keeps 17 = .ok (.iastore, 1) := by decide +kernel
theorem dX11_keeps_18 : decode cX11_keeps 18 = .ok (.aload_n 0, 1) := by decide +kernel
theorem dX11_keeps_19 : decode cX11_keeps 19 = .ok (.getfield 32, 3) := by decide +kernel
theorem dX11_keeps_22 : decode cX11_keeps 22 = .ok (.iload_n 1, 1) := by decide +kernel
theorem dX11_keeps_23 : decode cX11_keeps 23 = .ok (.dup2, 1) := by decide +kernel
theorem dX11_keeps_24 : decode cX11_keeps 24 = .ok (.iaload, 1) := by decide +kernel
theorem dX11_keeps_25 : decode cX11_keeps 25 = .ok (.iconst 1, 1) := by decide +kernel
theorem dX11_keeps_26 : decode cX11_keeps 26 = .ok (.iadd, 1) := by decide +kernel
theorem dX11_keeps_27 : decode cX11_keeps 27 = .ok (.iastore, 1) := by decide +kernel
theorem dX11_keeps_28 : decode cX11_keeps 28 = .ok (.aload_n 0, 1) := by decide +kernel
theorem dX11_keeps_29 : decode cX11_keeps 29 = .ok (.getfield 35, 3) := by decide +kernel
theorem dX11_keeps_32 : decode cX11_keeps 32 = .ok (.iload_n 1, 1) := by decide +kernel
theorem dX11_keeps_33 : decode cX11_keeps 33 = .ok (.iconst 0, 1) := by decide +kernel
theorem dX11_keeps_34 : decode cX11_keeps 34 = .ok (.iastore, 1) := by decide +kernel
theorem dX11_keeps_35 : decode cX11_keeps 35 = .ok (.return_, 1) := by decide +kernel
theorem dX11_isLetter_0 : decode cX11_isLetter 0 = .ok (.iload_n 0, 1) := by decide +kernel
theorem dX11_isLetter_1 : decode cX11_isLetter 1 = .ok (.bipush 97, 2) := by decide +kernel
theorem dX11_isLetter_3 : decode cX11_isLetter 3 = .ok (.if_icmp .lt 9, 3) := by decide +kernel
theorem dX11_isLetter_6 : decode cX11_isLetter 6 = .ok (.iload_n 0, 1) := by decide +kernel
theorem dX11_isLetter_7 : decode cX11_isLetter 7 = .ok (.bipush 122, 2) := by decide +kernel
theorem dX11_isLetter_9 : decode cX11_isLetter 9 = .ok (.if_icmp .le 39, 3) := by decide +kernel
theorem dX11_isLetter_12 : decode cX11_isLetter 12 = .ok (.iload_n 0, 1) := by decide +kernel
theorem dX11_isLetter_13 : decode cX11_isLetter 13 = .ok (.bipush 65, 2) := by decide +kernel
theorem dX11_isLetter_15 : decode cX11_isLetter 15 = .ok (.if_icmp .lt 9, 3) := by decide +kernel
theorem dX11_isLetter_18 : decode cX11_isLetter 18 = .ok (.iload_n 0, 1) := by decide +kernel
theorem dX11_isLetter_19 : decode cX11_isLetter 19 = .ok (.bipush 90, 2) := by decide +kernel
theorem dX11_isLetter_21 : decode cX11_isLetter 21 = .ok (.if_icmp .le 27, 3) := by decide +kernel
theorem dX11_isLetter_24 : decode cX11_isLetter 24 = .ok (.iload_n 0, 1) := by decide +kernel
theorem dX11_isLetter_25 : decode cX11_isLetter 25 = .ok (.bipush 48, 2) := by decide +kernel
theorem dX11_isLetter_27 : decode cX11_isLetter 27 = .ok (.if_icmp .lt 9, 3) := by decide +kernel
theorem dX11_isLetter_30 : decode cX11_isLetter 30 = .ok (.iload_n 0, 1) := by decide +kernel
theorem dX11_isLetter_31 : decode cX11_isLetter 31 = .ok (.bipush 57, 2) := by decide +kernel
theorem dX11_isLetter_33 : decode cX11_isLetter 33 = .ok (.if_icmp .le 15, 3) := by decide +kernel
theorem dX11_isLetter_36 : decode cX11_isLetter 36 = .ok (.iload_n 0, 1) := by decide +kernel
theorem dX11_isLetter_37 : decode cX11_isLetter 37 = .ok (.bipush 32, 2) := by decide +kernel
theorem dX11_isLetter_39 : decode cX11_isLetter 39 = .ok (.if_icmp .eq 9, 3) := by decide +kernel
theorem dX11_isLetter_42 : decode cX11_isLetter 42 = .ok (.iload_n 0, 1) := by decide +kernel
theorem dX11_isLetter_43 : decode cX11_isLetter 43 = .ok (.bipush 47, 2) := by decide +kernel
theorem dX11_isLetter_45 : decode cX11_isLetter 45 = .ok (.if_icmp .ne 7, 3) := by decide +kernel
theorem dX11_isLetter_48 : decode cX11_isLetter 48 = .ok (.iconst 1, 1) := by decide +kernel
theorem dX11_isLetter_49 : decode cX11_isLetter 49 = .ok (.goto 4, 3) := by decide +kernel
theorem dX11_isLetter_52 : decode cX11_isLetter 52 = .ok (.iconst 0, 1) := by decide +kernel
theorem dX11_isLetter_53 : decode cX11_isLetter 53 = .ok (.ireturn, 1) := by decide +kernel
theorem dX11_type_0 : decode cX11_type 0 = .ok (.iload_n 1, 1) := by decide +kernel
theorem dX11_type_1 : decode cX11_type 1 = .ok (.iload_n 2, 1) := by decide +kernel
theorem dX11_type_2 : decode cX11_type 2 = .ok (.invokestatic 110, 3) := by decide +kernel
theorem dX11_type_5 : decode cX11_type 5 = .ok (.istore 4, 2) := by decide +kernel
theorem dX11_type_7 : decode cX11_type 7 = .ok (.aload_n 0, 1) := by decide +kernel
theorem dX11_type_8 : decode cX11_type 8 = .ok (.iload 4, 2) := by decide +kernel
theorem dX11_type_10 : decode cX11_type 10 = .ok (.iload_n 3, 1) := by decide +kernel
theorem dX11_type_11 : decode cX11_type 11 = .ok (.invokestatic 113, 3) := by decide +kernel
theorem dX11_type_14 : decode cX11_type 14 = .ok (.iload 4, 2) := by decide +kernel
theorem dX11_type_16 : decode cX11_type 16 = .ok (.ifCond .eq 19, 3) := by decide +kernel
theorem dX11_type_19 : decode cX11_type 19 = .ok (.aload_n 0, 1) := by decide +kernel
theorem dX11_type_20 : decode cX11_type 20 = .ok (.getfield 20, 3) := by decide +kernel
theorem dX11_type_23 : decode cX11_type 23 = .ok (.iload_n 2, 1) := by decide +kernel
theorem dX11_type_24 : decode cX11_type 24 = .ok (.iaload, 1) := by decide +kernel
theorem dX11_type_25 : decode cX11_type 25 = .ok (.sipush 150, 3) := by decide +kernel
theorem dX11_type_28 : decode cX11_type 28 = .ok (.if_icmp .ge 7, 3) := by decide +kernel
theorem dX11_type_31 : decode cX11_type 31 = .ok (.iconst 1, 1) := by decide +kernel
theorem dX11_type_32 : decode cX11_type 32 = .ok (.goto 4, 3) := by decide +kernel
theorem dX11_type_35 : decode cX11_type 35 = .ok (.iconst 0, 1) := by decide +kernel
theorem dX11_type_36 : decode cX11_type 36 = .ok (.invokevirtual 117, 3) := by decide +kernel
theorem dX11_type_39 : decode cX11_type 39 = .ok (.ifCond .ne 5, 3) := by decide +kernel
theorem dX11_type_42 : decode cX11_type 42 = .ok (.iconst 0, 1) := by decide +kernel
theorem dX11_type_43 : decode cX11_type 43 = .ok (.ireturn, 1) := by decide +kernel
theorem dX11_type_44 : decode cX11_type 44 = .ok (.aload_n 0, 1) := by decide +kernel
theorem dX11_type_45 : decode cX11_type 45 = .ok (.iload_n 2, 1) := by decide +kernel
theorem dX11_type_46 : decode cX11_type 46 = .ok (.aload_n 0, 1) := by decide +kernel
theorem dX11_type_47 : decode cX11_type 47 = .ok (.getfield 26, 3) := by decide +kernel
theorem dX11_type_50 : decode cX11_type 50 = .ok (.iconst 5, 1) := by decide +kernel
theorem dX11_type_51 : decode cX11_type 51 = .ok (.iload_n 2, 1) := by decide +kernel
theorem dX11_type_52 : decode cX11_type 52 = .ok (.imul, 1) := by decide +kernel
theorem dX11_type_53 : decode cX11_type 53 = .ok (.iload_n 1, 1) := by decide +kernel
theorem dX11_type_54 : decode cX11_type 54 = .ok (.iadd, 1) := by decide +kernel
theorem dX11_type_55 : decode cX11_type 55 = .ok (.iaload, 1) := by decide +kernel
theorem dX11_type_56 : decode cX11_type 56 = .ok (.invokevirtual 106, 3) := by decide +kernel
theorem dX11_type_59 : decode cX11_type 59 = .ok (.istore 5, 2) := by decide +kernel
theorem dX11_type_61 : decode cX11_type 61 = .ok (.aload_n 0, 1) := by decide +kernel
theorem dX11_type_62 : decode cX11_type 62 = .ok (.getfield 20, 3) := by decide +kernel
theorem dX11_type_65 : decode cX11_type 65 = .ok (.iload_n 2, 1) := by decide +kernel
theorem dX11_type_66 : decode cX11_type 66 = .ok (.iaload, 1) := by decide +kernel
theorem dX11_type_67 : decode cX11_type 67 = .ok (.istore 6, 2) := by decide +kernel
theorem dX11_type_69 : decode cX11_type 69 = .ok (.iload 6, 2) := by decide +kernel
theorem dX11_type_71 : decode cX11_type 71 = .ok (.iload 5, 2) := by decide +kernel
theorem dX11_type_73 : decode cX11_type 73 = .ok (.if_icmp .le 37, 3) := by decide +kernel
theorem dX11_type_76 : decode cX11_type 76 = .ok (.aload_n 0, 1) := by decide +kernel
theorem dX11_type_77 : decode cX11_type 77 = .ok (.getfield 7, 3) := by decide +kernel
theorem dX11_type_80 : decode cX11_type 80 = .ok (.sipush 150, 3) := by decide +kernel
theorem dX11_type_83 : decode cX11_type 83 = .ok (.iload_n 2, 1) := by decide +kernel
theorem dX11_type_84 : decode cX11_type 84 = .ok (.imul, 1) := by decide +kernel
theorem dX11_type_85 : decode cX11_type 85 = .ok (.iload 6, 2) := by decide +kernel
theorem dX11_type_87 : decode cX11_type 87 = .ok (.iadd, 1) := by decide +kernel
theorem dX11_type_88 : decode cX11_type 88 = .ok (.aload_n 0, 1) := by decide +kernel
theorem dX11_type_89 : decode cX11_type 89 = .ok (.getfield 7, 3) := by decide +kernel
theorem dX11_type_92 : decode cX11_type 92 = .ok (.sipush 150, 3) := by decide +kernel
theorem dX11_type_95 : decode cX11_type 95 = .ok (.iload_n 2, 1) := by decide +kernel
theorem dX11_type_96 : decode cX11_type 96 = .ok (.imul, 1) := by decide +kernel
theorem dX11_type_97 : decode cX11_type 97 = .ok (.iload 6, 2) := by decide +kernel
theorem dX11_type_99 : decode cX11_type 99 = .ok (.iadd, 1) := by decide +kernel
theorem dX11_type_100 : decode cX11_type 100 = .ok (.iconst 1, 1) := by decide +kernel
theorem dX11_type_101 : decode cX11_type 101 = .ok (.isub, 1) := by decide +kernel
theorem dX11_type_102 : decode cX11_type 102 = .ok (.iaload, 1) := by decide +kernel
theorem dX11_type_103 : decode cX11_type 103 = .ok (.iastore, 1) := by decide +kernel
theorem dX11_type_104 : decode cX11_type 104 = .ok (.iinc 6 (-1), 3) := by decide +kernel
theorem dX11_type_107 : decode cX11_type 107 = .ok (.goto (-38), 3) := by decide +kernel
theorem dX11_type_110 : decode cX11_type 110 = .ok (.aload_n 0, 1) := by decide +kernel
theorem dX11_type_111 : decode cX11_type 111 = .ok (.getfield 7, 3) := by decide +kernel
theorem dX11_type_114 : decode cX11_type 114 = .ok (.sipush 150, 3) := by decide +kernel
theorem dX11_type_117 : decode cX11_type 117 = .ok (.iload_n 2, 1) := by decide +kernel
theorem dX11_type_118 : decode cX11_type 118 = .ok (.imul, 1) := by decide +kernel
theorem dX11_type_119 : decode cX11_type 119 = .ok (.iload 5, 2) := by decide +kernel
theorem dX11_type_121 : decode cX11_type 121 = .ok (.iadd, 1) := by decide +kernel
theorem dX11_type_122 : decode cX11_type 122 = .ok (.aload_n 0, 1) := by decide +kernel
theorem dX11_type_123 : decode cX11_type 123 = .ok (.getfield 20, 3) := by decide +kernel
theorem dX11_type_126 : decode cX11_type 126 = .ok (.iload_n 2, 1) := by decide +kernel
theorem dX11_type_127 : decode cX11_type 127 = .ok (.iaload, 1) := by decide +kernel
theorem dX11_type_128 : decode cX11_type 128 = .ok (.iastore, 1) := by decide +kernel
theorem dX11_type_129 : decode cX11_type 129 = .ok (.aload_n 0, 1) := by decide +kernel
theorem dX11_type_130 : decode cX11_type 130 = .ok (.getfield 13, 3) := by decide +kernel
theorem dX11_type_133 : decode cX11_type 133 = .ok (.sipush 150, 3) := by decide +kernel
theorem dX11_type_136 : decode cX11_type 136 = .ok (.iload_n 2, 1) := by decide +kernel
theorem dX11_type_137 : decode cX11_type 137 = .ok (.imul, 1) := by decide +kernel
theorem dX11_type_138 : decode cX11_type 138 = .ok (.aload_n 0, 1) := by decide +kernel
theorem dX11_type_139 : decode cX11_type 139 = .ok (.getfield 20, 3) := by decide +kernel
theorem dX11_type_142 : decode cX11_type 142 = .ok (.iload_n 2, 1) := by decide +kernel
theorem dX11_type_143 : decode cX11_type 143 = .ok (.iaload, 1) := by decide +kernel
theorem dX11_type_144 : decode cX11_type 144 = .ok (.iadd, 1) := by decide +kernel
theorem dX11_type_145 : decode cX11_type 145 = .ok (.iload_n 3, 1) := by decide +kernel
theorem dX11_type_146 : decode cX11_type 146 = .ok (.iastore, 1) := by decide +kernel
theorem dX11_type_147 : decode cX11_type 147 = .ok (.aload_n 0, 1) := by decide +kernel
theorem dX11_type_148 : decode cX11_type 148 = .ok (.getfield 16, 3) := by decide +kernel
theorem dX11_type_151 : decode cX11_type 151 = .ok (.sipush 150, 3) := by decide +kernel
theorem dX11_type_154 : decode cX11_type 154 = .ok (.iload_n 2, 1) := by decide +kernel
theorem dX11_type_155 : decode cX11_type 155 = .ok (.imul, 1) := by decide +kernel
theorem dX11_type_156 : decode cX11_type 156 = .ok (.aload_n 0, 1) := by decide +kernel
theorem dX11_type_157 : decode cX11_type 157 = .ok (.getfield 20, 3) := by decide +kernel
theorem dX11_type_160 : decode cX11_type 160 = .ok (.iload_n 2, 1) := by decide +kernel
theorem dX11_type_161 : decode cX11_type 161 = .ok (.iaload, 1) := by decide +kernel
theorem dX11_type_162 : decode cX11_type 162 = .ok (.iadd, 1) := by decide +kernel
theorem dX11_type_163 : decode cX11_type 163 = .ok (.iconst 1, 1) := by decide +kernel
theorem dX11_type_164 : decode cX11_type 164 = .ok (.bastore, 1) := by decide +kernel
theorem dX11_type_165 : decode cX11_type 165 = .ok (.aload_n 0, 1) := by decide +kernel
theorem dX11_type_166 : decode cX11_type 166 = .ok (.iload_n 1, 1) := by decide +kernel
theorem dX11_type_167 : decode cX11_type 167 = .ok (.sipush 1000, 3) := by decide +kernel
theorem dX11_type_170 : decode cX11_type 170 = .ok (.iload_n 2, 1) := by decide +kernel
theorem dX11_type_171 : decode cX11_type 171 = .ok (.imul, 1) := by decide +kernel
theorem dX11_type_172 : decode cX11_type 172 = .ok (.aload_n 0, 1) := by decide +kernel
theorem dX11_type_173 : decode cX11_type 173 = .ok (.getfield 20, 3) := by decide +kernel
theorem dX11_type_176 : decode cX11_type 176 = .ok (.iload_n 2, 1) := by decide +kernel
theorem dX11_type_177 : decode cX11_type 177 = .ok (.iaload, 1) := by decide +kernel
theorem dX11_type_178 : decode cX11_type 178 = .ok (.iadd, 1) := by decide +kernel
theorem dX11_type_179 : decode cX11_type 179 = .ok (.invokevirtual 121, 3) := by decide +kernel
theorem dX11_type_182 : decode cX11_type 182 = .ok (.aload_n 0, 1) := by decide +kernel
theorem dX11_type_183 : decode cX11_type 183 = .ok (.getfield 20, 3) := by decide +kernel
theorem dX11_type_186 : decode cX11_type 186 = .ok (.iload_n 2, 1) := by decide +kernel
theorem dX11_type_187 : decode cX11_type 187 = .ok (.dup2, 1) := by decide +kernel
theorem dX11_type_188 : decode cX11_type 188 = .ok (.iaload, 1) := by decide +kernel
theorem dX11_type_189 : decode cX11_type 189 = .ok (.iconst 1, 1) := by decide +kernel
theorem dX11_type_190 : decode cX11_type 190 = .ok (.iadd, 1) := by decide +kernel
theorem dX11_type_191 : decode cX11_type 191 = .ok (.iastore, 1) := by decide +kernel
theorem dX11_type_192 : decode cX11_type 192 = .ok (.aload_n 0, 1) := by decide +kernel
theorem dX11_type_193 : decode cX11_type 193 = .ok (.getfield 23, 3) := by decide +kernel
theorem dX11_type_196 : decode cX11_type 196 = .ok (.iload_n 2, 1) := by decide +kernel
theorem dX11_type_197 : decode cX11_type 197 = .ok (.dup2, 1) := by decide +kernel
theorem dX11_type_198 : decode cX11_type 198 = .ok (.iaload, 1) := by decide +kernel
theorem dX11_type_199 : decode cX11_type 199 = .ok (.iconst 1, 1) := by decide +kernel
theorem dX11_type_200 : decode cX11_type 200 = .ok (.iadd, 1) := by decide +kernel
theorem dX11_type_201 : decode cX11_type 201 = .ok (.iastore, 1) := by decide +kernel
theorem dX11_type_202 : decode cX11_type 202 = .ok (.aload_n 0, 1) := by decide +kernel
theorem dX11_type_203 : decode cX11_type 203 = .ok (.iload_n 1, 1) := by decide +kernel
theorem dX11_type_204 : decode cX11_type 204 = .ok (.iload_n 2, 1) := by decide +kernel
theorem dX11_type_205 : decode cX11_type 205 = .ok (.invokevirtual 125, 3) := by decide +kernel
theorem dX11_type_208 : decode cX11_type 208 = .ok (.ireturn, 1) := by decide +kernel
theorem dX11_erase_0 : decode cX11_erase 0 = .ok (.iload_n 1, 1) := by decide +kernel
theorem dX11_erase_1 : decode cX11_erase 1 = .ok (.iload_n 2, 1) := by decide +kernel
theorem dX11_erase_2 : decode cX11_erase 2 = .ok (.invokestatic 110, 3) := by decide +kernel
theorem dX11_erase_5 : decode cX11_erase 5 = .ok (.istore_n 3, 1) := by decide +kernel
theorem dX11_erase_6 : decode cX11_erase 6 = .ok (.iload_n 3, 1) := by decide +kernel
theorem dX11_erase_7 : decode cX11_erase 7 = .ok (.ifCond .eq 12, 3) := by decide +kernel
theorem dX11_erase_10 : decode cX11_erase 10 = .ok (.aload_n 0, 1) := by decide +kernel
theorem dX11_erase_11 : decode cX11_erase 11 = .ok (.iload_n 1, 1) := by decide +kernel
theorem dX11_erase_12 : decode cX11_erase 12 = .ok (.iload_n 2, 1) := by decide +kernel
theorem dX11_erase_13 : decode cX11_erase 13 = .ok (.invokevirtual 125, 3) := by decide +kernel
theorem dX11_erase_16 : decode cX11_erase 16 = .ok (.goto 4, 3) := by decide +kernel
theorem dX11_erase_19 : decode cX11_erase 19 = .ok (.iconst 0, 1) := by decide +kernel
theorem dX11_erase_20 : decode cX11_erase 20 = .ok (.istore 4, 2) := by decide +kernel
theorem dX11_erase_22 : decode cX11_erase 22 = .ok (.aload_n 0, 1) := by decide +kernel
theorem dX11_erase_23 : decode cX11_erase 23 = .ok (.iload_n 3, 1) := by decide +kernel
theorem dX11_erase_24 : decode cX11_erase 24 = .ok (.iload 4, 2) := by decide +kernel
theorem dX11_erase_26 : decode cX11_erase 26 = .ok (.ifCond .le 7, 3) := by decide +kernel
theorem dX11_erase_29 : decode cX11_erase 29 = .ok (.iconst 1, 1) := by decide +kernel
theorem dX11_erase_30 : decode cX11_erase 30 = .ok (.goto 4, 3) := by decide +kernel
theorem dX11_erase_33 : decode cX11_erase 33 = .ok (.iconst 0, 1) := by decide +kernel
theorem dX11_erase_34 : decode cX11_erase 34 = .ok (.iconst 1, 1) := by decide +kernel
theorem dX11_erase_35 : decode cX11_erase 35 = .ok (.invokevirtual 117, 3) := by decide +kernel
theorem dX11_erase_38 : decode cX11_erase 38 = .ok (.ifCond .ne 5, 3) := by decide +kernel
theorem dX11_erase_41 : decode cX11_erase 41 = .ok (.iconst 0, 1) := by decide +kernel
theorem dX11_erase_42 : decode cX11_erase 42 = .ok (.ireturn, 1) := by decide +kernel
theorem dX11_erase_43 : decode cX11_erase 43 = .ok (.aload_n 0, 1) := by decide +kernel
theorem dX11_erase_44 : decode cX11_erase 44 = .ok (.iload_n 2, 1) := by decide +kernel
theorem dX11_erase_45 : decode cX11_erase 45 = .ok (.invokevirtual 128, 3) := by decide +kernel
theorem dX11_erase_48 : decode cX11_erase 48 = .ok (.aload_n 0, 1) := by decide +kernel
theorem dX11_erase_49 : decode cX11_erase 49 = .ok (.getfield 89, 3) := by decide +kernel
theorem dX11_erase_52 : decode cX11_erase 52 = .ok (.iload 4, 2) := by decide +kernel
theorem dX11_erase_54 : decode cX11_erase 54 = .ok (.iconst 1, 1) := by decide +kernel
theorem dX11_erase_55 : decode cX11_erase 55 = .ok (.isub, 1) := by decide +kernel
theorem dX11_erase_56 : decode cX11_erase 56 = .ok (.iaload, 1) := by decide +kernel
theorem dX11_erase_57 : decode cX11_erase 57 = .ok (.istore 5, 2) := by decide +kernel
theorem dX11_erase_59 : decode cX11_erase 59 = .ok (.aload_n 0, 1) := by decide +kernel
theorem dX11_erase_60 : decode cX11_erase 60 = .ok (.iload_n 2, 1) := by decide +kernel
theorem dX11_erase_61 : decode cX11_erase 61 = .ok (.iload 5, 2) := by decide +kernel
theorem dX11_erase_63 : decode cX11_erase 63 = .ok (.invokevirtual 132, 3) := by decide +kernel
theorem dX11_erase_66 : decode cX11_erase 66 = .ok (.aload_n 0, 1) := by decide +kernel
theorem dX11_erase_67 : decode cX11_erase 67 = .ok (.iload_n 1, 1) := by decide +kernel
theorem dX11_erase_68 : decode cX11_erase 68 = .ok (.sipush 1000, 3) := by decide +kernel
theorem dX11_erase_71 : decode cX11_erase 71 = .ok (.iload_n 2, 1) := by decide +kernel
theorem dX11_erase_72 : decode cX11_erase 72 = .ok (.imul, 1) := by decide +kernel
theorem dX11_erase_73 : decode cX11_erase 73 = .ok (.sipush 500, 3) := by decide +kernel
theorem dX11_erase_76 : decode cX11_erase 76 = .ok (.iadd, 1) := by decide +kernel
theorem dX11_erase_77 : decode cX11_erase 77 = .ok (.iload 5, 2) := by decide +kernel
theorem dX11_erase_79 : decode cX11_erase 79 = .ok (.iadd, 1) := by decide +kernel
theorem dX11_erase_80 : decode cX11_erase 80 = .ok (.invokevirtual 121, 3) := by decide +kernel
theorem dX11_erase_83 : decode cX11_erase 83 = .ok (.aload_n 0, 1) := by decide +kernel
theorem dX11_erase_84 : decode cX11_erase 84 = .ok (.getfield 23, 3) := by decide +kernel
theorem dX11_erase_87 : decode cX11_erase 87 = .ok (.iload_n 2, 1) := by decide +kernel
theorem dX11_erase_88 : decode cX11_erase 88 = .ok (.dup2, 1) := by decide +kernel
theorem dX11_erase_89 : decode cX11_erase 89 = .ok (.iaload, 1) := by decide +kernel
theorem dX11_erase_90 : decode cX11_erase 90 = .ok (.iconst 1, 1) := by decide +kernel
theorem dX11_erase_91 : decode cX11_erase 91 = .ok (.iadd, 1) := by decide +kernel
theorem dX11_erase_92 : decode cX11_erase 92 = .ok (.iastore, 1) := by decide +kernel
theorem dX11_erase_93 : decode cX11_erase 93 = .ok (.aload_n 0, 1) := by decide +kernel
theorem dX11_erase_94 : decode cX11_erase 94 = .ok (.iload_n 1, 1) := by decide +kernel
theorem dX11_erase_95 : decode cX11_erase 95 = .ok (.iload_n 2, 1) := by decide +kernel
theorem dX11_erase_96 : decode cX11_erase 96 = .ok (.invokevirtual 125, 3) := by decide +kernel
theorem dX11_erase_99 : decode cX11_erase 99 = .ok (.ireturn, 1) := by decide +kernel
theorem dX11_moveTo_0 : decode cX11_moveTo 0 = .ok (.iload_n 1, 1) := by decide +kernel
theorem dX11_moveTo_1 : decode cX11_moveTo 1 = .ok (.iload_n 2, 1) := by decide +kernel
theorem dX11_moveTo_2 : decode cX11_moveTo 2 = .ok (.invokestatic 110, 3) := by decide +kernel
theorem dX11_moveTo_5 : decode cX11_moveTo 5 = .ok (.istore 4, 2) := by decide +kernel
theorem dX11_moveTo_7 : decode cX11_moveTo 7 = .ok (.iload 4, 2) := by decide +kernel
theorem dX11_moveTo_9 : decode cX11_moveTo 9 = .ok (.ifCond .eq 8, 3) := by decide +kernel
theorem dX11_moveTo_12 : decode cX11_moveTo 12 = .ok (.aload_n 0, 1) := by decide +kernel
theorem dX11_moveTo_13 : decode cX11_moveTo 13 = .ok (.iload_n 2, 1) := by decide +kernel
theorem dX11_moveTo_14 : decode cX11_moveTo 14 = .ok (.invokevirtual 128, 3) := by decide +kernel
theorem dX11_moveTo_17 : decode cX11_moveTo 17 = .ok (.aload_n 0, 1) := by decide +kernel
theorem dX11_moveTo_18 : decode cX11_moveTo 18 = .ok (.iload 4, 2) := by decide +kernel
theorem dX11_moveTo_20 : decode cX11_moveTo 20 = .ok (.ifCond .eq 19, 3) := by decide +kernel
theorem dX11_moveTo_23 : decode cX11_moveTo 23 = .ok (.iload_n 3, 1) := by decide +kernel
theorem dX11_moveTo_24 : decode cX11_moveTo 24 = .ok (.ifCond .lt 15, 3) := by decide +kernel
theorem dX11_moveTo_27 : decode cX11_moveTo 27 = .ok (.iload_n 3, 1) := by decide +kernel
theorem dX11_moveTo_28 : decode cX11_moveTo 28 = .ok (.aload_n 0, 1) := by decide +kernel
theorem dX11_moveTo_29 : decode cX11_moveTo 29 = .ok (.getfield 103, 3) := by decide +kernel
theorem dX11_moveTo_32 : decode cX11_moveTo 32 = .ok (.if_icmp .gt 7, 3) := by decide +kernel
theorem dX11_moveTo_35 : decode cX11_moveTo 35 = .ok (.iconst 1, 1) := by decide +kernel
theorem dX11_moveTo_36 : decode cX11_moveTo 36 = .ok (.goto 4, 3) := by decide +kernel
theorem dX11_moveTo_39 : decode cX11_moveTo 39 = .ok (.iconst 0, 1) := by decide +kernel
theorem dX11_moveTo_40 : decode cX11_moveTo 40 = .ok (.iconst 1, 1) := by decide +kernel
theorem dX11_moveTo_41 : decode cX11_moveTo 41 = .ok (.iconst 1, 1) := by decide +kernel
theorem dX11_moveTo_42 : decode cX11_moveTo 42 = .ok (.invokevirtual 117, 3) := by decide +kernel
theorem dX11_moveTo_45 : decode cX11_moveTo 45 = .ok (.ifCond .ne 5, 3) := by decide +kernel
theorem dX11_moveTo_48 : decode cX11_moveTo 48 = .ok (.iconst 0, 1) := by decide +kernel
theorem dX11_moveTo_49 : decode cX11_moveTo 49 = .ok (.ireturn, 1) := by decide +kernel
theorem dX11_moveTo_50 : decode cX11_moveTo 50 = .ok (.aload_n 0, 1) := by decide +kernel
theorem dX11_moveTo_51 : decode cX11_moveTo 51 = .ok (.iload_n 1, 1) := by decide +kernel
theorem dX11_moveTo_52 : decode cX11_moveTo 52 = .ok (.iload_n 2, 1) := by decide +kernel
theorem dX11_moveTo_53 : decode cX11_moveTo 53 = .ok (.invokevirtual 125, 3) := by decide +kernel
theorem dX11_moveTo_56 : decode cX11_moveTo 56 = .ok (.istore 5, 2) := by decide +kernel
theorem dX11_moveTo_58 : decode cX11_moveTo 58 = .ok (.aload_n 0, 1) := by decide +kernel
theorem dX11_moveTo_59 : decode cX11_moveTo 59 = .ok (.iload_n 2, 1) := by decide +kernel
theorem dX11_moveTo_60 : decode cX11_moveTo 60 = .ok (.invokevirtual 128, 3) := by decide +kernel
theorem dX11_moveTo_63 : decode cX11_moveTo 63 = .ok (.aload_n 0, 1) := by decide +kernel
theorem dX11_moveTo_64 : decode cX11_moveTo 64 = .ok (.getfield 26, 3) := by decide +kernel
theorem dX11_moveTo_67 : decode cX11_moveTo 67 = .ok (.iconst 5, 1) := by decide +kernel
theorem dX11_moveTo_68 : decode cX11_moveTo 68 = .ok (.iload_n 2, 1) := by decide +kernel
theorem dX11_moveTo_69 : decode cX11_moveTo 69 = .ok (.imul, 1) := by decide +kernel
theorem dX11_moveTo_70 : decode cX11_moveTo 70 = .ok (.iload_n 1, 1) := by decide +kernel
theorem dX11_moveTo_71 : decode cX11_moveTo 71 = .ok (.iadd, 1) := by decide +kernel
theorem dX11_moveTo_72 : decode cX11_moveTo 72 = .ok (.iload_n 3, 1) := by decide +kernel
theorem dX11_moveTo_73 : decode cX11_moveTo 73 = .ok (.aload_n 0, 1) := by decide +kernel
theorem dX11_moveTo_74 : decode cX11_moveTo 74 = .ok (.getfield 103, 3) := by decide +kernel
theorem dX11_moveTo_77 : decode cX11_moveTo 77 = .ok (.if_icmp .ge 12, 3) := by decide +kernel
theorem dX11_moveTo_80 : decode cX11_moveTo 80 = .ok (.aload_n 0, 1) := by decide +kernel
theorem dX11_moveTo_81 : decode cX11_moveTo 81 = .ok (.getfield 89, 3) := by decide +kernel
theorem dX11_moveTo_84 : decode cX11_moveTo 84 = .ok (.iload_n 3, 1) := by decide +kernel
theorem dX11_moveTo_85 : decode cX11_moveTo 85 = .ok (.iaload, 1) := by decide +kernel
theorem dX11_moveTo_86 : decode cX11_moveTo 86 = .ok (.goto 4, 3) := by decide +kernel
theorem dX11_moveTo_89 : decode cX11_moveTo 89 = .ok (.iconst (-1), 1) := by decide +kernel
theorem dX11_moveTo_90 : decode cX11_moveTo 90 = .ok (.iastore, 1) := by decide +kernel
theorem dX11_moveTo_91 : decode cX11_moveTo 91 = .ok (.iload 5, 2) := by decide +kernel
theorem dX11_moveTo_93 : decode cX11_moveTo 93 = .ok (.ireturn, 1) := by decide +kernel
theorem dX11_turns_0 : decode cX11_turns 0 = .ok (.iload_n 1, 1) := by decide +kernel
theorem dX11_turns_1 : decode cX11_turns 1 = .ok (.sipush 1000, 3) := by decide +kernel
theorem dX11_turns_4 : decode cX11_turns 4 = .ok (.idiv, 1) := by decide +kernel
theorem dX11_turns_5 : decode cX11_turns 5 = .ok (.istore_n 3, 1) := by decide +kernel
theorem dX11_turns_6 : decode cX11_turns 6 = .ok (.iload_n 1, 1) := by decide +kernel
theorem dX11_turns_7 : decode cX11_turns 7 = .ok (.sipush 500, 3) := by decide +kernel
theorem dX11_turns_10 : decode cX11_turns 10 = .ok (.irem, 1) := by decide +kernel
theorem dX11_turns_11 : decode cX11_turns 11 = .ok (.istore 4, 2) := by decide +kernel
theorem dX11_turns_13 : decode cX11_turns 13 = .ok (.aload_n 0, 1) := by decide +kernel
theorem dX11_turns_14 : decode cX11_turns 14 = .ok (.getfield 16, 3) := by decide +kernel
theorem dX11_turns_17 : decode cX11_turns 17 = .ok (.sipush 150, 3) := by decide +kernel
theorem dX11_turns_20 : decode cX11_turns 20 = .ok (.iload_n 3, 1) := by decide +kernel
theorem dX11_turns_21 : decode cX11_turns 21 = .ok (.imul, 1) := by decide +kernel
theorem dX11_turns_22 : decode cX11_turns 22 = .ok (.iload 4, 2) := by decide +kernel
theorem dX11_turns_24 : decode cX11_turns 24 = .ok (.iadd, 1) := by decide +kernel
theorem dX11_turns_25 : decode cX11_turns 25 = .ok (.baload, 1) := by decide +kernel
theorem dX11_turns_26 : decode cX11_turns 26 = .ok (.iload_n 2, 1) := by decide +kernel
theorem dX11_turns_27 : decode cX11_turns 27 = .ok (.if_icmp .eq 38, 3) := by decide +kernel
theorem dX11_turns_30 : decode cX11_turns 30 = .ok (.aload_n 0, 1) := by decide +kernel
theorem dX11_turns_31 : decode cX11_turns 31 = .ok (.getfield 23, 3) := by decide +kernel
theorem dX11_turns_34 : decode cX11_turns 34 = .ok (.iload_n 3, 1) := by decide +kernel
theorem dX11_turns_35 : decode cX11_turns 35 = .ok (.dup2, 1) := by decide +kernel
theorem dX11_turns_36 : decode cX11_turns 36 = .ok (.iaload, 1) := by decide +kernel
theorem dX11_turns_37 : decode cX11_turns 37 = .ok (.iconst 1, 1) := by decide +kernel
theorem dX11_turns_38 : decode cX11_turns 38 = .ok (.iadd, 1) := by decide +kernel
theorem dX11_turns_39 : decode cX11_turns 39 = .ok (.iastore, 1) := by decide +kernel
theorem dX11_turns_40 : decode cX11_turns 40 = .ok (.aload_n 0, 1) := by decide +kernel
theorem dX11_turns_41 : decode cX11_turns 41 = .ok (.getfield 16, 3) := by decide +kernel
theorem dX11_turns_44 : decode cX11_turns 44 = .ok (.sipush 150, 3) := by decide +kernel
theorem dX11_turns_47 : decode cX11_turns 47 = .ok (.iload_n 3, 1) := by decide +kernel
theorem dX11_turns_48 : decode cX11_turns 48 = .ok (.imul, 1) := by decide +kernel
theorem dX11_turns_49 : decode cX11_turns 49 = .ok (.iload 4, 2) := by decide +kernel
theorem dX11_turns_51 : decode cX11_turns 51 = .ok (.iadd, 1) := by decide +kernel
theorem dX11_turns_52 : decode cX11_turns 52 = .ok (.iload_n 2, 1) := by decide +kernel
theorem dX11_turns_53 : decode cX11_turns 53 = .ok (.bastore, 1) := by decide +kernel
theorem dX11_turns_54 : decode cX11_turns 54 = .ok (.iload_n 2, 1) := by decide +kernel
theorem dX11_turns_55 : decode cX11_turns 55 = .ok (.ifCond .ne 10, 3) := by decide +kernel
theorem dX11_turns_58 : decode cX11_turns 58 = .ok (.aload_n 0, 1) := by decide +kernel
theorem dX11_turns_59 : decode cX11_turns 59 = .ok (.iload_n 3, 1) := by decide +kernel
theorem dX11_turns_60 : decode cX11_turns 60 = .ok (.iload 4, 2) := by decide +kernel
theorem dX11_turns_62 : decode cX11_turns 62 = .ok (.invokevirtual 132, 3) := by decide +kernel
theorem dX11_turns_65 : decode cX11_turns 65 = .ok (.iload_n 3, 1) := by decide +kernel
theorem dX11_turns_66 : decode cX11_turns 66 = .ok (.ireturn, 1) := by decide +kernel
theorem dX11_undo_0 : decode cX11_undo 0 = .ok (.iload_n 1, 1) := by decide +kernel
theorem dX11_undo_1 : decode cX11_undo 1 = .ok (.iconst 5, 1) := by decide +kernel
theorem dX11_undo_2 : decode cX11_undo 2 = .ok (.invokestatic 99, 3) := by decide +kernel
theorem dX11_undo_5 : decode cX11_undo 5 = .ok (.istore_n 2, 1) := by decide +kernel
theorem dX11_undo_6 : decode cX11_undo 6 = .ok (.aload_n 0, 1) := by decide +kernel
theorem dX11_undo_7 : decode cX11_undo 7 = .ok (.iload_n 2, 1) := by decide +kernel
theorem dX11_undo_8 : decode cX11_undo 8 = .ok (.iload_n 2, 1) := by decide +kernel
theorem dX11_undo_9 : decode cX11_undo 9 = .ok (.ifCond .eq 16, 3) := by decide +kernel
theorem dX11_undo_12 : decode cX11_undo 12 = .ok (.aload_n 0, 1) := by decide +kernel
theorem dX11_undo_13 : decode cX11_undo 13 = .ok (.getfield 32, 3) := by decide +kernel
theorem dX11_undo_16 : decode cX11_undo 16 = .ok (.iload_n 1, 1) := by decide +kernel
theorem dX11_undo_17 : decode cX11_undo 17 = .ok (.iaload, 1) := by decide +kernel
theorem dX11_undo_18 : decode cX11_undo 18 = .ok (.ifCond .le 7, 3) := by decide +kernel
theorem dX11_undo_21 : decode cX11_undo 21 = .ok (.iconst 1, 1) := by decide +kernel
theorem dX11_undo_22 : decode cX11_undo 22 = .ok (.goto 4, 3) := by decide +kernel
theorem dX11_undo_25 : decode cX11_undo 25 = .ok (.iconst 0, 1) := by decide +kernel
theorem dX11_undo_26 : decode cX11_undo 26 = .ok (.iconst 1, 1) := by decide +kernel
theorem dX11_undo_27 : decode cX11_undo 27 = .ok (.invokevirtual 117, 3) := by decide +kernel
theorem dX11_undo_30 : decode cX11_undo 30 = .ok (.ifCond .ne 5, 3) := by decide +kernel
theorem dX11_undo_33 : decode cX11_undo 33 = .ok (.iconst 0, 1) := by decide +kernel
theorem dX11_undo_34 : decode cX11_undo 34 = .ok (.ireturn, 1) := by decide +kernel
theorem dX11_undo_35 : decode cX11_undo 35 = .ok (.aload_n 0, 1) := by decide +kernel
theorem dX11_undo_36 : decode cX11_undo 36 = .ok (.getfield 32, 3) := by decide +kernel
theorem dX11_undo_39 : decode cX11_undo 39 = .ok (.iload_n 1, 1) := by decide +kernel
theorem dX11_undo_40 : decode cX11_undo 40 = .ok (.dup2, 1) := by decide +kernel
theorem dX11_undo_41 : decode cX11_undo 41 = .ok (.iaload, 1) := by decide +kernel
theorem dX11_undo_42 : decode cX11_undo 42 = .ok (.iconst 1, 1) := by decide +kernel
theorem dX11_undo_43 : decode cX11_undo 43 = .ok (.isub, 1) := by decide +kernel
theorem dX11_undo_44 : decode cX11_undo 44 = .ok (.iastore, 1) := by decide +kernel
theorem dX11_undo_45 : decode cX11_undo 45 = .ok (.aload_n 0, 1) := by decide +kernel
theorem dX11_undo_46 : decode cX11_undo 46 = .ok (.getfield 35, 3) := by decide +kernel
theorem dX11_undo_49 : decode cX11_undo 49 = .ok (.iload_n 1, 1) := by decide +kernel
theorem dX11_undo_50 : decode cX11_undo 50 = .ok (.dup2, 1) := by decide +kernel
theorem dX11_undo_51 : decode cX11_undo 51 = .ok (.iaload, 1) := by decide +kernel
theorem dX11_undo_52 : decode cX11_undo 52 = .ok (.iconst 1, 1) := by decide +kernel
theorem dX11_undo_53 : decode cX11_undo 53 = .ok (.iadd, 1) := by decide +kernel
theorem dX11_undo_54 : decode cX11_undo 54 = .ok (.iastore, 1) := by decide +kernel
theorem dX11_undo_55 : decode cX11_undo 55 = .ok (.aload_n 0, 1) := by decide +kernel
theorem dX11_undo_56 : decode cX11_undo 56 = .ok (.getfield 29, 3) := by decide +kernel
theorem dX11_undo_59 : decode cX11_undo 59 = .ok (.sipush 600, 3) := by decide +kernel
theorem dX11_undo_62 : decode cX11_undo 62 = .ok (.iload_n 1, 1) := by decide +kernel
theorem dX11_undo_63 : decode cX11_undo 63 = .ok (.imul, 1) := by decide +kernel
theorem dX11_undo_64 : decode cX11_undo 64 = .ok (.aload_n 0, 1) := by decide +kernel
theorem dX11_undo_65 : decode cX11_undo 65 = .ok (.getfield 32, 3) := by decide +kernel
theorem dX11_undo_68 : decode cX11_undo 68 = .ok (.iload_n 1, 1) := by decide +kernel
theorem dX11_undo_69 : decode cX11_undo 69 = .ok (.iaload, 1) := by decide +kernel
theorem dX11_undo_70 : decode cX11_undo 70 = .ok (.iadd, 1) := by decide +kernel
theorem dX11_undo_71 : decode cX11_undo 71 = .ok (.iaload, 1) := by decide +kernel
theorem dX11_undo_72 : decode cX11_undo 72 = .ok (.istore_n 3, 1) := by decide +kernel
theorem dX11_undo_73 : decode cX11_undo 73 = .ok (.aload_n 0, 1) := by decide +kernel
theorem dX11_undo_74 : decode cX11_undo 74 = .ok (.iload_n 3, 1) := by decide +kernel
theorem dX11_undo_75 : decode cX11_undo 75 = .ok (.iload_n 3, 1) := by decide +kernel
theorem dX11_undo_76 : decode cX11_undo 76 = .ok (.sipush 1000, 3) := by decide +kernel
theorem dX11_undo_79 : decode cX11_undo 79 = .ok (.irem, 1) := by decide +kernel
theorem dX11_undo_80 : decode cX11_undo 80 = .ok (.sipush 500, 3) := by decide +kernel
theorem dX11_undo_83 : decode cX11_undo 83 = .ok (.if_icmp .lt 7, 3) := by decide +kernel
theorem dX11_undo_86 : decode cX11_undo 86 = .ok (.iconst 1, 1) := by decide +kernel
theorem dX11_undo_87 : decode cX11_undo 87 = .ok (.goto 4, 3) := by decide +kernel
theorem dX11_undo_90 : decode cX11_undo 90 = .ok (.iconst 0, 1) := by decide +kernel
theorem dX11_undo_91 : decode cX11_undo 91 = .ok (.invokevirtual 135, 3) := by decide +kernel
theorem dX11_undo_94 : decode cX11_undo 94 = .ok (.ireturn, 1) := by decide +kernel
theorem dX11_redo_0 : decode cX11_redo 0 = .ok (.iload_n 1, 1) := by decide +kernel
theorem dX11_redo_1 : decode cX11_redo 1 = .ok (.iconst 5, 1) := by decide +kernel
theorem dX11_redo_2 : decode cX11_redo 2 = .ok (.invokestatic 99, 3) := by decide +kernel
theorem dX11_redo_5 : decode cX11_redo 5 = .ok (.istore_n 2, 1) := by decide +kernel
theorem dX11_redo_6 : decode cX11_redo 6 = .ok (.aload_n 0, 1) := by decide +kernel
theorem dX11_redo_7 : decode cX11_redo 7 = .ok (.iload_n 2, 1) := by decide +kernel
theorem dX11_redo_8 : decode cX11_redo 8 = .ok (.iload_n 2, 1) := by decide +kernel
theorem dX11_redo_9 : decode cX11_redo 9 = .ok (.ifCond .eq 16, 3) := by decide +kernel
theorem dX11_redo_12 : decode cX11_redo 12 = .ok (.aload_n 0, 1) := by decide +kernel
theorem dX11_redo_13 : decode cX11_redo 13 = .ok (.getfield 35, 3) := by decide +kernel
theorem dX11_redo_16 : decode cX11_redo 16 = .ok (.iload_n 1, 1) := by decide +kernel
theorem dX11_redo_17 : decode cX11_redo 17 = .ok (.iaload, 1) := by decide +kernel
theorem dX11_redo_18 : decode cX11_redo 18 = .ok (.ifCond .le 7, 3) := by decide +kernel
theorem dX11_redo_21 : decode cX11_redo 21 = .ok (.iconst 1, 1) := by decide +kernel
theorem dX11_redo_22 : decode cX11_redo 22 = .ok (.goto 4, 3) := by decide +kernel
theorem dX11_redo_25 : decode cX11_redo 25 = .ok (.iconst 0, 1) := by decide +kernel
theorem dX11_redo_26 : decode cX11_redo 26 = .ok (.iconst 1, 1) := by decide +kernel
theorem dX11_redo_27 : decode cX11_redo 27 = .ok (.invokevirtual 117, 3) := by decide +kernel
theorem dX11_redo_30 : decode cX11_redo 30 = .ok (.ifCond .ne 5, 3) := by decide +kernel
theorem dX11_redo_33 : decode cX11_redo 33 = .ok (.iconst 0, 1) := by decide +kernel
theorem dX11_redo_34 : decode cX11_redo 34 = .ok (.ireturn, 1) := by decide +kernel
theorem dX11_redo_35 : decode cX11_redo 35 = .ok (.aload_n 0, 1) := by decide +kernel
theorem dX11_redo_36 : decode cX11_redo 36 = .ok (.getfield 29, 3) := by decide +kernel
theorem dX11_redo_39 : decode cX11_redo 39 = .ok (.sipush 600, 3) := by decide +kernel
theorem dX11_redo_42 : decode cX11_redo 42 = .ok (.iload_n 1, 1) := by decide +kernel
theorem dX11_redo_43 : decode cX11_redo 43 = .ok (.imul, 1) := by decide +kernel
theorem dX11_redo_44 : decode cX11_redo 44 = .ok (.aload_n 0, 1) := by decide +kernel
theorem dX11_redo_45 : decode cX11_redo 45 = .ok (.getfield 32, 3) := by decide +kernel
theorem dX11_redo_48 : decode cX11_redo 48 = .ok (.iload_n 1, 1) := by decide +kernel
theorem dX11_redo_49 : decode cX11_redo 49 = .ok (.iaload, 1) := by decide +kernel
theorem dX11_redo_50 : decode cX11_redo 50 = .ok (.iadd, 1) := by decide +kernel
theorem dX11_redo_51 : decode cX11_redo 51 = .ok (.iaload, 1) := by decide +kernel
theorem dX11_redo_52 : decode cX11_redo 52 = .ok (.istore_n 3, 1) := by decide +kernel
theorem dX11_redo_53 : decode cX11_redo 53 = .ok (.aload_n 0, 1) := by decide +kernel
theorem dX11_redo_54 : decode cX11_redo 54 = .ok (.getfield 32, 3) := by decide +kernel
theorem dX11_redo_57 : decode cX11_redo 57 = .ok (.iload_n 1, 1) := by decide +kernel
theorem dX11_redo_58 : decode cX11_redo 58 = .ok (.dup2, 1) := by decide +kernel
theorem dX11_redo_59 : decode cX11_redo 59 = .ok (.iaload, 1) := by decide +kernel
theorem dX11_redo_60 : decode cX11_redo 60 = .ok (.iconst 1, 1) := by decide +kernel
theorem dX11_redo_61 : decode cX11_redo 61 = .ok (.iadd, 1) := by decide +kernel
theorem dX11_redo_62 : decode cX11_redo 62 = .ok (.iastore, 1) := by decide +kernel
theorem dX11_redo_63 : decode cX11_redo 63 = .ok (.aload_n 0, 1) := by decide +kernel
theorem dX11_redo_64 : decode cX11_redo 64 = .ok (.getfield 35, 3) := by decide +kernel
theorem dX11_redo_67 : decode cX11_redo 67 = .ok (.iload_n 1, 1) := by decide +kernel
theorem dX11_redo_68 : decode cX11_redo 68 = .ok (.dup2, 1) := by decide +kernel
theorem dX11_redo_69 : decode cX11_redo 69 = .ok (.iaload, 1) := by decide +kernel
theorem dX11_redo_70 : decode cX11_redo 70 = .ok (.iconst 1, 1) := by decide +kernel
theorem dX11_redo_71 : decode cX11_redo 71 = .ok (.isub, 1) := by decide +kernel
theorem dX11_redo_72 : decode cX11_redo 72 = .ok (.iastore, 1) := by decide +kernel
theorem dX11_redo_73 : decode cX11_redo 73 = .ok (.aload_n 0, 1) := by decide +kernel
theorem dX11_redo_74 : decode cX11_redo 74 = .ok (.iload_n 3, 1) := by decide +kernel
theorem dX11_redo_75 : decode cX11_redo 75 = .ok (.iload_n 3, 1) := by decide +kernel
theorem dX11_redo_76 : decode cX11_redo 76 = .ok (.sipush 1000, 3) := by decide +kernel
theorem dX11_redo_79 : decode cX11_redo 79 = .ok (.irem, 1) := by decide +kernel
theorem dX11_redo_80 : decode cX11_redo 80 = .ok (.sipush 500, 3) := by decide +kernel
theorem dX11_redo_83 : decode cX11_redo 83 = .ok (.if_icmp .ge 7, 3) := by decide +kernel
theorem dX11_redo_86 : decode cX11_redo 86 = .ok (.iconst 1, 1) := by decide +kernel
theorem dX11_redo_87 : decode cX11_redo 87 = .ok (.goto 4, 3) := by decide +kernel
theorem dX11_redo_90 : decode cX11_redo 90 = .ok (.iconst 0, 1) := by decide +kernel
theorem dX11_redo_91 : decode cX11_redo 91 = .ok (.invokevirtual 135, 3) := by decide +kernel
theorem dX11_redo_94 : decode cX11_redo 94 = .ok (.ireturn, 1) := by decide +kernel
theorem dX11_isText_0 : decode cX11_isText 0 = .ok (.iload_n 0, 1) := by decide +kernel
theorem dX11_isText_1 : decode cX11_isText 1 = .ok (.iconst 3, 1) := by decide +kernel
theorem dX11_isText_2 : decode cX11_isText 2 = .ok (.invokestatic 99, 3) := by decide +kernel
theorem dX11_isText_5 : decode cX11_isText 5 = .ok (.ireturn, 1) := by decide +kernel
theorem dX11_place_0 : decode cX11_place 0 = .ok (.aload_n 0, 1) := by decide +kernel
theorem dX11_place_1 : decode cX11_place 1 = .ok (.iload_n 1, 1) := by decide +kernel
theorem dX11_place_2 : decode cX11_place 2 = .ok (.iload_n 2, 1) := by decide +kernel
theorem dX11_place_3 : decode cX11_place 3 = .ok (.invokestatic 110, 3) := by decide +kernel
theorem dX11_place_6 : decode cX11_place 6 = .ok (.iconst 1, 1) := by decide +kernel
theorem dX11_place_7 : decode cX11_place 7 = .ok (.iconst 1, 1) := by decide +kernel
theorem dX11_place_8 : decode cX11_place 8 = .ok (.invokevirtual 117, 3) := by decide +kernel
theorem dX11_place_11 : decode cX11_place 11 = .ok (.ifCond .eq 12, 3) := by decide +kernel
theorem dX11_place_14 : decode cX11_place 14 = .ok (.aload_n 0, 1) := by decide +kernel
theorem dX11_place_15 : decode cX11_place 15 = .ok (.iload_n 1, 1) := by decide +kernel
theorem dX11_place_16 : decode cX11_place 16 = .ok (.iload_n 2, 1) := by decide +kernel
theorem dX11_place_17 : decode cX11_place 17 = .ok (.invokevirtual 125, 3) := by decide +kernel
theorem dX11_place_20 : decode cX11_place 20 = .ok (.goto 4, 3) := by decide +kernel
theorem dX11_place_23 : decode cX11_place 23 = .ok (.iconst 0, 1) := by decide +kernel
theorem dX11_place_24 : decode cX11_place 24 = .ok (.ireturn, 1) := by decide +kernel
theorem dX11_length_0 : decode cX11_length 0 = .ok (.aload_n 0, 1) := by decide +kernel
theorem dX11_length_1 : decode cX11_length 1 = .ok (.iload_n 1, 1) := by decide +kernel
theorem dX11_length_2 : decode cX11_length 2 = .ok (.invokestatic 139, 3) := by decide +kernel
theorem dX11_length_5 : decode cX11_length 5 = .ok (.iconst 1, 1) := by decide +kernel
theorem dX11_length_6 : decode cX11_length 6 = .ok (.iconst 1, 1) := by decide +kernel
theorem dX11_length_7 : decode cX11_length 7 = .ok (.invokevirtual 117, 3) := by decide +kernel
theorem dX11_length_10 : decode cX11_length 10 = .ok (.ifCond .ne 5, 3) := by decide +kernel
theorem dX11_length_13 : decode cX11_length 13 = .ok (.iconst 0, 1) := by decide +kernel
theorem dX11_length_14 : decode cX11_length 14 = .ok (.ireturn, 1) := by decide +kernel
theorem dX11_length_15 : decode cX11_length 15 = .ok (.aload_n 0, 1) := by decide +kernel
theorem dX11_length_16 : decode cX11_length 16 = .ok (.iload_n 1, 1) := by decide +kernel
theorem dX11_length_17 : decode cX11_length 17 = .ok (.invokevirtual 128, 3) := by decide +kernel
theorem dX11_length_20 : decode cX11_length 20 = .ok (.aload_n 0, 1) := by decide +kernel
theorem dX11_length_21 : decode cX11_length 21 = .ok (.getfield 103, 3) := by decide +kernel
theorem dX11_length_24 : decode cX11_length 24 = .ok (.ireturn, 1) := by decide +kernel
theorem dX11_letter_0 : decode cX11_letter 0 = .ok (.iload_n 1, 1) := by decide +kernel
theorem dX11_letter_1 : decode cX11_letter 1 = .ok (.invokestatic 139, 3) := by decide +kernel
theorem dX11_letter_4 : decode cX11_letter 4 = .ok (.istore_n 3, 1) := by decide +kernel
theorem dX11_letter_5 : decode cX11_letter 5 = .ok (.iload_n 3, 1) := by decide +kernel
theorem dX11_letter_6 : decode cX11_letter 6 = .ok (.ifCond .eq 8, 3) := by decide +kernel
theorem dX11_letter_9 : decode cX11_letter 9 = .ok (.aload_n 0, 1) := by decide +kernel
theorem dX11_letter_10 : decode cX11_letter 10 = .ok (.iload_n 1, 1) := by decide +kernel
theorem dX11_letter_11 : decode cX11_letter 11 = .ok (.invokevirtual 128, 3) := by decide +kernel
theorem dX11_letter_14 : decode cX11_letter 14 = .ok (.aload_n 0, 1) := by decide +kernel
theorem dX11_letter_15 : decode cX11_letter 15 = .ok (.iload_n 3, 1) := by decide +kernel
theorem dX11_letter_16 : decode cX11_letter 16 = .ok (.ifCond .eq 18, 3) := by decide +kernel
theorem dX11_letter_19 : decode cX11_letter 19 = .ok (.iload_n 2, 1) := by decide +kernel
theorem dX11_letter_20 : decode cX11_letter 20 = .ok (.aload_n 0, 1) := by decide +kernel
theorem dX11_letter_21 : decode cX11_letter 21 = .ok (.getfield 103, 3) := by decide +kernel
theorem dX11_letter_24 : decode cX11_letter 24 = .ok (.invokestatic 99, 3) := by decide +kernel
theorem dX11_letter_27 : decode cX11_letter 27 = .ok (.ifCond .eq 7, 3) := by decide +kernel
theorem dX11_letter_30 : decode cX11_letter 30 = .ok (.iconst 1, 1) := by decide +kernel
theorem dX11_letter_31 : decode cX11_letter 31 = .ok (.goto 4, 3) := by decide +kernel
theorem dX11_letter_34 : decode cX11_letter 34 = .ok (.iconst 0, 1) := by decide +kernel
theorem dX11_letter_35 : decode cX11_letter 35 = .ok (.iconst 1, 1) := by decide +kernel
theorem dX11_letter_36 : decode cX11_letter 36 = .ok (.iconst 1, 1) := by decide +kernel
theorem dX11_letter_37 : decode cX11_letter 37 = .ok (.invokevirtual 117, 3) := by decide +kernel
theorem dX11_letter_40 : decode cX11_letter 40 = .ok (.ifCond .eq 24, 3) := by decide +kernel
theorem dX11_letter_43 : decode cX11_letter 43 = .ok (.aload_n 0, 1) := by decide +kernel
theorem dX11_letter_44 : decode cX11_letter 44 = .ok (.getfield 13, 3) := by decide +kernel
theorem dX11_letter_47 : decode cX11_letter 47 = .ok (.sipush 150, 3) := by decide +kernel
theorem dX11_letter_50 : decode cX11_letter 50 = .ok (.iload_n 1, 1) := by decide +kernel
theorem dX11_letter_51 : decode cX11_letter 51 = .ok (.imul, 1) := by decide +kernel
theorem dX11_letter_52 : decode cX11_letter 52 = .ok (.aload_n 0, 1) := by decide +kernel
theorem dX11_letter_53 : decode cX11_letter 53 = .ok (.getfield 89, 3) := by decide +kernel
theorem dX11_letter_56 : decode cX11_letter 56 = .ok (.iload_n 2, 1) := by decide +kernel
theorem dX11_letter_57 : decode cX11_letter 57 = .ok (.iaload, 1) := by decide +kernel
theorem dX11_letter_58 : decode cX11_letter 58 = .ok (.iadd, 1) := by decide +kernel
theorem dX11_letter_59 : decode cX11_letter 59 = .ok (.iaload, 1) := by decide +kernel
theorem dX11_letter_60 : decode cX11_letter 60 = .ok (.i2c, 1) := by decide +kernel
theorem dX11_letter_61 : decode cX11_letter 61 = .ok (.goto 4, 3) := by decide +kernel
theorem dX11_letter_64 : decode cX11_letter 64 = .ok (.iconst 0, 1) := by decide +kernel
theorem dX11_letter_65 : decode cX11_letter 65 = .ok (.ireturn, 1) := by decide +kernel
theorem dX11_letterAnew_0 : decode cX11_letterAnew 0 = .ok (.aload_n 0, 1) := by decide +kernel
theorem dX11_letterAnew_1 : decode cX11_letterAnew 1 = .ok (.iload_n 1, 1) := by decide +kernel
theorem dX11_letterAnew_2 : decode cX11_letterAnew 2 = .ok (.iload_n 2, 1) := by decide +kernel
theorem dX11_letterAnew_3 : decode cX11_letterAnew 3 = .ok (.invokevirtual 142, 3) := by decide +kernel
theorem dX11_letterAnew_6 : decode cX11_letterAnew 6 = .ok (.ireturn, 1) := by decide +kernel
theorem dX11_version_0 : decode cX11_version 0 = .ok (.aload_n 0, 1) := by decide +kernel
theorem dX11_version_1 : decode cX11_version 1 = .ok (.iload_n 1, 1) := by decide +kernel
theorem dX11_version_2 : decode cX11_version 2 = .ok (.invokestatic 139, 3) := by decide +kernel
theorem dX11_version_5 : decode cX11_version 5 = .ok (.iconst 1, 1) := by decide +kernel
theorem dX11_version_6 : decode cX11_version 6 = .ok (.iconst 1, 1) := by decide +kernel
theorem dX11_version_7 : decode cX11_version 7 = .ok (.invokevirtual 117, 3) := by decide +kernel
theorem dX11_version_10 : decode cX11_version 10 = .ok (.ifCond .eq 12, 3) := by decide +kernel
theorem dX11_version_13 : decode cX11_version 13 = .ok (.aload_n 0, 1) := by decide +kernel
theorem dX11_version_14 : decode cX11_version 14 = .ok (.getfield 23, 3) := by decide +kernel
theorem dX11_version_17 : decode cX11_version 17 = .ok (.iload_n 1, 1) := by decide +kernel
theorem dX11_version_18 : decode cX11_version 18 = .ok (.iaload, 1) := by decide +kernel
theorem dX11_version_19 : decode cX11_version 19 = .ok (.goto 4, 3) := by decide +kernel
theorem dX11_version_22 : decode cX11_version 22 = .ok (.iconst 0, 1) := by decide +kernel
theorem dX11_version_23 : decode cX11_version 23 = .ok (.ireturn, 1) := by decide +kernel
theorem dX11_signAt_0 : decode cX11_signAt 0 = .ok (.aload_n 0, 1) := by decide +kernel
theorem dX11_signAt_1 : decode cX11_signAt 1 = .ok (.getfield 13, 3) := by decide +kernel
theorem dX11_signAt_4 : decode cX11_signAt 4 = .ok (.sipush 150, 3) := by decide +kernel
theorem dX11_signAt_7 : decode cX11_signAt 7 = .ok (.iload_n 1, 1) := by decide +kernel
theorem dX11_signAt_8 : decode cX11_signAt 8 = .ok (.imul, 1) := by decide +kernel
theorem dX11_signAt_9 : decode cX11_signAt 9 = .ok (.aload_n 0, 1) := by decide +kernel
theorem dX11_signAt_10 : decode cX11_signAt 10 = .ok (.getfield 89, 3) := by decide +kernel
theorem dX11_signAt_13 : decode cX11_signAt 13 = .ok (.iload_n 2, 1) := by decide +kernel
theorem dX11_signAt_14 : decode cX11_signAt 14 = .ok (.iaload, 1) := by decide +kernel
theorem dX11_signAt_15 : decode cX11_signAt 15 = .ok (.iadd, 1) := by decide +kernel
theorem dX11_signAt_16 : decode cX11_signAt 16 = .ok (.iaload, 1) := by decide +kernel
theorem dX11_signAt_17 : decode cX11_signAt 17 = .ok (.ireturn, 1) := by decide +kernel
theorem dX11_wants_0 : decode cX11_wants 0 = .ok (.sipush 150, 3) := by decide +kernel
theorem dX11_wants_3 : decode cX11_wants 3 = .ok (.aload_n 0, 1) := by decide +kernel
theorem dX11_wants_4 : decode cX11_wants 4 = .ok (.getfield 145, 3) := by decide +kernel
theorem dX11_wants_7 : decode cX11_wants 7 = .ok (.imul, 1) := by decide +kernel
theorem dX11_wants_8 : decode cX11_wants 8 = .ok (.aload_n 0, 1) := by decide +kernel
theorem dX11_wants_9 : decode cX11_wants 9 = .ok (.getfield 44, 3) := by decide +kernel
theorem dX11_wants_12 : decode cX11_wants 12 = .ok (.aload_n 0, 1) := by decide +kernel
theorem dX11_wants_13 : decode cX11_wants 13 = .ok (.getfield 145, 3) := by decide +kernel
theorem dX11_wants_16 : decode cX11_wants 16 = .ok (.iaload, 1) := by decide +kernel
theorem dX11_wants_17 : decode cX11_wants 17 = .ok (.iadd, 1) := by decide +kernel
theorem dX11_wants_18 : decode cX11_wants 18 = .ok (.istore 4, 2) := by decide +kernel
theorem dX11_wants_20 : decode cX11_wants 20 = .ok (.aload_n 0, 1) := by decide +kernel
theorem dX11_wants_21 : decode cX11_wants 21 = .ok (.getfield 50, 3) := by decide +kernel
theorem dX11_wants_24 : decode cX11_wants 24 = .ok (.iload 4, 2) := by decide +kernel
theorem dX11_wants_26 : decode cX11_wants 26 = .ok (.aload_n 0, 1) := by decide +kernel
theorem dX11_wants_27 : decode cX11_wants 27 = .ok (.getfield 89, 3) := by decide +kernel
theorem dX11_wants_30 : decode cX11_wants 30 = .ok (.iload_n 2, 1) := by decide +kernel
theorem dX11_wants_31 : decode cX11_wants 31 = .ok (.iaload, 1) := by decide +kernel
theorem dX11_wants_32 : decode cX11_wants 32 = .ok (.iastore, 1) := by decide +kernel
theorem dX11_wants_33 : decode cX11_wants 33 = .ok (.aload_n 0, 1) := by decide +kernel
theorem dX11_wants_34 : decode cX11_wants 34 = .ok (.getfield 53, 3) := by decide +kernel
theorem dX11_wants_37 : decode cX11_wants 37 = .ok (.iload 4, 2) := by decide +kernel
theorem dX11_wants_39 : decode cX11_wants 39 = .ok (.aload_n 0, 1) := by decide +kernel
theorem dX11_wants_40 : decode cX11_wants 40 = .ok (.iload_n 1, 1) := by decide +kernel
theorem dX11_wants_41 : decode cX11_wants 41 = .ok (.iload_n 2, 1) := by decide +kernel
theorem dX11_wants_42 : decode cX11_wants 42 = .ok (.invokevirtual 148, 3) := by decide +kernel
theorem dX11_wants_45 : decode cX11_wants 45 = .ok (.iastore, 1) := by decide +kernel
theorem dX11_wants_46 : decode cX11_wants 46 = .ok (.aload_n 0, 1) := by decide +kernel
theorem dX11_wants_47 : decode cX11_wants 47 = .ok (.getfield 56, 3) := by decide +kernel
theorem dX11_wants_50 : decode cX11_wants 50 = .ok (.iload 4, 2) := by decide +kernel
theorem dX11_wants_52 : decode cX11_wants 52 = .ok (.iload_n 3, 1) := by decide +kernel
theorem dX11_wants_53 : decode cX11_wants 53 = .ok (.iastore, 1) := by decide +kernel
theorem dX11_wants_54 : decode cX11_wants 54 = .ok (.aload_n 0, 1) := by decide +kernel
theorem dX11_wants_55 : decode cX11_wants 55 = .ok (.getfield 44, 3) := by decide +kernel
theorem dX11_wants_58 : decode cX11_wants 58 = .ok (.aload_n 0, 1) := by decide +kernel
theorem dX11_wants_59 : decode cX11_wants 59 = .ok (.getfield 145, 3) := by decide +kernel
theorem dX11_wants_62 : decode cX11_wants 62 = .ok (.dup2, 1) := by decide +kernel
theorem dX11_wants_63 : decode cX11_wants 63 = .ok (.iaload, 1) := by decide +kernel
theorem dX11_wants_64 : decode cX11_wants 64 = .ok (.iconst 1, 1) := by decide +kernel
theorem dX11_wants_65 : decode cX11_wants 65 = .ok (.iadd, 1) := by decide +kernel
theorem dX11_wants_66 : decode cX11_wants 66 = .ok (.iastore, 1) := by decide +kernel
theorem dX11_wants_67 : decode cX11_wants 67 = .ok (.return_, 1) := by decide +kernel
theorem dX11_nextEnd_0 : decode cX11_nextEnd 0 = .ok (.iload_n 2, 1) := by decide +kernel
theorem dX11_nextEnd_1 : decode cX11_nextEnd 1 = .ok (.istore_n 3, 1) := by decide +kernel
theorem dX11_nextEnd_2 : decode cX11_nextEnd 2 = .ok (.iload_n 3, 1) := by decide +kernel
theorem dX11_nextEnd_3 : decode cX11_nextEnd 3 = .ok (.aload_n 0, 1) := by decide +kernel
theorem dX11_nextEnd_4 : decode cX11_nextEnd 4 = .ok (.getfield 103, 3) := by decide +kernel
theorem dX11_nextEnd_7 : decode cX11_nextEnd 7 = .ok (.if_icmp .ge 20, 3) := by decide +kernel
theorem dX11_nextEnd_10 : decode cX11_nextEnd 10 = .ok (.aload_n 0, 1) := by decide +kernel
theorem dX11_nextEnd_11 : decode cX11_nextEnd 11 = .ok (.iload_n 1, 1) := by decide +kernel
theorem dX11_nextEnd_12 : decode cX11_nextEnd 12 = .ok (.iload_n 3, 1) := by decide +kernel
theorem dX11_nextEnd_13 : decode cX11_nextEnd 13 = .ok (.invokevirtual 148, 3) := by decide +kernel
theorem dX11_nextEnd_16 : decode cX11_nextEnd 16 = .ok (.bipush 47, 2) := by decide +kernel
theorem dX11_nextEnd_18 : decode cX11_nextEnd 18 = .ok (.if_icmp .eq 9, 3) := by decide +kernel
theorem dX11_nextEnd_21 : decode cX11_nextEnd 21 = .ok (.iinc 3 1, 3) := by decide +kernel
theorem dX11_nextEnd_24 : decode cX11_nextEnd 24 = .ok (.goto (-22), 3) := by decide +kernel
theorem dX11_nextEnd_27 : decode cX11_nextEnd 27 = .ok (.iload_n 3, 1) := by decide +kernel
theorem dX11_nextEnd_28 : decode cX11_nextEnd 28 = .ok (.ireturn, 1) := by decide +kernel
theorem dX11_wantsLetters_0 : decode cX11_wantsLetters 0 = .ok (.iconst 0, 1) := by decide +kernel
theorem dX11_wantsLetters_1 : decode cX11_wantsLetters 1 = .ok (.istore_n 3, 1) := by decide +kernel
theorem dX11_wantsLetters_2 : decode cX11_wantsLetters 2 = .ok (.iload_n 3, 1) := by decide +kernel
theorem dX11_wantsLetters_3 : decode cX11_wantsLetters 3 = .ok (.aload_n 0, 1) := by decide +kernel
theorem dX11_wantsLetters_4 : decode cX11_wantsLetters 4 = .ok (.getfield 103, 3) := by decide +kernel
theorem dX11_wantsLetters_7 : decode cX11_wantsLetters 7 = .ok (.if_icmp .ge 194, 3) := by decide +kernel
theorem dX11_wantsLetters_10 : decode cX11_wantsLetters 10 = .ok (.aload_n 0, 1) := by decide +kernel
theorem dX11_wantsLetters_11 : decode cX11_wantsLetters 11 = .ok (.iload_n 1, 1) := by decide +kernel
theorem dX11_wantsLetters_12 : decode cX11_wantsLetters 12 = .ok (.iload_n 3, 1) := by decide +kernel
theorem dX11_wantsLetters_13 : decode cX11_wantsLetters 13 = .ok (.invokevirtual 148, 3) := by decide +kernel
theorem dX11_wantsLetters_16 : decode cX11_wantsLetters 16 = .ok (.istore 4, 2) := by decide +kernel
theorem dX11_wantsLetters_18 : decode cX11_wantsLetters 18 = .ok (.iload_n 3, 1) := by decide +kernel
theorem dX11_wantsLetters_19 : decode cX11_wantsLetters 19 = .ok (.ifCond .le 20, 3) := by decide +kernel
theorem dX11_wantsLetters_22 : decode cX11_wantsLetters 22 = .ok (.aload_n 0, 1) := by decide +kernel
theorem dX11_wantsLetters_23 : decode cX11_wantsLetters 23 = .ok (.iload_n 1, 1) := by decide +kernel
theorem dX11_wantsLetters_24 : decode cX11_wantsLetters 24 = .ok (.iload_n 3, 1) := by decide +kernel
theorem dX11_wantsLetters_25 : decode cX11_wantsLetters 25 = .ok (.iconst 1, 1) := by decide +kernel
theorem dX11_wantsLetters_26 : decode cX11_wantsLetters 26 = .ok (.isub, 1) := by decide +kernel
theorem dX11_wantsLetters_27 : decode cX11_wantsLetters 27 = .ok (.invokevirtual 148, 3) := by decide +kernel
theorem dX11_wantsLetters_30 : decode cX11_wantsLetters 30 = .ok (.bipush 32, 2) := by decide +kernel
theorem dX11_wantsLetters_32 : decode cX11_wantsLetters 32 = .ok (.if_icmp .ne 7, 3) := by decide +kernel
theorem dX11_wantsLetters_35 : decode cX11_wantsLetters 35 = .ok (.iconst 1, 1) := by decide +kernel
theorem dX11_wantsLetters_36 : decode cX11_wantsLetters 36 = .ok (.goto 4, 3) := by decide +kernel
theorem dX11_wantsLetters_39 : decode cX11_wantsLetters 39 = .ok (.iconst 0, 1) := by decide +kernel
theorem dX11_wantsLetters_40 : decode cX11_wantsLetters 40 = .ok (.istore 5, 2) := by decide +kernel
theorem dX11_wantsLetters_42 : decode cX11_wantsLetters 42 = .ok (.iload_n 3, 1) := by decide +kernel
theorem dX11_wantsLetters_43 : decode cX11_wantsLetters 43 = .ok (.ifCond .eq 16, 3) := by decide +kernel
theorem dX11_wantsLetters_46 : decode cX11_wantsLetters 46 = .ok (.aload_n 0, 1) := by decide +kernel
theorem dX11_wantsLetters_47 : decode cX11_wantsLetters 47 = .ok (.iload_n 1, 1) := by decide +kernel
theorem dX11_wantsLetters_48 : decode cX11_wantsLetters 48 = .ok (.iload_n 3, 1) := by decide +kernel
theorem dX11_wantsLetters_49 : decode cX11_wantsLetters 49 = .ok (.iconst 1, 1) := by decide +kernel
theorem dX11_wantsLetters_50 : decode cX11_wantsLetters 50 = .ok (.isub, 1) := by decide +kernel
theorem dX11_wantsLetters_51 : decode cX11_wantsLetters 51 = .ok (.invokevirtual 148, 3) := by decide +kernel
theorem dX11_wantsLetters_54 : decode cX11_wantsLetters 54 = .ok (.bipush 47, 2) := by decide +kernel
theorem dX11_wantsLetters_56 : decode cX11_wantsLetters 56 = .ok (.if_icmp .ne 7, 3) := by decide +kernel
theorem dX11_wantsLetters_59 : decode cX11_wantsLetters 59 = .ok (.iconst 1, 1) := by decide +kernel
theorem dX11_wantsLetters_60 : decode cX11_wantsLetters 60 = .ok (.goto 4, 3) := by decide +kernel
theorem dX11_wantsLetters_63 : decode cX11_wantsLetters 63 = .ok (.iconst 0, 1) := by decide +kernel
theorem dX11_wantsLetters_64 : decode cX11_wantsLetters 64 = .ok (.istore 6, 2) := by decide +kernel
theorem dX11_wantsLetters_66 : decode cX11_wantsLetters 66 = .ok (.iload_n 3, 1) := by decide +kernel
theorem dX11_wantsLetters_67 : decode cX11_wantsLetters 67 = .ok (.istore 7, 2) := by decide +kernel
theorem dX11_wantsLetters_69 : decode cX11_wantsLetters 69 = .ok (.iload 7, 2) := by decide +kernel
theorem dX11_wantsLetters_71 : decode cX11_wantsLetters 71 = .ok (.aload_n 0, 1) := by decide +kernel
theorem dX11_wantsLetters_72 : decode cX11_wantsLetters 72 = .ok (.getfield 103, 3) := by decide +kernel
theorem dX11_wantsLetters_75 : decode cX11_wantsLetters 75 = .ok (.if_icmp .ge 21, 3) := by decide +kernel
theorem dX11_wantsLetters_78 : decode cX11_wantsLetters 78 = .ok (.aload_n 0, 1) := by decide +kernel
theorem dX11_wantsLetters_79 : decode cX11_wantsLetters 79 = .ok (.iload_n 1, 1) := by decide +kernel
theorem dX11_wantsLetters_80 : decode cX11_wantsLetters 80 = .ok (.iload 7, 2) := by decide +kernel
theorem dX11_wantsLetters_82 : decode cX11_wantsLetters 82 = .ok (.invokevirtual 148, 3) := by decide +kernel
theorem dX11_wantsLetters_85 : decode cX11_wantsLetters 85 = .ok (.bipush 32, 2) := by decide +kernel
theorem dX11_wantsLetters_87 : decode cX11_wantsLetters 87 = .ok (.if_icmp .ne 9, 3) := by decide +kernel
theorem dX11_wantsLetters_90 : decode cX11_wantsLetters 90 = .ok (.iinc 7 1, 3) := by decide +kernel
theorem dX11_wantsLetters_93 : decode cX11_wantsLetters 93 = .ok (.goto (-24), 3) := by decide +kernel
theorem dX11_wantsLetters_96 : decode cX11_wantsLetters 96 = .ok (.iload 7, 2) := by decide +kernel
theorem dX11_wantsLetters_98 : decode cX11_wantsLetters 98 = .ok (.aload_n 0, 1) := by decide +kernel
theorem dX11_wantsLetters_99 : decode cX11_wantsLetters 99 = .ok (.getfield 103, 3) := by decide +kernel
theorem dX11_wantsLetters_102 : decode cX11_wantsLetters 102 = .ok (.if_icmp .eq 15, 3) := by decide +kernel
theorem dX11_wantsLetters_105 : decode cX11_wantsLetters 105 = .ok (.aload_n 0, 1) := by decide +kernel
theorem dX11_wantsLetters_106 : decode cX11_wantsLetters 106 = .ok (.iload_n 1, 1) := by decide +kernel
theorem dX11_wantsLetters_107 : decode cX11_wantsLetters 107 = .ok (.iload 7, 2) := by decide +kernel
theorem dX11_wantsLetters_109 : decode cX11_wantsLetters 109 = .ok (.invokevirtual 148, 3) := by decide +kernel
theorem dX11_wantsLetters_112 : decode cX11_wantsLetters 112 = .ok (.bipush 47, 2) := by decide +kernel
theorem dX11_wantsLetters_114 : decode cX11_wantsLetters 114 = .ok (.if_icmp .ne 7, 3) := by decide +kernel
theorem dX11_wantsLetters_117 : decode cX11_wantsLetters 117 = .ok (.iconst 1, 1) := by decide +kernel
theorem dX11_wantsLetters_118 : decode cX11_wantsLetters 118 = .ok (.goto 4, 3) := by decide +kernel
theorem dX11_wantsLetters_121 : decode cX11_wantsLetters 121 = .ok (.iconst 0, 1) := by decide +kernel
theorem dX11_wantsLetters_122 : decode cX11_wantsLetters 122 = .ok (.istore 8, 2) := by decide +kernel
theorem dX11_wantsLetters_124 : decode cX11_wantsLetters 124 = .ok (.iload 4, 2) := by decide +kernel
theorem dX11_wantsLetters_126 : decode cX11_wantsLetters 126 = .ok (.bipush 32, 2) := by decide +kernel
theorem dX11_wantsLetters_128 : decode cX11_wantsLetters 128 = .ok (.if_icmp .ne 32, 3) := by decide +kernel
theorem dX11_wantsLetters_131 : decode cX11_wantsLetters 131 = .ok (.iload_n 2, 1) := by decide +kernel
theorem dX11_wantsLetters_132 : decode cX11_wantsLetters 132 = .ok (.ifCond .ne 8, 3) := by decide +kernel
theorem dX11_wantsLetters_135 : decode cX11_wantsLetters 135 = .ok (.iload 5, 2) := by decide +kernel
theorem dX11_wantsLetters_137 : decode cX11_wantsLetters 137 = .ok (.ifCond .ne 13, 3) := by decide +kernel
theorem dX11_wantsLetters_140 : decode cX11_wantsLetters 140 = .ok (.iload_n 2, 1) := by decide +kernel
theorem dX11_wantsLetters_141 : decode cX11_wantsLetters 141 = .ok (.iconst 1, 1) := by decide +kernel
theorem dX11_wantsLetters_142 : decode cX11_wantsLetters 142 = .ok (.if_icmp .ne 18, 3) := by decide +kernel
theorem dX11_wantsLetters_145 : decode cX11_wantsLetters 145 = .ok (.iload 8, 2) := by decide +kernel
theorem dX11_wantsLetters_147 : decode cX11_wantsLetters 147 = .ok (.ifCond .eq 13, 3) := by decide +kernel
theorem dX11_wantsLetters_150 : decode cX11_wantsLetters 150 = .ok (.aload_n 0, 1) := by decide +kernel
theorem dX11_wantsLetters_151 : decode cX11_wantsLetters 151 = .ok (.iload_n 1, 1) := by decide +kernel
theorem dX11_wantsLetters_152 : decode cX11_wantsLetters 152 = .ok (.iload_n 3, 1) := by decide +kernel
theorem dX11_wantsLetters_153 : decode cX11_wantsLetters 153 = .ok (.iconst 0, 1) := by decide +kernel
theorem dX11_wantsLetters_154 : decode cX11_wantsLetters 154 = .ok (.invokevirtual 151, 3) := by decide +kernel
theorem dX11_wantsLetters_157 : decode cX11_wantsLetters 157 = .ok (.goto 38, 3) := by decide +kernel
theorem dX11_wantsLetters_160 : decode cX11_wantsLetters 160 = .ok (.iload_n 2, 1) := by decide +kernel
theorem dX11_wantsLetters_161 : decode cX11_wantsLetters 161 = .ok (.iconst 2, 1) := by decide +kernel
theorem dX11_wantsLetters_162 : decode cX11_wantsLetters 162 = .ok (.if_icmp .ne 33, 3) := by decide +kernel
theorem dX11_wantsLetters_165 : decode cX11_wantsLetters 165 = .ok (.iload 6, 2) := by decide +kernel
theorem dX11_wantsLetters_167 : decode cX11_wantsLetters 167 = .ok (.ifCond .eq 28, 3) := by decide +kernel
theorem dX11_wantsLetters_170 : decode cX11_wantsLetters 170 = .ok (.iload 4, 2) := by decide +kernel
theorem dX11_wantsLetters_172 : decode cX11_wantsLetters 172 = .ok (.bipush 97, 2) := by decide +kernel
theorem dX11_wantsLetters_174 : decode cX11_wantsLetters 174 = .ok (.if_icmp .lt 21, 3) := by decide +kernel
theorem dX11_wantsLetters_177 : decode cX11_wantsLetters 177 = .ok (.iload 4, 2) := by decide +kernel
theorem dX11_wantsLetters_179 : decode cX11_wantsLetters 179 = .ok (.bipush 122, 2) := by decide +kernel
theorem dX11_wantsLetters_181 : decode cX11_wantsLetters 181 = .ok (.if_icmp .gt 14, 3) := by decide +kernel
theorem dX11_wantsLetters_184 : decode cX11_wantsLetters 184 = .ok (.aload_n 0, 1) := by decide +kernel
theorem dX11_wantsLetters_185 : decode cX11_wantsLetters 185 = .ok (.iload_n 1, 1) := by decide +kernel
theorem dX11_wantsLetters_186 : decode cX11_wantsLetters 186 = .ok (.iload_n 3, 1) := by decide +kernel
theorem dX11_wantsLetters_187 : decode cX11_wantsLetters 187 = .ok (.iload 4, 2) := by decide +kernel
theorem dX11_wantsLetters_189 : decode cX11_wantsLetters 189 = .ok (.bipush 32, 2) := by decide +kernel
theorem dX11_wantsLetters_191 : decode cX11_wantsLetters 191 = .ok (.isub, 1) := by decide +kernel
theorem dX11_wantsLetters_192 : decode cX11_wantsLetters 192 = .ok (.invokevirtual 151, 3) := by decide +kernel
theorem dX11_wantsLetters_195 : decode cX11_wantsLetters 195 = .ok (.iinc 3 1, 3) := by decide +kernel
theorem dX11_wantsLetters_198 : decode cX11_wantsLetters 198 = .ok (.goto (-196), 3) := by decide +kernel
theorem dX11_wantsLetters_201 : decode cX11_wantsLetters 201 = .ok (.return_, 1) := by decide +kernel
theorem dX11_wantsLines_0 : decode cX11_wantsLines 0 = .ok (.iconst 0, 1) := by decide +kernel
theorem dX11_wantsLines_1 : decode cX11_wantsLines 1 = .ok (.istore_n 3, 1) := by decide +kernel
theorem dX11_wantsLines_2 : decode cX11_wantsLines 2 = .ok (.iload_n 3, 1) := by decide +kernel
theorem dX11_wantsLines_3 : decode cX11_wantsLines 3 = .ok (.aload_n 0, 1) := by decide +kernel
theorem dX11_wantsLines_4 : decode cX11_wantsLines 4 = .ok (.getfield 103, 3) := by decide +kernel
theorem dX11_wantsLines_7 : decode cX11_wantsLines 7 = .ok (.if_icmp .ge 94, 3) := by decide +kernel
theorem dX11_wantsLines_10 : decode cX11_wantsLines 10 = .ok (.aload_n 0, 1) := by decide +kernel
theorem dX11_wantsLines_11 : decode cX11_wantsLines 11 = .ok (.iload_n 1, 1) := by decide +kernel
theorem dX11_wantsLines_12 : decode cX11_wantsLines 12 = .ok (.iload_n 3, 1) := by decide +kernel
theorem dX11_wantsLines_13 : decode cX11_wantsLines 13 = .ok (.invokevirtual 155, 3) := by decide +kernel
theorem dX11_wantsLines_16 : decode cX11_wantsLines 16 = .ok (.istore 4, 2) := by decide +kernel
theorem dX11_wantsLines_18 : decode cX11_wantsLines 18 = .ok (.iconst (-1), 1) := by decide +kernel
theorem dX11_wantsLines_19 : decode cX11_wantsLines 19 = .ok (.istore 5, 2) := by decide +kernel
theorem dX11_wantsLines_21 : decode cX11_wantsLines 21 = .ok (.iload_n 3, 1) := by decide +kernel
theorem dX11_wantsLines_22 : decode cX11_wantsLines 22 = .ok (.istore 6, 2) := by decide +kernel
theorem dX11_wantsLines_24 : decode cX11_wantsLines 24 = .ok (.iload 6, 2) := by decide +kernel
theorem dX11_wantsLines_26 : decode cX11_wantsLines 26 = .ok (.iload_n 3, 1) := by decide +kernel
theorem dX11_wantsLines_27 : decode cX11_wantsLines 27 = .ok (.iload_n 2, 1) := by decide +kernel
theorem dX11_wantsLines_28 : decode cX11_wantsLines 28 = .ok (.iadd, 1) := by decide +kernel
theorem dX11_wantsLines_29 : decode cX11_wantsLines 29 = .ok (.if_icmp .gt 38, 3) := by decide +kernel
theorem dX11_wantsLines_32 : decode cX11_wantsLines 32 = .ok (.iload 4, 2) := by decide +kernel
theorem dX11_wantsLines_34 : decode cX11_wantsLines 34 = .ok (.iload_n 3, 1) := by decide +kernel
theorem dX11_wantsLines_35 : decode cX11_wantsLines 35 = .ok (.isub, 1) := by decide +kernel
theorem dX11_wantsLines_36 : decode cX11_wantsLines 36 = .ok (.iload_n 2, 1) := by decide +kernel
theorem dX11_wantsLines_37 : decode cX11_wantsLines 37 = .ok (.if_icmp .le 30, 3) := by decide +kernel
theorem dX11_wantsLines_40 : decode cX11_wantsLines 40 = .ok (.aload_n 0, 1) := by decide +kernel
theorem dX11_wantsLines_41 : decode cX11_wantsLines 41 = .ok (.iload_n 1, 1) := by decide +kernel
theorem dX11_wantsLines_42 : decode cX11_wantsLines 42 = .ok (.iload 6, 2) := by decide +kernel
theorem dX11_wantsLines_44 : decode cX11_wantsLines 44 = .ok (.invokevirtual 148, 3) := by decide +kernel
theorem dX11_wantsLines_47 : decode cX11_wantsLines 47 = .ok (.bipush 32, 2) := by decide +kernel
theorem dX11_wantsLines_49 : decode cX11_wantsLines 49 = .ok (.if_icmp .ne 8, 3) := by decide +kernel
theorem dX11_wantsLines_52 : decode cX11_wantsLines 52 = .ok (.iload 6, 2) := by decide +kernel
theorem dX11_wantsLines_54 : decode cX11_wantsLines 54 = .ok (.goto 5, 3) := by decide +kernel
theorem dX11_wantsLines_57 : decode cX11_wantsLines 57 = .ok (.iload 5, 2) := by decide +kernel
theorem dX11_wantsLines_59 : decode cX11_wantsLines 59 = .ok (.istore 5, 2) := by decide +kernel
theorem dX11_wantsLines_61 : decode cX11_wantsLines 61 = .ok (.iinc 6 1, 3) := by decide +kernel
theorem dX11_wantsLines_64 : decode cX11_wantsLines 64 = .ok (.goto (-40), 3) := by decide +kernel
theorem dX11_wantsLines_67 : decode cX11_wantsLines 67 = .ok (.iload 5, 2) := by decide +kernel
theorem dX11_wantsLines_69 : decode cX11_wantsLines 69 = .ok (.ifCond .lt 12, 3) := by decide +kernel
theorem dX11_wantsLines_72 : decode cX11_wantsLines 72 = .ok (.aload_n 0, 1) := by decide +kernel
theorem dX11_wantsLines_73 : decode cX11_wantsLines 73 = .ok (.iload_n 1, 1) := by decide +kernel
theorem dX11_wantsLines_74 : decode cX11_wantsLines 74 = .ok (.iload 5, 2) := by decide +kernel
theorem dX11_wantsLines_76 : decode cX11_wantsLines 76 = .ok (.bipush 47, 2) := by decide +kernel
theorem dX11_wantsLines_78 : decode cX11_wantsLines 78 = .ok (.invokevirtual 151, 3) := by decide +kernel
theorem dX11_wantsLines_81 : decode cX11_wantsLines 81 = .ok (.iload 5, 2) := by decide +kernel
theorem dX11_wantsLines_83 : decode cX11_wantsLines 83 = .ok (.ifCond .lt 10, 3) := by decide +kernel
theorem dX11_wantsLines_86 : decode cX11_wantsLines 86 = .ok (.iload 5, 2) := by decide +kernel
theorem dX11_wantsLines_88 : decode cX11_wantsLines 88 = .ok (.iconst 1, 1) := by decide +kernel
theorem dX11_wantsLines_89 : decode cX11_wantsLines 89 = .ok (.iadd, 1) := by decide +kernel
theorem dX11_wantsLines_90 : decode cX11_wantsLines 90 = .ok (.goto 7, 3) := by decide +kernel
theorem dX11_wantsLines_93 : decode cX11_wantsLines 93 = .ok (.iload 4, 2) := by decide +kernel
theorem dX11_wantsLines_95 : decode cX11_wantsLines 95 = .ok (.iconst 1, 1) := by decide +kernel
theorem dX11_wantsLines_96 : decode cX11_wantsLines 96 = .ok (.iadd, 1) := by decide +kernel
theorem dX11_wantsLines_97 : decode cX11_wantsLines 97 = .ok (.istore_n 3, 1) := by decide +kernel
theorem dX11_wantsLines_98 : decode cX11_wantsLines 98 = .ok (.goto (-96), 3) := by decide +kernel
theorem dX11_wantsLines_101 : decode cX11_wantsLines 101 = .ok (.return_, 1) := by decide +kernel
theorem dX11_marks_0 : decode cX11_marks 0 = .ok (.iconst 0, 1) := by decide +kernel
theorem dX11_marks_1 : decode cX11_marks 1 = .ok (.istore_n 2, 1) := by decide +kernel
theorem dX11_marks_2 : decode cX11_marks 2 = .ok (.iload_n 2, 1) := by decide +kernel
theorem dX11_marks_3 : decode cX11_marks 3 = .ok (.sipush 150, 3) := by decide +kernel
theorem dX11_marks_6 : decode cX11_marks 6 = .ok (.if_icmp .ge 16, 3) := by decide +kernel
theorem dX11_marks_9 : decode cX11_marks 9 = .ok (.aload_n 0, 1) := by decide +kernel
theorem dX11_marks_10 : decode cX11_marks 10 = .ok (.getfield 92, 3) := by decide +kernel
theorem dX11_marks_13 : decode cX11_marks 13 = .ok (.iload_n 2, 1) := by decide +kernel
theorem dX11_marks_14 : decode cX11_marks 14 = .ok (.iconst 0, 1) := by decide +kernel
theorem dX11_marks_15 : decode cX11_marks 15 = .ok (.bastore, 1) := by decide +kernel
theorem dX11_marks_16 : decode cX11_marks 16 = .ok (.iinc 2 1, 3) := by decide +kernel
theorem dX11_marks_19 : decode cX11_marks 19 = .ok (.goto (-17), 3) := by decide +kernel
theorem dX11_marks_22 : decode cX11_marks 22 = .ok (.iconst 0, 1) := by decide +kernel
theorem dX11_marks_23 : decode cX11_marks 23 = .ok (.istore_n 2, 1) := by decide +kernel
theorem dX11_marks_24 : decode cX11_marks 24 = .ok (.iload_n 2, 1) := by decide +kernel
theorem dX11_marks_25 : decode cX11_marks 25 = .ok (.aload_n 0, 1) := by decide +kernel
theorem dX11_marks_26 : decode cX11_marks 26 = .ok (.getfield 44, 3) := by decide +kernel
theorem dX11_marks_29 : decode cX11_marks 29 = .ok (.iload_n 1, 1) := by decide +kernel
theorem dX11_marks_30 : decode cX11_marks 30 = .ok (.iaload, 1) := by decide +kernel
theorem dX11_marks_31 : decode cX11_marks 31 = .ok (.if_icmp .ge 42, 3) := by decide +kernel
theorem dX11_marks_34 : decode cX11_marks 34 = .ok (.aload_n 0, 1) := by decide +kernel
theorem dX11_marks_35 : decode cX11_marks 35 = .ok (.getfield 56, 3) := by decide +kernel
theorem dX11_marks_38 : decode cX11_marks 38 = .ok (.sipush 150, 3) := by decide +kernel
theorem dX11_marks_41 : decode cX11_marks 41 = .ok (.iload_n 1, 1) := by decide +kernel
theorem dX11_marks_42 : decode cX11_marks 42 = .ok (.imul, 1) := by decide +kernel
theorem dX11_marks_43 : decode cX11_marks 43 = .ok (.iload_n 2, 1) := by decide +kernel
theorem dX11_marks_44 : decode cX11_marks 44 = .ok (.iadd, 1) := by decide +kernel
theorem dX11_marks_45 : decode cX11_marks 45 = .ok (.iaload, 1) := by decide +kernel
theorem dX11_marks_46 : decode cX11_marks 46 = .ok (.ifCond .ne 21, 3) := by decide +kernel
theorem dX11_marks_49 : decode cX11_marks 49 = .ok (.aload_n 0, 1) := by decide +kernel
theorem dX11_marks_50 : decode cX11_marks 50 = .ok (.getfield 92, 3) := by decide +kernel
theorem dX11_marks_53 : decode cX11_marks 53 = .ok (.aload_n 0, 1) := by decide +kernel
theorem dX11_marks_54 : decode cX11_marks 54 = .ok (.getfield 50, 3) := by decide +kernel
theorem dX11_marks_57 : decode cX11_marks 57 = .ok (.sipush 150, 3) := by decide +kernel
theorem dX11_marks_60 : decode cX11_marks 60 = .ok (.iload_n 1, 1) := by decide +kernel
theorem dX11_marks_61 : decode cX11_marks 61 = .ok (.imul, 1) := by decide +kernel
theorem dX11_marks_62 : decode cX11_marks 62 = .ok (.iload_n 2, 1) := by decide +kernel
theorem dX11_marks_63 : decode cX11_marks 63 = .ok (.iadd, 1) := by decide +kernel
theorem dX11_marks_64 : decode cX11_marks 64 = .ok (.iaload, 1) := by decide +kernel
theorem dX11_marks_65 : decode cX11_marks 65 = .ok (.iconst 1, 1) := by decide +kernel
theorem dX11_marks_66 : decode cX11_marks 66 = .ok (.bastore, 1) := by decide +kernel
theorem dX11_marks_67 : decode cX11_marks 67 = .ok (.iinc 2 1, 3) := by decide +kernel
theorem dX11_marks_70 : decode cX11_marks 70 = .ok (.goto (-46), 3) := by decide +kernel
theorem dX11_marks_73 : decode cX11_marks 73 = .ok (.return_, 1) := by decide +kernel
theorem dX11_nearest_0 : decode cX11_nearest 0 = .ok (.aload_n 0, 1) := by decide +kernel
theorem dX11_nearest_1 : decode cX11_nearest 1 = .ok (.iload_n 1, 1) := by decide +kernel
theorem dX11_nearest_2 : decode cX11_nearest 2 = .ok (.iload_n 2, 1) := by decide +kernel
theorem dX11_nearest_3 : decode cX11_nearest 3 = .ok (.invokevirtual 106, 3) := by decide +kernel
theorem dX11_nearest_6 : decode cX11_nearest 6 = .ok (.iload_n 3, 1) := by decide +kernel
theorem dX11_nearest_7 : decode cX11_nearest 7 = .ok (.iadd, 1) := by decide +kernel
theorem dX11_nearest_8 : decode cX11_nearest 8 = .ok (.istore 4, 2) := by decide +kernel
theorem dX11_nearest_10 : decode cX11_nearest 10 = .ok (.iload 4, 2) := by decide +kernel
theorem dX11_nearest_12 : decode cX11_nearest 12 = .ok (.ifCond .lt 67, 3) := by decide +kernel
theorem dX11_nearest_15 : decode cX11_nearest 15 = .ok (.iload 4, 2) := by decide +kernel
theorem dX11_nearest_17 : decode cX11_nearest 17 = .ok (.aload_n 0, 1) := by decide +kernel
theorem dX11_nearest_18 : decode cX11_nearest 18 = .ok (.getfield 20, 3) := by decide +kernel
theorem dX11_nearest_21 : decode cX11_nearest 21 = .ok (.iload_n 1, 1) := by decide +kernel
theorem dX11_nearest_22 : decode cX11_nearest 22 = .ok (.iaload, 1) := by decide +kernel
theorem dX11_nearest_23 : decode cX11_nearest 23 = .ok (.if_icmp .ge 56, 3) := by decide +kernel
theorem dX11_nearest_26 : decode cX11_nearest 26 = .ok (.aload_n 0, 1) := by decide +kernel
theorem dX11_nearest_27 : decode cX11_nearest 27 = .ok (.getfield 7, 3) := by decide +kernel
theorem dX11_nearest_30 : decode cX11_nearest 30 = .ok (.sipush 150, 3) := by decide +kernel
theorem dX11_nearest_33 : decode cX11_nearest 33 = .ok (.iload_n 1, 1) := by decide +kernel
theorem dX11_nearest_34 : decode cX11_nearest 34 = .ok (.imul, 1) := by decide +kernel
theorem dX11_nearest_35 : decode cX11_nearest 35 = .ok (.iload 4, 2) := by decide +kernel
theorem dX11_nearest_37 : decode cX11_nearest 37 = .ok (.iadd, 1) := by decide +kernel
theorem dX11_nearest_38 : decode cX11_nearest 38 = .ok (.iaload, 1) := by decide +kernel
theorem dX11_nearest_39 : decode cX11_nearest 39 = .ok (.istore 5, 2) := by decide +kernel
theorem dX11_nearest_41 : decode cX11_nearest 41 = .ok (.aload_n 0, 1) := by decide +kernel
theorem dX11_nearest_42 : decode cX11_nearest 42 = .ok (.getfield 16, 3) := by decide +kernel
theorem dX11_nearest_45 : decode cX11_nearest 45 = .ok (.sipush 150, 3) := by decide +kernel
theorem dX11_nearest_48 : decode cX11_nearest 48 = .ok (.iload_n 1, 1) := by decide +kernel
theorem dX11_nearest_49 : decode cX11_nearest 49 = .ok (.imul, 1) := by decide +kernel
theorem dX11_nearest_50 : decode cX11_nearest 50 = .ok (.iload 5, 2) := by decide +kernel
theorem dX11_nearest_52 : decode cX11_nearest 52 = .ok (.iadd, 1) := by decide +kernel
theorem dX11_nearest_53 : decode cX11_nearest 53 = .ok (.baload, 1) := by decide +kernel
theorem dX11_nearest_54 : decode cX11_nearest 54 = .ok (.ifCond .eq 16, 3) := by decide +kernel
theorem dX11_nearest_57 : decode cX11_nearest 57 = .ok (.aload_n 0, 1) := by decide +kernel
theorem dX11_nearest_58 : decode cX11_nearest 58 = .ok (.getfield 92, 3) := by decide +kernel
theorem dX11_nearest_61 : decode cX11_nearest 61 = .ok (.iload 5, 2) := by decide +kernel
theorem dX11_nearest_63 : decode cX11_nearest 63 = .ok (.baload, 1) := by decide +kernel
theorem dX11_nearest_64 : decode cX11_nearest 64 = .ok (.ifCond .ne 6, 3) := by decide +kernel
theorem dX11_nearest_67 : decode cX11_nearest 67 = .ok (.iload 5, 2) := by decide +kernel
theorem dX11_nearest_69 : decode cX11_nearest 69 = .ok (.ireturn, 1) := by decide +kernel
theorem dX11_nearest_70 : decode cX11_nearest 70 = .ok (.iload 4, 2) := by decide +kernel
theorem dX11_nearest_72 : decode cX11_nearest 72 = .ok (.iload_n 3, 1) := by decide +kernel
theorem dX11_nearest_73 : decode cX11_nearest 73 = .ok (.iadd, 1) := by decide +kernel
theorem dX11_nearest_74 : decode cX11_nearest 74 = .ok (.istore 4, 2) := by decide +kernel
theorem dX11_nearest_76 : decode cX11_nearest 76 = .ok (.goto (-66), 3) := by decide +kernel
theorem dX11_nearest_79 : decode cX11_nearest 79 = .ok (.iconst (-1), 1) := by decide +kernel
theorem dX11_nearest_80 : decode cX11_nearest 80 = .ok (.ireturn, 1) := by decide +kernel
theorem dX11_ask_0 : decode cX11_ask 0 = .ok (.iload_n 1, 1) := by decide +kernel
theorem dX11_ask_1 : decode cX11_ask 1 = .ok (.invokestatic 139, 3) := by decide +kernel
theorem dX11_ask_4 : decode cX11_ask 4 = .ok (.istore 4, 2) := by decide +kernel
theorem dX11_ask_6 : decode cX11_ask 6 = .ok (.iload_n 2, 1) := by decide +kernel
theorem dX11_ask_7 : decode cX11_ask 7 = .ok (.iconst 3, 1) := by decide +kernel
theorem dX11_ask_8 : decode cX11_ask 8 = .ok (.if_icmp .ne 22, 3) := by decide +kernel
theorem dX11_ask_11 : decode cX11_ask 11 = .ok (.iload_n 3, 1) := by decide +kernel
theorem dX11_ask_12 : decode cX11_ask 12 = .ok (.iconst 5, 1) := by decide +kernel
theorem dX11_ask_13 : decode cX11_ask 13 = .ok (.if_icmp .lt 13, 3) := by decide +kernel
theorem dX11_ask_16 : decode cX11_ask 16 = .ok (.iload_n 3, 1) := by decide +kernel
theorem dX11_ask_17 : decode cX11_ask 17 = .ok (.bipush 40, 2) := by decide +kernel
theorem dX11_ask_19 : decode cX11_ask 19 = .ok (.if_icmp .gt 7, 3) := by decide +kernel
theorem dX11_ask_22 : decode cX11_ask 22 = .ok (.iconst 1, 1) := by decide +kernel
theorem dX11_ask_23 : decode cX11_ask 23 = .ok (.goto 25, 3) := by decide +kernel
theorem dX11_ask_26 : decode cX11_ask 26 = .ok (.iconst 0, 1) := by decide +kernel
theorem dX11_ask_27 : decode cX11_ask 27 = .ok (.goto 21, 3) := by decide +kernel
theorem dX11_ask_30 : decode cX11_ask 30 = .ok (.iload_n 2, 1) := by decide +kernel
theorem dX11_ask_31 : decode cX11_ask 31 = .ok (.ifCond .lt 16, 3) := by decide +kernel
theorem dX11_ask_34 : decode cX11_ask 34 = .ok (.iload_n 2, 1) := by decide +kernel
theorem dX11_ask_35 : decode cX11_ask 35 = .ok (.iconst 3, 1) := by decide +kernel
theorem dX11_ask_36 : decode cX11_ask 36 = .ok (.if_icmp .ge 11, 3) := by decide +kernel
theorem dX11_ask_39 : decode cX11_ask 39 = .ok (.iload_n 3, 1) := by decide +kernel
theorem dX11_ask_40 : decode cX11_ask 40 = .ok (.ifCond .ne 7, 3) := by decide +kernel
theorem dX11_ask_43 : decode cX11_ask 43 = .ok (.iconst 1, 1) := by decide +kernel
theorem dX11_ask_44 : decode cX11_ask 44 = .ok (.goto 4, 3) := by decide +kernel
theorem dX11_ask_47 : decode cX11_ask 47 = .ok (.iconst 0, 1) := by decide +kernel
theorem dX11_ask_48 : decode cX11_ask 48 = .ok (.istore 5, 2) := by decide +kernel
theorem dX11_ask_50 : decode cX11_ask 50 = .ok (.aload_n 0, 1) := by decide +kernel
theorem dX11_ask_51 : decode cX11_ask 51 = .ok (.iload 4, 2) := by decide +kernel
theorem dX11_ask_53 : decode cX11_ask 53 = .ok (.iload 5, 2) := by decide +kernel
theorem dX11_ask_55 : decode cX11_ask 55 = .ok (.aload_n 0, 1) := by decide +kernel
theorem dX11_ask_56 : decode cX11_ask 56 = .ok (.getfield 145, 3) := by decide +kernel
theorem dX11_ask_59 : decode cX11_ask 59 = .ok (.bipush 60, 2) := by decide +kernel
theorem dX11_ask_61 : decode cX11_ask 61 = .ok (.if_icmp .ge 7, 3) := by decide +kernel
theorem dX11_ask_64 : decode cX11_ask 64 = .ok (.iconst 1, 1) := by decide +kernel
theorem dX11_ask_65 : decode cX11_ask 65 = .ok (.goto 4, 3) := by decide +kernel
theorem dX11_ask_68 : decode cX11_ask 68 = .ok (.iconst 0, 1) := by decide +kernel
theorem dX11_ask_69 : decode cX11_ask 69 = .ok (.invokevirtual 117, 3) := by decide +kernel
theorem dX11_ask_72 : decode cX11_ask 72 = .ok (.ifCond .ne 5, 3) := by decide +kernel
theorem dX11_ask_75 : decode cX11_ask 75 = .ok (.iconst 0, 1) := by decide +kernel
theorem dX11_ask_76 : decode cX11_ask 76 = .ok (.ireturn, 1) := by decide +kernel
theorem dX11_ask_77 : decode cX11_ask 77 = .ok (.aload_n 0, 1) := by decide +kernel
theorem dX11_ask_78 : decode cX11_ask 78 = .ok (.getfield 38, 3) := by decide +kernel
theorem dX11_ask_81 : decode cX11_ask 81 = .ok (.aload_n 0, 1) := by decide +kernel
theorem dX11_ask_82 : decode cX11_ask 82 = .ok (.getfield 145, 3) := by decide +kernel
theorem dX11_ask_85 : decode cX11_ask 85 = .ok (.iload_n 1, 1) := by decide +kernel
theorem dX11_ask_86 : decode cX11_ask 86 = .ok (.iastore, 1) := by decide +kernel
theorem dX11_ask_87 : decode cX11_ask 87 = .ok (.aload_n 0, 1) := by decide +kernel
theorem dX11_ask_88 : decode cX11_ask 88 = .ok (.getfield 41, 3) := by decide +kernel
theorem dX11_ask_91 : decode cX11_ask 91 = .ok (.aload_n 0, 1) := by decide +kernel
theorem dX11_ask_92 : decode cX11_ask 92 = .ok (.getfield 145, 3) := by decide +kernel
theorem dX11_ask_95 : decode cX11_ask 95 = .ok (.iconst 0, 1) := by decide +kernel
theorem dX11_ask_96 : decode cX11_ask 96 = .ok (.iastore, 1) := by decide +kernel
theorem dX11_ask_97 : decode cX11_ask 97 = .ok (.aload_n 0, 1) := by decide +kernel
theorem dX11_ask_98 : decode cX11_ask 98 = .ok (.getfield 44, 3) := by decide +kernel
theorem dX11_ask_101 : decode cX11_ask 101 = .ok (.aload_n 0, 1) := by decide +kernel
theorem dX11_ask_102 : decode cX11_ask 102 = .ok (.getfield 145, 3) := by decide +kernel
theorem dX11_ask_105 : decode cX11_ask 105 = .ok (.iconst 0, 1) := by decide +kernel
theorem dX11_ask_106 : decode cX11_ask 106 = .ok (.iastore, 1) := by decide +kernel
theorem dX11_ask_107 : decode cX11_ask 107 = .ok (.aload_n 0, 1) := by decide +kernel
theorem dX11_ask_108 : decode cX11_ask 108 = .ok (.iload_n 1, 1) := by decide +kernel
theorem dX11_ask_109 : decode cX11_ask 109 = .ok (.invokevirtual 128, 3) := by decide +kernel
theorem dX11_ask_112 : decode cX11_ask 112 = .ok (.iload_n 2, 1) := by decide +kernel
theorem dX11_ask_113 : decode cX11_ask 113 = .ok (.iconst 3, 1) := by decide +kernel
theorem dX11_ask_114 : decode cX11_ask 114 = .ok (.if_icmp .ne 12, 3) := by decide +kernel
theorem dX11_ask_117 : decode cX11_ask 117 = .ok (.aload_n 0, 1) := by decide +kernel
theorem dX11_ask_118 : decode cX11_ask 118 = .ok (.iload_n 1, 1) := by decide +kernel
theorem dX11_ask_119 : decode cX11_ask 119 = .ok (.iload_n 3, 1) := by decide +kernel
theorem dX11_ask_120 : decode cX11_ask 120 = .ok (.invokevirtual 158, 3) := by decide +kernel
theorem dX11_ask_123 : decode cX11_ask 123 = .ok (.goto 9, 3) := by decide +kernel
theorem dX11_ask_126 : decode cX11_ask 126 = .ok (.aload_n 0, 1) := by decide +kernel
theorem dX11_ask_127 : decode cX11_ask 127 = .ok (.iload_n 1, 1) := by decide +kernel
theorem dX11_ask_128 : decode cX11_ask 128 = .ok (.iload_n 2, 1) := by decide +kernel
theorem dX11_ask_129 : decode cX11_ask 129 = .ok (.invokevirtual 161, 3) := by decide +kernel
theorem dX11_ask_132 : decode cX11_ask 132 = .ok (.aload_n 0, 1) := by decide +kernel
theorem dX11_ask_133 : decode cX11_ask 133 = .ok (.aload_n 0, 1) := by decide +kernel
theorem dX11_ask_134 : decode cX11_ask 134 = .ok (.getfield 145, 3) := by decide +kernel
theorem dX11_ask_137 : decode cX11_ask 137 = .ok (.invokevirtual 164, 3) := by decide +kernel
theorem dX11_ask_140 : decode cX11_ask 140 = .ok (.iconst 0, 1) := by decide +kernel
theorem dX11_ask_141 : decode cX11_ask 141 = .ok (.istore 6, 2) := by decide +kernel
theorem dX11_ask_143 : decode cX11_ask 143 = .ok (.iload 6, 2) := by decide +kernel
theorem dX11_ask_145 : decode cX11_ask 145 = .ok (.aload_n 0, 1) := by decide +kernel
theorem dX11_ask_146 : decode cX11_ask 146 = .ok (.getfield 44, 3) := by decide +kernel
theorem dX11_ask_149 : decode cX11_ask 149 = .ok (.aload_n 0, 1) := by decide +kernel
theorem dX11_ask_150 : decode cX11_ask 150 = .ok (.getfield 145, 3) := by decide +kernel
theorem dX11_ask_153 : decode cX11_ask 153 = .ok (.iaload, 1) := by decide +kernel
theorem dX11_ask_154 : decode cX11_ask 154 = .ok (.if_icmp .ge 62, 3) := by decide +kernel
theorem dX11_ask_157 : decode cX11_ask 157 = .ok (.sipush 150, 3) := by decide +kernel
theorem dX11_ask_160 : decode cX11_ask 160 = .ok (.aload_n 0, 1) := by decide +kernel
theorem dX11_ask_161 : decode cX11_ask 161 = .ok (.getfield 145, 3) := by decide +kernel
theorem dX11_ask_164 : decode cX11_ask 164 = .ok (.imul, 1) := by decide +kernel
theorem dX11_ask_165 : decode cX11_ask 165 = .ok (.iload 6, 2) := by decide +kernel
theorem dX11_ask_167 : decode cX11_ask 167 = .ok (.iadd, 1) := by decide +kernel
theorem dX11_ask_168 : decode cX11_ask 168 = .ok (.istore 7, 2) := by decide +kernel
theorem dX11_ask_170 : decode cX11_ask 170 = .ok (.aload_n 0, 1) := by decide +kernel
theorem dX11_ask_171 : decode cX11_ask 171 = .ok (.getfield 59, 3) := by decide +kernel
theorem dX11_ask_174 : decode cX11_ask 174 = .ok (.iload 7, 2) := by decide +kernel
theorem dX11_ask_176 : decode cX11_ask 176 = .ok (.aload_n 0, 1) := by decide +kernel
theorem dX11_ask_177 : decode cX11_ask 177 = .ok (.iload_n 1, 1) := by decide +kernel
theorem dX11_ask_178 : decode cX11_ask 178 = .ok (.aload_n 0, 1) := by decide +kernel
theorem dX11_ask_179 : decode cX11_ask 179 = .ok (.getfield 50, 3) := by decide +kernel
theorem dX11_ask_182 : decode cX11_ask 182 = .ok (.iload 7, 2) := by decide +kernel
theorem dX11_ask_184 : decode cX11_ask 184 = .ok (.iaload, 1) := by decide +kernel
theorem dX11_ask_185 : decode cX11_ask 185 = .ok (.iconst (-1), 1) := by decide +kernel
theorem dX11_ask_186 : decode cX11_ask 186 = .ok (.invokevirtual 167, 3) := by decide +kernel
theorem dX11_ask_189 : decode cX11_ask 189 = .ok (.iastore, 1) := by decide +kernel
theorem dX11_ask_190 : decode cX11_ask 190 = .ok (.aload_n 0, 1) := by decide +kernel
theorem dX11_ask_191 : decode cX11_ask 191 = .ok (.getfield 62, 3) := by decide +kernel
theorem dX11_ask_194 : decode cX11_ask 194 = .ok (.iload 7, 2) := by decide +kernel
theorem dX11_ask_196 : decode cX11_ask 196 = .ok (.aload_n 0, 1) := by decide +kernel
theorem dX11_ask_197 : decode cX11_ask 197 = .ok (.iload_n 1, 1) := by decide +kernel
theorem dX11_ask_198 : decode cX11_ask 198 = .ok (.aload_n 0, 1) := by decide +kernel
theorem dX11_ask_199 : decode cX11_ask 199 = .ok (.getfield 50, 3) := by decide +kernel
theorem dX11_ask_202 : decode cX11_ask 202 = .ok (.iload 7, 2) := by decide +kernel
theorem dX11_ask_204 : decode cX11_ask 204 = .ok (.iaload, 1) := by decide +kernel
theorem dX11_ask_205 : decode cX11_ask 205 = .ok (.iconst 1, 1) := by decide +kernel
theorem dX11_ask_206 : decode cX11_ask 206 = .ok (.invokevirtual 167, 3) := by decide +kernel
theorem dX11_ask_209 : decode cX11_ask 209 = .ok (.iastore, 1) := by decide +kernel
theorem dX11_ask_210 : decode cX11_ask 210 = .ok (.iinc 6 1, 3) := by decide +kernel
theorem dX11_ask_213 : decode cX11_ask 213 = .ok (.goto (-70), 3) := by decide +kernel
theorem dX11_ask_216 : decode cX11_ask 216 = .ok (.aload_n 0, 1) := by decide +kernel
theorem dX11_ask_217 : decode cX11_ask 217 = .ok (.dup, 1) := by decide +kernel
theorem dX11_ask_218 : decode cX11_ask 218 = .ok (.getfield 145, 3) := by decide +kernel
theorem dX11_ask_221 : decode cX11_ask 221 = .ok (.iconst 1, 1) := by decide +kernel
theorem dX11_ask_222 : decode cX11_ask 222 = .ok (.iadd, 1) := by decide +kernel
theorem dX11_ask_223 : decode cX11_ask 223 = .ok (.putfield 145, 3) := by decide +kernel
theorem dX11_ask_226 : decode cX11_ask 226 = .ok (.aload_n 0, 1) := by decide +kernel
theorem dX11_ask_227 : decode cX11_ask 227 = .ok (.getfield 145, 3) := by decide +kernel
theorem dX11_ask_230 : decode cX11_ask 230 = .ok (.iconst 1, 1) := by decide +kernel
theorem dX11_ask_231 : decode cX11_ask 231 = .ok (.isub, 1) := by decide +kernel
theorem dX11_ask_232 : decode cX11_ask 232 = .ok (.ireturn, 1) := by decide +kernel
theorem dX11_isFormat_0 : decode cX11_isFormat 0 = .ok (.iload_n 1, 1) := by decide +kernel
theorem dX11_isFormat_1 : decode cX11_isFormat 1 = .ok (.aload_n 0, 1) := by decide +kernel
theorem dX11_isFormat_2 : decode cX11_isFormat 2 = .ok (.getfield 145, 3) := by decide +kernel
theorem dX11_isFormat_5 : decode cX11_isFormat 5 = .ok (.invokestatic 99, 3) := by decide +kernel
theorem dX11_isFormat_8 : decode cX11_isFormat 8 = .ok (.ireturn, 1) := by decide +kernel
theorem dX11_hasCursor_0 : decode cX11_hasCursor 0 = .ok (.iconst 0, 1) := by decide +kernel
theorem dX11_hasCursor_1 : decode cX11_hasCursor 1 = .ok (.istore_n 3, 1) := by decide +kernel
theorem dX11_hasCursor_2 : decode cX11_hasCursor 2 = .ok (.iconst 0, 1) := by decide +kernel
theorem dX11_hasCursor_3 : decode cX11_hasCursor 3 = .ok (.istore 4, 2) := by decide +kernel
theorem dX11_hasCursor_5 : decode cX11_hasCursor 5 = .ok (.iload 4, 2) := by decide +kernel
theorem dX11_hasCursor_7 : decode cX11_hasCursor 7 = .ok (.iconst 5, 1) := by decide +kernel
theorem dX11_hasCursor_8 : decode cX11_hasCursor 8 = .ok (.if_icmp .ge 34, 3) := by decide +kernel
theorem dX11_hasCursor_11 : decode cX11_hasCursor 11 = .ok (.iload_n 3, 1) := by decide +kernel
theorem dX11_hasCursor_12 : decode cX11_hasCursor 12 = .ok (.ifCond .ne 18, 3) := by decide +kernel
theorem dX11_hasCursor_15 : decode cX11_hasCursor 15 = .ok (.aload_n 0, 1) := by decide +kernel
theorem dX11_hasCursor_16 : decode cX11_hasCursor 16 = .ok (.getfield 26, 3) := by decide +kernel
theorem dX11_hasCursor_19 : decode cX11_hasCursor 19 = .ok (.iconst 5, 1) := by decide +kernel
theorem dX11_hasCursor_20 : decode cX11_hasCursor 20 = .ok (.iload_n 1, 1) := by decide +kernel
theorem dX11_hasCursor_21 : decode cX11_hasCursor 21 = .ok (.imul, 1) := by decide +kernel
theorem dX11_hasCursor_22 : decode cX11_hasCursor 22 = .ok (.iload 4, 2) := by decide +kernel
theorem dX11_hasCursor_24 : decode cX11_hasCursor 24 = .ok (.iadd, 1) := by decide +kernel
theorem dX11_hasCursor_25 : decode cX11_hasCursor 25 = .ok (.iaload, 1) := by decide +kernel
theorem dX11_hasCursor_26 : decode cX11_hasCursor 26 = .ok (.iload_n 2, 1) := by decide +kernel
theorem dX11_hasCursor_27 : decode cX11_hasCursor 27 = .ok (.if_icmp .ne 7, 3) := by decide +kernel
theorem dX11_hasCursor_30 : decode cX11_hasCursor 30 = .ok (.iconst 1, 1) := by decide +kernel
theorem dX11_hasCursor_31 : decode cX11_hasCursor 31 = .ok (.goto 4, 3) := by decide +kernel
theorem dX11_hasCursor_34 : decode cX11_hasCursor 34 = .ok (.iconst 0, 1) := by decide +kernel
theorem dX11_hasCursor_35 : decode cX11_hasCursor 35 = .ok (.istore_n 3, 1) := by decide +kernel
theorem dX11_hasCursor_36 : decode cX11_hasCursor 36 = .ok (.iinc 4 1, 3) := by decide +kernel
theorem dX11_hasCursor_39 : decode cX11_hasCursor 39 = .ok (.goto (-34), 3) := by decide +kernel
theorem dX11_hasCursor_42 : decode cX11_hasCursor 42 = .ok (.iload_n 3, 1) := by decide +kernel
theorem dX11_hasCursor_43 : decode cX11_hasCursor 43 = .ok (.ireturn, 1) := by decide +kernel
theorem dX11_isSpared_0 : decode cX11_isSpared 0 = .ok (.aload_n 0, 1) := by decide +kernel
theorem dX11_isSpared_1 : decode cX11_isSpared 1 = .ok (.getfield 38, 3) := by decide +kernel
theorem dX11_isSpared_4 : decode cX11_isSpared 4 = .ok (.iload_n 1, 1) := by decide +kernel
theorem dX11_isSpared_5 : decode cX11_isSpared 5 = .ok (.iaload, 1) := by decide +kernel
theorem dX11_isSpared_6 : decode cX11_isSpared 6 = .ok (.istore_n 3, 1) := by decide +kernel
theorem dX11_isSpared_7 : decode cX11_isSpared 7 = .ok (.sipush 150, 3) := by decide +kernel
theorem dX11_isSpared_10 : decode cX11_isSpared 10 = .ok (.iload_n 1, 1) := by decide +kernel
theorem dX11_isSpared_11 : decode cX11_isSpared 11 = .ok (.imul, 1) := by decide +kernel
theorem dX11_isSpared_12 : decode cX11_isSpared 12 = .ok (.iload_n 2, 1) := by decide +kernel
theorem dX11_isSpared_13 : decode cX11_isSpared 13 = .ok (.iadd, 1) := by decide +kernel
theorem dX11_isSpared_14 : decode cX11_isSpared 14 = .ok (.istore 4, 2) := by decide +kernel
theorem dX11_isSpared_16 : decode cX11_isSpared 16 = .ok (.aload_n 0, 1) := by decide +kernel
theorem dX11_isSpared_17 : decode cX11_isSpared 17 = .ok (.getfield 50, 3) := by decide +kernel
theorem dX11_isSpared_20 : decode cX11_isSpared 20 = .ok (.iload 4, 2) := by decide +kernel
theorem dX11_isSpared_22 : decode cX11_isSpared 22 = .ok (.iaload, 1) := by decide +kernel
theorem dX11_isSpared_23 : decode cX11_isSpared 23 = .ok (.istore 5, 2) := by decide +kernel
theorem dX11_isSpared_25 : decode cX11_isSpared 25 = .ok (.aload_n 0, 1) := by decide +kernel
theorem dX11_isSpared_26 : decode cX11_isSpared 26 = .ok (.getfield 16, 3) := by decide +kernel
theorem dX11_isSpared_29 : decode cX11_isSpared 29 = .ok (.sipush 150, 3) := by decide +kernel
theorem dX11_isSpared_32 : decode cX11_isSpared 32 = .ok (.iload_n 3, 1) := by decide +kernel
theorem dX11_isSpared_33 : decode cX11_isSpared 33 = .ok (.imul, 1) := by decide +kernel
theorem dX11_isSpared_34 : decode cX11_isSpared 34 = .ok (.iload 5, 2) := by decide +kernel
theorem dX11_isSpared_36 : decode cX11_isSpared 36 = .ok (.iadd, 1) := by decide +kernel
theorem dX11_isSpared_37 : decode cX11_isSpared 37 = .ok (.baload, 1) := by decide +kernel
theorem dX11_isSpared_38 : decode cX11_isSpared 38 = .ok (.ifCond .eq 26, 3) := by decide +kernel
theorem dX11_isSpared_41 : decode cX11_isSpared 41 = .ok (.aload_n 0, 1) := by decide +kernel
theorem dX11_isSpared_42 : decode cX11_isSpared 42 = .ok (.getfield 13, 3) := by decide +kernel
theorem dX11_isSpared_45 : decode cX11_isSpared 45 = .ok (.sipush 150, 3) := by decide +kernel
theorem dX11_isSpared_48 : decode cX11_isSpared 48 = .ok (.iload_n 3, 1) := by decide +kernel
theorem dX11_isSpared_49 : decode cX11_isSpared 49 = .ok (.imul, 1) := by decide +kernel
theorem dX11_isSpared_50 : decode cX11_isSpared 50 = .ok (.iload 5, 2) := by decide +kernel
theorem dX11_isSpared_52 : decode cX11_isSpared 52 = .ok (.iadd, 1) := by decide +kernel
theorem dX11_isSpared_53 : decode cX11_isSpared 53 = .ok (.iaload, 1) := by decide +kernel
theorem dX11_isSpared_54 : decode cX11_isSpared 54 = .ok (.aload_n 0, 1) := by decide +kernel
theorem dX11_isSpared_55 : decode cX11_isSpared 55 = .ok (.getfield 53, 3) := by decide +kernel
theorem dX11_isSpared_58 : decode cX11_isSpared 58 = .ok (.iload 4, 2) := by decide +kernel
theorem dX11_isSpared_60 : decode cX11_isSpared 60 = .ok (.iaload, 1) := by decide +kernel
theorem dX11_isSpared_61 : decode cX11_isSpared 61 = .ok (.if_icmp .eq 7, 3) := by decide +kernel
theorem dX11_isSpared_64 : decode cX11_isSpared 64 = .ok (.iconst 1, 1) := by decide +kernel
theorem dX11_isSpared_65 : decode cX11_isSpared 65 = .ok (.goto 4, 3) := by decide +kernel
theorem dX11_isSpared_68 : decode cX11_isSpared 68 = .ok (.iconst 0, 1) := by decide +kernel
theorem dX11_isSpared_69 : decode cX11_isSpared 69 = .ok (.istore 6, 2) := by decide +kernel
theorem dX11_isSpared_71 : decode cX11_isSpared 71 = .ok (.aload_n 0, 1) := by decide +kernel
theorem dX11_isSpared_72 : decode cX11_isSpared 72 = .ok (.getfield 56, 3) := by decide +kernel
theorem dX11_isSpared_75 : decode cX11_isSpared 75 = .ok (.iload 4, 2) := by decide +kernel
theorem dX11_isSpared_77 : decode cX11_isSpared 77 = .ok (.iaload, 1) := by decide +kernel
theorem dX11_isSpared_78 : decode cX11_isSpared 78 = .ok (.ifCond .ne 17, 3) := by decide +kernel
theorem dX11_isSpared_81 : decode cX11_isSpared 81 = .ok (.aload_n 0, 1) := by decide +kernel
theorem dX11_isSpared_82 : decode cX11_isSpared 82 = .ok (.iload_n 3, 1) := by decide +kernel
theorem dX11_isSpared_83 : decode cX11_isSpared 83 = .ok (.iload 5, 2) := by decide +kernel
theorem dX11_isSpared_85 : decode cX11_isSpared 85 = .ok (.invokevirtual 171, 3) := by decide +kernel
theorem dX11_isSpared_88 : decode cX11_isSpared 88 = .ok (.ifCond .eq 7, 3) := by decide +kernel
theorem dX11_isSpared_91 : decode cX11_isSpared 91 = .ok (.iconst 1, 1) := by decide +kernel
theorem dX11_isSpared_92 : decode cX11_isSpared 92 = .ok (.goto 4, 3) := by decide +kernel
theorem dX11_isSpared_95 : decode cX11_isSpared 95 = .ok (.iconst 0, 1) := by decide +kernel
theorem dX11_isSpared_96 : decode cX11_isSpared 96 = .ok (.istore 7, 2) := by decide +kernel
theorem dX11_isSpared_98 : decode cX11_isSpared 98 = .ok (.iload 6, 2) := by decide +kernel
theorem dX11_isSpared_100 : decode cX11_isSpared 100 = .ok (.ifCond .ne 44, 3) := by decide +kernel
theorem dX11_isSpared_103 : decode cX11_isSpared 103 = .ok (.iload 7, 2) := by decide +kernel
theorem dX11_isSpared_105 : decode cX11_isSpared 105 = .ok (.ifCond .ne 39, 3) := by decide +kernel
theorem dX11_isSpared_108 : decode cX11_isSpared 108 = .ok (.aload_n 0, 1) := by decide +kernel
theorem dX11_isSpared_109 : decode cX11_isSpared 109 = .ok (.iload_n 3, 1) := by decide +kernel
theorem dX11_isSpared_110 : decode cX11_isSpared 110 = .ok (.iload 5, 2) := by decide +kernel
theorem dX11_isSpared_112 : decode cX11_isSpared 112 = .ok (.iconst (-1), 1) := by decide +kernel
theorem dX11_isSpared_113 : decode cX11_isSpared 113 = .ok (.invokevirtual 167, 3) := by decide +kernel
theorem dX11_isSpared_116 : decode cX11_isSpared 116 = .ok (.aload_n 0, 1) := by decide +kernel
theorem dX11_isSpared_117 : decode cX11_isSpared 117 = .ok (.getfield 59, 3) := by decide +kernel
theorem dX11_isSpared_120 : decode cX11_isSpared 120 = .ok (.iload 4, 2) := by decide +kernel
theorem dX11_isSpared_122 : decode cX11_isSpared 122 = .ok (.iaload, 1) := by decide +kernel
theorem dX11_isSpared_123 : decode cX11_isSpared 123 = .ok (.if_icmp .ne 21, 3) := by decide +kernel
theorem dX11_isSpared_126 : decode cX11_isSpared 126 = .ok (.aload_n 0, 1) := by decide +kernel
theorem dX11_isSpared_127 : decode cX11_isSpared 127 = .ok (.iload_n 3, 1) := by decide +kernel
theorem dX11_isSpared_128 : decode cX11_isSpared 128 = .ok (.iload 5, 2) := by decide +kernel
theorem dX11_isSpared_130 : decode cX11_isSpared 130 = .ok (.iconst 1, 1) := by decide +kernel
theorem dX11_isSpared_131 : decode cX11_isSpared 131 = .ok (.invokevirtual 167, 3) := by decide +kernel
theorem dX11_isSpared_134 : decode cX11_isSpared 134 = .ok (.aload_n 0, 1) := by decide +kernel
theorem dX11_isSpared_135 : decode cX11_isSpared 135 = .ok (.getfield 62, 3) := by decide +kernel
theorem dX11_isSpared_138 : decode cX11_isSpared 138 = .ok (.iload 4, 2) := by decide +kernel
theorem dX11_isSpared_140 : decode cX11_isSpared 140 = .ok (.iaload, 1) := by decide +kernel
theorem dX11_isSpared_141 : decode cX11_isSpared 141 = .ok (.if_icmp .eq 7, 3) := by decide +kernel
theorem dX11_isSpared_144 : decode cX11_isSpared 144 = .ok (.iconst 1, 1) := by decide +kernel
theorem dX11_isSpared_145 : decode cX11_isSpared 145 = .ok (.goto 4, 3) := by decide +kernel
theorem dX11_isSpared_148 : decode cX11_isSpared 148 = .ok (.iconst 0, 1) := by decide +kernel
theorem dX11_isSpared_149 : decode cX11_isSpared 149 = .ok (.ireturn, 1) := by decide +kernel
theorem dX11_sparedNow_0 : decode cX11_sparedNow 0 = .ok (.aload_n 0, 1) := by decide +kernel
theorem dX11_sparedNow_1 : decode cX11_sparedNow 1 = .ok (.iload_n 1, 1) := by decide +kernel
theorem dX11_sparedNow_2 : decode cX11_sparedNow 2 = .ok (.invokevirtual 164, 3) := by decide +kernel
theorem dX11_sparedNow_5 : decode cX11_sparedNow 5 = .ok (.iconst 0, 1) := by decide +kernel
theorem dX11_sparedNow_6 : decode cX11_sparedNow 6 = .ok (.istore_n 2, 1) := by decide +kernel
theorem dX11_sparedNow_7 : decode cX11_sparedNow 7 = .ok (.iconst 0, 1) := by decide +kernel
theorem dX11_sparedNow_8 : decode cX11_sparedNow 8 = .ok (.istore_n 3, 1) := by decide +kernel
theorem dX11_sparedNow_9 : decode cX11_sparedNow 9 = .ok (.iload_n 3, 1) := by decide +kernel
theorem dX11_sparedNow_10 : decode cX11_sparedNow 10 = .ok (.aload_n 0, 1) := by decide +kernel
theorem dX11_sparedNow_11 : decode cX11_sparedNow 11 = .ok (.getfield 44, 3) := by decide +kernel
theorem dX11_sparedNow_14 : decode cX11_sparedNow 14 = .ok (.iload_n 1, 1) := by decide +kernel
theorem dX11_sparedNow_15 : decode cX11_sparedNow 15 = .ok (.iaload, 1) := by decide +kernel
theorem dX11_sparedNow_16 : decode cX11_sparedNow 16 = .ok (.if_icmp .ge 26, 3) := by decide +kernel
theorem dX11_sparedNow_19 : decode cX11_sparedNow 19 = .ok (.iload_n 2, 1) := by decide +kernel
theorem dX11_sparedNow_20 : decode cX11_sparedNow 20 = .ok (.aload_n 0, 1) := by decide +kernel
theorem dX11_sparedNow_21 : decode cX11_sparedNow 21 = .ok (.iload_n 1, 1) := by decide +kernel
theorem dX11_sparedNow_22 : decode cX11_sparedNow 22 = .ok (.iload_n 3, 1) := by decide +kernel
theorem dX11_sparedNow_23 : decode cX11_sparedNow 23 = .ok (.invokevirtual 174, 3) := by decide +kernel
theorem dX11_sparedNow_26 : decode cX11_sparedNow 26 = .ok (.ifCond .eq 7, 3) := by decide +kernel
theorem dX11_sparedNow_29 : decode cX11_sparedNow 29 = .ok (.iconst 1, 1) := by decide +kernel
theorem dX11_sparedNow_30 : decode cX11_sparedNow 30 = .ok (.goto 4, 3) := by decide +kernel
theorem dX11_sparedNow_33 : decode cX11_sparedNow 33 = .ok (.iconst 0, 1) := by decide +kernel
theorem dX11_sparedNow_34 : decode cX11_sparedNow 34 = .ok (.iadd, 1) := by decide +kernel
theorem dX11_sparedNow_35 : decode cX11_sparedNow 35 = .ok (.istore_n 2, 1) := by decide +kernel
theorem dX11_sparedNow_36 : decode cX11_sparedNow 36 = .ok (.iinc 3 1, 3) := by decide +kernel
theorem dX11_sparedNow_39 : decode cX11_sparedNow 39 = .ok (.goto (-30), 3) := by decide +kernel
theorem dX11_sparedNow_42 : decode cX11_sparedNow 42 = .ok (.iload_n 2, 1) := by decide +kernel
theorem dX11_sparedNow_43 : decode cX11_sparedNow 43 = .ok (.ireturn, 1) := by decide +kernel
theorem dX11_come_0 : decode cX11_come 0 = .ok (.aload_n 0, 1) := by decide +kernel
theorem dX11_come_1 : decode cX11_come 1 = .ok (.iload_n 1, 1) := by decide +kernel
theorem dX11_come_2 : decode cX11_come 2 = .ok (.invokevirtual 177, 3) := by decide +kernel
theorem dX11_come_5 : decode cX11_come 5 = .ok (.istore_n 2, 1) := by decide +kernel
theorem dX11_come_6 : decode cX11_come 6 = .ok (.aload_n 0, 1) := by decide +kernel
theorem dX11_come_7 : decode cX11_come 7 = .ok (.iload_n 2, 1) := by decide +kernel
theorem dX11_come_8 : decode cX11_come 8 = .ok (.iload_n 2, 1) := by decide +kernel
theorem dX11_come_9 : decode cX11_come 9 = .ok (.ifCond .eq 16, 3) := by decide +kernel
theorem dX11_come_12 : decode cX11_come 12 = .ok (.aload_n 0, 1) := by decide +kernel
theorem dX11_come_13 : decode cX11_come 13 = .ok (.getfield 41, 3) := by decide +kernel
theorem dX11_come_16 : decode cX11_come 16 = .ok (.iload_n 1, 1) := by decide +kernel
theorem dX11_come_17 : decode cX11_come 17 = .ok (.iaload, 1) := by decide +kernel
theorem dX11_come_18 : decode cX11_come 18 = .ok (.ifCond .ne 7, 3) := by decide +kernel
theorem dX11_come_21 : decode cX11_come 21 = .ok (.iconst 1, 1) := by decide +kernel
theorem dX11_come_22 : decode cX11_come 22 = .ok (.goto 4, 3) := by decide +kernel
theorem dX11_come_25 : decode cX11_come 25 = .ok (.iconst 0, 1) := by decide +kernel
theorem dX11_come_26 : decode cX11_come 26 = .ok (.iconst 1, 1) := by decide +kernel
theorem dX11_come_27 : decode cX11_come 27 = .ok (.invokevirtual 117, 3) := by decide +kernel
theorem dX11_come_30 : decode cX11_come 30 = .ok (.ifCond .ne 5, 3) := by decide +kernel
theorem dX11_come_33 : decode cX11_come 33 = .ok (.iconst 0, 1) := by decide +kernel
theorem dX11_come_34 : decode cX11_come 34 = .ok (.ireturn, 1) := by decide +kernel
theorem dX11_come_35 : decode cX11_come 35 = .ok (.aload_n 0, 1) := by decide +kernel
theorem dX11_come_36 : decode cX11_come 36 = .ok (.getfield 47, 3) := by decide +kernel
theorem dX11_come_39 : decode cX11_come 39 = .ok (.iload_n 1, 1) := by decide +kernel
theorem dX11_come_40 : decode cX11_come 40 = .ok (.aload_n 0, 1) := by decide +kernel
theorem dX11_come_41 : decode cX11_come 41 = .ok (.iload_n 1, 1) := by decide +kernel
theorem dX11_come_42 : decode cX11_come 42 = .ok (.invokevirtual 180, 3) := by decide +kernel
theorem dX11_come_45 : decode cX11_come 45 = .ok (.iastore, 1) := by decide +kernel
theorem dX11_come_46 : decode cX11_come 46 = .ok (.aload_n 0, 1) := by decide +kernel
theorem dX11_come_47 : decode cX11_come 47 = .ok (.getfield 38, 3) := by decide +kernel
theorem dX11_come_50 : decode cX11_come 50 = .ok (.iload_n 1, 1) := by decide +kernel
theorem dX11_come_51 : decode cX11_come 51 = .ok (.iaload, 1) := by decide +kernel
theorem dX11_come_52 : decode cX11_come 52 = .ok (.istore_n 3, 1) := by decide +kernel
theorem dX11_come_53 : decode cX11_come 53 = .ok (.iconst 0, 1) := by decide +kernel
theorem dX11_come_54 : decode cX11_come 54 = .ok (.istore 4, 2) := by decide +kernel
theorem dX11_come_56 : decode cX11_come 56 = .ok (.iload 4, 2) := by decide +kernel
theorem dX11_come_58 : decode cX11_come 58 = .ok (.aload_n 0, 1) := by decide +kernel
theorem dX11_come_59 : decode cX11_come 59 = .ok (.getfield 44, 3) := by decide +kernel
theorem dX11_come_62 : decode cX11_come 62 = .ok (.iload_n 1, 1) := by decide +kernel
theorem dX11_come_63 : decode cX11_come 63 = .ok (.iaload, 1) := by decide +kernel
theorem dX11_come_64 : decode cX11_come 64 = .ok (.if_icmp .ge 47, 3) := by decide +kernel
theorem dX11_come_67 : decode cX11_come 67 = .ok (.sipush 150, 3) := by decide +kernel
theorem dX11_come_70 : decode cX11_come 70 = .ok (.iload_n 1, 1) := by decide +kernel
theorem dX11_come_71 : decode cX11_come 71 = .ok (.imul, 1) := by decide +kernel
theorem dX11_come_72 : decode cX11_come 72 = .ok (.iload 4, 2) := by decide +kernel
theorem dX11_come_74 : decode cX11_come 74 = .ok (.iadd, 1) := by decide +kernel
theorem dX11_come_75 : decode cX11_come 75 = .ok (.istore 5, 2) := by decide +kernel
theorem dX11_come_77 : decode cX11_come 77 = .ok (.aload_n 0, 1) := by decide +kernel
theorem dX11_come_78 : decode cX11_come 78 = .ok (.getfield 53, 3) := by decide +kernel
theorem dX11_come_81 : decode cX11_come 81 = .ok (.iload 5, 2) := by decide +kernel
theorem dX11_come_83 : decode cX11_come 83 = .ok (.aload_n 0, 1) := by decide +kernel
theorem dX11_come_84 : decode cX11_come 84 = .ok (.iload_n 1, 1) := by decide +kernel
theorem dX11_come_85 : decode cX11_come 85 = .ok (.iload 4, 2) := by decide +kernel
theorem dX11_come_87 : decode cX11_come 87 = .ok (.invokevirtual 174, 3) := by decide +kernel
theorem dX11_come_90 : decode cX11_come 90 = .ok (.ifCond .eq 7, 3) := by decide +kernel
theorem dX11_come_93 : decode cX11_come 93 = .ok (.iconst (-1), 1) := by decide +kernel
theorem dX11_come_94 : decode cX11_come 94 = .ok (.goto 10, 3) := by decide +kernel
theorem dX11_come_97 : decode cX11_come 97 = .ok (.aload_n 0, 1) := by decide +kernel
theorem dX11_come_98 : decode cX11_come 98 = .ok (.getfield 53, 3) := by decide +kernel
theorem dX11_come_101 : decode cX11_come 101 = .ok (.iload 5, 2) := by decide +kernel
theorem dX11_come_103 : decode cX11_come 103 = .ok (.iaload, 1) := by decide +kernel
theorem dX11_come_104 : decode cX11_come 104 = .ok (.iastore, 1) := by decide +kernel
theorem dX11_come_105 : decode cX11_come 105 = .ok (.iinc 4 1, 3) := by decide +kernel
theorem dX11_come_108 : decode cX11_come 108 = .ok (.goto (-52), 3) := by decide +kernel
theorem dX11_come_111 : decode cX11_come 111 = .ok (.iconst 0, 1) := by decide +kernel
theorem dX11_come_112 : decode cX11_come 112 = .ok (.istore 4, 2) := by decide +kernel
theorem dX11_come_114 : decode cX11_come 114 = .ok (.iload 4, 2) := by decide +kernel
theorem dX11_come_116 : decode cX11_come 116 = .ok (.aload_n 0, 1) := by decide +kernel
theorem dX11_come_117 : decode cX11_come 117 = .ok (.getfield 44, 3) := by decide +kernel
theorem dX11_come_120 : decode cX11_come 120 = .ok (.iload_n 1, 1) := by decide +kernel
theorem dX11_come_121 : decode cX11_come 121 = .ok (.iaload, 1) := by decide +kernel
theorem dX11_come_122 : decode cX11_come 122 = .ok (.if_icmp .ge 91, 3) := by decide +kernel
theorem dX11_come_125 : decode cX11_come 125 = .ok (.sipush 150, 3) := by decide +kernel
theorem dX11_come_128 : decode cX11_come 128 = .ok (.iload_n 1, 1) := by decide +kernel
theorem dX11_come_129 : decode cX11_come 129 = .ok (.imul, 1) := by decide +kernel
theorem dX11_come_130 : decode cX11_come 130 = .ok (.iload 4, 2) := by decide +kernel
theorem dX11_come_132 : decode cX11_come 132 = .ok (.iadd, 1) := by decide +kernel
theorem dX11_come_133 : decode cX11_come 133 = .ok (.istore 5, 2) := by decide +kernel
theorem dX11_come_135 : decode cX11_come 135 = .ok (.aload_n 0, 1) := by decide +kernel
theorem dX11_come_136 : decode cX11_come 136 = .ok (.getfield 53, 3) := by decide +kernel
theorem dX11_come_139 : decode cX11_come 139 = .ok (.iload 5, 2) := by decide +kernel
theorem dX11_come_141 : decode cX11_come 141 = .ok (.iaload, 1) := by decide +kernel
theorem dX11_come_142 : decode cX11_come 142 = .ok (.iconst (-1), 1) := by decide +kernel
theorem dX11_come_143 : decode cX11_come 143 = .ok (.if_icmp .eq 28, 3) := by decide +kernel
theorem dX11_come_146 : decode cX11_come 146 = .ok (.aload_n 0, 1) := by decide +kernel
theorem dX11_come_147 : decode cX11_come 147 = .ok (.getfield 56, 3) := by decide +kernel
theorem dX11_come_150 : decode cX11_come 150 = .ok (.iload 5, 2) := by decide +kernel
theorem dX11_come_152 : decode cX11_come 152 = .ok (.iaload, 1) := by decide +kernel
theorem dX11_come_153 : decode cX11_come 153 = .ok (.ifCond .ne 18, 3) := by decide +kernel
theorem dX11_come_156 : decode cX11_come 156 = .ok (.aload_n 0, 1) := by decide +kernel
theorem dX11_come_157 : decode cX11_come 157 = .ok (.iload_n 3, 1) := by decide +kernel
theorem dX11_come_158 : decode cX11_come 158 = .ok (.aload_n 0, 1) := by decide +kernel
theorem dX11_come_159 : decode cX11_come 159 = .ok (.getfield 50, 3) := by decide +kernel
theorem dX11_come_162 : decode cX11_come 162 = .ok (.iload 5, 2) := by decide +kernel
theorem dX11_come_164 : decode cX11_come 164 = .ok (.iaload, 1) := by decide +kernel
theorem dX11_come_165 : decode cX11_come 165 = .ok (.invokevirtual 132, 3) := by decide +kernel
theorem dX11_come_168 : decode cX11_come 168 = .ok (.goto 39, 3) := by decide +kernel
theorem dX11_come_171 : decode cX11_come 171 = .ok (.aload_n 0, 1) := by decide +kernel
theorem dX11_come_172 : decode cX11_come 172 = .ok (.getfield 53, 3) := by decide +kernel
theorem dX11_come_175 : decode cX11_come 175 = .ok (.iload 5, 2) := by decide +kernel
theorem dX11_come_177 : decode cX11_come 177 = .ok (.iaload, 1) := by decide +kernel
theorem dX11_come_178 : decode cX11_come 178 = .ok (.iconst (-1), 1) := by decide +kernel
theorem dX11_come_179 : decode cX11_come 179 = .ok (.if_icmp .eq 28, 3) := by decide +kernel
theorem dX11_come_182 : decode cX11_come 182 = .ok (.aload_n 0, 1) := by decide +kernel
theorem dX11_come_183 : decode cX11_come 183 = .ok (.getfield 13, 3) := by decide +kernel
theorem dX11_come_186 : decode cX11_come 186 = .ok (.sipush 150, 3) := by decide +kernel
theorem dX11_come_189 : decode cX11_come 189 = .ok (.iload_n 3, 1) := by decide +kernel
theorem dX11_come_190 : decode cX11_come 190 = .ok (.imul, 1) := by decide +kernel
theorem dX11_come_191 : decode cX11_come 191 = .ok (.aload_n 0, 1) := by decide +kernel
theorem dX11_come_192 : decode cX11_come 192 = .ok (.getfield 50, 3) := by decide +kernel
theorem dX11_come_195 : decode cX11_come 195 = .ok (.iload 5, 2) := by decide +kernel
theorem dX11_come_197 : decode cX11_come 197 = .ok (.iaload, 1) := by decide +kernel
theorem dX11_come_198 : decode cX11_come 198 = .ok (.iadd, 1) := by decide +kernel
theorem dX11_come_199 : decode cX11_come 199 = .ok (.aload_n 0, 1) := by decide +kernel
theorem dX11_come_200 : decode cX11_come 200 = .ok (.getfield 56, 3) := by decide +kernel
theorem dX11_come_203 : decode cX11_come 203 = .ok (.iload 5, 2) := by decide +kernel
theorem dX11_come_205 : decode cX11_come 205 = .ok (.iaload, 1) := by decide +kernel
theorem dX11_come_206 : decode cX11_come 206 = .ok (.iastore, 1) := by decide +kernel
theorem dX11_come_207 : decode cX11_come 207 = .ok (.iinc 4 1, 3) := by decide +kernel
theorem dX11_come_210 : decode cX11_come 210 = .ok (.goto (-96), 3) := by decide +kernel
theorem dX11_come_213 : decode cX11_come 213 = .ok (.aload_n 0, 1) := by decide +kernel
theorem dX11_come_214 : decode cX11_come 214 = .ok (.getfield 44, 3) := by decide +kernel
theorem dX11_come_217 : decode cX11_come 217 = .ok (.iload_n 1, 1) := by decide +kernel
theorem dX11_come_218 : decode cX11_come 218 = .ok (.iaload, 1) := by decide +kernel
theorem dX11_come_219 : decode cX11_come 219 = .ok (.aload_n 0, 1) := by decide +kernel
theorem dX11_come_220 : decode cX11_come 220 = .ok (.getfield 47, 3) := by decide +kernel
theorem dX11_come_223 : decode cX11_come 223 = .ok (.iload_n 1, 1) := by decide +kernel
theorem dX11_come_224 : decode cX11_come 224 = .ok (.iaload, 1) := by decide +kernel
theorem dX11_come_225 : decode cX11_come 225 = .ok (.isub, 1) := by decide +kernel
theorem dX11_come_226 : decode cX11_come 226 = .ok (.istore 4, 2) := by decide +kernel
theorem dX11_come_228 : decode cX11_come 228 = .ok (.aload_n 0, 1) := by decide +kernel
theorem dX11_come_229 : decode cX11_come 229 = .ok (.getfield 23, 3) := by decide +kernel
theorem dX11_come_232 : decode cX11_come 232 = .ok (.iload_n 3, 1) := by decide +kernel
theorem dX11_come_233 : decode cX11_come 233 = .ok (.dup2, 1) := by decide +kernel
theorem dX11_come_234 : decode cX11_come 234 = .ok (.iaload, 1) := by decide +kernel
theorem dX11_come_235 : decode cX11_come 235 = .ok (.iload 4, 2) := by decide +kernel
theorem dX11_come_237 : decode cX11_come 237 = .ok (.ifCond .le 7, 3) := by decide +kernel
theorem dX11_come_240 : decode cX11_come 240 = .ok (.iconst 1, 1) := by decide +kernel
theorem dX11_come_241 : decode cX11_come 241 = .ok (.goto 4, 3) := by decide +kernel
theorem dX11_come_244 : decode cX11_come 244 = .ok (.iconst 0, 1) := by decide +kernel
theorem dX11_come_245 : decode cX11_come 245 = .ok (.iadd, 1) := by decide +kernel
theorem dX11_come_246 : decode cX11_come 246 = .ok (.iastore, 1) := by decide +kernel
theorem dX11_come_247 : decode cX11_come 247 = .ok (.aload_n 0, 1) := by decide +kernel
theorem dX11_come_248 : decode cX11_come 248 = .ok (.getfield 41, 3) := by decide +kernel
theorem dX11_come_251 : decode cX11_come 251 = .ok (.iload_n 1, 1) := by decide +kernel
theorem dX11_come_252 : decode cX11_come 252 = .ok (.iconst 1, 1) := by decide +kernel
theorem dX11_come_253 : decode cX11_come 253 = .ok (.iastore, 1) := by decide +kernel
theorem dX11_come_254 : decode cX11_come 254 = .ok (.iload 4, 2) := by decide +kernel
theorem dX11_come_256 : decode cX11_come 256 = .ok (.ireturn, 1) := by decide +kernel
theorem dX11_drop_0 : decode cX11_drop 0 = .ok (.aload_n 0, 1) := by decide +kernel
theorem dX11_drop_1 : decode cX11_drop 1 = .ok (.iload_n 1, 1) := by decide +kernel
theorem dX11_drop_2 : decode cX11_drop 2 = .ok (.invokevirtual 177, 3) := by decide +kernel
theorem dX11_drop_5 : decode cX11_drop 5 = .ok (.istore_n 2, 1) := by decide +kernel
theorem dX11_drop_6 : decode cX11_drop 6 = .ok (.aload_n 0, 1) := by decide +kernel
theorem dX11_drop_7 : decode cX11_drop 7 = .ok (.iload_n 2, 1) := by decide +kernel
theorem dX11_drop_8 : decode cX11_drop 8 = .ok (.iload_n 2, 1) := by decide +kernel
theorem dX11_drop_9 : decode cX11_drop 9 = .ok (.ifCond .eq 16, 3) := by decide +kernel
theorem dX11_drop_12 : decode cX11_drop 12 = .ok (.aload_n 0, 1) := by decide +kernel
theorem dX11_drop_13 : decode cX11_drop 13 = .ok (.getfield 41, 3) := by decide +kernel
theorem dX11_drop_16 : decode cX11_drop 16 = .ok (.iload_n 1, 1) := by decide +kernel
theorem dX11_drop_17 : decode cX11_drop 17 = .ok (.iaload, 1) := by decide +kernel
theorem dX11_drop_18 : decode cX11_drop 18 = .ok (.ifCond .ne 7, 3) := by decide +kernel
theorem dX11_drop_21 : decode cX11_drop 21 = .ok (.iconst 1, 1) := by decide +kernel
theorem dX11_drop_22 : decode cX11_drop 22 = .ok (.goto 4, 3) := by decide +kernel
theorem dX11_drop_25 : decode cX11_drop 25 = .ok (.iconst 0, 1) := by decide +kernel
theorem dX11_drop_26 : decode cX11_drop 26 = .ok (.iconst 1, 1) := by decide +kernel
theorem dX11_drop_27 : decode cX11_drop 27 = .ok (.invokevirtual 117, 3) := by decide +kernel
theorem dX11_drop_30 : decode cX11_drop 30 = .ok (.ifCond .ne 5, 3) := by decide +kernel
theorem dX11_drop_33 : decode cX11_drop 33 = .ok (.iconst 0, 1) := by decide +kernel
theorem dX11_drop_34 : decode cX11_drop 34 = .ok (.ireturn, 1) := by decide +kernel
theorem dX11_drop_35 : decode cX11_drop 35 = .ok (.aload_n 0, 1) := by decide +kernel
theorem dX11_drop_36 : decode cX11_drop 36 = .ok (.getfield 41, 3) := by decide +kernel
theorem dX11_drop_39 : decode cX11_drop 39 = .ok (.iload_n 1, 1) := by decide +kernel
theorem dX11_drop_40 : decode cX11_drop 40 = .ok (.iconst 2, 1) := by decide +kernel
theorem dX11_drop_41 : decode cX11_drop 41 = .ok (.iastore, 1) := by decide +kernel
theorem dX11_drop_42 : decode cX11_drop 42 = .ok (.aload_n 0, 1) := by decide +kernel
theorem dX11_drop_43 : decode cX11_drop 43 = .ok (.getfield 44, 3) := by decide +kernel
theorem dX11_drop_46 : decode cX11_drop 46 = .ok (.iload_n 1, 1) := by decide +kernel
theorem dX11_drop_47 : decode cX11_drop 47 = .ok (.iaload, 1) := by decide +kernel
theorem dX11_drop_48 : decode cX11_drop 48 = .ok (.ireturn, 1) := by decide +kernel
theorem dX11_state_0 : decode cX11_state 0 = .ok (.aload_n 0, 1) := by decide +kernel
theorem dX11_state_1 : decode cX11_state 1 = .ok (.aload_n 0, 1) := by decide +kernel
theorem dX11_state_2 : decode cX11_state 2 = .ok (.iload_n 1, 1) := by decide +kernel
theorem dX11_state_3 : decode cX11_state 3 = .ok (.invokevirtual 177, 3) := by decide +kernel
theorem dX11_state_6 : decode cX11_state 6 = .ok (.iconst 1, 1) := by decide +kernel
theorem dX11_state_7 : decode cX11_state 7 = .ok (.iconst 1, 1) := by decide +kernel
theorem dX11_state_8 : decode cX11_state 8 = .ok (.invokevirtual 117, 3) := by decide +kernel
theorem dX11_state_11 : decode cX11_state 11 = .ok (.ifCond .eq 12, 3) := by decide +kernel
theorem dX11_state_14 : decode cX11_state 14 = .ok (.aload_n 0, 1) := by decide +kernel
theorem dX11_state_15 : decode cX11_state 15 = .ok (.getfield 41, 3) := by decide +kernel
theorem dX11_state_18 : decode cX11_state 18 = .ok (.iload_n 1, 1) := by decide +kernel
theorem dX11_state_19 : decode cX11_state 19 = .ok (.iaload, 1) := by decide +kernel
theorem dX11_state_20 : decode cX11_state 20 = .ok (.goto 4, 3) := by decide +kernel
theorem dX11_state_23 : decode cX11_state 23 = .ok (.iconst 0, 1) := by decide +kernel
theorem dX11_state_24 : decode cX11_state 24 = .ok (.ireturn, 1) := by decide +kernel
theorem dX11_spared_0 : decode cX11_spared 0 = .ok (.aload_n 0, 1) := by decide +kernel
theorem dX11_spared_1 : decode cX11_spared 1 = .ok (.aload_n 0, 1) := by decide +kernel
theorem dX11_spared_2 : decode cX11_spared 2 = .ok (.iload_n 1, 1) := by decide +kernel
theorem dX11_spared_3 : decode cX11_spared 3 = .ok (.invokevirtual 177, 3) := by decide +kernel
theorem dX11_spared_6 : decode cX11_spared 6 = .ok (.iconst 1, 1) := by decide +kernel
theorem dX11_spared_7 : decode cX11_spared 7 = .ok (.iconst 1, 1) := by decide +kernel
theorem dX11_spared_8 : decode cX11_spared 8 = .ok (.invokevirtual 117, 3) := by decide +kernel
theorem dX11_spared_11 : decode cX11_spared 11 = .ok (.ifCond .ne 5, 3) := by decide +kernel
theorem dX11_spared_14 : decode cX11_spared 14 = .ok (.iconst 0, 1) := by decide +kernel
theorem dX11_spared_15 : decode cX11_spared 15 = .ok (.ireturn, 1) := by decide +kernel
theorem dX11_spared_16 : decode cX11_spared 16 = .ok (.aload_n 0, 1) := by decide +kernel
theorem dX11_spared_17 : decode cX11_spared 17 = .ok (.getfield 41, 3) := by decide +kernel
theorem dX11_spared_20 : decode cX11_spared 20 = .ok (.iload_n 1, 1) := by decide +kernel
theorem dX11_spared_21 : decode cX11_spared 21 = .ok (.iaload, 1) := by decide +kernel
theorem dX11_spared_22 : decode cX11_spared 22 = .ok (.ifCond .ne 11, 3) := by decide +kernel
theorem dX11_spared_25 : decode cX11_spared 25 = .ok (.aload_n 0, 1) := by decide +kernel
theorem dX11_spared_26 : decode cX11_spared 26 = .ok (.iload_n 1, 1) := by decide +kernel
theorem dX11_spared_27 : decode cX11_spared 27 = .ok (.invokevirtual 180, 3) := by decide +kernel
theorem dX11_spared_30 : decode cX11_spared 30 = .ok (.goto 28, 3) := by decide +kernel
theorem dX11_spared_33 : decode cX11_spared 33 = .ok (.aload_n 0, 1) := by decide +kernel
theorem dX11_spared_34 : decode cX11_spared 34 = .ok (.getfield 41, 3) := by decide +kernel
theorem dX11_spared_37 : decode cX11_spared 37 = .ok (.iload_n 1, 1) := by decide +kernel
theorem dX11_spared_38 : decode cX11_spared 38 = .ok (.iaload, 1) := by decide +kernel
theorem dX11_spared_39 : decode cX11_spared 39 = .ok (.iconst 1, 1) := by decide +kernel
theorem dX11_spared_40 : decode cX11_spared 40 = .ok (.if_icmp .ne 12, 3) := by decide +kernel
theorem dX11_spared_43 : decode cX11_spared 43 = .ok (.aload_n 0, 1) := by decide +kernel
theorem dX11_spared_44 : decode cX11_spared 44 = .ok (.getfield 47, 3) := by decide +kernel
theorem dX11_spared_47 : decode cX11_spared 47 = .ok (.iload_n 1, 1) := by decide +kernel
theorem dX11_spared_48 : decode cX11_spared 48 = .ok (.iaload, 1) := by decide +kernel
theorem dX11_spared_49 : decode cX11_spared 49 = .ok (.goto 9, 3) := by decide +kernel
theorem dX11_spared_52 : decode cX11_spared 52 = .ok (.aload_n 0, 1) := by decide +kernel
theorem dX11_spared_53 : decode cX11_spared 53 = .ok (.getfield 44, 3) := by decide +kernel
theorem dX11_spared_56 : decode cX11_spared 56 = .ok (.iload_n 1, 1) := by decide +kernel
theorem dX11_spared_57 : decode cX11_spared 57 = .ok (.iaload, 1) := by decide +kernel
theorem dX11_spared_58 : decode cX11_spared 58 = .ok (.ireturn, 1) := by decide +kernel
theorem dX11_lock_0 : decode cX11_lock 0 = .ok (.iload_n 1, 1) := by decide +kernel
theorem dX11_lock_1 : decode cX11_lock 1 = .ok (.iload_n 2, 1) := by decide +kernel
theorem dX11_lock_2 : decode cX11_lock 2 = .ok (.invokestatic 110, 3) := by decide +kernel
theorem dX11_lock_5 : decode cX11_lock 5 = .ok (.istore_n 3, 1) := by decide +kernel
theorem dX11_lock_6 : decode cX11_lock 6 = .ok (.aload_n 0, 1) := by decide +kernel
theorem dX11_lock_7 : decode cX11_lock 7 = .ok (.iload_n 3, 1) := by decide +kernel
theorem dX11_lock_8 : decode cX11_lock 8 = .ok (.iload_n 3, 1) := by decide +kernel
theorem dX11_lock_9 : decode cX11_lock 9 = .ok (.ifCond .eq 27, 3) := by decide +kernel
theorem dX11_lock_12 : decode cX11_lock 12 = .ok (.aload_n 0, 1) := by decide +kernel
theorem dX11_lock_13 : decode cX11_lock 13 = .ok (.getfield 77, 3) := by decide +kernel
theorem dX11_lock_16 : decode cX11_lock 16 = .ok (.iload_n 2, 1) := by decide +kernel
theorem dX11_lock_17 : decode cX11_lock 17 = .ok (.iaload, 1) := by decide +kernel
theorem dX11_lock_18 : decode cX11_lock 18 = .ok (.iconst (-1), 1) := by decide +kernel
theorem dX11_lock_19 : decode cX11_lock 19 = .ok (.if_icmp .eq 13, 3) := by decide +kernel
theorem dX11_lock_22 : decode cX11_lock 22 = .ok (.aload_n 0, 1) := by decide +kernel
theorem dX11_lock_23 : decode cX11_lock 23 = .ok (.getfield 77, 3) := by decide +kernel
theorem dX11_lock_26 : decode cX11_lock 26 = .ok (.iload_n 2, 1) := by decide +kernel
theorem dX11_lock_27 : decode cX11_lock 27 = .ok (.iaload, 1) := by decide +kernel
theorem dX11_lock_28 : decode cX11_lock 28 = .ok (.iload_n 1, 1) := by decide +kernel
theorem dX11_lock_29 : decode cX11_lock 29 = .ok (.if_icmp .ne 7, 3) := by decide +kernel
theorem dX11_lock_32 : decode cX11_lock 32 = .ok (.iconst 1, 1) := by decide +kernel
theorem dX11_lock_33 : decode cX11_lock 33 = .ok (.goto 4, 3) := by decide +kernel
theorem dX11_lock_36 : decode cX11_lock 36 = .ok (.iconst 0, 1) := by decide +kernel
theorem dX11_lock_37 : decode cX11_lock 37 = .ok (.iconst 1, 1) := by decide +kernel
theorem dX11_lock_38 : decode cX11_lock 38 = .ok (.invokevirtual 117, 3) := by decide +kernel
theorem dX11_lock_41 : decode cX11_lock 41 = .ok (.ifCond .ne 5, 3) := by decide +kernel
theorem dX11_lock_44 : decode cX11_lock 44 = .ok (.iconst 0, 1) := by decide +kernel
theorem dX11_lock_45 : decode cX11_lock 45 = .ok (.ireturn, 1) := by decide +kernel
theorem dX11_lock_46 : decode cX11_lock 46 = .ok (.aload_n 0, 1) := by decide +kernel
theorem dX11_lock_47 : decode cX11_lock 47 = .ok (.getfield 77, 3) := by decide +kernel
theorem dX11_lock_50 : decode cX11_lock 50 = .ok (.iload_n 2, 1) := by decide +kernel
theorem dX11_lock_51 : decode cX11_lock 51 = .ok (.aload_n 0, 1) := by decide +kernel
theorem dX11_lock_52 : decode cX11_lock 52 = .ok (.getfield 77, 3) := by decide +kernel
theorem dX11_lock_55 : decode cX11_lock 55 = .ok (.iload_n 2, 1) := by decide +kernel
theorem dX11_lock_56 : decode cX11_lock 56 = .ok (.iaload, 1) := by decide +kernel
theorem dX11_lock_57 : decode cX11_lock 57 = .ok (.iconst (-1), 1) := by decide +kernel
theorem dX11_lock_58 : decode cX11_lock 58 = .ok (.if_icmp .ne 7, 3) := by decide +kernel
theorem dX11_lock_61 : decode cX11_lock 61 = .ok (.iload_n 1, 1) := by decide +kernel
theorem dX11_lock_62 : decode cX11_lock 62 = .ok (.goto 4, 3) := by decide +kernel
theorem dX11_lock_65 : decode cX11_lock 65 = .ok (.iconst (-1), 1) := by decide +kernel
theorem dX11_lock_66 : decode cX11_lock 66 = .ok (.iastore, 1) := by decide +kernel
theorem dX11_lock_67 : decode cX11_lock 67 = .ok (.aload_n 0, 1) := by decide +kernel
theorem dX11_lock_68 : decode cX11_lock 68 = .ok (.getfield 77, 3) := by decide +kernel
theorem dX11_lock_71 : decode cX11_lock 71 = .ok (.iload_n 2, 1) := by decide +kernel
theorem dX11_lock_72 : decode cX11_lock 72 = .ok (.iaload, 1) := by decide +kernel
theorem dX11_lock_73 : decode cX11_lock 73 = .ok (.iconst (-1), 1) := by decide +kernel
theorem dX11_lock_74 : decode cX11_lock 74 = .ok (.if_icmp .eq 7, 3) := by decide +kernel
theorem dX11_lock_77 : decode cX11_lock 77 = .ok (.iconst 1, 1) := by decide +kernel
theorem dX11_lock_78 : decode cX11_lock 78 = .ok (.goto 4, 3) := by decide +kernel
theorem dX11_lock_81 : decode cX11_lock 81 = .ok (.iconst 0, 1) := by decide +kernel
theorem dX11_lock_82 : decode cX11_lock 82 = .ok (.ireturn, 1) := by decide +kernel
theorem dX11_save_0 : decode cX11_save 0 = .ok (.iload_n 1, 1) := by decide +kernel
theorem dX11_save_1 : decode cX11_save 1 = .ok (.iload_n 2, 1) := by decide +kernel
theorem dX11_save_2 : decode cX11_save 2 = .ok (.invokestatic 110, 3) := by decide +kernel
theorem dX11_save_5 : decode cX11_save 5 = .ok (.ifCond .eq 20, 3) := by decide +kernel
theorem dX11_save_8 : decode cX11_save 8 = .ok (.iload_n 3, 1) := by decide +kernel
theorem dX11_save_9 : decode cX11_save 9 = .ok (.iconst (-1), 1) := by decide +kernel
theorem dX11_save_10 : decode cX11_save 10 = .ok (.if_icmp .eq 11, 3) := by decide +kernel
theorem dX11_save_13 : decode cX11_save 13 = .ok (.aload_n 0, 1) := by decide +kernel
theorem dX11_save_14 : decode cX11_save 14 = .ok (.iload_n 3, 1) := by decide +kernel
theorem dX11_save_15 : decode cX11_save 15 = .ok (.invokevirtual 177, 3) := by decide +kernel
theorem dX11_save_18 : decode cX11_save 18 = .ok (.ifCond .eq 7, 3) := by decide +kernel
theorem dX11_save_21 : decode cX11_save 21 = .ok (.iconst 1, 1) := by decide +kernel
theorem dX11_save_22 : decode cX11_save 22 = .ok (.goto 4, 3) := by decide +kernel
theorem dX11_save_25 : decode cX11_save 25 = .ok (.iconst 0, 1) := by decide +kernel
theorem dX11_save_26 : decode cX11_save 26 = .ok (.istore 4, 2) := by decide +kernel
theorem dX11_save_28 : decode cX11_save 28 = .ok (.aload_n 0, 1) := by decide +kernel
theorem dX11_save_29 : decode cX11_save 29 = .ok (.iload 4, 2) := by decide +kernel
theorem dX11_save_31 : decode cX11_save 31 = .ok (.iload 4, 2) := by decide +kernel
theorem dX11_save_33 : decode cX11_save 33 = .ok (.ifCond .eq 22, 3) := by decide +kernel
theorem dX11_save_36 : decode cX11_save 36 = .ok (.iload_n 3, 1) := by decide +kernel
theorem dX11_save_37 : decode cX11_save 37 = .ok (.iconst (-1), 1) := by decide +kernel
theorem dX11_save_38 : decode cX11_save 38 = .ok (.if_icmp .eq 13, 3) := by decide +kernel
theorem dX11_save_41 : decode cX11_save 41 = .ok (.aload_n 0, 1) := by decide +kernel
theorem dX11_save_42 : decode cX11_save 42 = .ok (.getfield 38, 3) := by decide +kernel
theorem dX11_save_45 : decode cX11_save 45 = .ok (.iload_n 3, 1) := by decide +kernel
theorem dX11_save_46 : decode cX11_save 46 = .ok (.iaload, 1) := by decide +kernel
theorem dX11_save_47 : decode cX11_save 47 = .ok (.iload_n 2, 1) := by decide +kernel
theorem dX11_save_48 : decode cX11_save 48 = .ok (.if_icmp .ne 7, 3) := by decide +kernel
theorem dX11_save_51 : decode cX11_save 51 = .ok (.iconst 1, 1) := by decide +kernel
theorem dX11_save_52 : decode cX11_save 52 = .ok (.goto 4, 3) := by decide +kernel
theorem dX11_save_55 : decode cX11_save 55 = .ok (.iconst 0, 1) := by decide +kernel
theorem dX11_save_56 : decode cX11_save 56 = .ok (.aload_n 0, 1) := by decide +kernel
theorem dX11_save_57 : decode cX11_save 57 = .ok (.getfield 184, 3) := by decide +kernel
theorem dX11_save_60 : decode cX11_save 60 = .ok (.bipush 60, 2) := by decide +kernel
theorem dX11_save_62 : decode cX11_save 62 = .ok (.if_icmp .ge 7, 3) := by decide +kernel
theorem dX11_save_65 : decode cX11_save 65 = .ok (.iconst 1, 1) := by decide +kernel
theorem dX11_save_66 : decode cX11_save 66 = .ok (.goto 4, 3) := by decide +kernel
theorem dX11_save_69 : decode cX11_save 69 = .ok (.iconst 0, 1) := by decide +kernel
theorem dX11_save_70 : decode cX11_save 70 = .ok (.invokevirtual 117, 3) := by decide +kernel
theorem dX11_save_73 : decode cX11_save 73 = .ok (.ifCond .ne 5, 3) := by decide +kernel
theorem dX11_save_76 : decode cX11_save 76 = .ok (.iconst 0, 1) := by decide +kernel
theorem dX11_save_77 : decode cX11_save 77 = .ok (.ireturn, 1) := by decide +kernel
theorem dX11_save_78 : decode cX11_save 78 = .ok (.aload_n 0, 1) := by decide +kernel
theorem dX11_save_79 : decode cX11_save 79 = .ok (.getfield 65, 3) := by decide +kernel
theorem dX11_save_82 : decode cX11_save 82 = .ok (.aload_n 0, 1) := by decide +kernel
theorem dX11_save_83 : decode cX11_save 83 = .ok (.getfield 184, 3) := by decide +kernel
theorem dX11_save_86 : decode cX11_save 86 = .ok (.iload_n 1, 1) := by decide +kernel
theorem dX11_save_87 : decode cX11_save 87 = .ok (.iastore, 1) := by decide +kernel
theorem dX11_save_88 : decode cX11_save 88 = .ok (.aload_n 0, 1) := by decide +kernel
theorem dX11_save_89 : decode cX11_save 89 = .ok (.getfield 68, 3) := by decide +kernel
theorem dX11_save_92 : decode cX11_save 92 = .ok (.aload_n 0, 1) := by decide +kernel
theorem dX11_save_93 : decode cX11_save 93 = .ok (.getfield 184, 3) := by decide +kernel
theorem dX11_save_96 : decode cX11_save 96 = .ok (.iload_n 2, 1) := by decide +kernel
theorem dX11_save_97 : decode cX11_save 97 = .ok (.iastore, 1) := by decide +kernel
theorem dX11_save_98 : decode cX11_save 98 = .ok (.aload_n 0, 1) := by decide +kernel
theorem dX11_save_99 : decode cX11_save 99 = .ok (.getfield 71, 3) := by decide +kernel
theorem dX11_save_102 : decode cX11_save 102 = .ok (.aload_n 0, 1) := by decide +kernel
theorem dX11_save_103 : decode cX11_save 103 = .ok (.getfield 184, 3) := by decide +kernel
theorem dX11_save_106 : decode cX11_save 106 = .ok (.iload_n 3, 1) := by decide +kernel
theorem dX11_save_107 : decode cX11_save 107 = .ok (.iastore, 1) := by decide +kernel
theorem dX11_save_108 : decode cX11_save 108 = .ok (.aload_n 0, 1) := by decide +kernel
theorem dX11_save_109 : decode cX11_save 109 = .ok (.dup, 1) := by decide +kernel
theorem dX11_save_110 : decode cX11_save 110 = .ok (.getfield 184, 3) := by decide +kernel
theorem dX11_save_113 : decode cX11_save 113 = .ok (.iconst 1, 1) := by decide +kernel
theorem dX11_save_114 : decode cX11_save 114 = .ok (.iadd, 1) := by decide +kernel
theorem dX11_save_115 : decode cX11_save 115 = .ok (.putfield 184, 3) := by decide +kernel
theorem dX11_save_118 : decode cX11_save 118 = .ok (.aload_n 0, 1) := by decide +kernel
theorem dX11_save_119 : decode cX11_save 119 = .ok (.getfield 184, 3) := by decide +kernel
theorem dX11_save_122 : decode cX11_save 122 = .ok (.iconst 1, 1) := by decide +kernel
theorem dX11_save_123 : decode cX11_save 123 = .ok (.isub, 1) := by decide +kernel
theorem dX11_save_124 : decode cX11_save 124 = .ok (.ireturn, 1) := by decide +kernel
theorem dX11_canWrite_0 : decode cX11_canWrite 0 = .ok (.aload_n 0, 1) := by decide +kernel
theorem dX11_canWrite_1 : decode cX11_canWrite 1 = .ok (.getfield 68, 3) := by decide +kernel
theorem dX11_canWrite_4 : decode cX11_canWrite 4 = .ok (.iload_n 1, 1) := by decide +kernel
theorem dX11_canWrite_5 : decode cX11_canWrite 5 = .ok (.iaload, 1) := by decide +kernel
theorem dX11_canWrite_6 : decode cX11_canWrite 6 = .ok (.istore_n 2, 1) := by decide +kernel
theorem dX11_canWrite_7 : decode cX11_canWrite 7 = .ok (.aload_n 0, 1) := by decide +kernel
theorem dX11_canWrite_8 : decode cX11_canWrite 8 = .ok (.getfield 74, 3) := by decide +kernel
theorem dX11_canWrite_11 : decode cX11_canWrite 11 = .ok (.iload_n 1, 1) := by decide +kernel
theorem dX11_canWrite_12 : decode cX11_canWrite 12 = .ok (.baload, 1) := by decide +kernel
theorem dX11_canWrite_13 : decode cX11_canWrite 13 = .ok (.ifCond .ne 56, 3) := by decide +kernel
theorem dX11_canWrite_16 : decode cX11_canWrite 16 = .ok (.aload_n 0, 1) := by decide +kernel
theorem dX11_canWrite_17 : decode cX11_canWrite 17 = .ok (.getfield 71, 3) := by decide +kernel
theorem dX11_canWrite_20 : decode cX11_canWrite 20 = .ok (.iload_n 1, 1) := by decide +kernel
theorem dX11_canWrite_21 : decode cX11_canWrite 21 = .ok (.iaload, 1) := by decide +kernel
theorem dX11_canWrite_22 : decode cX11_canWrite 22 = .ok (.iconst (-1), 1) := by decide +kernel
theorem dX11_canWrite_23 : decode cX11_canWrite 23 = .ok (.if_icmp .eq 17, 3) := by decide +kernel
theorem dX11_canWrite_26 : decode cX11_canWrite 26 = .ok (.aload_n 0, 1) := by decide +kernel
theorem dX11_canWrite_27 : decode cX11_canWrite 27 = .ok (.getfield 41, 3) := by decide +kernel
theorem dX11_canWrite_30 : decode cX11_canWrite 30 = .ok (.aload_n 0, 1) := by decide +kernel
theorem dX11_canWrite_31 : decode cX11_canWrite 31 = .ok (.getfield 71, 3) := by decide +kernel
theorem dX11_canWrite_34 : decode cX11_canWrite 34 = .ok (.iload_n 1, 1) := by decide +kernel
theorem dX11_canWrite_35 : decode cX11_canWrite 35 = .ok (.iaload, 1) := by decide +kernel
theorem dX11_canWrite_36 : decode cX11_canWrite 36 = .ok (.iaload, 1) := by decide +kernel
theorem dX11_canWrite_37 : decode cX11_canWrite 37 = .ok (.ifCond .eq 32, 3) := by decide +kernel
theorem dX11_canWrite_40 : decode cX11_canWrite 40 = .ok (.aload_n 0, 1) := by decide +kernel
theorem dX11_canWrite_41 : decode cX11_canWrite 41 = .ok (.getfield 77, 3) := by decide +kernel
theorem dX11_canWrite_44 : decode cX11_canWrite 44 = .ok (.iload_n 2, 1) := by decide +kernel
theorem dX11_canWrite_45 : decode cX11_canWrite 45 = .ok (.iaload, 1) := by decide +kernel
theorem dX11_canWrite_46 : decode cX11_canWrite 46 = .ok (.iconst (-1), 1) := by decide +kernel
theorem dX11_canWrite_47 : decode cX11_canWrite 47 = .ok (.if_icmp .eq 18, 3) := by decide +kernel
theorem dX11_canWrite_50 : decode cX11_canWrite 50 = .ok (.aload_n 0, 1) := by decide +kernel
theorem dX11_canWrite_51 : decode cX11_canWrite 51 = .ok (.getfield 77, 3) := by decide +kernel
theorem dX11_canWrite_54 : decode cX11_canWrite 54 = .ok (.iload_n 2, 1) := by decide +kernel
theorem dX11_canWrite_55 : decode cX11_canWrite 55 = .ok (.iaload, 1) := by decide +kernel
theorem dX11_canWrite_56 : decode cX11_canWrite 56 = .ok (.aload_n 0, 1) := by decide +kernel
theorem dX11_canWrite_57 : decode cX11_canWrite 57 = .ok (.getfield 65, 3) := by decide +kernel
theorem dX11_canWrite_60 : decode cX11_canWrite 60 = .ok (.iload_n 1, 1) := by decide +kernel
theorem dX11_canWrite_61 : decode cX11_canWrite 61 = .ok (.iaload, 1) := by decide +kernel
theorem dX11_canWrite_62 : decode cX11_canWrite 62 = .ok (.if_icmp .ne 7, 3) := by decide +kernel
theorem dX11_canWrite_65 : decode cX11_canWrite 65 = .ok (.iconst 1, 1) := by decide +kernel
theorem dX11_canWrite_66 : decode cX11_canWrite 66 = .ok (.goto 4, 3) := by decide +kernel
theorem dX11_canWrite_69 : decode cX11_canWrite 69 = .ok (.iconst 0, 1) := by decide +kernel
theorem dX11_canWrite_70 : decode cX11_canWrite 70 = .ok (.istore_n 3, 1) := by decide +kernel
theorem dX11_canWrite_71 : decode cX11_canWrite 71 = .ok (.iconst 0, 1) := by decide +kernel
theorem dX11_canWrite_72 : decode cX11_canWrite 72 = .ok (.istore 4, 2) := by decide +kernel
theorem dX11_canWrite_74 : decode cX11_canWrite 74 = .ok (.iload 4, 2) := by decide +kernel
theorem dX11_canWrite_76 : decode cX11_canWrite 76 = .ok (.iload_n 1, 1) := by decide +kernel
theorem dX11_canWrite_77 : decode cX11_canWrite 77 = .ok (.if_icmp .ge 40, 3) := by decide +kernel
theorem dX11_canWrite_80 : decode cX11_canWrite 80 = .ok (.iload_n 3, 1) := by decide +kernel
theorem dX11_canWrite_81 : decode cX11_canWrite 81 = .ok (.ifCond .eq 28, 3) := by decide +kernel
theorem dX11_canWrite_84 : decode cX11_canWrite 84 = .ok (.aload_n 0, 1) := by decide +kernel
theorem dX11_canWrite_85 : decode cX11_canWrite 85 = .ok (.getfield 74, 3) := by decide +kernel
theorem dX11_canWrite_88 : decode cX11_canWrite 88 = .ok (.iload 4, 2) := by decide +kernel
theorem dX11_canWrite_90 : decode cX11_canWrite 90 = .ok (.baload, 1) := by decide +kernel
theorem dX11_canWrite_91 : decode cX11_canWrite 91 = .ok (.ifCond .ne 14, 3) := by decide +kernel
theorem dX11_canWrite_94 : decode cX11_canWrite 94 = .ok (.aload_n 0, 1) := by decide +kernel
theorem dX11_canWrite_95 : decode cX11_canWrite 95 = .ok (.getfield 68, 3) := by decide +kernel
theorem dX11_canWrite_98 : decode cX11_canWrite 98 = .ok (.iload 4, 2) := by decide +kernel
theorem dX11_canWrite_100 : decode cX11_canWrite 100 = .ok (.iaload, 1) := by decide +kernel
theorem dX11_canWrite_101 : decode cX11_canWrite 101 = .ok (.iload_n 2, 1) := by decide +kernel
theorem dX11_canWrite_102 : decode cX11_canWrite 102 = .ok (.if_icmp .eq 7, 3) := by decide +kernel
theorem dX11_canWrite_105 : decode cX11_canWrite 105 = .ok (.iconst 1, 1) := by decide +kernel
theorem dX11_canWrite_106 : decode cX11_canWrite 106 = .ok (.goto 4, 3) := by decide +kernel
theorem dX11_canWrite_109 : decode cX11_canWrite 109 = .ok (.iconst 0, 1) := by decide +kernel
theorem dX11_canWrite_110 : decode cX11_canWrite 110 = .ok (.istore_n 3, 1) := by decide +kernel
theorem dX11_canWrite_111 : decode cX11_canWrite 111 = .ok (.iinc 4 1, 3) := by decide +kernel
theorem dX11_canWrite_114 : decode cX11_canWrite 114 = .ok (.goto (-40), 3) := by decide +kernel
theorem dX11_canWrite_117 : decode cX11_canWrite 117 = .ok (.iload_n 3, 1) := by decide +kernel
theorem dX11_canWrite_118 : decode cX11_canWrite 118 = .ok (.ireturn, 1) := by decide +kernel
theorem dX11_write_0 : decode cX11_write 0 = .ok (.aload_n 0, 1) := by decide +kernel
theorem dX11_write_1 : decode cX11_write 1 = .ok (.iconst 0, 1) := by decide +kernel
theorem dX11_write_2 : decode cX11_write 2 = .ok (.putfield 95, 3) := by decide +kernel
theorem dX11_write_5 : decode cX11_write 5 = .ok (.iconst 0, 1) := by decide +kernel
theorem dX11_write_6 : decode cX11_write 6 = .ok (.istore_n 1, 1) := by decide +kernel
theorem dX11_write_7 : decode cX11_write 7 = .ok (.iload_n 1, 1) := by decide +kernel
theorem dX11_write_8 : decode cX11_write 8 = .ok (.aload_n 0, 1) := by decide +kernel
theorem dX11_write_9 : decode cX11_write 9 = .ok (.getfield 184, 3) := by decide +kernel
theorem dX11_write_12 : decode cX11_write 12 = .ok (.if_icmp .ge 17, 3) := by decide +kernel
theorem dX11_write_15 : decode cX11_write 15 = .ok (.aload_n 0, 1) := by decide +kernel
theorem dX11_write_16 : decode cX11_write 16 = .ok (.iload_n 1, 1) := by decide +kernel
theorem dX11_write_17 : decode cX11_write 17 = .ok (.invokevirtual 187, 3) := by decide +kernel
theorem dX11_write_20 : decode cX11_write 20 = .ok (.ifCond .ne 9, 3) := by decide +kernel
theorem dX11_write_23 : decode cX11_write 23 = .ok (.iinc 1 1, 3) := by decide +kernel
theorem dX11_write_26 : decode cX11_write 26 = .ok (.goto (-19), 3) := by decide +kernel
theorem dX11_write_29 : decode cX11_write 29 = .ok (.iload_n 1, 1) := by decide +kernel
theorem dX11_write_30 : decode cX11_write 30 = .ok (.aload_n 0, 1) := by decide +kernel
theorem dX11_write_31 : decode cX11_write 31 = .ok (.getfield 184, 3) := by decide +kernel
theorem dX11_write_34 : decode cX11_write 34 = .ok (.if_icmp .ne 5, 3) := by decide +kernel
theorem dX11_write_37 : decode cX11_write 37 = .ok (.iconst (-1), 1) := by decide +kernel
theorem dX11_write_38 : decode cX11_write 38 = .ok (.ireturn, 1) := by decide +kernel
theorem dX11_write_39 : decode cX11_write 39 = .ok (.aload_n 0, 1) := by decide +kernel
theorem dX11_write_40 : decode cX11_write 40 = .ok (.getfield 68, 3) := by decide +kernel
theorem dX11_write_43 : decode cX11_write 43 = .ok (.iload_n 1, 1) := by decide +kernel
theorem dX11_write_44 : decode cX11_write 44 = .ok (.iaload, 1) := by decide +kernel
theorem dX11_write_45 : decode cX11_write 45 = .ok (.istore_n 2, 1) := by decide +kernel
theorem dX11_write_46 : decode cX11_write 46 = .ok (.aload_n 0, 1) := by decide +kernel
theorem dX11_write_47 : decode cX11_write 47 = .ok (.getfield 74, 3) := by decide +kernel
theorem dX11_write_50 : decode cX11_write 50 = .ok (.iload_n 1, 1) := by decide +kernel
theorem dX11_write_51 : decode cX11_write 51 = .ok (.iconst 1, 1) := by decide +kernel
theorem dX11_write_52 : decode cX11_write 52 = .ok (.bastore, 1) := by decide +kernel
theorem dX11_write_53 : decode cX11_write 53 = .ok (.aload_n 0, 1) := by decide +kernel
theorem dX11_write_54 : decode cX11_write 54 = .ok (.iload_n 2, 1) := by decide +kernel
theorem dX11_write_55 : decode cX11_write 55 = .ok (.invokevirtual 128, 3) := by decide +kernel
theorem dX11_write_58 : decode cX11_write 58 = .ok (.aload_n 0, 1) := by decide +kernel
theorem dX11_write_59 : decode cX11_write 59 = .ok (.getfield 80, 3) := by decide +kernel
theorem dX11_write_62 : decode cX11_write 62 = .ok (.iload_n 2, 1) := by decide +kernel
theorem dX11_write_63 : decode cX11_write 63 = .ok (.aload_n 0, 1) := by decide +kernel
theorem dX11_write_64 : decode cX11_write 64 = .ok (.getfield 23, 3) := by decide +kernel
theorem dX11_write_67 : decode cX11_write 67 = .ok (.iload_n 2, 1) := by decide +kernel
theorem dX11_write_68 : decode cX11_write 68 = .ok (.iaload, 1) := by decide +kernel
theorem dX11_write_69 : decode cX11_write 69 = .ok (.iastore, 1) := by decide +kernel
theorem dX11_write_70 : decode cX11_write 70 = .ok (.aload_n 0, 1) := by decide +kernel
theorem dX11_write_71 : decode cX11_write 71 = .ok (.getfield 83, 3) := by decide +kernel
theorem dX11_write_74 : decode cX11_write 74 = .ok (.iload_n 2, 1) := by decide +kernel
theorem dX11_write_75 : decode cX11_write 75 = .ok (.aload_n 0, 1) := by decide +kernel
theorem dX11_write_76 : decode cX11_write 76 = .ok (.getfield 103, 3) := by decide +kernel
theorem dX11_write_79 : decode cX11_write 79 = .ok (.iastore, 1) := by decide +kernel
theorem dX11_write_80 : decode cX11_write 80 = .ok (.iconst 0, 1) := by decide +kernel
theorem dX11_write_81 : decode cX11_write 81 = .ok (.istore_n 3, 1) := by decide +kernel
theorem dX11_write_82 : decode cX11_write 82 = .ok (.iload_n 3, 1) := by decide +kernel
theorem dX11_write_83 : decode cX11_write 83 = .ok (.aload_n 0, 1) := by decide +kernel
theorem dX11_write_84 : decode cX11_write 84 = .ok (.getfield 103, 3) := by decide +kernel
theorem dX11_write_87 : decode cX11_write 87 = .ok (.if_icmp .ge 27, 3) := by decide +kernel
theorem dX11_write_90 : decode cX11_write 90 = .ok (.aload_n 0, 1) := by decide +kernel
theorem dX11_write_91 : decode cX11_write 91 = .ok (.getfield 86, 3) := by decide +kernel
theorem dX11_write_94 : decode cX11_write 94 = .ok (.sipush 150, 3) := by decide +kernel
theorem dX11_write_97 : decode cX11_write 97 = .ok (.iload_n 2, 1) := by decide +kernel
theorem dX11_write_98 : decode cX11_write 98 = .ok (.imul, 1) := by decide +kernel
theorem dX11_write_99 : decode cX11_write 99 = .ok (.iload_n 3, 1) := by decide +kernel
theorem dX11_write_100 : decode cX11_write 100 = .ok (.iadd, 1) := by decide +kernel
theorem dX11_write_101 : decode cX11_write 101 = .ok (.aload_n 0, 1) := by decide +kernel
theorem dX11_write_102 : decode cX11_write 102 = .ok (.iload_n 2, 1) := by decide +kernel
theorem dX11_write_103 : decode cX11_write 103 = .ok (.iload_n 3, 1) := by decide +kernel
theorem dX11_write_104 : decode cX11_write 104 = .ok (.invokevirtual 148, 3) := by decide +kernel
theorem dX11_write_107 : decode cX11_write 107 = .ok (.iastore, 1) := by decide +kernel
theorem dX11_write_108 : decode cX11_write 108 = .ok (.iinc 3 1, 3) := by decide +kernel
theorem dX11_write_111 : decode cX11_write 111 = .ok (.goto (-29), 3) := by decide +kernel
theorem dX11_write_114 : decode cX11_write 114 = .ok (.iload_n 1, 1) := by decide +kernel
theorem dX11_write_115 : decode cX11_write 115 = .ok (.ireturn, 1) := by decide +kernel
theorem dX11_queued_0 : decode cX11_queued 0 = .ok (.aload_n 0, 1) := by decide +kernel
theorem dX11_queued_1 : decode cX11_queued 1 = .ok (.iconst 0, 1) := by decide +kernel
theorem dX11_queued_2 : decode cX11_queued 2 = .ok (.putfield 95, 3) := by decide +kernel
theorem dX11_queued_5 : decode cX11_queued 5 = .ok (.iconst 0, 1) := by decide +kernel
theorem dX11_queued_6 : decode cX11_queued 6 = .ok (.istore_n 1, 1) := by decide +kernel
theorem dX11_queued_7 : decode cX11_queued 7 = .ok (.iconst 0, 1) := by decide +kernel
theorem dX11_queued_8 : decode cX11_queued 8 = .ok (.istore_n 2, 1) := by decide +kernel
theorem dX11_queued_9 : decode cX11_queued 9 = .ok (.iload_n 2, 1) := by decide +kernel
theorem dX11_queued_10 : decode cX11_queued 10 = .ok (.aload_n 0, 1) := by decide +kernel
theorem dX11_queued_11 : decode cX11_queued 11 = .ok (.getfield 184, 3) := by decide +kernel
theorem dX11_queued_14 : decode cX11_queued 14 = .ok (.if_icmp .ge 26, 3) := by decide +kernel
theorem dX11_queued_17 : decode cX11_queued 17 = .ok (.iload_n 1, 1) := by decide +kernel
theorem dX11_queued_18 : decode cX11_queued 18 = .ok (.aload_n 0, 1) := by decide +kernel
theorem dX11_queued_19 : decode cX11_queued 19 = .ok (.getfield 74, 3) := by decide +kernel
theorem dX11_queued_22 : decode cX11_queued 22 = .ok (.iload_n 2, 1) := by decide +kernel
theorem dX11_queued_23 : decode cX11_queued 23 = .ok (.baload, 1) := by decide +kernel
theorem dX11_queued_24 : decode cX11_queued 24 = .ok (.ifCond .eq 7, 3) := by decide +kernel
theorem dX11_queued_27 : decode cX11_queued 27 = .ok (.iconst 0, 1) := by decide +kernel
theorem dX11_queued_28 : decode cX11_queued 28 = .ok (.goto 4, 3) := by decide +kernel
theorem dX11_queued_31 : decode cX11_queued 31 = .ok (.iconst 1, 1) := by decide +kernel
theorem dX11_queued_32 : decode cX11_queued 32 = .ok (.iadd, 1) := by decide +kernel
theorem dX11_queued_33 : decode cX11_queued 33 = .ok (.istore_n 1, 1) := by decide +kernel
theorem dX11_queued_34 : decode cX11_queued 34 = .ok (.iinc 2 1, 3) := by decide +kernel
theorem dX11_queued_37 : decode cX11_queued 37 = .ok (.goto (-28), 3) := by decide +kernel
theorem dX11_queued_40 : decode cX11_queued 40 = .ok (.iload_n 1, 1) := by decide +kernel
theorem dX11_queued_41 : decode cX11_queued 41 = .ok (.ireturn, 1) := by decide +kernel
theorem dX11_savedVersion_0 : decode cX11_savedVersion 0 = .ok (.aload_n 0, 1) := by decide +kernel
theorem dX11_savedVersion_1 : decode cX11_savedVersion 1 = .ok (.iload_n 1, 1) := by decide +kernel
theorem dX11_savedVersion_2 : decode cX11_savedVersion 2 = .ok (.invokestatic 139, 3) := by decide +kernel
theorem dX11_savedVersion_5 : decode cX11_savedVersion 5 = .ok (.iconst 1, 1) := by decide +kernel
theorem dX11_savedVersion_6 : decode cX11_savedVersion 6 = .ok (.iconst 1, 1) := by decide +kernel
theorem dX11_savedVersion_7 : decode cX11_savedVersion 7 = .ok (.invokevirtual 117, 3) := by decide +kernel
theorem dX11_savedVersion_10 : decode cX11_savedVersion 10 = .ok (.ifCond .eq 12, 3) := by decide +kernel
theorem dX11_savedVersion_13 : decode cX11_savedVersion 13 = .ok (.aload_n 0, 1) := by decide +kernel
theorem dX11_savedVersion_14 : decode cX11_savedVersion 14 = .ok (.getfield 80, 3) := by decide +kernel
theorem dX11_savedVersion_17 : decode cX11_savedVersion 17 = .ok (.iload_n 1, 1) := by decide +kernel
theorem dX11_savedVersion_18 : decode cX11_savedVersion 18 = .ok (.iaload, 1) := by decide +kernel
theorem dX11_savedVersion_19 : decode cX11_savedVersion 19 = .ok (.goto 4, 3) := by decide +kernel
theorem dX11_savedVersion_22 : decode cX11_savedVersion 22 = .ok (.iconst 0, 1) := by decide +kernel
theorem dX11_savedVersion_23 : decode cX11_savedVersion 23 = .ok (.ireturn, 1) := by decide +kernel
theorem dX11_savedLength_0 : decode cX11_savedLength 0 = .ok (.aload_n 0, 1) := by decide +kernel
theorem dX11_savedLength_1 : decode cX11_savedLength 1 = .ok (.iload_n 1, 1) := by decide +kernel
theorem dX11_savedLength_2 : decode cX11_savedLength 2 = .ok (.invokestatic 139, 3) := by decide +kernel
theorem dX11_savedLength_5 : decode cX11_savedLength 5 = .ok (.iconst 1, 1) := by decide +kernel
theorem dX11_savedLength_6 : decode cX11_savedLength 6 = .ok (.iconst 1, 1) := by decide +kernel
theorem dX11_savedLength_7 : decode cX11_savedLength 7 = .ok (.invokevirtual 117, 3) := by decide +kernel
theorem dX11_savedLength_10 : decode cX11_savedLength 10 = .ok (.ifCond .eq 12, 3) := by decide +kernel
theorem dX11_savedLength_13 : decode cX11_savedLength 13 = .ok (.aload_n 0, 1) := by decide +kernel
theorem dX11_savedLength_14 : decode cX11_savedLength 14 = .ok (.getfield 83, 3) := by decide +kernel
theorem dX11_savedLength_17 : decode cX11_savedLength 17 = .ok (.iload_n 1, 1) := by decide +kernel
theorem dX11_savedLength_18 : decode cX11_savedLength 18 = .ok (.iaload, 1) := by decide +kernel
theorem dX11_savedLength_19 : decode cX11_savedLength 19 = .ok (.goto 4, 3) := by decide +kernel
theorem dX11_savedLength_22 : decode cX11_savedLength 22 = .ok (.iconst 0, 1) := by decide +kernel
theorem dX11_savedLength_23 : decode cX11_savedLength 23 = .ok (.ireturn, 1) := by decide +kernel
theorem dX11_savedLetter_0 : decode cX11_savedLetter 0 = .ok (.iload_n 1, 1) := by decide +kernel
theorem dX11_savedLetter_1 : decode cX11_savedLetter 1 = .ok (.invokestatic 139, 3) := by decide +kernel
theorem dX11_savedLetter_4 : decode cX11_savedLetter 4 = .ok (.istore_n 3, 1) := by decide +kernel
theorem dX11_savedLetter_5 : decode cX11_savedLetter 5 = .ok (.aload_n 0, 1) := by decide +kernel
theorem dX11_savedLetter_6 : decode cX11_savedLetter 6 = .ok (.iload_n 3, 1) := by decide +kernel
theorem dX11_savedLetter_7 : decode cX11_savedLetter 7 = .ok (.ifCond .eq 28, 3) := by decide +kernel
theorem dX11_savedLetter_10 : decode cX11_savedLetter 10 = .ok (.iload_n 2, 1) := by decide +kernel
theorem dX11_savedLetter_11 : decode cX11_savedLetter 11 = .ok (.aload_n 0, 1) := by decide +kernel
theorem dX11_savedLetter_12 : decode cX11_savedLetter 12 = .ok (.getfield 83, 3) := by decide +kernel
theorem dX11_savedLetter_15 : decode cX11_savedLetter 15 = .ok (.iload_n 3, 1) := by decide +kernel
theorem dX11_savedLetter_16 : decode cX11_savedLetter 16 = .ok (.ifCond .eq 7, 3) := by decide +kernel
theorem dX11_savedLetter_19 : decode cX11_savedLetter 19 = .ok (.iload_n 1, 1) := by decide +kernel
theorem dX11_savedLetter_20 : decode cX11_savedLetter 20 = .ok (.goto 4, 3) := by decide +kernel
theorem dX11_savedLetter_23 : decode cX11_savedLetter 23 = .ok (.iconst 0, 1) := by decide +kernel
theorem dX11_savedLetter_24 : decode cX11_savedLetter 24 = .ok (.iaload, 1) := by decide +kernel
theorem dX11_savedLetter_25 : decode cX11_savedLetter 25 = .ok (.invokestatic 99, 3) := by decide +kernel
theorem dX11_savedLetter_28 : decode cX11_savedLetter 28 = .ok (.ifCond .eq 7, 3) := by decide +kernel
theorem dX11_savedLetter_31 : decode cX11_savedLetter 31 = .ok (.iconst 1, 1) := by decide +kernel
theorem dX11_savedLetter_32 : decode cX11_savedLetter 32 = .ok (.goto 4, 3) := by decide +kernel
theorem dX11_savedLetter_35 : decode cX11_savedLetter 35 = .ok (.iconst 0, 1) := by decide +kernel
theorem dX11_savedLetter_36 : decode cX11_savedLetter 36 = .ok (.iconst 1, 1) := by decide +kernel
theorem dX11_savedLetter_37 : decode cX11_savedLetter 37 = .ok (.iconst 1, 1) := by decide +kernel
theorem dX11_savedLetter_38 : decode cX11_savedLetter 38 = .ok (.invokevirtual 117, 3) := by decide +kernel
theorem dX11_savedLetter_41 : decode cX11_savedLetter 41 = .ok (.ifCond .eq 19, 3) := by decide +kernel
theorem dX11_savedLetter_44 : decode cX11_savedLetter 44 = .ok (.aload_n 0, 1) := by decide +kernel
theorem dX11_savedLetter_45 : decode cX11_savedLetter 45 = .ok (.getfield 86, 3) := by decide +kernel
theorem dX11_savedLetter_48 : decode cX11_savedLetter 48 = .ok (.sipush 150, 3) := by decide +kernel
theorem dX11_savedLetter_51 : decode cX11_savedLetter 51 = .ok (.iload_n 1, 1) := by decide +kernel
theorem dX11_savedLetter_52 : decode cX11_savedLetter 52 = .ok (.imul, 1) := by decide +kernel
theorem dX11_savedLetter_53 : decode cX11_savedLetter 53 = .ok (.iload_n 2, 1) := by decide +kernel
theorem dX11_savedLetter_54 : decode cX11_savedLetter 54 = .ok (.iadd, 1) := by decide +kernel
theorem dX11_savedLetter_55 : decode cX11_savedLetter 55 = .ok (.iaload, 1) := by decide +kernel
theorem dX11_savedLetter_56 : decode cX11_savedLetter 56 = .ok (.i2c, 1) := by decide +kernel
theorem dX11_savedLetter_57 : decode cX11_savedLetter 57 = .ok (.goto 4, 3) := by decide +kernel
theorem dX11_savedLetter_60 : decode cX11_savedLetter 60 = .ok (.iconst 0, 1) := by decide +kernel
theorem dX11_savedLetter_61 : decode cX11_savedLetter 61 = .ok (.ireturn, 1) := by decide +kernel
theorem dJ9_max_7cf53_0 : decode cJ9_max_7cf53 0 = .ok (.iload_n 0, 1) := by decide +kernel
theorem dJ9_max_7cf53_1 : decode cJ9_max_7cf53 1 = .ok (.iload_n 1, 1) := by decide +kernel
theorem dJ9_max_7cf53_2 : decode cJ9_max_7cf53 2 = .ok (.if_icmp .lt 7, 3) := by decide +kernel
theorem dJ9_max_7cf53_5 : decode cJ9_max_7cf53 5 = .ok (.iload_n 0, 1) := by decide +kernel
theorem dJ9_max_7cf53_6 : decode cJ9_max_7cf53 6 = .ok (.goto 4, 3) := by decide +kernel
theorem dJ9_max_7cf53_9 : decode cJ9_max_7cf53 9 = .ok (.iload_n 1, 1) := by decide +kernel
theorem dJ9_max_7cf53_10 : decode cJ9_max_7cf53 10 = .ok (.ireturn, 1) := by decide +kernel
theorem dJ9_min_7cf53_0 : decode cJ9_min_7cf53 0 = .ok (.iload_n 0, 1) := by decide +kernel
theorem dJ9_min_7cf53_1 : decode cJ9_min_7cf53 1 = .ok (.iload_n 1, 1) := by decide +kernel
theorem dJ9_min_7cf53_2 : decode cJ9_min_7cf53 2 = .ok (.if_icmp .gt 7, 3) := by decide +kernel
theorem dJ9_min_7cf53_5 : decode cJ9_min_7cf53 5 = .ok (.iload_n 0, 1) := by decide +kernel
theorem dJ9_min_7cf53_6 : decode cJ9_min_7cf53 6 = .ok (.goto 4, 3) := by decide +kernel
theorem dJ9_min_7cf53_9 : decode cJ9_min_7cf53 9 = .ok (.iload_n 1, 1) := by decide +kernel
theorem dJ9_min_7cf53_10 : decode cJ9_min_7cf53 10 = .ok (.ireturn, 1) := by decide +kernel
theorem dJxa1e45_init_da8c8_0 : decode cJxa1e45_init_da8c8 0 = .ok (.aload_n 0, 1) := by decide +kernel
theorem dJxa1e45_init_da8c8_1 : decode cJxa1e45_init_da8c8 1 = .ok (.invokespecial 1, 3) := by decide +kernel
theorem dJxa1e45_init_da8c8_4 : decode cJxa1e45_init_da8c8 4 = .ok (.return_, 1) := by decide +kernel
theorem dJxc12de_init_da8c8_0 : decode cJxc12de_init_da8c8 0 = .ok (.aload_n 0, 1) := by decide +kernel
theorem dJxc12de_init_da8c8_1 : decode cJxc12de_init_da8c8 1 = .ok (.invokespecial 1, 3) := by decide +kernel
theorem dJxc12de_init_da8c8_4 : decode cJxc12de_init_da8c8 4 = .ok (.aload_n 0, 1) := by decide +kernel
theorem dJxc12de_init_da8c8_5 : decode cJxc12de_init_da8c8 5 = .ok (.iconst 0, 1) := by decide +kernel
theorem dJxc12de_init_da8c8_6 : decode cJxc12de_init_da8c8 6 = .ok (.putfield 7, 3) := by decide +kernel
theorem dJxc12de_init_da8c8_9 : decode cJxc12de_init_da8c8 9 = .ok (.return_, 1) := by decide +kernel
theorem dJx4a65c_init_da8c8_0 : decode cJx4a65c_init_da8c8 0 = .ok (.aload_n 0, 1) := by decide +kernel
theorem dJx4a65c_init_da8c8_1 : decode cJx4a65c_init_da8c8 1 = .ok (.invokespecial 1, 3) := by decide +kernel
theorem dJx4a65c_init_da8c8_4 : decode cJx4a65c_init_da8c8 4 = .ok (.aload_n 0, 1) := by decide +kernel
theorem dJx4a65c_init_da8c8_5 : decode cJx4a65c_init_da8c8 5 = .ok (.getstatic 39, 3) := by decide +kernel
theorem dJx4a65c_init_da8c8_8 : decode cJx4a65c_init_da8c8 8 = .ok (.putfield 9, 3) := by decide +kernel
theorem dJx4a65c_init_da8c8_11 : decode cJx4a65c_init_da8c8 11 = .ok (.return_, 1) := by decide +kernel
theorem dJx4a65c_grow_92f84_0 : decode cJx4a65c_grow_92f84 0 = .ok (.aload_n 0, 1) := by decide +kernel
theorem dJx4a65c_grow_92f84_1 : decode cJx4a65c_grow_92f84 1 = .ok (.getfield 9, 3) := by decide +kernel
theorem dJx4a65c_grow_92f84_4 : decode cJx4a65c_grow_92f84 4 = .ok (.arraylength, 1) := by decide +kernel
theorem dJx4a65c_grow_92f84_5 : decode cJx4a65c_grow_92f84 5 = .ok (.istore_n 2, 1) := by decide +kernel
theorem dJx4a65c_grow_92f84_6 : decode cJx4a65c_grow_92f84 6 = .ok (.iload_n 2, 1) := by decide +kernel
theorem dJx4a65c_grow_92f84_7 : decode cJx4a65c_grow_92f84 7 = .ok (.ifCond .gt 13, 3) := by decide +kernel
theorem dJx4a65c_grow_92f84_10 : decode cJx4a65c_grow_92f84 10 = .ok (.aload_n 0, 1) := by decide +kernel
theorem dJx4a65c_grow_92f84_11 : decode cJx4a65c_grow_92f84 11 = .ok (.getfield 9, 3) := by decide +kernel
theorem dJx4a65c_grow_92f84_14 : decode cJx4a65c_grow_92f84 14 = .ok (.getstatic 39, 3) := by decide +kernel
theorem dJx4a65c_grow_92f84_17 : decode cJx4a65c_grow_92f84 17 = .ok (.if_acmp .eq 28, 3) := by decide +kernel
theorem dJx4a65c_grow_92f84_20 : decode cJx4a65c_grow_92f84 20 = .ok (.iload_n 2, 1) := by decide +kernel
theorem dJx4a65c_grow_92f84_21 : decode cJx4a65c_grow_92f84 21 = .ok (.iload_n 1, 1) := by decide +kernel
theorem dJx4a65c_grow_92f84_22 : decode cJx4a65c_grow_92f84 22 = .ok (.iload_n 2, 1) := by decide +kernel
theorem dJx4a65c_grow_92f84_23 : decode cJx4a65c_grow_92f84 23 = .ok (.isub, 1) := by decide +kernel
theorem dJx4a65c_grow_92f84_24 : decode cJx4a65c_grow_92f84 24 = .ok (.iload_n 2, 1) := by decide +kernel
theorem dJx4a65c_grow_92f84_25 : decode cJx4a65c_grow_92f84 25 = .ok (.iconst 1, 1) := by decide +kernel
theorem dJx4a65c_grow_92f84_26 : decode cJx4a65c_grow_92f84 26 = .ok (.ishr, 1) := by decide +kernel
theorem dJx4a65c_grow_92f84_27 : decode cJx4a65c_grow_92f84 27 = .ok (.invokestatic 73, 3) := by decide +kernel
theorem dJx4a65c_grow_92f84_30 : decode cJx4a65c_grow_92f84 30 = .ok (.istore_n 3, 1) := by decide +kernel
theorem dJx4a65c_grow_92f84_31 : decode cJx4a65c_grow_92f84 31 = .ok (.aload_n 0, 1) := by decide +kernel
theorem dJx4a65c_grow_92f84_32 : decode cJx4a65c_grow_92f84 32 = .ok (.aload_n 0, 1) := by decide +kernel
theorem dJx4a65c_grow_92f84_33 : decode cJx4a65c_grow_92f84 33 = .ok (.getfield 9, 3) := by decide +kernel
theorem dJx4a65c_grow_92f84_36 : decode cJx4a65c_grow_92f84 36 = .ok (.iload_n 3, 1) := by decide +kernel
theorem dJx4a65c_grow_92f84_37 : decode cJx4a65c_grow_92f84 37 = .ok (.invokestatic 66, 3) := by decide +kernel
theorem dJx4a65c_grow_92f84_40 : decode cJx4a65c_grow_92f84 40 = .ok (.dup_x1, 1) := by decide +kernel
theorem dJx4a65c_grow_92f84_41 : decode cJx4a65c_grow_92f84 41 = .ok (.putfield 9, 3) := by decide +kernel
theorem dJx4a65c_grow_92f84_44 : decode cJx4a65c_grow_92f84 44 = .ok (.areturn, 1) := by decide +kernel
theorem dJx4a65c_grow_92f84_45 : decode cJx4a65c_grow_92f84 45 = .ok (.aload_n 0, 1) := by decide +kernel
theorem dJx4a65c_grow_92f84_46 : decode cJx4a65c_grow_92f84 46 = .ok (.bipush 10, 2) := by decide +kernel
theorem dJx4a65c_grow_92f84_48 : decode cJx4a65c_grow_92f84 48 = .ok (.iload_n 1, 1) := by decide +kernel
theorem dJx4a65c_grow_92f84_49 : decode cJx4a65c_grow_92f84 49 = .ok (.invokestatic 79, 3) := by decide +kernel
theorem dJx4a65c_grow_92f84_52 : decode cJx4a65c_grow_92f84 52 = .ok (.anewarray 7, 3) := by decide +kernel
theorem dJx4a65c_grow_92f84_55 : decode cJx4a65c_grow_92f84 55 = .ok (.dup_x1, 1) := by decide +kernel
theorem dJx4a65c_grow_92f84_56 : decode cJx4a65c_grow_92f84 56 = .ok (.putfield 9, 3) := by decide +kernel
theorem dJx4a65c_grow_92f84_59 : decode cJx4a65c_grow_92f84 59 = .ok (.areturn, 1) := by decide +kernel
theorem dJx4a65c_grow_d5877_0 : decode cJx4a65c_grow_d5877 0 = .ok (.aload_n 0, 1) := by decide +kernel
theorem dJx4a65c_grow_d5877_1 : decode cJx4a65c_grow_d5877 1 = .ok (.aload_n 0, 1) := by decide +kernel
theorem dJx4a65c_grow_d5877_2 : decode cJx4a65c_grow_d5877 2 = .ok (.getfield 48, 3) := by decide +kernel
theorem dJx4a65c_grow_d5877_5 : decode cJx4a65c_grow_d5877 5 = .ok (.iconst 1, 1) := by decide +kernel
theorem dJx4a65c_grow_d5877_6 : decode cJx4a65c_grow_d5877 6 = .ok (.iadd, 1) := by decide +kernel
theorem dJx4a65c_grow_d5877_7 : decode cJx4a65c_grow_d5877 7 = .ok (.invokevirtual 69, 3) := by decide +kernel
theorem dJx4a65c_grow_d5877_10 : decode cJx4a65c_grow_d5877 10 = .ok (.areturn, 1) := by decide +kernel
theorem dJx4a65c_size_8abf5_0 : decode cJx4a65c_size_8abf5 0 = .ok (.aload_n 0, 1) := by decide +kernel
theorem dJx4a65c_size_8abf5_1 : decode cJx4a65c_size_8abf5 1 = .ok (.getfield 48, 3) := by decide +kernel
theorem dJx4a65c_size_8abf5_4 : decode cJx4a65c_size_8abf5 4 = .ok (.ireturn, 1) := by decide +kernel
theorem dJx4a65c_elementData_915e3_0 : decode cJx4a65c_elementData_915e3 0 = .ok (.aload_n 0, 1) := by decide +kernel
theorem dJx4a65c_elementData_915e3_1 : decode cJx4a65c_elementData_915e3 1 = .ok (.getfield 9, 3) := by decide +kernel
theorem dJx4a65c_elementData_915e3_4 : decode cJx4a65c_elementData_915e3 4 = .ok (.iload_n 1, 1) := by decide +kernel
theorem dJx4a65c_elementData_915e3_5 : decode cJx4a65c_elementData_915e3 5 = .ok (.aaload, 1) := by decide +kernel
theorem dJx4a65c_elementData_915e3_6 : decode cJx4a65c_elementData_915e3 6 = .ok (.areturn, 1) := by decide +kernel
theorem dJx4a65c_get_915e3_0 : decode cJx4a65c_get_915e3 0 = .ok (.iload_n 1, 1) := by decide +kernel
theorem dJx4a65c_get_915e3_1 : decode cJx4a65c_get_915e3 1 = .ok (.aload_n 0, 1) := by decide +kernel
theorem dJx4a65c_get_915e3_2 : decode cJx4a65c_get_915e3 2 = .ok (.getfield 48, 3) := by decide +kernel
theorem dJx4a65c_get_915e3_5 : decode cJx4a65c_get_915e3 5 = .ok (.invokestatic 118, 3) := by decide +kernel
theorem dJx4a65c_get_915e3_8 : decode cJx4a65c_get_915e3 8 = .ok (.pop, 1) := by decide +kernel
theorem dJx4a65c_get_915e3_9 : decode cJx4a65c_get_915e3 9 = .ok (.aload_n 0, 1) := by decide +kernel
theorem dJx4a65c_get_915e3_10 : decode cJx4a65c_get_915e3 10 = .ok (.iload_n 1, 1) := by decide +kernel
theorem dJx4a65c_get_915e3_11 : decode cJx4a65c_get_915e3 11 = .ok (.invokevirtual 123, 3) := by decide +kernel
theorem dJx4a65c_get_915e3_14 : decode cJx4a65c_get_915e3 14 = .ok (.areturn, 1) := by decide +kernel
theorem dJx4a65c_add_72be8_0 : decode cJx4a65c_add_72be8 0 = .ok (.iload_n 3, 1) := by decide +kernel
theorem dJx4a65c_add_72be8_1 : decode cJx4a65c_add_72be8 1 = .ok (.aload_n 2, 1) := by decide +kernel
theorem dJx4a65c_add_72be8_2 : decode cJx4a65c_add_72be8 2 = .ok (.arraylength, 1) := by decide +kernel
theorem dJx4a65c_add_72be8_3 : decode cJx4a65c_add_72be8 3 = .ok (.if_icmp .ne 8, 3) := by decide +kernel
theorem dJx4a65c_add_72be8_6 : decode cJx4a65c_add_72be8 6 = .ok (.aload_n 0, 1) := by decide +kernel
theorem dJx4a65c_add_72be8_7 : decode cJx4a65c_add_72be8 7 = .ok (.invokevirtual 129, 3) := by decide +kernel
theorem dJx4a65c_add_72be8_10 : decode cJx4a65c_add_72be8 10 = .ok (.astore_n 2, 1) := by decide +kernel
theorem dJx4a65c_add_72be8_11 : decode cJx4a65c_add_72be8 11 = .ok (.aload_n 2, 1) := by decide +kernel
theorem dJx4a65c_add_72be8_12 : decode cJx4a65c_add_72be8 12 = .ok (.iload_n 3, 1) := by decide +kernel
theorem dJx4a65c_add_72be8_13 : decode cJx4a65c_add_72be8 13 = .ok (.aload_n 1, 1) := by decide +kernel
theorem dJx4a65c_add_72be8_14 : decode cJx4a65c_add_72be8 14 = .ok (.aastore, 1) := by decide +kernel
theorem dJx4a65c_add_72be8_15 : decode cJx4a65c_add_72be8 15 = .ok (.aload_n 0, 1) := by decide +kernel
theorem dJx4a65c_add_72be8_16 : decode cJx4a65c_add_72be8 16 = .ok (.iload_n 3, 1) := by decide +kernel
theorem dJx4a65c_add_72be8_17 : decode cJx4a65c_add_72be8 17 = .ok (.iconst 1, 1) := by decide +kernel
theorem dJx4a65c_add_72be8_18 : decode cJx4a65c_add_72be8 18 = .ok (.iadd, 1) := by decide +kernel
theorem dJx4a65c_add_72be8_19 : decode cJx4a65c_add_72be8 19 = .ok (.putfield 48, 3) := by decide +kernel
theorem dJx4a65c_add_72be8_22 : decode cJx4a65c_add_72be8 22 = .ok (.return_, 1) := by decide +kernel
theorem dJx4a65c_add_9ea2d_0 : decode cJx4a65c_add_9ea2d 0 = .ok (.aload_n 0, 1) := by decide +kernel
theorem dJx4a65c_add_9ea2d_1 : decode cJx4a65c_add_9ea2d 1 = .ok (.dup, 1) := by decide +kernel
theorem dJx4a65c_add_9ea2d_2 : decode cJx4a65c_add_9ea2d 2 = .ok (.getfield 63, 3) := by decide +kernel
theorem dJx4a65c_add_9ea2d_5 : decode cJx4a65c_add_9ea2d 5 = .ok (.iconst 1, 1) := by decide +kernel
theorem dJx4a65c_add_9ea2d_6 : decode cJx4a65c_add_9ea2d 6 = .ok (.iadd, 1) := by decide +kernel
theorem dJx4a65c_add_9ea2d_7 : decode cJx4a65c_add_9ea2d 7 = .ok (.putfield 63, 3) := by decide +kernel
theorem dJx4a65c_add_9ea2d_10 : decode cJx4a65c_add_9ea2d 10 = .ok (.aload_n 0, 1) := by decide +kernel
theorem dJx4a65c_add_9ea2d_11 : decode cJx4a65c_add_9ea2d 11 = .ok (.aload_n 1, 1) := by decide +kernel
theorem dJx4a65c_add_9ea2d_12 : decode cJx4a65c_add_9ea2d 12 = .ok (.aload_n 0, 1) := by decide +kernel
theorem dJx4a65c_add_9ea2d_13 : decode cJx4a65c_add_9ea2d 13 = .ok (.getfield 9, 3) := by decide +kernel
theorem dJx4a65c_add_9ea2d_16 : decode cJx4a65c_add_9ea2d 16 = .ok (.aload_n 0, 1) := by decide +kernel
theorem dJx4a65c_add_9ea2d_17 : decode cJx4a65c_add_9ea2d 17 = .ok (.getfield 48, 3) := by decide +kernel
theorem dJx4a65c_add_9ea2d_20 : decode cJx4a65c_add_9ea2d 20 = .ok (.invokevirtual 131, 3) := by decide +kernel
theorem dJx4a65c_add_9ea2d_23 : decode cJx4a65c_add_9ea2d 23 = .ok (.iconst 1, 1) := by decide +kernel
theorem dJx4a65c_add_9ea2d_24 : decode cJx4a65c_add_9ea2d 24 = .ok (.ireturn, 1) := by decide +kernel
theorem dJx4a65c_remove_915e3_0 : decode cJx4a65c_remove_915e3 0 = .ok (.iload_n 1, 1) := by decide +kernel
theorem dJx4a65c_remove_915e3_1 : decode cJx4a65c_remove_915e3 1 = .ok (.aload_n 0, 1) := by decide +kernel
theorem dJx4a65c_remove_915e3_2 : decode cJx4a65c_remove_915e3 2 = .ok (.getfield 48, 3) := by decide +kernel
theorem dJx4a65c_remove_915e3_5 : decode cJx4a65c_remove_915e3 5 = .ok (.invokestatic 118, 3) := by decide +kernel
theorem dJx4a65c_remove_915e3_8 : decode cJx4a65c_remove_915e3 8 = .ok (.pop, 1) := by decide +kernel
theorem dJx4a65c_remove_915e3_9 : decode cJx4a65c_remove_915e3 9 = .ok (.aload_n 0, 1) := by decide +kernel
theorem dJx4a65c_remove_915e3_10 : decode cJx4a65c_remove_915e3 10 = .ok (.getfield 9, 3) := by decide +kernel
theorem dJx4a65c_remove_915e3_13 : decode cJx4a65c_remove_915e3 13 = .ok (.astore_n 2, 1) := by decide +kernel
theorem dJx4a65c_remove_915e3_14 : decode cJx4a65c_remove_915e3 14 = .ok (.aload_n 2, 1) := by decide +kernel
theorem dJx4a65c_remove_915e3_15 : decode cJx4a65c_remove_915e3 15 = .ok (.iload_n 1, 1) := by decide +kernel
theorem dJx4a65c_remove_915e3_16 : decode cJx4a65c_remove_915e3 16 = .ok (.aaload, 1) := by decide +kernel
theorem dJx4a65c_remove_915e3_17 : decode cJx4a65c_remove_915e3 17 = .ok (.astore_n 3, 1) := by decide +kernel
theorem dJx4a65c_remove_915e3_18 : decode cJx4a65c_remove_915e3 18 = .ok (.aload_n 0, 1) := by decide +kernel
theorem dJx4a65c_remove_915e3_19 : decode cJx4a65c_remove_915e3 19 = .ok (.aload_n 2, 1) := by decide +kernel
theorem dJx4a65c_remove_915e3_20 : decode cJx4a65c_remove_915e3 20 = .ok (.iload_n 1, 1) := by decide +kernel
theorem dJx4a65c_remove_915e3_21 : decode cJx4a65c_remove_915e3 21 = .ok (.invokevirtual 144, 3) := by decide +kernel
theorem dJx4a65c_remove_915e3_24 : decode cJx4a65c_remove_915e3 24 = .ok (.aload_n 3, 1) := by decide +kernel
theorem dJx4a65c_remove_915e3_25 : decode cJx4a65c_remove_915e3 25 = .ok (.areturn, 1) := by decide +kernel
theorem dJx4a65c_fastRemove_b59b0_0 : decode cJx4a65c_fastRemove_b59b0 0 = .ok (.aload_n 0, 1) := by decide +kernel
theorem dJx4a65c_fastRemove_b59b0_1 : decode cJx4a65c_fastRemove_b59b0 1 = .ok (.dup, 1) := by decide +kernel
theorem dJx4a65c_fastRemove_b59b0_2 : decode cJx4a65c_fastRemove_b59b0 2 = .ok (.getfield 63, 3) := by decide +kernel
theorem dJx4a65c_fastRemove_b59b0_5 : decode cJx4a65c_fastRemove_b59b0 5 = .ok (.iconst 1, 1) := by decide +kernel
theorem dJx4a65c_fastRemove_b59b0_6 : decode cJx4a65c_fastRemove_b59b0 6 = .ok (.iadd, 1) := by decide +kernel
theorem dJx4a65c_fastRemove_b59b0_7 : decode cJx4a65c_fastRemove_b59b0 7 = .ok (.putfield 63, 3) := by decide +kernel
theorem dJx4a65c_fastRemove_b59b0_10 : decode cJx4a65c_fastRemove_b59b0 10 = .ok (.aload_n 0, 1) := by decide +kernel
theorem dJx4a65c_fastRemove_b59b0_11 : decode cJx4a65c_fastRemove_b59b0 11 = .ok (.getfield 48, 3) := by decide +kernel
theorem dJx4a65c_fastRemove_b59b0_14 : decode cJx4a65c_fastRemove_b59b0 14 = .ok (.iconst 1, 1) := by decide +kernel
theorem dJx4a65c_fastRemove_b59b0_15 : decode cJx4a65c_fastRemove_b59b0 15 = .ok (.isub, 1) := by decide +kernel
theorem dJx4a65c_fastRemove_b59b0_16 : decode cJx4a65c_fastRemove_b59b0 16 = .ok (.dup, 1) := by decide +kernel
theorem dJx4a65c_fastRemove_b59b0_17 : decode cJx4a65c_fastRemove_b59b0 17 = .ok (.istore_n 3, 1) := by decide +kernel
theorem dJx4a65c_fastRemove_b59b0_18 : decode cJx4a65c_fastRemove_b59b0 18 = .ok (.iload_n 2, 1) := by decide +kernel
theorem dJx4a65c_fastRemove_b59b0_19 : decode cJx4a65c_fastRemove_b59b0 19 = .ok (.if_icmp .le 15, 3) := by decide +kernel
theorem dJx4a65c_fastRemove_b59b0_22 : decode cJx4a65c_fastRemove_b59b0 22 = .ok (.aload_n 1, 1) := by decide +kernel
theorem dJx4a65c_fastRemove_b59b0_23 : decode cJx4a65c_fastRemove_b59b0 23 = .ok (.iload_n 2, 1) := by decide +kernel
theorem dJx4a65c_fastRemove_b59b0_24 : decode cJx4a65c_fastRemove_b59b0 24 = .ok (.iconst 1, 1) := by decide +kernel
theorem dJx4a65c_fastRemove_b59b0_25 : decode cJx4a65c_fastRemove_b59b0 25 = .ok (.iadd, 1) := by decide +kernel
theorem dJx4a65c_fastRemove_b59b0_26 : decode cJx4a65c_fastRemove_b59b0 26 = .ok (.aload_n 1, 1) := by decide +kernel
theorem dJx4a65c_fastRemove_b59b0_27 : decode cJx4a65c_fastRemove_b59b0 27 = .ok (.iload_n 2, 1) := by decide +kernel
theorem dJx4a65c_fastRemove_b59b0_28 : decode cJx4a65c_fastRemove_b59b0 28 = .ok (.iload_n 3, 1) := by decide +kernel
theorem dJx4a65c_fastRemove_b59b0_29 : decode cJx4a65c_fastRemove_b59b0 29 = .ok (.iload_n 2, 1) := by decide +kernel
theorem dJx4a65c_fastRemove_b59b0_30 : decode cJx4a65c_fastRemove_b59b0 30 = .ok (.isub, 1) := by decide +kernel
theorem dJx4a65c_fastRemove_b59b0_31 : decode cJx4a65c_fastRemove_b59b0 31 = .ok (.invokestatic 112, 3) := by decide +kernel
theorem dJx4a65c_fastRemove_b59b0_34 : decode cJx4a65c_fastRemove_b59b0 34 = .ok (.aload_n 1, 1) := by decide +kernel
theorem dJx4a65c_fastRemove_b59b0_35 : decode cJx4a65c_fastRemove_b59b0 35 = .ok (.aload_n 0, 1) := by decide +kernel
theorem dJx4a65c_fastRemove_b59b0_36 : decode cJx4a65c_fastRemove_b59b0 36 = .ok (.iload_n 3, 1) := by decide +kernel
theorem dJx4a65c_fastRemove_b59b0_37 : decode cJx4a65c_fastRemove_b59b0 37 = .ok (.dup_x1, 1) := by decide +kernel
theorem dJx4a65c_fastRemove_b59b0_38 : decode cJx4a65c_fastRemove_b59b0 38 = .ok (.putfield 48, 3) := by decide +kernel
theorem dJx4a65c_fastRemove_b59b0_41 : decode cJx4a65c_fastRemove_b59b0 41 = .ok (.aconst_null, 1) := by decide +kernel
theorem dJx4a65c_fastRemove_b59b0_42 : decode cJx4a65c_fastRemove_b59b0 42 = .ok (.aastore, 1) := by decide +kernel
theorem dJx4a65c_fastRemove_b59b0_43 : decode cJx4a65c_fastRemove_b59b0 43 = .ok (.return_, 1) := by decide +kernel
theorem dJ7_copyOf_1904c_0 : decode cJ7_copyOf_1904c 0 = .ok (.aload_n 0, 1) := by decide +kernel
theorem dJ7_copyOf_1904c_1 : decode cJ7_copyOf_1904c 1 = .ok (.iload_n 1, 1) := by decide +kernel
theorem dJ7_copyOf_1904c_2 : decode cJ7_copyOf_1904c 2 = .ok (.aload_n 0, 1) := by decide +kernel
theorem dJ7_copyOf_1904c_3 : decode cJ7_copyOf_1904c 3 = .ok (.invokevirtual 86, 3) := by decide +kernel
theorem dJ7_copyOf_1904c_6 : decode cJ7_copyOf_1904c 6 = .ok (.invokestatic 300, 3) := by decide +kernel
theorem dJ7_copyOf_1904c_9 : decode cJ7_copyOf_1904c 9 = .ok (.areturn, 1) := by decide +kernel
theorem dJ7_copyOf_6403c_0 : decode cJ7_copyOf_6403c 0 = .ok (.aload_n 2, 1) := by decide +kernel
theorem dJ7_copyOf_6403c_1 : decode cJ7_copyOf_6403c 1 = .ok (.ldc 110, 2) := by decide +kernel
theorem dJ7_copyOf_6403c_3 : decode cJ7_copyOf_6403c 3 = .ok (.if_acmp .ne 10, 3) := by decide +kernel
theorem dJ7_copyOf_6403c_6 : decode cJ7_copyOf_6403c 6 = .ok (.iload_n 1, 1) := by decide +kernel
theorem dJ7_copyOf_6403c_7 : decode cJ7_copyOf_6403c 7 = .ok (.anewarray 2, 3) := by decide +kernel
theorem dJ7_copyOf_6403c_10 : decode cJ7_copyOf_6403c 10 = .ok (.goto 14, 3) := by decide +kernel
theorem dJ7_copyOf_6403c_13 : decode cJ7_copyOf_6403c 13 = .ok (.aload_n 2, 1) := by decide +kernel
theorem dJ7_copyOf_6403c_14 : decode cJ7_copyOf_6403c 14 = .ok (.invokevirtual 90, 3) := by decide +kernel
theorem dJ7_copyOf_6403c_17 : decode cJ7_copyOf_6403c 17 = .ok (.iload_n 1, 1) := by decide +kernel
theorem dJ7_copyOf_6403c_18 : decode cJ7_copyOf_6403c 18 = .ok (.invokestatic 95, 3) := by decide +kernel
theorem dJ7_copyOf_6403c_21 : decode cJ7_copyOf_6403c 21 = .ok (.checkcast 110, 3) := by decide +kernel
theorem dJ7_copyOf_6403c_24 : decode cJ7_copyOf_6403c 24 = .ok (.astore_n 3, 1) := by decide +kernel
theorem dJ7_copyOf_6403c_25 : decode cJ7_copyOf_6403c 25 = .ok (.aload_n 0, 1) := by decide +kernel
theorem dJ7_copyOf_6403c_26 : decode cJ7_copyOf_6403c 26 = .ok (.iconst 0, 1) := by decide +kernel
theorem dJ7_copyOf_6403c_27 : decode cJ7_copyOf_6403c 27 = .ok (.aload_n 3, 1) := by decide +kernel
theorem dJ7_copyOf_6403c_28 : decode cJ7_copyOf_6403c 28 = .ok (.iconst 0, 1) := by decide +kernel
theorem dJ7_copyOf_6403c_29 : decode cJ7_copyOf_6403c 29 = .ok (.aload_n 0, 1) := by decide +kernel
theorem dJ7_copyOf_6403c_30 : decode cJ7_copyOf_6403c 30 = .ok (.arraylength, 1) := by decide +kernel
theorem dJ7_copyOf_6403c_31 : decode cJ7_copyOf_6403c 31 = .ok (.iload_n 1, 1) := by decide +kernel
theorem dJ7_copyOf_6403c_32 : decode cJ7_copyOf_6403c 32 = .ok (.invokestatic 304, 3) := by decide +kernel
theorem dJ7_copyOf_6403c_35 : decode cJ7_copyOf_6403c 35 = .ok (.invokestatic 150, 3) := by decide +kernel
theorem dJ7_copyOf_6403c_38 : decode cJ7_copyOf_6403c 38 = .ok (.aload_n 3, 1) := by decide +kernel
theorem dJ7_copyOf_6403c_39 : decode cJ7_copyOf_6403c 39 = .ok (.areturn, 1) := by decide +kernel
theorem dJ15_checkIndex_7cf53_0 : decode cJ15_checkIndex_7cf53 0 = .ok (.iload_n 0, 1) := by decide +kernel
theorem dJ15_checkIndex_7cf53_1 : decode cJ15_checkIndex_7cf53 1 = .ok (.iload_n 1, 1) := by decide +kernel
theorem dJ15_checkIndex_7cf53_2 : decode cJ15_checkIndex_7cf53 2 = .ok (.aconst_null, 1) := by decide +kernel
theorem dJ15_checkIndex_7cf53_3 : decode cJ15_checkIndex_7cf53 3 = .ok (.invokestatic 105, 3) := by decide +kernel
theorem dJ15_checkIndex_7cf53_6 : decode cJ15_checkIndex_7cf53 6 = .ok (.ireturn, 1) := by decide +kernel
theorem dJ8_newLength_cabcc_0 : decode cJ8_newLength_cabcc 0 = .ok (.iload_n 0, 1) := by decide +kernel
theorem dJ8_newLength_cabcc_1 : decode cJ8_newLength_cabcc 1 = .ok (.iload_n 1, 1) := by decide +kernel
theorem dJ8_newLength_cabcc_2 : decode cJ8_newLength_cabcc 2 = .ok (.iload_n 2, 1) := by decide +kernel
theorem dJ8_newLength_cabcc_3 : decode cJ8_newLength_cabcc 3 = .ok (.invokestatic 194, 3) := by decide +kernel
theorem dJ8_newLength_cabcc_6 : decode cJ8_newLength_cabcc 6 = .ok (.iadd, 1) := by decide +kernel
theorem dJ8_newLength_cabcc_7 : decode cJ8_newLength_cabcc 7 = .ok (.istore_n 3, 1) := by decide +kernel
theorem dJ8_newLength_cabcc_8 : decode cJ8_newLength_cabcc 8 = .ok (.iconst 0, 1) := by decide +kernel
theorem dJ8_newLength_cabcc_9 : decode cJ8_newLength_cabcc 9 = .ok (.iload_n 3, 1) := by decide +kernel
theorem dJ8_newLength_cabcc_10 : decode cJ8_newLength_cabcc 10 = .ok (.if_icmp .ge 11, 3) := by decide +kernel
theorem dJ8_newLength_cabcc_13 : decode cJ8_newLength_cabcc 13 = .ok (.iload_n 3, 1) := by decide +kernel
theorem dJ8_newLength_cabcc_14 : decode cJ8_newLength_cabcc 14 = .ok (.ldc 200, 2) := by decide +kernel
theorem dJ8_newLength_cabcc_16 : decode cJ8_newLength_cabcc 16 = .ok (.if_icmp .gt 5, 3) := by decide +kernel
theorem dJ8_newLength_cabcc_19 : decode cJ8_newLength_cabcc 19 = .ok (.iload_n 3, 1) := by decide +kernel
theorem dJ8_newLength_cabcc_20 : decode cJ8_newLength_cabcc 20 = .ok (.ireturn, 1) := by decide +kernel
theorem dJ8_newLength_cabcc_21 : decode cJ8_newLength_cabcc 21 = .ok (.iload_n 0, 1) := by decide +kernel
theorem dJ8_newLength_cabcc_22 : decode cJ8_newLength_cabcc 22 = .ok (.iload_n 1, 1) := by decide +kernel
theorem dJ8_newLength_cabcc_23 : decode cJ8_newLength_cabcc 23 = .ok (.invokestatic 201, 3) := by decide +kernel
theorem dJ8_newLength_cabcc_26 : decode cJ8_newLength_cabcc 26 = .ok (.ireturn, 1) := by decide +kernel
theorem dJ8_hugeLength_7cf53_0 : decode cJ8_hugeLength_7cf53 0 = .ok (.iload_n 0, 1) := by decide +kernel
theorem dJ8_hugeLength_7cf53_1 : decode cJ8_hugeLength_7cf53 1 = .ok (.iload_n 1, 1) := by decide +kernel
theorem dJ8_hugeLength_7cf53_2 : decode cJ8_hugeLength_7cf53 2 = .ok (.iadd, 1) := by decide +kernel
theorem dJ8_hugeLength_7cf53_3 : decode cJ8_hugeLength_7cf53 3 = .ok (.istore_n 2, 1) := by decide +kernel
theorem dJ8_hugeLength_7cf53_4 : decode cJ8_hugeLength_7cf53 4 = .ok (.iload_n 2, 1) := by decide +kernel
theorem dJ8_hugeLength_7cf53_5 : decode cJ8_hugeLength_7cf53 5 = .ok (.ifCond .ge 44, 3) := by decide +kernel
theorem dJ8_hugeLength_7cf53_8 : decode cJ8_hugeLength_7cf53 8 = .ok (.new 204, 3) := by decide +kernel
theorem dJ8_hugeLength_7cf53_11 : decode cJ8_hugeLength_7cf53 11 = .ok (.dup, 1) := by decide +kernel
theorem dJ8_hugeLength_7cf53_12 : decode cJ8_hugeLength_7cf53 12 = .ok (.new 89, 3) := by decide +kernel
theorem dJ8_hugeLength_7cf53_15 : decode cJ8_hugeLength_7cf53 15 = .ok (.dup, 1) := by decide +kernel
theorem dJ8_hugeLength_7cf53_16 : decode cJ8_hugeLength_7cf53 16 = .ok (.invokespecial 91, 3) := by decide +kernel
theorem dJ8_hugeLength_7cf53_19 : decode cJ8_hugeLength_7cf53 19 = .ok (.ldc 206, 2) := by decide +kernel
theorem dJ8_hugeLength_7cf53_21 : decode cJ8_hugeLength_7cf53 21 = .ok (.invokevirtual 94, 3) := by decide +kernel
theorem dJ8_hugeLength_7cf53_24 : decode cJ8_hugeLength_7cf53 24 = .ok (.iload_n 0, 1) := by decide +kernel
theorem dJ8_hugeLength_7cf53_25 : decode cJ8_hugeLength_7cf53 25 = .ok (.invokevirtual 98, 3) := by decide +kernel
theorem dJ8_hugeLength_7cf53_28 : decode cJ8_hugeLength_7cf53 28 = .ok (.ldc 208, 2) := by decide +kernel
theorem dJ8_hugeLength_7cf53_30 : decode cJ8_hugeLength_7cf53 30 = .ok (.invokevirtual 94, 3) := by decide +kernel
theorem dJ8_hugeLength_7cf53_33 : decode cJ8_hugeLength_7cf53 33 = .ok (.iload_n 1, 1) := by decide +kernel
theorem dJ8_hugeLength_7cf53_34 : decode cJ8_hugeLength_7cf53 34 = .ok (.invokevirtual 98, 3) := by decide +kernel
theorem dJ8_hugeLength_7cf53_37 : decode cJ8_hugeLength_7cf53 37 = .ok (.ldc 210, 2) := by decide +kernel
theorem dJ8_hugeLength_7cf53_39 : decode cJ8_hugeLength_7cf53 39 = .ok (.invokevirtual 94, 3) := by decide +kernel
theorem dJ8_hugeLength_7cf53_42 : decode cJ8_hugeLength_7cf53 42 = .ok (.invokevirtual 101, 3) := by decide +kernel
theorem dJ8_hugeLength_7cf53_45 : decode cJ8_hugeLength_7cf53 45 = .ok (.invokespecial 212, 3) := by decide +kernel
theorem dJ8_hugeLength_7cf53_48 : decode cJ8_hugeLength_7cf53 48 = .ok (.athrow, 1) := by decide +kernel
theorem dJ8_hugeLength_7cf53_49 : decode cJ8_hugeLength_7cf53 49 = .ok (.iload_n 2, 1) := by decide +kernel
theorem dJ8_hugeLength_7cf53_50 : decode cJ8_hugeLength_7cf53 50 = .ok (.ldc 200, 2) := by decide +kernel
theorem dJ8_hugeLength_7cf53_52 : decode cJ8_hugeLength_7cf53 52 = .ok (.if_icmp .gt 6, 3) := by decide +kernel
theorem dJ8_hugeLength_7cf53_55 : decode cJ8_hugeLength_7cf53 55 = .ok (.ldc 200, 2) := by decide +kernel
theorem dJ8_hugeLength_7cf53_57 : decode cJ8_hugeLength_7cf53 57 = .ok (.ireturn, 1) := by decide +kernel
theorem dJ8_hugeLength_7cf53_58 : decode cJ8_hugeLength_7cf53 58 = .ok (.iload_n 2, 1) := by decide +kernel
theorem dJ8_hugeLength_7cf53_59 : decode cJ8_hugeLength_7cf53 59 = .ok (.ireturn, 1) := by decide +kernel
theorem dJ3_checkIndex_8e157_0 : decode cJ3_checkIndex_8e157 0 = .ok (.iload_n 0, 1) := by decide +kernel
theorem dJ3_checkIndex_8e157_1 : decode cJ3_checkIndex_8e157 1 = .ok (.ifCond .lt 8, 3) := by decide +kernel
theorem dJ3_checkIndex_8e157_4 : decode cJ3_checkIndex_8e157 4 = .ok (.iload_n 0, 1) := by decide +kernel
theorem dJ3_checkIndex_8e157_5 : decode cJ3_checkIndex_8e157 5 = .ok (.iload_n 1, 1) := by decide +kernel
theorem dJ3_checkIndex_8e157_6 : decode cJ3_checkIndex_8e157 6 = .ok (.if_icmp .lt 10, 3) := by decide +kernel
theorem dJ3_checkIndex_8e157_9 : decode cJ3_checkIndex_8e157 9 = .ok (.aload_n 2, 1) := by decide +kernel
theorem dJ3_checkIndex_8e157_10 : decode cJ3_checkIndex_8e157 10 = .ok (.iload_n 0, 1) := by decide +kernel
theorem dJ3_checkIndex_8e157_11 : decode cJ3_checkIndex_8e157 11 = .ok (.iload_n 1, 1) := by decide +kernel
theorem dJ3_checkIndex_8e157_12 : decode cJ3_checkIndex_8e157 12 = .ok (.invokestatic 95, 3) := by decide +kernel
theorem dJ3_checkIndex_8e157_15 : decode cJ3_checkIndex_8e157 15 = .ok (.athrow, 1) := by decide +kernel
theorem dJ3_checkIndex_8e157_16 : decode cJ3_checkIndex_8e157 16 = .ok (.iload_n 0, 1) := by decide +kernel
theorem dJ3_checkIndex_8e157_17 : decode cJ3_checkIndex_8e157 17 = .ok (.ireturn, 1) := by decide +kernel
theorem dL_type_0 : decode cL_type 0 = .ok (.aload 4, 2) := by decide +kernel
theorem dL_type_2 : decode cL_type 2 = .ok (.iconst 0, 1) := by decide +kernel
theorem dL_type_3 : decode cL_type 3 = .ok (.aload_n 0, 1) := by decide +kernel
theorem dL_type_4 : decode cL_type 4 = .ok (.iload_n 1, 1) := by decide +kernel
theorem dL_type_5 : decode cL_type 5 = .ok (.iload_n 2, 1) := by decide +kernel
theorem dL_type_6 : decode cL_type 6 = .ok (.iload_n 3, 1) := by decide +kernel
theorem dL_type_7 : decode cL_type 7 = .ok (.invokevirtual 7, 3) := by decide +kernel
theorem dL_type_10 : decode cL_type 10 = .ok (.i2l, 1) := by decide +kernel
theorem dL_type_11 : decode cL_type 11 = .ok (.lastore, 1) := by decide +kernel
theorem dL_type_12 : decode cL_type 12 = .ok (.goto 15, 3) := by decide +kernel
theorem dL_type_15 : decode cL_type 15 = .ok (.astore 5, 2) := by decide +kernel
theorem dL_type_17 : decode cL_type 17 = .ok (.iconst 1, 1) := by decide +kernel
theorem dL_type_18 : decode cL_type 18 = .ok (.ireturn, 1) := by decide +kernel
theorem dL_type_19 : decode cL_type 19 = .ok (.astore 5, 2) := by decide +kernel
theorem dL_type_21 : decode cL_type 21 = .ok (.iconst 2, 1) := by decide +kernel
theorem dL_type_22 : decode cL_type 22 = .ok (.ireturn, 1) := by decide +kernel
theorem dL_type_23 : decode cL_type 23 = .ok (.astore 5, 2) := by decide +kernel
theorem dL_type_25 : decode cL_type 25 = .ok (.iconst 3, 1) := by decide +kernel
theorem dL_type_26 : decode cL_type 26 = .ok (.ireturn, 1) := by decide +kernel
theorem dL_type_27 : decode cL_type 27 = .ok (.iconst 0, 1) := by decide +kernel
theorem dL_type_28 : decode cL_type 28 = .ok (.ireturn, 1) := by decide +kernel
theorem dL_erase_0 : decode cL_erase 0 = .ok (.aload_n 3, 1) := by decide +kernel
theorem dL_erase_1 : decode cL_erase 1 = .ok (.iconst 0, 1) := by decide +kernel
theorem dL_erase_2 : decode cL_erase 2 = .ok (.aload_n 0, 1) := by decide +kernel
theorem dL_erase_3 : decode cL_erase 3 = .ok (.iload_n 1, 1) := by decide +kernel
theorem dL_erase_4 : decode cL_erase 4 = .ok (.iload_n 2, 1) := by decide +kernel
theorem dL_erase_5 : decode cL_erase 5 = .ok (.invokevirtual 19, 3) := by decide +kernel
theorem dL_erase_8 : decode cL_erase 8 = .ok (.i2l, 1) := by decide +kernel
theorem dL_erase_9 : decode cL_erase 9 = .ok (.lastore, 1) := by decide +kernel
theorem dL_erase_10 : decode cL_erase 10 = .ok (.goto 11, 3) := by decide +kernel
theorem dL_erase_13 : decode cL_erase 13 = .ok (.astore 4, 2) := by decide +kernel
theorem dL_erase_15 : decode cL_erase 15 = .ok (.iconst 1, 1) := by decide +kernel
theorem dL_erase_16 : decode cL_erase 16 = .ok (.ireturn, 1) := by decide +kernel
theorem dL_erase_17 : decode cL_erase 17 = .ok (.astore 4, 2) := by decide +kernel
theorem dL_erase_19 : decode cL_erase 19 = .ok (.iconst 2, 1) := by decide +kernel
theorem dL_erase_20 : decode cL_erase 20 = .ok (.ireturn, 1) := by decide +kernel
theorem dL_erase_21 : decode cL_erase 21 = .ok (.iconst 0, 1) := by decide +kernel
theorem dL_erase_22 : decode cL_erase 22 = .ok (.ireturn, 1) := by decide +kernel
theorem dL_moveTo_0 : decode cL_moveTo 0 = .ok (.aload 4, 2) := by decide +kernel
theorem dL_moveTo_2 : decode cL_moveTo 2 = .ok (.iconst 0, 1) := by decide +kernel
theorem dL_moveTo_3 : decode cL_moveTo 3 = .ok (.aload_n 0, 1) := by decide +kernel
theorem dL_moveTo_4 : decode cL_moveTo 4 = .ok (.iload_n 1, 1) := by decide +kernel
theorem dL_moveTo_5 : decode cL_moveTo 5 = .ok (.iload_n 2, 1) := by decide +kernel
theorem dL_moveTo_6 : decode cL_moveTo 6 = .ok (.iload_n 3, 1) := by decide +kernel
theorem dL_moveTo_7 : decode cL_moveTo 7 = .ok (.invokevirtual 23, 3) := by decide +kernel
theorem dL_moveTo_10 : decode cL_moveTo 10 = .ok (.i2l, 1) := by decide +kernel
theorem dL_moveTo_11 : decode cL_moveTo 11 = .ok (.lastore, 1) := by decide +kernel
theorem dL_moveTo_12 : decode cL_moveTo 12 = .ok (.goto 7, 3) := by decide +kernel
theorem dL_moveTo_15 : decode cL_moveTo 15 = .ok (.astore 5, 2) := by decide +kernel
theorem dL_moveTo_17 : decode cL_moveTo 17 = .ok (.iconst 1, 1) := by decide +kernel
theorem dL_moveTo_18 : decode cL_moveTo 18 = .ok (.ireturn, 1) := by decide +kernel
theorem dL_moveTo_19 : decode cL_moveTo 19 = .ok (.iconst 0, 1) := by decide +kernel
theorem dL_moveTo_20 : decode cL_moveTo 20 = .ok (.ireturn, 1) := by decide +kernel
theorem dL_undo_0 : decode cL_undo 0 = .ok (.aload_n 2, 1) := by decide +kernel
theorem dL_undo_1 : decode cL_undo 1 = .ok (.iconst 0, 1) := by decide +kernel
theorem dL_undo_2 : decode cL_undo 2 = .ok (.aload_n 0, 1) := by decide +kernel
theorem dL_undo_3 : decode cL_undo 3 = .ok (.iload_n 1, 1) := by decide +kernel
theorem dL_undo_4 : decode cL_undo 4 = .ok (.invokevirtual 27, 3) := by decide +kernel
theorem dL_undo_7 : decode cL_undo 7 = .ok (.i2l, 1) := by decide +kernel
theorem dL_undo_8 : decode cL_undo 8 = .ok (.lastore, 1) := by decide +kernel
theorem dL_undo_9 : decode cL_undo 9 = .ok (.goto 9, 3) := by decide +kernel
theorem dL_undo_12 : decode cL_undo 12 = .ok (.astore_n 3, 1) := by decide +kernel
theorem dL_undo_13 : decode cL_undo 13 = .ok (.iconst 1, 1) := by decide +kernel
theorem dL_undo_14 : decode cL_undo 14 = .ok (.ireturn, 1) := by decide +kernel
theorem dL_undo_15 : decode cL_undo 15 = .ok (.astore_n 3, 1) := by decide +kernel
theorem dL_undo_16 : decode cL_undo 16 = .ok (.iconst 2, 1) := by decide +kernel
theorem dL_undo_17 : decode cL_undo 17 = .ok (.ireturn, 1) := by decide +kernel
theorem dL_undo_18 : decode cL_undo 18 = .ok (.iconst 0, 1) := by decide +kernel
theorem dL_undo_19 : decode cL_undo 19 = .ok (.ireturn, 1) := by decide +kernel
theorem dL_redo_0 : decode cL_redo 0 = .ok (.aload_n 2, 1) := by decide +kernel
theorem dL_redo_1 : decode cL_redo 1 = .ok (.iconst 0, 1) := by decide +kernel
theorem dL_redo_2 : decode cL_redo 2 = .ok (.aload_n 0, 1) := by decide +kernel
theorem dL_redo_3 : decode cL_redo 3 = .ok (.iload_n 1, 1) := by decide +kernel
theorem dL_redo_4 : decode cL_redo 4 = .ok (.invokevirtual 31, 3) := by decide +kernel
theorem dL_redo_7 : decode cL_redo 7 = .ok (.i2l, 1) := by decide +kernel
theorem dL_redo_8 : decode cL_redo 8 = .ok (.lastore, 1) := by decide +kernel
theorem dL_redo_9 : decode cL_redo 9 = .ok (.goto 9, 3) := by decide +kernel
theorem dL_redo_12 : decode cL_redo 12 = .ok (.astore_n 3, 1) := by decide +kernel
theorem dL_redo_13 : decode cL_redo 13 = .ok (.iconst 1, 1) := by decide +kernel
theorem dL_redo_14 : decode cL_redo 14 = .ok (.ireturn, 1) := by decide +kernel
theorem dL_redo_15 : decode cL_redo 15 = .ok (.astore_n 3, 1) := by decide +kernel
theorem dL_redo_16 : decode cL_redo 16 = .ok (.iconst 2, 1) := by decide +kernel
theorem dL_redo_17 : decode cL_redo 17 = .ok (.ireturn, 1) := by decide +kernel
theorem dL_redo_18 : decode cL_redo 18 = .ok (.iconst 0, 1) := by decide +kernel
theorem dL_redo_19 : decode cL_redo 19 = .ok (.ireturn, 1) := by decide +kernel
theorem dL_place_0 : decode cL_place 0 = .ok (.aload_n 3, 1) := by decide +kernel
theorem dL_place_1 : decode cL_place 1 = .ok (.iconst 0, 1) := by decide +kernel
theorem dL_place_2 : decode cL_place 2 = .ok (.aload_n 0, 1) := by decide +kernel
theorem dL_place_3 : decode cL_place 3 = .ok (.iload_n 1, 1) := by decide +kernel
theorem dL_place_4 : decode cL_place 4 = .ok (.iload_n 2, 1) := by decide +kernel
theorem dL_place_5 : decode cL_place 5 = .ok (.invokevirtual 34, 3) := by decide +kernel
theorem dL_place_8 : decode cL_place 8 = .ok (.i2l, 1) := by decide +kernel
theorem dL_place_9 : decode cL_place 9 = .ok (.lastore, 1) := by decide +kernel
theorem dL_place_10 : decode cL_place 10 = .ok (.goto 7, 3) := by decide +kernel
theorem dL_place_13 : decode cL_place 13 = .ok (.astore 4, 2) := by decide +kernel
theorem dL_place_15 : decode cL_place 15 = .ok (.iconst 1, 1) := by decide +kernel
theorem dL_place_16 : decode cL_place 16 = .ok (.ireturn, 1) := by decide +kernel
theorem dL_place_17 : decode cL_place 17 = .ok (.iconst 0, 1) := by decide +kernel
theorem dL_place_18 : decode cL_place 18 = .ok (.ireturn, 1) := by decide +kernel
theorem dL_length_0 : decode cL_length 0 = .ok (.aload_n 2, 1) := by decide +kernel
theorem dL_length_1 : decode cL_length 1 = .ok (.iconst 0, 1) := by decide +kernel
theorem dL_length_2 : decode cL_length 2 = .ok (.aload_n 0, 1) := by decide +kernel
theorem dL_length_3 : decode cL_length 3 = .ok (.iload_n 1, 1) := by decide +kernel
theorem dL_length_4 : decode cL_length 4 = .ok (.invokevirtual 37, 3) := by decide +kernel
theorem dL_length_7 : decode cL_length 7 = .ok (.i2l, 1) := by decide +kernel
theorem dL_length_8 : decode cL_length 8 = .ok (.lastore, 1) := by decide +kernel
theorem dL_length_9 : decode cL_length 9 = .ok (.goto 6, 3) := by decide +kernel
theorem dL_length_12 : decode cL_length 12 = .ok (.astore_n 3, 1) := by decide +kernel
theorem dL_length_13 : decode cL_length 13 = .ok (.iconst 1, 1) := by decide +kernel
theorem dL_length_14 : decode cL_length 14 = .ok (.ireturn, 1) := by decide +kernel
theorem dL_length_15 : decode cL_length 15 = .ok (.iconst 0, 1) := by decide +kernel
theorem dL_length_16 : decode cL_length 16 = .ok (.ireturn, 1) := by decide +kernel
theorem dL_letter_0 : decode cL_letter 0 = .ok (.aload_n 3, 1) := by decide +kernel
theorem dL_letter_1 : decode cL_letter 1 = .ok (.iconst 0, 1) := by decide +kernel
theorem dL_letter_2 : decode cL_letter 2 = .ok (.aload_n 0, 1) := by decide +kernel
theorem dL_letter_3 : decode cL_letter 3 = .ok (.iload_n 1, 1) := by decide +kernel
theorem dL_letter_4 : decode cL_letter 4 = .ok (.iload_n 2, 1) := by decide +kernel
theorem dL_letter_5 : decode cL_letter 5 = .ok (.invokevirtual 40, 3) := by decide +kernel
theorem dL_letter_8 : decode cL_letter 8 = .ok (.i2l, 1) := by decide +kernel
theorem dL_letter_9 : decode cL_letter 9 = .ok (.lastore, 1) := by decide +kernel
theorem dL_letter_10 : decode cL_letter 10 = .ok (.goto 7, 3) := by decide +kernel
theorem dL_letter_13 : decode cL_letter 13 = .ok (.astore 4, 2) := by decide +kernel
theorem dL_letter_15 : decode cL_letter 15 = .ok (.iconst 1, 1) := by decide +kernel
theorem dL_letter_16 : decode cL_letter 16 = .ok (.ireturn, 1) := by decide +kernel
theorem dL_letter_17 : decode cL_letter 17 = .ok (.iconst 0, 1) := by decide +kernel
theorem dL_letter_18 : decode cL_letter 18 = .ok (.ireturn, 1) := by decide +kernel
theorem dL_letterAnew_0 : decode cL_letterAnew 0 = .ok (.aload_n 3, 1) := by decide +kernel
theorem dL_letterAnew_1 : decode cL_letterAnew 1 = .ok (.iconst 0, 1) := by decide +kernel
theorem dL_letterAnew_2 : decode cL_letterAnew 2 = .ok (.aload_n 0, 1) := by decide +kernel
theorem dL_letterAnew_3 : decode cL_letterAnew 3 = .ok (.iload_n 1, 1) := by decide +kernel
theorem dL_letterAnew_4 : decode cL_letterAnew 4 = .ok (.iload_n 2, 1) := by decide +kernel
theorem dL_letterAnew_5 : decode cL_letterAnew 5 = .ok (.invokevirtual 44, 3) := by decide +kernel
theorem dL_letterAnew_8 : decode cL_letterAnew 8 = .ok (.i2l, 1) := by decide +kernel
theorem dL_letterAnew_9 : decode cL_letterAnew 9 = .ok (.lastore, 1) := by decide +kernel
theorem dL_letterAnew_10 : decode cL_letterAnew 10 = .ok (.goto 7, 3) := by decide +kernel
theorem dL_letterAnew_13 : decode cL_letterAnew 13 = .ok (.astore 4, 2) := by decide +kernel
theorem dL_letterAnew_15 : decode cL_letterAnew 15 = .ok (.iconst 1, 1) := by decide +kernel
theorem dL_letterAnew_16 : decode cL_letterAnew 16 = .ok (.ireturn, 1) := by decide +kernel
theorem dL_letterAnew_17 : decode cL_letterAnew 17 = .ok (.iconst 0, 1) := by decide +kernel
theorem dL_letterAnew_18 : decode cL_letterAnew 18 = .ok (.ireturn, 1) := by decide +kernel
theorem dL_version_0 : decode cL_version 0 = .ok (.aload_n 2, 1) := by decide +kernel
theorem dL_version_1 : decode cL_version 1 = .ok (.iconst 0, 1) := by decide +kernel
theorem dL_version_2 : decode cL_version 2 = .ok (.aload_n 0, 1) := by decide +kernel
theorem dL_version_3 : decode cL_version 3 = .ok (.iload_n 1, 1) := by decide +kernel
theorem dL_version_4 : decode cL_version 4 = .ok (.invokevirtual 47, 3) := by decide +kernel
theorem dL_version_7 : decode cL_version 7 = .ok (.i2l, 1) := by decide +kernel
theorem dL_version_8 : decode cL_version 8 = .ok (.lastore, 1) := by decide +kernel
theorem dL_version_9 : decode cL_version 9 = .ok (.goto 6, 3) := by decide +kernel
theorem dL_version_12 : decode cL_version 12 = .ok (.astore_n 3, 1) := by decide +kernel
theorem dL_version_13 : decode cL_version 13 = .ok (.iconst 1, 1) := by decide +kernel
theorem dL_version_14 : decode cL_version 14 = .ok (.ireturn, 1) := by decide +kernel
theorem dL_version_15 : decode cL_version 15 = .ok (.iconst 0, 1) := by decide +kernel
theorem dL_version_16 : decode cL_version 16 = .ok (.ireturn, 1) := by decide +kernel
theorem dL_ask_0 : decode cL_ask 0 = .ok (.aload 4, 2) := by decide +kernel
theorem dL_ask_2 : decode cL_ask 2 = .ok (.iconst 0, 1) := by decide +kernel
theorem dL_ask_3 : decode cL_ask 3 = .ok (.aload_n 0, 1) := by decide +kernel
theorem dL_ask_4 : decode cL_ask 4 = .ok (.iload_n 1, 1) := by decide +kernel
theorem dL_ask_5 : decode cL_ask 5 = .ok (.iload_n 2, 1) := by decide +kernel
theorem dL_ask_6 : decode cL_ask 6 = .ok (.iload_n 3, 1) := by decide +kernel
theorem dL_ask_7 : decode cL_ask 7 = .ok (.invokevirtual 50, 3) := by decide +kernel
theorem dL_ask_10 : decode cL_ask 10 = .ok (.i2l, 1) := by decide +kernel
theorem dL_ask_11 : decode cL_ask 11 = .ok (.lastore, 1) := by decide +kernel
theorem dL_ask_12 : decode cL_ask 12 = .ok (.goto 15, 3) := by decide +kernel
theorem dL_ask_15 : decode cL_ask 15 = .ok (.astore 5, 2) := by decide +kernel
theorem dL_ask_17 : decode cL_ask 17 = .ok (.iconst 1, 1) := by decide +kernel
theorem dL_ask_18 : decode cL_ask 18 = .ok (.ireturn, 1) := by decide +kernel
theorem dL_ask_19 : decode cL_ask 19 = .ok (.astore 5, 2) := by decide +kernel
theorem dL_ask_21 : decode cL_ask 21 = .ok (.iconst 2, 1) := by decide +kernel
theorem dL_ask_22 : decode cL_ask 22 = .ok (.ireturn, 1) := by decide +kernel
theorem dL_ask_23 : decode cL_ask 23 = .ok (.astore 5, 2) := by decide +kernel
theorem dL_ask_25 : decode cL_ask 25 = .ok (.iconst 3, 1) := by decide +kernel
theorem dL_ask_26 : decode cL_ask 26 = .ok (.ireturn, 1) := by decide +kernel
theorem dL_ask_27 : decode cL_ask 27 = .ok (.iconst 0, 1) := by decide +kernel
theorem dL_ask_28 : decode cL_ask 28 = .ok (.ireturn, 1) := by decide +kernel
theorem dL_come_0 : decode cL_come 0 = .ok (.aload_n 2, 1) := by decide +kernel
theorem dL_come_1 : decode cL_come 1 = .ok (.iconst 0, 1) := by decide +kernel
theorem dL_come_2 : decode cL_come 2 = .ok (.aload_n 0, 1) := by decide +kernel
theorem dL_come_3 : decode cL_come 3 = .ok (.iload_n 1, 1) := by decide +kernel
theorem dL_come_4 : decode cL_come 4 = .ok (.invokevirtual 53, 3) := by decide +kernel
theorem dL_come_7 : decode cL_come 7 = .ok (.i2l, 1) := by decide +kernel
theorem dL_come_8 : decode cL_come 8 = .ok (.lastore, 1) := by decide +kernel
theorem dL_come_9 : decode cL_come 9 = .ok (.goto 9, 3) := by decide +kernel
theorem dL_come_12 : decode cL_come 12 = .ok (.astore_n 3, 1) := by decide +kernel
theorem dL_come_13 : decode cL_come 13 = .ok (.iconst 1, 1) := by decide +kernel
theorem dL_come_14 : decode cL_come 14 = .ok (.ireturn, 1) := by decide +kernel
theorem dL_come_15 : decode cL_come 15 = .ok (.astore_n 3, 1) := by decide +kernel
theorem dL_come_16 : decode cL_come 16 = .ok (.iconst 2, 1) := by decide +kernel
theorem dL_come_17 : decode cL_come 17 = .ok (.ireturn, 1) := by decide +kernel
theorem dL_come_18 : decode cL_come 18 = .ok (.iconst 0, 1) := by decide +kernel
theorem dL_come_19 : decode cL_come 19 = .ok (.ireturn, 1) := by decide +kernel
theorem dL_drop_0 : decode cL_drop 0 = .ok (.aload_n 2, 1) := by decide +kernel
theorem dL_drop_1 : decode cL_drop 1 = .ok (.iconst 0, 1) := by decide +kernel
theorem dL_drop_2 : decode cL_drop 2 = .ok (.aload_n 0, 1) := by decide +kernel
theorem dL_drop_3 : decode cL_drop 3 = .ok (.iload_n 1, 1) := by decide +kernel
theorem dL_drop_4 : decode cL_drop 4 = .ok (.invokevirtual 56, 3) := by decide +kernel
theorem dL_drop_7 : decode cL_drop 7 = .ok (.i2l, 1) := by decide +kernel
theorem dL_drop_8 : decode cL_drop 8 = .ok (.lastore, 1) := by decide +kernel
theorem dL_drop_9 : decode cL_drop 9 = .ok (.goto 9, 3) := by decide +kernel
theorem dL_drop_12 : decode cL_drop 12 = .ok (.astore_n 3, 1) := by decide +kernel
theorem dL_drop_13 : decode cL_drop 13 = .ok (.iconst 1, 1) := by decide +kernel
theorem dL_drop_14 : decode cL_drop 14 = .ok (.ireturn, 1) := by decide +kernel
theorem dL_drop_15 : decode cL_drop 15 = .ok (.astore_n 3, 1) := by decide +kernel
theorem dL_drop_16 : decode cL_drop 16 = .ok (.iconst 2, 1) := by decide +kernel
theorem dL_drop_17 : decode cL_drop 17 = .ok (.ireturn, 1) := by decide +kernel
theorem dL_drop_18 : decode cL_drop 18 = .ok (.iconst 0, 1) := by decide +kernel
theorem dL_drop_19 : decode cL_drop 19 = .ok (.ireturn, 1) := by decide +kernel
theorem dL_state_0 : decode cL_state 0 = .ok (.aload_n 2, 1) := by decide +kernel
theorem dL_state_1 : decode cL_state 1 = .ok (.iconst 0, 1) := by decide +kernel
theorem dL_state_2 : decode cL_state 2 = .ok (.aload_n 0, 1) := by decide +kernel
theorem dL_state_3 : decode cL_state 3 = .ok (.iload_n 1, 1) := by decide +kernel
theorem dL_state_4 : decode cL_state 4 = .ok (.invokevirtual 59, 3) := by decide +kernel
theorem dL_state_7 : decode cL_state 7 = .ok (.i2l, 1) := by decide +kernel
theorem dL_state_8 : decode cL_state 8 = .ok (.lastore, 1) := by decide +kernel
theorem dL_state_9 : decode cL_state 9 = .ok (.goto 6, 3) := by decide +kernel
theorem dL_state_12 : decode cL_state 12 = .ok (.astore_n 3, 1) := by decide +kernel
theorem dL_state_13 : decode cL_state 13 = .ok (.iconst 1, 1) := by decide +kernel
theorem dL_state_14 : decode cL_state 14 = .ok (.ireturn, 1) := by decide +kernel
theorem dL_state_15 : decode cL_state 15 = .ok (.iconst 0, 1) := by decide +kernel
theorem dL_state_16 : decode cL_state 16 = .ok (.ireturn, 1) := by decide +kernel
theorem dL_spared_0 : decode cL_spared 0 = .ok (.aload_n 2, 1) := by decide +kernel
theorem dL_spared_1 : decode cL_spared 1 = .ok (.iconst 0, 1) := by decide +kernel
theorem dL_spared_2 : decode cL_spared 2 = .ok (.aload_n 0, 1) := by decide +kernel
theorem dL_spared_3 : decode cL_spared 3 = .ok (.iload_n 1, 1) := by decide +kernel
theorem dL_spared_4 : decode cL_spared 4 = .ok (.invokevirtual 62, 3) := by decide +kernel
theorem dL_spared_7 : decode cL_spared 7 = .ok (.i2l, 1) := by decide +kernel
theorem dL_spared_8 : decode cL_spared 8 = .ok (.lastore, 1) := by decide +kernel
theorem dL_spared_9 : decode cL_spared 9 = .ok (.goto 6, 3) := by decide +kernel
theorem dL_spared_12 : decode cL_spared 12 = .ok (.astore_n 3, 1) := by decide +kernel
theorem dL_spared_13 : decode cL_spared 13 = .ok (.iconst 1, 1) := by decide +kernel
theorem dL_spared_14 : decode cL_spared 14 = .ok (.ireturn, 1) := by decide +kernel
theorem dL_spared_15 : decode cL_spared 15 = .ok (.iconst 0, 1) := by decide +kernel
theorem dL_spared_16 : decode cL_spared 16 = .ok (.ireturn, 1) := by decide +kernel
theorem dL_lock_0 : decode cL_lock 0 = .ok (.aload_n 3, 1) := by decide +kernel
theorem dL_lock_1 : decode cL_lock 1 = .ok (.iconst 0, 1) := by decide +kernel
theorem dL_lock_2 : decode cL_lock 2 = .ok (.aload_n 0, 1) := by decide +kernel
theorem dL_lock_3 : decode cL_lock 3 = .ok (.iload_n 1, 1) := by decide +kernel
theorem dL_lock_4 : decode cL_lock 4 = .ok (.iload_n 2, 1) := by decide +kernel
theorem dL_lock_5 : decode cL_lock 5 = .ok (.invokevirtual 65, 3) := by decide +kernel
theorem dL_lock_8 : decode cL_lock 8 = .ok (.ifCond .eq 7, 3) := by decide +kernel
theorem dL_lock_11 : decode cL_lock 11 = .ok (.lconst 1, 1) := by decide +kernel
theorem dL_lock_12 : decode cL_lock 12 = .ok (.goto 4, 3) := by decide +kernel
theorem dL_lock_15 : decode cL_lock 15 = .ok (.lconst 0, 1) := by decide +kernel
theorem dL_lock_16 : decode cL_lock 16 = .ok (.lastore, 1) := by decide +kernel
theorem dL_lock_17 : decode cL_lock 17 = .ok (.goto 11, 3) := by decide +kernel
theorem dL_lock_20 : decode cL_lock 20 = .ok (.astore 4, 2) := by decide +kernel
theorem dL_lock_22 : decode cL_lock 22 = .ok (.iconst 1, 1) := by decide +kernel
theorem dL_lock_23 : decode cL_lock 23 = .ok (.ireturn, 1) := by decide +kernel
theorem dL_lock_24 : decode cL_lock 24 = .ok (.astore 4, 2) := by decide +kernel
theorem dL_lock_26 : decode cL_lock 26 = .ok (.iconst 2, 1) := by decide +kernel
theorem dL_lock_27 : decode cL_lock 27 = .ok (.ireturn, 1) := by decide +kernel
theorem dL_lock_28 : decode cL_lock 28 = .ok (.iconst 0, 1) := by decide +kernel
theorem dL_lock_29 : decode cL_lock 29 = .ok (.ireturn, 1) := by decide +kernel
theorem dL_save_0 : decode cL_save 0 = .ok (.aload 4, 2) := by decide +kernel
theorem dL_save_2 : decode cL_save 2 = .ok (.iconst 0, 1) := by decide +kernel
theorem dL_save_3 : decode cL_save 3 = .ok (.aload_n 0, 1) := by decide +kernel
theorem dL_save_4 : decode cL_save 4 = .ok (.iload_n 1, 1) := by decide +kernel
theorem dL_save_5 : decode cL_save 5 = .ok (.iload_n 2, 1) := by decide +kernel
theorem dL_save_6 : decode cL_save 6 = .ok (.iload_n 3, 1) := by decide +kernel
theorem dL_save_7 : decode cL_save 7 = .ok (.invokevirtual 69, 3) := by decide +kernel
theorem dL_save_10 : decode cL_save 10 = .ok (.i2l, 1) := by decide +kernel
theorem dL_save_11 : decode cL_save 11 = .ok (.lastore, 1) := by decide +kernel
theorem dL_save_12 : decode cL_save 12 = .ok (.goto 15, 3) := by decide +kernel
theorem dL_save_15 : decode cL_save 15 = .ok (.astore 5, 2) := by decide +kernel
theorem dL_save_17 : decode cL_save 17 = .ok (.iconst 1, 1) := by decide +kernel
theorem dL_save_18 : decode cL_save 18 = .ok (.ireturn, 1) := by decide +kernel
theorem dL_save_19 : decode cL_save 19 = .ok (.astore 5, 2) := by decide +kernel
theorem dL_save_21 : decode cL_save 21 = .ok (.iconst 2, 1) := by decide +kernel
theorem dL_save_22 : decode cL_save 22 = .ok (.ireturn, 1) := by decide +kernel
theorem dL_save_23 : decode cL_save 23 = .ok (.astore 5, 2) := by decide +kernel
theorem dL_save_25 : decode cL_save 25 = .ok (.iconst 3, 1) := by decide +kernel
theorem dL_save_26 : decode cL_save 26 = .ok (.ireturn, 1) := by decide +kernel
theorem dL_save_27 : decode cL_save 27 = .ok (.iconst 0, 1) := by decide +kernel
theorem dL_save_28 : decode cL_save 28 = .ok (.ireturn, 1) := by decide +kernel
theorem dL_savedVersion_0 : decode cL_savedVersion 0 = .ok (.aload_n 2, 1) := by decide +kernel
theorem dL_savedVersion_1 : decode cL_savedVersion 1 = .ok (.iconst 0, 1) := by decide +kernel
theorem dL_savedVersion_2 : decode cL_savedVersion 2 = .ok (.aload_n 0, 1) := by decide +kernel
theorem dL_savedVersion_3 : decode cL_savedVersion 3 = .ok (.iload_n 1, 1) := by decide +kernel
theorem dL_savedVersion_4 : decode cL_savedVersion 4 = .ok (.invokevirtual 72, 3) := by decide +kernel
theorem dL_savedVersion_7 : decode cL_savedVersion 7 = .ok (.i2l, 1) := by decide +kernel
theorem dL_savedVersion_8 : decode cL_savedVersion 8 = .ok (.lastore, 1) := by decide +kernel
theorem dL_savedVersion_9 : decode cL_savedVersion 9 = .ok (.goto 6, 3) := by decide +kernel
theorem dL_savedVersion_12 : decode cL_savedVersion 12 = .ok (.astore_n 3, 1) := by decide +kernel
theorem dL_savedVersion_13 : decode cL_savedVersion 13 = .ok (.iconst 1, 1) := by decide +kernel
theorem dL_savedVersion_14 : decode cL_savedVersion 14 = .ok (.ireturn, 1) := by decide +kernel
theorem dL_savedVersion_15 : decode cL_savedVersion 15 = .ok (.iconst 0, 1) := by decide +kernel
theorem dL_savedVersion_16 : decode cL_savedVersion 16 = .ok (.ireturn, 1) := by decide +kernel
theorem dL_savedLength_0 : decode cL_savedLength 0 = .ok (.aload_n 2, 1) := by decide +kernel
theorem dL_savedLength_1 : decode cL_savedLength 1 = .ok (.iconst 0, 1) := by decide +kernel
theorem dL_savedLength_2 : decode cL_savedLength 2 = .ok (.aload_n 0, 1) := by decide +kernel
theorem dL_savedLength_3 : decode cL_savedLength 3 = .ok (.iload_n 1, 1) := by decide +kernel
theorem dL_savedLength_4 : decode cL_savedLength 4 = .ok (.invokevirtual 75, 3) := by decide +kernel
theorem dL_savedLength_7 : decode cL_savedLength 7 = .ok (.i2l, 1) := by decide +kernel
theorem dL_savedLength_8 : decode cL_savedLength 8 = .ok (.lastore, 1) := by decide +kernel
theorem dL_savedLength_9 : decode cL_savedLength 9 = .ok (.goto 6, 3) := by decide +kernel
theorem dL_savedLength_12 : decode cL_savedLength 12 = .ok (.astore_n 3, 1) := by decide +kernel
theorem dL_savedLength_13 : decode cL_savedLength 13 = .ok (.iconst 1, 1) := by decide +kernel
theorem dL_savedLength_14 : decode cL_savedLength 14 = .ok (.ireturn, 1) := by decide +kernel
theorem dL_savedLength_15 : decode cL_savedLength 15 = .ok (.iconst 0, 1) := by decide +kernel
theorem dL_savedLength_16 : decode cL_savedLength 16 = .ok (.ireturn, 1) := by decide +kernel
theorem dL_savedLetter_0 : decode cL_savedLetter 0 = .ok (.aload_n 3, 1) := by decide +kernel
theorem dL_savedLetter_1 : decode cL_savedLetter 1 = .ok (.iconst 0, 1) := by decide +kernel
theorem dL_savedLetter_2 : decode cL_savedLetter 2 = .ok (.aload_n 0, 1) := by decide +kernel
theorem dL_savedLetter_3 : decode cL_savedLetter 3 = .ok (.iload_n 1, 1) := by decide +kernel
theorem dL_savedLetter_4 : decode cL_savedLetter 4 = .ok (.iload_n 2, 1) := by decide +kernel
theorem dL_savedLetter_5 : decode cL_savedLetter 5 = .ok (.invokevirtual 78, 3) := by decide +kernel
theorem dL_savedLetter_8 : decode cL_savedLetter 8 = .ok (.i2l, 1) := by decide +kernel
theorem dL_savedLetter_9 : decode cL_savedLetter 9 = .ok (.lastore, 1) := by decide +kernel
theorem dL_savedLetter_10 : decode cL_savedLetter 10 = .ok (.goto 7, 3) := by decide +kernel
theorem dL_savedLetter_13 : decode cL_savedLetter 13 = .ok (.astore 4, 2) := by decide +kernel
theorem dL_savedLetter_15 : decode cL_savedLetter 15 = .ok (.iconst 1, 1) := by decide +kernel
theorem dL_savedLetter_16 : decode cL_savedLetter 16 = .ok (.ireturn, 1) := by decide +kernel
theorem dL_savedLetter_17 : decode cL_savedLetter 17 = .ok (.iconst 0, 1) := by decide +kernel
theorem dL_savedLetter_18 : decode cL_savedLetter 18 = .ok (.ireturn, 1) := by decide +kernel
theorem dL_law_0 : decode cL_law 0 = .ok (.new 8, 3) := by decide +kernel
theorem dL_law_3 : decode cL_law 3 = .ok (.dup, 1) := by decide +kernel
theorem dL_law_4 : decode cL_law 4 = .ok (.invokespecial 81, 3) := by decide +kernel
theorem dL_law_7 : decode cL_law 7 = .ok (.astore_n 1, 1) := by decide +kernel
theorem dL_law_8 : decode cL_law 8 = .ok (.new 82, 3) := by decide +kernel
theorem dL_law_11 : decode cL_law 11 = .ok (.dup, 1) := by decide +kernel
theorem dL_law_12 : decode cL_law 12 = .ok (.invokespecial 84, 3) := by decide +kernel
theorem dL_law_15 : decode cL_law 15 = .ok (.astore_n 2, 1) := by decide +kernel
theorem dL_law_16 : decode cL_law 16 = .ok (.iconst 1, 1) := by decide +kernel
theorem dL_law_17 : decode cL_law 17 = .ok (.newarray .long, 2) := by decide +kernel
theorem dL_law_19 : decode cL_law 19 = .ok (.astore_n 3, 1) := by decide +kernel
theorem dL_law_20 : decode cL_law 20 = .ok (.iconst 0, 1) := by decide +kernel
theorem dL_law_21 : decode cL_law 21 = .ok (.istore 4, 2) := by decide +kernel
theorem dL_law_23 : decode cL_law 23 = .ok (.iload 4, 2) := by decide +kernel
theorem dL_law_25 : decode cL_law 25 = .ok (.aload_n 0, 1) := by decide +kernel
theorem dL_law_26 : decode cL_law 26 = .ok (.arraylength, 1) := by decide +kernel
theorem dL_law_27 : decode cL_law 27 = .ok (.iconst 4, 1) := by decide +kernel
theorem dL_law_28 : decode cL_law 28 = .ok (.isub, 1) := by decide +kernel
theorem dL_law_29 : decode cL_law 29 = .ok (.if_icmp .gt 1440, 3) := by decide +kernel
theorem dL_law_32 : decode cL_law 32 = .ok (.aload_n 0, 1) := by decide +kernel
theorem dL_law_33 : decode cL_law 33 = .ok (.iload 4, 2) := by decide +kernel
theorem dL_law_35 : decode cL_law 35 = .ok (.iaload, 1) := by decide +kernel
theorem dL_law_36 : decode cL_law 36 = .ok (.bipush 31, 2) := by decide +kernel
theorem dL_law_38 : decode cL_law 38 = .ok (.iand, 1) := by decide +kernel
theorem dL_law_39 : decode cL_law 39 = .ok (.tableswitch 1424 0 21 #[101, 183, 251, 331, 387, 443, 511, 567, 635, 703, 759, 839, 895, 951, 1007, 1063, 1138, 1218, 1231, 1244, 1300, 1356], 101) := by decide +kernel
theorem dL_law_140 : decode cL_law 140 = .ok (.aload_n 1, 1) := by decide +kernel
theorem dL_law_141 : decode cL_law 141 = .ok (.aload_n 0, 1) := by decide +kernel
theorem dL_law_142 : decode cL_law 142 = .ok (.iload 4, 2) := by decide +kernel
theorem dL_law_144 : decode cL_law 144 = .ok (.iconst 1, 1) := by decide +kernel
theorem dL_law_145 : decode cL_law 145 = .ok (.iadd, 1) := by decide +kernel
theorem dL_law_146 : decode cL_law 146 = .ok (.iaload, 1) := by decide +kernel
theorem dL_law_147 : decode cL_law 147 = .ok (.aload_n 0, 1) := by decide +kernel
theorem dL_law_148 : decode cL_law 148 = .ok (.iload 4, 2) := by decide +kernel
theorem dL_law_150 : decode cL_law 150 = .ok (.iconst 2, 1) := by decide +kernel
theorem dL_law_151 : decode cL_law 151 = .ok (.iadd, 1) := by decide +kernel
theorem dL_law_152 : decode cL_law 152 = .ok (.iaload, 1) := by decide +kernel
theorem dL_law_153 : decode cL_law 153 = .ok (.aload_n 0, 1) := by decide +kernel
theorem dL_law_154 : decode cL_law 154 = .ok (.iload 4, 2) := by decide +kernel
theorem dL_law_156 : decode cL_law 156 = .ok (.iconst 3, 1) := by decide +kernel
theorem dL_law_157 : decode cL_law 157 = .ok (.iadd, 1) := by decide +kernel
theorem dL_law_158 : decode cL_law 158 = .ok (.iaload, 1) := by decide +kernel
theorem dL_law_159 : decode cL_law 159 = .ok (.i2c, 1) := by decide +kernel
theorem dL_law_160 : decode cL_law 160 = .ok (.aload_n 3, 1) := by decide +kernel
theorem dL_law_161 : decode cL_law 161 = .ok (.invokestatic 85, 3) := by decide +kernel
theorem dL_law_164 : decode cL_law 164 = .ok (.istore 5, 2) := by decide +kernel
theorem dL_law_166 : decode cL_law 166 = .ok (.aload_n 2, 1) := by decide +kernel
theorem dL_law_167 : decode cL_law 167 = .ok (.aload_n 0, 1) := by decide +kernel
theorem dL_law_168 : decode cL_law 168 = .ok (.iload 4, 2) := by decide +kernel
theorem dL_law_170 : decode cL_law 170 = .ok (.iconst 1, 1) := by decide +kernel
theorem dL_law_171 : decode cL_law 171 = .ok (.iadd, 1) := by decide +kernel
theorem dL_law_172 : decode cL_law 172 = .ok (.iaload, 1) := by decide +kernel
theorem dL_law_173 : decode cL_law 173 = .ok (.aload_n 0, 1) := by decide +kernel
theorem dL_law_174 : decode cL_law 174 = .ok (.iload 4, 2) := by decide +kernel
theorem dL_law_176 : decode cL_law 176 = .ok (.iconst 2, 1) := by decide +kernel
theorem dL_law_177 : decode cL_law 177 = .ok (.iadd, 1) := by decide +kernel
theorem dL_law_178 : decode cL_law 178 = .ok (.iaload, 1) := by decide +kernel
theorem dL_law_179 : decode cL_law 179 = .ok (.aload_n 0, 1) := by decide +kernel
theorem dL_law_180 : decode cL_law 180 = .ok (.iload 4, 2) := by decide +kernel
theorem dL_law_182 : decode cL_law 182 = .ok (.iconst 3, 1) := by decide +kernel
theorem dL_law_183 : decode cL_law 183 = .ok (.iadd, 1) := by decide +kernel
theorem dL_law_184 : decode cL_law 184 = .ok (.iaload, 1) := by decide +kernel
theorem dL_law_185 : decode cL_law 185 = .ok (.i2c, 1) := by decide +kernel
theorem dL_law_186 : decode cL_law 186 = .ok (.invokevirtual 90, 3) := by decide +kernel
theorem dL_law_189 : decode cL_law 189 = .ok (.istore 6, 2) := by decide +kernel
theorem dL_law_191 : decode cL_law 191 = .ok (.aload_n 2, 1) := by decide +kernel
theorem dL_law_192 : decode cL_law 192 = .ok (.invokevirtual 91, 3) := by decide +kernel
theorem dL_law_195 : decode cL_law 195 = .ok (.iload 5, 2) := by decide +kernel
theorem dL_law_197 : decode cL_law 197 = .ok (.if_icmp .eq 5, 3) := by decide +kernel
theorem dL_law_200 : decode cL_law 200 = .ok (.iconst 0, 1) := by decide +kernel
theorem dL_law_201 : decode cL_law 201 = .ok (.ireturn, 1) := by decide +kernel
theorem dL_law_202 : decode cL_law 202 = .ok (.iload 5, 2) := by decide +kernel
theorem dL_law_204 : decode cL_law 204 = .ok (.ifCond .ne 15, 3) := by decide +kernel
theorem dL_law_207 : decode cL_law 207 = .ok (.aload_n 3, 1) := by decide +kernel
theorem dL_law_208 : decode cL_law 208 = .ok (.iconst 0, 1) := by decide +kernel
theorem dL_law_209 : decode cL_law 209 = .ok (.laload, 1) := by decide +kernel
theorem dL_law_210 : decode cL_law 210 = .ok (.iload 6, 2) := by decide +kernel
theorem dL_law_212 : decode cL_law 212 = .ok (.i2l, 1) := by decide +kernel
theorem dL_law_213 : decode cL_law 213 = .ok (.lcmp, 1) := by decide +kernel
theorem dL_law_214 : decode cL_law 214 = .ok (.ifCond .eq 5, 3) := by decide +kernel
theorem dL_law_217 : decode cL_law 217 = .ok (.iconst 0, 1) := by decide +kernel
theorem dL_law_218 : decode cL_law 218 = .ok (.ireturn, 1) := by decide +kernel
theorem dL_law_219 : decode cL_law 219 = .ok (.goto 1244, 3) := by decide +kernel
theorem dL_law_222 : decode cL_law 222 = .ok (.aload_n 1, 1) := by decide +kernel
theorem dL_law_223 : decode cL_law 223 = .ok (.aload_n 0, 1) := by decide +kernel
theorem dL_law_224 : decode cL_law 224 = .ok (.iload 4, 2) := by decide +kernel
theorem dL_law_226 : decode cL_law 226 = .ok (.iconst 1, 1) := by decide +kernel
theorem dL_law_227 : decode cL_law 227 = .ok (.iadd, 1) := by decide +kernel
theorem dL_law_228 : decode cL_law 228 = .ok (.iaload, 1) := by decide +kernel
theorem dL_law_229 : decode cL_law 229 = .ok (.aload_n 0, 1) := by decide +kernel
theorem dL_law_230 : decode cL_law 230 = .ok (.iload 4, 2) := by decide +kernel
theorem dL_law_232 : decode cL_law 232 = .ok (.iconst 2, 1) := by decide +kernel
theorem dL_law_233 : decode cL_law 233 = .ok (.iadd, 1) := by decide +kernel
theorem dL_law_234 : decode cL_law 234 = .ok (.iaload, 1) := by decide +kernel
theorem dL_law_235 : decode cL_law 235 = .ok (.aload_n 3, 1) := by decide +kernel
theorem dL_law_236 : decode cL_law 236 = .ok (.invokestatic 95, 3) := by decide +kernel
theorem dL_law_239 : decode cL_law 239 = .ok (.istore 5, 2) := by decide +kernel
theorem dL_law_241 : decode cL_law 241 = .ok (.aload_n 2, 1) := by decide +kernel
theorem dL_law_242 : decode cL_law 242 = .ok (.aload_n 0, 1) := by decide +kernel
theorem dL_law_243 : decode cL_law 243 = .ok (.iload 4, 2) := by decide +kernel
theorem dL_law_245 : decode cL_law 245 = .ok (.iconst 1, 1) := by decide +kernel
theorem dL_law_246 : decode cL_law 246 = .ok (.iadd, 1) := by decide +kernel
theorem dL_law_247 : decode cL_law 247 = .ok (.iaload, 1) := by decide +kernel
theorem dL_law_248 : decode cL_law 248 = .ok (.aload_n 0, 1) := by decide +kernel
theorem dL_law_249 : decode cL_law 249 = .ok (.iload 4, 2) := by decide +kernel
theorem dL_law_251 : decode cL_law 251 = .ok (.iconst 2, 1) := by decide +kernel
theorem dL_law_252 : decode cL_law 252 = .ok (.iadd, 1) := by decide +kernel
theorem dL_law_253 : decode cL_law 253 = .ok (.iaload, 1) := by decide +kernel
theorem dL_law_254 : decode cL_law 254 = .ok (.invokevirtual 98, 3) := by decide +kernel
theorem dL_law_257 : decode cL_law 257 = .ok (.istore 6, 2) := by decide +kernel
theorem dL_law_259 : decode cL_law 259 = .ok (.aload_n 2, 1) := by decide +kernel
theorem dL_law_260 : decode cL_law 260 = .ok (.invokevirtual 91, 3) := by decide +kernel
theorem dL_law_263 : decode cL_law 263 = .ok (.iload 5, 2) := by decide +kernel
theorem dL_law_265 : decode cL_law 265 = .ok (.if_icmp .eq 5, 3) := by decide +kernel
theorem dL_law_268 : decode cL_law 268 = .ok (.iconst 0, 1) := by decide +kernel
theorem dL_law_269 : decode cL_law 269 = .ok (.ireturn, 1) := by decide +kernel
theorem dL_law_270 : decode cL_law 270 = .ok (.iload 5, 2) := by decide +kernel
theorem dL_law_272 : decode cL_law 272 = .ok (.ifCond .ne 15, 3) := by decide +kernel
theorem dL_law_275 : decode cL_law 275 = .ok (.aload_n 3, 1) := by decide +kernel
theorem dL_law_276 : decode cL_law 276 = .ok (.iconst 0, 1) := by decide +kernel
theorem dL_law_277 : decode cL_law 277 = .ok (.laload, 1) := by decide +kernel
theorem dL_law_278 : decode cL_law 278 = .ok (.iload 6, 2) := by decide +kernel
theorem dL_law_280 : decode cL_law 280 = .ok (.i2l, 1) := by decide +kernel
theorem dL_law_281 : decode cL_law 281 = .ok (.lcmp, 1) := by decide +kernel
theorem dL_law_282 : decode cL_law 282 = .ok (.ifCond .eq 5, 3) := by decide +kernel
theorem dL_law_285 : decode cL_law 285 = .ok (.iconst 0, 1) := by decide +kernel
theorem dL_law_286 : decode cL_law 286 = .ok (.ireturn, 1) := by decide +kernel
theorem dL_law_287 : decode cL_law 287 = .ok (.goto 1176, 3) := by decide +kernel
theorem dL_law_290 : decode cL_law 290 = .ok (.aload_n 1, 1) := by decide +kernel
theorem dL_law_291 : decode cL_law 291 = .ok (.aload_n 0, 1) := by decide +kernel
theorem dL_law_292 : decode cL_law 292 = .ok (.iload 4, 2) := by decide +kernel
theorem dL_law_294 : decode cL_law 294 = .ok (.iconst 1, 1) := by decide +kernel
theorem dL_law_295 : decode cL_law 295 = .ok (.iadd, 1) := by decide +kernel
theorem dL_law_296 : decode cL_law 296 = .ok (.iaload, 1) := by decide +kernel
theorem dL_law_297 : decode cL_law 297 = .ok (.aload_n 0, 1) := by decide +kernel
theorem dL_law_298 : decode cL_law 298 = .ok (.iload 4, 2) := by decide +kernel
theorem dL_law_300 : decode cL_law 300 = .ok (.iconst 2, 1) := by decide +kernel
theorem dL_law_301 : decode cL_law 301 = .ok (.iadd, 1) := by decide +kernel
theorem dL_law_302 : decode cL_law 302 = .ok (.iaload, 1) := by decide +kernel
theorem dL_law_303 : decode cL_law 303 = .ok (.aload_n 0, 1) := by decide +kernel
theorem dL_law_304 : decode cL_law 304 = .ok (.iload 4, 2) := by decide +kernel
theorem dL_law_306 : decode cL_law 306 = .ok (.iconst 3, 1) := by decide +kernel
theorem dL_law_307 : decode cL_law 307 = .ok (.iadd, 1) := by decide +kernel
theorem dL_law_308 : decode cL_law 308 = .ok (.iaload, 1) := by decide +kernel
theorem dL_law_309 : decode cL_law 309 = .ok (.aload_n 3, 1) := by decide +kernel
theorem dL_law_310 : decode cL_law 310 = .ok (.invokestatic 99, 3) := by decide +kernel
theorem dL_law_313 : decode cL_law 313 = .ok (.istore 5, 2) := by decide +kernel
theorem dL_law_315 : decode cL_law 315 = .ok (.aload_n 2, 1) := by decide +kernel
theorem dL_law_316 : decode cL_law 316 = .ok (.aload_n 0, 1) := by decide +kernel
theorem dL_law_317 : decode cL_law 317 = .ok (.iload 4, 2) := by decide +kernel
theorem dL_law_319 : decode cL_law 319 = .ok (.iconst 1, 1) := by decide +kernel
theorem dL_law_320 : decode cL_law 320 = .ok (.iadd, 1) := by decide +kernel
theorem dL_law_321 : decode cL_law 321 = .ok (.iaload, 1) := by decide +kernel
theorem dL_law_322 : decode cL_law 322 = .ok (.aload_n 0, 1) := by decide +kernel
theorem dL_law_323 : decode cL_law 323 = .ok (.iload 4, 2) := by decide +kernel
theorem dL_law_325 : decode cL_law 325 = .ok (.iconst 2, 1) := by decide +kernel
theorem dL_law_326 : decode cL_law 326 = .ok (.iadd, 1) := by decide +kernel
theorem dL_law_327 : decode cL_law 327 = .ok (.iaload, 1) := by decide +kernel
theorem dL_law_328 : decode cL_law 328 = .ok (.aload_n 0, 1) := by decide +kernel
theorem dL_law_329 : decode cL_law 329 = .ok (.iload 4, 2) := by decide +kernel
theorem dL_law_331 : decode cL_law 331 = .ok (.iconst 3, 1) := by decide +kernel
theorem dL_law_332 : decode cL_law 332 = .ok (.iadd, 1) := by decide +kernel
theorem dL_law_333 : decode cL_law 333 = .ok (.iaload, 1) := by decide +kernel
theorem dL_law_334 : decode cL_law 334 = .ok (.invokevirtual 102, 3) := by decide +kernel
theorem dL_law_337 : decode cL_law 337 = .ok (.istore 6, 2) := by decide +kernel
theorem dL_law_339 : decode cL_law 339 = .ok (.aload_n 2, 1) := by decide +kernel
theorem dL_law_340 : decode cL_law 340 = .ok (.invokevirtual 91, 3) := by decide +kernel
theorem dL_law_343 : decode cL_law 343 = .ok (.iload 5, 2) := by decide +kernel
theorem dL_law_345 : decode cL_law 345 = .ok (.if_icmp .eq 5, 3) := by decide +kernel
theorem dL_law_348 : decode cL_law 348 = .ok (.iconst 0, 1) := by decide +kernel
theorem dL_law_349 : decode cL_law 349 = .ok (.ireturn, 1) := by decide +kernel
theorem dL_law_350 : decode cL_law 350 = .ok (.iload 5, 2) := by decide +kernel
theorem dL_law_352 : decode cL_law 352 = .ok (.ifCond .ne 15, 3) := by decide +kernel
theorem dL_law_355 : decode cL_law 355 = .ok (.aload_n 3, 1) := by decide +kernel
theorem dL_law_356 : decode cL_law 356 = .ok (.iconst 0, 1) := by decide +kernel
theorem dL_law_357 : decode cL_law 357 = .ok (.laload, 1) := by decide +kernel
theorem dL_law_358 : decode cL_law 358 = .ok (.iload 6, 2) := by decide +kernel
theorem dL_law_360 : decode cL_law 360 = .ok (.i2l, 1) := by decide +kernel
theorem dL_law_361 : decode cL_law 361 = .ok (.lcmp, 1) := by decide +kernel
theorem dL_law_362 : decode cL_law 362 = .ok (.ifCond .eq 5, 3) := by decide +kernel
theorem dL_law_365 : decode cL_law 365 = .ok (.iconst 0, 1) := by decide +kernel
theorem dL_law_366 : decode cL_law 366 = .ok (.ireturn, 1) := by decide +kernel
theorem dL_law_367 : decode cL_law 367 = .ok (.goto 1096, 3) := by decide +kernel
theorem dL_law_370 : decode cL_law 370 = .ok (.aload_n 1, 1) := by decide +kernel
theorem dL_law_371 : decode cL_law 371 = .ok (.aload_n 0, 1) := by decide +kernel
theorem dL_law_372 : decode cL_law 372 = .ok (.iload 4, 2) := by decide +kernel
theorem dL_law_374 : decode cL_law 374 = .ok (.iconst 1, 1) := by decide +kernel
theorem dL_law_375 : decode cL_law 375 = .ok (.iadd, 1) := by decide +kernel
theorem dL_law_376 : decode cL_law 376 = .ok (.iaload, 1) := by decide +kernel
theorem dL_law_377 : decode cL_law 377 = .ok (.aload_n 3, 1) := by decide +kernel
theorem dL_law_378 : decode cL_law 378 = .ok (.invokestatic 103, 3) := by decide +kernel
theorem dL_law_381 : decode cL_law 381 = .ok (.istore 5, 2) := by decide +kernel
theorem dL_law_383 : decode cL_law 383 = .ok (.aload_n 2, 1) := by decide +kernel
theorem dL_law_384 : decode cL_law 384 = .ok (.aload_n 0, 1) := by decide +kernel
theorem dL_law_385 : decode cL_law 385 = .ok (.iload 4, 2) := by decide +kernel
theorem dL_law_387 : decode cL_law 387 = .ok (.iconst 1, 1) := by decide +kernel
theorem dL_law_388 : decode cL_law 388 = .ok (.iadd, 1) := by decide +kernel
theorem dL_law_389 : decode cL_law 389 = .ok (.iaload, 1) := by decide +kernel
theorem dL_law_390 : decode cL_law 390 = .ok (.invokevirtual 106, 3) := by decide +kernel
theorem dL_law_393 : decode cL_law 393 = .ok (.istore 6, 2) := by decide +kernel
theorem dL_law_395 : decode cL_law 395 = .ok (.aload_n 2, 1) := by decide +kernel
theorem dL_law_396 : decode cL_law 396 = .ok (.invokevirtual 91, 3) := by decide +kernel
theorem dL_law_399 : decode cL_law 399 = .ok (.iload 5, 2) := by decide +kernel
theorem dL_law_401 : decode cL_law 401 = .ok (.if_icmp .eq 5, 3) := by decide +kernel
theorem dL_law_404 : decode cL_law 404 = .ok (.iconst 0, 1) := by decide +kernel
theorem dL_law_405 : decode cL_law 405 = .ok (.ireturn, 1) := by decide +kernel
theorem dL_law_406 : decode cL_law 406 = .ok (.iload 5, 2) := by decide +kernel
theorem dL_law_408 : decode cL_law 408 = .ok (.ifCond .ne 15, 3) := by decide +kernel
theorem dL_law_411 : decode cL_law 411 = .ok (.aload_n 3, 1) := by decide +kernel
theorem dL_law_412 : decode cL_law 412 = .ok (.iconst 0, 1) := by decide +kernel
theorem dL_law_413 : decode cL_law 413 = .ok (.laload, 1) := by decide +kernel
theorem dL_law_414 : decode cL_law 414 = .ok (.iload 6, 2) := by decide +kernel
theorem dL_law_416 : decode cL_law 416 = .ok (.i2l, 1) := by decide +kernel
theorem dL_law_417 : decode cL_law 417 = .ok (.lcmp, 1) := by decide +kernel
theorem dL_law_418 : decode cL_law 418 = .ok (.ifCond .eq 5, 3) := by decide +kernel
theorem dL_law_421 : decode cL_law 421 = .ok (.iconst 0, 1) := by decide +kernel
theorem dL_law_422 : decode cL_law 422 = .ok (.ireturn, 1) := by decide +kernel
theorem dL_law_423 : decode cL_law 423 = .ok (.goto 1040, 3) := by decide +kernel
theorem dL_law_426 : decode cL_law 426 = .ok (.aload_n 1, 1) := by decide +kernel
theorem dL_law_427 : decode cL_law 427 = .ok (.aload_n 0, 1) := by decide +kernel
theorem dL_law_428 : decode cL_law 428 = .ok (.iload 4, 2) := by decide +kernel
theorem dL_law_430 : decode cL_law 430 = .ok (.iconst 1, 1) := by decide +kernel
theorem dL_law_431 : decode cL_law 431 = .ok (.iadd, 1) := by decide +kernel
theorem dL_law_432 : decode cL_law 432 = .ok (.iaload, 1) := by decide +kernel
theorem dL_law_433 : decode cL_law 433 = .ok (.aload_n 3, 1) := by decide +kernel
theorem dL_law_434 : decode cL_law 434 = .ok (.invokestatic 107, 3) := by decide +kernel
theorem dL_law_437 : decode cL_law 437 = .ok (.istore 5, 2) := by decide +kernel
theorem dL_law_439 : decode cL_law 439 = .ok (.aload_n 2, 1) := by decide +kernel
theorem dL_law_440 : decode cL_law 440 = .ok (.aload_n 0, 1) := by decide +kernel
theorem dL_law_441 : decode cL_law 441 = .ok (.iload 4, 2) := by decide +kernel
theorem dL_law_443 : decode cL_law 443 = .ok (.iconst 1, 1) := by decide +kernel
theorem dL_law_444 : decode cL_law 444 = .ok (.iadd, 1) := by decide +kernel
theorem dL_law_445 : decode cL_law 445 = .ok (.iaload, 1) := by decide +kernel
theorem dL_law_446 : decode cL_law 446 = .ok (.invokevirtual 109, 3) := by decide +kernel
theorem dL_law_449 : decode cL_law 449 = .ok (.istore 6, 2) := by decide +kernel
theorem dL_law_451 : decode cL_law 451 = .ok (.aload_n 2, 1) := by decide +kernel
theorem dL_law_452 : decode cL_law 452 = .ok (.invokevirtual 91, 3) := by decide +kernel
theorem dL_law_455 : decode cL_law 455 = .ok (.iload 5, 2) := by decide +kernel
theorem dL_law_457 : decode cL_law 457 = .ok (.if_icmp .eq 5, 3) := by decide +kernel
theorem dL_law_460 : decode cL_law 460 = .ok (.iconst 0, 1) := by decide +kernel
theorem dL_law_461 : decode cL_law 461 = .ok (.ireturn, 1) := by decide +kernel
theorem dL_law_462 : decode cL_law 462 = .ok (.iload 5, 2) := by decide +kernel
theorem dL_law_464 : decode cL_law 464 = .ok (.ifCond .ne 15, 3) := by decide +kernel
theorem dL_law_467 : decode cL_law 467 = .ok (.aload_n 3, 1) := by decide +kernel
theorem dL_law_468 : decode cL_law 468 = .ok (.iconst 0, 1) := by decide +kernel
theorem dL_law_469 : decode cL_law 469 = .ok (.laload, 1) := by decide +kernel
theorem dL_law_470 : decode cL_law 470 = .ok (.iload 6, 2) := by decide +kernel
theorem dL_law_472 : decode cL_law 472 = .ok (.i2l, 1) := by decide +kernel
theorem dL_law_473 : decode cL_law 473 = .ok (.lcmp, 1) := by decide +kernel
theorem dL_law_474 : decode cL_law 474 = .ok (.ifCond .eq 5, 3) := by decide +kernel
theorem dL_law_477 : decode cL_law 477 = .ok (.iconst 0, 1) := by decide +kernel
theorem dL_law_478 : decode cL_law 478 = .ok (.ireturn, 1) := by decide +kernel
theorem dL_law_479 : decode cL_law 479 = .ok (.goto 984, 3) := by decide +kernel
theorem dL_law_482 : decode cL_law 482 = .ok (.aload_n 1, 1) := by decide +kernel
theorem dL_law_483 : decode cL_law 483 = .ok (.aload_n 0, 1) := by decide +kernel
theorem dL_law_484 : decode cL_law 484 = .ok (.iload 4, 2) := by decide +kernel
theorem dL_law_486 : decode cL_law 486 = .ok (.iconst 1, 1) := by decide +kernel
theorem dL_law_487 : decode cL_law 487 = .ok (.iadd, 1) := by decide +kernel
theorem dL_law_488 : decode cL_law 488 = .ok (.iaload, 1) := by decide +kernel
theorem dL_law_489 : decode cL_law 489 = .ok (.aload_n 0, 1) := by decide +kernel
theorem dL_law_490 : decode cL_law 490 = .ok (.iload 4, 2) := by decide +kernel
theorem dL_law_492 : decode cL_law 492 = .ok (.iconst 2, 1) := by decide +kernel
theorem dL_law_493 : decode cL_law 493 = .ok (.iadd, 1) := by decide +kernel
theorem dL_law_494 : decode cL_law 494 = .ok (.iaload, 1) := by decide +kernel
theorem dL_law_495 : decode cL_law 495 = .ok (.aload_n 3, 1) := by decide +kernel
theorem dL_law_496 : decode cL_law 496 = .ok (.invokestatic 110, 3) := by decide +kernel
theorem dL_law_499 : decode cL_law 499 = .ok (.istore 5, 2) := by decide +kernel
theorem dL_law_501 : decode cL_law 501 = .ok (.aload_n 2, 1) := by decide +kernel
theorem dL_law_502 : decode cL_law 502 = .ok (.aload_n 0, 1) := by decide +kernel
theorem dL_law_503 : decode cL_law 503 = .ok (.iload 4, 2) := by decide +kernel
theorem dL_law_505 : decode cL_law 505 = .ok (.iconst 1, 1) := by decide +kernel
theorem dL_law_506 : decode cL_law 506 = .ok (.iadd, 1) := by decide +kernel
theorem dL_law_507 : decode cL_law 507 = .ok (.iaload, 1) := by decide +kernel
theorem dL_law_508 : decode cL_law 508 = .ok (.aload_n 0, 1) := by decide +kernel
theorem dL_law_509 : decode cL_law 509 = .ok (.iload 4, 2) := by decide +kernel
theorem dL_law_511 : decode cL_law 511 = .ok (.iconst 2, 1) := by decide +kernel
theorem dL_law_512 : decode cL_law 512 = .ok (.iadd, 1) := by decide +kernel
theorem dL_law_513 : decode cL_law 513 = .ok (.iaload, 1) := by decide +kernel
theorem dL_law_514 : decode cL_law 514 = .ok (.invokevirtual 112, 3) := by decide +kernel
theorem dL_law_517 : decode cL_law 517 = .ok (.istore 6, 2) := by decide +kernel
theorem dL_law_519 : decode cL_law 519 = .ok (.aload_n 2, 1) := by decide +kernel
theorem dL_law_520 : decode cL_law 520 = .ok (.invokevirtual 91, 3) := by decide +kernel
theorem dL_law_523 : decode cL_law 523 = .ok (.iload 5, 2) := by decide +kernel
theorem dL_law_525 : decode cL_law 525 = .ok (.if_icmp .eq 5, 3) := by decide +kernel
theorem dL_law_528 : decode cL_law 528 = .ok (.iconst 0, 1) := by decide +kernel
theorem dL_law_529 : decode cL_law 529 = .ok (.ireturn, 1) := by decide +kernel
theorem dL_law_530 : decode cL_law 530 = .ok (.iload 5, 2) := by decide +kernel
theorem dL_law_532 : decode cL_law 532 = .ok (.ifCond .ne 15, 3) := by decide +kernel
theorem dL_law_535 : decode cL_law 535 = .ok (.aload_n 3, 1) := by decide +kernel
theorem dL_law_536 : decode cL_law 536 = .ok (.iconst 0, 1) := by decide +kernel
theorem dL_law_537 : decode cL_law 537 = .ok (.laload, 1) := by decide +kernel
theorem dL_law_538 : decode cL_law 538 = .ok (.iload 6, 2) := by decide +kernel
theorem dL_law_540 : decode cL_law 540 = .ok (.i2l, 1) := by decide +kernel
theorem dL_law_541 : decode cL_law 541 = .ok (.lcmp, 1) := by decide +kernel
theorem dL_law_542 : decode cL_law 542 = .ok (.ifCond .eq 5, 3) := by decide +kernel
theorem dL_law_545 : decode cL_law 545 = .ok (.iconst 0, 1) := by decide +kernel
theorem dL_law_546 : decode cL_law 546 = .ok (.ireturn, 1) := by decide +kernel
theorem dL_law_547 : decode cL_law 547 = .ok (.goto 916, 3) := by decide +kernel
theorem dL_law_550 : decode cL_law 550 = .ok (.aload_n 1, 1) := by decide +kernel
theorem dL_law_551 : decode cL_law 551 = .ok (.aload_n 0, 1) := by decide +kernel
theorem dL_law_552 : decode cL_law 552 = .ok (.iload 4, 2) := by decide +kernel
theorem dL_law_554 : decode cL_law 554 = .ok (.iconst 1, 1) := by decide +kernel
theorem dL_law_555 : decode cL_law 555 = .ok (.iadd, 1) := by decide +kernel
theorem dL_law_556 : decode cL_law 556 = .ok (.iaload, 1) := by decide +kernel
theorem dL_law_557 : decode cL_law 557 = .ok (.aload_n 3, 1) := by decide +kernel
theorem dL_law_558 : decode cL_law 558 = .ok (.invokestatic 113, 3) := by decide +kernel
theorem dL_law_561 : decode cL_law 561 = .ok (.istore 5, 2) := by decide +kernel
theorem dL_law_563 : decode cL_law 563 = .ok (.aload_n 2, 1) := by decide +kernel
theorem dL_law_564 : decode cL_law 564 = .ok (.aload_n 0, 1) := by decide +kernel
theorem dL_law_565 : decode cL_law 565 = .ok (.iload 4, 2) := by decide +kernel
theorem dL_law_567 : decode cL_law 567 = .ok (.iconst 1, 1) := by decide +kernel
theorem dL_law_568 : decode cL_law 568 = .ok (.iadd, 1) := by decide +kernel
theorem dL_law_569 : decode cL_law 569 = .ok (.iaload, 1) := by decide +kernel
theorem dL_law_570 : decode cL_law 570 = .ok (.invokevirtual 115, 3) := by decide +kernel
theorem dL_law_573 : decode cL_law 573 = .ok (.istore 6, 2) := by decide +kernel
theorem dL_law_575 : decode cL_law 575 = .ok (.aload_n 2, 1) := by decide +kernel
theorem dL_law_576 : decode cL_law 576 = .ok (.invokevirtual 91, 3) := by decide +kernel
theorem dL_law_579 : decode cL_law 579 = .ok (.iload 5, 2) := by decide +kernel
theorem dL_law_581 : decode cL_law 581 = .ok (.if_icmp .eq 5, 3) := by decide +kernel
theorem dL_law_584 : decode cL_law 584 = .ok (.iconst 0, 1) := by decide +kernel
theorem dL_law_585 : decode cL_law 585 = .ok (.ireturn, 1) := by decide +kernel
theorem dL_law_586 : decode cL_law 586 = .ok (.iload 5, 2) := by decide +kernel
theorem dL_law_588 : decode cL_law 588 = .ok (.ifCond .ne 15, 3) := by decide +kernel
theorem dL_law_591 : decode cL_law 591 = .ok (.aload_n 3, 1) := by decide +kernel
theorem dL_law_592 : decode cL_law 592 = .ok (.iconst 0, 1) := by decide +kernel
theorem dL_law_593 : decode cL_law 593 = .ok (.laload, 1) := by decide +kernel
theorem dL_law_594 : decode cL_law 594 = .ok (.iload 6, 2) := by decide +kernel
theorem dL_law_596 : decode cL_law 596 = .ok (.i2l, 1) := by decide +kernel
theorem dL_law_597 : decode cL_law 597 = .ok (.lcmp, 1) := by decide +kernel
theorem dL_law_598 : decode cL_law 598 = .ok (.ifCond .eq 5, 3) := by decide +kernel
theorem dL_law_601 : decode cL_law 601 = .ok (.iconst 0, 1) := by decide +kernel
theorem dL_law_602 : decode cL_law 602 = .ok (.ireturn, 1) := by decide +kernel
theorem dL_law_603 : decode cL_law 603 = .ok (.goto 860, 3) := by decide +kernel
theorem dL_law_606 : decode cL_law 606 = .ok (.aload_n 1, 1) := by decide +kernel
theorem dL_law_607 : decode cL_law 607 = .ok (.aload_n 0, 1) := by decide +kernel
theorem dL_law_608 : decode cL_law 608 = .ok (.iload 4, 2) := by decide +kernel
theorem dL_law_610 : decode cL_law 610 = .ok (.iconst 1, 1) := by decide +kernel
theorem dL_law_611 : decode cL_law 611 = .ok (.iadd, 1) := by decide +kernel
theorem dL_law_612 : decode cL_law 612 = .ok (.iaload, 1) := by decide +kernel
theorem dL_law_613 : decode cL_law 613 = .ok (.aload_n 0, 1) := by decide +kernel
theorem dL_law_614 : decode cL_law 614 = .ok (.iload 4, 2) := by decide +kernel
theorem dL_law_616 : decode cL_law 616 = .ok (.iconst 2, 1) := by decide +kernel
theorem dL_law_617 : decode cL_law 617 = .ok (.iadd, 1) := by decide +kernel
theorem dL_law_618 : decode cL_law 618 = .ok (.iaload, 1) := by decide +kernel
theorem dL_law_619 : decode cL_law 619 = .ok (.aload_n 3, 1) := by decide +kernel
theorem dL_law_620 : decode cL_law 620 = .ok (.invokestatic 116, 3) := by decide +kernel
theorem dL_law_623 : decode cL_law 623 = .ok (.istore 5, 2) := by decide +kernel
theorem dL_law_625 : decode cL_law 625 = .ok (.aload_n 2, 1) := by decide +kernel
theorem dL_law_626 : decode cL_law 626 = .ok (.aload_n 0, 1) := by decide +kernel
theorem dL_law_627 : decode cL_law 627 = .ok (.iload 4, 2) := by decide +kernel
theorem dL_law_629 : decode cL_law 629 = .ok (.iconst 1, 1) := by decide +kernel
theorem dL_law_630 : decode cL_law 630 = .ok (.iadd, 1) := by decide +kernel
theorem dL_law_631 : decode cL_law 631 = .ok (.iaload, 1) := by decide +kernel
theorem dL_law_632 : decode cL_law 632 = .ok (.aload_n 0, 1) := by decide +kernel
theorem dL_law_633 : decode cL_law 633 = .ok (.iload 4, 2) := by decide +kernel
theorem dL_law_635 : decode cL_law 635 = .ok (.iconst 2, 1) := by decide +kernel
theorem dL_law_636 : decode cL_law 636 = .ok (.iadd, 1) := by decide +kernel
theorem dL_law_637 : decode cL_law 637 = .ok (.iaload, 1) := by decide +kernel
theorem dL_law_638 : decode cL_law 638 = .ok (.invokevirtual 118, 3) := by decide +kernel
theorem dL_law_641 : decode cL_law 641 = .ok (.istore 6, 2) := by decide +kernel
theorem dL_law_643 : decode cL_law 643 = .ok (.aload_n 2, 1) := by decide +kernel
theorem dL_law_644 : decode cL_law 644 = .ok (.invokevirtual 91, 3) := by decide +kernel
theorem dL_law_647 : decode cL_law 647 = .ok (.iload 5, 2) := by decide +kernel
theorem dL_law_649 : decode cL_law 649 = .ok (.if_icmp .eq 5, 3) := by decide +kernel
theorem dL_law_652 : decode cL_law 652 = .ok (.iconst 0, 1) := by decide +kernel
theorem dL_law_653 : decode cL_law 653 = .ok (.ireturn, 1) := by decide +kernel
theorem dL_law_654 : decode cL_law 654 = .ok (.iload 5, 2) := by decide +kernel
theorem dL_law_656 : decode cL_law 656 = .ok (.ifCond .ne 15, 3) := by decide +kernel
theorem dL_law_659 : decode cL_law 659 = .ok (.aload_n 3, 1) := by decide +kernel
theorem dL_law_660 : decode cL_law 660 = .ok (.iconst 0, 1) := by decide +kernel
theorem dL_law_661 : decode cL_law 661 = .ok (.laload, 1) := by decide +kernel
theorem dL_law_662 : decode cL_law 662 = .ok (.iload 6, 2) := by decide +kernel
theorem dL_law_664 : decode cL_law 664 = .ok (.i2l, 1) := by decide +kernel
theorem dL_law_665 : decode cL_law 665 = .ok (.lcmp, 1) := by decide +kernel
theorem dL_law_666 : decode cL_law 666 = .ok (.ifCond .eq 5, 3) := by decide +kernel
theorem dL_law_669 : decode cL_law 669 = .ok (.iconst 0, 1) := by decide +kernel
theorem dL_law_670 : decode cL_law 670 = .ok (.ireturn, 1) := by decide +kernel
theorem dL_law_671 : decode cL_law 671 = .ok (.goto 792, 3) := by decide +kernel
theorem dL_law_674 : decode cL_law 674 = .ok (.aload_n 1, 1) := by decide +kernel
theorem dL_law_675 : decode cL_law 675 = .ok (.aload_n 0, 1) := by decide +kernel
theorem dL_law_676 : decode cL_law 676 = .ok (.iload 4, 2) := by decide +kernel
theorem dL_law_678 : decode cL_law 678 = .ok (.iconst 1, 1) := by decide +kernel
theorem dL_law_679 : decode cL_law 679 = .ok (.iadd, 1) := by decide +kernel
theorem dL_law_680 : decode cL_law 680 = .ok (.iaload, 1) := by decide +kernel
theorem dL_law_681 : decode cL_law 681 = .ok (.aload_n 0, 1) := by decide +kernel
theorem dL_law_682 : decode cL_law 682 = .ok (.iload 4, 2) := by decide +kernel
theorem dL_law_684 : decode cL_law 684 = .ok (.iconst 2, 1) := by decide +kernel
theorem dL_law_685 : decode cL_law 685 = .ok (.iadd, 1) := by decide +kernel
theorem dL_law_686 : decode cL_law 686 = .ok (.iaload, 1) := by decide +kernel
theorem dL_law_687 : decode cL_law 687 = .ok (.aload_n 3, 1) := by decide +kernel
theorem dL_law_688 : decode cL_law 688 = .ok (.invokestatic 119, 3) := by decide +kernel
theorem dL_law_691 : decode cL_law 691 = .ok (.istore 5, 2) := by decide +kernel
theorem dL_law_693 : decode cL_law 693 = .ok (.aload_n 2, 1) := by decide +kernel
theorem dL_law_694 : decode cL_law 694 = .ok (.aload_n 0, 1) := by decide +kernel
theorem dL_law_695 : decode cL_law 695 = .ok (.iload 4, 2) := by decide +kernel
theorem dL_law_697 : decode cL_law 697 = .ok (.iconst 1, 1) := by decide +kernel
theorem dL_law_698 : decode cL_law 698 = .ok (.iadd, 1) := by decide +kernel
theorem dL_law_699 : decode cL_law 699 = .ok (.iaload, 1) := by decide +kernel
theorem dL_law_700 : decode cL_law 700 = .ok (.aload_n 0, 1) := by decide +kernel
theorem dL_law_701 : decode cL_law 701 = .ok (.iload 4, 2) := by decide +kernel
theorem dL_law_703 : decode cL_law 703 = .ok (.iconst 2, 1) := by decide +kernel
theorem dL_law_704 : decode cL_law 704 = .ok (.iadd, 1) := by decide +kernel
theorem dL_law_705 : decode cL_law 705 = .ok (.iaload, 1) := by decide +kernel
theorem dL_law_706 : decode cL_law 706 = .ok (.invokevirtual 121, 3) := by decide +kernel
theorem dL_law_709 : decode cL_law 709 = .ok (.istore 6, 2) := by decide +kernel
theorem dL_law_711 : decode cL_law 711 = .ok (.aload_n 2, 1) := by decide +kernel
theorem dL_law_712 : decode cL_law 712 = .ok (.invokevirtual 91, 3) := by decide +kernel
theorem dL_law_715 : decode cL_law 715 = .ok (.iload 5, 2) := by decide +kernel
theorem dL_law_717 : decode cL_law 717 = .ok (.if_icmp .eq 5, 3) := by decide +kernel
theorem dL_law_720 : decode cL_law 720 = .ok (.iconst 0, 1) := by decide +kernel
theorem dL_law_721 : decode cL_law 721 = .ok (.ireturn, 1) := by decide +kernel
theorem dL_law_722 : decode cL_law 722 = .ok (.iload 5, 2) := by decide +kernel
theorem dL_law_724 : decode cL_law 724 = .ok (.ifCond .ne 15, 3) := by decide +kernel
theorem dL_law_727 : decode cL_law 727 = .ok (.aload_n 3, 1) := by decide +kernel
theorem dL_law_728 : decode cL_law 728 = .ok (.iconst 0, 1) := by decide +kernel
theorem dL_law_729 : decode cL_law 729 = .ok (.laload, 1) := by decide +kernel
theorem dL_law_730 : decode cL_law 730 = .ok (.iload 6, 2) := by decide +kernel
theorem dL_law_732 : decode cL_law 732 = .ok (.i2l, 1) := by decide +kernel
theorem dL_law_733 : decode cL_law 733 = .ok (.lcmp, 1) := by decide +kernel
theorem dL_law_734 : decode cL_law 734 = .ok (.ifCond .eq 5, 3) := by decide +kernel
theorem dL_law_737 : decode cL_law 737 = .ok (.iconst 0, 1) := by decide +kernel
theorem dL_law_738 : decode cL_law 738 = .ok (.ireturn, 1) := by decide +kernel
theorem dL_law_739 : decode cL_law 739 = .ok (.goto 724, 3) := by decide +kernel
theorem dL_law_742 : decode cL_law 742 = .ok (.aload_n 1, 1) := by decide +kernel
theorem dL_law_743 : decode cL_law 743 = .ok (.aload_n 0, 1) := by decide +kernel
theorem dL_law_744 : decode cL_law 744 = .ok (.iload 4, 2) := by decide +kernel
theorem dL_law_746 : decode cL_law 746 = .ok (.iconst 1, 1) := by decide +kernel
theorem dL_law_747 : decode cL_law 747 = .ok (.iadd, 1) := by decide +kernel
theorem dL_law_748 : decode cL_law 748 = .ok (.iaload, 1) := by decide +kernel
theorem dL_law_749 : decode cL_law 749 = .ok (.aload_n 3, 1) := by decide +kernel
theorem dL_law_750 : decode cL_law 750 = .ok (.invokestatic 122, 3) := by decide +kernel
theorem dL_law_753 : decode cL_law 753 = .ok (.istore 5, 2) := by decide +kernel
theorem dL_law_755 : decode cL_law 755 = .ok (.aload_n 2, 1) := by decide +kernel
theorem dL_law_756 : decode cL_law 756 = .ok (.aload_n 0, 1) := by decide +kernel
theorem dL_law_757 : decode cL_law 757 = .ok (.iload 4, 2) := by decide +kernel
theorem dL_law_759 : decode cL_law 759 = .ok (.iconst 1, 1) := by decide +kernel
theorem dL_law_760 : decode cL_law 760 = .ok (.iadd, 1) := by decide +kernel
theorem dL_law_761 : decode cL_law 761 = .ok (.iaload, 1) := by decide +kernel
theorem dL_law_762 : decode cL_law 762 = .ok (.invokevirtual 124, 3) := by decide +kernel
theorem dL_law_765 : decode cL_law 765 = .ok (.istore 6, 2) := by decide +kernel
theorem dL_law_767 : decode cL_law 767 = .ok (.aload_n 2, 1) := by decide +kernel
theorem dL_law_768 : decode cL_law 768 = .ok (.invokevirtual 91, 3) := by decide +kernel
theorem dL_law_771 : decode cL_law 771 = .ok (.iload 5, 2) := by decide +kernel
theorem dL_law_773 : decode cL_law 773 = .ok (.if_icmp .eq 5, 3) := by decide +kernel
theorem dL_law_776 : decode cL_law 776 = .ok (.iconst 0, 1) := by decide +kernel
theorem dL_law_777 : decode cL_law 777 = .ok (.ireturn, 1) := by decide +kernel
theorem dL_law_778 : decode cL_law 778 = .ok (.iload 5, 2) := by decide +kernel
theorem dL_law_780 : decode cL_law 780 = .ok (.ifCond .ne 15, 3) := by decide +kernel
theorem dL_law_783 : decode cL_law 783 = .ok (.aload_n 3, 1) := by decide +kernel
theorem dL_law_784 : decode cL_law 784 = .ok (.iconst 0, 1) := by decide +kernel
theorem dL_law_785 : decode cL_law 785 = .ok (.laload, 1) := by decide +kernel
theorem dL_law_786 : decode cL_law 786 = .ok (.iload 6, 2) := by decide +kernel
theorem dL_law_788 : decode cL_law 788 = .ok (.i2l, 1) := by decide +kernel
theorem dL_law_789 : decode cL_law 789 = .ok (.lcmp, 1) := by decide +kernel
theorem dL_law_790 : decode cL_law 790 = .ok (.ifCond .eq 5, 3) := by decide +kernel
theorem dL_law_793 : decode cL_law 793 = .ok (.iconst 0, 1) := by decide +kernel
theorem dL_law_794 : decode cL_law 794 = .ok (.ireturn, 1) := by decide +kernel
theorem dL_law_795 : decode cL_law 795 = .ok (.goto 668, 3) := by decide +kernel
theorem dL_law_798 : decode cL_law 798 = .ok (.aload_n 1, 1) := by decide +kernel
theorem dL_law_799 : decode cL_law 799 = .ok (.aload_n 0, 1) := by decide +kernel
theorem dL_law_800 : decode cL_law 800 = .ok (.iload 4, 2) := by decide +kernel
theorem dL_law_802 : decode cL_law 802 = .ok (.iconst 1, 1) := by decide +kernel
theorem dL_law_803 : decode cL_law 803 = .ok (.iadd, 1) := by decide +kernel
theorem dL_law_804 : decode cL_law 804 = .ok (.iaload, 1) := by decide +kernel
theorem dL_law_805 : decode cL_law 805 = .ok (.aload_n 0, 1) := by decide +kernel
theorem dL_law_806 : decode cL_law 806 = .ok (.iload 4, 2) := by decide +kernel
theorem dL_law_808 : decode cL_law 808 = .ok (.iconst 2, 1) := by decide +kernel
theorem dL_law_809 : decode cL_law 809 = .ok (.iadd, 1) := by decide +kernel
theorem dL_law_810 : decode cL_law 810 = .ok (.iaload, 1) := by decide +kernel
theorem dL_law_811 : decode cL_law 811 = .ok (.aload_n 0, 1) := by decide +kernel
theorem dL_law_812 : decode cL_law 812 = .ok (.iload 4, 2) := by decide +kernel
theorem dL_law_814 : decode cL_law 814 = .ok (.iconst 3, 1) := by decide +kernel
theorem dL_law_815 : decode cL_law 815 = .ok (.iadd, 1) := by decide +kernel
theorem dL_law_816 : decode cL_law 816 = .ok (.iaload, 1) := by decide +kernel
theorem dL_law_817 : decode cL_law 817 = .ok (.aload_n 3, 1) := by decide +kernel
theorem dL_law_818 : decode cL_law 818 = .ok (.invokestatic 125, 3) := by decide +kernel
theorem dL_law_821 : decode cL_law 821 = .ok (.istore 5, 2) := by decide +kernel
theorem dL_law_823 : decode cL_law 823 = .ok (.aload_n 2, 1) := by decide +kernel
theorem dL_law_824 : decode cL_law 824 = .ok (.aload_n 0, 1) := by decide +kernel
theorem dL_law_825 : decode cL_law 825 = .ok (.iload 4, 2) := by decide +kernel
theorem dL_law_827 : decode cL_law 827 = .ok (.iconst 1, 1) := by decide +kernel
theorem dL_law_828 : decode cL_law 828 = .ok (.iadd, 1) := by decide +kernel
theorem dL_law_829 : decode cL_law 829 = .ok (.iaload, 1) := by decide +kernel
theorem dL_law_830 : decode cL_law 830 = .ok (.aload_n 0, 1) := by decide +kernel
theorem dL_law_831 : decode cL_law 831 = .ok (.iload 4, 2) := by decide +kernel
theorem dL_law_833 : decode cL_law 833 = .ok (.iconst 2, 1) := by decide +kernel
theorem dL_law_834 : decode cL_law 834 = .ok (.iadd, 1) := by decide +kernel
theorem dL_law_835 : decode cL_law 835 = .ok (.iaload, 1) := by decide +kernel
theorem dL_law_836 : decode cL_law 836 = .ok (.aload_n 0, 1) := by decide +kernel
theorem dL_law_837 : decode cL_law 837 = .ok (.iload 4, 2) := by decide +kernel
theorem dL_law_839 : decode cL_law 839 = .ok (.iconst 3, 1) := by decide +kernel
theorem dL_law_840 : decode cL_law 840 = .ok (.iadd, 1) := by decide +kernel
theorem dL_law_841 : decode cL_law 841 = .ok (.iaload, 1) := by decide +kernel
theorem dL_law_842 : decode cL_law 842 = .ok (.invokevirtual 127, 3) := by decide +kernel
theorem dL_law_845 : decode cL_law 845 = .ok (.istore 6, 2) := by decide +kernel
theorem dL_law_847 : decode cL_law 847 = .ok (.aload_n 2, 1) := by decide +kernel
theorem dL_law_848 : decode cL_law 848 = .ok (.invokevirtual 91, 3) := by decide +kernel
theorem dL_law_851 : decode cL_law 851 = .ok (.iload 5, 2) := by decide +kernel
theorem dL_law_853 : decode cL_law 853 = .ok (.if_icmp .eq 5, 3) := by decide +kernel
theorem dL_law_856 : decode cL_law 856 = .ok (.iconst 0, 1) := by decide +kernel
theorem dL_law_857 : decode cL_law 857 = .ok (.ireturn, 1) := by decide +kernel
theorem dL_law_858 : decode cL_law 858 = .ok (.iload 5, 2) := by decide +kernel
theorem dL_law_860 : decode cL_law 860 = .ok (.ifCond .ne 15, 3) := by decide +kernel
theorem dL_law_863 : decode cL_law 863 = .ok (.aload_n 3, 1) := by decide +kernel
theorem dL_law_864 : decode cL_law 864 = .ok (.iconst 0, 1) := by decide +kernel
theorem dL_law_865 : decode cL_law 865 = .ok (.laload, 1) := by decide +kernel
theorem dL_law_866 : decode cL_law 866 = .ok (.iload 6, 2) := by decide +kernel
theorem dL_law_868 : decode cL_law 868 = .ok (.i2l, 1) := by decide +kernel
theorem dL_law_869 : decode cL_law 869 = .ok (.lcmp, 1) := by decide +kernel
theorem dL_law_870 : decode cL_law 870 = .ok (.ifCond .eq 5, 3) := by decide +kernel
theorem dL_law_873 : decode cL_law 873 = .ok (.iconst 0, 1) := by decide +kernel
theorem dL_law_874 : decode cL_law 874 = .ok (.ireturn, 1) := by decide +kernel
theorem dL_law_875 : decode cL_law 875 = .ok (.goto 588, 3) := by decide +kernel
theorem dL_law_878 : decode cL_law 878 = .ok (.aload_n 1, 1) := by decide +kernel
theorem dL_law_879 : decode cL_law 879 = .ok (.aload_n 0, 1) := by decide +kernel
theorem dL_law_880 : decode cL_law 880 = .ok (.iload 4, 2) := by decide +kernel
theorem dL_law_882 : decode cL_law 882 = .ok (.iconst 1, 1) := by decide +kernel
theorem dL_law_883 : decode cL_law 883 = .ok (.iadd, 1) := by decide +kernel
theorem dL_law_884 : decode cL_law 884 = .ok (.iaload, 1) := by decide +kernel
theorem dL_law_885 : decode cL_law 885 = .ok (.aload_n 3, 1) := by decide +kernel
theorem dL_law_886 : decode cL_law 886 = .ok (.invokestatic 128, 3) := by decide +kernel
theorem dL_law_889 : decode cL_law 889 = .ok (.istore 5, 2) := by decide +kernel
theorem dL_law_891 : decode cL_law 891 = .ok (.aload_n 2, 1) := by decide +kernel
theorem dL_law_892 : decode cL_law 892 = .ok (.aload_n 0, 1) := by decide +kernel
theorem dL_law_893 : decode cL_law 893 = .ok (.iload 4, 2) := by decide +kernel
theorem dL_law_895 : decode cL_law 895 = .ok (.iconst 1, 1) := by decide +kernel
theorem dL_law_896 : decode cL_law 896 = .ok (.iadd, 1) := by decide +kernel
theorem dL_law_897 : decode cL_law 897 = .ok (.iaload, 1) := by decide +kernel
theorem dL_law_898 : decode cL_law 898 = .ok (.invokevirtual 130, 3) := by decide +kernel
theorem dL_law_901 : decode cL_law 901 = .ok (.istore 6, 2) := by decide +kernel
theorem dL_law_903 : decode cL_law 903 = .ok (.aload_n 2, 1) := by decide +kernel
theorem dL_law_904 : decode cL_law 904 = .ok (.invokevirtual 91, 3) := by decide +kernel
theorem dL_law_907 : decode cL_law 907 = .ok (.iload 5, 2) := by decide +kernel
theorem dL_law_909 : decode cL_law 909 = .ok (.if_icmp .eq 5, 3) := by decide +kernel
theorem dL_law_912 : decode cL_law 912 = .ok (.iconst 0, 1) := by decide +kernel
theorem dL_law_913 : decode cL_law 913 = .ok (.ireturn, 1) := by decide +kernel
theorem dL_law_914 : decode cL_law 914 = .ok (.iload 5, 2) := by decide +kernel
theorem dL_law_916 : decode cL_law 916 = .ok (.ifCond .ne 15, 3) := by decide +kernel
theorem dL_law_919 : decode cL_law 919 = .ok (.aload_n 3, 1) := by decide +kernel
theorem dL_law_920 : decode cL_law 920 = .ok (.iconst 0, 1) := by decide +kernel
theorem dL_law_921 : decode cL_law 921 = .ok (.laload, 1) := by decide +kernel
theorem dL_law_922 : decode cL_law 922 = .ok (.iload 6, 2) := by decide +kernel
theorem dL_law_924 : decode cL_law 924 = .ok (.i2l, 1) := by decide +kernel
theorem dL_law_925 : decode cL_law 925 = .ok (.lcmp, 1) := by decide +kernel
theorem dL_law_926 : decode cL_law 926 = .ok (.ifCond .eq 5, 3) := by decide +kernel
theorem dL_law_929 : decode cL_law 929 = .ok (.iconst 0, 1) := by decide +kernel
theorem dL_law_930 : decode cL_law 930 = .ok (.ireturn, 1) := by decide +kernel
theorem dL_law_931 : decode cL_law 931 = .ok (.goto 532, 3) := by decide +kernel
theorem dL_law_934 : decode cL_law 934 = .ok (.aload_n 1, 1) := by decide +kernel
theorem dL_law_935 : decode cL_law 935 = .ok (.aload_n 0, 1) := by decide +kernel
theorem dL_law_936 : decode cL_law 936 = .ok (.iload 4, 2) := by decide +kernel
theorem dL_law_938 : decode cL_law 938 = .ok (.iconst 1, 1) := by decide +kernel
theorem dL_law_939 : decode cL_law 939 = .ok (.iadd, 1) := by decide +kernel
theorem dL_law_940 : decode cL_law 940 = .ok (.iaload, 1) := by decide +kernel
theorem dL_law_941 : decode cL_law 941 = .ok (.aload_n 3, 1) := by decide +kernel
theorem dL_law_942 : decode cL_law 942 = .ok (.invokestatic 131, 3) := by decide +kernel
theorem dL_law_945 : decode cL_law 945 = .ok (.istore 5, 2) := by decide +kernel
theorem dL_law_947 : decode cL_law 947 = .ok (.aload_n 2, 1) := by decide +kernel
theorem dL_law_948 : decode cL_law 948 = .ok (.aload_n 0, 1) := by decide +kernel
theorem dL_law_949 : decode cL_law 949 = .ok (.iload 4, 2) := by decide +kernel
theorem dL_law_951 : decode cL_law 951 = .ok (.iconst 1, 1) := by decide +kernel
theorem dL_law_952 : decode cL_law 952 = .ok (.iadd, 1) := by decide +kernel
theorem dL_law_953 : decode cL_law 953 = .ok (.iaload, 1) := by decide +kernel
theorem dL_law_954 : decode cL_law 954 = .ok (.invokevirtual 133, 3) := by decide +kernel
theorem dL_law_957 : decode cL_law 957 = .ok (.istore 6, 2) := by decide +kernel
theorem dL_law_959 : decode cL_law 959 = .ok (.aload_n 2, 1) := by decide +kernel
theorem dL_law_960 : decode cL_law 960 = .ok (.invokevirtual 91, 3) := by decide +kernel
theorem dL_law_963 : decode cL_law 963 = .ok (.iload 5, 2) := by decide +kernel
theorem dL_law_965 : decode cL_law 965 = .ok (.if_icmp .eq 5, 3) := by decide +kernel
theorem dL_law_968 : decode cL_law 968 = .ok (.iconst 0, 1) := by decide +kernel
theorem dL_law_969 : decode cL_law 969 = .ok (.ireturn, 1) := by decide +kernel
theorem dL_law_970 : decode cL_law 970 = .ok (.iload 5, 2) := by decide +kernel
theorem dL_law_972 : decode cL_law 972 = .ok (.ifCond .ne 15, 3) := by decide +kernel
theorem dL_law_975 : decode cL_law 975 = .ok (.aload_n 3, 1) := by decide +kernel
theorem dL_law_976 : decode cL_law 976 = .ok (.iconst 0, 1) := by decide +kernel
theorem dL_law_977 : decode cL_law 977 = .ok (.laload, 1) := by decide +kernel
theorem dL_law_978 : decode cL_law 978 = .ok (.iload 6, 2) := by decide +kernel
theorem dL_law_980 : decode cL_law 980 = .ok (.i2l, 1) := by decide +kernel
theorem dL_law_981 : decode cL_law 981 = .ok (.lcmp, 1) := by decide +kernel
theorem dL_law_982 : decode cL_law 982 = .ok (.ifCond .eq 5, 3) := by decide +kernel
theorem dL_law_985 : decode cL_law 985 = .ok (.iconst 0, 1) := by decide +kernel
theorem dL_law_986 : decode cL_law 986 = .ok (.ireturn, 1) := by decide +kernel
theorem dL_law_987 : decode cL_law 987 = .ok (.goto 476, 3) := by decide +kernel
theorem dL_law_990 : decode cL_law 990 = .ok (.aload_n 1, 1) := by decide +kernel
theorem dL_law_991 : decode cL_law 991 = .ok (.aload_n 0, 1) := by decide +kernel
theorem dL_law_992 : decode cL_law 992 = .ok (.iload 4, 2) := by decide +kernel
theorem dL_law_994 : decode cL_law 994 = .ok (.iconst 1, 1) := by decide +kernel
theorem dL_law_995 : decode cL_law 995 = .ok (.iadd, 1) := by decide +kernel
theorem dL_law_996 : decode cL_law 996 = .ok (.iaload, 1) := by decide +kernel
theorem dL_law_997 : decode cL_law 997 = .ok (.aload_n 3, 1) := by decide +kernel
theorem dL_law_998 : decode cL_law 998 = .ok (.invokestatic 134, 3) := by decide +kernel
theorem dL_law_1001 : decode cL_law 1001 = .ok (.istore 5, 2) := by decide +kernel
theorem dL_law_1003 : decode cL_law 1003 = .ok (.aload_n 2, 1) := by decide +kernel
theorem dL_law_1004 : decode cL_law 1004 = .ok (.aload_n 0, 1) := by decide +kernel
theorem dL_law_1005 : decode cL_law 1005 = .ok (.iload 4, 2) := by decide +kernel
theorem dL_law_1007 : decode cL_law 1007 = .ok (.iconst 1, 1) := by decide +kernel
theorem dL_law_1008 : decode cL_law 1008 = .ok (.iadd, 1) := by decide +kernel
theorem dL_law_1009 : decode cL_law 1009 = .ok (.iaload, 1) := by decide +kernel
theorem dL_law_1010 : decode cL_law 1010 = .ok (.invokevirtual 136, 3) := by decide +kernel
theorem dL_law_1013 : decode cL_law 1013 = .ok (.istore 6, 2) := by decide +kernel
theorem dL_law_1015 : decode cL_law 1015 = .ok (.aload_n 2, 1) := by decide +kernel
theorem dL_law_1016 : decode cL_law 1016 = .ok (.invokevirtual 91, 3) := by decide +kernel
theorem dL_law_1019 : decode cL_law 1019 = .ok (.iload 5, 2) := by decide +kernel
theorem dL_law_1021 : decode cL_law 1021 = .ok (.if_icmp .eq 5, 3) := by decide +kernel
theorem dL_law_1024 : decode cL_law 1024 = .ok (.iconst 0, 1) := by decide +kernel
theorem dL_law_1025 : decode cL_law 1025 = .ok (.ireturn, 1) := by decide +kernel
theorem dL_law_1026 : decode cL_law 1026 = .ok (.iload 5, 2) := by decide +kernel
theorem dL_law_1028 : decode cL_law 1028 = .ok (.ifCond .ne 15, 3) := by decide +kernel
theorem dL_law_1031 : decode cL_law 1031 = .ok (.aload_n 3, 1) := by decide +kernel
theorem dL_law_1032 : decode cL_law 1032 = .ok (.iconst 0, 1) := by decide +kernel
theorem dL_law_1033 : decode cL_law 1033 = .ok (.laload, 1) := by decide +kernel
theorem dL_law_1034 : decode cL_law 1034 = .ok (.iload 6, 2) := by decide +kernel
theorem dL_law_1036 : decode cL_law 1036 = .ok (.i2l, 1) := by decide +kernel
theorem dL_law_1037 : decode cL_law 1037 = .ok (.lcmp, 1) := by decide +kernel
theorem dL_law_1038 : decode cL_law 1038 = .ok (.ifCond .eq 5, 3) := by decide +kernel
theorem dL_law_1041 : decode cL_law 1041 = .ok (.iconst 0, 1) := by decide +kernel
theorem dL_law_1042 : decode cL_law 1042 = .ok (.ireturn, 1) := by decide +kernel
theorem dL_law_1043 : decode cL_law 1043 = .ok (.goto 420, 3) := by decide +kernel
theorem dL_law_1046 : decode cL_law 1046 = .ok (.aload_n 1, 1) := by decide +kernel
theorem dL_law_1047 : decode cL_law 1047 = .ok (.aload_n 0, 1) := by decide +kernel
theorem dL_law_1048 : decode cL_law 1048 = .ok (.iload 4, 2) := by decide +kernel
theorem dL_law_1050 : decode cL_law 1050 = .ok (.iconst 1, 1) := by decide +kernel
theorem dL_law_1051 : decode cL_law 1051 = .ok (.iadd, 1) := by decide +kernel
theorem dL_law_1052 : decode cL_law 1052 = .ok (.iaload, 1) := by decide +kernel
theorem dL_law_1053 : decode cL_law 1053 = .ok (.aload_n 3, 1) := by decide +kernel
theorem dL_law_1054 : decode cL_law 1054 = .ok (.invokestatic 137, 3) := by decide +kernel
theorem dL_law_1057 : decode cL_law 1057 = .ok (.istore 5, 2) := by decide +kernel
theorem dL_law_1059 : decode cL_law 1059 = .ok (.aload_n 2, 1) := by decide +kernel
theorem dL_law_1060 : decode cL_law 1060 = .ok (.aload_n 0, 1) := by decide +kernel
theorem dL_law_1061 : decode cL_law 1061 = .ok (.iload 4, 2) := by decide +kernel
theorem dL_law_1063 : decode cL_law 1063 = .ok (.iconst 1, 1) := by decide +kernel
theorem dL_law_1064 : decode cL_law 1064 = .ok (.iadd, 1) := by decide +kernel
theorem dL_law_1065 : decode cL_law 1065 = .ok (.iaload, 1) := by decide +kernel
theorem dL_law_1066 : decode cL_law 1066 = .ok (.invokevirtual 139, 3) := by decide +kernel
theorem dL_law_1069 : decode cL_law 1069 = .ok (.istore 6, 2) := by decide +kernel
theorem dL_law_1071 : decode cL_law 1071 = .ok (.aload_n 2, 1) := by decide +kernel
theorem dL_law_1072 : decode cL_law 1072 = .ok (.invokevirtual 91, 3) := by decide +kernel
theorem dL_law_1075 : decode cL_law 1075 = .ok (.iload 5, 2) := by decide +kernel
theorem dL_law_1077 : decode cL_law 1077 = .ok (.if_icmp .eq 5, 3) := by decide +kernel
theorem dL_law_1080 : decode cL_law 1080 = .ok (.iconst 0, 1) := by decide +kernel
theorem dL_law_1081 : decode cL_law 1081 = .ok (.ireturn, 1) := by decide +kernel
theorem dL_law_1082 : decode cL_law 1082 = .ok (.iload 5, 2) := by decide +kernel
theorem dL_law_1084 : decode cL_law 1084 = .ok (.ifCond .ne 15, 3) := by decide +kernel
theorem dL_law_1087 : decode cL_law 1087 = .ok (.aload_n 3, 1) := by decide +kernel
theorem dL_law_1088 : decode cL_law 1088 = .ok (.iconst 0, 1) := by decide +kernel
theorem dL_law_1089 : decode cL_law 1089 = .ok (.laload, 1) := by decide +kernel
theorem dL_law_1090 : decode cL_law 1090 = .ok (.iload 6, 2) := by decide +kernel
theorem dL_law_1092 : decode cL_law 1092 = .ok (.i2l, 1) := by decide +kernel
theorem dL_law_1093 : decode cL_law 1093 = .ok (.lcmp, 1) := by decide +kernel
theorem dL_law_1094 : decode cL_law 1094 = .ok (.ifCond .eq 5, 3) := by decide +kernel
theorem dL_law_1097 : decode cL_law 1097 = .ok (.iconst 0, 1) := by decide +kernel
theorem dL_law_1098 : decode cL_law 1098 = .ok (.ireturn, 1) := by decide +kernel
theorem dL_law_1099 : decode cL_law 1099 = .ok (.goto 364, 3) := by decide +kernel
theorem dL_law_1102 : decode cL_law 1102 = .ok (.aload_n 1, 1) := by decide +kernel
theorem dL_law_1103 : decode cL_law 1103 = .ok (.aload_n 0, 1) := by decide +kernel
theorem dL_law_1104 : decode cL_law 1104 = .ok (.iload 4, 2) := by decide +kernel
theorem dL_law_1106 : decode cL_law 1106 = .ok (.iconst 1, 1) := by decide +kernel
theorem dL_law_1107 : decode cL_law 1107 = .ok (.iadd, 1) := by decide +kernel
theorem dL_law_1108 : decode cL_law 1108 = .ok (.iaload, 1) := by decide +kernel
theorem dL_law_1109 : decode cL_law 1109 = .ok (.aload_n 0, 1) := by decide +kernel
theorem dL_law_1110 : decode cL_law 1110 = .ok (.iload 4, 2) := by decide +kernel
theorem dL_law_1112 : decode cL_law 1112 = .ok (.iconst 2, 1) := by decide +kernel
theorem dL_law_1113 : decode cL_law 1113 = .ok (.iadd, 1) := by decide +kernel
theorem dL_law_1114 : decode cL_law 1114 = .ok (.iaload, 1) := by decide +kernel
theorem dL_law_1115 : decode cL_law 1115 = .ok (.aload_n 3, 1) := by decide +kernel
theorem dL_law_1116 : decode cL_law 1116 = .ok (.invokestatic 140, 3) := by decide +kernel
theorem dL_law_1119 : decode cL_law 1119 = .ok (.istore 5, 2) := by decide +kernel
theorem dL_law_1121 : decode cL_law 1121 = .ok (.aload_n 2, 1) := by decide +kernel
theorem dL_law_1122 : decode cL_law 1122 = .ok (.aload_n 0, 1) := by decide +kernel
theorem dL_law_1123 : decode cL_law 1123 = .ok (.iload 4, 2) := by decide +kernel
theorem dL_law_1125 : decode cL_law 1125 = .ok (.iconst 1, 1) := by decide +kernel
theorem dL_law_1126 : decode cL_law 1126 = .ok (.iadd, 1) := by decide +kernel
theorem dL_law_1127 : decode cL_law 1127 = .ok (.iaload, 1) := by decide +kernel
theorem dL_law_1128 : decode cL_law 1128 = .ok (.aload_n 0, 1) := by decide +kernel
theorem dL_law_1129 : decode cL_law 1129 = .ok (.iload 4, 2) := by decide +kernel
theorem dL_law_1131 : decode cL_law 1131 = .ok (.iconst 2, 1) := by decide +kernel
theorem dL_law_1132 : decode cL_law 1132 = .ok (.iadd, 1) := by decide +kernel
theorem dL_law_1133 : decode cL_law 1133 = .ok (.iaload, 1) := by decide +kernel
theorem dL_law_1134 : decode cL_law 1134 = .ok (.invokevirtual 142, 3) := by decide +kernel
theorem dL_law_1137 : decode cL_law 1137 = .ok (.istore 6, 2) := by decide +kernel
theorem dL_law_1139 : decode cL_law 1139 = .ok (.aload_n 2, 1) := by decide +kernel
theorem dL_law_1140 : decode cL_law 1140 = .ok (.invokevirtual 91, 3) := by decide +kernel
theorem dL_law_1143 : decode cL_law 1143 = .ok (.iload 5, 2) := by decide +kernel
theorem dL_law_1145 : decode cL_law 1145 = .ok (.if_icmp .eq 5, 3) := by decide +kernel
theorem dL_law_1148 : decode cL_law 1148 = .ok (.iconst 0, 1) := by decide +kernel
theorem dL_law_1149 : decode cL_law 1149 = .ok (.ireturn, 1) := by decide +kernel
theorem dL_law_1150 : decode cL_law 1150 = .ok (.iload 5, 2) := by decide +kernel
theorem dL_law_1152 : decode cL_law 1152 = .ok (.ifCond .ne 22, 3) := by decide +kernel
theorem dL_law_1155 : decode cL_law 1155 = .ok (.aload_n 3, 1) := by decide +kernel
theorem dL_law_1156 : decode cL_law 1156 = .ok (.iconst 0, 1) := by decide +kernel
theorem dL_law_1157 : decode cL_law 1157 = .ok (.laload, 1) := by decide +kernel
theorem dL_law_1158 : decode cL_law 1158 = .ok (.iload 6, 2) := by decide +kernel
theorem dL_law_1160 : decode cL_law 1160 = .ok (.ifCond .eq 7, 3) := by decide +kernel
theorem dL_law_1163 : decode cL_law 1163 = .ok (.lconst 1, 1) := by decide +kernel
theorem dL_law_1164 : decode cL_law 1164 = .ok (.goto 4, 3) := by decide +kernel
theorem dL_law_1167 : decode cL_law 1167 = .ok (.lconst 0, 1) := by decide +kernel
theorem dL_law_1168 : decode cL_law 1168 = .ok (.lcmp, 1) := by decide +kernel
theorem dL_law_1169 : decode cL_law 1169 = .ok (.ifCond .eq 5, 3) := by decide +kernel
theorem dL_law_1172 : decode cL_law 1172 = .ok (.iconst 0, 1) := by decide +kernel
theorem dL_law_1173 : decode cL_law 1173 = .ok (.ireturn, 1) := by decide +kernel
theorem dL_law_1174 : decode cL_law 1174 = .ok (.goto 289, 3) := by decide +kernel
theorem dL_law_1177 : decode cL_law 1177 = .ok (.aload_n 1, 1) := by decide +kernel
theorem dL_law_1178 : decode cL_law 1178 = .ok (.aload_n 0, 1) := by decide +kernel
theorem dL_law_1179 : decode cL_law 1179 = .ok (.iload 4, 2) := by decide +kernel
theorem dL_law_1181 : decode cL_law 1181 = .ok (.iconst 1, 1) := by decide +kernel
theorem dL_law_1182 : decode cL_law 1182 = .ok (.iadd, 1) := by decide +kernel
theorem dL_law_1183 : decode cL_law 1183 = .ok (.iaload, 1) := by decide +kernel
theorem dL_law_1184 : decode cL_law 1184 = .ok (.aload_n 0, 1) := by decide +kernel
theorem dL_law_1185 : decode cL_law 1185 = .ok (.iload 4, 2) := by decide +kernel
theorem dL_law_1187 : decode cL_law 1187 = .ok (.iconst 2, 1) := by decide +kernel
theorem dL_law_1188 : decode cL_law 1188 = .ok (.iadd, 1) := by decide +kernel
theorem dL_law_1189 : decode cL_law 1189 = .ok (.iaload, 1) := by decide +kernel
theorem dL_law_1190 : decode cL_law 1190 = .ok (.aload_n 0, 1) := by decide +kernel
theorem dL_law_1191 : decode cL_law 1191 = .ok (.iload 4, 2) := by decide +kernel
theorem dL_law_1193 : decode cL_law 1193 = .ok (.iconst 3, 1) := by decide +kernel
theorem dL_law_1194 : decode cL_law 1194 = .ok (.iadd, 1) := by decide +kernel
theorem dL_law_1195 : decode cL_law 1195 = .ok (.iaload, 1) := by decide +kernel
theorem dL_law_1196 : decode cL_law 1196 = .ok (.aload_n 3, 1) := by decide +kernel
theorem dL_law_1197 : decode cL_law 1197 = .ok (.invokestatic 143, 3) := by decide +kernel
theorem dL_law_1200 : decode cL_law 1200 = .ok (.istore 5, 2) := by decide +kernel
theorem dL_law_1202 : decode cL_law 1202 = .ok (.aload_n 2, 1) := by decide +kernel
theorem dL_law_1203 : decode cL_law 1203 = .ok (.aload_n 0, 1) := by decide +kernel
theorem dL_law_1204 : decode cL_law 1204 = .ok (.iload 4, 2) := by decide +kernel
theorem dL_law_1206 : decode cL_law 1206 = .ok (.iconst 1, 1) := by decide +kernel
theorem dL_law_1207 : decode cL_law 1207 = .ok (.iadd, 1) := by decide +kernel
theorem dL_law_1208 : decode cL_law 1208 = .ok (.iaload, 1) := by decide +kernel
theorem dL_law_1209 : decode cL_law 1209 = .ok (.aload_n 0, 1) := by decide +kernel
theorem dL_law_1210 : decode cL_law 1210 = .ok (.iload 4, 2) := by decide +kernel
theorem dL_law_1212 : decode cL_law 1212 = .ok (.iconst 2, 1) := by decide +kernel
theorem dL_law_1213 : decode cL_law 1213 = .ok (.iadd, 1) := by decide +kernel
theorem dL_law_1214 : decode cL_law 1214 = .ok (.iaload, 1) := by decide +kernel
theorem dL_law_1215 : decode cL_law 1215 = .ok (.aload_n 0, 1) := by decide +kernel
theorem dL_law_1216 : decode cL_law 1216 = .ok (.iload 4, 2) := by decide +kernel
theorem dL_law_1218 : decode cL_law 1218 = .ok (.iconst 3, 1) := by decide +kernel
theorem dL_law_1219 : decode cL_law 1219 = .ok (.iadd, 1) := by decide +kernel
theorem dL_law_1220 : decode cL_law 1220 = .ok (.iaload, 1) := by decide +kernel
theorem dL_law_1221 : decode cL_law 1221 = .ok (.invokevirtual 145, 3) := by decide +kernel
theorem dL_law_1224 : decode cL_law 1224 = .ok (.istore 6, 2) := by decide +kernel
theorem dL_law_1226 : decode cL_law 1226 = .ok (.aload_n 2, 1) := by decide +kernel
theorem dL_law_1227 : decode cL_law 1227 = .ok (.invokevirtual 91, 3) := by decide +kernel
theorem dL_law_1230 : decode cL_law 1230 = .ok (.iload 5, 2) := by decide +kernel
theorem dL_law_1232 : decode cL_law 1232 = .ok (.if_icmp .eq 5, 3) := by decide +kernel
theorem dL_law_1235 : decode cL_law 1235 = .ok (.iconst 0, 1) := by decide +kernel
theorem dL_law_1236 : decode cL_law 1236 = .ok (.ireturn, 1) := by decide +kernel
theorem dL_law_1237 : decode cL_law 1237 = .ok (.iload 5, 2) := by decide +kernel
theorem dL_law_1239 : decode cL_law 1239 = .ok (.ifCond .ne 15, 3) := by decide +kernel
theorem dL_law_1242 : decode cL_law 1242 = .ok (.aload_n 3, 1) := by decide +kernel
theorem dL_law_1243 : decode cL_law 1243 = .ok (.iconst 0, 1) := by decide +kernel
theorem dL_law_1244 : decode cL_law 1244 = .ok (.laload, 1) := by decide +kernel
theorem dL_law_1245 : decode cL_law 1245 = .ok (.iload 6, 2) := by decide +kernel
theorem dL_law_1247 : decode cL_law 1247 = .ok (.i2l, 1) := by decide +kernel
theorem dL_law_1248 : decode cL_law 1248 = .ok (.lcmp, 1) := by decide +kernel
theorem dL_law_1249 : decode cL_law 1249 = .ok (.ifCond .eq 5, 3) := by decide +kernel
theorem dL_law_1252 : decode cL_law 1252 = .ok (.iconst 0, 1) := by decide +kernel
theorem dL_law_1253 : decode cL_law 1253 = .ok (.ireturn, 1) := by decide +kernel
theorem dL_law_1254 : decode cL_law 1254 = .ok (.goto 209, 3) := by decide +kernel
theorem dL_law_1257 : decode cL_law 1257 = .ok (.aload_n 1, 1) := by decide +kernel
theorem dL_law_1258 : decode cL_law 1258 = .ok (.invokevirtual 146, 3) := by decide +kernel
theorem dL_law_1261 : decode cL_law 1261 = .ok (.aload_n 2, 1) := by decide +kernel
theorem dL_law_1262 : decode cL_law 1262 = .ok (.invokevirtual 149, 3) := by decide +kernel
theorem dL_law_1265 : decode cL_law 1265 = .ok (.if_icmp .eq 198, 3) := by decide +kernel
theorem dL_law_1268 : decode cL_law 1268 = .ok (.iconst 0, 1) := by decide +kernel
theorem dL_law_1269 : decode cL_law 1269 = .ok (.ireturn, 1) := by decide +kernel
theorem dL_law_1270 : decode cL_law 1270 = .ok (.aload_n 1, 1) := by decide +kernel
theorem dL_law_1271 : decode cL_law 1271 = .ok (.invokevirtual 150, 3) := by decide +kernel
theorem dL_law_1274 : decode cL_law 1274 = .ok (.aload_n 2, 1) := by decide +kernel
theorem dL_law_1275 : decode cL_law 1275 = .ok (.invokevirtual 153, 3) := by decide +kernel
theorem dL_law_1278 : decode cL_law 1278 = .ok (.if_icmp .eq 185, 3) := by decide +kernel
theorem dL_law_1281 : decode cL_law 1281 = .ok (.iconst 0, 1) := by decide +kernel
theorem dL_law_1282 : decode cL_law 1282 = .ok (.ireturn, 1) := by decide +kernel
theorem dL_law_1283 : decode cL_law 1283 = .ok (.aload_n 1, 1) := by decide +kernel
theorem dL_law_1284 : decode cL_law 1284 = .ok (.aload_n 0, 1) := by decide +kernel
theorem dL_law_1285 : decode cL_law 1285 = .ok (.iload 4, 2) := by decide +kernel
theorem dL_law_1287 : decode cL_law 1287 = .ok (.iconst 1, 1) := by decide +kernel
theorem dL_law_1288 : decode cL_law 1288 = .ok (.iadd, 1) := by decide +kernel
theorem dL_law_1289 : decode cL_law 1289 = .ok (.iaload, 1) := by decide +kernel
theorem dL_law_1290 : decode cL_law 1290 = .ok (.aload_n 3, 1) := by decide +kernel
theorem dL_law_1291 : decode cL_law 1291 = .ok (.invokestatic 154, 3) := by decide +kernel
theorem dL_law_1294 : decode cL_law 1294 = .ok (.istore 5, 2) := by decide +kernel
theorem dL_law_1296 : decode cL_law 1296 = .ok (.aload_n 2, 1) := by decide +kernel
theorem dL_law_1297 : decode cL_law 1297 = .ok (.aload_n 0, 1) := by decide +kernel
theorem dL_law_1298 : decode cL_law 1298 = .ok (.iload 4, 2) := by decide +kernel
theorem dL_law_1300 : decode cL_law 1300 = .ok (.iconst 1, 1) := by decide +kernel
theorem dL_law_1301 : decode cL_law 1301 = .ok (.iadd, 1) := by decide +kernel
theorem dL_law_1302 : decode cL_law 1302 = .ok (.iaload, 1) := by decide +kernel
theorem dL_law_1303 : decode cL_law 1303 = .ok (.invokevirtual 156, 3) := by decide +kernel
theorem dL_law_1306 : decode cL_law 1306 = .ok (.istore 6, 2) := by decide +kernel
theorem dL_law_1308 : decode cL_law 1308 = .ok (.aload_n 2, 1) := by decide +kernel
theorem dL_law_1309 : decode cL_law 1309 = .ok (.invokevirtual 91, 3) := by decide +kernel
theorem dL_law_1312 : decode cL_law 1312 = .ok (.iload 5, 2) := by decide +kernel
theorem dL_law_1314 : decode cL_law 1314 = .ok (.if_icmp .eq 5, 3) := by decide +kernel
theorem dL_law_1317 : decode cL_law 1317 = .ok (.iconst 0, 1) := by decide +kernel
theorem dL_law_1318 : decode cL_law 1318 = .ok (.ireturn, 1) := by decide +kernel
theorem dL_law_1319 : decode cL_law 1319 = .ok (.iload 5, 2) := by decide +kernel
theorem dL_law_1321 : decode cL_law 1321 = .ok (.ifCond .ne 15, 3) := by decide +kernel
theorem dL_law_1324 : decode cL_law 1324 = .ok (.aload_n 3, 1) := by decide +kernel
theorem dL_law_1325 : decode cL_law 1325 = .ok (.iconst 0, 1) := by decide +kernel
theorem dL_law_1326 : decode cL_law 1326 = .ok (.laload, 1) := by decide +kernel
theorem dL_law_1327 : decode cL_law 1327 = .ok (.iload 6, 2) := by decide +kernel
theorem dL_law_1329 : decode cL_law 1329 = .ok (.i2l, 1) := by decide +kernel
theorem dL_law_1330 : decode cL_law 1330 = .ok (.lcmp, 1) := by decide +kernel
theorem dL_law_1331 : decode cL_law 1331 = .ok (.ifCond .eq 5, 3) := by decide +kernel
theorem dL_law_1334 : decode cL_law 1334 = .ok (.iconst 0, 1) := by decide +kernel
theorem dL_law_1335 : decode cL_law 1335 = .ok (.ireturn, 1) := by decide +kernel
theorem dL_law_1336 : decode cL_law 1336 = .ok (.goto 127, 3) := by decide +kernel
theorem dL_law_1339 : decode cL_law 1339 = .ok (.aload_n 1, 1) := by decide +kernel
theorem dL_law_1340 : decode cL_law 1340 = .ok (.aload_n 0, 1) := by decide +kernel
theorem dL_law_1341 : decode cL_law 1341 = .ok (.iload 4, 2) := by decide +kernel
theorem dL_law_1343 : decode cL_law 1343 = .ok (.iconst 1, 1) := by decide +kernel
theorem dL_law_1344 : decode cL_law 1344 = .ok (.iadd, 1) := by decide +kernel
theorem dL_law_1345 : decode cL_law 1345 = .ok (.iaload, 1) := by decide +kernel
theorem dL_law_1346 : decode cL_law 1346 = .ok (.aload_n 3, 1) := by decide +kernel
theorem dL_law_1347 : decode cL_law 1347 = .ok (.invokestatic 157, 3) := by decide +kernel
theorem dL_law_1350 : decode cL_law 1350 = .ok (.istore 5, 2) := by decide +kernel
theorem dL_law_1352 : decode cL_law 1352 = .ok (.aload_n 2, 1) := by decide +kernel
theorem dL_law_1353 : decode cL_law 1353 = .ok (.aload_n 0, 1) := by decide +kernel
theorem dL_law_1354 : decode cL_law 1354 = .ok (.iload 4, 2) := by decide +kernel
theorem dL_law_1356 : decode cL_law 1356 = .ok (.iconst 1, 1) := by decide +kernel
theorem dL_law_1357 : decode cL_law 1357 = .ok (.iadd, 1) := by decide +kernel
theorem dL_law_1358 : decode cL_law 1358 = .ok (.iaload, 1) := by decide +kernel
theorem dL_law_1359 : decode cL_law 1359 = .ok (.invokevirtual 159, 3) := by decide +kernel
theorem dL_law_1362 : decode cL_law 1362 = .ok (.istore 6, 2) := by decide +kernel
theorem dL_law_1364 : decode cL_law 1364 = .ok (.aload_n 2, 1) := by decide +kernel
theorem dL_law_1365 : decode cL_law 1365 = .ok (.invokevirtual 91, 3) := by decide +kernel
theorem dL_law_1368 : decode cL_law 1368 = .ok (.iload 5, 2) := by decide +kernel
theorem dL_law_1370 : decode cL_law 1370 = .ok (.if_icmp .eq 5, 3) := by decide +kernel
theorem dL_law_1373 : decode cL_law 1373 = .ok (.iconst 0, 1) := by decide +kernel
theorem dL_law_1374 : decode cL_law 1374 = .ok (.ireturn, 1) := by decide +kernel
theorem dL_law_1375 : decode cL_law 1375 = .ok (.iload 5, 2) := by decide +kernel
theorem dL_law_1377 : decode cL_law 1377 = .ok (.ifCond .ne 15, 3) := by decide +kernel
theorem dL_law_1380 : decode cL_law 1380 = .ok (.aload_n 3, 1) := by decide +kernel
theorem dL_law_1381 : decode cL_law 1381 = .ok (.iconst 0, 1) := by decide +kernel
theorem dL_law_1382 : decode cL_law 1382 = .ok (.laload, 1) := by decide +kernel
theorem dL_law_1383 : decode cL_law 1383 = .ok (.iload 6, 2) := by decide +kernel
theorem dL_law_1385 : decode cL_law 1385 = .ok (.i2l, 1) := by decide +kernel
theorem dL_law_1386 : decode cL_law 1386 = .ok (.lcmp, 1) := by decide +kernel
theorem dL_law_1387 : decode cL_law 1387 = .ok (.ifCond .eq 5, 3) := by decide +kernel
theorem dL_law_1390 : decode cL_law 1390 = .ok (.iconst 0, 1) := by decide +kernel
theorem dL_law_1391 : decode cL_law 1391 = .ok (.ireturn, 1) := by decide +kernel
theorem dL_law_1392 : decode cL_law 1392 = .ok (.goto 71, 3) := by decide +kernel
theorem dL_law_1395 : decode cL_law 1395 = .ok (.aload_n 1, 1) := by decide +kernel
theorem dL_law_1396 : decode cL_law 1396 = .ok (.aload_n 0, 1) := by decide +kernel
theorem dL_law_1397 : decode cL_law 1397 = .ok (.iload 4, 2) := by decide +kernel
theorem dL_law_1399 : decode cL_law 1399 = .ok (.iconst 1, 1) := by decide +kernel
theorem dL_law_1400 : decode cL_law 1400 = .ok (.iadd, 1) := by decide +kernel
theorem dL_law_1401 : decode cL_law 1401 = .ok (.iaload, 1) := by decide +kernel
theorem dL_law_1402 : decode cL_law 1402 = .ok (.aload_n 0, 1) := by decide +kernel
theorem dL_law_1403 : decode cL_law 1403 = .ok (.iload 4, 2) := by decide +kernel
theorem dL_law_1405 : decode cL_law 1405 = .ok (.iconst 2, 1) := by decide +kernel
theorem dL_law_1406 : decode cL_law 1406 = .ok (.iadd, 1) := by decide +kernel
theorem dL_law_1407 : decode cL_law 1407 = .ok (.iaload, 1) := by decide +kernel
theorem dL_law_1408 : decode cL_law 1408 = .ok (.aload_n 3, 1) := by decide +kernel
theorem dL_law_1409 : decode cL_law 1409 = .ok (.invokestatic 160, 3) := by decide +kernel
theorem dL_law_1412 : decode cL_law 1412 = .ok (.istore 5, 2) := by decide +kernel
theorem dL_law_1414 : decode cL_law 1414 = .ok (.aload_n 2, 1) := by decide +kernel
theorem dL_law_1415 : decode cL_law 1415 = .ok (.aload_n 0, 1) := by decide +kernel
theorem dL_law_1416 : decode cL_law 1416 = .ok (.iload 4, 2) := by decide +kernel
theorem dL_law_1418 : decode cL_law 1418 = .ok (.iconst 1, 1) := by decide +kernel
theorem dL_law_1419 : decode cL_law 1419 = .ok (.iadd, 1) := by decide +kernel
theorem dL_law_1420 : decode cL_law 1420 = .ok (.iaload, 1) := by decide +kernel
theorem dL_law_1421 : decode cL_law 1421 = .ok (.aload_n 0, 1) := by decide +kernel
theorem dL_law_1422 : decode cL_law 1422 = .ok (.iload 4, 2) := by decide +kernel
theorem dL_law_1424 : decode cL_law 1424 = .ok (.iconst 2, 1) := by decide +kernel
theorem dL_law_1425 : decode cL_law 1425 = .ok (.iadd, 1) := by decide +kernel
theorem dL_law_1426 : decode cL_law 1426 = .ok (.iaload, 1) := by decide +kernel
theorem dL_law_1427 : decode cL_law 1427 = .ok (.invokevirtual 162, 3) := by decide +kernel
theorem dL_law_1430 : decode cL_law 1430 = .ok (.istore 6, 2) := by decide +kernel
theorem dL_law_1432 : decode cL_law 1432 = .ok (.aload_n 2, 1) := by decide +kernel
theorem dL_law_1433 : decode cL_law 1433 = .ok (.invokevirtual 91, 3) := by decide +kernel
theorem dL_law_1436 : decode cL_law 1436 = .ok (.iload 5, 2) := by decide +kernel
theorem dL_law_1438 : decode cL_law 1438 = .ok (.if_icmp .eq 5, 3) := by decide +kernel
theorem dL_law_1441 : decode cL_law 1441 = .ok (.iconst 0, 1) := by decide +kernel
theorem dL_law_1442 : decode cL_law 1442 = .ok (.ireturn, 1) := by decide +kernel
theorem dL_law_1443 : decode cL_law 1443 = .ok (.iload 5, 2) := by decide +kernel
theorem dL_law_1445 : decode cL_law 1445 = .ok (.ifCond .ne 15, 3) := by decide +kernel
theorem dL_law_1448 : decode cL_law 1448 = .ok (.aload_n 3, 1) := by decide +kernel
theorem dL_law_1449 : decode cL_law 1449 = .ok (.iconst 0, 1) := by decide +kernel
theorem dL_law_1450 : decode cL_law 1450 = .ok (.laload, 1) := by decide +kernel
theorem dL_law_1451 : decode cL_law 1451 = .ok (.iload 6, 2) := by decide +kernel
theorem dL_law_1453 : decode cL_law 1453 = .ok (.i2l, 1) := by decide +kernel
theorem dL_law_1454 : decode cL_law 1454 = .ok (.lcmp, 1) := by decide +kernel
theorem dL_law_1455 : decode cL_law 1455 = .ok (.ifCond .eq 5, 3) := by decide +kernel
theorem dL_law_1458 : decode cL_law 1458 = .ok (.iconst 0, 1) := by decide +kernel
theorem dL_law_1459 : decode cL_law 1459 = .ok (.ireturn, 1) := by decide +kernel
theorem dL_law_1460 : decode cL_law 1460 = .ok (.goto 3, 3) := by decide +kernel
theorem dL_law_1463 : decode cL_law 1463 = .ok (.iinc 4 4, 3) := by decide +kernel
theorem dL_law_1466 : decode cL_law 1466 = .ok (.goto (-1443), 3) := by decide +kernel
theorem dL_law_1469 : decode cL_law 1469 = .ok (.iconst 1, 1) := by decide +kernel
theorem dL_law_1470 : decode cL_law 1470 = .ok (.ireturn, 1) := by decide +kernel
abbrev vwCl : List vw_C := [(RJx4a65c, TJx4a65c, 3), (RX0, TX0, 3), (RX1, TX1, 6), (RX2, TX2, 3), (RX3, TX3, 4), (RX4, TX4, 2), (RX5, TX5, 3), (RX6, TX6, 4), (RX7, TX7, 4), (RX8, TX8, 4), (RX9, TX9, 10), (RX10, TX10, 7), (RX11, TX11, 32)]
end
section
/-! ===== the words that every state keeps: each by its place in the tables ===== -/
def MW : List Cond := lw_tbl.filter goodWord
theorem MW_in {w : Cond} (h : w ∈ MW) : w ∈ lw_tbl := (List.mem_filter.mp h).1
theorem MW_g {w : Cond} (h : w ∈ MW) : goodWord w = true := (List.mem_filter.mp h).2
theorem MW_t {w : Cond} (i : Nat) (h : tables_1[i]? = some w) (g : goodWord w = true) : w ∈ MW := List.mem_filter.mpr ⟨List.mem_append_right _ (List.mem_of_getElem? h), g⟩
theorem MW_p {y : MethodName} {n : Nat} (i : Nat) (h : lw_privs[i]? = some (y, n)) : Cond.selects y.cls y y ∈ MW := List.mem_filter.mpr ⟨List.mem_append_left _ (List.mem_map.mpr ⟨_, List.mem_of_getElem? h, rfl⟩), rfl⟩
theorem ii_X0 : ∀ w ∈ u_ws RX0 TX0 3, w ∈ MW := by decide +kernel
theorem ii_X1 : ∀ w ∈ u_ws RX1 TX1 6, w ∈ MW := by decide +kernel
theorem ii_X2 : ∀ w ∈ u_ws RX2 TX2 3, w ∈ MW := by decide +kernel
theorem ii_X3 : ∀ w ∈ u_ws RX3 TX3 4, w ∈ MW := by decide +kernel
theorem ii_X4 : ∀ w ∈ u_ws RX4 TX4 2, w ∈ MW := by decide +kernel
theorem ii_X5 : ∀ w ∈ u_ws RX5 TX5 3, w ∈ MW := by decide +kernel
theorem ii_X6 : ∀ w ∈ u_ws RX6 TX6 4, w ∈ MW := by decide +kernel
theorem ii_X7 : ∀ w ∈ u_ws RX7 TX7 4, w ∈ MW := by decide +kernel
theorem ii_X8 : ∀ w ∈ u_ws RX8 TX8 4, w ∈ MW := by decide +kernel
theorem ii_X9 : ∀ w ∈ u_ws RX9 TX9 10, w ∈ MW := by decide +kernel
theorem ii_X10 : ∀ w ∈ u_ws RX10 TX10 7, w ∈ MW := by decide +kernel
theorem ii_X11 : ∀ w ∈ u_ws RX11 TX11 32, w ∈ MW := by decide +kernel
theorem ii_Jx4a65c : ∀ w ∈ u_ws RJx4a65c TJx4a65c 3, w ∈ MW := by decide +kernel
theorem mw_0 : (Jvm.Cond.initialized "CursorKeepLaw") ∈ MW := MW_t 0 (by decide +kernel) (by decide +kernel)
theorem mw_1 : (Jvm.Cond.initialized "CursorKeep") ∈ MW := MW_t 1 (by decide +kernel) (by decide +kernel)
theorem mw_2 : (Jvm.Cond.initialized "java/util/AbstractCollection") ∈ MW := MW_t 2 (by decide +kernel) (by decide +kernel)
theorem mw_3 : (Jvm.Cond.initialized "java/util/AbstractList") ∈ MW := MW_t 3 (by decide +kernel) (by decide +kernel)
theorem mw_4 : (Jvm.Cond.initialized "java/util/ArrayList") ∈ MW := MW_t 4 (by decide +kernel) (by decide +kernel)
theorem mw_5 : (Jvm.Cond.initialized "CursorKeep$Plan") ∈ MW := MW_t 5 (by decide +kernel) (by decide +kernel)
theorem mw_6 : (Jvm.Cond.initialized "CursorKeep$Neighbours") ∈ MW := MW_t 6 (by decide +kernel) (by decide +kernel)
theorem mw_7 : (Jvm.Cond.initialized "CursorKeep$Text") ∈ MW := MW_t 7 (by decide +kernel) (by decide +kernel)
theorem mw_8 : (Jvm.Cond.initialized "CursorKeep$Row") ∈ MW := MW_t 8 (by decide +kernel) (by decide +kernel)
theorem mw_9 : (Jvm.Cond.initialized "CursorKeep$Hand") ∈ MW := MW_t 9 (by decide +kernel) (by decide +kernel)
theorem mw_10 : (Jvm.Cond.initialized "CursorKeepModel") ∈ MW := MW_t 10 (by decide +kernel) (by decide +kernel)
theorem mw_11 : (Jvm.Cond.initialized "java/lang/Throwable") ∈ MW := MW_t 11 (by decide +kernel) (by decide +kernel)
theorem mw_12 : (Jvm.Cond.initialized "java/lang/Exception") ∈ MW := MW_t 12 (by decide +kernel) (by decide +kernel)
theorem mw_13 : (Jvm.Cond.initialized "java/lang/RuntimeException") ∈ MW := MW_t 13 (by decide +kernel) (by decide +kernel)
theorem mw_14 : (Jvm.Cond.initialized "java/lang/IndexOutOfBoundsException") ∈ MW := MW_t 14 (by decide +kernel) (by decide +kernel)
theorem mw_15 : (Jvm.Cond.initialized "java/lang/IllegalArgumentException") ∈ MW := MW_t 15 (by decide +kernel) (by decide +kernel)
theorem mw_16 : (Jvm.Cond.initialized "java/lang/IllegalStateException") ∈ MW := MW_t 16 (by decide +kernel) (by decide +kernel)
theorem mw_17 : (Jvm.Cond.initialized "CursorKeep$Act") ∈ MW := MW_t 17 (by decide +kernel) (by decide +kernel)
theorem mw_18 : (Jvm.Cond.initialized "CursorKeep$Deed") ∈ MW := MW_t 18 (by decide +kernel) (by decide +kernel)
theorem mw_19 : (Jvm.Cond.initialized "java/lang/System") ∈ MW := MW_t 19 (by decide +kernel) (by decide +kernel)
theorem mw_20 : (Jvm.Cond.initialized "jdk/internal/util/ArraysSupport") ∈ MW := MW_t 20 (by decide +kernel) (by decide +kernel)
theorem mw_21 : (Jvm.Cond.initialized "java/lang/Math") ∈ MW := MW_t 21 (by decide +kernel) (by decide +kernel)
theorem mw_22 : (Jvm.Cond.initialized "java/util/Arrays") ∈ MW := MW_t 22 (by decide +kernel) (by decide +kernel)
theorem mw_23 : (Jvm.Cond.initialized "java/util/Objects") ∈ MW := MW_t 23 (by decide +kernel) (by decide +kernel)
theorem mw_24 : (Jvm.Cond.initialized "jdk/internal/util/Preconditions") ∈ MW := MW_t 24 (by decide +kernel) (by decide +kernel)
theorem mw_25 : (Jvm.Cond.initialized "CursorKeep$Format") ∈ MW := MW_t 25 (by decide +kernel) (by decide +kernel)
theorem mw_26 : (Jvm.Cond.initialized "CursorKeep$Change") ∈ MW := MW_t 26 (by decide +kernel) (by decide +kernel)
theorem mw_27 : (Jvm.Cond.initialized "CursorKeep$Save") ∈ MW := MW_t 27 (by decide +kernel) (by decide +kernel)
theorem mw_28 : (Jvm.Cond.classLink "CursorKeepLaw" (8 : Nat) "CursorKeep") ∈ MW := MW_t 28 (by decide +kernel) (by decide +kernel)
theorem mw_29 : (Jvm.Cond.instantiable "CursorKeep" (7 : Nat)) ∈ MW := MW_t 29 (by decide +kernel) (by decide +kernel)
theorem mw_30 : (Jvm.Cond.methodLink "CursorKeepLaw" (81 : Nat) ({ cls := "CursorKeep", name := "<init>", desc := "()V" } : Jvm.MethodName)) ∈ MW := MW_t 30 (by decide +kernel) (by decide +kernel)
theorem mw_31 : (Jvm.Cond.instanceMethod ({ cls := "CursorKeep", name := "<init>", desc := "()V" } : Jvm.MethodName)) ∈ MW := MW_t 31 (by decide +kernel) (by decide +kernel)
theorem mw_32 : (Jvm.Cond.code ({ cls := "CursorKeep", name := "<init>", desc := "()V" } : Jvm.MethodName) prog_1_method_1_code (2 : Nat) (Option.none : Option Jvm.ClassFile.FieldType)) ∈ MW := MW_t 32 (by decide +kernel) (by decide +kernel)
theorem mw_33 : (Jvm.Cond.methodLink "CursorKeep" (3 : Nat) ({ cls := "java/lang/Object", name := "<init>", desc := "()V" } : Jvm.MethodName)) ∈ MW := MW_t 33 (by decide +kernel) (by decide +kernel)
theorem mw_34 : (Jvm.Cond.instanceMethod ({ cls := "java/lang/Object", name := "<init>", desc := "()V" } : Jvm.MethodName)) ∈ MW := MW_t 34 (by decide +kernel) (by decide +kernel)
theorem mw_35 : (Jvm.Cond.code ({ cls := "java/lang/Object", name := "<init>", desc := "()V" } : Jvm.MethodName) object_method_1_code (1 : Nat) (Option.none : Option Jvm.ClassFile.FieldType)) ∈ MW := MW_t 35 (by decide +kernel) (by decide +kernel)
theorem mw_36 : (Jvm.Cond.classLink "CursorKeep" (9 : Nat) "CursorKeep$Text") ∈ MW := MW_t 36 (by decide +kernel) (by decide +kernel)
theorem mw_38 : (Jvm.Cond.classLink "CursorKeep" (15 : Nat) "CursorKeep$Hand") ∈ MW := MW_t 38 (by decide +kernel) (by decide +kernel)
theorem mw_40 : (Jvm.Cond.classLink "CursorKeep" (21 : Nat) "java/util/ArrayList") ∈ MW := MW_t 40 (by decide +kernel) (by decide +kernel)
theorem mw_41 : (Jvm.Cond.instantiable "java/util/ArrayList" (3 : Nat)) ∈ MW := MW_t 41 (by decide +kernel) (by decide +kernel)
theorem mw_42 : (Jvm.Cond.methodLink "CursorKeep" (23 : Nat) ({ cls := "java/util/ArrayList", name := "<init>", desc := "()V" } : Jvm.MethodName)) ∈ MW := MW_t 42 (by decide +kernel) (by decide +kernel)
theorem mw_43 : (Jvm.Cond.instanceMethod ({ cls := "java/util/ArrayList", name := "<init>", desc := "()V" } : Jvm.MethodName)) ∈ MW := MW_t 43 (by decide +kernel) (by decide +kernel)
theorem mw_44 : (Jvm.Cond.code ({ cls := "java/util/ArrayList", name := "<init>", desc := "()V" } : Jvm.MethodName) prog_28_method_2_code (1 : Nat) (Option.none : Option Jvm.ClassFile.FieldType)) ∈ MW := MW_t 44 (by decide +kernel) (by decide +kernel)
theorem mw_45 : (Jvm.Cond.methodLink "java/util/ArrayList" (1 : Nat) ({ cls := "java/util/AbstractList", name := "<init>", desc := "()V" } : Jvm.MethodName)) ∈ MW := MW_t 45 (by decide +kernel) (by decide +kernel)
theorem mw_46 : (Jvm.Cond.instanceMethod ({ cls := "java/util/AbstractList", name := "<init>", desc := "()V" } : Jvm.MethodName)) ∈ MW := MW_t 46 (by decide +kernel) (by decide +kernel)
theorem mw_47 : (Jvm.Cond.code ({ cls := "java/util/AbstractList", name := "<init>", desc := "()V" } : Jvm.MethodName) prog_27_method_1_code (1 : Nat) (Option.none : Option Jvm.ClassFile.FieldType)) ∈ MW := MW_t 47 (by decide +kernel) (by decide +kernel)
theorem mw_48 : (Jvm.Cond.methodLink "java/util/AbstractList" (1 : Nat) ({ cls := "java/util/AbstractCollection", name := "<init>", desc := "()V" } : Jvm.MethodName)) ∈ MW := MW_t 48 (by decide +kernel) (by decide +kernel)
theorem mw_49 : (Jvm.Cond.instanceMethod ({ cls := "java/util/AbstractCollection", name := "<init>", desc := "()V" } : Jvm.MethodName)) ∈ MW := MW_t 49 (by decide +kernel) (by decide +kernel)
theorem mw_50 : (Jvm.Cond.code ({ cls := "java/util/AbstractCollection", name := "<init>", desc := "()V" } : Jvm.MethodName) prog_26_method_1_code (1 : Nat) (Option.none : Option Jvm.ClassFile.FieldType)) ∈ MW := MW_t 50 (by decide +kernel) (by decide +kernel)
theorem mw_51 : (Jvm.Cond.methodLink "java/util/AbstractCollection" (1 : Nat) ({ cls := "java/lang/Object", name := "<init>", desc := "()V" } : Jvm.MethodName)) ∈ MW := MW_t 51 (by decide +kernel) (by decide +kernel)
theorem mw_52 : (Jvm.Cond.fieldLink "java/util/ArrayList" (39 : Nat) "java/util/ArrayList" "DEFAULTCAPACITY_EMPTY_ELEMENTDATA" "[Ljava/lang/Object;") ∈ MW := MW_t 52 (by decide +kernel) (by decide +kernel)
theorem mw_54 : (Jvm.Cond.fieldLink "java/util/ArrayList" (9 : Nat) "java/util/ArrayList" "elementData" "[Ljava/lang/Object;") ∈ MW := MW_t 54 (by decide +kernel) (by decide +kernel)
theorem mw_55 : (Jvm.Cond.fieldLink "java/util/ArrayList" (48 : Nat) "java/util/ArrayList" "size" "I") ∈ MW := MW_t 55 (by decide +kernel) (by decide +kernel)
theorem mw_56 : (Jvm.Cond.fieldLink "java/util/AbstractList" (7 : Nat) "java/util/AbstractList" "modCount" "I") ∈ MW := MW_t 56 (by decide +kernel) (by decide +kernel)
theorem mw_57 : (Jvm.Cond.fieldLink "java/util/ArrayList" (63 : Nat) "java/util/ArrayList" "modCount" "I") ∈ MW := MW_t 57 (by decide +kernel) (by decide +kernel)
theorem mw_58 : (Jvm.Cond.sameField "java/util/ArrayList" "java/util/AbstractList" "modCount" "I") ∈ MW := MW_t 58 (by decide +kernel) (by decide +kernel)
theorem mw_59 : (Jvm.Cond.lays "java/util/ArrayList" "java/util/ArrayList" "elementData" "[Ljava/lang/Object;") ∈ MW := MW_t 59 (by decide +kernel) (by decide +kernel)
theorem mw_60 : (Jvm.Cond.soleField "java/util/ArrayList" "elementData") ∈ MW := MW_t 60 (by decide +kernel) (by decide +kernel)
theorem mw_61 : (Jvm.Cond.lays "java/util/ArrayList" "java/util/ArrayList" "size" "I") ∈ MW := MW_t 61 (by decide +kernel) (by decide +kernel)
theorem mw_62 : (Jvm.Cond.soleField "java/util/ArrayList" "size") ∈ MW := MW_t 62 (by decide +kernel) (by decide +kernel)
theorem mw_63 : (Jvm.Cond.lays "java/util/ArrayList" "java/util/AbstractList" "modCount" "I") ∈ MW := MW_t 63 (by decide +kernel) (by decide +kernel)
theorem mw_64 : (Jvm.Cond.soleField "java/util/AbstractList" "modCount") ∈ MW := MW_t 64 (by decide +kernel) (by decide +kernel)
theorem mw_65 : (Jvm.Cond.superclass "java/util/ArrayList" "java/util/AbstractList") ∈ MW := MW_t 65 (by decide +kernel) (by decide +kernel)
theorem mw_66 : (Jvm.Cond.classLink "CursorKeep" (31 : Nat) "CursorKeep$Plan") ∈ MW := MW_t 66 (by decide +kernel) (by decide +kernel)
theorem mw_67 : (Jvm.Cond.instantiable "CursorKeep$Plan" (4 : Nat)) ∈ MW := MW_t 67 (by decide +kernel) (by decide +kernel)
theorem mw_68 : (Jvm.Cond.methodLink "CursorKeep" (33 : Nat) ({ cls := "CursorKeep$Plan", name := "<init>", desc := "()V" } : Jvm.MethodName)) ∈ MW := MW_t 68 (by decide +kernel) (by decide +kernel)
theorem mw_69 : (Jvm.Cond.instanceMethod ({ cls := "CursorKeep$Plan", name := "<init>", desc := "()V" } : Jvm.MethodName)) ∈ MW := MW_t 69 (by decide +kernel) (by decide +kernel)
theorem mw_70 : (Jvm.Cond.code ({ cls := "CursorKeep$Plan", name := "<init>", desc := "()V" } : Jvm.MethodName) prog_8_method_1_code (1 : Nat) (Option.none : Option Jvm.ClassFile.FieldType)) ∈ MW := MW_t 70 (by decide +kernel) (by decide +kernel)
theorem mw_71 : (Jvm.Cond.methodLink "CursorKeep$Plan" (3 : Nat) ({ cls := "java/lang/Object", name := "<init>", desc := "()V" } : Jvm.MethodName)) ∈ MW := MW_t 71 (by decide +kernel) (by decide +kernel)
theorem mw_72 : (Jvm.Cond.fieldLink "CursorKeep$Plan" (9 : Nat) "CursorKeep$Plan" "letters" "[I") ∈ MW := MW_t 72 (by decide +kernel) (by decide +kernel)
theorem mw_73 : (Jvm.Cond.fieldLink "CursorKeep$Plan" (15 : Nat) "CursorKeep$Plan" "signs" "[C") ∈ MW := MW_t 73 (by decide +kernel) (by decide +kernel)
theorem mw_74 : (Jvm.Cond.fieldLink "CursorKeep$Plan" (19 : Nat) "CursorKeep$Plan" "wanted" "[C") ∈ MW := MW_t 74 (by decide +kernel) (by decide +kernel)
theorem mw_75 : (Jvm.Cond.fieldLink "CursorKeep$Plan" (44 : Nat) "CursorKeep$Plan" "count" "I") ∈ MW := MW_t 75 (by decide +kernel) (by decide +kernel)
theorem mw_76 : (Jvm.Cond.laysFinal "CursorKeep$Plan" "CursorKeep$Plan" "letters" "[I") ∈ MW := MW_t 76 (by decide +kernel) (by decide +kernel)
theorem mw_77 : (Jvm.Cond.soleField "CursorKeep$Plan" "letters") ∈ MW := MW_t 77 (by decide +kernel) (by decide +kernel)
theorem mw_78 : (Jvm.Cond.laysFinal "CursorKeep$Plan" "CursorKeep$Plan" "signs" "[C") ∈ MW := MW_t 78 (by decide +kernel) (by decide +kernel)
theorem mw_79 : (Jvm.Cond.soleField "CursorKeep$Plan" "signs") ∈ MW := MW_t 79 (by decide +kernel) (by decide +kernel)
theorem mw_80 : (Jvm.Cond.laysFinal "CursorKeep$Plan" "CursorKeep$Plan" "wanted" "[C") ∈ MW := MW_t 80 (by decide +kernel) (by decide +kernel)
theorem mw_81 : (Jvm.Cond.soleField "CursorKeep$Plan" "wanted") ∈ MW := MW_t 81 (by decide +kernel) (by decide +kernel)
theorem mw_82 : (Jvm.Cond.lays "CursorKeep$Plan" "CursorKeep$Plan" "count" "I") ∈ MW := MW_t 82 (by decide +kernel) (by decide +kernel)
theorem mw_83 : (Jvm.Cond.soleField "CursorKeep$Plan" "count") ∈ MW := MW_t 83 (by decide +kernel) (by decide +kernel)
theorem mw_84 : (Jvm.Cond.superclass "CursorKeep$Plan" "java/lang/Object") ∈ MW := MW_t 84 (by decide +kernel) (by decide +kernel)
theorem mw_85 : (Jvm.Cond.arrayClass Jvm.ClassFile.FieldType.int) ∈ MW := MW_t 85 (by decide +kernel) (by decide +kernel)
theorem mw_86 : (Jvm.Cond.arrayClass Jvm.ClassFile.FieldType.char) ∈ MW := MW_t 86 (by decide +kernel) (by decide +kernel)
theorem mw_87 : (Jvm.Cond.classLink "CursorKeep" (38 : Nat) "CursorKeep$Neighbours") ∈ MW := MW_t 87 (by decide +kernel) (by decide +kernel)
theorem mw_88 : (Jvm.Cond.instantiable "CursorKeep$Neighbours" (3 : Nat)) ∈ MW := MW_t 88 (by decide +kernel) (by decide +kernel)
theorem mw_89 : (Jvm.Cond.methodLink "CursorKeep" (40 : Nat) ({ cls := "CursorKeep$Neighbours", name := "<init>", desc := "()V" } : Jvm.MethodName)) ∈ MW := MW_t 89 (by decide +kernel) (by decide +kernel)
theorem mw_90 : (Jvm.Cond.instanceMethod ({ cls := "CursorKeep$Neighbours", name := "<init>", desc := "()V" } : Jvm.MethodName)) ∈ MW := MW_t 90 (by decide +kernel) (by decide +kernel)
theorem mw_91 : (Jvm.Cond.code ({ cls := "CursorKeep$Neighbours", name := "<init>", desc := "()V" } : Jvm.MethodName) prog_7_method_1_code (1 : Nat) (Option.none : Option Jvm.ClassFile.FieldType)) ∈ MW := MW_t 91 (by decide +kernel) (by decide +kernel)
theorem mw_92 : (Jvm.Cond.methodLink "CursorKeep$Neighbours" (3 : Nat) ({ cls := "java/lang/Object", name := "<init>", desc := "()V" } : Jvm.MethodName)) ∈ MW := MW_t 92 (by decide +kernel) (by decide +kernel)
theorem mw_93 : (Jvm.Cond.fieldLink "CursorKeep$Neighbours" (9 : Nat) "CursorKeep$Neighbours" "going" "[Z") ∈ MW := MW_t 93 (by decide +kernel) (by decide +kernel)
theorem mw_94 : (Jvm.Cond.fieldLink "CursorKeep$Neighbours" (15 : Nat) "CursorKeep$Neighbours" "ahead" "[I") ∈ MW := MW_t 94 (by decide +kernel) (by decide +kernel)
theorem mw_95 : (Jvm.Cond.fieldLink "CursorKeep$Neighbours" (19 : Nat) "CursorKeep$Neighbours" "behind" "[I") ∈ MW := MW_t 95 (by decide +kernel) (by decide +kernel)
theorem mw_96 : (Jvm.Cond.laysFinal "CursorKeep$Neighbours" "CursorKeep$Neighbours" "going" "[Z") ∈ MW := MW_t 96 (by decide +kernel) (by decide +kernel)
theorem mw_97 : (Jvm.Cond.soleField "CursorKeep$Neighbours" "going") ∈ MW := MW_t 97 (by decide +kernel) (by decide +kernel)
theorem mw_98 : (Jvm.Cond.laysFinal "CursorKeep$Neighbours" "CursorKeep$Neighbours" "ahead" "[I") ∈ MW := MW_t 98 (by decide +kernel) (by decide +kernel)
theorem mw_99 : (Jvm.Cond.soleField "CursorKeep$Neighbours" "ahead") ∈ MW := MW_t 99 (by decide +kernel) (by decide +kernel)
theorem mw_100 : (Jvm.Cond.laysFinal "CursorKeep$Neighbours" "CursorKeep$Neighbours" "behind" "[I") ∈ MW := MW_t 100 (by decide +kernel) (by decide +kernel)
theorem mw_101 : (Jvm.Cond.soleField "CursorKeep$Neighbours" "behind") ∈ MW := MW_t 101 (by decide +kernel) (by decide +kernel)
theorem mw_102 : (Jvm.Cond.superclass "CursorKeep$Neighbours" "java/lang/Object") ∈ MW := MW_t 102 (by decide +kernel) (by decide +kernel)
theorem mw_103 : (Jvm.Cond.arrayClass Jvm.ClassFile.FieldType.boolean) ∈ MW := MW_t 103 (by decide +kernel) (by decide +kernel)
theorem mw_104 : (Jvm.Cond.instantiable "CursorKeep$Text" (10 : Nat)) ∈ MW := MW_t 104 (by decide +kernel) (by decide +kernel)
theorem mw_105 : (Jvm.Cond.methodLink "CursorKeep" (45 : Nat) ({ cls := "CursorKeep$Text", name := "<init>", desc := "(I)V" } : Jvm.MethodName)) ∈ MW := MW_t 105 (by decide +kernel) (by decide +kernel)
theorem mw_106 : (Jvm.Cond.instanceMethod ({ cls := "CursorKeep$Text", name := "<init>", desc := "(I)V" } : Jvm.MethodName)) ∈ MW := MW_t 106 (by decide +kernel) (by decide +kernel)
theorem mw_107 : (Jvm.Cond.code ({ cls := "CursorKeep$Text", name := "<init>", desc := "(I)V" } : Jvm.MethodName) prog_11_method_1_code (3 : Nat) (Option.none : Option Jvm.ClassFile.FieldType)) ∈ MW := MW_t 107 (by decide +kernel) (by decide +kernel)
theorem mw_108 : (Jvm.Cond.methodLink "CursorKeep$Text" (3 : Nat) ({ cls := "java/lang/Object", name := "<init>", desc := "()V" } : Jvm.MethodName)) ∈ MW := MW_t 108 (by decide +kernel) (by decide +kernel)
theorem mw_109 : (Jvm.Cond.classLink "CursorKeep$Text" (9 : Nat) "CursorKeep$Row") ∈ MW := MW_t 109 (by decide +kernel) (by decide +kernel)
theorem mw_110 : (Jvm.Cond.instantiable "CursorKeep$Row" (4 : Nat)) ∈ MW := MW_t 110 (by decide +kernel) (by decide +kernel)
theorem mw_111 : (Jvm.Cond.methodLink "CursorKeep$Text" (11 : Nat) ({ cls := "CursorKeep$Row", name := "<init>", desc := "()V" } : Jvm.MethodName)) ∈ MW := MW_t 111 (by decide +kernel) (by decide +kernel)
theorem mw_112 : (Jvm.Cond.instanceMethod ({ cls := "CursorKeep$Row", name := "<init>", desc := "()V" } : Jvm.MethodName)) ∈ MW := MW_t 112 (by decide +kernel) (by decide +kernel)
theorem mw_113 : (Jvm.Cond.code ({ cls := "CursorKeep$Row", name := "<init>", desc := "()V" } : Jvm.MethodName) prog_9_method_1_code (1 : Nat) (Option.none : Option Jvm.ClassFile.FieldType)) ∈ MW := MW_t 113 (by decide +kernel) (by decide +kernel)
theorem mw_114 : (Jvm.Cond.methodLink "CursorKeep$Row" (3 : Nat) ({ cls := "java/lang/Object", name := "<init>", desc := "()V" } : Jvm.MethodName)) ∈ MW := MW_t 114 (by decide +kernel) (by decide +kernel)
theorem mw_115 : (Jvm.Cond.fieldLink "CursorKeep$Row" (9 : Nat) "CursorKeep$Row" "order" "[I") ∈ MW := MW_t 115 (by decide +kernel) (by decide +kernel)
theorem mw_116 : (Jvm.Cond.fieldLink "CursorKeep$Row" (15 : Nat) "CursorKeep$Row" "signs" "[C") ∈ MW := MW_t 116 (by decide +kernel) (by decide +kernel)
theorem mw_117 : (Jvm.Cond.fieldLink "CursorKeep$Row" (19 : Nat) "CursorKeep$Row" "there" "[Z") ∈ MW := MW_t 117 (by decide +kernel) (by decide +kernel)
theorem mw_118 : (Jvm.Cond.fieldLink "CursorKeep$Row" (23 : Nat) "CursorKeep$Row" "count" "I") ∈ MW := MW_t 118 (by decide +kernel) (by decide +kernel)
theorem mw_119 : (Jvm.Cond.laysFinal "CursorKeep$Row" "CursorKeep$Row" "order" "[I") ∈ MW := MW_t 119 (by decide +kernel) (by decide +kernel)
theorem mw_120 : (Jvm.Cond.soleField "CursorKeep$Row" "order") ∈ MW := MW_t 120 (by decide +kernel) (by decide +kernel)
theorem mw_121 : (Jvm.Cond.laysFinal "CursorKeep$Row" "CursorKeep$Row" "signs" "[C") ∈ MW := MW_t 121 (by decide +kernel) (by decide +kernel)
theorem mw_122 : (Jvm.Cond.soleField "CursorKeep$Row" "signs") ∈ MW := MW_t 122 (by decide +kernel) (by decide +kernel)
theorem mw_123 : (Jvm.Cond.laysFinal "CursorKeep$Row" "CursorKeep$Row" "there" "[Z") ∈ MW := MW_t 123 (by decide +kernel) (by decide +kernel)
theorem mw_124 : (Jvm.Cond.soleField "CursorKeep$Row" "there") ∈ MW := MW_t 124 (by decide +kernel) (by decide +kernel)
theorem mw_125 : (Jvm.Cond.lays "CursorKeep$Row" "CursorKeep$Row" "count" "I") ∈ MW := MW_t 125 (by decide +kernel) (by decide +kernel)
theorem mw_126 : (Jvm.Cond.soleField "CursorKeep$Row" "count") ∈ MW := MW_t 126 (by decide +kernel) (by decide +kernel)
theorem mw_127 : (Jvm.Cond.superclass "CursorKeep$Row" "java/lang/Object") ∈ MW := MW_t 127 (by decide +kernel) (by decide +kernel)
theorem mw_128 : (Jvm.Cond.classLink "CursorKeep$Text" (32 : Nat) "java/util/ArrayList") ∈ MW := MW_t 128 (by decide +kernel) (by decide +kernel)
theorem mw_129 : (Jvm.Cond.methodLink "CursorKeep$Text" (34 : Nat) ({ cls := "java/util/ArrayList", name := "<init>", desc := "()V" } : Jvm.MethodName)) ∈ MW := MW_t 129 (by decide +kernel) (by decide +kernel)
theorem mw_130 : (Jvm.Cond.fieldLink "CursorKeep$Text" (43 : Nat) "CursorKeep$Text" "number" "I") ∈ MW := MW_t 130 (by decide +kernel) (by decide +kernel)
theorem mw_131 : (Jvm.Cond.fieldLink "CursorKeep" (143 : Nat) "CursorKeep$Text" "number" "I") ∈ MW := MW_t 131 (by decide +kernel) (by decide +kernel)
theorem mw_132 : (Jvm.Cond.fieldLink "CursorKeep$Text" (12 : Nat) "CursorKeep$Text" "row" "LCursorKeep$Row;") ∈ MW := MW_t 132 (by decide +kernel) (by decide +kernel)
theorem mw_133 : (Jvm.Cond.fieldLink "CursorKeep" (68 : Nat) "CursorKeep$Text" "row" "LCursorKeep$Row;") ∈ MW := MW_t 133 (by decide +kernel) (by decide +kernel)
theorem mw_134 : (Jvm.Cond.fieldLink "CursorKeep$Format" (54 : Nat) "CursorKeep$Text" "row" "LCursorKeep$Row;") ∈ MW := MW_t 134 (by decide +kernel) (by decide +kernel)
theorem mw_135 : (Jvm.Cond.fieldLink "CursorKeep$Text" (18 : Nat) "CursorKeep$Text" "savedSigns" "[C") ∈ MW := MW_t 135 (by decide +kernel) (by decide +kernel)
theorem mw_136 : (Jvm.Cond.fieldLink "CursorKeep" (264 : Nat) "CursorKeep$Text" "savedSigns" "[C") ∈ MW := MW_t 136 (by decide +kernel) (by decide +kernel)
theorem mw_137 : (Jvm.Cond.fieldLink "CursorKeep$Format" (83 : Nat) "CursorKeep$Text" "version" "I") ∈ MW := MW_t 137 (by decide +kernel) (by decide +kernel)
theorem mw_138 : (Jvm.Cond.fieldLink "CursorKeep$Text" (69 : Nat) "CursorKeep$Text" "version" "I") ∈ MW := MW_t 138 (by decide +kernel) (by decide +kernel)
theorem mw_139 : (Jvm.Cond.fieldLink "CursorKeep" (159 : Nat) "CursorKeep$Text" "version" "I") ∈ MW := MW_t 139 (by decide +kernel) (by decide +kernel)
theorem mw_140 : (Jvm.Cond.fieldLink "CursorKeep$Text" (22 : Nat) "CursorKeep$Text" "lockedBy" "I") ∈ MW := MW_t 140 (by decide +kernel) (by decide +kernel)
theorem mw_141 : (Jvm.Cond.fieldLink "CursorKeep" (223 : Nat) "CursorKeep$Text" "lockedBy" "I") ∈ MW := MW_t 141 (by decide +kernel) (by decide +kernel)
theorem mw_142 : (Jvm.Cond.fieldLink "CursorKeep$Text" (26 : Nat) "CursorKeep$Text" "savedVersion" "I") ∈ MW := MW_t 142 (by decide +kernel) (by decide +kernel)
theorem mw_143 : (Jvm.Cond.fieldLink "CursorKeep" (258 : Nat) "CursorKeep$Text" "savedVersion" "I") ∈ MW := MW_t 143 (by decide +kernel) (by decide +kernel)
theorem mw_144 : (Jvm.Cond.fieldLink "CursorKeep$Text" (102 : Nat) "CursorKeep$Text" "savedCount" "I") ∈ MW := MW_t 144 (by decide +kernel) (by decide +kernel)
theorem mw_145 : (Jvm.Cond.fieldLink "CursorKeep" (261 : Nat) "CursorKeep$Text" "savedCount" "I") ∈ MW := MW_t 145 (by decide +kernel) (by decide +kernel)
theorem mw_146 : (Jvm.Cond.fieldLink "CursorKeep$Text" (29 : Nat) "CursorKeep$Text" "anew" "LCursorKeep$Row;") ∈ MW := MW_t 146 (by decide +kernel) (by decide +kernel)
theorem mw_147 : (Jvm.Cond.fieldLink "CursorKeep$Text" (35 : Nat) "CursorKeep$Text" "deeds" "Ljava/util/List;") ∈ MW := MW_t 147 (by decide +kernel) (by decide +kernel)
theorem mw_148 : (Jvm.Cond.fieldLink "CursorKeep$Text" (39 : Nat) "CursorKeep$Text" "cursors" "[I") ∈ MW := MW_t 148 (by decide +kernel) (by decide +kernel)
theorem mw_149 : (Jvm.Cond.laysFinal "CursorKeep$Text" "CursorKeep$Text" "number" "I") ∈ MW := MW_t 149 (by decide +kernel) (by decide +kernel)
theorem mw_150 : (Jvm.Cond.soleField "CursorKeep$Text" "number") ∈ MW := MW_t 150 (by decide +kernel) (by decide +kernel)
theorem mw_151 : (Jvm.Cond.laysFinal "CursorKeep$Text" "CursorKeep$Text" "row" "LCursorKeep$Row;") ∈ MW := MW_t 151 (by decide +kernel) (by decide +kernel)
theorem mw_152 : (Jvm.Cond.soleField "CursorKeep$Text" "row") ∈ MW := MW_t 152 (by decide +kernel) (by decide +kernel)
theorem mw_153 : (Jvm.Cond.laysFinal "CursorKeep$Text" "CursorKeep$Text" "savedSigns" "[C") ∈ MW := MW_t 153 (by decide +kernel) (by decide +kernel)
theorem mw_154 : (Jvm.Cond.soleField "CursorKeep$Text" "savedSigns") ∈ MW := MW_t 154 (by decide +kernel) (by decide +kernel)
theorem mw_155 : (Jvm.Cond.lays "CursorKeep$Text" "CursorKeep$Text" "version" "I") ∈ MW := MW_t 155 (by decide +kernel) (by decide +kernel)
theorem mw_156 : (Jvm.Cond.soleField "CursorKeep$Text" "version") ∈ MW := MW_t 156 (by decide +kernel) (by decide +kernel)
theorem mw_157 : (Jvm.Cond.lays "CursorKeep$Text" "CursorKeep$Text" "lockedBy" "I") ∈ MW := MW_t 157 (by decide +kernel) (by decide +kernel)
theorem mw_158 : (Jvm.Cond.soleField "CursorKeep$Text" "lockedBy") ∈ MW := MW_t 158 (by decide +kernel) (by decide +kernel)
theorem mw_159 : (Jvm.Cond.lays "CursorKeep$Text" "CursorKeep$Text" "savedVersion" "I") ∈ MW := MW_t 159 (by decide +kernel) (by decide +kernel)
theorem mw_160 : (Jvm.Cond.soleField "CursorKeep$Text" "savedVersion") ∈ MW := MW_t 160 (by decide +kernel) (by decide +kernel)
theorem mw_161 : (Jvm.Cond.lays "CursorKeep$Text" "CursorKeep$Text" "savedCount" "I") ∈ MW := MW_t 161 (by decide +kernel) (by decide +kernel)
theorem mw_162 : (Jvm.Cond.soleField "CursorKeep$Text" "savedCount") ∈ MW := MW_t 162 (by decide +kernel) (by decide +kernel)
theorem mw_163 : (Jvm.Cond.laysFinal "CursorKeep$Text" "CursorKeep$Text" "anew" "LCursorKeep$Row;") ∈ MW := MW_t 163 (by decide +kernel) (by decide +kernel)
theorem mw_164 : (Jvm.Cond.soleField "CursorKeep$Text" "anew") ∈ MW := MW_t 164 (by decide +kernel) (by decide +kernel)
theorem mw_165 : (Jvm.Cond.laysFinal "CursorKeep$Text" "CursorKeep$Text" "deeds" "Ljava/util/List;") ∈ MW := MW_t 165 (by decide +kernel) (by decide +kernel)
theorem mw_166 : (Jvm.Cond.soleField "CursorKeep$Text" "deeds") ∈ MW := MW_t 166 (by decide +kernel) (by decide +kernel)
theorem mw_167 : (Jvm.Cond.laysFinal "CursorKeep$Text" "CursorKeep$Text" "cursors" "[I") ∈ MW := MW_t 167 (by decide +kernel) (by decide +kernel)
theorem mw_168 : (Jvm.Cond.soleField "CursorKeep$Text" "cursors") ∈ MW := MW_t 168 (by decide +kernel) (by decide +kernel)
theorem mw_169 : (Jvm.Cond.superclass "CursorKeep$Text" "java/lang/Object") ∈ MW := MW_t 169 (by decide +kernel) (by decide +kernel)
theorem mw_170 : (Jvm.Cond.instantiable "CursorKeep$Hand" (2 : Nat)) ∈ MW := MW_t 170 (by decide +kernel) (by decide +kernel)
theorem mw_171 : (Jvm.Cond.methodLink "CursorKeep" (48 : Nat) ({ cls := "CursorKeep$Hand", name := "<init>", desc := "()V" } : Jvm.MethodName)) ∈ MW := MW_t 171 (by decide +kernel) (by decide +kernel)
theorem mw_172 : (Jvm.Cond.instanceMethod ({ cls := "CursorKeep$Hand", name := "<init>", desc := "()V" } : Jvm.MethodName)) ∈ MW := MW_t 172 (by decide +kernel) (by decide +kernel)
theorem mw_173 : (Jvm.Cond.code ({ cls := "CursorKeep$Hand", name := "<init>", desc := "()V" } : Jvm.MethodName) prog_6_method_1_code (1 : Nat) (Option.none : Option Jvm.ClassFile.FieldType)) ∈ MW := MW_t 173 (by decide +kernel) (by decide +kernel)
theorem mw_174 : (Jvm.Cond.methodLink "CursorKeep$Hand" (3 : Nat) ({ cls := "java/lang/Object", name := "<init>", desc := "()V" } : Jvm.MethodName)) ∈ MW := MW_t 174 (by decide +kernel) (by decide +kernel)
theorem mw_175 : (Jvm.Cond.classLink "CursorKeep$Hand" (9 : Nat) "java/util/ArrayList") ∈ MW := MW_t 175 (by decide +kernel) (by decide +kernel)
theorem mw_176 : (Jvm.Cond.methodLink "CursorKeep$Hand" (11 : Nat) ({ cls := "java/util/ArrayList", name := "<init>", desc := "()V" } : Jvm.MethodName)) ∈ MW := MW_t 176 (by decide +kernel) (by decide +kernel)
theorem mw_177 : (Jvm.Cond.fieldLink "CursorKeep$Hand" (12 : Nat) "CursorKeep$Hand" "acts" "Ljava/util/List;") ∈ MW := MW_t 177 (by decide +kernel) (by decide +kernel)
theorem mw_178 : (Jvm.Cond.fieldLink "CursorKeep$Hand" (24 : Nat) "CursorKeep$Hand" "standing" "I") ∈ MW := MW_t 178 (by decide +kernel) (by decide +kernel)
theorem mw_179 : (Jvm.Cond.laysFinal "CursorKeep$Hand" "CursorKeep$Hand" "acts" "Ljava/util/List;") ∈ MW := MW_t 179 (by decide +kernel) (by decide +kernel)
theorem mw_180 : (Jvm.Cond.soleField "CursorKeep$Hand" "acts") ∈ MW := MW_t 180 (by decide +kernel) (by decide +kernel)
theorem mw_181 : (Jvm.Cond.lays "CursorKeep$Hand" "CursorKeep$Hand" "standing" "I") ∈ MW := MW_t 181 (by decide +kernel) (by decide +kernel)
theorem mw_182 : (Jvm.Cond.soleField "CursorKeep$Hand" "standing") ∈ MW := MW_t 182 (by decide +kernel) (by decide +kernel)
theorem mw_183 : (Jvm.Cond.superclass "CursorKeep$Hand" "java/lang/Object") ∈ MW := MW_t 183 (by decide +kernel) (by decide +kernel)
theorem mw_184 : (Jvm.Cond.fieldLink "CursorKeep" (11 : Nat) "CursorKeep" "texts" "[LCursorKeep$Text;") ∈ MW := MW_t 184 (by decide +kernel) (by decide +kernel)
theorem mw_185 : (Jvm.Cond.fieldLink "CursorKeep" (17 : Nat) "CursorKeep" "hands" "[LCursorKeep$Hand;") ∈ MW := MW_t 185 (by decide +kernel) (by decide +kernel)
theorem mw_186 : (Jvm.Cond.fieldLink "CursorKeep" (24 : Nat) "CursorKeep" "formats" "Ljava/util/List;") ∈ MW := MW_t 186 (by decide +kernel) (by decide +kernel)
theorem mw_187 : (Jvm.Cond.fieldLink "CursorKeep" (28 : Nat) "CursorKeep" "queue" "Ljava/util/List;") ∈ MW := MW_t 187 (by decide +kernel) (by decide +kernel)
theorem mw_188 : (Jvm.Cond.fieldLink "CursorKeep" (34 : Nat) "CursorKeep" "plan" "LCursorKeep$Plan;") ∈ MW := MW_t 188 (by decide +kernel) (by decide +kernel)
theorem mw_189 : (Jvm.Cond.fieldLink "CursorKeep" (41 : Nat) "CursorKeep" "neighbours" "LCursorKeep$Neighbours;") ∈ MW := MW_t 189 (by decide +kernel) (by decide +kernel)
theorem mw_190 : (Jvm.Cond.fieldLink "CursorKeep" (229 : Nat) "CursorKeep" "saves" "I") ∈ MW := MW_t 190 (by decide +kernel) (by decide +kernel)
theorem mw_191 : (Jvm.Cond.laysFinal "CursorKeep" "CursorKeep" "texts" "[LCursorKeep$Text;") ∈ MW := MW_t 191 (by decide +kernel) (by decide +kernel)
theorem mw_192 : (Jvm.Cond.soleField "CursorKeep" "texts") ∈ MW := MW_t 192 (by decide +kernel) (by decide +kernel)
theorem mw_193 : (Jvm.Cond.laysFinal "CursorKeep" "CursorKeep" "hands" "[LCursorKeep$Hand;") ∈ MW := MW_t 193 (by decide +kernel) (by decide +kernel)
theorem mw_194 : (Jvm.Cond.soleField "CursorKeep" "hands") ∈ MW := MW_t 194 (by decide +kernel) (by decide +kernel)
theorem mw_195 : (Jvm.Cond.laysFinal "CursorKeep" "CursorKeep" "formats" "Ljava/util/List;") ∈ MW := MW_t 195 (by decide +kernel) (by decide +kernel)
theorem mw_196 : (Jvm.Cond.soleField "CursorKeep" "formats") ∈ MW := MW_t 196 (by decide +kernel) (by decide +kernel)
theorem mw_197 : (Jvm.Cond.laysFinal "CursorKeep" "CursorKeep" "queue" "Ljava/util/List;") ∈ MW := MW_t 197 (by decide +kernel) (by decide +kernel)
theorem mw_198 : (Jvm.Cond.soleField "CursorKeep" "queue") ∈ MW := MW_t 198 (by decide +kernel) (by decide +kernel)
theorem mw_199 : (Jvm.Cond.laysFinal "CursorKeep" "CursorKeep" "plan" "LCursorKeep$Plan;") ∈ MW := MW_t 199 (by decide +kernel) (by decide +kernel)
theorem mw_200 : (Jvm.Cond.soleField "CursorKeep" "plan") ∈ MW := MW_t 200 (by decide +kernel) (by decide +kernel)
theorem mw_201 : (Jvm.Cond.laysFinal "CursorKeep" "CursorKeep" "neighbours" "LCursorKeep$Neighbours;") ∈ MW := MW_t 201 (by decide +kernel) (by decide +kernel)
theorem mw_202 : (Jvm.Cond.soleField "CursorKeep" "neighbours") ∈ MW := MW_t 202 (by decide +kernel) (by decide +kernel)
theorem mw_203 : (Jvm.Cond.lays "CursorKeep" "CursorKeep" "saves" "I") ∈ MW := MW_t 203 (by decide +kernel) (by decide +kernel)
theorem mw_204 : (Jvm.Cond.soleField "CursorKeep" "saves") ∈ MW := MW_t 204 (by decide +kernel) (by decide +kernel)
theorem mw_205 : (Jvm.Cond.superclass "CursorKeep" "java/lang/Object") ∈ MW := MW_t 205 (by decide +kernel) (by decide +kernel)
theorem mw_206 : (Jvm.Cond.methodLink "CursorKeepLaw" (146 : Nat) ({ cls := "CursorKeep", name := "write", desc := "()I" } : Jvm.MethodName)) ∈ MW := MW_t 206 (by decide +kernel) (by decide +kernel)
theorem mw_207 : (Jvm.Cond.instanceMethod ({ cls := "CursorKeep", name := "write", desc := "()I" } : Jvm.MethodName)) ∈ MW := MW_t 207 (by decide +kernel) (by decide +kernel)
theorem mw_208 : (Jvm.Cond.selects "CursorKeep" ({ cls := "CursorKeep", name := "write", desc := "()I" } : Jvm.MethodName) ({ cls := "CursorKeep", name := "write", desc := "()I" } : Jvm.MethodName)) ∈ MW := MW_t 208 (by decide +kernel) (by decide +kernel)
theorem mw_209 : (Jvm.Cond.code ({ cls := "CursorKeep", name := "write", desc := "()I" } : Jvm.MethodName) prog_1_method_19_code (3 : Nat) (Option.some Jvm.ClassFile.FieldType.int)) ∈ MW := MW_t 209 (by decide +kernel) (by decide +kernel)
theorem mw_211 : (Jvm.Cond.methodLink "CursorKeep" (168 : Nat) ({ cls := "java/util/List", name := "size", desc := "()I" } : Jvm.MethodName)) ∈ MW := MW_t 211 (by decide +kernel) (by decide +kernel)
theorem mw_215 : (Jvm.Cond.selects "java/util/ArrayList" ({ cls := "java/util/List", name := "size", desc := "()I" } : Jvm.MethodName) ({ cls := "java/util/ArrayList", name := "size", desc := "()I" } : Jvm.MethodName)) ∈ MW := MW_t 215 (by decide +kernel) (by decide +kernel)
theorem mw_217 : (Jvm.Cond.instanceMethod ({ cls := "java/util/ArrayList", name := "size", desc := "()I" } : Jvm.MethodName)) ∈ MW := MW_t 217 (by decide +kernel) (by decide +kernel)
theorem mw_219 : (Jvm.Cond.code ({ cls := "java/util/ArrayList", name := "size", desc := "()I" } : Jvm.MethodName) prog_28_method_8_code (1 : Nat) (Option.some Jvm.ClassFile.FieldType.int)) ∈ MW := MW_t 219 (by decide +kernel) (by decide +kernel)
theorem mw_221 : (Jvm.Cond.methodLink "CursorKeep" (239 : Nat) ({ cls := "java/util/List", name := "get", desc := "(I)Ljava/lang/Object;" } : Jvm.MethodName)) ∈ MW := MW_t 221 (by decide +kernel) (by decide +kernel)
theorem mw_224 : (Jvm.Cond.selects "java/util/ArrayList" ({ cls := "java/util/List", name := "get", desc := "(I)Ljava/lang/Object;" } : Jvm.MethodName) ({ cls := "java/util/ArrayList", name := "get", desc := "(I)Ljava/lang/Object;" } : Jvm.MethodName)) ∈ MW := MW_t 224 (by decide +kernel) (by decide +kernel)
theorem mw_226 : (Jvm.Cond.instanceMethod ({ cls := "java/util/ArrayList", name := "get", desc := "(I)Ljava/lang/Object;" } : Jvm.MethodName)) ∈ MW := MW_t 226 (by decide +kernel) (by decide +kernel)
theorem mw_228 : (Jvm.Cond.code ({ cls := "java/util/ArrayList", name := "get", desc := "(I)Ljava/lang/Object;" } : Jvm.MethodName) prog_28_method_20_code (2 : Nat) (Option.some (Jvm.ClassFile.FieldType.object "java/lang/Object"))) ∈ MW := MW_t 228 (by decide +kernel) (by decide +kernel)
theorem mw_229 : (Jvm.Cond.methodLink "java/util/ArrayList" (118 : Nat) ({ cls := "java/util/Objects", name := "checkIndex", desc := "(II)I" } : Jvm.MethodName)) ∈ MW := MW_t 229 (by decide +kernel) (by decide +kernel)
theorem mw_230 : (Jvm.Cond.static ({ cls := "java/util/Objects", name := "checkIndex", desc := "(II)I" } : Jvm.MethodName)) ∈ MW := MW_t 230 (by decide +kernel) (by decide +kernel)
theorem mw_231 : (Jvm.Cond.code ({ cls := "java/util/Objects", name := "checkIndex", desc := "(II)I" } : Jvm.MethodName) prog_32_method_17_code (2 : Nat) (Option.some Jvm.ClassFile.FieldType.int)) ∈ MW := MW_t 231 (by decide +kernel) (by decide +kernel)
theorem mw_232 : (Jvm.Cond.methodLink "java/util/Objects" (105 : Nat) ({ cls := "jdk/internal/util/Preconditions", name := "checkIndex", desc := "(IILjava/util/function/BiFunction;)I" } : Jvm.MethodName)) ∈ MW := MW_t 232 (by decide +kernel) (by decide +kernel)
theorem mw_233 : (Jvm.Cond.static ({ cls := "jdk/internal/util/Preconditions", name := "checkIndex", desc := "(IILjava/util/function/BiFunction;)I" } : Jvm.MethodName)) ∈ MW := MW_t 233 (by decide +kernel) (by decide +kernel)
theorem mw_234 : (Jvm.Cond.code ({ cls := "jdk/internal/util/Preconditions", name := "checkIndex", desc := "(IILjava/util/function/BiFunction;)I" } : Jvm.MethodName) prog_36_method_11_code (3 : Nat) (Option.some Jvm.ClassFile.FieldType.int)) ∈ MW := MW_t 234 (by decide +kernel) (by decide +kernel)
theorem mw_235 : (Jvm.Cond.methodLink "java/util/ArrayList" (123 : Nat) ({ cls := "java/util/ArrayList", name := "elementData", desc := "(I)Ljava/lang/Object;" } : Jvm.MethodName)) ∈ MW := MW_t 235 (by decide +kernel) (by decide +kernel)
theorem mw_236 : (Jvm.Cond.instanceMethod ({ cls := "java/util/ArrayList", name := "elementData", desc := "(I)Ljava/lang/Object;" } : Jvm.MethodName)) ∈ MW := MW_t 236 (by decide +kernel) (by decide +kernel)
theorem mw_237 : (Jvm.Cond.selects "java/util/ArrayList" ({ cls := "java/util/ArrayList", name := "elementData", desc := "(I)Ljava/lang/Object;" } : Jvm.MethodName) ({ cls := "java/util/ArrayList", name := "elementData", desc := "(I)Ljava/lang/Object;" } : Jvm.MethodName)) ∈ MW := MW_t 237 (by decide +kernel) (by decide +kernel)
theorem mw_238 : (Jvm.Cond.code ({ cls := "java/util/ArrayList", name := "elementData", desc := "(I)Ljava/lang/Object;" } : Jvm.MethodName) prog_28_method_18_code (2 : Nat) (Option.some (Jvm.ClassFile.FieldType.object "java/lang/Object"))) ∈ MW := MW_t 238 (by decide +kernel) (by decide +kernel)
theorem mw_239 : (Jvm.Cond.classLink "CursorKeep" (234 : Nat) "CursorKeep$Save") ∈ MW := MW_t 239 (by decide +kernel) (by decide +kernel)
theorem mw_240 : (Jvm.Cond.methodLink "CursorKeep" (243 : Nat) ({ cls := "CursorKeep$Save", name := "isReady", desc := "()Z" } : Jvm.MethodName)) ∈ MW := MW_t 240 (by decide +kernel) (by decide +kernel)
theorem mw_241 : (Jvm.Cond.instanceMethod ({ cls := "CursorKeep$Save", name := "isReady", desc := "()Z" } : Jvm.MethodName)) ∈ MW := MW_t 241 (by decide +kernel) (by decide +kernel)
theorem mw_242 : (Jvm.Cond.selects "CursorKeep$Save" ({ cls := "CursorKeep$Save", name := "isReady", desc := "()Z" } : Jvm.MethodName) ({ cls := "CursorKeep$Save", name := "isReady", desc := "()Z" } : Jvm.MethodName)) ∈ MW := MW_t 242 (by decide +kernel) (by decide +kernel)
theorem mw_243 : (Jvm.Cond.code ({ cls := "CursorKeep$Save", name := "isReady", desc := "()Z" } : Jvm.MethodName) prog_10_method_2_code (1 : Nat) (Option.some Jvm.ClassFile.FieldType.boolean)) ∈ MW := MW_t 243 (by decide +kernel) (by decide +kernel)
theorem mw_244 : (Jvm.Cond.methodLink "CursorKeep$Save" (31 : Nat) ({ cls := "CursorKeep$Text", name := "isFreeFor", desc := "(I)Z" } : Jvm.MethodName)) ∈ MW := MW_t 244 (by decide +kernel) (by decide +kernel)
theorem mw_245 : (Jvm.Cond.instanceMethod ({ cls := "CursorKeep$Text", name := "isFreeFor", desc := "(I)Z" } : Jvm.MethodName)) ∈ MW := MW_t 245 (by decide +kernel) (by decide +kernel)
theorem mw_246 : (Jvm.Cond.selects "CursorKeep$Text" ({ cls := "CursorKeep$Text", name := "isFreeFor", desc := "(I)Z" } : Jvm.MethodName) ({ cls := "CursorKeep$Text", name := "isFreeFor", desc := "(I)Z" } : Jvm.MethodName)) ∈ MW := MW_t 246 (by decide +kernel) (by decide +kernel)
theorem mw_247 : (Jvm.Cond.code ({ cls := "CursorKeep$Text", name := "isFreeFor", desc := "(I)Z" } : Jvm.MethodName) prog_11_method_2_code (2 : Nat) (Option.some Jvm.ClassFile.FieldType.boolean)) ∈ MW := MW_t 247 (by decide +kernel) (by decide +kernel)
theorem mw_248 : (Jvm.Cond.methodLink "CursorKeep" (246 : Nat) ({ cls := "CursorKeep", name := "isFirstForItsText", desc := "(LCursorKeep$Save;)Z" } : Jvm.MethodName)) ∈ MW := MW_t 248 (by decide +kernel) (by decide +kernel)
theorem mw_250 : (Jvm.Cond.instanceMethod ({ cls := "CursorKeep", name := "isFirstForItsText", desc := "(LCursorKeep$Save;)Z" } : Jvm.MethodName)) ∈ MW := MW_t 250 (by decide +kernel) (by decide +kernel)
theorem mw_251 : (Jvm.Cond.code ({ cls := "CursorKeep", name := "isFirstForItsText", desc := "(LCursorKeep$Save;)Z" } : Jvm.MethodName) prog_1_method_28_code (3 : Nat) (Option.some Jvm.ClassFile.FieldType.boolean)) ∈ MW := MW_t 251 (by decide +kernel) (by decide +kernel)
theorem mw_253 : (Jvm.Cond.methodLink "CursorKeep" (250 : Nat) ({ cls := "java/util/List", name := "remove", desc := "(I)Ljava/lang/Object;" } : Jvm.MethodName)) ∈ MW := MW_t 253 (by decide +kernel) (by decide +kernel)
theorem mw_256 : (Jvm.Cond.selects "java/util/ArrayList" ({ cls := "java/util/List", name := "remove", desc := "(I)Ljava/lang/Object;" } : Jvm.MethodName) ({ cls := "java/util/ArrayList", name := "remove", desc := "(I)Ljava/lang/Object;" } : Jvm.MethodName)) ∈ MW := MW_t 256 (by decide +kernel) (by decide +kernel)
theorem mw_258 : (Jvm.Cond.instanceMethod ({ cls := "java/util/ArrayList", name := "remove", desc := "(I)Ljava/lang/Object;" } : Jvm.MethodName)) ∈ MW := MW_t 258 (by decide +kernel) (by decide +kernel)
theorem mw_260 : (Jvm.Cond.code ({ cls := "java/util/ArrayList", name := "remove", desc := "(I)Ljava/lang/Object;" } : Jvm.MethodName) prog_28_method_29_code (4 : Nat) (Option.some (Jvm.ClassFile.FieldType.object "java/lang/Object"))) ∈ MW := MW_t 260 (by decide +kernel) (by decide +kernel)
theorem mw_261 : (Jvm.Cond.methodLink "java/util/ArrayList" (144 : Nat) ({ cls := "java/util/ArrayList", name := "fastRemove", desc := "([Ljava/lang/Object;I)V" } : Jvm.MethodName)) ∈ MW := MW_t 261 (by decide +kernel) (by decide +kernel)
theorem mw_263 : (Jvm.Cond.instanceMethod ({ cls := "java/util/ArrayList", name := "fastRemove", desc := "([Ljava/lang/Object;I)V" } : Jvm.MethodName)) ∈ MW := MW_t 263 (by decide +kernel) (by decide +kernel)
theorem mw_264 : (Jvm.Cond.code ({ cls := "java/util/ArrayList", name := "fastRemove", desc := "([Ljava/lang/Object;I)V" } : Jvm.MethodName) prog_28_method_39_code (4 : Nat) (Option.none : Option Jvm.ClassFile.FieldType)) ∈ MW := MW_t 264 (by decide +kernel) (by decide +kernel)
theorem mw_265 : (Jvm.Cond.methodLink "java/util/ArrayList" (112 : Nat) ({ cls := "java/lang/System", name := "arraycopy", desc := "(Ljava/lang/Object;ILjava/lang/Object;II)V" } : Jvm.MethodName)) ∈ MW := MW_t 265 (by decide +kernel) (by decide +kernel)
theorem mw_266 : (Jvm.Cond.static ({ cls := "java/lang/System", name := "arraycopy", desc := "(Ljava/lang/Object;ILjava/lang/Object;II)V" } : Jvm.MethodName)) ∈ MW := MW_t 266 (by decide +kernel) (by decide +kernel)
theorem mw_267 : (Jvm.Cond.native ({ cls := "java/lang/System", name := "arraycopy", desc := "(Ljava/lang/Object;ILjava/lang/Object;II)V" } : Jvm.MethodName)) ∈ MW := MW_t 267 (by decide +kernel) (by decide +kernel)
theorem mw_268 : (Jvm.Cond.methodLink "CursorKeep" (254 : Nat) ({ cls := "CursorKeep$Text", name := "keepAsSaved", desc := "()V" } : Jvm.MethodName)) ∈ MW := MW_t 268 (by decide +kernel) (by decide +kernel)
theorem mw_269 : (Jvm.Cond.instanceMethod ({ cls := "CursorKeep$Text", name := "keepAsSaved", desc := "()V" } : Jvm.MethodName)) ∈ MW := MW_t 269 (by decide +kernel) (by decide +kernel)
theorem mw_270 : (Jvm.Cond.selects "CursorKeep$Text" ({ cls := "CursorKeep$Text", name := "keepAsSaved", desc := "()V" } : Jvm.MethodName) ({ cls := "CursorKeep$Text", name := "keepAsSaved", desc := "()V" } : Jvm.MethodName)) ∈ MW := MW_t 270 (by decide +kernel) (by decide +kernel)
theorem mw_271 : (Jvm.Cond.code ({ cls := "CursorKeep$Text", name := "keepAsSaved", desc := "()V" } : Jvm.MethodName) prog_11_method_12_code (3 : Nat) (Option.none : Option Jvm.ClassFile.FieldType)) ∈ MW := MW_t 271 (by decide +kernel) (by decide +kernel)
theorem mw_272 : (Jvm.Cond.methodLink "CursorKeep$Text" (56 : Nat) ({ cls := "CursorKeep$Row", name := "count", desc := "()I" } : Jvm.MethodName)) ∈ MW := MW_t 272 (by decide +kernel) (by decide +kernel)
theorem mw_273 : (Jvm.Cond.instanceMethod ({ cls := "CursorKeep$Row", name := "count", desc := "()I" } : Jvm.MethodName)) ∈ MW := MW_t 273 (by decide +kernel) (by decide +kernel)
theorem mw_274 : (Jvm.Cond.selects "CursorKeep$Row" ({ cls := "CursorKeep$Row", name := "count", desc := "()I" } : Jvm.MethodName) ({ cls := "CursorKeep$Row", name := "count", desc := "()I" } : Jvm.MethodName)) ∈ MW := MW_t 274 (by decide +kernel) (by decide +kernel)
theorem mw_275 : (Jvm.Cond.code ({ cls := "CursorKeep$Row", name := "count", desc := "()I" } : Jvm.MethodName) prog_9_method_3_code (1 : Nat) (Option.some Jvm.ClassFile.FieldType.int)) ∈ MW := MW_t 275 (by decide +kernel) (by decide +kernel)
theorem mw_276 : (Jvm.Cond.methodLink "CursorKeep$Text" (105 : Nat) ({ cls := "CursorKeep$Row", name := "letterAt", desc := "(I)I" } : Jvm.MethodName)) ∈ MW := MW_t 276 (by decide +kernel) (by decide +kernel)
theorem mw_277 : (Jvm.Cond.instanceMethod ({ cls := "CursorKeep$Row", name := "letterAt", desc := "(I)I" } : Jvm.MethodName)) ∈ MW := MW_t 277 (by decide +kernel) (by decide +kernel)
theorem mw_278 : (Jvm.Cond.selects "CursorKeep$Row" ({ cls := "CursorKeep$Row", name := "letterAt", desc := "(I)I" } : Jvm.MethodName) ({ cls := "CursorKeep$Row", name := "letterAt", desc := "(I)I" } : Jvm.MethodName)) ∈ MW := MW_t 278 (by decide +kernel) (by decide +kernel)
theorem mw_279 : (Jvm.Cond.code ({ cls := "CursorKeep$Row", name := "letterAt", desc := "(I)I" } : Jvm.MethodName) prog_9_method_8_code (2 : Nat) (Option.some Jvm.ClassFile.FieldType.int)) ∈ MW := MW_t 279 (by decide +kernel) (by decide +kernel)
theorem mw_280 : (Jvm.Cond.methodLink "CursorKeep$Text" (72 : Nat) ({ cls := "CursorKeep$Row", name := "shows", desc := "(I)Z" } : Jvm.MethodName)) ∈ MW := MW_t 280 (by decide +kernel) (by decide +kernel)
theorem mw_281 : (Jvm.Cond.instanceMethod ({ cls := "CursorKeep$Row", name := "shows", desc := "(I)Z" } : Jvm.MethodName)) ∈ MW := MW_t 281 (by decide +kernel) (by decide +kernel)
theorem mw_282 : (Jvm.Cond.selects "CursorKeep$Row" ({ cls := "CursorKeep$Row", name := "shows", desc := "(I)Z" } : Jvm.MethodName) ({ cls := "CursorKeep$Row", name := "shows", desc := "(I)Z" } : Jvm.MethodName)) ∈ MW := MW_t 282 (by decide +kernel) (by decide +kernel)
theorem mw_283 : (Jvm.Cond.code ({ cls := "CursorKeep$Row", name := "shows", desc := "(I)Z" } : Jvm.MethodName) prog_9_method_6_code (2 : Nat) (Option.some Jvm.ClassFile.FieldType.boolean)) ∈ MW := MW_t 283 (by decide +kernel) (by decide +kernel)
theorem mw_284 : (Jvm.Cond.methodLink "CursorKeep$Row" (27 : Nat) ({ cls := "CursorKeep$Row", name := "has", desc := "(I)Z" } : Jvm.MethodName)) ∈ MW := MW_t 284 (by decide +kernel) (by decide +kernel)
theorem mw_285 : (Jvm.Cond.instanceMethod ({ cls := "CursorKeep$Row", name := "has", desc := "(I)Z" } : Jvm.MethodName)) ∈ MW := MW_t 285 (by decide +kernel) (by decide +kernel)
theorem mw_286 : (Jvm.Cond.selects "CursorKeep$Row" ({ cls := "CursorKeep$Row", name := "has", desc := "(I)Z" } : Jvm.MethodName) ({ cls := "CursorKeep$Row", name := "has", desc := "(I)Z" } : Jvm.MethodName)) ∈ MW := MW_t 286 (by decide +kernel) (by decide +kernel)
theorem mw_287 : (Jvm.Cond.code ({ cls := "CursorKeep$Row", name := "has", desc := "(I)Z" } : Jvm.MethodName) prog_9_method_5_code (2 : Nat) (Option.some Jvm.ClassFile.FieldType.boolean)) ∈ MW := MW_t 287 (by decide +kernel) (by decide +kernel)
theorem mw_288 : (Jvm.Cond.methodLink "CursorKeep$Text" (108 : Nat) ({ cls := "CursorKeep$Row", name := "signOf", desc := "(I)C" } : Jvm.MethodName)) ∈ MW := MW_t 288 (by decide +kernel) (by decide +kernel)
theorem mw_289 : (Jvm.Cond.instanceMethod ({ cls := "CursorKeep$Row", name := "signOf", desc := "(I)C" } : Jvm.MethodName)) ∈ MW := MW_t 289 (by decide +kernel) (by decide +kernel)
theorem mw_290 : (Jvm.Cond.selects "CursorKeep$Row" ({ cls := "CursorKeep$Row", name := "signOf", desc := "(I)C" } : Jvm.MethodName) ({ cls := "CursorKeep$Row", name := "signOf", desc := "(I)C" } : Jvm.MethodName)) ∈ MW := MW_t 290 (by decide +kernel) (by decide +kernel)
theorem mw_291 : (Jvm.Cond.code ({ cls := "CursorKeep$Row", name := "signOf", desc := "(I)C" } : Jvm.MethodName) prog_9_method_7_code (2 : Nat) (Option.some Jvm.ClassFile.FieldType.char)) ∈ MW := MW_t 291 (by decide +kernel) (by decide +kernel)
theorem mw_292 : (Jvm.Cond.methodLink "CursorKeepLaw" (150 : Nat) ({ cls := "CursorKeep", name := "queued", desc := "()I" } : Jvm.MethodName)) ∈ MW := MW_t 292 (by decide +kernel) (by decide +kernel)
theorem mw_293 : (Jvm.Cond.instanceMethod ({ cls := "CursorKeep", name := "queued", desc := "()I" } : Jvm.MethodName)) ∈ MW := MW_t 293 (by decide +kernel) (by decide +kernel)
theorem mw_294 : (Jvm.Cond.selects "CursorKeep" ({ cls := "CursorKeep", name := "queued", desc := "()I" } : Jvm.MethodName) ({ cls := "CursorKeep", name := "queued", desc := "()I" } : Jvm.MethodName)) ∈ MW := MW_t 294 (by decide +kernel) (by decide +kernel)
theorem mw_295 : (Jvm.Cond.code ({ cls := "CursorKeep", name := "queued", desc := "()I" } : Jvm.MethodName) prog_1_method_20_code (1 : Nat) (Option.some Jvm.ClassFile.FieldType.int)) ∈ MW := MW_t 295 (by decide +kernel) (by decide +kernel)
theorem mw_296 : (Jvm.Cond.methodLink "CursorKeepLaw" (85 : Nat) ({ cls := "CursorKeepLaw", name := "type", desc := "(LCursorKeep;IIC[J)I" } : Jvm.MethodName)) ∈ MW := MW_t 296 (by decide +kernel) (by decide +kernel)
theorem mw_297 : (Jvm.Cond.static ({ cls := "CursorKeepLaw", name := "type", desc := "(LCursorKeep;IIC[J)I" } : Jvm.MethodName)) ∈ MW := MW_t 297 (by decide +kernel) (by decide +kernel)
theorem mw_298 : (Jvm.Cond.codeWith ({ cls := "CursorKeepLaw", name := "type", desc := "(LCursorKeep;IIC[J)I" } : Jvm.MethodName) method_3_code (6 : Nat) (Option.some Jvm.ClassFile.FieldType.int) [((0 : Nat), (12 : Nat), (15 : Nat), (13 : Nat)), ((0 : Nat), (12 : Nat), (19 : Nat), (15 : Nat)), ((0 : Nat), (12 : Nat), (23 : Nat), (17 : Nat))]) ∈ MW := MW_t 298 (by decide +kernel) (by decide +kernel)
theorem mw_299 : (Jvm.Cond.classLink "CursorKeepLaw" (13 : Nat) "java/lang/IndexOutOfBoundsException") ∈ MW := MW_t 299 (by decide +kernel) (by decide +kernel)
theorem mw_300 : (Jvm.Cond.classLink "CursorKeepLaw" (15 : Nat) "java/lang/IllegalArgumentException") ∈ MW := MW_t 300 (by decide +kernel) (by decide +kernel)
theorem mw_301 : (Jvm.Cond.classLink "CursorKeepLaw" (17 : Nat) "java/lang/IllegalStateException") ∈ MW := MW_t 301 (by decide +kernel) (by decide +kernel)
theorem mw_302 : (Jvm.Cond.methodLink "CursorKeepLaw" (7 : Nat) ({ cls := "CursorKeep", name := "type", desc := "(IIC)I" } : Jvm.MethodName)) ∈ MW := MW_t 302 (by decide +kernel) (by decide +kernel)
theorem mw_303 : (Jvm.Cond.instanceMethod ({ cls := "CursorKeep", name := "type", desc := "(IIC)I" } : Jvm.MethodName)) ∈ MW := MW_t 303 (by decide +kernel) (by decide +kernel)
theorem mw_304 : (Jvm.Cond.selects "CursorKeep" ({ cls := "CursorKeep", name := "type", desc := "(IIC)I" } : Jvm.MethodName) ({ cls := "CursorKeep", name := "type", desc := "(IIC)I" } : Jvm.MethodName)) ∈ MW := MW_t 304 (by decide +kernel) (by decide +kernel)
theorem mw_305 : (Jvm.Cond.code ({ cls := "CursorKeep", name := "type", desc := "(IIC)I" } : Jvm.MethodName) prog_1_method_2_code (6 : Nat) (Option.some Jvm.ClassFile.FieldType.int)) ∈ MW := MW_t 305 (by decide +kernel) (by decide +kernel)
theorem mw_306 : (Jvm.Cond.methodLink "CursorKeep" (49 : Nat) ({ cls := "CursorKeep", name := "handAt", desc := "(I)LCursorKeep$Hand;" } : Jvm.MethodName)) ∈ MW := MW_t 306 (by decide +kernel) (by decide +kernel)
theorem mw_308 : (Jvm.Cond.instanceMethod ({ cls := "CursorKeep", name := "handAt", desc := "(I)LCursorKeep$Hand;" } : Jvm.MethodName)) ∈ MW := MW_t 308 (by decide +kernel) (by decide +kernel)
theorem mw_309 : (Jvm.Cond.code ({ cls := "CursorKeep", name := "handAt", desc := "(I)LCursorKeep$Hand;" } : Jvm.MethodName) prog_1_method_24_code (3 : Nat) (Option.some (Jvm.ClassFile.FieldType.object "CursorKeep$Hand"))) ∈ MW := MW_t 309 (by decide +kernel) (by decide +kernel)
theorem mw_310 : (Jvm.Cond.classLink "CursorKeep" (113 : Nat) "java/lang/IndexOutOfBoundsException") ∈ MW := MW_t 310 (by decide +kernel) (by decide +kernel)
theorem mw_311 : (Jvm.Cond.instantiable "java/lang/IndexOutOfBoundsException" (6 : Nat)) ∈ MW := MW_t 311 (by decide +kernel) (by decide +kernel)
theorem mw_319 : (Jvm.Cond.selects "java/lang/IndexOutOfBoundsException" ({ cls := "java/lang/Throwable", name := "fillInStackTrace", desc := "(I)Ljava/lang/Throwable;" } : Jvm.MethodName) ({ cls := "java/lang/Throwable", name := "fillInStackTrace", desc := "(I)Ljava/lang/Throwable;" } : Jvm.MethodName)) ∈ MW := MW_t 319 (by decide +kernel) (by decide +kernel)
theorem mw_320 : (Jvm.Cond.selects "java/lang/IndexOutOfBoundsException" ({ cls := "java/lang/Throwable", name := "fillInStackTrace", desc := "()Ljava/lang/Throwable;" } : Jvm.MethodName) ({ cls := "java/lang/Throwable", name := "fillInStackTrace", desc := "()Ljava/lang/Throwable;" } : Jvm.MethodName)) ∈ MW := MW_t 320 (by decide +kernel) (by decide +kernel)
theorem mw_321 : (Jvm.Cond.lays "java/lang/IndexOutOfBoundsException" "java/lang/Throwable" "cause" "Ljava/lang/Throwable;") ∈ MW := MW_t 321 (by decide +kernel) (by decide +kernel)
theorem mw_322 : (Jvm.Cond.lays "java/lang/Throwable" "java/lang/Throwable" "cause" "Ljava/lang/Throwable;") ∈ MW := MW_t 322 (by decide +kernel) (by decide +kernel)
theorem mw_323 : (Jvm.Cond.lays "java/lang/IndexOutOfBoundsException" "java/lang/Throwable" "stackTrace" "[Ljava/lang/StackTraceElement;") ∈ MW := MW_t 323 (by decide +kernel) (by decide +kernel)
theorem mw_324 : (Jvm.Cond.lays "java/lang/Throwable" "java/lang/Throwable" "stackTrace" "[Ljava/lang/StackTraceElement;") ∈ MW := MW_t 324 (by decide +kernel) (by decide +kernel)
theorem mw_325 : (Jvm.Cond.lays "java/lang/IndexOutOfBoundsException" "java/lang/Throwable" "suppressedExceptions" "Ljava/util/List;") ∈ MW := MW_t 325 (by decide +kernel) (by decide +kernel)
theorem mw_326 : (Jvm.Cond.lays "java/lang/Throwable" "java/lang/Throwable" "suppressedExceptions" "Ljava/util/List;") ∈ MW := MW_t 326 (by decide +kernel) (by decide +kernel)
theorem mw_327 : (Jvm.Cond.lays "java/lang/IndexOutOfBoundsException" "java/lang/Throwable" "detailMessage" "Ljava/lang/String;") ∈ MW := MW_t 327 (by decide +kernel) (by decide +kernel)
theorem mw_328 : (Jvm.Cond.lays "java/lang/Throwable" "java/lang/Throwable" "detailMessage" "Ljava/lang/String;") ∈ MW := MW_t 328 (by decide +kernel) (by decide +kernel)
theorem mw_329 : (Jvm.Cond.lays "java/lang/IndexOutOfBoundsException" "java/lang/Throwable" "backtrace" "Ljava/lang/Object;") ∈ MW := MW_t 329 (by decide +kernel) (by decide +kernel)
theorem mw_330 : (Jvm.Cond.lays "java/lang/Throwable" "java/lang/Throwable" "backtrace" "Ljava/lang/Object;") ∈ MW := MW_t 330 (by decide +kernel) (by decide +kernel)
theorem mw_331 : (Jvm.Cond.fieldLink "java/lang/Throwable" (198 : Nat) "java/lang/Throwable" "backtrace" "Ljava/lang/Object;") ∈ MW := MW_t 331 (by decide +kernel) (by decide +kernel)
theorem mw_332 : (Jvm.Cond.superclass "java/lang/Throwable" "java/lang/Object") ∈ MW := MW_t 332 (by decide +kernel) (by decide +kernel)
theorem mw_333 : (Jvm.Cond.instanceMethod ({ cls := "java/lang/Throwable", name := "<init>", desc := "()V" } : Jvm.MethodName)) ∈ MW := MW_t 333 (by decide +kernel) (by decide +kernel)
theorem mw_334 : (Jvm.Cond.code ({ cls := "java/lang/Throwable", name := "<init>", desc := "()V" } : Jvm.MethodName) prog_25_method_1_code (1 : Nat) (Option.none : Option Jvm.ClassFile.FieldType)) ∈ MW := MW_t 334 (by decide +kernel) (by decide +kernel)
theorem mw_335 : (Jvm.Cond.methodLink "java/lang/Throwable" (1 : Nat) ({ cls := "java/lang/Object", name := "<init>", desc := "()V" } : Jvm.MethodName)) ∈ MW := MW_t 335 (by decide +kernel) (by decide +kernel)
theorem mw_336 : (Jvm.Cond.fieldLink "java/lang/Throwable" (13 : Nat) "java/lang/Throwable" "UNASSIGNED_STACK" "[Ljava/lang/StackTraceElement;") ∈ MW := MW_t 336 (by decide +kernel) (by decide +kernel)
theorem mw_338 : (Jvm.Cond.fieldLink "java/lang/Throwable" (20 : Nat) "java/lang/Throwable" "SUPPRESSED_SENTINEL" "Ljava/util/List;") ∈ MW := MW_t 338 (by decide +kernel) (by decide +kernel)
theorem mw_340 : (Jvm.Cond.methodLink "java/lang/Throwable" (27 : Nat) ({ cls := "java/lang/Throwable", name := "fillInStackTrace", desc := "()Ljava/lang/Throwable;" } : Jvm.MethodName)) ∈ MW := MW_t 340 (by decide +kernel) (by decide +kernel)
theorem mw_341 : (Jvm.Cond.instanceMethod ({ cls := "java/lang/Throwable", name := "fillInStackTrace", desc := "()Ljava/lang/Throwable;" } : Jvm.MethodName)) ∈ MW := MW_t 341 (by decide +kernel) (by decide +kernel)
theorem mw_342 : (Jvm.Cond.sameMethod "java/lang/Throwable" "java/lang/Throwable" "fillInStackTrace" "()Ljava/lang/Throwable;") ∈ MW := MW_t 342 (by decide +kernel) (by decide +kernel)
theorem mw_343 : (Jvm.Cond.selects "java/lang/IllegalArgumentException" ({ cls := "java/lang/Throwable", name := "fillInStackTrace", desc := "()Ljava/lang/Throwable;" } : Jvm.MethodName) ({ cls := "java/lang/Throwable", name := "fillInStackTrace", desc := "()Ljava/lang/Throwable;" } : Jvm.MethodName)) ∈ MW := MW_t 343 (by decide +kernel) (by decide +kernel)
theorem mw_344 : (Jvm.Cond.selects "java/lang/IllegalStateException" ({ cls := "java/lang/Throwable", name := "fillInStackTrace", desc := "()Ljava/lang/Throwable;" } : Jvm.MethodName) ({ cls := "java/lang/Throwable", name := "fillInStackTrace", desc := "()Ljava/lang/Throwable;" } : Jvm.MethodName)) ∈ MW := MW_t 344 (by decide +kernel) (by decide +kernel)
theorem mw_345 : (Jvm.Cond.codeSync ({ cls := "java/lang/Throwable", name := "fillInStackTrace", desc := "()Ljava/lang/Throwable;" } : Jvm.MethodName) prog_25_method_18_code (1 : Nat) (Option.some (Jvm.ClassFile.FieldType.object "java/lang/Throwable"))) ∈ MW := MW_t 345 (by decide +kernel) (by decide +kernel)
theorem mw_346 : (Jvm.Cond.methodLink "java/lang/Throwable" (202 : Nat) ({ cls := "java/lang/Throwable", name := "fillInStackTrace", desc := "(I)Ljava/lang/Throwable;" } : Jvm.MethodName)) ∈ MW := MW_t 346 (by decide +kernel) (by decide +kernel)
theorem mw_348 : (Jvm.Cond.instanceMethod ({ cls := "java/lang/Throwable", name := "fillInStackTrace", desc := "(I)Ljava/lang/Throwable;" } : Jvm.MethodName)) ∈ MW := MW_t 348 (by decide +kernel) (by decide +kernel)
theorem mw_349 : (Jvm.Cond.instantiable "java/lang/Throwable" (6 : Nat)) ∈ MW := MW_t 349 (by decide +kernel) (by decide +kernel)
theorem mw_350 : (Jvm.Cond.native ({ cls := "java/lang/Throwable", name := "fillInStackTrace", desc := "(I)Ljava/lang/Throwable;" } : Jvm.MethodName)) ∈ MW := MW_t 350 (by decide +kernel) (by decide +kernel)
theorem mw_352 : (Jvm.Cond.methodLink "CursorKeep" (117 : Nat) ({ cls := "java/lang/IndexOutOfBoundsException", name := "<init>", desc := "(Ljava/lang/String;)V" } : Jvm.MethodName)) ∈ MW := MW_t 352 (by decide +kernel) (by decide +kernel)
theorem mw_353 : (Jvm.Cond.instanceMethod ({ cls := "java/lang/IndexOutOfBoundsException", name := "<init>", desc := "(Ljava/lang/String;)V" } : Jvm.MethodName)) ∈ MW := MW_t 353 (by decide +kernel) (by decide +kernel)
theorem mw_354 : (Jvm.Cond.code ({ cls := "java/lang/IndexOutOfBoundsException", name := "<init>", desc := "(Ljava/lang/String;)V" } : Jvm.MethodName) prog_19_method_2_code (2 : Nat) (Option.none : Option Jvm.ClassFile.FieldType)) ∈ MW := MW_t 354 (by decide +kernel) (by decide +kernel)
theorem mw_355 : (Jvm.Cond.methodLink "java/lang/IndexOutOfBoundsException" (7 : Nat) ({ cls := "java/lang/RuntimeException", name := "<init>", desc := "(Ljava/lang/String;)V" } : Jvm.MethodName)) ∈ MW := MW_t 355 (by decide +kernel) (by decide +kernel)
theorem mw_356 : (Jvm.Cond.instanceMethod ({ cls := "java/lang/RuntimeException", name := "<init>", desc := "(Ljava/lang/String;)V" } : Jvm.MethodName)) ∈ MW := MW_t 356 (by decide +kernel) (by decide +kernel)
theorem mw_357 : (Jvm.Cond.code ({ cls := "java/lang/RuntimeException", name := "<init>", desc := "(Ljava/lang/String;)V" } : Jvm.MethodName) prog_22_method_2_code (2 : Nat) (Option.none : Option Jvm.ClassFile.FieldType)) ∈ MW := MW_t 357 (by decide +kernel) (by decide +kernel)
theorem mw_358 : (Jvm.Cond.methodLink "java/lang/RuntimeException" (7 : Nat) ({ cls := "java/lang/Exception", name := "<init>", desc := "(Ljava/lang/String;)V" } : Jvm.MethodName)) ∈ MW := MW_t 358 (by decide +kernel) (by decide +kernel)
theorem mw_359 : (Jvm.Cond.instanceMethod ({ cls := "java/lang/Exception", name := "<init>", desc := "(Ljava/lang/String;)V" } : Jvm.MethodName)) ∈ MW := MW_t 359 (by decide +kernel) (by decide +kernel)
theorem mw_360 : (Jvm.Cond.code ({ cls := "java/lang/Exception", name := "<init>", desc := "(Ljava/lang/String;)V" } : Jvm.MethodName) prog_16_method_2_code (2 : Nat) (Option.none : Option Jvm.ClassFile.FieldType)) ∈ MW := MW_t 360 (by decide +kernel) (by decide +kernel)
theorem mw_361 : (Jvm.Cond.methodLink "java/lang/Exception" (7 : Nat) ({ cls := "java/lang/Throwable", name := "<init>", desc := "(Ljava/lang/String;)V" } : Jvm.MethodName)) ∈ MW := MW_t 361 (by decide +kernel) (by decide +kernel)
theorem mw_362 : (Jvm.Cond.instanceMethod ({ cls := "java/lang/Throwable", name := "<init>", desc := "(Ljava/lang/String;)V" } : Jvm.MethodName)) ∈ MW := MW_t 362 (by decide +kernel) (by decide +kernel)
theorem mw_363 : (Jvm.Cond.code ({ cls := "java/lang/Throwable", name := "<init>", desc := "(Ljava/lang/String;)V" } : Jvm.MethodName) prog_25_method_2_code (2 : Nat) (Option.none : Option Jvm.ClassFile.FieldType)) ∈ MW := MW_t 363 (by decide +kernel) (by decide +kernel)
theorem mw_364 : (Jvm.Cond.fieldLink "java/lang/Throwable" (198 : Nat) "java/lang/Throwable" "backtrace" "Ljava/lang/Object;") ∈ MW := MW_t 364 (by decide +kernel) (by decide +kernel)
theorem mw_365 : (Jvm.Cond.fieldLink "java/lang/Throwable" (31 : Nat) "java/lang/Throwable" "detailMessage" "Ljava/lang/String;") ∈ MW := MW_t 365 (by decide +kernel) (by decide +kernel)
theorem mw_366 : (Jvm.Cond.fieldLink "java/lang/Throwable" (7 : Nat) "java/lang/Throwable" "cause" "Ljava/lang/Throwable;") ∈ MW := MW_t 366 (by decide +kernel) (by decide +kernel)
theorem mw_367 : (Jvm.Cond.fieldLink "java/lang/Throwable" (17 : Nat) "java/lang/Throwable" "stackTrace" "[Ljava/lang/StackTraceElement;") ∈ MW := MW_t 367 (by decide +kernel) (by decide +kernel)
theorem mw_368 : (Jvm.Cond.fieldLink "java/lang/Throwable" (24 : Nat) "java/lang/Throwable" "suppressedExceptions" "Ljava/util/List;") ∈ MW := MW_t 368 (by decide +kernel) (by decide +kernel)
theorem mw_369 : (Jvm.Cond.soleField "java/lang/Throwable" "backtrace") ∈ MW := MW_t 369 (by decide +kernel) (by decide +kernel)
theorem mw_370 : (Jvm.Cond.soleField "java/lang/Throwable" "detailMessage") ∈ MW := MW_t 370 (by decide +kernel) (by decide +kernel)
theorem mw_371 : (Jvm.Cond.soleField "java/lang/Throwable" "cause") ∈ MW := MW_t 371 (by decide +kernel) (by decide +kernel)
theorem mw_372 : (Jvm.Cond.soleField "java/lang/Throwable" "stackTrace") ∈ MW := MW_t 372 (by decide +kernel) (by decide +kernel)
theorem mw_373 : (Jvm.Cond.lays "java/lang/IndexOutOfBoundsException" "java/lang/Throwable" "depth" "I") ∈ MW := MW_t 373 (by decide +kernel) (by decide +kernel)
theorem mw_374 : (Jvm.Cond.soleField "java/lang/Throwable" "depth") ∈ MW := MW_t 374 (by decide +kernel) (by decide +kernel)
theorem mw_375 : (Jvm.Cond.soleField "java/lang/Throwable" "suppressedExceptions") ∈ MW := MW_t 375 (by decide +kernel) (by decide +kernel)
theorem mw_376 : (Jvm.Cond.superclass "java/lang/IndexOutOfBoundsException" "java/lang/RuntimeException") ∈ MW := MW_t 376 (by decide +kernel) (by decide +kernel)
theorem mw_377 : (Jvm.Cond.arrayClass Jvm.ClassFile.FieldType.byte) ∈ MW := MW_t 377 (by decide +kernel) (by decide +kernel)
theorem mw_378 : (Jvm.Cond.methodLink "CursorKeep" (53 : Nat) ({ cls := "CursorKeep", name := "textAt", desc := "(I)LCursorKeep$Text;" } : Jvm.MethodName)) ∈ MW := MW_t 378 (by decide +kernel) (by decide +kernel)
theorem mw_380 : (Jvm.Cond.instanceMethod ({ cls := "CursorKeep", name := "textAt", desc := "(I)LCursorKeep$Text;" } : Jvm.MethodName)) ∈ MW := MW_t 380 (by decide +kernel) (by decide +kernel)
theorem mw_381 : (Jvm.Cond.code ({ cls := "CursorKeep", name := "textAt", desc := "(I)LCursorKeep$Text;" } : Jvm.MethodName) prog_1_method_25_code (3 : Nat) (Option.some (Jvm.ClassFile.FieldType.object "CursorKeep$Text"))) ∈ MW := MW_t 381 (by decide +kernel) (by decide +kernel)
theorem mw_383 : (Jvm.Cond.methodLink "CursorKeep" (57 : Nat) ({ cls := "CursorKeep", name := "canBeTyped", desc := "(C)Z" } : Jvm.MethodName)) ∈ MW := MW_t 383 (by decide +kernel) (by decide +kernel)
theorem mw_384 : (Jvm.Cond.static ({ cls := "CursorKeep", name := "canBeTyped", desc := "(C)Z" } : Jvm.MethodName)) ∈ MW := MW_t 384 (by decide +kernel) (by decide +kernel)
theorem mw_385 : (Jvm.Cond.code ({ cls := "CursorKeep", name := "canBeTyped", desc := "(C)Z" } : Jvm.MethodName) prog_1_method_30_code (1 : Nat) (Option.some Jvm.ClassFile.FieldType.boolean)) ∈ MW := MW_t 385 (by decide +kernel) (by decide +kernel)
theorem mw_386 : (Jvm.Cond.classLink "CursorKeep" (61 : Nat) "java/lang/IllegalArgumentException") ∈ MW := MW_t 386 (by decide +kernel) (by decide +kernel)
theorem mw_387 : (Jvm.Cond.instantiable "java/lang/IllegalArgumentException" (6 : Nat)) ∈ MW := MW_t 387 (by decide +kernel) (by decide +kernel)
theorem mw_389 : (Jvm.Cond.selects "java/lang/IllegalArgumentException" ({ cls := "java/lang/Throwable", name := "fillInStackTrace", desc := "(I)Ljava/lang/Throwable;" } : Jvm.MethodName) ({ cls := "java/lang/Throwable", name := "fillInStackTrace", desc := "(I)Ljava/lang/Throwable;" } : Jvm.MethodName)) ∈ MW := MW_t 389 (by decide +kernel) (by decide +kernel)
theorem mw_390 : (Jvm.Cond.lays "java/lang/IllegalArgumentException" "java/lang/Throwable" "cause" "Ljava/lang/Throwable;") ∈ MW := MW_t 390 (by decide +kernel) (by decide +kernel)
theorem mw_391 : (Jvm.Cond.lays "java/lang/IllegalArgumentException" "java/lang/Throwable" "stackTrace" "[Ljava/lang/StackTraceElement;") ∈ MW := MW_t 391 (by decide +kernel) (by decide +kernel)
theorem mw_392 : (Jvm.Cond.lays "java/lang/IllegalArgumentException" "java/lang/Throwable" "suppressedExceptions" "Ljava/util/List;") ∈ MW := MW_t 392 (by decide +kernel) (by decide +kernel)
theorem mw_393 : (Jvm.Cond.lays "java/lang/IllegalArgumentException" "java/lang/Throwable" "detailMessage" "Ljava/lang/String;") ∈ MW := MW_t 393 (by decide +kernel) (by decide +kernel)
theorem mw_394 : (Jvm.Cond.lays "java/lang/IllegalArgumentException" "java/lang/Throwable" "backtrace" "Ljava/lang/Object;") ∈ MW := MW_t 394 (by decide +kernel) (by decide +kernel)
theorem mw_396 : (Jvm.Cond.methodLink "CursorKeep" (65 : Nat) ({ cls := "java/lang/IllegalArgumentException", name := "<init>", desc := "(Ljava/lang/String;)V" } : Jvm.MethodName)) ∈ MW := MW_t 396 (by decide +kernel) (by decide +kernel)
theorem mw_397 : (Jvm.Cond.instanceMethod ({ cls := "java/lang/IllegalArgumentException", name := "<init>", desc := "(Ljava/lang/String;)V" } : Jvm.MethodName)) ∈ MW := MW_t 397 (by decide +kernel) (by decide +kernel)
theorem mw_398 : (Jvm.Cond.code ({ cls := "java/lang/IllegalArgumentException", name := "<init>", desc := "(Ljava/lang/String;)V" } : Jvm.MethodName) prog_17_method_2_code (2 : Nat) (Option.none : Option Jvm.ClassFile.FieldType)) ∈ MW := MW_t 398 (by decide +kernel) (by decide +kernel)
theorem mw_399 : (Jvm.Cond.methodLink "java/lang/IllegalArgumentException" (7 : Nat) ({ cls := "java/lang/RuntimeException", name := "<init>", desc := "(Ljava/lang/String;)V" } : Jvm.MethodName)) ∈ MW := MW_t 399 (by decide +kernel) (by decide +kernel)
theorem mw_400 : (Jvm.Cond.lays "java/lang/IllegalArgumentException" "java/lang/Throwable" "depth" "I") ∈ MW := MW_t 400 (by decide +kernel) (by decide +kernel)
theorem mw_401 : (Jvm.Cond.superclass "java/lang/IllegalArgumentException" "java/lang/RuntimeException") ∈ MW := MW_t 401 (by decide +kernel) (by decide +kernel)
theorem mw_402 : (Jvm.Cond.methodLink "CursorKeep" (72 : Nat) ({ cls := "CursorKeep$Row", name := "isFull", desc := "()Z" } : Jvm.MethodName)) ∈ MW := MW_t 402 (by decide +kernel) (by decide +kernel)
theorem mw_403 : (Jvm.Cond.instanceMethod ({ cls := "CursorKeep$Row", name := "isFull", desc := "()Z" } : Jvm.MethodName)) ∈ MW := MW_t 403 (by decide +kernel) (by decide +kernel)
theorem mw_404 : (Jvm.Cond.selects "CursorKeep$Row" ({ cls := "CursorKeep$Row", name := "isFull", desc := "()Z" } : Jvm.MethodName) ({ cls := "CursorKeep$Row", name := "isFull", desc := "()Z" } : Jvm.MethodName)) ∈ MW := MW_t 404 (by decide +kernel) (by decide +kernel)
theorem mw_405 : (Jvm.Cond.code ({ cls := "CursorKeep$Row", name := "isFull", desc := "()Z" } : Jvm.MethodName) prog_9_method_4_code (1 : Nat) (Option.some Jvm.ClassFile.FieldType.boolean)) ∈ MW := MW_t 405 (by decide +kernel) (by decide +kernel)
theorem mw_406 : (Jvm.Cond.classLink "CursorKeep" (78 : Nat) "java/lang/IllegalStateException") ∈ MW := MW_t 406 (by decide +kernel) (by decide +kernel)
theorem mw_407 : (Jvm.Cond.instantiable "java/lang/IllegalStateException" (6 : Nat)) ∈ MW := MW_t 407 (by decide +kernel) (by decide +kernel)
theorem mw_409 : (Jvm.Cond.selects "java/lang/IllegalStateException" ({ cls := "java/lang/Throwable", name := "fillInStackTrace", desc := "(I)Ljava/lang/Throwable;" } : Jvm.MethodName) ({ cls := "java/lang/Throwable", name := "fillInStackTrace", desc := "(I)Ljava/lang/Throwable;" } : Jvm.MethodName)) ∈ MW := MW_t 409 (by decide +kernel) (by decide +kernel)
theorem mw_410 : (Jvm.Cond.lays "java/lang/IllegalStateException" "java/lang/Throwable" "cause" "Ljava/lang/Throwable;") ∈ MW := MW_t 410 (by decide +kernel) (by decide +kernel)
theorem mw_411 : (Jvm.Cond.lays "java/lang/IllegalStateException" "java/lang/Throwable" "stackTrace" "[Ljava/lang/StackTraceElement;") ∈ MW := MW_t 411 (by decide +kernel) (by decide +kernel)
theorem mw_412 : (Jvm.Cond.lays "java/lang/IllegalStateException" "java/lang/Throwable" "suppressedExceptions" "Ljava/util/List;") ∈ MW := MW_t 412 (by decide +kernel) (by decide +kernel)
theorem mw_413 : (Jvm.Cond.lays "java/lang/IllegalStateException" "java/lang/Throwable" "detailMessage" "Ljava/lang/String;") ∈ MW := MW_t 413 (by decide +kernel) (by decide +kernel)
theorem mw_414 : (Jvm.Cond.lays "java/lang/IllegalStateException" "java/lang/Throwable" "backtrace" "Ljava/lang/Object;") ∈ MW := MW_t 414 (by decide +kernel) (by decide +kernel)
theorem mw_416 : (Jvm.Cond.methodLink "CursorKeep" (82 : Nat) ({ cls := "java/lang/IllegalStateException", name := "<init>", desc := "(Ljava/lang/String;)V" } : Jvm.MethodName)) ∈ MW := MW_t 416 (by decide +kernel) (by decide +kernel)
theorem mw_417 : (Jvm.Cond.instanceMethod ({ cls := "java/lang/IllegalStateException", name := "<init>", desc := "(Ljava/lang/String;)V" } : Jvm.MethodName)) ∈ MW := MW_t 417 (by decide +kernel) (by decide +kernel)
theorem mw_418 : (Jvm.Cond.code ({ cls := "java/lang/IllegalStateException", name := "<init>", desc := "(Ljava/lang/String;)V" } : Jvm.MethodName) prog_18_method_2_code (2 : Nat) (Option.none : Option Jvm.ClassFile.FieldType)) ∈ MW := MW_t 418 (by decide +kernel) (by decide +kernel)
theorem mw_419 : (Jvm.Cond.methodLink "java/lang/IllegalStateException" (7 : Nat) ({ cls := "java/lang/RuntimeException", name := "<init>", desc := "(Ljava/lang/String;)V" } : Jvm.MethodName)) ∈ MW := MW_t 419 (by decide +kernel) (by decide +kernel)
theorem mw_420 : (Jvm.Cond.lays "java/lang/IllegalStateException" "java/lang/Throwable" "depth" "I") ∈ MW := MW_t 420 (by decide +kernel) (by decide +kernel)
theorem mw_421 : (Jvm.Cond.superclass "java/lang/IllegalStateException" "java/lang/RuntimeException") ∈ MW := MW_t 421 (by decide +kernel) (by decide +kernel)
theorem mw_422 : (Jvm.Cond.classLink "CursorKeep" (83 : Nat) "CursorKeep$Act") ∈ MW := MW_t 422 (by decide +kernel) (by decide +kernel)
theorem mw_423 : (Jvm.Cond.instantiable "CursorKeep$Act" (3 : Nat)) ∈ MW := MW_t 423 (by decide +kernel) (by decide +kernel)
theorem mw_424 : (Jvm.Cond.methodLink "CursorKeep" (85 : Nat) ({ cls := "CursorKeep$Text", name := "putAheadOfCursor", desc := "(IC)I" } : Jvm.MethodName)) ∈ MW := MW_t 424 (by decide +kernel) (by decide +kernel)
theorem mw_425 : (Jvm.Cond.instanceMethod ({ cls := "CursorKeep$Text", name := "putAheadOfCursor", desc := "(IC)I" } : Jvm.MethodName)) ∈ MW := MW_t 425 (by decide +kernel) (by decide +kernel)
theorem mw_426 : (Jvm.Cond.selects "CursorKeep$Text" ({ cls := "CursorKeep$Text", name := "putAheadOfCursor", desc := "(IC)I" } : Jvm.MethodName) ({ cls := "CursorKeep$Text", name := "putAheadOfCursor", desc := "(IC)I" } : Jvm.MethodName)) ∈ MW := MW_t 426 (by decide +kernel) (by decide +kernel)
theorem mw_427 : (Jvm.Cond.code ({ cls := "CursorKeep$Text", name := "putAheadOfCursor", desc := "(IC)I" } : Jvm.MethodName) prog_11_method_7_code (4 : Nat) (Option.some Jvm.ClassFile.FieldType.int)) ∈ MW := MW_t 427 (by decide +kernel) (by decide +kernel)
theorem mw_428 : (Jvm.Cond.classLink "CursorKeep$Text" (60 : Nat) "CursorKeep$Deed") ∈ MW := MW_t 428 (by decide +kernel) (by decide +kernel)
theorem mw_429 : (Jvm.Cond.instantiable "CursorKeep$Deed" (3 : Nat)) ∈ MW := MW_t 429 (by decide +kernel) (by decide +kernel)
theorem mw_430 : (Jvm.Cond.methodLink "CursorKeep$Text" (46 : Nat) ({ cls := "CursorKeep$Text", name := "cursorSpot", desc := "(I)I" } : Jvm.MethodName)) ∈ MW := MW_t 430 (by decide +kernel) (by decide +kernel)
theorem mw_432 : (Jvm.Cond.instanceMethod ({ cls := "CursorKeep$Text", name := "cursorSpot", desc := "(I)I" } : Jvm.MethodName)) ∈ MW := MW_t 432 (by decide +kernel) (by decide +kernel)
theorem mw_433 : (Jvm.Cond.code ({ cls := "CursorKeep$Text", name := "cursorSpot", desc := "(I)I" } : Jvm.MethodName) prog_11_method_13_code (2 : Nat) (Option.some Jvm.ClassFile.FieldType.int)) ∈ MW := MW_t 433 (by decide +kernel) (by decide +kernel)
theorem mw_434 : (Jvm.Cond.methodLink "CursorKeep$Text" (80 : Nat) ({ cls := "CursorKeep$Row", name := "spotOf", desc := "(I)I" } : Jvm.MethodName)) ∈ MW := MW_t 434 (by decide +kernel) (by decide +kernel)
theorem mw_435 : (Jvm.Cond.instanceMethod ({ cls := "CursorKeep$Row", name := "spotOf", desc := "(I)I" } : Jvm.MethodName)) ∈ MW := MW_t 435 (by decide +kernel) (by decide +kernel)
theorem mw_436 : (Jvm.Cond.selects "CursorKeep$Row" ({ cls := "CursorKeep$Row", name := "spotOf", desc := "(I)I" } : Jvm.MethodName) ({ cls := "CursorKeep$Row", name := "spotOf", desc := "(I)I" } : Jvm.MethodName)) ∈ MW := MW_t 436 (by decide +kernel) (by decide +kernel)
theorem mw_437 : (Jvm.Cond.code ({ cls := "CursorKeep$Row", name := "spotOf", desc := "(I)I" } : Jvm.MethodName) prog_9_method_9_code (3 : Nat) (Option.some Jvm.ClassFile.FieldType.int)) ∈ MW := MW_t 437 (by decide +kernel) (by decide +kernel)
theorem mw_438 : (Jvm.Cond.methodLink "CursorKeep$Text" (62 : Nat) ({ cls := "CursorKeep$Deed", name := "<init>", desc := "(IIC)V" } : Jvm.MethodName)) ∈ MW := MW_t 438 (by decide +kernel) (by decide +kernel)
theorem mw_439 : (Jvm.Cond.instanceMethod ({ cls := "CursorKeep$Deed", name := "<init>", desc := "(IIC)V" } : Jvm.MethodName)) ∈ MW := MW_t 439 (by decide +kernel) (by decide +kernel)
theorem mw_440 : (Jvm.Cond.code ({ cls := "CursorKeep$Deed", name := "<init>", desc := "(IIC)V" } : Jvm.MethodName) prog_4_method_1_code (4 : Nat) (Option.none : Option Jvm.ClassFile.FieldType)) ∈ MW := MW_t 440 (by decide +kernel) (by decide +kernel)
theorem mw_441 : (Jvm.Cond.methodLink "CursorKeep$Deed" (1 : Nat) ({ cls := "java/lang/Object", name := "<init>", desc := "()V" } : Jvm.MethodName)) ∈ MW := MW_t 441 (by decide +kernel) (by decide +kernel)
theorem mw_442 : (Jvm.Cond.fieldLink "CursorKeep$Deed" (7 : Nat) "CursorKeep$Deed" "kind" "I") ∈ MW := MW_t 442 (by decide +kernel) (by decide +kernel)
theorem mw_443 : (Jvm.Cond.fieldLink "CursorKeep$Deed" (13 : Nat) "CursorKeep$Deed" "where" "I") ∈ MW := MW_t 443 (by decide +kernel) (by decide +kernel)
theorem mw_444 : (Jvm.Cond.fieldLink "CursorKeep$Deed" (16 : Nat) "CursorKeep$Deed" "sign" "C") ∈ MW := MW_t 444 (by decide +kernel) (by decide +kernel)
theorem mw_445 : (Jvm.Cond.laysFinal "CursorKeep$Deed" "CursorKeep$Deed" "kind" "I") ∈ MW := MW_t 445 (by decide +kernel) (by decide +kernel)
theorem mw_446 : (Jvm.Cond.soleField "CursorKeep$Deed" "kind") ∈ MW := MW_t 446 (by decide +kernel) (by decide +kernel)
theorem mw_447 : (Jvm.Cond.laysFinal "CursorKeep$Deed" "CursorKeep$Deed" "where" "I") ∈ MW := MW_t 447 (by decide +kernel) (by decide +kernel)
theorem mw_448 : (Jvm.Cond.soleField "CursorKeep$Deed" "where") ∈ MW := MW_t 448 (by decide +kernel) (by decide +kernel)
theorem mw_449 : (Jvm.Cond.laysFinal "CursorKeep$Deed" "CursorKeep$Deed" "sign" "C") ∈ MW := MW_t 449 (by decide +kernel) (by decide +kernel)
theorem mw_450 : (Jvm.Cond.soleField "CursorKeep$Deed" "sign") ∈ MW := MW_t 450 (by decide +kernel) (by decide +kernel)
theorem mw_451 : (Jvm.Cond.superclass "CursorKeep$Deed" "java/lang/Object") ∈ MW := MW_t 451 (by decide +kernel) (by decide +kernel)
theorem mw_452 : (Jvm.Cond.methodLink "CursorKeep$Text" (65 : Nat) ({ cls := "CursorKeep$Text", name := "perform", desc := "(LCursorKeep$Deed;)V" } : Jvm.MethodName)) ∈ MW := MW_t 452 (by decide +kernel) (by decide +kernel)
theorem mw_454 : (Jvm.Cond.instanceMethod ({ cls := "CursorKeep$Text", name := "perform", desc := "(LCursorKeep$Deed;)V" } : Jvm.MethodName)) ∈ MW := MW_t 454 (by decide +kernel) (by decide +kernel)
theorem mw_455 : (Jvm.Cond.code ({ cls := "CursorKeep$Text", name := "perform", desc := "(LCursorKeep$Deed;)V" } : Jvm.MethodName) prog_11_method_14_code (2 : Nat) (Option.none : Option Jvm.ClassFile.FieldType)) ∈ MW := MW_t 455 (by decide +kernel) (by decide +kernel)
theorem mw_456 : (Jvm.Cond.methodLink "CursorKeep$Text" (98 : Nat) ({ cls := "CursorKeep$Deed", name := "doTo", desc := "(LCursorKeep$Row;)V" } : Jvm.MethodName)) ∈ MW := MW_t 456 (by decide +kernel) (by decide +kernel)
theorem mw_457 : (Jvm.Cond.instanceMethod ({ cls := "CursorKeep$Deed", name := "doTo", desc := "(LCursorKeep$Row;)V" } : Jvm.MethodName)) ∈ MW := MW_t 457 (by decide +kernel) (by decide +kernel)
theorem mw_458 : (Jvm.Cond.selects "CursorKeep$Deed" ({ cls := "CursorKeep$Deed", name := "doTo", desc := "(LCursorKeep$Row;)V" } : Jvm.MethodName) ({ cls := "CursorKeep$Deed", name := "doTo", desc := "(LCursorKeep$Row;)V" } : Jvm.MethodName)) ∈ MW := MW_t 458 (by decide +kernel) (by decide +kernel)
theorem mw_459 : (Jvm.Cond.code ({ cls := "CursorKeep$Deed", name := "doTo", desc := "(LCursorKeep$Row;)V" } : Jvm.MethodName) prog_4_method_2_code (2 : Nat) (Option.none : Option Jvm.ClassFile.FieldType)) ∈ MW := MW_t 459 (by decide +kernel) (by decide +kernel)
theorem mw_460 : (Jvm.Cond.methodLink "CursorKeep$Deed" (20 : Nat) ({ cls := "CursorKeep$Row", name := "put", desc := "(IC)V" } : Jvm.MethodName)) ∈ MW := MW_t 460 (by decide +kernel) (by decide +kernel)
theorem mw_461 : (Jvm.Cond.instanceMethod ({ cls := "CursorKeep$Row", name := "put", desc := "(IC)V" } : Jvm.MethodName)) ∈ MW := MW_t 461 (by decide +kernel) (by decide +kernel)
theorem mw_462 : (Jvm.Cond.selects "CursorKeep$Row" ({ cls := "CursorKeep$Row", name := "put", desc := "(IC)V" } : Jvm.MethodName) ({ cls := "CursorKeep$Row", name := "put", desc := "(IC)V" } : Jvm.MethodName)) ∈ MW := MW_t 462 (by decide +kernel) (by decide +kernel)
theorem mw_463 : (Jvm.Cond.code ({ cls := "CursorKeep$Row", name := "put", desc := "(IC)V" } : Jvm.MethodName) prog_9_method_15_code (3 : Nat) (Option.none : Option Jvm.ClassFile.FieldType)) ∈ MW := MW_t 463 (by decide +kernel) (by decide +kernel)
theorem mw_464 : (Jvm.Cond.methodLink "CursorKeep$Row" (41 : Nat) ({ cls := "CursorKeep$Row", name := "isFull", desc := "()Z" } : Jvm.MethodName)) ∈ MW := MW_t 464 (by decide +kernel) (by decide +kernel)
theorem mw_465 : (Jvm.Cond.methodLink "CursorKeep$Row" (45 : Nat) ({ cls := "java/lang/System", name := "arraycopy", desc := "(Ljava/lang/Object;ILjava/lang/Object;II)V" } : Jvm.MethodName)) ∈ MW := MW_t 465 (by decide +kernel) (by decide +kernel)
theorem mw_466 : (Jvm.Cond.methodLink "CursorKeep$Deed" (26 : Nat) ({ cls := "CursorKeep$Row", name := "setThere", desc := "(IZ)V" } : Jvm.MethodName)) ∈ MW := MW_t 466 (by decide +kernel) (by decide +kernel)
theorem mw_467 : (Jvm.Cond.instanceMethod ({ cls := "CursorKeep$Row", name := "setThere", desc := "(IZ)V" } : Jvm.MethodName)) ∈ MW := MW_t 467 (by decide +kernel) (by decide +kernel)
theorem mw_468 : (Jvm.Cond.selects "CursorKeep$Row" ({ cls := "CursorKeep$Row", name := "setThere", desc := "(IZ)V" } : Jvm.MethodName) ({ cls := "CursorKeep$Row", name := "setThere", desc := "(IZ)V" } : Jvm.MethodName)) ∈ MW := MW_t 468 (by decide +kernel) (by decide +kernel)
theorem mw_469 : (Jvm.Cond.code ({ cls := "CursorKeep$Row", name := "setThere", desc := "(IZ)V" } : Jvm.MethodName) prog_9_method_16_code (3 : Nat) (Option.none : Option Jvm.ClassFile.FieldType)) ∈ MW := MW_t 469 (by decide +kernel) (by decide +kernel)
theorem mw_470 : (Jvm.Cond.methodLink "CursorKeep$Deed" (30 : Nat) ({ cls := "CursorKeep$Row", name := "setSign", desc := "(IC)V" } : Jvm.MethodName)) ∈ MW := MW_t 470 (by decide +kernel) (by decide +kernel)
theorem mw_471 : (Jvm.Cond.instanceMethod ({ cls := "CursorKeep$Row", name := "setSign", desc := "(IC)V" } : Jvm.MethodName)) ∈ MW := MW_t 471 (by decide +kernel) (by decide +kernel)
theorem mw_472 : (Jvm.Cond.selects "CursorKeep$Row" ({ cls := "CursorKeep$Row", name := "setSign", desc := "(IC)V" } : Jvm.MethodName) ({ cls := "CursorKeep$Row", name := "setSign", desc := "(IC)V" } : Jvm.MethodName)) ∈ MW := MW_t 472 (by decide +kernel) (by decide +kernel)
theorem mw_473 : (Jvm.Cond.code ({ cls := "CursorKeep$Row", name := "setSign", desc := "(IC)V" } : Jvm.MethodName) prog_9_method_17_code (3 : Nat) (Option.none : Option Jvm.ClassFile.FieldType)) ∈ MW := MW_t 473 (by decide +kernel) (by decide +kernel)
theorem mw_475 : (Jvm.Cond.methodLink "CursorKeep$Text" (89 : Nat) ({ cls := "java/util/List", name := "size", desc := "()I" } : Jvm.MethodName)) ∈ MW := MW_t 475 (by decide +kernel) (by decide +kernel)
theorem mw_477 : (Jvm.Cond.methodLink "CursorKeep$Text" (112 : Nat) ({ cls := "java/util/List", name := "add", desc := "(Ljava/lang/Object;)Z" } : Jvm.MethodName)) ∈ MW := MW_t 477 (by decide +kernel) (by decide +kernel)
theorem mw_480 : (Jvm.Cond.selects "java/util/ArrayList" ({ cls := "java/util/List", name := "add", desc := "(Ljava/lang/Object;)Z" } : Jvm.MethodName) ({ cls := "java/util/ArrayList", name := "add", desc := "(Ljava/lang/Object;)Z" } : Jvm.MethodName)) ∈ MW := MW_t 480 (by decide +kernel) (by decide +kernel)
theorem mw_482 : (Jvm.Cond.instanceMethod ({ cls := "java/util/ArrayList", name := "add", desc := "(Ljava/lang/Object;)Z" } : Jvm.MethodName)) ∈ MW := MW_t 482 (by decide +kernel) (by decide +kernel)
theorem mw_484 : (Jvm.Cond.code ({ cls := "java/util/ArrayList", name := "add", desc := "(Ljava/lang/Object;)Z" } : Jvm.MethodName) prog_28_method_25_code (2 : Nat) (Option.some Jvm.ClassFile.FieldType.boolean)) ∈ MW := MW_t 484 (by decide +kernel) (by decide +kernel)
theorem mw_485 : (Jvm.Cond.methodLink "java/util/ArrayList" (131 : Nat) ({ cls := "java/util/ArrayList", name := "add", desc := "(Ljava/lang/Object;[Ljava/lang/Object;I)V" } : Jvm.MethodName)) ∈ MW := MW_t 485 (by decide +kernel) (by decide +kernel)
theorem mw_487 : (Jvm.Cond.instanceMethod ({ cls := "java/util/ArrayList", name := "add", desc := "(Ljava/lang/Object;[Ljava/lang/Object;I)V" } : Jvm.MethodName)) ∈ MW := MW_t 487 (by decide +kernel) (by decide +kernel)
theorem mw_488 : (Jvm.Cond.code ({ cls := "java/util/ArrayList", name := "add", desc := "(Ljava/lang/Object;[Ljava/lang/Object;I)V" } : Jvm.MethodName) prog_28_method_24_code (4 : Nat) (Option.none : Option Jvm.ClassFile.FieldType)) ∈ MW := MW_t 488 (by decide +kernel) (by decide +kernel)
theorem mw_489 : (Jvm.Cond.methodLink "java/util/ArrayList" (129 : Nat) ({ cls := "java/util/ArrayList", name := "grow", desc := "()[Ljava/lang/Object;" } : Jvm.MethodName)) ∈ MW := MW_t 489 (by decide +kernel) (by decide +kernel)
theorem mw_491 : (Jvm.Cond.instanceMethod ({ cls := "java/util/ArrayList", name := "grow", desc := "()[Ljava/lang/Object;" } : Jvm.MethodName)) ∈ MW := MW_t 491 (by decide +kernel) (by decide +kernel)
theorem mw_492 : (Jvm.Cond.code ({ cls := "java/util/ArrayList", name := "grow", desc := "()[Ljava/lang/Object;" } : Jvm.MethodName) prog_28_method_7_code (1 : Nat) (Option.some (Jvm.ClassFile.FieldType.array (Jvm.ClassFile.FieldType.object "java/lang/Object")))) ∈ MW := MW_t 492 (by decide +kernel) (by decide +kernel)
theorem mw_493 : (Jvm.Cond.methodLink "java/util/ArrayList" (69 : Nat) ({ cls := "java/util/ArrayList", name := "grow", desc := "(I)[Ljava/lang/Object;" } : Jvm.MethodName)) ∈ MW := MW_t 493 (by decide +kernel) (by decide +kernel)
theorem mw_495 : (Jvm.Cond.instanceMethod ({ cls := "java/util/ArrayList", name := "grow", desc := "(I)[Ljava/lang/Object;" } : Jvm.MethodName)) ∈ MW := MW_t 495 (by decide +kernel) (by decide +kernel)
theorem mw_496 : (Jvm.Cond.code ({ cls := "java/util/ArrayList", name := "grow", desc := "(I)[Ljava/lang/Object;" } : Jvm.MethodName) prog_28_method_6_code (4 : Nat) (Option.some (Jvm.ClassFile.FieldType.array (Jvm.ClassFile.FieldType.object "java/lang/Object")))) ∈ MW := MW_t 496 (by decide +kernel) (by decide +kernel)
theorem mw_497 : (Jvm.Cond.methodLink "java/util/ArrayList" (73 : Nat) ({ cls := "jdk/internal/util/ArraysSupport", name := "newLength", desc := "(III)I" } : Jvm.MethodName)) ∈ MW := MW_t 497 (by decide +kernel) (by decide +kernel)
theorem mw_498 : (Jvm.Cond.static ({ cls := "jdk/internal/util/ArraysSupport", name := "newLength", desc := "(III)I" } : Jvm.MethodName)) ∈ MW := MW_t 498 (by decide +kernel) (by decide +kernel)
theorem mw_499 : (Jvm.Cond.code ({ cls := "jdk/internal/util/ArraysSupport", name := "newLength", desc := "(III)I" } : Jvm.MethodName) prog_35_method_27_code (4 : Nat) (Option.some Jvm.ClassFile.FieldType.int)) ∈ MW := MW_t 499 (by decide +kernel) (by decide +kernel)
theorem mw_500 : (Jvm.Cond.methodLink "jdk/internal/util/ArraysSupport" (194 : Nat) ({ cls := "java/lang/Math", name := "max", desc := "(II)I" } : Jvm.MethodName)) ∈ MW := MW_t 500 (by decide +kernel) (by decide +kernel)
theorem mw_501 : (Jvm.Cond.static ({ cls := "java/lang/Math", name := "max", desc := "(II)I" } : Jvm.MethodName)) ∈ MW := MW_t 501 (by decide +kernel) (by decide +kernel)
theorem mw_502 : (Jvm.Cond.code ({ cls := "java/lang/Math", name := "max", desc := "(II)I" } : Jvm.MethodName) prog_21_method_65_code (2 : Nat) (Option.some Jvm.ClassFile.FieldType.int)) ∈ MW := MW_t 502 (by decide +kernel) (by decide +kernel)
theorem mw_503 : (Jvm.Cond.constant "jdk/internal/util/ArraysSupport" (200 : Nat) (2147483639 : Int32)) ∈ MW := MW_t 503 (by decide +kernel) (by decide +kernel)
theorem mw_504 : (Jvm.Cond.methodLink "jdk/internal/util/ArraysSupport" (201 : Nat) ({ cls := "jdk/internal/util/ArraysSupport", name := "hugeLength", desc := "(II)I" } : Jvm.MethodName)) ∈ MW := MW_t 504 (by decide +kernel) (by decide +kernel)
theorem mw_505 : (Jvm.Cond.static ({ cls := "jdk/internal/util/ArraysSupport", name := "hugeLength", desc := "(II)I" } : Jvm.MethodName)) ∈ MW := MW_t 505 (by decide +kernel) (by decide +kernel)
theorem mw_506 : (Jvm.Cond.code ({ cls := "jdk/internal/util/ArraysSupport", name := "hugeLength", desc := "(II)I" } : Jvm.MethodName) prog_35_method_28_code (3 : Nat) (Option.some Jvm.ClassFile.FieldType.int)) ∈ MW := MW_t 506 (by decide +kernel) (by decide +kernel)
theorem mw_507 : (Jvm.Cond.methodLink "java/util/ArrayList" (66 : Nat) ({ cls := "java/util/Arrays", name := "copyOf", desc := "([Ljava/lang/Object;I)[Ljava/lang/Object;" } : Jvm.MethodName)) ∈ MW := MW_t 507 (by decide +kernel) (by decide +kernel)
theorem mw_508 : (Jvm.Cond.static ({ cls := "java/util/Arrays", name := "copyOf", desc := "([Ljava/lang/Object;I)[Ljava/lang/Object;" } : Jvm.MethodName)) ∈ MW := MW_t 508 (by decide +kernel) (by decide +kernel)
theorem mw_509 : (Jvm.Cond.code ({ cls := "java/util/Arrays", name := "copyOf", desc := "([Ljava/lang/Object;I)[Ljava/lang/Object;" } : Jvm.MethodName) prog_29_method_119_code (2 : Nat) (Option.some (Jvm.ClassFile.FieldType.array (Jvm.ClassFile.FieldType.object "java/lang/Object")))) ∈ MW := MW_t 509 (by decide +kernel) (by decide +kernel)
theorem mw_510 : (Jvm.Cond.methodLink "java/util/Arrays" (86 : Nat) ({ cls := "java/lang/Object", name := "getClass", desc := "()Ljava/lang/Class;" } : Jvm.MethodName)) ∈ MW := MW_t 510 (by decide +kernel) (by decide +kernel)
theorem mw_511 : (Jvm.Cond.instanceMethod ({ cls := "java/lang/Object", name := "getClass", desc := "()Ljava/lang/Class;" } : Jvm.MethodName)) ∈ MW := MW_t 511 (by decide +kernel) (by decide +kernel)
theorem mw_512 : (Jvm.Cond.sameMethod "java/lang/Object" "java/lang/Object" "getClass" "()Ljava/lang/Class;") ∈ MW := MW_t 512 (by decide +kernel) (by decide +kernel)
theorem mw_513 : (Jvm.Cond.selects "CursorKeep" ({ cls := "java/lang/Object", name := "getClass", desc := "()Ljava/lang/Class;" } : Jvm.MethodName) ({ cls := "java/lang/Object", name := "getClass", desc := "()Ljava/lang/Class;" } : Jvm.MethodName)) ∈ MW := MW_t 513 (by decide +kernel) (by decide +kernel)
theorem mw_514 : (Jvm.Cond.selects "CursorKeep$Act" ({ cls := "java/lang/Object", name := "getClass", desc := "()Ljava/lang/Class;" } : Jvm.MethodName) ({ cls := "java/lang/Object", name := "getClass", desc := "()Ljava/lang/Class;" } : Jvm.MethodName)) ∈ MW := MW_t 514 (by decide +kernel) (by decide +kernel)
theorem mw_515 : (Jvm.Cond.selects "CursorKeep$Change" ({ cls := "java/lang/Object", name := "getClass", desc := "()Ljava/lang/Class;" } : Jvm.MethodName) ({ cls := "java/lang/Object", name := "getClass", desc := "()Ljava/lang/Class;" } : Jvm.MethodName)) ∈ MW := MW_t 515 (by decide +kernel) (by decide +kernel)
theorem mw_516 : (Jvm.Cond.selects "CursorKeep$Deed" ({ cls := "java/lang/Object", name := "getClass", desc := "()Ljava/lang/Class;" } : Jvm.MethodName) ({ cls := "java/lang/Object", name := "getClass", desc := "()Ljava/lang/Class;" } : Jvm.MethodName)) ∈ MW := MW_t 516 (by decide +kernel) (by decide +kernel)
theorem mw_517 : (Jvm.Cond.selects "CursorKeep$Format" ({ cls := "java/lang/Object", name := "getClass", desc := "()Ljava/lang/Class;" } : Jvm.MethodName) ({ cls := "java/lang/Object", name := "getClass", desc := "()Ljava/lang/Class;" } : Jvm.MethodName)) ∈ MW := MW_t 517 (by decide +kernel) (by decide +kernel)
theorem mw_518 : (Jvm.Cond.selects "CursorKeep$Hand" ({ cls := "java/lang/Object", name := "getClass", desc := "()Ljava/lang/Class;" } : Jvm.MethodName) ({ cls := "java/lang/Object", name := "getClass", desc := "()Ljava/lang/Class;" } : Jvm.MethodName)) ∈ MW := MW_t 518 (by decide +kernel) (by decide +kernel)
theorem mw_519 : (Jvm.Cond.selects "CursorKeep$Neighbours" ({ cls := "java/lang/Object", name := "getClass", desc := "()Ljava/lang/Class;" } : Jvm.MethodName) ({ cls := "java/lang/Object", name := "getClass", desc := "()Ljava/lang/Class;" } : Jvm.MethodName)) ∈ MW := MW_t 519 (by decide +kernel) (by decide +kernel)
theorem mw_520 : (Jvm.Cond.selects "CursorKeep$Plan" ({ cls := "java/lang/Object", name := "getClass", desc := "()Ljava/lang/Class;" } : Jvm.MethodName) ({ cls := "java/lang/Object", name := "getClass", desc := "()Ljava/lang/Class;" } : Jvm.MethodName)) ∈ MW := MW_t 520 (by decide +kernel) (by decide +kernel)
theorem mw_521 : (Jvm.Cond.selects "CursorKeep$Row" ({ cls := "java/lang/Object", name := "getClass", desc := "()Ljava/lang/Class;" } : Jvm.MethodName) ({ cls := "java/lang/Object", name := "getClass", desc := "()Ljava/lang/Class;" } : Jvm.MethodName)) ∈ MW := MW_t 521 (by decide +kernel) (by decide +kernel)
theorem mw_522 : (Jvm.Cond.selects "CursorKeep$Save" ({ cls := "java/lang/Object", name := "getClass", desc := "()Ljava/lang/Class;" } : Jvm.MethodName) ({ cls := "java/lang/Object", name := "getClass", desc := "()Ljava/lang/Class;" } : Jvm.MethodName)) ∈ MW := MW_t 522 (by decide +kernel) (by decide +kernel)
theorem mw_523 : (Jvm.Cond.selects "CursorKeep$Text" ({ cls := "java/lang/Object", name := "getClass", desc := "()Ljava/lang/Class;" } : Jvm.MethodName) ({ cls := "java/lang/Object", name := "getClass", desc := "()Ljava/lang/Class;" } : Jvm.MethodName)) ∈ MW := MW_t 523 (by decide +kernel) (by decide +kernel)
theorem mw_524 : (Jvm.Cond.selects "CursorKeepModel" ({ cls := "java/lang/Object", name := "getClass", desc := "()Ljava/lang/Class;" } : Jvm.MethodName) ({ cls := "java/lang/Object", name := "getClass", desc := "()Ljava/lang/Class;" } : Jvm.MethodName)) ∈ MW := MW_t 524 (by decide +kernel) (by decide +kernel)
theorem mw_525 : (Jvm.Cond.selects "java/lang/IllegalArgumentException" ({ cls := "java/lang/Object", name := "getClass", desc := "()Ljava/lang/Class;" } : Jvm.MethodName) ({ cls := "java/lang/Object", name := "getClass", desc := "()Ljava/lang/Class;" } : Jvm.MethodName)) ∈ MW := MW_t 525 (by decide +kernel) (by decide +kernel)
theorem mw_526 : (Jvm.Cond.selects "java/lang/IllegalStateException" ({ cls := "java/lang/Object", name := "getClass", desc := "()Ljava/lang/Class;" } : Jvm.MethodName) ({ cls := "java/lang/Object", name := "getClass", desc := "()Ljava/lang/Class;" } : Jvm.MethodName)) ∈ MW := MW_t 526 (by decide +kernel) (by decide +kernel)
theorem mw_527 : (Jvm.Cond.selects "java/lang/IndexOutOfBoundsException" ({ cls := "java/lang/Object", name := "getClass", desc := "()Ljava/lang/Class;" } : Jvm.MethodName) ({ cls := "java/lang/Object", name := "getClass", desc := "()Ljava/lang/Class;" } : Jvm.MethodName)) ∈ MW := MW_t 527 (by decide +kernel) (by decide +kernel)
theorem mw_528 : (Jvm.Cond.selects "java/util/ArrayList" ({ cls := "java/lang/Object", name := "getClass", desc := "()Ljava/lang/Class;" } : Jvm.MethodName) ({ cls := "java/lang/Object", name := "getClass", desc := "()Ljava/lang/Class;" } : Jvm.MethodName)) ∈ MW := MW_t 528 (by decide +kernel) (by decide +kernel)
theorem mw_529 : (Jvm.Cond.native ({ cls := "java/lang/Object", name := "getClass", desc := "()Ljava/lang/Class;" } : Jvm.MethodName)) ∈ MW := MW_t 529 (by decide +kernel) (by decide +kernel)
theorem mw_530 : (Jvm.Cond.methodLink "java/util/Arrays" (300 : Nat) ({ cls := "java/util/Arrays", name := "copyOf", desc := "([Ljava/lang/Object;ILjava/lang/Class;)[Ljava/lang/Object;" } : Jvm.MethodName)) ∈ MW := MW_t 530 (by decide +kernel) (by decide +kernel)
theorem mw_531 : (Jvm.Cond.static ({ cls := "java/util/Arrays", name := "copyOf", desc := "([Ljava/lang/Object;ILjava/lang/Class;)[Ljava/lang/Object;" } : Jvm.MethodName)) ∈ MW := MW_t 531 (by decide +kernel) (by decide +kernel)
theorem mw_532 : (Jvm.Cond.code ({ cls := "java/util/Arrays", name := "copyOf", desc := "([Ljava/lang/Object;ILjava/lang/Class;)[Ljava/lang/Object;" } : Jvm.MethodName) prog_29_method_120_code (4 : Nat) (Option.some (Jvm.ClassFile.FieldType.array (Jvm.ClassFile.FieldType.object "java/lang/Object")))) ∈ MW := MW_t 532 (by decide +kernel) (by decide +kernel)
theorem mw_533 : (Jvm.Cond.classLink "java/util/Arrays" (110 : Nat) "[Ljava/lang/Object;") ∈ MW := MW_t 533 (by decide +kernel) (by decide +kernel)
theorem mw_535 : (Jvm.Cond.classLink "java/util/Arrays" (2 : Nat) "java/lang/Object") ∈ MW := MW_t 535 (by decide +kernel) (by decide +kernel)
theorem mw_536 : (Jvm.Cond.methodLink "java/util/Arrays" (304 : Nat) ({ cls := "java/lang/Math", name := "min", desc := "(II)I" } : Jvm.MethodName)) ∈ MW := MW_t 536 (by decide +kernel) (by decide +kernel)
theorem mw_537 : (Jvm.Cond.static ({ cls := "java/lang/Math", name := "min", desc := "(II)I" } : Jvm.MethodName)) ∈ MW := MW_t 537 (by decide +kernel) (by decide +kernel)
theorem mw_538 : (Jvm.Cond.code ({ cls := "java/lang/Math", name := "min", desc := "(II)I" } : Jvm.MethodName) prog_21_method_69_code (2 : Nat) (Option.some Jvm.ClassFile.FieldType.int)) ∈ MW := MW_t 538 (by decide +kernel) (by decide +kernel)
theorem mw_539 : (Jvm.Cond.methodLink "java/util/Arrays" (150 : Nat) ({ cls := "java/lang/System", name := "arraycopy", desc := "(Ljava/lang/Object;ILjava/lang/Object;II)V" } : Jvm.MethodName)) ∈ MW := MW_t 539 (by decide +kernel) (by decide +kernel)
theorem mw_540 : (Jvm.Cond.methodLink "java/util/ArrayList" (79 : Nat) ({ cls := "java/lang/Math", name := "max", desc := "(II)I" } : Jvm.MethodName)) ∈ MW := MW_t 540 (by decide +kernel) (by decide +kernel)
theorem mw_541 : (Jvm.Cond.classLink "java/util/ArrayList" (7 : Nat) "java/lang/Object") ∈ MW := MW_t 541 (by decide +kernel) (by decide +kernel)
theorem mw_542 : (Jvm.Cond.methodLink "CursorKeep" (89 : Nat) ({ cls := "CursorKeep$Act", name := "<init>", desc := "(LCursorKeep$Text;IZ)V" } : Jvm.MethodName)) ∈ MW := MW_t 542 (by decide +kernel) (by decide +kernel)
theorem mw_543 : (Jvm.Cond.instanceMethod ({ cls := "CursorKeep$Act", name := "<init>", desc := "(LCursorKeep$Text;IZ)V" } : Jvm.MethodName)) ∈ MW := MW_t 543 (by decide +kernel) (by decide +kernel)
theorem mw_544 : (Jvm.Cond.code ({ cls := "CursorKeep$Act", name := "<init>", desc := "(LCursorKeep$Text;IZ)V" } : Jvm.MethodName) prog_2_method_1_code (4 : Nat) (Option.none : Option Jvm.ClassFile.FieldType)) ∈ MW := MW_t 544 (by decide +kernel) (by decide +kernel)
theorem mw_545 : (Jvm.Cond.methodLink "CursorKeep$Act" (1 : Nat) ({ cls := "java/lang/Object", name := "<init>", desc := "()V" } : Jvm.MethodName)) ∈ MW := MW_t 545 (by decide +kernel) (by decide +kernel)
theorem mw_546 : (Jvm.Cond.fieldLink "CursorKeep$Act" (7 : Nat) "CursorKeep$Act" "text" "LCursorKeep$Text;") ∈ MW := MW_t 546 (by decide +kernel) (by decide +kernel)
theorem mw_547 : (Jvm.Cond.fieldLink "CursorKeep" (131 : Nat) "CursorKeep$Act" "text" "LCursorKeep$Text;") ∈ MW := MW_t 547 (by decide +kernel) (by decide +kernel)
theorem mw_548 : (Jvm.Cond.fieldLink "CursorKeep$Act" (13 : Nat) "CursorKeep$Act" "letter" "I") ∈ MW := MW_t 548 (by decide +kernel) (by decide +kernel)
theorem mw_549 : (Jvm.Cond.fieldLink "CursorKeep" (135 : Nat) "CursorKeep$Act" "letter" "I") ∈ MW := MW_t 549 (by decide +kernel) (by decide +kernel)
theorem mw_550 : (Jvm.Cond.fieldLink "CursorKeep$Act" (17 : Nat) "CursorKeep$Act" "typed" "Z") ∈ MW := MW_t 550 (by decide +kernel) (by decide +kernel)
theorem mw_551 : (Jvm.Cond.fieldLink "CursorKeep" (139 : Nat) "CursorKeep$Act" "typed" "Z") ∈ MW := MW_t 551 (by decide +kernel) (by decide +kernel)
theorem mw_552 : (Jvm.Cond.laysFinal "CursorKeep$Act" "CursorKeep$Act" "text" "LCursorKeep$Text;") ∈ MW := MW_t 552 (by decide +kernel) (by decide +kernel)
theorem mw_553 : (Jvm.Cond.soleField "CursorKeep$Act" "text") ∈ MW := MW_t 553 (by decide +kernel) (by decide +kernel)
theorem mw_554 : (Jvm.Cond.laysFinal "CursorKeep$Act" "CursorKeep$Act" "letter" "I") ∈ MW := MW_t 554 (by decide +kernel) (by decide +kernel)
theorem mw_555 : (Jvm.Cond.soleField "CursorKeep$Act" "letter") ∈ MW := MW_t 555 (by decide +kernel) (by decide +kernel)
theorem mw_556 : (Jvm.Cond.laysFinal "CursorKeep$Act" "CursorKeep$Act" "typed" "Z") ∈ MW := MW_t 556 (by decide +kernel) (by decide +kernel)
theorem mw_557 : (Jvm.Cond.soleField "CursorKeep$Act" "typed") ∈ MW := MW_t 557 (by decide +kernel) (by decide +kernel)
theorem mw_558 : (Jvm.Cond.superclass "CursorKeep$Act" "java/lang/Object") ∈ MW := MW_t 558 (by decide +kernel) (by decide +kernel)
theorem mw_559 : (Jvm.Cond.methodLink "CursorKeep" (92 : Nat) ({ cls := "CursorKeep$Hand", name := "remember", desc := "(LCursorKeep$Act;)V" } : Jvm.MethodName)) ∈ MW := MW_t 559 (by decide +kernel) (by decide +kernel)
theorem mw_560 : (Jvm.Cond.instanceMethod ({ cls := "CursorKeep$Hand", name := "remember", desc := "(LCursorKeep$Act;)V" } : Jvm.MethodName)) ∈ MW := MW_t 560 (by decide +kernel) (by decide +kernel)
theorem mw_561 : (Jvm.Cond.selects "CursorKeep$Hand" ({ cls := "CursorKeep$Hand", name := "remember", desc := "(LCursorKeep$Act;)V" } : Jvm.MethodName) ({ cls := "CursorKeep$Hand", name := "remember", desc := "(LCursorKeep$Act;)V" } : Jvm.MethodName)) ∈ MW := MW_t 561 (by decide +kernel) (by decide +kernel)
theorem mw_562 : (Jvm.Cond.code ({ cls := "CursorKeep$Hand", name := "remember", desc := "(LCursorKeep$Act;)V" } : Jvm.MethodName) prog_6_method_2_code (3 : Nat) (Option.none : Option Jvm.ClassFile.FieldType)) ∈ MW := MW_t 562 (by decide +kernel) (by decide +kernel)
theorem mw_564 : (Jvm.Cond.methodLink "CursorKeep$Hand" (18 : Nat) ({ cls := "java/util/List", name := "size", desc := "()I" } : Jvm.MethodName)) ∈ MW := MW_t 564 (by decide +kernel) (by decide +kernel)
theorem mw_566 : (Jvm.Cond.methodLink "CursorKeep$Hand" (28 : Nat) ({ cls := "java/util/List", name := "remove", desc := "(I)Ljava/lang/Object;" } : Jvm.MethodName)) ∈ MW := MW_t 566 (by decide +kernel) (by decide +kernel)
theorem mw_568 : (Jvm.Cond.methodLink "CursorKeep$Hand" (32 : Nat) ({ cls := "java/util/List", name := "add", desc := "(Ljava/lang/Object;)Z" } : Jvm.MethodName)) ∈ MW := MW_t 568 (by decide +kernel) (by decide +kernel)
theorem mw_569 : (Jvm.Cond.methodLink "CursorKeep" (96 : Nat) ({ cls := "CursorKeep$Text", name := "cursorPlace", desc := "(I)I" } : Jvm.MethodName)) ∈ MW := MW_t 569 (by decide +kernel) (by decide +kernel)
theorem mw_570 : (Jvm.Cond.instanceMethod ({ cls := "CursorKeep$Text", name := "cursorPlace", desc := "(I)I" } : Jvm.MethodName)) ∈ MW := MW_t 570 (by decide +kernel) (by decide +kernel)
theorem mw_571 : (Jvm.Cond.selects "CursorKeep$Text" ({ cls := "CursorKeep$Text", name := "cursorPlace", desc := "(I)I" } : Jvm.MethodName) ({ cls := "CursorKeep$Text", name := "cursorPlace", desc := "(I)I" } : Jvm.MethodName)) ∈ MW := MW_t 571 (by decide +kernel) (by decide +kernel)
theorem mw_572 : (Jvm.Cond.code ({ cls := "CursorKeep$Text", name := "cursorPlace", desc := "(I)I" } : Jvm.MethodName) prog_11_method_3_code (2 : Nat) (Option.some Jvm.ClassFile.FieldType.int)) ∈ MW := MW_t 572 (by decide +kernel) (by decide +kernel)
theorem mw_573 : (Jvm.Cond.methodLink "CursorKeep$Text" (50 : Nat) ({ cls := "CursorKeep$Row", name := "shownCountAhead", desc := "(I)I" } : Jvm.MethodName)) ∈ MW := MW_t 573 (by decide +kernel) (by decide +kernel)
theorem mw_574 : (Jvm.Cond.instanceMethod ({ cls := "CursorKeep$Row", name := "shownCountAhead", desc := "(I)I" } : Jvm.MethodName)) ∈ MW := MW_t 574 (by decide +kernel) (by decide +kernel)
theorem mw_575 : (Jvm.Cond.selects "CursorKeep$Row" ({ cls := "CursorKeep$Row", name := "shownCountAhead", desc := "(I)I" } : Jvm.MethodName) ({ cls := "CursorKeep$Row", name := "shownCountAhead", desc := "(I)I" } : Jvm.MethodName)) ∈ MW := MW_t 575 (by decide +kernel) (by decide +kernel)
theorem mw_576 : (Jvm.Cond.code ({ cls := "CursorKeep$Row", name := "shownCountAhead", desc := "(I)I" } : Jvm.MethodName) prog_9_method_13_code (4 : Nat) (Option.some Jvm.ClassFile.FieldType.int)) ∈ MW := MW_t 576 (by decide +kernel) (by decide +kernel)
theorem mw_577 : (Jvm.Cond.methodLink "CursorKeep$Row" (31 : Nat) ({ cls := "CursorKeep$Row", name := "letterAt", desc := "(I)I" } : Jvm.MethodName)) ∈ MW := MW_t 577 (by decide +kernel) (by decide +kernel)
theorem mw_578 : (Jvm.Cond.methodLink "CursorKeep$Row" (35 : Nat) ({ cls := "CursorKeep$Row", name := "shows", desc := "(I)Z" } : Jvm.MethodName)) ∈ MW := MW_t 578 (by decide +kernel) (by decide +kernel)
theorem mw_579 : (Jvm.Cond.methodLink "CursorKeepLaw" (95 : Nat) ({ cls := "CursorKeepLaw", name := "erase", desc := "(LCursorKeep;II[J)I" } : Jvm.MethodName)) ∈ MW := MW_t 579 (by decide +kernel) (by decide +kernel)
theorem mw_580 : (Jvm.Cond.static ({ cls := "CursorKeepLaw", name := "erase", desc := "(LCursorKeep;II[J)I" } : Jvm.MethodName)) ∈ MW := MW_t 580 (by decide +kernel) (by decide +kernel)
theorem mw_581 : (Jvm.Cond.codeWith ({ cls := "CursorKeepLaw", name := "erase", desc := "(LCursorKeep;II[J)I" } : Jvm.MethodName) method_4_code (5 : Nat) (Option.some Jvm.ClassFile.FieldType.int) [((0 : Nat), (10 : Nat), (13 : Nat), (13 : Nat)), ((0 : Nat), (10 : Nat), (17 : Nat), (17 : Nat))]) ∈ MW := MW_t 581 (by decide +kernel) (by decide +kernel)
theorem mw_582 : (Jvm.Cond.methodLink "CursorKeepLaw" (19 : Nat) ({ cls := "CursorKeep", name := "erase", desc := "(II)I" } : Jvm.MethodName)) ∈ MW := MW_t 582 (by decide +kernel) (by decide +kernel)
theorem mw_583 : (Jvm.Cond.instanceMethod ({ cls := "CursorKeep", name := "erase", desc := "(II)I" } : Jvm.MethodName)) ∈ MW := MW_t 583 (by decide +kernel) (by decide +kernel)
theorem mw_584 : (Jvm.Cond.selects "CursorKeep" ({ cls := "CursorKeep", name := "erase", desc := "(II)I" } : Jvm.MethodName) ({ cls := "CursorKeep", name := "erase", desc := "(II)I" } : Jvm.MethodName)) ∈ MW := MW_t 584 (by decide +kernel) (by decide +kernel)
theorem mw_585 : (Jvm.Cond.code ({ cls := "CursorKeep", name := "erase", desc := "(II)I" } : Jvm.MethodName) prog_1_method_3_code (6 : Nat) (Option.some Jvm.ClassFile.FieldType.int)) ∈ MW := MW_t 585 (by decide +kernel) (by decide +kernel)
theorem mw_586 : (Jvm.Cond.methodLink "CursorKeep" (100 : Nat) ({ cls := "CursorKeep$Text", name := "letterAheadOfCursor", desc := "(I)I" } : Jvm.MethodName)) ∈ MW := MW_t 586 (by decide +kernel) (by decide +kernel)
theorem mw_587 : (Jvm.Cond.instanceMethod ({ cls := "CursorKeep$Text", name := "letterAheadOfCursor", desc := "(I)I" } : Jvm.MethodName)) ∈ MW := MW_t 587 (by decide +kernel) (by decide +kernel)
theorem mw_588 : (Jvm.Cond.selects "CursorKeep$Text" ({ cls := "CursorKeep$Text", name := "letterAheadOfCursor", desc := "(I)I" } : Jvm.MethodName) ({ cls := "CursorKeep$Text", name := "letterAheadOfCursor", desc := "(I)I" } : Jvm.MethodName)) ∈ MW := MW_t 588 (by decide +kernel) (by decide +kernel)
theorem mw_589 : (Jvm.Cond.code ({ cls := "CursorKeep$Text", name := "letterAheadOfCursor", desc := "(I)I" } : Jvm.MethodName) prog_11_method_4_code (2 : Nat) (Option.some Jvm.ClassFile.FieldType.int)) ∈ MW := MW_t 589 (by decide +kernel) (by decide +kernel)
theorem mw_590 : (Jvm.Cond.methodLink "CursorKeep$Text" (53 : Nat) ({ cls := "CursorKeep$Row", name := "nearestShownAhead", desc := "(I)I" } : Jvm.MethodName)) ∈ MW := MW_t 590 (by decide +kernel) (by decide +kernel)
theorem mw_591 : (Jvm.Cond.instanceMethod ({ cls := "CursorKeep$Row", name := "nearestShownAhead", desc := "(I)I" } : Jvm.MethodName)) ∈ MW := MW_t 591 (by decide +kernel) (by decide +kernel)
theorem mw_592 : (Jvm.Cond.selects "CursorKeep$Row" ({ cls := "CursorKeep$Row", name := "nearestShownAhead", desc := "(I)I" } : Jvm.MethodName) ({ cls := "CursorKeep$Row", name := "nearestShownAhead", desc := "(I)I" } : Jvm.MethodName)) ∈ MW := MW_t 592 (by decide +kernel) (by decide +kernel)
theorem mw_593 : (Jvm.Cond.code ({ cls := "CursorKeep$Row", name := "nearestShownAhead", desc := "(I)I" } : Jvm.MethodName) prog_9_method_10_code (3 : Nat) (Option.some Jvm.ClassFile.FieldType.int)) ∈ MW := MW_t 593 (by decide +kernel) (by decide +kernel)
theorem mw_595 : (Jvm.Cond.methodLink "CursorKeep" (105 : Nat) ({ cls := "CursorKeep$Text", name := "turn", desc := "(IZ)V" } : Jvm.MethodName)) ∈ MW := MW_t 595 (by decide +kernel) (by decide +kernel)
theorem mw_596 : (Jvm.Cond.instanceMethod ({ cls := "CursorKeep$Text", name := "turn", desc := "(IZ)V" } : Jvm.MethodName)) ∈ MW := MW_t 596 (by decide +kernel) (by decide +kernel)
theorem mw_597 : (Jvm.Cond.selects "CursorKeep$Text" ({ cls := "CursorKeep$Text", name := "turn", desc := "(IZ)V" } : Jvm.MethodName) ({ cls := "CursorKeep$Text", name := "turn", desc := "(IZ)V" } : Jvm.MethodName)) ∈ MW := MW_t 597 (by decide +kernel) (by decide +kernel)
theorem mw_598 : (Jvm.Cond.code ({ cls := "CursorKeep$Text", name := "turn", desc := "(IZ)V" } : Jvm.MethodName) prog_11_method_8_code (3 : Nat) (Option.none : Option Jvm.ClassFile.FieldType)) ∈ MW := MW_t 598 (by decide +kernel) (by decide +kernel)
theorem mw_599 : (Jvm.Cond.methodLink "CursorKeep$Text" (76 : Nat) ({ cls := "CursorKeep$Text", name := "letGo", desc := "(I)V" } : Jvm.MethodName)) ∈ MW := MW_t 599 (by decide +kernel) (by decide +kernel)
theorem mw_600 : (Jvm.Cond.instanceMethod ({ cls := "CursorKeep$Text", name := "letGo", desc := "(I)V" } : Jvm.MethodName)) ∈ MW := MW_t 600 (by decide +kernel) (by decide +kernel)
theorem mw_601 : (Jvm.Cond.selects "CursorKeep$Text" ({ cls := "CursorKeep$Text", name := "letGo", desc := "(I)V" } : Jvm.MethodName) ({ cls := "CursorKeep$Text", name := "letGo", desc := "(I)V" } : Jvm.MethodName)) ∈ MW := MW_t 601 (by decide +kernel) (by decide +kernel)
theorem mw_602 : (Jvm.Cond.code ({ cls := "CursorKeep$Text", name := "letGo", desc := "(I)V" } : Jvm.MethodName) prog_11_method_9_code (4 : Nat) (Option.none : Option Jvm.ClassFile.FieldType)) ∈ MW := MW_t 602 (by decide +kernel) (by decide +kernel)
theorem mw_603 : (Jvm.Cond.methodLink "CursorKeep$Text" (83 : Nat) ({ cls := "CursorKeep$Row", name := "nearestShownFrom", desc := "(I)I" } : Jvm.MethodName)) ∈ MW := MW_t 603 (by decide +kernel) (by decide +kernel)
theorem mw_604 : (Jvm.Cond.instanceMethod ({ cls := "CursorKeep$Row", name := "nearestShownFrom", desc := "(I)I" } : Jvm.MethodName)) ∈ MW := MW_t 604 (by decide +kernel) (by decide +kernel)
theorem mw_605 : (Jvm.Cond.selects "CursorKeep$Row" ({ cls := "CursorKeep$Row", name := "nearestShownFrom", desc := "(I)I" } : Jvm.MethodName) ({ cls := "CursorKeep$Row", name := "nearestShownFrom", desc := "(I)I" } : Jvm.MethodName)) ∈ MW := MW_t 605 (by decide +kernel) (by decide +kernel)
theorem mw_606 : (Jvm.Cond.code ({ cls := "CursorKeep$Row", name := "nearestShownFrom", desc := "(I)I" } : Jvm.MethodName) prog_9_method_11_code (3 : Nat) (Option.some Jvm.ClassFile.FieldType.int)) ∈ MW := MW_t 606 (by decide +kernel) (by decide +kernel)
theorem mw_607 : (Jvm.Cond.methodLink "CursorKeepLaw" (99 : Nat) ({ cls := "CursorKeepLaw", name := "moveTo", desc := "(LCursorKeep;III[J)I" } : Jvm.MethodName)) ∈ MW := MW_t 607 (by decide +kernel) (by decide +kernel)
theorem mw_608 : (Jvm.Cond.static ({ cls := "CursorKeepLaw", name := "moveTo", desc := "(LCursorKeep;III[J)I" } : Jvm.MethodName)) ∈ MW := MW_t 608 (by decide +kernel) (by decide +kernel)
theorem mw_609 : (Jvm.Cond.codeWith ({ cls := "CursorKeepLaw", name := "moveTo", desc := "(LCursorKeep;III[J)I" } : Jvm.MethodName) method_5_code (6 : Nat) (Option.some Jvm.ClassFile.FieldType.int) [((0 : Nat), (12 : Nat), (15 : Nat), (13 : Nat))]) ∈ MW := MW_t 609 (by decide +kernel) (by decide +kernel)
theorem mw_610 : (Jvm.Cond.methodLink "CursorKeepLaw" (23 : Nat) ({ cls := "CursorKeep", name := "moveTo", desc := "(III)I" } : Jvm.MethodName)) ∈ MW := MW_t 610 (by decide +kernel) (by decide +kernel)
theorem mw_611 : (Jvm.Cond.instanceMethod ({ cls := "CursorKeep", name := "moveTo", desc := "(III)I" } : Jvm.MethodName)) ∈ MW := MW_t 611 (by decide +kernel) (by decide +kernel)
theorem mw_612 : (Jvm.Cond.selects "CursorKeep" ({ cls := "CursorKeep", name := "moveTo", desc := "(III)I" } : Jvm.MethodName) ({ cls := "CursorKeep", name := "moveTo", desc := "(III)I" } : Jvm.MethodName)) ∈ MW := MW_t 612 (by decide +kernel) (by decide +kernel)
theorem mw_613 : (Jvm.Cond.code ({ cls := "CursorKeep", name := "moveTo", desc := "(III)I" } : Jvm.MethodName) prog_1_method_4_code (6 : Nat) (Option.some Jvm.ClassFile.FieldType.int)) ∈ MW := MW_t 613 (by decide +kernel) (by decide +kernel)
theorem mw_614 : (Jvm.Cond.methodLink "CursorKeep" (109 : Nat) ({ cls := "CursorKeep$Row", name := "shownCount", desc := "()I" } : Jvm.MethodName)) ∈ MW := MW_t 614 (by decide +kernel) (by decide +kernel)
theorem mw_615 : (Jvm.Cond.instanceMethod ({ cls := "CursorKeep$Row", name := "shownCount", desc := "()I" } : Jvm.MethodName)) ∈ MW := MW_t 615 (by decide +kernel) (by decide +kernel)
theorem mw_616 : (Jvm.Cond.selects "CursorKeep$Row" ({ cls := "CursorKeep$Row", name := "shownCount", desc := "()I" } : Jvm.MethodName) ({ cls := "CursorKeep$Row", name := "shownCount", desc := "()I" } : Jvm.MethodName)) ∈ MW := MW_t 616 (by decide +kernel) (by decide +kernel)
theorem mw_617 : (Jvm.Cond.code ({ cls := "CursorKeep$Row", name := "shownCount", desc := "()I" } : Jvm.MethodName) prog_9_method_12_code (1 : Nat) (Option.some Jvm.ClassFile.FieldType.int)) ∈ MW := MW_t 617 (by decide +kernel) (by decide +kernel)
theorem mw_618 : (Jvm.Cond.methodLink "CursorKeep$Row" (38 : Nat) ({ cls := "CursorKeep$Row", name := "shownCountAhead", desc := "(I)I" } : Jvm.MethodName)) ∈ MW := MW_t 618 (by decide +kernel) (by decide +kernel)
theorem mw_620 : (Jvm.Cond.methodLink "CursorKeep" (118 : Nat) ({ cls := "CursorKeep$Row", name := "shownLetter", desc := "(I)I" } : Jvm.MethodName)) ∈ MW := MW_t 620 (by decide +kernel) (by decide +kernel)
theorem mw_621 : (Jvm.Cond.instanceMethod ({ cls := "CursorKeep$Row", name := "shownLetter", desc := "(I)I" } : Jvm.MethodName)) ∈ MW := MW_t 621 (by decide +kernel) (by decide +kernel)
theorem mw_622 : (Jvm.Cond.selects "CursorKeep$Row" ({ cls := "CursorKeep$Row", name := "shownLetter", desc := "(I)I" } : Jvm.MethodName) ({ cls := "CursorKeep$Row", name := "shownLetter", desc := "(I)I" } : Jvm.MethodName)) ∈ MW := MW_t 622 (by decide +kernel) (by decide +kernel)
theorem mw_623 : (Jvm.Cond.code ({ cls := "CursorKeep$Row", name := "shownLetter", desc := "(I)I" } : Jvm.MethodName) prog_9_method_14_code (4 : Nat) (Option.some Jvm.ClassFile.FieldType.int)) ∈ MW := MW_t 623 (by decide +kernel) (by decide +kernel)
theorem mw_624 : (Jvm.Cond.methodLink "CursorKeep" (121 : Nat) ({ cls := "CursorKeep$Text", name := "setCursor", desc := "(II)V" } : Jvm.MethodName)) ∈ MW := MW_t 624 (by decide +kernel) (by decide +kernel)
theorem mw_625 : (Jvm.Cond.instanceMethod ({ cls := "CursorKeep$Text", name := "setCursor", desc := "(II)V" } : Jvm.MethodName)) ∈ MW := MW_t 625 (by decide +kernel) (by decide +kernel)
theorem mw_626 : (Jvm.Cond.selects "CursorKeep$Text" ({ cls := "CursorKeep$Text", name := "setCursor", desc := "(II)V" } : Jvm.MethodName) ({ cls := "CursorKeep$Text", name := "setCursor", desc := "(II)V" } : Jvm.MethodName)) ∈ MW := MW_t 626 (by decide +kernel) (by decide +kernel)
theorem mw_627 : (Jvm.Cond.code ({ cls := "CursorKeep$Text", name := "setCursor", desc := "(II)V" } : Jvm.MethodName) prog_11_method_5_code (3 : Nat) (Option.none : Option Jvm.ClassFile.FieldType)) ∈ MW := MW_t 627 (by decide +kernel) (by decide +kernel)
theorem mw_628 : (Jvm.Cond.methodLink "CursorKeepLaw" (103 : Nat) ({ cls := "CursorKeepLaw", name := "undo", desc := "(LCursorKeep;I[J)I" } : Jvm.MethodName)) ∈ MW := MW_t 628 (by decide +kernel) (by decide +kernel)
theorem mw_629 : (Jvm.Cond.static ({ cls := "CursorKeepLaw", name := "undo", desc := "(LCursorKeep;I[J)I" } : Jvm.MethodName)) ∈ MW := MW_t 629 (by decide +kernel) (by decide +kernel)
theorem mw_630 : (Jvm.Cond.codeWith ({ cls := "CursorKeepLaw", name := "undo", desc := "(LCursorKeep;I[J)I" } : Jvm.MethodName) method_6_code (4 : Nat) (Option.some Jvm.ClassFile.FieldType.int) [((0 : Nat), (9 : Nat), (12 : Nat), (13 : Nat)), ((0 : Nat), (9 : Nat), (15 : Nat), (17 : Nat))]) ∈ MW := MW_t 630 (by decide +kernel) (by decide +kernel)
theorem mw_631 : (Jvm.Cond.methodLink "CursorKeepLaw" (27 : Nat) ({ cls := "CursorKeep", name := "undo", desc := "(I)I" } : Jvm.MethodName)) ∈ MW := MW_t 631 (by decide +kernel) (by decide +kernel)
theorem mw_632 : (Jvm.Cond.instanceMethod ({ cls := "CursorKeep", name := "undo", desc := "(I)I" } : Jvm.MethodName)) ∈ MW := MW_t 632 (by decide +kernel) (by decide +kernel)
theorem mw_633 : (Jvm.Cond.selects "CursorKeep" ({ cls := "CursorKeep", name := "undo", desc := "(I)I" } : Jvm.MethodName) ({ cls := "CursorKeep", name := "undo", desc := "(I)I" } : Jvm.MethodName)) ∈ MW := MW_t 633 (by decide +kernel) (by decide +kernel)
theorem mw_634 : (Jvm.Cond.code ({ cls := "CursorKeep", name := "undo", desc := "(I)I" } : Jvm.MethodName) prog_1_method_5_code (3 : Nat) (Option.some Jvm.ClassFile.FieldType.int)) ∈ MW := MW_t 634 (by decide +kernel) (by decide +kernel)
theorem mw_635 : (Jvm.Cond.methodLink "CursorKeep" (125 : Nat) ({ cls := "CursorKeep$Hand", name := "stepBack", desc := "()LCursorKeep$Act;" } : Jvm.MethodName)) ∈ MW := MW_t 635 (by decide +kernel) (by decide +kernel)
theorem mw_636 : (Jvm.Cond.instanceMethod ({ cls := "CursorKeep$Hand", name := "stepBack", desc := "()LCursorKeep$Act;" } : Jvm.MethodName)) ∈ MW := MW_t 636 (by decide +kernel) (by decide +kernel)
theorem mw_637 : (Jvm.Cond.selects "CursorKeep$Hand" ({ cls := "CursorKeep$Hand", name := "stepBack", desc := "()LCursorKeep$Act;" } : Jvm.MethodName) ({ cls := "CursorKeep$Hand", name := "stepBack", desc := "()LCursorKeep$Act;" } : Jvm.MethodName)) ∈ MW := MW_t 637 (by decide +kernel) (by decide +kernel)
theorem mw_638 : (Jvm.Cond.code ({ cls := "CursorKeep$Hand", name := "stepBack", desc := "()LCursorKeep$Act;" } : Jvm.MethodName) prog_6_method_3_code (1 : Nat) (Option.some (Jvm.ClassFile.FieldType.object "CursorKeep$Act"))) ∈ MW := MW_t 638 (by decide +kernel) (by decide +kernel)
theorem mw_640 : (Jvm.Cond.methodLink "CursorKeep$Hand" (36 : Nat) ({ cls := "java/util/List", name := "get", desc := "(I)Ljava/lang/Object;" } : Jvm.MethodName)) ∈ MW := MW_t 640 (by decide +kernel) (by decide +kernel)
theorem mw_641 : (Jvm.Cond.classLink "CursorKeep$Hand" (39 : Nat) "CursorKeep$Act") ∈ MW := MW_t 641 (by decide +kernel) (by decide +kernel)
theorem mw_643 : (Jvm.Cond.methodLink "CursorKeepLaw" (107 : Nat) ({ cls := "CursorKeepLaw", name := "redo", desc := "(LCursorKeep;I[J)I" } : Jvm.MethodName)) ∈ MW := MW_t 643 (by decide +kernel) (by decide +kernel)
theorem mw_644 : (Jvm.Cond.static ({ cls := "CursorKeepLaw", name := "redo", desc := "(LCursorKeep;I[J)I" } : Jvm.MethodName)) ∈ MW := MW_t 644 (by decide +kernel) (by decide +kernel)
theorem mw_645 : (Jvm.Cond.codeWith ({ cls := "CursorKeepLaw", name := "redo", desc := "(LCursorKeep;I[J)I" } : Jvm.MethodName) method_7_code (4 : Nat) (Option.some Jvm.ClassFile.FieldType.int) [((0 : Nat), (9 : Nat), (12 : Nat), (13 : Nat)), ((0 : Nat), (9 : Nat), (15 : Nat), (17 : Nat))]) ∈ MW := MW_t 645 (by decide +kernel) (by decide +kernel)
theorem mw_646 : (Jvm.Cond.methodLink "CursorKeepLaw" (31 : Nat) ({ cls := "CursorKeep", name := "redo", desc := "(I)I" } : Jvm.MethodName)) ∈ MW := MW_t 646 (by decide +kernel) (by decide +kernel)
theorem mw_647 : (Jvm.Cond.instanceMethod ({ cls := "CursorKeep", name := "redo", desc := "(I)I" } : Jvm.MethodName)) ∈ MW := MW_t 647 (by decide +kernel) (by decide +kernel)
theorem mw_648 : (Jvm.Cond.selects "CursorKeep" ({ cls := "CursorKeep", name := "redo", desc := "(I)I" } : Jvm.MethodName) ({ cls := "CursorKeep", name := "redo", desc := "(I)I" } : Jvm.MethodName)) ∈ MW := MW_t 648 (by decide +kernel) (by decide +kernel)
theorem mw_649 : (Jvm.Cond.code ({ cls := "CursorKeep", name := "redo", desc := "(I)I" } : Jvm.MethodName) prog_1_method_6_code (3 : Nat) (Option.some Jvm.ClassFile.FieldType.int)) ∈ MW := MW_t 649 (by decide +kernel) (by decide +kernel)
theorem mw_650 : (Jvm.Cond.methodLink "CursorKeep" (146 : Nat) ({ cls := "CursorKeep$Hand", name := "stepForth", desc := "()LCursorKeep$Act;" } : Jvm.MethodName)) ∈ MW := MW_t 650 (by decide +kernel) (by decide +kernel)
theorem mw_651 : (Jvm.Cond.instanceMethod ({ cls := "CursorKeep$Hand", name := "stepForth", desc := "()LCursorKeep$Act;" } : Jvm.MethodName)) ∈ MW := MW_t 651 (by decide +kernel) (by decide +kernel)
theorem mw_652 : (Jvm.Cond.selects "CursorKeep$Hand" ({ cls := "CursorKeep$Hand", name := "stepForth", desc := "()LCursorKeep$Act;" } : Jvm.MethodName) ({ cls := "CursorKeep$Hand", name := "stepForth", desc := "()LCursorKeep$Act;" } : Jvm.MethodName)) ∈ MW := MW_t 652 (by decide +kernel) (by decide +kernel)
theorem mw_653 : (Jvm.Cond.code ({ cls := "CursorKeep$Hand", name := "stepForth", desc := "()LCursorKeep$Act;" } : Jvm.MethodName) prog_6_method_4_code (1 : Nat) (Option.some (Jvm.ClassFile.FieldType.object "CursorKeep$Act"))) ∈ MW := MW_t 653 (by decide +kernel) (by decide +kernel)
theorem mw_655 : (Jvm.Cond.methodLink "CursorKeepLaw" (110 : Nat) ({ cls := "CursorKeepLaw", name := "place", desc := "(LCursorKeep;II[J)I" } : Jvm.MethodName)) ∈ MW := MW_t 655 (by decide +kernel) (by decide +kernel)
theorem mw_656 : (Jvm.Cond.static ({ cls := "CursorKeepLaw", name := "place", desc := "(LCursorKeep;II[J)I" } : Jvm.MethodName)) ∈ MW := MW_t 656 (by decide +kernel) (by decide +kernel)
theorem mw_657 : (Jvm.Cond.codeWith ({ cls := "CursorKeepLaw", name := "place", desc := "(LCursorKeep;II[J)I" } : Jvm.MethodName) method_8_code (5 : Nat) (Option.some Jvm.ClassFile.FieldType.int) [((0 : Nat), (10 : Nat), (13 : Nat), (13 : Nat))]) ∈ MW := MW_t 657 (by decide +kernel) (by decide +kernel)
theorem mw_658 : (Jvm.Cond.methodLink "CursorKeepLaw" (34 : Nat) ({ cls := "CursorKeep", name := "place", desc := "(II)I" } : Jvm.MethodName)) ∈ MW := MW_t 658 (by decide +kernel) (by decide +kernel)
theorem mw_659 : (Jvm.Cond.instanceMethod ({ cls := "CursorKeep", name := "place", desc := "(II)I" } : Jvm.MethodName)) ∈ MW := MW_t 659 (by decide +kernel) (by decide +kernel)
theorem mw_660 : (Jvm.Cond.selects "CursorKeep" ({ cls := "CursorKeep", name := "place", desc := "(II)I" } : Jvm.MethodName) ({ cls := "CursorKeep", name := "place", desc := "(II)I" } : Jvm.MethodName)) ∈ MW := MW_t 660 (by decide +kernel) (by decide +kernel)
theorem mw_661 : (Jvm.Cond.code ({ cls := "CursorKeep", name := "place", desc := "(II)I" } : Jvm.MethodName) prog_1_method_7_code (3 : Nat) (Option.some Jvm.ClassFile.FieldType.int)) ∈ MW := MW_t 661 (by decide +kernel) (by decide +kernel)
theorem mw_662 : (Jvm.Cond.methodLink "CursorKeepLaw" (113 : Nat) ({ cls := "CursorKeepLaw", name := "length", desc := "(LCursorKeep;I[J)I" } : Jvm.MethodName)) ∈ MW := MW_t 662 (by decide +kernel) (by decide +kernel)
theorem mw_663 : (Jvm.Cond.static ({ cls := "CursorKeepLaw", name := "length", desc := "(LCursorKeep;I[J)I" } : Jvm.MethodName)) ∈ MW := MW_t 663 (by decide +kernel) (by decide +kernel)
theorem mw_664 : (Jvm.Cond.codeWith ({ cls := "CursorKeepLaw", name := "length", desc := "(LCursorKeep;I[J)I" } : Jvm.MethodName) method_9_code (4 : Nat) (Option.some Jvm.ClassFile.FieldType.int) [((0 : Nat), (9 : Nat), (12 : Nat), (13 : Nat))]) ∈ MW := MW_t 664 (by decide +kernel) (by decide +kernel)
theorem mw_665 : (Jvm.Cond.methodLink "CursorKeepLaw" (37 : Nat) ({ cls := "CursorKeep", name := "length", desc := "(I)I" } : Jvm.MethodName)) ∈ MW := MW_t 665 (by decide +kernel) (by decide +kernel)
theorem mw_666 : (Jvm.Cond.instanceMethod ({ cls := "CursorKeep", name := "length", desc := "(I)I" } : Jvm.MethodName)) ∈ MW := MW_t 666 (by decide +kernel) (by decide +kernel)
theorem mw_667 : (Jvm.Cond.selects "CursorKeep" ({ cls := "CursorKeep", name := "length", desc := "(I)I" } : Jvm.MethodName) ({ cls := "CursorKeep", name := "length", desc := "(I)I" } : Jvm.MethodName)) ∈ MW := MW_t 667 (by decide +kernel) (by decide +kernel)
theorem mw_668 : (Jvm.Cond.code ({ cls := "CursorKeep", name := "length", desc := "(I)I" } : Jvm.MethodName) prog_1_method_8_code (2 : Nat) (Option.some Jvm.ClassFile.FieldType.int)) ∈ MW := MW_t 668 (by decide +kernel) (by decide +kernel)
theorem mw_669 : (Jvm.Cond.methodLink "CursorKeepLaw" (116 : Nat) ({ cls := "CursorKeepLaw", name := "letter", desc := "(LCursorKeep;II[J)I" } : Jvm.MethodName)) ∈ MW := MW_t 669 (by decide +kernel) (by decide +kernel)
theorem mw_670 : (Jvm.Cond.static ({ cls := "CursorKeepLaw", name := "letter", desc := "(LCursorKeep;II[J)I" } : Jvm.MethodName)) ∈ MW := MW_t 670 (by decide +kernel) (by decide +kernel)
theorem mw_671 : (Jvm.Cond.codeWith ({ cls := "CursorKeepLaw", name := "letter", desc := "(LCursorKeep;II[J)I" } : Jvm.MethodName) method_10_code (5 : Nat) (Option.some Jvm.ClassFile.FieldType.int) [((0 : Nat), (10 : Nat), (13 : Nat), (13 : Nat))]) ∈ MW := MW_t 671 (by decide +kernel) (by decide +kernel)
theorem mw_672 : (Jvm.Cond.methodLink "CursorKeepLaw" (40 : Nat) ({ cls := "CursorKeep", name := "letter", desc := "(II)C" } : Jvm.MethodName)) ∈ MW := MW_t 672 (by decide +kernel) (by decide +kernel)
theorem mw_673 : (Jvm.Cond.instanceMethod ({ cls := "CursorKeep", name := "letter", desc := "(II)C" } : Jvm.MethodName)) ∈ MW := MW_t 673 (by decide +kernel) (by decide +kernel)
theorem mw_674 : (Jvm.Cond.selects "CursorKeep" ({ cls := "CursorKeep", name := "letter", desc := "(II)C" } : Jvm.MethodName) ({ cls := "CursorKeep", name := "letter", desc := "(II)C" } : Jvm.MethodName)) ∈ MW := MW_t 674 (by decide +kernel) (by decide +kernel)
theorem mw_675 : (Jvm.Cond.code ({ cls := "CursorKeep", name := "letter", desc := "(II)C" } : Jvm.MethodName) prog_1_method_9_code (3 : Nat) (Option.some Jvm.ClassFile.FieldType.char)) ∈ MW := MW_t 675 (by decide +kernel) (by decide +kernel)
theorem mw_676 : (Jvm.Cond.methodLink "CursorKeep" (151 : Nat) ({ cls := "CursorKeep", name := "shownSign", desc := "(LCursorKeep$Row;I)C" } : Jvm.MethodName)) ∈ MW := MW_t 676 (by decide +kernel) (by decide +kernel)
theorem mw_677 : (Jvm.Cond.static ({ cls := "CursorKeep", name := "shownSign", desc := "(LCursorKeep$Row;I)C" } : Jvm.MethodName)) ∈ MW := MW_t 677 (by decide +kernel) (by decide +kernel)
theorem mw_678 : (Jvm.Cond.code ({ cls := "CursorKeep", name := "shownSign", desc := "(LCursorKeep$Row;I)C" } : Jvm.MethodName) prog_1_method_29_code (3 : Nat) (Option.some Jvm.ClassFile.FieldType.char)) ∈ MW := MW_t 678 (by decide +kernel) (by decide +kernel)
theorem mw_679 : (Jvm.Cond.methodLink "CursorKeep" (276 : Nat) ({ cls := "CursorKeep$Row", name := "signOf", desc := "(I)C" } : Jvm.MethodName)) ∈ MW := MW_t 679 (by decide +kernel) (by decide +kernel)
theorem mw_680 : (Jvm.Cond.methodLink "CursorKeepLaw" (119 : Nat) ({ cls := "CursorKeepLaw", name := "letterAnew", desc := "(LCursorKeep;II[J)I" } : Jvm.MethodName)) ∈ MW := MW_t 680 (by decide +kernel) (by decide +kernel)
theorem mw_681 : (Jvm.Cond.static ({ cls := "CursorKeepLaw", name := "letterAnew", desc := "(LCursorKeep;II[J)I" } : Jvm.MethodName)) ∈ MW := MW_t 681 (by decide +kernel) (by decide +kernel)
theorem mw_682 : (Jvm.Cond.codeWith ({ cls := "CursorKeepLaw", name := "letterAnew", desc := "(LCursorKeep;II[J)I" } : Jvm.MethodName) method_11_code (5 : Nat) (Option.some Jvm.ClassFile.FieldType.int) [((0 : Nat), (10 : Nat), (13 : Nat), (13 : Nat))]) ∈ MW := MW_t 682 (by decide +kernel) (by decide +kernel)
theorem mw_683 : (Jvm.Cond.methodLink "CursorKeepLaw" (44 : Nat) ({ cls := "CursorKeep", name := "letterAnew", desc := "(II)C" } : Jvm.MethodName)) ∈ MW := MW_t 683 (by decide +kernel) (by decide +kernel)
theorem mw_684 : (Jvm.Cond.instanceMethod ({ cls := "CursorKeep", name := "letterAnew", desc := "(II)C" } : Jvm.MethodName)) ∈ MW := MW_t 684 (by decide +kernel) (by decide +kernel)
theorem mw_685 : (Jvm.Cond.selects "CursorKeep" ({ cls := "CursorKeep", name := "letterAnew", desc := "(II)C" } : Jvm.MethodName) ({ cls := "CursorKeep", name := "letterAnew", desc := "(II)C" } : Jvm.MethodName)) ∈ MW := MW_t 685 (by decide +kernel) (by decide +kernel)
theorem mw_686 : (Jvm.Cond.code ({ cls := "CursorKeep", name := "letterAnew", desc := "(II)C" } : Jvm.MethodName) prog_1_method_10_code (3 : Nat) (Option.some Jvm.ClassFile.FieldType.char)) ∈ MW := MW_t 686 (by decide +kernel) (by decide +kernel)
theorem mw_687 : (Jvm.Cond.methodLink "CursorKeep" (155 : Nat) ({ cls := "CursorKeep$Text", name := "rowAnew", desc := "()LCursorKeep$Row;" } : Jvm.MethodName)) ∈ MW := MW_t 687 (by decide +kernel) (by decide +kernel)
theorem mw_688 : (Jvm.Cond.instanceMethod ({ cls := "CursorKeep$Text", name := "rowAnew", desc := "()LCursorKeep$Row;" } : Jvm.MethodName)) ∈ MW := MW_t 688 (by decide +kernel) (by decide +kernel)
theorem mw_689 : (Jvm.Cond.selects "CursorKeep$Text" ({ cls := "CursorKeep$Text", name := "rowAnew", desc := "()LCursorKeep$Row;" } : Jvm.MethodName) ({ cls := "CursorKeep$Text", name := "rowAnew", desc := "()LCursorKeep$Row;" } : Jvm.MethodName)) ∈ MW := MW_t 689 (by decide +kernel) (by decide +kernel)
theorem mw_690 : (Jvm.Cond.code ({ cls := "CursorKeep$Text", name := "rowAnew", desc := "()LCursorKeep$Row;" } : Jvm.MethodName) prog_11_method_11_code (2 : Nat) (Option.some (Jvm.ClassFile.FieldType.object "CursorKeep$Row"))) ∈ MW := MW_t 690 (by decide +kernel) (by decide +kernel)
theorem mw_691 : (Jvm.Cond.methodLink "CursorKeep$Text" (86 : Nat) ({ cls := "CursorKeep$Row", name := "empty", desc := "()V" } : Jvm.MethodName)) ∈ MW := MW_t 691 (by decide +kernel) (by decide +kernel)
theorem mw_692 : (Jvm.Cond.instanceMethod ({ cls := "CursorKeep$Row", name := "empty", desc := "()V" } : Jvm.MethodName)) ∈ MW := MW_t 692 (by decide +kernel) (by decide +kernel)
theorem mw_693 : (Jvm.Cond.selects "CursorKeep$Row" ({ cls := "CursorKeep$Row", name := "empty", desc := "()V" } : Jvm.MethodName) ({ cls := "CursorKeep$Row", name := "empty", desc := "()V" } : Jvm.MethodName)) ∈ MW := MW_t 693 (by decide +kernel) (by decide +kernel)
theorem mw_694 : (Jvm.Cond.code ({ cls := "CursorKeep$Row", name := "empty", desc := "()V" } : Jvm.MethodName) prog_9_method_2_code (1 : Nat) (Option.none : Option Jvm.ClassFile.FieldType)) ∈ MW := MW_t 694 (by decide +kernel) (by decide +kernel)
theorem mw_696 : (Jvm.Cond.methodLink "CursorKeep$Text" (94 : Nat) ({ cls := "java/util/List", name := "get", desc := "(I)Ljava/lang/Object;" } : Jvm.MethodName)) ∈ MW := MW_t 696 (by decide +kernel) (by decide +kernel)
theorem mw_697 : (Jvm.Cond.methodLink "CursorKeepLaw" (122 : Nat) ({ cls := "CursorKeepLaw", name := "version", desc := "(LCursorKeep;I[J)I" } : Jvm.MethodName)) ∈ MW := MW_t 697 (by decide +kernel) (by decide +kernel)
theorem mw_698 : (Jvm.Cond.static ({ cls := "CursorKeepLaw", name := "version", desc := "(LCursorKeep;I[J)I" } : Jvm.MethodName)) ∈ MW := MW_t 698 (by decide +kernel) (by decide +kernel)
theorem mw_699 : (Jvm.Cond.codeWith ({ cls := "CursorKeepLaw", name := "version", desc := "(LCursorKeep;I[J)I" } : Jvm.MethodName) method_12_code (4 : Nat) (Option.some Jvm.ClassFile.FieldType.int) [((0 : Nat), (9 : Nat), (12 : Nat), (13 : Nat))]) ∈ MW := MW_t 699 (by decide +kernel) (by decide +kernel)
theorem mw_700 : (Jvm.Cond.methodLink "CursorKeepLaw" (47 : Nat) ({ cls := "CursorKeep", name := "version", desc := "(I)I" } : Jvm.MethodName)) ∈ MW := MW_t 700 (by decide +kernel) (by decide +kernel)
theorem mw_701 : (Jvm.Cond.instanceMethod ({ cls := "CursorKeep", name := "version", desc := "(I)I" } : Jvm.MethodName)) ∈ MW := MW_t 701 (by decide +kernel) (by decide +kernel)
theorem mw_702 : (Jvm.Cond.selects "CursorKeep" ({ cls := "CursorKeep", name := "version", desc := "(I)I" } : Jvm.MethodName) ({ cls := "CursorKeep", name := "version", desc := "(I)I" } : Jvm.MethodName)) ∈ MW := MW_t 702 (by decide +kernel) (by decide +kernel)
theorem mw_703 : (Jvm.Cond.code ({ cls := "CursorKeep", name := "version", desc := "(I)I" } : Jvm.MethodName) prog_1_method_11_code (2 : Nat) (Option.some Jvm.ClassFile.FieldType.int)) ∈ MW := MW_t 703 (by decide +kernel) (by decide +kernel)
theorem mw_704 : (Jvm.Cond.methodLink "CursorKeepLaw" (125 : Nat) ({ cls := "CursorKeepLaw", name := "ask", desc := "(LCursorKeep;III[J)I" } : Jvm.MethodName)) ∈ MW := MW_t 704 (by decide +kernel) (by decide +kernel)
theorem mw_705 : (Jvm.Cond.static ({ cls := "CursorKeepLaw", name := "ask", desc := "(LCursorKeep;III[J)I" } : Jvm.MethodName)) ∈ MW := MW_t 705 (by decide +kernel) (by decide +kernel)
theorem mw_706 : (Jvm.Cond.codeWith ({ cls := "CursorKeepLaw", name := "ask", desc := "(LCursorKeep;III[J)I" } : Jvm.MethodName) method_13_code (6 : Nat) (Option.some Jvm.ClassFile.FieldType.int) [((0 : Nat), (12 : Nat), (15 : Nat), (13 : Nat)), ((0 : Nat), (12 : Nat), (19 : Nat), (15 : Nat)), ((0 : Nat), (12 : Nat), (23 : Nat), (17 : Nat))]) ∈ MW := MW_t 706 (by decide +kernel) (by decide +kernel)
theorem mw_707 : (Jvm.Cond.methodLink "CursorKeepLaw" (50 : Nat) ({ cls := "CursorKeep", name := "ask", desc := "(III)I" } : Jvm.MethodName)) ∈ MW := MW_t 707 (by decide +kernel) (by decide +kernel)
theorem mw_708 : (Jvm.Cond.instanceMethod ({ cls := "CursorKeep", name := "ask", desc := "(III)I" } : Jvm.MethodName)) ∈ MW := MW_t 708 (by decide +kernel) (by decide +kernel)
theorem mw_709 : (Jvm.Cond.selects "CursorKeep" ({ cls := "CursorKeep", name := "ask", desc := "(III)I" } : Jvm.MethodName) ({ cls := "CursorKeep", name := "ask", desc := "(III)I" } : Jvm.MethodName)) ∈ MW := MW_t 709 (by decide +kernel) (by decide +kernel)
theorem mw_710 : (Jvm.Cond.code ({ cls := "CursorKeep", name := "ask", desc := "(III)I" } : Jvm.MethodName) prog_1_method_12_code (5 : Nat) (Option.some Jvm.ClassFile.FieldType.int)) ∈ MW := MW_t 710 (by decide +kernel) (by decide +kernel)
theorem mw_711 : (Jvm.Cond.methodLink "CursorKeep" (162 : Nat) ({ cls := "CursorKeep", name := "canBeAsked", desc := "(II)Z" } : Jvm.MethodName)) ∈ MW := MW_t 711 (by decide +kernel) (by decide +kernel)
theorem mw_712 : (Jvm.Cond.static ({ cls := "CursorKeep", name := "canBeAsked", desc := "(II)Z" } : Jvm.MethodName)) ∈ MW := MW_t 712 (by decide +kernel) (by decide +kernel)
theorem mw_713 : (Jvm.Cond.code ({ cls := "CursorKeep", name := "canBeAsked", desc := "(II)Z" } : Jvm.MethodName) prog_1_method_31_code (2 : Nat) (Option.some Jvm.ClassFile.FieldType.boolean)) ∈ MW := MW_t 713 (by decide +kernel) (by decide +kernel)
theorem mw_716 : (Jvm.Cond.methodLink "CursorKeep" (175 : Nat) ({ cls := "CursorKeep$Plan", name := "draw", desc := "(LCursorKeep$Row;II)V" } : Jvm.MethodName)) ∈ MW := MW_t 716 (by decide +kernel) (by decide +kernel)
theorem mw_717 : (Jvm.Cond.instanceMethod ({ cls := "CursorKeep$Plan", name := "draw", desc := "(LCursorKeep$Row;II)V" } : Jvm.MethodName)) ∈ MW := MW_t 717 (by decide +kernel) (by decide +kernel)
theorem mw_718 : (Jvm.Cond.selects "CursorKeep$Plan" ({ cls := "CursorKeep$Plan", name := "draw", desc := "(LCursorKeep$Row;II)V" } : Jvm.MethodName) ({ cls := "CursorKeep$Plan", name := "draw", desc := "(LCursorKeep$Row;II)V" } : Jvm.MethodName)) ∈ MW := MW_t 718 (by decide +kernel) (by decide +kernel)
theorem mw_719 : (Jvm.Cond.code ({ cls := "CursorKeep$Plan", name := "draw", desc := "(LCursorKeep$Row;II)V" } : Jvm.MethodName) prog_8_method_2_code (4 : Nat) (Option.none : Option Jvm.ClassFile.FieldType)) ∈ MW := MW_t 719 (by decide +kernel) (by decide +kernel)
theorem mw_720 : (Jvm.Cond.methodLink "CursorKeep$Plan" (22 : Nat) ({ cls := "CursorKeep$Plan", name := "look", desc := "(LCursorKeep$Row;)V" } : Jvm.MethodName)) ∈ MW := MW_t 720 (by decide +kernel) (by decide +kernel)
theorem mw_722 : (Jvm.Cond.instanceMethod ({ cls := "CursorKeep$Plan", name := "look", desc := "(LCursorKeep$Row;)V" } : Jvm.MethodName)) ∈ MW := MW_t 722 (by decide +kernel) (by decide +kernel)
theorem mw_723 : (Jvm.Cond.code ({ cls := "CursorKeep$Plan", name := "look", desc := "(LCursorKeep$Row;)V" } : Jvm.MethodName) prog_8_method_4_code (4 : Nat) (Option.none : Option Jvm.ClassFile.FieldType)) ∈ MW := MW_t 723 (by decide +kernel) (by decide +kernel)
theorem mw_724 : (Jvm.Cond.methodLink "CursorKeep$Plan" (75 : Nat) ({ cls := "CursorKeep$Row", name := "count", desc := "()I" } : Jvm.MethodName)) ∈ MW := MW_t 724 (by decide +kernel) (by decide +kernel)
theorem mw_725 : (Jvm.Cond.methodLink "CursorKeep$Plan" (80 : Nat) ({ cls := "CursorKeep$Row", name := "letterAt", desc := "(I)I" } : Jvm.MethodName)) ∈ MW := MW_t 725 (by decide +kernel) (by decide +kernel)
theorem mw_726 : (Jvm.Cond.methodLink "CursorKeep$Plan" (83 : Nat) ({ cls := "CursorKeep$Row", name := "shows", desc := "(I)Z" } : Jvm.MethodName)) ∈ MW := MW_t 726 (by decide +kernel) (by decide +kernel)
theorem mw_727 : (Jvm.Cond.methodLink "CursorKeep$Plan" (87 : Nat) ({ cls := "CursorKeep$Row", name := "signOf", desc := "(I)C" } : Jvm.MethodName)) ∈ MW := MW_t 727 (by decide +kernel) (by decide +kernel)
theorem mw_728 : (Jvm.Cond.methodLink "CursorKeep$Plan" (26 : Nat) ({ cls := "CursorKeep$Plan", name := "wantSingleSpaces", desc := "()V" } : Jvm.MethodName)) ∈ MW := MW_t 728 (by decide +kernel) (by decide +kernel)
theorem mw_730 : (Jvm.Cond.instanceMethod ({ cls := "CursorKeep$Plan", name := "wantSingleSpaces", desc := "()V" } : Jvm.MethodName)) ∈ MW := MW_t 730 (by decide +kernel) (by decide +kernel)
theorem mw_731 : (Jvm.Cond.code ({ cls := "CursorKeep$Plan", name := "wantSingleSpaces", desc := "()V" } : Jvm.MethodName) prog_8_method_5_code (2 : Nat) (Option.none : Option Jvm.ClassFile.FieldType)) ∈ MW := MW_t 731 (by decide +kernel) (by decide +kernel)
theorem mw_732 : (Jvm.Cond.methodLink "CursorKeep$Plan" (29 : Nat) ({ cls := "CursorKeep$Plan", name := "wantBareEnds", desc := "()V" } : Jvm.MethodName)) ∈ MW := MW_t 732 (by decide +kernel) (by decide +kernel)
theorem mw_734 : (Jvm.Cond.instanceMethod ({ cls := "CursorKeep$Plan", name := "wantBareEnds", desc := "()V" } : Jvm.MethodName)) ∈ MW := MW_t 734 (by decide +kernel) (by decide +kernel)
theorem mw_735 : (Jvm.Cond.code ({ cls := "CursorKeep$Plan", name := "wantBareEnds", desc := "()V" } : Jvm.MethodName) prog_8_method_6_code (3 : Nat) (Option.none : Option Jvm.ClassFile.FieldType)) ∈ MW := MW_t 735 (by decide +kernel) (by decide +kernel)
theorem mw_736 : (Jvm.Cond.methodLink "CursorKeep$Plan" (32 : Nat) ({ cls := "CursorKeep$Plan", name := "wantCapitals", desc := "()V" } : Jvm.MethodName)) ∈ MW := MW_t 736 (by decide +kernel) (by decide +kernel)
theorem mw_738 : (Jvm.Cond.instanceMethod ({ cls := "CursorKeep$Plan", name := "wantCapitals", desc := "()V" } : Jvm.MethodName)) ∈ MW := MW_t 738 (by decide +kernel) (by decide +kernel)
theorem mw_739 : (Jvm.Cond.code ({ cls := "CursorKeep$Plan", name := "wantCapitals", desc := "()V" } : Jvm.MethodName) prog_8_method_7_code (3 : Nat) (Option.none : Option Jvm.ClassFile.FieldType)) ∈ MW := MW_t 739 (by decide +kernel) (by decide +kernel)
theorem mw_740 : (Jvm.Cond.methodLink "CursorKeep$Plan" (35 : Nat) ({ cls := "CursorKeep$Plan", name := "wantWrapped", desc := "(I)V" } : Jvm.MethodName)) ∈ MW := MW_t 740 (by decide +kernel) (by decide +kernel)
theorem mw_742 : (Jvm.Cond.instanceMethod ({ cls := "CursorKeep$Plan", name := "wantWrapped", desc := "(I)V" } : Jvm.MethodName)) ∈ MW := MW_t 742 (by decide +kernel) (by decide +kernel)
theorem mw_743 : (Jvm.Cond.code ({ cls := "CursorKeep$Plan", name := "wantWrapped", desc := "(I)V" } : Jvm.MethodName) prog_8_method_8_code (5 : Nat) (Option.none : Option Jvm.ClassFile.FieldType)) ∈ MW := MW_t 743 (by decide +kernel) (by decide +kernel)
theorem mw_744 : (Jvm.Cond.classLink "CursorKeep" (179 : Nat) "CursorKeep$Format") ∈ MW := MW_t 744 (by decide +kernel) (by decide +kernel)
theorem mw_745 : (Jvm.Cond.instantiable "CursorKeep$Format" (4 : Nat)) ∈ MW := MW_t 745 (by decide +kernel) (by decide +kernel)
theorem mw_746 : (Jvm.Cond.methodLink "CursorKeep" (181 : Nat) ({ cls := "CursorKeep$Plan", name := "changes", desc := "(LCursorKeep$Row;LCursorKeep$Neighbours;)Ljava/util/List;" } : Jvm.MethodName)) ∈ MW := MW_t 746 (by decide +kernel) (by decide +kernel)
theorem mw_747 : (Jvm.Cond.instanceMethod ({ cls := "CursorKeep$Plan", name := "changes", desc := "(LCursorKeep$Row;LCursorKeep$Neighbours;)Ljava/util/List;" } : Jvm.MethodName)) ∈ MW := MW_t 747 (by decide +kernel) (by decide +kernel)
theorem mw_748 : (Jvm.Cond.selects "CursorKeep$Plan" ({ cls := "CursorKeep$Plan", name := "changes", desc := "(LCursorKeep$Row;LCursorKeep$Neighbours;)Ljava/util/List;" } : Jvm.MethodName) ({ cls := "CursorKeep$Plan", name := "changes", desc := "(LCursorKeep$Row;LCursorKeep$Neighbours;)Ljava/util/List;" } : Jvm.MethodName)) ∈ MW := MW_t 748 (by decide +kernel) (by decide +kernel)
theorem mw_749 : (Jvm.Cond.code ({ cls := "CursorKeep$Plan", name := "changes", desc := "(LCursorKeep$Row;LCursorKeep$Neighbours;)Ljava/util/List;" } : Jvm.MethodName) prog_8_method_3_code (6 : Nat) (Option.some (Jvm.ClassFile.FieldType.object "java/util/List"))) ∈ MW := MW_t 749 (by decide +kernel) (by decide +kernel)
theorem mw_750 : (Jvm.Cond.methodLink "CursorKeep$Plan" (39 : Nat) ({ cls := "CursorKeep$Neighbours", name := "forgetGoing", desc := "()V" } : Jvm.MethodName)) ∈ MW := MW_t 750 (by decide +kernel) (by decide +kernel)
theorem mw_751 : (Jvm.Cond.instanceMethod ({ cls := "CursorKeep$Neighbours", name := "forgetGoing", desc := "()V" } : Jvm.MethodName)) ∈ MW := MW_t 751 (by decide +kernel) (by decide +kernel)
theorem mw_752 : (Jvm.Cond.selects "CursorKeep$Neighbours" ({ cls := "CursorKeep$Neighbours", name := "forgetGoing", desc := "()V" } : Jvm.MethodName) ({ cls := "CursorKeep$Neighbours", name := "forgetGoing", desc := "()V" } : Jvm.MethodName)) ∈ MW := MW_t 752 (by decide +kernel) (by decide +kernel)
theorem mw_753 : (Jvm.Cond.code ({ cls := "CursorKeep$Neighbours", name := "forgetGoing", desc := "()V" } : Jvm.MethodName) prog_7_method_2_code (2 : Nat) (Option.none : Option Jvm.ClassFile.FieldType)) ∈ MW := MW_t 753 (by decide +kernel) (by decide +kernel)
theorem mw_754 : (Jvm.Cond.methodLink "CursorKeep$Plan" (48 : Nat) ({ cls := "CursorKeep$Neighbours", name := "markGoing", desc := "(I)V" } : Jvm.MethodName)) ∈ MW := MW_t 754 (by decide +kernel) (by decide +kernel)
theorem mw_755 : (Jvm.Cond.instanceMethod ({ cls := "CursorKeep$Neighbours", name := "markGoing", desc := "(I)V" } : Jvm.MethodName)) ∈ MW := MW_t 755 (by decide +kernel) (by decide +kernel)
theorem mw_756 : (Jvm.Cond.selects "CursorKeep$Neighbours" ({ cls := "CursorKeep$Neighbours", name := "markGoing", desc := "(I)V" } : Jvm.MethodName) ({ cls := "CursorKeep$Neighbours", name := "markGoing", desc := "(I)V" } : Jvm.MethodName)) ∈ MW := MW_t 756 (by decide +kernel) (by decide +kernel)
theorem mw_757 : (Jvm.Cond.code ({ cls := "CursorKeep$Neighbours", name := "markGoing", desc := "(I)V" } : Jvm.MethodName) prog_7_method_3_code (2 : Nat) (Option.none : Option Jvm.ClassFile.FieldType)) ∈ MW := MW_t 757 (by decide +kernel) (by decide +kernel)
theorem mw_758 : (Jvm.Cond.methodLink "CursorKeep$Neighbours" (22 : Nat) ({ cls := "CursorKeep$Neighbours", name := "isLetter", desc := "(I)Z" } : Jvm.MethodName)) ∈ MW := MW_t 758 (by decide +kernel) (by decide +kernel)
theorem mw_759 : (Jvm.Cond.static ({ cls := "CursorKeep$Neighbours", name := "isLetter", desc := "(I)Z" } : Jvm.MethodName)) ∈ MW := MW_t 759 (by decide +kernel) (by decide +kernel)
theorem mw_760 : (Jvm.Cond.code ({ cls := "CursorKeep$Neighbours", name := "isLetter", desc := "(I)Z" } : Jvm.MethodName) prog_7_method_8_code (1 : Nat) (Option.some Jvm.ClassFile.FieldType.boolean)) ∈ MW := MW_t 760 (by decide +kernel) (by decide +kernel)
theorem mw_761 : (Jvm.Cond.methodLink "CursorKeep$Plan" (51 : Nat) ({ cls := "CursorKeep$Neighbours", name := "find", desc := "(LCursorKeep$Row;)V" } : Jvm.MethodName)) ∈ MW := MW_t 761 (by decide +kernel) (by decide +kernel)
theorem mw_762 : (Jvm.Cond.instanceMethod ({ cls := "CursorKeep$Neighbours", name := "find", desc := "(LCursorKeep$Row;)V" } : Jvm.MethodName)) ∈ MW := MW_t 762 (by decide +kernel) (by decide +kernel)
theorem mw_763 : (Jvm.Cond.selects "CursorKeep$Neighbours" ({ cls := "CursorKeep$Neighbours", name := "find", desc := "(LCursorKeep$Row;)V" } : Jvm.MethodName) ({ cls := "CursorKeep$Neighbours", name := "find", desc := "(LCursorKeep$Row;)V" } : Jvm.MethodName)) ∈ MW := MW_t 763 (by decide +kernel) (by decide +kernel)
theorem mw_764 : (Jvm.Cond.code ({ cls := "CursorKeep$Neighbours", name := "find", desc := "(LCursorKeep$Row;)V" } : Jvm.MethodName) prog_7_method_4_code (4 : Nat) (Option.none : Option Jvm.ClassFile.FieldType)) ∈ MW := MW_t 764 (by decide +kernel) (by decide +kernel)
theorem mw_765 : (Jvm.Cond.methodLink "CursorKeep$Neighbours" (26 : Nat) ({ cls := "CursorKeep$Row", name := "count", desc := "()I" } : Jvm.MethodName)) ∈ MW := MW_t 765 (by decide +kernel) (by decide +kernel)
theorem mw_766 : (Jvm.Cond.methodLink "CursorKeep$Neighbours" (32 : Nat) ({ cls := "CursorKeep$Row", name := "letterAt", desc := "(I)I" } : Jvm.MethodName)) ∈ MW := MW_t 766 (by decide +kernel) (by decide +kernel)
theorem mw_767 : (Jvm.Cond.methodLink "CursorKeep$Neighbours" (36 : Nat) ({ cls := "CursorKeep$Neighbours", name := "pass", desc := "(LCursorKeep$Row;II[I)I" } : Jvm.MethodName)) ∈ MW := MW_t 767 (by decide +kernel) (by decide +kernel)
theorem mw_769 : (Jvm.Cond.instanceMethod ({ cls := "CursorKeep$Neighbours", name := "pass", desc := "(LCursorKeep$Row;II[I)I" } : Jvm.MethodName)) ∈ MW := MW_t 769 (by decide +kernel) (by decide +kernel)
theorem mw_770 : (Jvm.Cond.code ({ cls := "CursorKeep$Neighbours", name := "pass", desc := "(LCursorKeep$Row;II[I)I" } : Jvm.MethodName) prog_7_method_7_code (5 : Nat) (Option.some Jvm.ClassFile.FieldType.int)) ∈ MW := MW_t 770 (by decide +kernel) (by decide +kernel)
theorem mw_771 : (Jvm.Cond.methodLink "CursorKeep$Neighbours" (40 : Nat) ({ cls := "CursorKeep$Row", name := "shows", desc := "(I)Z" } : Jvm.MethodName)) ∈ MW := MW_t 771 (by decide +kernel) (by decide +kernel)
theorem mw_772 : (Jvm.Cond.classLink "CursorKeep$Plan" (54 : Nat) "java/util/ArrayList") ∈ MW := MW_t 772 (by decide +kernel) (by decide +kernel)
theorem mw_773 : (Jvm.Cond.methodLink "CursorKeep$Plan" (56 : Nat) ({ cls := "java/util/ArrayList", name := "<init>", desc := "()V" } : Jvm.MethodName)) ∈ MW := MW_t 773 (by decide +kernel) (by decide +kernel)
theorem mw_774 : (Jvm.Cond.classLink "CursorKeep$Plan" (57 : Nat) "CursorKeep$Change") ∈ MW := MW_t 774 (by decide +kernel) (by decide +kernel)
theorem mw_775 : (Jvm.Cond.instantiable "CursorKeep$Change" (6 : Nat)) ∈ MW := MW_t 775 (by decide +kernel) (by decide +kernel)
theorem mw_776 : (Jvm.Cond.methodLink "CursorKeep$Plan" (59 : Nat) ({ cls := "CursorKeep$Neighbours", name := "aheadOf", desc := "(I)I" } : Jvm.MethodName)) ∈ MW := MW_t 776 (by decide +kernel) (by decide +kernel)
theorem mw_777 : (Jvm.Cond.instanceMethod ({ cls := "CursorKeep$Neighbours", name := "aheadOf", desc := "(I)I" } : Jvm.MethodName)) ∈ MW := MW_t 777 (by decide +kernel) (by decide +kernel)
theorem mw_778 : (Jvm.Cond.selects "CursorKeep$Neighbours" ({ cls := "CursorKeep$Neighbours", name := "aheadOf", desc := "(I)I" } : Jvm.MethodName) ({ cls := "CursorKeep$Neighbours", name := "aheadOf", desc := "(I)I" } : Jvm.MethodName)) ∈ MW := MW_t 778 (by decide +kernel) (by decide +kernel)
theorem mw_779 : (Jvm.Cond.code ({ cls := "CursorKeep$Neighbours", name := "aheadOf", desc := "(I)I" } : Jvm.MethodName) prog_7_method_5_code (2 : Nat) (Option.some Jvm.ClassFile.FieldType.int)) ∈ MW := MW_t 779 (by decide +kernel) (by decide +kernel)
theorem mw_780 : (Jvm.Cond.methodLink "CursorKeep$Plan" (63 : Nat) ({ cls := "CursorKeep$Neighbours", name := "behindOf", desc := "(I)I" } : Jvm.MethodName)) ∈ MW := MW_t 780 (by decide +kernel) (by decide +kernel)
theorem mw_781 : (Jvm.Cond.instanceMethod ({ cls := "CursorKeep$Neighbours", name := "behindOf", desc := "(I)I" } : Jvm.MethodName)) ∈ MW := MW_t 781 (by decide +kernel) (by decide +kernel)
theorem mw_782 : (Jvm.Cond.selects "CursorKeep$Neighbours" ({ cls := "CursorKeep$Neighbours", name := "behindOf", desc := "(I)I" } : Jvm.MethodName) ({ cls := "CursorKeep$Neighbours", name := "behindOf", desc := "(I)I" } : Jvm.MethodName)) ∈ MW := MW_t 782 (by decide +kernel) (by decide +kernel)
theorem mw_783 : (Jvm.Cond.code ({ cls := "CursorKeep$Neighbours", name := "behindOf", desc := "(I)I" } : Jvm.MethodName) prog_7_method_6_code (2 : Nat) (Option.some Jvm.ClassFile.FieldType.int)) ∈ MW := MW_t 783 (by decide +kernel) (by decide +kernel)
theorem mw_784 : (Jvm.Cond.methodLink "CursorKeep$Plan" (66 : Nat) ({ cls := "CursorKeep$Change", name := "<init>", desc := "(ICCII)V" } : Jvm.MethodName)) ∈ MW := MW_t 784 (by decide +kernel) (by decide +kernel)
theorem mw_785 : (Jvm.Cond.instanceMethod ({ cls := "CursorKeep$Change", name := "<init>", desc := "(ICCII)V" } : Jvm.MethodName)) ∈ MW := MW_t 785 (by decide +kernel) (by decide +kernel)
theorem mw_786 : (Jvm.Cond.code ({ cls := "CursorKeep$Change", name := "<init>", desc := "(ICCII)V" } : Jvm.MethodName) prog_3_method_1_code (6 : Nat) (Option.none : Option Jvm.ClassFile.FieldType)) ∈ MW := MW_t 786 (by decide +kernel) (by decide +kernel)
theorem mw_787 : (Jvm.Cond.methodLink "CursorKeep$Change" (3 : Nat) ({ cls := "java/lang/Object", name := "<init>", desc := "()V" } : Jvm.MethodName)) ∈ MW := MW_t 787 (by decide +kernel) (by decide +kernel)
theorem mw_788 : (Jvm.Cond.fieldLink "CursorKeep$Change" (9 : Nat) "CursorKeep$Change" "letter" "I") ∈ MW := MW_t 788 (by decide +kernel) (by decide +kernel)
theorem mw_789 : (Jvm.Cond.fieldLink "CursorKeep$Format" (47 : Nat) "CursorKeep$Change" "letter" "I") ∈ MW := MW_t 789 (by decide +kernel) (by decide +kernel)
theorem mw_790 : (Jvm.Cond.fieldLink "CursorKeep$Change" (15 : Nat) "CursorKeep$Change" "had" "C") ∈ MW := MW_t 790 (by decide +kernel) (by decide +kernel)
theorem mw_791 : (Jvm.Cond.fieldLink "CursorKeep$Format" (96 : Nat) "CursorKeep$Change" "had" "C") ∈ MW := MW_t 791 (by decide +kernel) (by decide +kernel)
theorem mw_792 : (Jvm.Cond.fieldLink "CursorKeep$Change" (19 : Nat) "CursorKeep$Change" "wanted" "C") ∈ MW := MW_t 792 (by decide +kernel) (by decide +kernel)
theorem mw_793 : (Jvm.Cond.fieldLink "CursorKeep$Format" (75 : Nat) "CursorKeep$Change" "wanted" "C") ∈ MW := MW_t 793 (by decide +kernel) (by decide +kernel)
theorem mw_794 : (Jvm.Cond.fieldLink "CursorKeep$Change" (22 : Nat) "CursorKeep$Change" "ahead" "I") ∈ MW := MW_t 794 (by decide +kernel) (by decide +kernel)
theorem mw_795 : (Jvm.Cond.fieldLink "CursorKeep$Format" (106 : Nat) "CursorKeep$Change" "ahead" "I") ∈ MW := MW_t 795 (by decide +kernel) (by decide +kernel)
theorem mw_796 : (Jvm.Cond.fieldLink "CursorKeep$Change" (25 : Nat) "CursorKeep$Change" "behind" "I") ∈ MW := MW_t 796 (by decide +kernel) (by decide +kernel)
theorem mw_797 : (Jvm.Cond.fieldLink "CursorKeep$Format" (112 : Nat) "CursorKeep$Change" "behind" "I") ∈ MW := MW_t 797 (by decide +kernel) (by decide +kernel)
theorem mw_798 : (Jvm.Cond.fieldLink "CursorKeep$Format" (68 : Nat) "CursorKeep$Change" "isSpared" "Z") ∈ MW := MW_t 798 (by decide +kernel) (by decide +kernel)
theorem mw_799 : (Jvm.Cond.laysFinal "CursorKeep$Change" "CursorKeep$Change" "letter" "I") ∈ MW := MW_t 799 (by decide +kernel) (by decide +kernel)
theorem mw_800 : (Jvm.Cond.soleField "CursorKeep$Change" "letter") ∈ MW := MW_t 800 (by decide +kernel) (by decide +kernel)
theorem mw_801 : (Jvm.Cond.laysFinal "CursorKeep$Change" "CursorKeep$Change" "had" "C") ∈ MW := MW_t 801 (by decide +kernel) (by decide +kernel)
theorem mw_802 : (Jvm.Cond.soleField "CursorKeep$Change" "had") ∈ MW := MW_t 802 (by decide +kernel) (by decide +kernel)
theorem mw_803 : (Jvm.Cond.laysFinal "CursorKeep$Change" "CursorKeep$Change" "wanted" "C") ∈ MW := MW_t 803 (by decide +kernel) (by decide +kernel)
theorem mw_804 : (Jvm.Cond.soleField "CursorKeep$Change" "wanted") ∈ MW := MW_t 804 (by decide +kernel) (by decide +kernel)
theorem mw_805 : (Jvm.Cond.laysFinal "CursorKeep$Change" "CursorKeep$Change" "ahead" "I") ∈ MW := MW_t 805 (by decide +kernel) (by decide +kernel)
theorem mw_806 : (Jvm.Cond.soleField "CursorKeep$Change" "ahead") ∈ MW := MW_t 806 (by decide +kernel) (by decide +kernel)
theorem mw_807 : (Jvm.Cond.laysFinal "CursorKeep$Change" "CursorKeep$Change" "behind" "I") ∈ MW := MW_t 807 (by decide +kernel) (by decide +kernel)
theorem mw_808 : (Jvm.Cond.soleField "CursorKeep$Change" "behind") ∈ MW := MW_t 808 (by decide +kernel) (by decide +kernel)
theorem mw_809 : (Jvm.Cond.lays "CursorKeep$Change" "CursorKeep$Change" "isSpared" "Z") ∈ MW := MW_t 809 (by decide +kernel) (by decide +kernel)
theorem mw_810 : (Jvm.Cond.soleField "CursorKeep$Change" "isSpared") ∈ MW := MW_t 810 (by decide +kernel) (by decide +kernel)
theorem mw_811 : (Jvm.Cond.superclass "CursorKeep$Change" "java/lang/Object") ∈ MW := MW_t 811 (by decide +kernel) (by decide +kernel)
theorem mw_813 : (Jvm.Cond.methodLink "CursorKeep$Plan" (69 : Nat) ({ cls := "java/util/List", name := "add", desc := "(Ljava/lang/Object;)Z" } : Jvm.MethodName)) ∈ MW := MW_t 813 (by decide +kernel) (by decide +kernel)
theorem mw_814 : (Jvm.Cond.methodLink "CursorKeep" (185 : Nat) ({ cls := "CursorKeep$Format", name := "<init>", desc := "(LCursorKeep$Text;Ljava/util/List;)V" } : Jvm.MethodName)) ∈ MW := MW_t 814 (by decide +kernel) (by decide +kernel)
theorem mw_815 : (Jvm.Cond.instanceMethod ({ cls := "CursorKeep$Format", name := "<init>", desc := "(LCursorKeep$Text;Ljava/util/List;)V" } : Jvm.MethodName)) ∈ MW := MW_t 815 (by decide +kernel) (by decide +kernel)
theorem mw_816 : (Jvm.Cond.code ({ cls := "CursorKeep$Format", name := "<init>", desc := "(LCursorKeep$Text;Ljava/util/List;)V" } : Jvm.MethodName) prog_5_method_1_code (3 : Nat) (Option.none : Option Jvm.ClassFile.FieldType)) ∈ MW := MW_t 816 (by decide +kernel) (by decide +kernel)
theorem mw_817 : (Jvm.Cond.methodLink "CursorKeep$Format" (3 : Nat) ({ cls := "java/lang/Object", name := "<init>", desc := "()V" } : Jvm.MethodName)) ∈ MW := MW_t 817 (by decide +kernel) (by decide +kernel)
theorem mw_818 : (Jvm.Cond.fieldLink "CursorKeep$Format" (15 : Nat) "CursorKeep$Format" "text" "LCursorKeep$Text;") ∈ MW := MW_t 818 (by decide +kernel) (by decide +kernel)
theorem mw_819 : (Jvm.Cond.fieldLink "CursorKeep" (226 : Nat) "CursorKeep$Format" "text" "LCursorKeep$Text;") ∈ MW := MW_t 819 (by decide +kernel) (by decide +kernel)
theorem mw_820 : (Jvm.Cond.fieldLink "CursorKeep$Format" (19 : Nat) "CursorKeep$Format" "changes" "Ljava/util/List;") ∈ MW := MW_t 820 (by decide +kernel) (by decide +kernel)
theorem mw_821 : (Jvm.Cond.fieldLink "CursorKeep" (206 : Nat) "CursorKeep$Format" "changes" "Ljava/util/List;") ∈ MW := MW_t 821 (by decide +kernel) (by decide +kernel)
theorem mw_822 : (Jvm.Cond.fieldLink "CursorKeep$Format" (9 : Nat) "CursorKeep$Format" "state" "I") ∈ MW := MW_t 822 (by decide +kernel) (by decide +kernel)
theorem mw_823 : (Jvm.Cond.fieldLink "CursorKeep$Save" (26 : Nat) "CursorKeep$Format" "state" "I") ∈ MW := MW_t 823 (by decide +kernel) (by decide +kernel)
theorem mw_824 : (Jvm.Cond.fieldLink "CursorKeep" (211 : Nat) "CursorKeep$Format" "state" "I") ∈ MW := MW_t 824 (by decide +kernel) (by decide +kernel)
theorem mw_825 : (Jvm.Cond.fieldLink "CursorKeep$Format" (23 : Nat) "CursorKeep$Format" "sparedAtEnd" "I") ∈ MW := MW_t 825 (by decide +kernel) (by decide +kernel)
theorem mw_826 : (Jvm.Cond.fieldLink "CursorKeep" (214 : Nat) "CursorKeep$Format" "sparedAtEnd" "I") ∈ MW := MW_t 826 (by decide +kernel) (by decide +kernel)
theorem mw_827 : (Jvm.Cond.laysFinal "CursorKeep$Format" "CursorKeep$Format" "text" "LCursorKeep$Text;") ∈ MW := MW_t 827 (by decide +kernel) (by decide +kernel)
theorem mw_828 : (Jvm.Cond.soleField "CursorKeep$Format" "text") ∈ MW := MW_t 828 (by decide +kernel) (by decide +kernel)
theorem mw_829 : (Jvm.Cond.laysFinal "CursorKeep$Format" "CursorKeep$Format" "changes" "Ljava/util/List;") ∈ MW := MW_t 829 (by decide +kernel) (by decide +kernel)
theorem mw_830 : (Jvm.Cond.soleField "CursorKeep$Format" "changes") ∈ MW := MW_t 830 (by decide +kernel) (by decide +kernel)
theorem mw_831 : (Jvm.Cond.lays "CursorKeep$Format" "CursorKeep$Format" "state" "I") ∈ MW := MW_t 831 (by decide +kernel) (by decide +kernel)
theorem mw_832 : (Jvm.Cond.soleField "CursorKeep$Format" "state") ∈ MW := MW_t 832 (by decide +kernel) (by decide +kernel)
theorem mw_833 : (Jvm.Cond.lays "CursorKeep$Format" "CursorKeep$Format" "sparedAtEnd" "I") ∈ MW := MW_t 833 (by decide +kernel) (by decide +kernel)
theorem mw_834 : (Jvm.Cond.soleField "CursorKeep$Format" "sparedAtEnd") ∈ MW := MW_t 834 (by decide +kernel) (by decide +kernel)
theorem mw_835 : (Jvm.Cond.superclass "CursorKeep$Format" "java/lang/Object") ∈ MW := MW_t 835 (by decide +kernel) (by decide +kernel)
theorem mw_837 : (Jvm.Cond.methodLink "CursorKeep" (188 : Nat) ({ cls := "java/util/List", name := "add", desc := "(Ljava/lang/Object;)Z" } : Jvm.MethodName)) ∈ MW := MW_t 837 (by decide +kernel) (by decide +kernel)
theorem mw_838 : (Jvm.Cond.methodLink "CursorKeepLaw" (128 : Nat) ({ cls := "CursorKeepLaw", name := "come", desc := "(LCursorKeep;I[J)I" } : Jvm.MethodName)) ∈ MW := MW_t 838 (by decide +kernel) (by decide +kernel)
theorem mw_839 : (Jvm.Cond.static ({ cls := "CursorKeepLaw", name := "come", desc := "(LCursorKeep;I[J)I" } : Jvm.MethodName)) ∈ MW := MW_t 839 (by decide +kernel) (by decide +kernel)
theorem mw_840 : (Jvm.Cond.codeWith ({ cls := "CursorKeepLaw", name := "come", desc := "(LCursorKeep;I[J)I" } : Jvm.MethodName) method_14_code (4 : Nat) (Option.some Jvm.ClassFile.FieldType.int) [((0 : Nat), (9 : Nat), (12 : Nat), (13 : Nat)), ((0 : Nat), (9 : Nat), (15 : Nat), (17 : Nat))]) ∈ MW := MW_t 840 (by decide +kernel) (by decide +kernel)
theorem mw_841 : (Jvm.Cond.methodLink "CursorKeepLaw" (53 : Nat) ({ cls := "CursorKeep", name := "come", desc := "(I)I" } : Jvm.MethodName)) ∈ MW := MW_t 841 (by decide +kernel) (by decide +kernel)
theorem mw_842 : (Jvm.Cond.instanceMethod ({ cls := "CursorKeep", name := "come", desc := "(I)I" } : Jvm.MethodName)) ∈ MW := MW_t 842 (by decide +kernel) (by decide +kernel)
theorem mw_843 : (Jvm.Cond.selects "CursorKeep" ({ cls := "CursorKeep", name := "come", desc := "(I)I" } : Jvm.MethodName) ({ cls := "CursorKeep", name := "come", desc := "(I)I" } : Jvm.MethodName)) ∈ MW := MW_t 843 (by decide +kernel) (by decide +kernel)
theorem mw_844 : (Jvm.Cond.code ({ cls := "CursorKeep", name := "come", desc := "(I)I" } : Jvm.MethodName) prog_1_method_13_code (4 : Nat) (Option.some Jvm.ClassFile.FieldType.int)) ∈ MW := MW_t 844 (by decide +kernel) (by decide +kernel)
theorem mw_845 : (Jvm.Cond.methodLink "CursorKeep" (192 : Nat) ({ cls := "CursorKeep", name := "waitingFormatAt", desc := "(I)LCursorKeep$Format;" } : Jvm.MethodName)) ∈ MW := MW_t 845 (by decide +kernel) (by decide +kernel)
theorem mw_847 : (Jvm.Cond.instanceMethod ({ cls := "CursorKeep", name := "waitingFormatAt", desc := "(I)LCursorKeep$Format;" } : Jvm.MethodName)) ∈ MW := MW_t 847 (by decide +kernel) (by decide +kernel)
theorem mw_848 : (Jvm.Cond.code ({ cls := "CursorKeep", name := "waitingFormatAt", desc := "(I)LCursorKeep$Format;" } : Jvm.MethodName) prog_1_method_27_code (3 : Nat) (Option.some (Jvm.ClassFile.FieldType.object "CursorKeep$Format"))) ∈ MW := MW_t 848 (by decide +kernel) (by decide +kernel)
theorem mw_849 : (Jvm.Cond.methodLink "CursorKeep" (208 : Nat) ({ cls := "CursorKeep", name := "formatAt", desc := "(I)LCursorKeep$Format;" } : Jvm.MethodName)) ∈ MW := MW_t 849 (by decide +kernel) (by decide +kernel)
theorem mw_851 : (Jvm.Cond.instanceMethod ({ cls := "CursorKeep", name := "formatAt", desc := "(I)LCursorKeep$Format;" } : Jvm.MethodName)) ∈ MW := MW_t 851 (by decide +kernel) (by decide +kernel)
theorem mw_852 : (Jvm.Cond.code ({ cls := "CursorKeep", name := "formatAt", desc := "(I)LCursorKeep$Format;" } : Jvm.MethodName) prog_1_method_26_code (2 : Nat) (Option.some (Jvm.ClassFile.FieldType.object "CursorKeep$Format"))) ∈ MW := MW_t 852 (by decide +kernel) (by decide +kernel)
theorem mw_855 : (Jvm.Cond.methodLink "CursorKeep" (196 : Nat) ({ cls := "CursorKeep$Format", name := "judge", desc := "(LCursorKeep$Neighbours;)I" } : Jvm.MethodName)) ∈ MW := MW_t 855 (by decide +kernel) (by decide +kernel)
theorem mw_856 : (Jvm.Cond.instanceMethod ({ cls := "CursorKeep$Format", name := "judge", desc := "(LCursorKeep$Neighbours;)I" } : Jvm.MethodName)) ∈ MW := MW_t 856 (by decide +kernel) (by decide +kernel)
theorem mw_857 : (Jvm.Cond.selects "CursorKeep$Format" ({ cls := "CursorKeep$Format", name := "judge", desc := "(LCursorKeep$Neighbours;)I" } : Jvm.MethodName) ({ cls := "CursorKeep$Format", name := "judge", desc := "(LCursorKeep$Neighbours;)I" } : Jvm.MethodName)) ∈ MW := MW_t 857 (by decide +kernel) (by decide +kernel)
theorem mw_858 : (Jvm.Cond.code ({ cls := "CursorKeep$Format", name := "judge", desc := "(LCursorKeep$Neighbours;)I" } : Jvm.MethodName) prog_5_method_3_code (5 : Nat) (Option.some Jvm.ClassFile.FieldType.int)) ∈ MW := MW_t 858 (by decide +kernel) (by decide +kernel)
theorem mw_859 : (Jvm.Cond.methodLink "CursorKeep$Format" (26 : Nat) ({ cls := "CursorKeep$Neighbours", name := "forgetGoing", desc := "()V" } : Jvm.MethodName)) ∈ MW := MW_t 859 (by decide +kernel) (by decide +kernel)
theorem mw_861 : (Jvm.Cond.methodLink "CursorKeep$Format" (31 : Nat) ({ cls := "java/util/List", name := "size", desc := "()I" } : Jvm.MethodName)) ∈ MW := MW_t 861 (by decide +kernel) (by decide +kernel)
theorem mw_863 : (Jvm.Cond.methodLink "CursorKeep$Format" (37 : Nat) ({ cls := "java/util/List", name := "get", desc := "(I)Ljava/lang/Object;" } : Jvm.MethodName)) ∈ MW := MW_t 863 (by decide +kernel) (by decide +kernel)
theorem mw_864 : (Jvm.Cond.classLink "CursorKeep$Format" (41 : Nat) "CursorKeep$Change") ∈ MW := MW_t 864 (by decide +kernel) (by decide +kernel)
theorem mw_865 : (Jvm.Cond.methodLink "CursorKeep$Format" (43 : Nat) ({ cls := "CursorKeep$Change", name := "goes", desc := "()Z" } : Jvm.MethodName)) ∈ MW := MW_t 865 (by decide +kernel) (by decide +kernel)
theorem mw_866 : (Jvm.Cond.instanceMethod ({ cls := "CursorKeep$Change", name := "goes", desc := "()Z" } : Jvm.MethodName)) ∈ MW := MW_t 866 (by decide +kernel) (by decide +kernel)
theorem mw_867 : (Jvm.Cond.selects "CursorKeep$Change" ({ cls := "CursorKeep$Change", name := "goes", desc := "()Z" } : Jvm.MethodName) ({ cls := "CursorKeep$Change", name := "goes", desc := "()Z" } : Jvm.MethodName)) ∈ MW := MW_t 867 (by decide +kernel) (by decide +kernel)
theorem mw_868 : (Jvm.Cond.code ({ cls := "CursorKeep$Change", name := "goes", desc := "()Z" } : Jvm.MethodName) prog_3_method_2_code (1 : Nat) (Option.some Jvm.ClassFile.FieldType.boolean)) ∈ MW := MW_t 868 (by decide +kernel) (by decide +kernel)
theorem mw_869 : (Jvm.Cond.methodLink "CursorKeep$Format" (50 : Nat) ({ cls := "CursorKeep$Neighbours", name := "markGoing", desc := "(I)V" } : Jvm.MethodName)) ∈ MW := MW_t 869 (by decide +kernel) (by decide +kernel)
theorem mw_870 : (Jvm.Cond.methodLink "CursorKeep$Format" (60 : Nat) ({ cls := "CursorKeep$Neighbours", name := "find", desc := "(LCursorKeep$Row;)V" } : Jvm.MethodName)) ∈ MW := MW_t 870 (by decide +kernel) (by decide +kernel)
theorem mw_871 : (Jvm.Cond.methodLink "CursorKeep$Format" (64 : Nat) ({ cls := "CursorKeep$Format", name := "spares", desc := "(LCursorKeep$Change;LCursorKeep$Neighbours;)Z" } : Jvm.MethodName)) ∈ MW := MW_t 871 (by decide +kernel) (by decide +kernel)
theorem mw_873 : (Jvm.Cond.instanceMethod ({ cls := "CursorKeep$Format", name := "spares", desc := "(LCursorKeep$Change;LCursorKeep$Neighbours;)Z" } : Jvm.MethodName)) ∈ MW := MW_t 873 (by decide +kernel) (by decide +kernel)
theorem mw_874 : (Jvm.Cond.code ({ cls := "CursorKeep$Format", name := "spares", desc := "(LCursorKeep$Change;LCursorKeep$Neighbours;)Z" } : Jvm.MethodName) prog_5_method_5_code (4 : Nat) (Option.some Jvm.ClassFile.FieldType.boolean)) ∈ MW := MW_t 874 (by decide +kernel) (by decide +kernel)
theorem mw_875 : (Jvm.Cond.methodLink "CursorKeep$Format" (86 : Nat) ({ cls := "CursorKeep$Row", name := "shows", desc := "(I)Z" } : Jvm.MethodName)) ∈ MW := MW_t 875 (by decide +kernel) (by decide +kernel)
theorem mw_876 : (Jvm.Cond.methodLink "CursorKeep$Format" (92 : Nat) ({ cls := "CursorKeep$Row", name := "signOf", desc := "(I)C" } : Jvm.MethodName)) ∈ MW := MW_t 876 (by decide +kernel) (by decide +kernel)
theorem mw_877 : (Jvm.Cond.methodLink "CursorKeep$Format" (99 : Nat) ({ cls := "CursorKeep$Text", name := "hasCursorAt", desc := "(I)Z" } : Jvm.MethodName)) ∈ MW := MW_t 877 (by decide +kernel) (by decide +kernel)
theorem mw_878 : (Jvm.Cond.instanceMethod ({ cls := "CursorKeep$Text", name := "hasCursorAt", desc := "(I)Z" } : Jvm.MethodName)) ∈ MW := MW_t 878 (by decide +kernel) (by decide +kernel)
theorem mw_879 : (Jvm.Cond.selects "CursorKeep$Text" ({ cls := "CursorKeep$Text", name := "hasCursorAt", desc := "(I)Z" } : Jvm.MethodName) ({ cls := "CursorKeep$Text", name := "hasCursorAt", desc := "(I)Z" } : Jvm.MethodName)) ∈ MW := MW_t 879 (by decide +kernel) (by decide +kernel)
theorem mw_880 : (Jvm.Cond.code ({ cls := "CursorKeep$Text", name := "hasCursorAt", desc := "(I)Z" } : Jvm.MethodName) prog_11_method_6_code (3 : Nat) (Option.some Jvm.ClassFile.FieldType.boolean)) ∈ MW := MW_t 880 (by decide +kernel) (by decide +kernel)
theorem mw_881 : (Jvm.Cond.methodLink "CursorKeep$Format" (102 : Nat) ({ cls := "CursorKeep$Neighbours", name := "aheadOf", desc := "(I)I" } : Jvm.MethodName)) ∈ MW := MW_t 881 (by decide +kernel) (by decide +kernel)
theorem mw_882 : (Jvm.Cond.methodLink "CursorKeep$Format" (109 : Nat) ({ cls := "CursorKeep$Neighbours", name := "behindOf", desc := "(I)I" } : Jvm.MethodName)) ∈ MW := MW_t 882 (by decide +kernel) (by decide +kernel)
theorem mw_883 : (Jvm.Cond.methodLink "CursorKeep" (200 : Nat) ({ cls := "CursorKeep$Format", name := "doChanges", desc := "()V" } : Jvm.MethodName)) ∈ MW := MW_t 883 (by decide +kernel) (by decide +kernel)
theorem mw_884 : (Jvm.Cond.instanceMethod ({ cls := "CursorKeep$Format", name := "doChanges", desc := "()V" } : Jvm.MethodName)) ∈ MW := MW_t 884 (by decide +kernel) (by decide +kernel)
theorem mw_885 : (Jvm.Cond.selects "CursorKeep$Format" ({ cls := "CursorKeep$Format", name := "doChanges", desc := "()V" } : Jvm.MethodName) ({ cls := "CursorKeep$Format", name := "doChanges", desc := "()V" } : Jvm.MethodName)) ∈ MW := MW_t 885 (by decide +kernel) (by decide +kernel)
theorem mw_886 : (Jvm.Cond.code ({ cls := "CursorKeep$Format", name := "doChanges", desc := "()V" } : Jvm.MethodName) prog_5_method_4_code (4 : Nat) (Option.none : Option Jvm.ClassFile.FieldType)) ∈ MW := MW_t 886 (by decide +kernel) (by decide +kernel)
theorem mw_887 : (Jvm.Cond.methodLink "CursorKeep$Format" (72 : Nat) ({ cls := "CursorKeep$Text", name := "letGo", desc := "(I)V" } : Jvm.MethodName)) ∈ MW := MW_t 887 (by decide +kernel) (by decide +kernel)
theorem mw_888 : (Jvm.Cond.methodLink "CursorKeep$Format" (79 : Nat) ({ cls := "CursorKeep$Text", name := "become", desc := "(IC)V" } : Jvm.MethodName)) ∈ MW := MW_t 888 (by decide +kernel) (by decide +kernel)
theorem mw_889 : (Jvm.Cond.instanceMethod ({ cls := "CursorKeep$Text", name := "become", desc := "(IC)V" } : Jvm.MethodName)) ∈ MW := MW_t 889 (by decide +kernel) (by decide +kernel)
theorem mw_890 : (Jvm.Cond.selects "CursorKeep$Text" ({ cls := "CursorKeep$Text", name := "become", desc := "(IC)V" } : Jvm.MethodName) ({ cls := "CursorKeep$Text", name := "become", desc := "(IC)V" } : Jvm.MethodName)) ∈ MW := MW_t 890 (by decide +kernel) (by decide +kernel)
theorem mw_891 : (Jvm.Cond.code ({ cls := "CursorKeep$Text", name := "become", desc := "(IC)V" } : Jvm.MethodName) prog_11_method_10_code (3 : Nat) (Option.none : Option Jvm.ClassFile.FieldType)) ∈ MW := MW_t 891 (by decide +kernel) (by decide +kernel)
theorem mw_892 : (Jvm.Cond.methodLink "CursorKeep" (203 : Nat) ({ cls := "CursorKeep$Format", name := "end", desc := "(II)V" } : Jvm.MethodName)) ∈ MW := MW_t 892 (by decide +kernel) (by decide +kernel)
theorem mw_893 : (Jvm.Cond.instanceMethod ({ cls := "CursorKeep$Format", name := "end", desc := "(II)V" } : Jvm.MethodName)) ∈ MW := MW_t 893 (by decide +kernel) (by decide +kernel)
theorem mw_894 : (Jvm.Cond.selects "CursorKeep$Format" ({ cls := "CursorKeep$Format", name := "end", desc := "(II)V" } : Jvm.MethodName) ({ cls := "CursorKeep$Format", name := "end", desc := "(II)V" } : Jvm.MethodName)) ∈ MW := MW_t 894 (by decide +kernel) (by decide +kernel)
theorem mw_895 : (Jvm.Cond.code ({ cls := "CursorKeep$Format", name := "end", desc := "(II)V" } : Jvm.MethodName) prog_5_method_2_code (3 : Nat) (Option.none : Option Jvm.ClassFile.FieldType)) ∈ MW := MW_t 895 (by decide +kernel) (by decide +kernel)
theorem mw_896 : (Jvm.Cond.methodLink "CursorKeepLaw" (131 : Nat) ({ cls := "CursorKeepLaw", name := "drop", desc := "(LCursorKeep;I[J)I" } : Jvm.MethodName)) ∈ MW := MW_t 896 (by decide +kernel) (by decide +kernel)
theorem mw_897 : (Jvm.Cond.static ({ cls := "CursorKeepLaw", name := "drop", desc := "(LCursorKeep;I[J)I" } : Jvm.MethodName)) ∈ MW := MW_t 897 (by decide +kernel) (by decide +kernel)
theorem mw_898 : (Jvm.Cond.codeWith ({ cls := "CursorKeepLaw", name := "drop", desc := "(LCursorKeep;I[J)I" } : Jvm.MethodName) method_15_code (4 : Nat) (Option.some Jvm.ClassFile.FieldType.int) [((0 : Nat), (9 : Nat), (12 : Nat), (13 : Nat)), ((0 : Nat), (9 : Nat), (15 : Nat), (17 : Nat))]) ∈ MW := MW_t 898 (by decide +kernel) (by decide +kernel)
theorem mw_899 : (Jvm.Cond.methodLink "CursorKeepLaw" (56 : Nat) ({ cls := "CursorKeep", name := "drop", desc := "(I)I" } : Jvm.MethodName)) ∈ MW := MW_t 899 (by decide +kernel) (by decide +kernel)
theorem mw_900 : (Jvm.Cond.instanceMethod ({ cls := "CursorKeep", name := "drop", desc := "(I)I" } : Jvm.MethodName)) ∈ MW := MW_t 900 (by decide +kernel) (by decide +kernel)
theorem mw_901 : (Jvm.Cond.selects "CursorKeep" ({ cls := "CursorKeep", name := "drop", desc := "(I)I" } : Jvm.MethodName) ({ cls := "CursorKeep", name := "drop", desc := "(I)I" } : Jvm.MethodName)) ∈ MW := MW_t 901 (by decide +kernel) (by decide +kernel)
theorem mw_902 : (Jvm.Cond.code ({ cls := "CursorKeep", name := "drop", desc := "(I)I" } : Jvm.MethodName) prog_1_method_14_code (3 : Nat) (Option.some Jvm.ClassFile.FieldType.int)) ∈ MW := MW_t 902 (by decide +kernel) (by decide +kernel)
theorem mw_903 : (Jvm.Cond.methodLink "CursorKeepLaw" (134 : Nat) ({ cls := "CursorKeepLaw", name := "state", desc := "(LCursorKeep;I[J)I" } : Jvm.MethodName)) ∈ MW := MW_t 903 (by decide +kernel) (by decide +kernel)
theorem mw_904 : (Jvm.Cond.static ({ cls := "CursorKeepLaw", name := "state", desc := "(LCursorKeep;I[J)I" } : Jvm.MethodName)) ∈ MW := MW_t 904 (by decide +kernel) (by decide +kernel)
theorem mw_905 : (Jvm.Cond.codeWith ({ cls := "CursorKeepLaw", name := "state", desc := "(LCursorKeep;I[J)I" } : Jvm.MethodName) method_16_code (4 : Nat) (Option.some Jvm.ClassFile.FieldType.int) [((0 : Nat), (9 : Nat), (12 : Nat), (13 : Nat))]) ∈ MW := MW_t 905 (by decide +kernel) (by decide +kernel)
theorem mw_906 : (Jvm.Cond.methodLink "CursorKeepLaw" (59 : Nat) ({ cls := "CursorKeep", name := "state", desc := "(I)I" } : Jvm.MethodName)) ∈ MW := MW_t 906 (by decide +kernel) (by decide +kernel)
theorem mw_907 : (Jvm.Cond.instanceMethod ({ cls := "CursorKeep", name := "state", desc := "(I)I" } : Jvm.MethodName)) ∈ MW := MW_t 907 (by decide +kernel) (by decide +kernel)
theorem mw_908 : (Jvm.Cond.selects "CursorKeep" ({ cls := "CursorKeep", name := "state", desc := "(I)I" } : Jvm.MethodName) ({ cls := "CursorKeep", name := "state", desc := "(I)I" } : Jvm.MethodName)) ∈ MW := MW_t 908 (by decide +kernel) (by decide +kernel)
theorem mw_909 : (Jvm.Cond.code ({ cls := "CursorKeep", name := "state", desc := "(I)I" } : Jvm.MethodName) prog_1_method_15_code (2 : Nat) (Option.some Jvm.ClassFile.FieldType.int)) ∈ MW := MW_t 909 (by decide +kernel) (by decide +kernel)
theorem mw_910 : (Jvm.Cond.methodLink "CursorKeepLaw" (137 : Nat) ({ cls := "CursorKeepLaw", name := "spared", desc := "(LCursorKeep;I[J)I" } : Jvm.MethodName)) ∈ MW := MW_t 910 (by decide +kernel) (by decide +kernel)
theorem mw_911 : (Jvm.Cond.static ({ cls := "CursorKeepLaw", name := "spared", desc := "(LCursorKeep;I[J)I" } : Jvm.MethodName)) ∈ MW := MW_t 911 (by decide +kernel) (by decide +kernel)
theorem mw_912 : (Jvm.Cond.codeWith ({ cls := "CursorKeepLaw", name := "spared", desc := "(LCursorKeep;I[J)I" } : Jvm.MethodName) method_17_code (4 : Nat) (Option.some Jvm.ClassFile.FieldType.int) [((0 : Nat), (9 : Nat), (12 : Nat), (13 : Nat))]) ∈ MW := MW_t 912 (by decide +kernel) (by decide +kernel)
theorem mw_913 : (Jvm.Cond.methodLink "CursorKeepLaw" (62 : Nat) ({ cls := "CursorKeep", name := "spared", desc := "(I)I" } : Jvm.MethodName)) ∈ MW := MW_t 913 (by decide +kernel) (by decide +kernel)
theorem mw_914 : (Jvm.Cond.instanceMethod ({ cls := "CursorKeep", name := "spared", desc := "(I)I" } : Jvm.MethodName)) ∈ MW := MW_t 914 (by decide +kernel) (by decide +kernel)
theorem mw_915 : (Jvm.Cond.selects "CursorKeep" ({ cls := "CursorKeep", name := "spared", desc := "(I)I" } : Jvm.MethodName) ({ cls := "CursorKeep", name := "spared", desc := "(I)I" } : Jvm.MethodName)) ∈ MW := MW_t 915 (by decide +kernel) (by decide +kernel)
theorem mw_916 : (Jvm.Cond.code ({ cls := "CursorKeep", name := "spared", desc := "(I)I" } : Jvm.MethodName) prog_1_method_16_code (3 : Nat) (Option.some Jvm.ClassFile.FieldType.int)) ∈ MW := MW_t 916 (by decide +kernel) (by decide +kernel)
theorem mw_917 : (Jvm.Cond.methodLink "CursorKeepLaw" (140 : Nat) ({ cls := "CursorKeepLaw", name := "lock", desc := "(LCursorKeep;II[J)I" } : Jvm.MethodName)) ∈ MW := MW_t 917 (by decide +kernel) (by decide +kernel)
theorem mw_918 : (Jvm.Cond.static ({ cls := "CursorKeepLaw", name := "lock", desc := "(LCursorKeep;II[J)I" } : Jvm.MethodName)) ∈ MW := MW_t 918 (by decide +kernel) (by decide +kernel)
theorem mw_919 : (Jvm.Cond.codeWith ({ cls := "CursorKeepLaw", name := "lock", desc := "(LCursorKeep;II[J)I" } : Jvm.MethodName) method_18_code (5 : Nat) (Option.some Jvm.ClassFile.FieldType.int) [((0 : Nat), (17 : Nat), (20 : Nat), (13 : Nat)), ((0 : Nat), (17 : Nat), (24 : Nat), (17 : Nat))]) ∈ MW := MW_t 919 (by decide +kernel) (by decide +kernel)
theorem mw_920 : (Jvm.Cond.methodLink "CursorKeepLaw" (65 : Nat) ({ cls := "CursorKeep", name := "lock", desc := "(II)Z" } : Jvm.MethodName)) ∈ MW := MW_t 920 (by decide +kernel) (by decide +kernel)
theorem mw_921 : (Jvm.Cond.instanceMethod ({ cls := "CursorKeep", name := "lock", desc := "(II)Z" } : Jvm.MethodName)) ∈ MW := MW_t 921 (by decide +kernel) (by decide +kernel)
theorem mw_922 : (Jvm.Cond.selects "CursorKeep" ({ cls := "CursorKeep", name := "lock", desc := "(II)Z" } : Jvm.MethodName) ({ cls := "CursorKeep", name := "lock", desc := "(II)Z" } : Jvm.MethodName)) ∈ MW := MW_t 922 (by decide +kernel) (by decide +kernel)
theorem mw_923 : (Jvm.Cond.code ({ cls := "CursorKeep", name := "lock", desc := "(II)Z" } : Jvm.MethodName) prog_1_method_17_code (4 : Nat) (Option.some Jvm.ClassFile.FieldType.boolean)) ∈ MW := MW_t 923 (by decide +kernel) (by decide +kernel)
theorem mw_924 : (Jvm.Cond.methodLink "CursorKeep" (217 : Nat) ({ cls := "CursorKeep$Text", name := "isFreeFor", desc := "(I)Z" } : Jvm.MethodName)) ∈ MW := MW_t 924 (by decide +kernel) (by decide +kernel)
theorem mw_926 : (Jvm.Cond.methodLink "CursorKeepLaw" (143 : Nat) ({ cls := "CursorKeepLaw", name := "save", desc := "(LCursorKeep;III[J)I" } : Jvm.MethodName)) ∈ MW := MW_t 926 (by decide +kernel) (by decide +kernel)
theorem mw_927 : (Jvm.Cond.static ({ cls := "CursorKeepLaw", name := "save", desc := "(LCursorKeep;III[J)I" } : Jvm.MethodName)) ∈ MW := MW_t 927 (by decide +kernel) (by decide +kernel)
theorem mw_928 : (Jvm.Cond.codeWith ({ cls := "CursorKeepLaw", name := "save", desc := "(LCursorKeep;III[J)I" } : Jvm.MethodName) method_19_code (6 : Nat) (Option.some Jvm.ClassFile.FieldType.int) [((0 : Nat), (12 : Nat), (15 : Nat), (13 : Nat)), ((0 : Nat), (12 : Nat), (19 : Nat), (15 : Nat)), ((0 : Nat), (12 : Nat), (23 : Nat), (17 : Nat))]) ∈ MW := MW_t 928 (by decide +kernel) (by decide +kernel)
theorem mw_929 : (Jvm.Cond.methodLink "CursorKeepLaw" (69 : Nat) ({ cls := "CursorKeep", name := "save", desc := "(III)I" } : Jvm.MethodName)) ∈ MW := MW_t 929 (by decide +kernel) (by decide +kernel)
theorem mw_930 : (Jvm.Cond.instanceMethod ({ cls := "CursorKeep", name := "save", desc := "(III)I" } : Jvm.MethodName)) ∈ MW := MW_t 930 (by decide +kernel) (by decide +kernel)
theorem mw_931 : (Jvm.Cond.selects "CursorKeep" ({ cls := "CursorKeep", name := "save", desc := "(III)I" } : Jvm.MethodName) ({ cls := "CursorKeep", name := "save", desc := "(III)I" } : Jvm.MethodName)) ∈ MW := MW_t 931 (by decide +kernel) (by decide +kernel)
theorem mw_932 : (Jvm.Cond.code ({ cls := "CursorKeep", name := "save", desc := "(III)I" } : Jvm.MethodName) prog_1_method_18_code (6 : Nat) (Option.some Jvm.ClassFile.FieldType.int)) ∈ MW := MW_t 932 (by decide +kernel) (by decide +kernel)
theorem mw_935 : (Jvm.Cond.instantiable "CursorKeep$Save" (4 : Nat)) ∈ MW := MW_t 935 (by decide +kernel) (by decide +kernel)
theorem mw_936 : (Jvm.Cond.methodLink "CursorKeep" (236 : Nat) ({ cls := "CursorKeep$Save", name := "<init>", desc := "(IILCursorKeep$Text;LCursorKeep$Format;)V" } : Jvm.MethodName)) ∈ MW := MW_t 936 (by decide +kernel) (by decide +kernel)
theorem mw_937 : (Jvm.Cond.instanceMethod ({ cls := "CursorKeep$Save", name := "<init>", desc := "(IILCursorKeep$Text;LCursorKeep$Format;)V" } : Jvm.MethodName)) ∈ MW := MW_t 937 (by decide +kernel) (by decide +kernel)
theorem mw_938 : (Jvm.Cond.code ({ cls := "CursorKeep$Save", name := "<init>", desc := "(IILCursorKeep$Text;LCursorKeep$Format;)V" } : Jvm.MethodName) prog_10_method_1_code (5 : Nat) (Option.none : Option Jvm.ClassFile.FieldType)) ∈ MW := MW_t 938 (by decide +kernel) (by decide +kernel)
theorem mw_939 : (Jvm.Cond.methodLink "CursorKeep$Save" (3 : Nat) ({ cls := "java/lang/Object", name := "<init>", desc := "()V" } : Jvm.MethodName)) ∈ MW := MW_t 939 (by decide +kernel) (by decide +kernel)
theorem mw_940 : (Jvm.Cond.fieldLink "CursorKeep$Save" (9 : Nat) "CursorKeep$Save" "number" "I") ∈ MW := MW_t 940 (by decide +kernel) (by decide +kernel)
theorem mw_941 : (Jvm.Cond.fieldLink "CursorKeep" (257 : Nat) "CursorKeep$Save" "number" "I") ∈ MW := MW_t 941 (by decide +kernel) (by decide +kernel)
theorem mw_942 : (Jvm.Cond.fieldLink "CursorKeep$Save" (18 : Nat) "CursorKeep$Save" "text" "LCursorKeep$Text;") ∈ MW := MW_t 942 (by decide +kernel) (by decide +kernel)
theorem mw_943 : (Jvm.Cond.fieldLink "CursorKeep" (253 : Nat) "CursorKeep$Save" "text" "LCursorKeep$Text;") ∈ MW := MW_t 943 (by decide +kernel) (by decide +kernel)
theorem mw_944 : (Jvm.Cond.fieldLink "CursorKeep$Save" (15 : Nat) "CursorKeep$Save" "hand" "I") ∈ MW := MW_t 944 (by decide +kernel) (by decide +kernel)
theorem mw_945 : (Jvm.Cond.fieldLink "CursorKeep$Save" (22 : Nat) "CursorKeep$Save" "awaited" "LCursorKeep$Format;") ∈ MW := MW_t 945 (by decide +kernel) (by decide +kernel)
theorem mw_946 : (Jvm.Cond.laysFinal "CursorKeep$Save" "CursorKeep$Save" "number" "I") ∈ MW := MW_t 946 (by decide +kernel) (by decide +kernel)
theorem mw_947 : (Jvm.Cond.soleField "CursorKeep$Save" "number") ∈ MW := MW_t 947 (by decide +kernel) (by decide +kernel)
theorem mw_948 : (Jvm.Cond.laysFinal "CursorKeep$Save" "CursorKeep$Save" "text" "LCursorKeep$Text;") ∈ MW := MW_t 948 (by decide +kernel) (by decide +kernel)
theorem mw_949 : (Jvm.Cond.soleField "CursorKeep$Save" "text") ∈ MW := MW_t 949 (by decide +kernel) (by decide +kernel)
theorem mw_950 : (Jvm.Cond.laysFinal "CursorKeep$Save" "CursorKeep$Save" "hand" "I") ∈ MW := MW_t 950 (by decide +kernel) (by decide +kernel)
theorem mw_951 : (Jvm.Cond.soleField "CursorKeep$Save" "hand") ∈ MW := MW_t 951 (by decide +kernel) (by decide +kernel)
theorem mw_952 : (Jvm.Cond.laysFinal "CursorKeep$Save" "CursorKeep$Save" "awaited" "LCursorKeep$Format;") ∈ MW := MW_t 952 (by decide +kernel) (by decide +kernel)
theorem mw_953 : (Jvm.Cond.soleField "CursorKeep$Save" "awaited") ∈ MW := MW_t 953 (by decide +kernel) (by decide +kernel)
theorem mw_954 : (Jvm.Cond.superclass "CursorKeep$Save" "java/lang/Object") ∈ MW := MW_t 954 (by decide +kernel) (by decide +kernel)
theorem mw_955 : (Jvm.Cond.methodLink "CursorKeepLaw" (154 : Nat) ({ cls := "CursorKeepLaw", name := "savedVersion", desc := "(LCursorKeep;I[J)I" } : Jvm.MethodName)) ∈ MW := MW_t 955 (by decide +kernel) (by decide +kernel)
theorem mw_956 : (Jvm.Cond.static ({ cls := "CursorKeepLaw", name := "savedVersion", desc := "(LCursorKeep;I[J)I" } : Jvm.MethodName)) ∈ MW := MW_t 956 (by decide +kernel) (by decide +kernel)
theorem mw_957 : (Jvm.Cond.codeWith ({ cls := "CursorKeepLaw", name := "savedVersion", desc := "(LCursorKeep;I[J)I" } : Jvm.MethodName) method_20_code (4 : Nat) (Option.some Jvm.ClassFile.FieldType.int) [((0 : Nat), (9 : Nat), (12 : Nat), (13 : Nat))]) ∈ MW := MW_t 957 (by decide +kernel) (by decide +kernel)
theorem mw_958 : (Jvm.Cond.methodLink "CursorKeepLaw" (72 : Nat) ({ cls := "CursorKeep", name := "savedVersion", desc := "(I)I" } : Jvm.MethodName)) ∈ MW := MW_t 958 (by decide +kernel) (by decide +kernel)
theorem mw_959 : (Jvm.Cond.instanceMethod ({ cls := "CursorKeep", name := "savedVersion", desc := "(I)I" } : Jvm.MethodName)) ∈ MW := MW_t 959 (by decide +kernel) (by decide +kernel)
theorem mw_960 : (Jvm.Cond.selects "CursorKeep" ({ cls := "CursorKeep", name := "savedVersion", desc := "(I)I" } : Jvm.MethodName) ({ cls := "CursorKeep", name := "savedVersion", desc := "(I)I" } : Jvm.MethodName)) ∈ MW := MW_t 960 (by decide +kernel) (by decide +kernel)
theorem mw_961 : (Jvm.Cond.code ({ cls := "CursorKeep", name := "savedVersion", desc := "(I)I" } : Jvm.MethodName) prog_1_method_21_code (2 : Nat) (Option.some Jvm.ClassFile.FieldType.int)) ∈ MW := MW_t 961 (by decide +kernel) (by decide +kernel)
theorem mw_962 : (Jvm.Cond.methodLink "CursorKeepLaw" (157 : Nat) ({ cls := "CursorKeepLaw", name := "savedLength", desc := "(LCursorKeep;I[J)I" } : Jvm.MethodName)) ∈ MW := MW_t 962 (by decide +kernel) (by decide +kernel)
theorem mw_963 : (Jvm.Cond.static ({ cls := "CursorKeepLaw", name := "savedLength", desc := "(LCursorKeep;I[J)I" } : Jvm.MethodName)) ∈ MW := MW_t 963 (by decide +kernel) (by decide +kernel)
theorem mw_964 : (Jvm.Cond.codeWith ({ cls := "CursorKeepLaw", name := "savedLength", desc := "(LCursorKeep;I[J)I" } : Jvm.MethodName) method_21_code (4 : Nat) (Option.some Jvm.ClassFile.FieldType.int) [((0 : Nat), (9 : Nat), (12 : Nat), (13 : Nat))]) ∈ MW := MW_t 964 (by decide +kernel) (by decide +kernel)
theorem mw_965 : (Jvm.Cond.methodLink "CursorKeepLaw" (75 : Nat) ({ cls := "CursorKeep", name := "savedLength", desc := "(I)I" } : Jvm.MethodName)) ∈ MW := MW_t 965 (by decide +kernel) (by decide +kernel)
theorem mw_966 : (Jvm.Cond.instanceMethod ({ cls := "CursorKeep", name := "savedLength", desc := "(I)I" } : Jvm.MethodName)) ∈ MW := MW_t 966 (by decide +kernel) (by decide +kernel)
theorem mw_967 : (Jvm.Cond.selects "CursorKeep" ({ cls := "CursorKeep", name := "savedLength", desc := "(I)I" } : Jvm.MethodName) ({ cls := "CursorKeep", name := "savedLength", desc := "(I)I" } : Jvm.MethodName)) ∈ MW := MW_t 967 (by decide +kernel) (by decide +kernel)
theorem mw_968 : (Jvm.Cond.code ({ cls := "CursorKeep", name := "savedLength", desc := "(I)I" } : Jvm.MethodName) prog_1_method_22_code (2 : Nat) (Option.some Jvm.ClassFile.FieldType.int)) ∈ MW := MW_t 968 (by decide +kernel) (by decide +kernel)
theorem mw_969 : (Jvm.Cond.methodLink "CursorKeepLaw" (160 : Nat) ({ cls := "CursorKeepLaw", name := "savedLetter", desc := "(LCursorKeep;II[J)I" } : Jvm.MethodName)) ∈ MW := MW_t 969 (by decide +kernel) (by decide +kernel)
theorem mw_970 : (Jvm.Cond.static ({ cls := "CursorKeepLaw", name := "savedLetter", desc := "(LCursorKeep;II[J)I" } : Jvm.MethodName)) ∈ MW := MW_t 970 (by decide +kernel) (by decide +kernel)
theorem mw_971 : (Jvm.Cond.codeWith ({ cls := "CursorKeepLaw", name := "savedLetter", desc := "(LCursorKeep;II[J)I" } : Jvm.MethodName) method_22_code (5 : Nat) (Option.some Jvm.ClassFile.FieldType.int) [((0 : Nat), (10 : Nat), (13 : Nat), (13 : Nat))]) ∈ MW := MW_t 971 (by decide +kernel) (by decide +kernel)
theorem mw_972 : (Jvm.Cond.methodLink "CursorKeepLaw" (78 : Nat) ({ cls := "CursorKeep", name := "savedLetter", desc := "(II)C" } : Jvm.MethodName)) ∈ MW := MW_t 972 (by decide +kernel) (by decide +kernel)
theorem mw_973 : (Jvm.Cond.instanceMethod ({ cls := "CursorKeep", name := "savedLetter", desc := "(II)C" } : Jvm.MethodName)) ∈ MW := MW_t 973 (by decide +kernel) (by decide +kernel)
theorem mw_974 : (Jvm.Cond.selects "CursorKeep" ({ cls := "CursorKeep", name := "savedLetter", desc := "(II)C" } : Jvm.MethodName) ({ cls := "CursorKeep", name := "savedLetter", desc := "(II)C" } : Jvm.MethodName)) ∈ MW := MW_t 974 (by decide +kernel) (by decide +kernel)
theorem mw_975 : (Jvm.Cond.code ({ cls := "CursorKeep", name := "savedLetter", desc := "(II)C" } : Jvm.MethodName) prog_1_method_23_code (4 : Nat) (Option.some Jvm.ClassFile.FieldType.char)) ∈ MW := MW_t 975 (by decide +kernel) (by decide +kernel)
theorem mw_976 : (Jvm.Cond.classLink "CursorKeepLaw" (82 : Nat) "CursorKeepModel") ∈ MW := MW_t 976 (by decide +kernel) (by decide +kernel)
theorem mw_977 : (Jvm.Cond.instantiable "CursorKeepModel" (32 : Nat)) ∈ MW := MW_t 977 (by decide +kernel) (by decide +kernel)
theorem mw_978 : (Jvm.Cond.methodLink "CursorKeepLaw" (84 : Nat) ({ cls := "CursorKeepModel", name := "<init>", desc := "()V" } : Jvm.MethodName)) ∈ MW := MW_t 978 (by decide +kernel) (by decide +kernel)
theorem mw_979 : (Jvm.Cond.instanceMethod ({ cls := "CursorKeepModel", name := "<init>", desc := "()V" } : Jvm.MethodName)) ∈ MW := MW_t 979 (by decide +kernel) (by decide +kernel)
theorem mw_980 : (Jvm.Cond.code ({ cls := "CursorKeepModel", name := "<init>", desc := "()V" } : Jvm.MethodName) prog_13_method_1_code (2 : Nat) (Option.none : Option Jvm.ClassFile.FieldType)) ∈ MW := MW_t 980 (by decide +kernel) (by decide +kernel)
theorem mw_981 : (Jvm.Cond.methodLink "CursorKeepModel" (1 : Nat) ({ cls := "java/lang/Object", name := "<init>", desc := "()V" } : Jvm.MethodName)) ∈ MW := MW_t 981 (by decide +kernel) (by decide +kernel)
theorem mw_982 : (Jvm.Cond.fieldLink "CursorKeepModel" (7 : Nat) "CursorKeepModel" "order" "[I") ∈ MW := MW_t 982 (by decide +kernel) (by decide +kernel)
theorem mw_983 : (Jvm.Cond.fieldLink "CursorKeepModel" (13 : Nat) "CursorKeepModel" "sign" "[I") ∈ MW := MW_t 983 (by decide +kernel) (by decide +kernel)
theorem mw_984 : (Jvm.Cond.fieldLink "CursorKeepModel" (16 : Nat) "CursorKeepModel" "isThere" "[Z") ∈ MW := MW_t 984 (by decide +kernel) (by decide +kernel)
theorem mw_985 : (Jvm.Cond.fieldLink "CursorKeepModel" (20 : Nat) "CursorKeepModel" "typed" "[I") ∈ MW := MW_t 985 (by decide +kernel) (by decide +kernel)
theorem mw_986 : (Jvm.Cond.fieldLink "CursorKeepModel" (23 : Nat) "CursorKeepModel" "version" "[I") ∈ MW := MW_t 986 (by decide +kernel) (by decide +kernel)
theorem mw_987 : (Jvm.Cond.fieldLink "CursorKeepModel" (26 : Nat) "CursorKeepModel" "cursor" "[I") ∈ MW := MW_t 987 (by decide +kernel) (by decide +kernel)
theorem mw_988 : (Jvm.Cond.fieldLink "CursorKeepModel" (29 : Nat) "CursorKeepModel" "act" "[I") ∈ MW := MW_t 988 (by decide +kernel) (by decide +kernel)
theorem mw_989 : (Jvm.Cond.fieldLink "CursorKeepModel" (32 : Nat) "CursorKeepModel" "acts" "[I") ∈ MW := MW_t 989 (by decide +kernel) (by decide +kernel)
theorem mw_990 : (Jvm.Cond.fieldLink "CursorKeepModel" (35 : Nat) "CursorKeepModel" "undone" "[I") ∈ MW := MW_t 990 (by decide +kernel) (by decide +kernel)
theorem mw_991 : (Jvm.Cond.fieldLink "CursorKeepModel" (38 : Nat) "CursorKeepModel" "formatText" "[I") ∈ MW := MW_t 991 (by decide +kernel) (by decide +kernel)
theorem mw_992 : (Jvm.Cond.fieldLink "CursorKeepModel" (41 : Nat) "CursorKeepModel" "formatState" "[I") ∈ MW := MW_t 992 (by decide +kernel) (by decide +kernel)
theorem mw_993 : (Jvm.Cond.fieldLink "CursorKeepModel" (44 : Nat) "CursorKeepModel" "changes" "[I") ∈ MW := MW_t 993 (by decide +kernel) (by decide +kernel)
theorem mw_994 : (Jvm.Cond.fieldLink "CursorKeepModel" (47 : Nat) "CursorKeepModel" "sparedThen" "[I") ∈ MW := MW_t 994 (by decide +kernel) (by decide +kernel)
theorem mw_995 : (Jvm.Cond.fieldLink "CursorKeepModel" (50 : Nat) "CursorKeepModel" "letter" "[I") ∈ MW := MW_t 995 (by decide +kernel) (by decide +kernel)
theorem mw_996 : (Jvm.Cond.fieldLink "CursorKeepModel" (53 : Nat) "CursorKeepModel" "was" "[I") ∈ MW := MW_t 996 (by decide +kernel) (by decide +kernel)
theorem mw_997 : (Jvm.Cond.fieldLink "CursorKeepModel" (56 : Nat) "CursorKeepModel" "becomes" "[I") ∈ MW := MW_t 997 (by decide +kernel) (by decide +kernel)
theorem mw_998 : (Jvm.Cond.fieldLink "CursorKeepModel" (59 : Nat) "CursorKeepModel" "ahead" "[I") ∈ MW := MW_t 998 (by decide +kernel) (by decide +kernel)
theorem mw_999 : (Jvm.Cond.fieldLink "CursorKeepModel" (62 : Nat) "CursorKeepModel" "behind" "[I") ∈ MW := MW_t 999 (by decide +kernel) (by decide +kernel)
theorem mw_1000 : (Jvm.Cond.fieldLink "CursorKeepModel" (145 : Nat) "CursorKeepModel" "formats" "I") ∈ MW := MW_t 1000 (by decide +kernel) (by decide +kernel)
theorem mw_1001 : (Jvm.Cond.fieldLink "CursorKeepModel" (65 : Nat) "CursorKeepModel" "saveHand" "[I") ∈ MW := MW_t 1001 (by decide +kernel) (by decide +kernel)
theorem mw_1002 : (Jvm.Cond.fieldLink "CursorKeepModel" (68 : Nat) "CursorKeepModel" "saveText" "[I") ∈ MW := MW_t 1002 (by decide +kernel) (by decide +kernel)
theorem mw_1003 : (Jvm.Cond.fieldLink "CursorKeepModel" (71 : Nat) "CursorKeepModel" "saveFormat" "[I") ∈ MW := MW_t 1003 (by decide +kernel) (by decide +kernel)
theorem mw_1004 : (Jvm.Cond.fieldLink "CursorKeepModel" (74 : Nat) "CursorKeepModel" "isWritten" "[Z") ∈ MW := MW_t 1004 (by decide +kernel) (by decide +kernel)
theorem mw_1005 : (Jvm.Cond.fieldLink "CursorKeepModel" (184 : Nat) "CursorKeepModel" "saves" "I") ∈ MW := MW_t 1005 (by decide +kernel) (by decide +kernel)
theorem mw_1006 : (Jvm.Cond.fieldLink "CursorKeepModel" (77 : Nat) "CursorKeepModel" "locker" "[I") ∈ MW := MW_t 1006 (by decide +kernel) (by decide +kernel)
theorem mw_1007 : (Jvm.Cond.fieldLink "CursorKeepModel" (80 : Nat) "CursorKeepModel" "savedVersion" "[I") ∈ MW := MW_t 1007 (by decide +kernel) (by decide +kernel)
theorem mw_1008 : (Jvm.Cond.fieldLink "CursorKeepModel" (83 : Nat) "CursorKeepModel" "savedLength" "[I") ∈ MW := MW_t 1008 (by decide +kernel) (by decide +kernel)
theorem mw_1009 : (Jvm.Cond.fieldLink "CursorKeepModel" (86 : Nat) "CursorKeepModel" "saved" "[I") ∈ MW := MW_t 1009 (by decide +kernel) (by decide +kernel)
theorem mw_1010 : (Jvm.Cond.fieldLink "CursorKeepModel" (89 : Nat) "CursorKeepModel" "shown" "[I") ∈ MW := MW_t 1010 (by decide +kernel) (by decide +kernel)
theorem mw_1011 : (Jvm.Cond.fieldLink "CursorKeepModel" (103 : Nat) "CursorKeepModel" "many" "I") ∈ MW := MW_t 1011 (by decide +kernel) (by decide +kernel)
theorem mw_1012 : (Jvm.Cond.fieldLink "CursorKeepModel" (92 : Nat) "CursorKeepModel" "isLeaving" "[Z") ∈ MW := MW_t 1012 (by decide +kernel) (by decide +kernel)
theorem mw_1013 : (Jvm.Cond.fieldLink "CursorKeepModel" (95 : Nat) "CursorKeepModel" "thrown" "I") ∈ MW := MW_t 1013 (by decide +kernel) (by decide +kernel)
theorem mw_1014 : (Jvm.Cond.laysFinal "CursorKeepModel" "CursorKeepModel" "order" "[I") ∈ MW := MW_t 1014 (by decide +kernel) (by decide +kernel)
theorem mw_1015 : (Jvm.Cond.soleField "CursorKeepModel" "order") ∈ MW := MW_t 1015 (by decide +kernel) (by decide +kernel)
theorem mw_1016 : (Jvm.Cond.laysFinal "CursorKeepModel" "CursorKeepModel" "sign" "[I") ∈ MW := MW_t 1016 (by decide +kernel) (by decide +kernel)
theorem mw_1017 : (Jvm.Cond.soleField "CursorKeepModel" "sign") ∈ MW := MW_t 1017 (by decide +kernel) (by decide +kernel)
theorem mw_1018 : (Jvm.Cond.laysFinal "CursorKeepModel" "CursorKeepModel" "isThere" "[Z") ∈ MW := MW_t 1018 (by decide +kernel) (by decide +kernel)
theorem mw_1019 : (Jvm.Cond.soleField "CursorKeepModel" "isThere") ∈ MW := MW_t 1019 (by decide +kernel) (by decide +kernel)
theorem mw_1020 : (Jvm.Cond.laysFinal "CursorKeepModel" "CursorKeepModel" "typed" "[I") ∈ MW := MW_t 1020 (by decide +kernel) (by decide +kernel)
theorem mw_1021 : (Jvm.Cond.soleField "CursorKeepModel" "typed") ∈ MW := MW_t 1021 (by decide +kernel) (by decide +kernel)
theorem mw_1022 : (Jvm.Cond.laysFinal "CursorKeepModel" "CursorKeepModel" "version" "[I") ∈ MW := MW_t 1022 (by decide +kernel) (by decide +kernel)
theorem mw_1023 : (Jvm.Cond.soleField "CursorKeepModel" "version") ∈ MW := MW_t 1023 (by decide +kernel) (by decide +kernel)
theorem mw_1024 : (Jvm.Cond.laysFinal "CursorKeepModel" "CursorKeepModel" "cursor" "[I") ∈ MW := MW_t 1024 (by decide +kernel) (by decide +kernel)
theorem mw_1025 : (Jvm.Cond.soleField "CursorKeepModel" "cursor") ∈ MW := MW_t 1025 (by decide +kernel) (by decide +kernel)
theorem mw_1026 : (Jvm.Cond.laysFinal "CursorKeepModel" "CursorKeepModel" "act" "[I") ∈ MW := MW_t 1026 (by decide +kernel) (by decide +kernel)
theorem mw_1027 : (Jvm.Cond.soleField "CursorKeepModel" "act") ∈ MW := MW_t 1027 (by decide +kernel) (by decide +kernel)
theorem mw_1028 : (Jvm.Cond.laysFinal "CursorKeepModel" "CursorKeepModel" "acts" "[I") ∈ MW := MW_t 1028 (by decide +kernel) (by decide +kernel)
theorem mw_1029 : (Jvm.Cond.soleField "CursorKeepModel" "acts") ∈ MW := MW_t 1029 (by decide +kernel) (by decide +kernel)
theorem mw_1030 : (Jvm.Cond.laysFinal "CursorKeepModel" "CursorKeepModel" "undone" "[I") ∈ MW := MW_t 1030 (by decide +kernel) (by decide +kernel)
theorem mw_1031 : (Jvm.Cond.soleField "CursorKeepModel" "undone") ∈ MW := MW_t 1031 (by decide +kernel) (by decide +kernel)
theorem mw_1032 : (Jvm.Cond.laysFinal "CursorKeepModel" "CursorKeepModel" "formatText" "[I") ∈ MW := MW_t 1032 (by decide +kernel) (by decide +kernel)
theorem mw_1033 : (Jvm.Cond.soleField "CursorKeepModel" "formatText") ∈ MW := MW_t 1033 (by decide +kernel) (by decide +kernel)
theorem mw_1034 : (Jvm.Cond.laysFinal "CursorKeepModel" "CursorKeepModel" "formatState" "[I") ∈ MW := MW_t 1034 (by decide +kernel) (by decide +kernel)
theorem mw_1035 : (Jvm.Cond.soleField "CursorKeepModel" "formatState") ∈ MW := MW_t 1035 (by decide +kernel) (by decide +kernel)
theorem mw_1036 : (Jvm.Cond.laysFinal "CursorKeepModel" "CursorKeepModel" "changes" "[I") ∈ MW := MW_t 1036 (by decide +kernel) (by decide +kernel)
theorem mw_1037 : (Jvm.Cond.soleField "CursorKeepModel" "changes") ∈ MW := MW_t 1037 (by decide +kernel) (by decide +kernel)
theorem mw_1038 : (Jvm.Cond.laysFinal "CursorKeepModel" "CursorKeepModel" "sparedThen" "[I") ∈ MW := MW_t 1038 (by decide +kernel) (by decide +kernel)
theorem mw_1039 : (Jvm.Cond.soleField "CursorKeepModel" "sparedThen") ∈ MW := MW_t 1039 (by decide +kernel) (by decide +kernel)
theorem mw_1040 : (Jvm.Cond.laysFinal "CursorKeepModel" "CursorKeepModel" "letter" "[I") ∈ MW := MW_t 1040 (by decide +kernel) (by decide +kernel)
theorem mw_1041 : (Jvm.Cond.soleField "CursorKeepModel" "letter") ∈ MW := MW_t 1041 (by decide +kernel) (by decide +kernel)
theorem mw_1042 : (Jvm.Cond.laysFinal "CursorKeepModel" "CursorKeepModel" "was" "[I") ∈ MW := MW_t 1042 (by decide +kernel) (by decide +kernel)
theorem mw_1043 : (Jvm.Cond.soleField "CursorKeepModel" "was") ∈ MW := MW_t 1043 (by decide +kernel) (by decide +kernel)
theorem mw_1044 : (Jvm.Cond.laysFinal "CursorKeepModel" "CursorKeepModel" "becomes" "[I") ∈ MW := MW_t 1044 (by decide +kernel) (by decide +kernel)
theorem mw_1045 : (Jvm.Cond.soleField "CursorKeepModel" "becomes") ∈ MW := MW_t 1045 (by decide +kernel) (by decide +kernel)
theorem mw_1046 : (Jvm.Cond.laysFinal "CursorKeepModel" "CursorKeepModel" "ahead" "[I") ∈ MW := MW_t 1046 (by decide +kernel) (by decide +kernel)
theorem mw_1047 : (Jvm.Cond.soleField "CursorKeepModel" "ahead") ∈ MW := MW_t 1047 (by decide +kernel) (by decide +kernel)
theorem mw_1048 : (Jvm.Cond.laysFinal "CursorKeepModel" "CursorKeepModel" "behind" "[I") ∈ MW := MW_t 1048 (by decide +kernel) (by decide +kernel)
theorem mw_1049 : (Jvm.Cond.soleField "CursorKeepModel" "behind") ∈ MW := MW_t 1049 (by decide +kernel) (by decide +kernel)
theorem mw_1050 : (Jvm.Cond.lays "CursorKeepModel" "CursorKeepModel" "formats" "I") ∈ MW := MW_t 1050 (by decide +kernel) (by decide +kernel)
theorem mw_1051 : (Jvm.Cond.soleField "CursorKeepModel" "formats") ∈ MW := MW_t 1051 (by decide +kernel) (by decide +kernel)
theorem mw_1052 : (Jvm.Cond.laysFinal "CursorKeepModel" "CursorKeepModel" "saveHand" "[I") ∈ MW := MW_t 1052 (by decide +kernel) (by decide +kernel)
theorem mw_1053 : (Jvm.Cond.soleField "CursorKeepModel" "saveHand") ∈ MW := MW_t 1053 (by decide +kernel) (by decide +kernel)
theorem mw_1054 : (Jvm.Cond.laysFinal "CursorKeepModel" "CursorKeepModel" "saveText" "[I") ∈ MW := MW_t 1054 (by decide +kernel) (by decide +kernel)
theorem mw_1055 : (Jvm.Cond.soleField "CursorKeepModel" "saveText") ∈ MW := MW_t 1055 (by decide +kernel) (by decide +kernel)
theorem mw_1056 : (Jvm.Cond.laysFinal "CursorKeepModel" "CursorKeepModel" "saveFormat" "[I") ∈ MW := MW_t 1056 (by decide +kernel) (by decide +kernel)
theorem mw_1057 : (Jvm.Cond.soleField "CursorKeepModel" "saveFormat") ∈ MW := MW_t 1057 (by decide +kernel) (by decide +kernel)
theorem mw_1058 : (Jvm.Cond.laysFinal "CursorKeepModel" "CursorKeepModel" "isWritten" "[Z") ∈ MW := MW_t 1058 (by decide +kernel) (by decide +kernel)
theorem mw_1059 : (Jvm.Cond.soleField "CursorKeepModel" "isWritten") ∈ MW := MW_t 1059 (by decide +kernel) (by decide +kernel)
theorem mw_1060 : (Jvm.Cond.lays "CursorKeepModel" "CursorKeepModel" "saves" "I") ∈ MW := MW_t 1060 (by decide +kernel) (by decide +kernel)
theorem mw_1061 : (Jvm.Cond.soleField "CursorKeepModel" "saves") ∈ MW := MW_t 1061 (by decide +kernel) (by decide +kernel)
theorem mw_1062 : (Jvm.Cond.laysFinal "CursorKeepModel" "CursorKeepModel" "locker" "[I") ∈ MW := MW_t 1062 (by decide +kernel) (by decide +kernel)
theorem mw_1063 : (Jvm.Cond.soleField "CursorKeepModel" "locker") ∈ MW := MW_t 1063 (by decide +kernel) (by decide +kernel)
theorem mw_1064 : (Jvm.Cond.laysFinal "CursorKeepModel" "CursorKeepModel" "savedVersion" "[I") ∈ MW := MW_t 1064 (by decide +kernel) (by decide +kernel)
theorem mw_1065 : (Jvm.Cond.soleField "CursorKeepModel" "savedVersion") ∈ MW := MW_t 1065 (by decide +kernel) (by decide +kernel)
theorem mw_1066 : (Jvm.Cond.laysFinal "CursorKeepModel" "CursorKeepModel" "savedLength" "[I") ∈ MW := MW_t 1066 (by decide +kernel) (by decide +kernel)
theorem mw_1067 : (Jvm.Cond.soleField "CursorKeepModel" "savedLength") ∈ MW := MW_t 1067 (by decide +kernel) (by decide +kernel)
theorem mw_1068 : (Jvm.Cond.laysFinal "CursorKeepModel" "CursorKeepModel" "saved" "[I") ∈ MW := MW_t 1068 (by decide +kernel) (by decide +kernel)
theorem mw_1069 : (Jvm.Cond.soleField "CursorKeepModel" "saved") ∈ MW := MW_t 1069 (by decide +kernel) (by decide +kernel)
theorem mw_1070 : (Jvm.Cond.laysFinal "CursorKeepModel" "CursorKeepModel" "shown" "[I") ∈ MW := MW_t 1070 (by decide +kernel) (by decide +kernel)
theorem mw_1071 : (Jvm.Cond.soleField "CursorKeepModel" "shown") ∈ MW := MW_t 1071 (by decide +kernel) (by decide +kernel)
theorem mw_1072 : (Jvm.Cond.lays "CursorKeepModel" "CursorKeepModel" "many" "I") ∈ MW := MW_t 1072 (by decide +kernel) (by decide +kernel)
theorem mw_1073 : (Jvm.Cond.soleField "CursorKeepModel" "many") ∈ MW := MW_t 1073 (by decide +kernel) (by decide +kernel)
theorem mw_1074 : (Jvm.Cond.laysFinal "CursorKeepModel" "CursorKeepModel" "isLeaving" "[Z") ∈ MW := MW_t 1074 (by decide +kernel) (by decide +kernel)
theorem mw_1075 : (Jvm.Cond.soleField "CursorKeepModel" "isLeaving") ∈ MW := MW_t 1075 (by decide +kernel) (by decide +kernel)
theorem mw_1076 : (Jvm.Cond.lays "CursorKeepModel" "CursorKeepModel" "thrown" "I") ∈ MW := MW_t 1076 (by decide +kernel) (by decide +kernel)
theorem mw_1077 : (Jvm.Cond.soleField "CursorKeepModel" "thrown") ∈ MW := MW_t 1077 (by decide +kernel) (by decide +kernel)
theorem mw_1078 : (Jvm.Cond.superclass "CursorKeepModel" "java/lang/Object") ∈ MW := MW_t 1078 (by decide +kernel) (by decide +kernel)
theorem mw_1079 : (Jvm.Cond.methodLink "CursorKeepLaw" (91 : Nat) ({ cls := "CursorKeepModel", name := "thrown", desc := "()I" } : Jvm.MethodName)) ∈ MW := MW_t 1079 (by decide +kernel) (by decide +kernel)
theorem mw_1080 : (Jvm.Cond.instanceMethod ({ cls := "CursorKeepModel", name := "thrown", desc := "()I" } : Jvm.MethodName)) ∈ MW := MW_t 1080 (by decide +kernel) (by decide +kernel)
theorem mw_1081 : (Jvm.Cond.selects "CursorKeepModel" ({ cls := "CursorKeepModel", name := "thrown", desc := "()I" } : Jvm.MethodName) ({ cls := "CursorKeepModel", name := "thrown", desc := "()I" } : Jvm.MethodName)) ∈ MW := MW_t 1081 (by decide +kernel) (by decide +kernel)
theorem mw_1082 : (Jvm.Cond.code ({ cls := "CursorKeepModel", name := "thrown", desc := "()I" } : Jvm.MethodName) prog_13_method_2_code (1 : Nat) (Option.some Jvm.ClassFile.FieldType.int)) ∈ MW := MW_t 1082 (by decide +kernel) (by decide +kernel)
theorem mw_1083 : (Jvm.Cond.methodLink "CursorKeepLaw" (90 : Nat) ({ cls := "CursorKeepModel", name := "type", desc := "(IIC)I" } : Jvm.MethodName)) ∈ MW := MW_t 1083 (by decide +kernel) (by decide +kernel)
theorem mw_1084 : (Jvm.Cond.instanceMethod ({ cls := "CursorKeepModel", name := "type", desc := "(IIC)I" } : Jvm.MethodName)) ∈ MW := MW_t 1084 (by decide +kernel) (by decide +kernel)
theorem mw_1085 : (Jvm.Cond.selects "CursorKeepModel" ({ cls := "CursorKeepModel", name := "type", desc := "(IIC)I" } : Jvm.MethodName) ({ cls := "CursorKeepModel", name := "type", desc := "(IIC)I" } : Jvm.MethodName)) ∈ MW := MW_t 1085 (by decide +kernel) (by decide +kernel)
theorem mw_1086 : (Jvm.Cond.code ({ cls := "CursorKeepModel", name := "type", desc := "(IIC)I" } : Jvm.MethodName) prog_13_method_12_code (7 : Nat) (Option.some Jvm.ClassFile.FieldType.int)) ∈ MW := MW_t 1086 (by decide +kernel) (by decide +kernel)
theorem mw_1087 : (Jvm.Cond.methodLink "CursorKeepModel" (110 : Nat) ({ cls := "CursorKeepModel", name := "isHand", desc := "(II)Z" } : Jvm.MethodName)) ∈ MW := MW_t 1087 (by decide +kernel) (by decide +kernel)
theorem mw_1088 : (Jvm.Cond.static ({ cls := "CursorKeepModel", name := "isHand", desc := "(II)Z" } : Jvm.MethodName)) ∈ MW := MW_t 1088 (by decide +kernel) (by decide +kernel)
theorem mw_1089 : (Jvm.Cond.code ({ cls := "CursorKeepModel", name := "isHand", desc := "(II)Z" } : Jvm.MethodName) prog_13_method_5_code (2 : Nat) (Option.some Jvm.ClassFile.FieldType.boolean)) ∈ MW := MW_t 1089 (by decide +kernel) (by decide +kernel)
theorem mw_1090 : (Jvm.Cond.methodLink "CursorKeepModel" (99 : Nat) ({ cls := "CursorKeepModel", name := "isBelow", desc := "(II)Z" } : Jvm.MethodName)) ∈ MW := MW_t 1090 (by decide +kernel) (by decide +kernel)
theorem mw_1091 : (Jvm.Cond.static ({ cls := "CursorKeepModel", name := "isBelow", desc := "(II)Z" } : Jvm.MethodName)) ∈ MW := MW_t 1091 (by decide +kernel) (by decide +kernel)
theorem mw_1092 : (Jvm.Cond.code ({ cls := "CursorKeepModel", name := "isBelow", desc := "(II)Z" } : Jvm.MethodName) prog_13_method_4_code (2 : Nat) (Option.some Jvm.ClassFile.FieldType.boolean)) ∈ MW := MW_t 1092 (by decide +kernel) (by decide +kernel)
theorem mw_1093 : (Jvm.Cond.methodLink "CursorKeepModel" (113 : Nat) ({ cls := "CursorKeepModel", name := "isLetter", desc := "(I)Z" } : Jvm.MethodName)) ∈ MW := MW_t 1093 (by decide +kernel) (by decide +kernel)
theorem mw_1094 : (Jvm.Cond.static ({ cls := "CursorKeepModel", name := "isLetter", desc := "(I)Z" } : Jvm.MethodName)) ∈ MW := MW_t 1094 (by decide +kernel) (by decide +kernel)
theorem mw_1095 : (Jvm.Cond.code ({ cls := "CursorKeepModel", name := "isLetter", desc := "(I)Z" } : Jvm.MethodName) prog_13_method_11_code (1 : Nat) (Option.some Jvm.ClassFile.FieldType.boolean)) ∈ MW := MW_t 1095 (by decide +kernel) (by decide +kernel)
theorem mw_1096 : (Jvm.Cond.methodLink "CursorKeepModel" (117 : Nat) ({ cls := "CursorKeepModel", name := "goes", desc := "(ZZZ)Z" } : Jvm.MethodName)) ∈ MW := MW_t 1096 (by decide +kernel) (by decide +kernel)
theorem mw_1098 : (Jvm.Cond.instanceMethod ({ cls := "CursorKeepModel", name := "goes", desc := "(ZZZ)Z" } : Jvm.MethodName)) ∈ MW := MW_t 1098 (by decide +kernel) (by decide +kernel)
theorem mw_1099 : (Jvm.Cond.code ({ cls := "CursorKeepModel", name := "goes", desc := "(ZZZ)Z" } : Jvm.MethodName) prog_13_method_3_code (4 : Nat) (Option.some Jvm.ClassFile.FieldType.boolean)) ∈ MW := MW_t 1099 (by decide +kernel) (by decide +kernel)
theorem mw_1100 : (Jvm.Cond.methodLink "CursorKeepModel" (106 : Nat) ({ cls := "CursorKeepModel", name := "at", desc := "(II)I" } : Jvm.MethodName)) ∈ MW := MW_t 1100 (by decide +kernel) (by decide +kernel)
theorem mw_1102 : (Jvm.Cond.instanceMethod ({ cls := "CursorKeepModel", name := "at", desc := "(II)I" } : Jvm.MethodName)) ∈ MW := MW_t 1102 (by decide +kernel) (by decide +kernel)
theorem mw_1103 : (Jvm.Cond.code ({ cls := "CursorKeepModel", name := "at", desc := "(II)I" } : Jvm.MethodName) prog_13_method_7_code (4 : Nat) (Option.some Jvm.ClassFile.FieldType.int)) ∈ MW := MW_t 1103 (by decide +kernel) (by decide +kernel)
theorem mw_1104 : (Jvm.Cond.methodLink "CursorKeepModel" (121 : Nat) ({ cls := "CursorKeepModel", name := "keeps", desc := "(II)V" } : Jvm.MethodName)) ∈ MW := MW_t 1104 (by decide +kernel) (by decide +kernel)
theorem mw_1106 : (Jvm.Cond.instanceMethod ({ cls := "CursorKeepModel", name := "keeps", desc := "(II)V" } : Jvm.MethodName)) ∈ MW := MW_t 1106 (by decide +kernel) (by decide +kernel)
theorem mw_1107 : (Jvm.Cond.code ({ cls := "CursorKeepModel", name := "keeps", desc := "(II)V" } : Jvm.MethodName) prog_13_method_10_code (3 : Nat) (Option.none : Option Jvm.ClassFile.FieldType)) ∈ MW := MW_t 1107 (by decide +kernel) (by decide +kernel)
theorem mw_1108 : (Jvm.Cond.methodLink "CursorKeepModel" (125 : Nat) ({ cls := "CursorKeepModel", name := "placeOf", desc := "(II)I" } : Jvm.MethodName)) ∈ MW := MW_t 1108 (by decide +kernel) (by decide +kernel)
theorem mw_1110 : (Jvm.Cond.instanceMethod ({ cls := "CursorKeepModel", name := "placeOf", desc := "(II)I" } : Jvm.MethodName)) ∈ MW := MW_t 1110 (by decide +kernel) (by decide +kernel)
theorem mw_1111 : (Jvm.Cond.code ({ cls := "CursorKeepModel", name := "placeOf", desc := "(II)I" } : Jvm.MethodName) prog_13_method_8_code (6 : Nat) (Option.some Jvm.ClassFile.FieldType.int)) ∈ MW := MW_t 1111 (by decide +kernel) (by decide +kernel)
theorem mw_1112 : (Jvm.Cond.methodLink "CursorKeepLaw" (98 : Nat) ({ cls := "CursorKeepModel", name := "erase", desc := "(II)I" } : Jvm.MethodName)) ∈ MW := MW_t 1112 (by decide +kernel) (by decide +kernel)
theorem mw_1113 : (Jvm.Cond.instanceMethod ({ cls := "CursorKeepModel", name := "erase", desc := "(II)I" } : Jvm.MethodName)) ∈ MW := MW_t 1113 (by decide +kernel) (by decide +kernel)
theorem mw_1114 : (Jvm.Cond.selects "CursorKeepModel" ({ cls := "CursorKeepModel", name := "erase", desc := "(II)I" } : Jvm.MethodName) ({ cls := "CursorKeepModel", name := "erase", desc := "(II)I" } : Jvm.MethodName)) ∈ MW := MW_t 1114 (by decide +kernel) (by decide +kernel)
theorem mw_1115 : (Jvm.Cond.code ({ cls := "CursorKeepModel", name := "erase", desc := "(II)I" } : Jvm.MethodName) prog_13_method_13_code (6 : Nat) (Option.some Jvm.ClassFile.FieldType.int)) ∈ MW := MW_t 1115 (by decide +kernel) (by decide +kernel)
theorem mw_1116 : (Jvm.Cond.methodLink "CursorKeepModel" (128 : Nat) ({ cls := "CursorKeepModel", name := "shows", desc := "(I)V" } : Jvm.MethodName)) ∈ MW := MW_t 1116 (by decide +kernel) (by decide +kernel)
theorem mw_1118 : (Jvm.Cond.instanceMethod ({ cls := "CursorKeepModel", name := "shows", desc := "(I)V" } : Jvm.MethodName)) ∈ MW := MW_t 1118 (by decide +kernel) (by decide +kernel)
theorem mw_1119 : (Jvm.Cond.code ({ cls := "CursorKeepModel", name := "shows", desc := "(I)V" } : Jvm.MethodName) prog_13_method_6_code (4 : Nat) (Option.none : Option Jvm.ClassFile.FieldType)) ∈ MW := MW_t 1119 (by decide +kernel) (by decide +kernel)
theorem mw_1120 : (Jvm.Cond.methodLink "CursorKeepModel" (132 : Nat) ({ cls := "CursorKeepModel", name := "leaves", desc := "(II)V" } : Jvm.MethodName)) ∈ MW := MW_t 1120 (by decide +kernel) (by decide +kernel)
theorem mw_1122 : (Jvm.Cond.instanceMethod ({ cls := "CursorKeepModel", name := "leaves", desc := "(II)V" } : Jvm.MethodName)) ∈ MW := MW_t 1122 (by decide +kernel) (by decide +kernel)
theorem mw_1123 : (Jvm.Cond.code ({ cls := "CursorKeepModel", name := "leaves", desc := "(II)V" } : Jvm.MethodName) prog_13_method_9_code (6 : Nat) (Option.none : Option Jvm.ClassFile.FieldType)) ∈ MW := MW_t 1123 (by decide +kernel) (by decide +kernel)
theorem mw_1124 : (Jvm.Cond.methodLink "CursorKeepLaw" (102 : Nat) ({ cls := "CursorKeepModel", name := "moveTo", desc := "(III)I" } : Jvm.MethodName)) ∈ MW := MW_t 1124 (by decide +kernel) (by decide +kernel)
theorem mw_1125 : (Jvm.Cond.instanceMethod ({ cls := "CursorKeepModel", name := "moveTo", desc := "(III)I" } : Jvm.MethodName)) ∈ MW := MW_t 1125 (by decide +kernel) (by decide +kernel)
theorem mw_1126 : (Jvm.Cond.selects "CursorKeepModel" ({ cls := "CursorKeepModel", name := "moveTo", desc := "(III)I" } : Jvm.MethodName) ({ cls := "CursorKeepModel", name := "moveTo", desc := "(III)I" } : Jvm.MethodName)) ∈ MW := MW_t 1126 (by decide +kernel) (by decide +kernel)
theorem mw_1127 : (Jvm.Cond.code ({ cls := "CursorKeepModel", name := "moveTo", desc := "(III)I" } : Jvm.MethodName) prog_13_method_14_code (6 : Nat) (Option.some Jvm.ClassFile.FieldType.int)) ∈ MW := MW_t 1127 (by decide +kernel) (by decide +kernel)
theorem mw_1128 : (Jvm.Cond.methodLink "CursorKeepLaw" (106 : Nat) ({ cls := "CursorKeepModel", name := "undo", desc := "(I)I" } : Jvm.MethodName)) ∈ MW := MW_t 1128 (by decide +kernel) (by decide +kernel)
theorem mw_1129 : (Jvm.Cond.instanceMethod ({ cls := "CursorKeepModel", name := "undo", desc := "(I)I" } : Jvm.MethodName)) ∈ MW := MW_t 1129 (by decide +kernel) (by decide +kernel)
theorem mw_1130 : (Jvm.Cond.selects "CursorKeepModel" ({ cls := "CursorKeepModel", name := "undo", desc := "(I)I" } : Jvm.MethodName) ({ cls := "CursorKeepModel", name := "undo", desc := "(I)I" } : Jvm.MethodName)) ∈ MW := MW_t 1130 (by decide +kernel) (by decide +kernel)
theorem mw_1131 : (Jvm.Cond.code ({ cls := "CursorKeepModel", name := "undo", desc := "(I)I" } : Jvm.MethodName) prog_13_method_16_code (4 : Nat) (Option.some Jvm.ClassFile.FieldType.int)) ∈ MW := MW_t 1131 (by decide +kernel) (by decide +kernel)
theorem mw_1132 : (Jvm.Cond.methodLink "CursorKeepModel" (135 : Nat) ({ cls := "CursorKeepModel", name := "turns", desc := "(IZ)I" } : Jvm.MethodName)) ∈ MW := MW_t 1132 (by decide +kernel) (by decide +kernel)
theorem mw_1134 : (Jvm.Cond.instanceMethod ({ cls := "CursorKeepModel", name := "turns", desc := "(IZ)I" } : Jvm.MethodName)) ∈ MW := MW_t 1134 (by decide +kernel) (by decide +kernel)
theorem mw_1135 : (Jvm.Cond.code ({ cls := "CursorKeepModel", name := "turns", desc := "(IZ)I" } : Jvm.MethodName) prog_13_method_15_code (5 : Nat) (Option.some Jvm.ClassFile.FieldType.int)) ∈ MW := MW_t 1135 (by decide +kernel) (by decide +kernel)
theorem mw_1136 : (Jvm.Cond.methodLink "CursorKeepLaw" (109 : Nat) ({ cls := "CursorKeepModel", name := "redo", desc := "(I)I" } : Jvm.MethodName)) ∈ MW := MW_t 1136 (by decide +kernel) (by decide +kernel)
theorem mw_1137 : (Jvm.Cond.instanceMethod ({ cls := "CursorKeepModel", name := "redo", desc := "(I)I" } : Jvm.MethodName)) ∈ MW := MW_t 1137 (by decide +kernel) (by decide +kernel)
theorem mw_1138 : (Jvm.Cond.selects "CursorKeepModel" ({ cls := "CursorKeepModel", name := "redo", desc := "(I)I" } : Jvm.MethodName) ({ cls := "CursorKeepModel", name := "redo", desc := "(I)I" } : Jvm.MethodName)) ∈ MW := MW_t 1138 (by decide +kernel) (by decide +kernel)
theorem mw_1139 : (Jvm.Cond.code ({ cls := "CursorKeepModel", name := "redo", desc := "(I)I" } : Jvm.MethodName) prog_13_method_17_code (4 : Nat) (Option.some Jvm.ClassFile.FieldType.int)) ∈ MW := MW_t 1139 (by decide +kernel) (by decide +kernel)
theorem mw_1140 : (Jvm.Cond.methodLink "CursorKeepLaw" (112 : Nat) ({ cls := "CursorKeepModel", name := "place", desc := "(II)I" } : Jvm.MethodName)) ∈ MW := MW_t 1140 (by decide +kernel) (by decide +kernel)
theorem mw_1141 : (Jvm.Cond.instanceMethod ({ cls := "CursorKeepModel", name := "place", desc := "(II)I" } : Jvm.MethodName)) ∈ MW := MW_t 1141 (by decide +kernel) (by decide +kernel)
theorem mw_1142 : (Jvm.Cond.selects "CursorKeepModel" ({ cls := "CursorKeepModel", name := "place", desc := "(II)I" } : Jvm.MethodName) ({ cls := "CursorKeepModel", name := "place", desc := "(II)I" } : Jvm.MethodName)) ∈ MW := MW_t 1142 (by decide +kernel) (by decide +kernel)
theorem mw_1143 : (Jvm.Cond.code ({ cls := "CursorKeepModel", name := "place", desc := "(II)I" } : Jvm.MethodName) prog_13_method_19_code (3 : Nat) (Option.some Jvm.ClassFile.FieldType.int)) ∈ MW := MW_t 1143 (by decide +kernel) (by decide +kernel)
theorem mw_1144 : (Jvm.Cond.methodLink "CursorKeepLaw" (115 : Nat) ({ cls := "CursorKeepModel", name := "length", desc := "(I)I" } : Jvm.MethodName)) ∈ MW := MW_t 1144 (by decide +kernel) (by decide +kernel)
theorem mw_1145 : (Jvm.Cond.instanceMethod ({ cls := "CursorKeepModel", name := "length", desc := "(I)I" } : Jvm.MethodName)) ∈ MW := MW_t 1145 (by decide +kernel) (by decide +kernel)
theorem mw_1146 : (Jvm.Cond.selects "CursorKeepModel" ({ cls := "CursorKeepModel", name := "length", desc := "(I)I" } : Jvm.MethodName) ({ cls := "CursorKeepModel", name := "length", desc := "(I)I" } : Jvm.MethodName)) ∈ MW := MW_t 1146 (by decide +kernel) (by decide +kernel)
theorem mw_1147 : (Jvm.Cond.code ({ cls := "CursorKeepModel", name := "length", desc := "(I)I" } : Jvm.MethodName) prog_13_method_20_code (2 : Nat) (Option.some Jvm.ClassFile.FieldType.int)) ∈ MW := MW_t 1147 (by decide +kernel) (by decide +kernel)
theorem mw_1148 : (Jvm.Cond.methodLink "CursorKeepModel" (139 : Nat) ({ cls := "CursorKeepModel", name := "isText", desc := "(I)Z" } : Jvm.MethodName)) ∈ MW := MW_t 1148 (by decide +kernel) (by decide +kernel)
theorem mw_1149 : (Jvm.Cond.static ({ cls := "CursorKeepModel", name := "isText", desc := "(I)Z" } : Jvm.MethodName)) ∈ MW := MW_t 1149 (by decide +kernel) (by decide +kernel)
theorem mw_1150 : (Jvm.Cond.code ({ cls := "CursorKeepModel", name := "isText", desc := "(I)Z" } : Jvm.MethodName) prog_13_method_18_code (1 : Nat) (Option.some Jvm.ClassFile.FieldType.boolean)) ∈ MW := MW_t 1150 (by decide +kernel) (by decide +kernel)
theorem mw_1151 : (Jvm.Cond.methodLink "CursorKeepLaw" (118 : Nat) ({ cls := "CursorKeepModel", name := "letter", desc := "(II)C" } : Jvm.MethodName)) ∈ MW := MW_t 1151 (by decide +kernel) (by decide +kernel)
theorem mw_1152 : (Jvm.Cond.instanceMethod ({ cls := "CursorKeepModel", name := "letter", desc := "(II)C" } : Jvm.MethodName)) ∈ MW := MW_t 1152 (by decide +kernel) (by decide +kernel)
theorem mw_1153 : (Jvm.Cond.selects "CursorKeepModel" ({ cls := "CursorKeepModel", name := "letter", desc := "(II)C" } : Jvm.MethodName) ({ cls := "CursorKeepModel", name := "letter", desc := "(II)C" } : Jvm.MethodName)) ∈ MW := MW_t 1153 (by decide +kernel) (by decide +kernel)
theorem mw_1154 : (Jvm.Cond.code ({ cls := "CursorKeepModel", name := "letter", desc := "(II)C" } : Jvm.MethodName) prog_13_method_21_code (4 : Nat) (Option.some Jvm.ClassFile.FieldType.char)) ∈ MW := MW_t 1154 (by decide +kernel) (by decide +kernel)
theorem mw_1155 : (Jvm.Cond.methodLink "CursorKeepLaw" (121 : Nat) ({ cls := "CursorKeepModel", name := "letterAnew", desc := "(II)C" } : Jvm.MethodName)) ∈ MW := MW_t 1155 (by decide +kernel) (by decide +kernel)
theorem mw_1156 : (Jvm.Cond.instanceMethod ({ cls := "CursorKeepModel", name := "letterAnew", desc := "(II)C" } : Jvm.MethodName)) ∈ MW := MW_t 1156 (by decide +kernel) (by decide +kernel)
theorem mw_1157 : (Jvm.Cond.selects "CursorKeepModel" ({ cls := "CursorKeepModel", name := "letterAnew", desc := "(II)C" } : Jvm.MethodName) ({ cls := "CursorKeepModel", name := "letterAnew", desc := "(II)C" } : Jvm.MethodName)) ∈ MW := MW_t 1157 (by decide +kernel) (by decide +kernel)
theorem mw_1158 : (Jvm.Cond.code ({ cls := "CursorKeepModel", name := "letterAnew", desc := "(II)C" } : Jvm.MethodName) prog_13_method_22_code (3 : Nat) (Option.some Jvm.ClassFile.FieldType.char)) ∈ MW := MW_t 1158 (by decide +kernel) (by decide +kernel)
theorem mw_1159 : (Jvm.Cond.methodLink "CursorKeepModel" (142 : Nat) ({ cls := "CursorKeepModel", name := "letter", desc := "(II)C" } : Jvm.MethodName)) ∈ MW := MW_t 1159 (by decide +kernel) (by decide +kernel)
theorem mw_1160 : (Jvm.Cond.methodLink "CursorKeepLaw" (124 : Nat) ({ cls := "CursorKeepModel", name := "version", desc := "(I)I" } : Jvm.MethodName)) ∈ MW := MW_t 1160 (by decide +kernel) (by decide +kernel)
theorem mw_1161 : (Jvm.Cond.instanceMethod ({ cls := "CursorKeepModel", name := "version", desc := "(I)I" } : Jvm.MethodName)) ∈ MW := MW_t 1161 (by decide +kernel) (by decide +kernel)
theorem mw_1162 : (Jvm.Cond.selects "CursorKeepModel" ({ cls := "CursorKeepModel", name := "version", desc := "(I)I" } : Jvm.MethodName) ({ cls := "CursorKeepModel", name := "version", desc := "(I)I" } : Jvm.MethodName)) ∈ MW := MW_t 1162 (by decide +kernel) (by decide +kernel)
theorem mw_1163 : (Jvm.Cond.code ({ cls := "CursorKeepModel", name := "version", desc := "(I)I" } : Jvm.MethodName) prog_13_method_23_code (2 : Nat) (Option.some Jvm.ClassFile.FieldType.int)) ∈ MW := MW_t 1163 (by decide +kernel) (by decide +kernel)
theorem mw_1164 : (Jvm.Cond.methodLink "CursorKeepLaw" (127 : Nat) ({ cls := "CursorKeepModel", name := "ask", desc := "(III)I" } : Jvm.MethodName)) ∈ MW := MW_t 1164 (by decide +kernel) (by decide +kernel)
theorem mw_1165 : (Jvm.Cond.instanceMethod ({ cls := "CursorKeepModel", name := "ask", desc := "(III)I" } : Jvm.MethodName)) ∈ MW := MW_t 1165 (by decide +kernel) (by decide +kernel)
theorem mw_1166 : (Jvm.Cond.selects "CursorKeepModel" ({ cls := "CursorKeepModel", name := "ask", desc := "(III)I" } : Jvm.MethodName) ({ cls := "CursorKeepModel", name := "ask", desc := "(III)I" } : Jvm.MethodName)) ∈ MW := MW_t 1166 (by decide +kernel) (by decide +kernel)
theorem mw_1167 : (Jvm.Cond.code ({ cls := "CursorKeepModel", name := "ask", desc := "(III)I" } : Jvm.MethodName) prog_13_method_31_code (8 : Nat) (Option.some Jvm.ClassFile.FieldType.int)) ∈ MW := MW_t 1167 (by decide +kernel) (by decide +kernel)
theorem mw_1168 : (Jvm.Cond.methodLink "CursorKeepModel" (158 : Nat) ({ cls := "CursorKeepModel", name := "wantsLines", desc := "(II)V" } : Jvm.MethodName)) ∈ MW := MW_t 1168 (by decide +kernel) (by decide +kernel)
theorem mw_1170 : (Jvm.Cond.instanceMethod ({ cls := "CursorKeepModel", name := "wantsLines", desc := "(II)V" } : Jvm.MethodName)) ∈ MW := MW_t 1170 (by decide +kernel) (by decide +kernel)
theorem mw_1171 : (Jvm.Cond.code ({ cls := "CursorKeepModel", name := "wantsLines", desc := "(II)V" } : Jvm.MethodName) prog_13_method_28_code (7 : Nat) (Option.none : Option Jvm.ClassFile.FieldType)) ∈ MW := MW_t 1171 (by decide +kernel) (by decide +kernel)
theorem mw_1172 : (Jvm.Cond.methodLink "CursorKeepModel" (155 : Nat) ({ cls := "CursorKeepModel", name := "nextEnd", desc := "(II)I" } : Jvm.MethodName)) ∈ MW := MW_t 1172 (by decide +kernel) (by decide +kernel)
theorem mw_1174 : (Jvm.Cond.instanceMethod ({ cls := "CursorKeepModel", name := "nextEnd", desc := "(II)I" } : Jvm.MethodName)) ∈ MW := MW_t 1174 (by decide +kernel) (by decide +kernel)
theorem mw_1175 : (Jvm.Cond.code ({ cls := "CursorKeepModel", name := "nextEnd", desc := "(II)I" } : Jvm.MethodName) prog_13_method_26_code (4 : Nat) (Option.some Jvm.ClassFile.FieldType.int)) ∈ MW := MW_t 1175 (by decide +kernel) (by decide +kernel)
theorem mw_1176 : (Jvm.Cond.methodLink "CursorKeepModel" (148 : Nat) ({ cls := "CursorKeepModel", name := "signAt", desc := "(II)I" } : Jvm.MethodName)) ∈ MW := MW_t 1176 (by decide +kernel) (by decide +kernel)
theorem mw_1178 : (Jvm.Cond.instanceMethod ({ cls := "CursorKeepModel", name := "signAt", desc := "(II)I" } : Jvm.MethodName)) ∈ MW := MW_t 1178 (by decide +kernel) (by decide +kernel)
theorem mw_1179 : (Jvm.Cond.code ({ cls := "CursorKeepModel", name := "signAt", desc := "(II)I" } : Jvm.MethodName) prog_13_method_24_code (3 : Nat) (Option.some Jvm.ClassFile.FieldType.int)) ∈ MW := MW_t 1179 (by decide +kernel) (by decide +kernel)
theorem mw_1180 : (Jvm.Cond.methodLink "CursorKeepModel" (151 : Nat) ({ cls := "CursorKeepModel", name := "wants", desc := "(III)V" } : Jvm.MethodName)) ∈ MW := MW_t 1180 (by decide +kernel) (by decide +kernel)
theorem mw_1182 : (Jvm.Cond.instanceMethod ({ cls := "CursorKeepModel", name := "wants", desc := "(III)V" } : Jvm.MethodName)) ∈ MW := MW_t 1182 (by decide +kernel) (by decide +kernel)
theorem mw_1183 : (Jvm.Cond.code ({ cls := "CursorKeepModel", name := "wants", desc := "(III)V" } : Jvm.MethodName) prog_13_method_25_code (5 : Nat) (Option.none : Option Jvm.ClassFile.FieldType)) ∈ MW := MW_t 1183 (by decide +kernel) (by decide +kernel)
theorem mw_1184 : (Jvm.Cond.methodLink "CursorKeepModel" (161 : Nat) ({ cls := "CursorKeepModel", name := "wantsLetters", desc := "(II)V" } : Jvm.MethodName)) ∈ MW := MW_t 1184 (by decide +kernel) (by decide +kernel)
theorem mw_1186 : (Jvm.Cond.instanceMethod ({ cls := "CursorKeepModel", name := "wantsLetters", desc := "(II)V" } : Jvm.MethodName)) ∈ MW := MW_t 1186 (by decide +kernel) (by decide +kernel)
theorem mw_1187 : (Jvm.Cond.code ({ cls := "CursorKeepModel", name := "wantsLetters", desc := "(II)V" } : Jvm.MethodName) prog_13_method_27_code (9 : Nat) (Option.none : Option Jvm.ClassFile.FieldType)) ∈ MW := MW_t 1187 (by decide +kernel) (by decide +kernel)
theorem mw_1188 : (Jvm.Cond.methodLink "CursorKeepModel" (164 : Nat) ({ cls := "CursorKeepModel", name := "marks", desc := "(I)V" } : Jvm.MethodName)) ∈ MW := MW_t 1188 (by decide +kernel) (by decide +kernel)
theorem mw_1190 : (Jvm.Cond.instanceMethod ({ cls := "CursorKeepModel", name := "marks", desc := "(I)V" } : Jvm.MethodName)) ∈ MW := MW_t 1190 (by decide +kernel) (by decide +kernel)
theorem mw_1191 : (Jvm.Cond.code ({ cls := "CursorKeepModel", name := "marks", desc := "(I)V" } : Jvm.MethodName) prog_13_method_29_code (3 : Nat) (Option.none : Option Jvm.ClassFile.FieldType)) ∈ MW := MW_t 1191 (by decide +kernel) (by decide +kernel)
theorem mw_1192 : (Jvm.Cond.methodLink "CursorKeepModel" (167 : Nat) ({ cls := "CursorKeepModel", name := "nearest", desc := "(III)I" } : Jvm.MethodName)) ∈ MW := MW_t 1192 (by decide +kernel) (by decide +kernel)
theorem mw_1194 : (Jvm.Cond.instanceMethod ({ cls := "CursorKeepModel", name := "nearest", desc := "(III)I" } : Jvm.MethodName)) ∈ MW := MW_t 1194 (by decide +kernel) (by decide +kernel)
theorem mw_1195 : (Jvm.Cond.code ({ cls := "CursorKeepModel", name := "nearest", desc := "(III)I" } : Jvm.MethodName) prog_13_method_30_code (6 : Nat) (Option.some Jvm.ClassFile.FieldType.int)) ∈ MW := MW_t 1195 (by decide +kernel) (by decide +kernel)
theorem mw_1196 : (Jvm.Cond.methodLink "CursorKeepLaw" (130 : Nat) ({ cls := "CursorKeepModel", name := "come", desc := "(I)I" } : Jvm.MethodName)) ∈ MW := MW_t 1196 (by decide +kernel) (by decide +kernel)
theorem mw_1197 : (Jvm.Cond.instanceMethod ({ cls := "CursorKeepModel", name := "come", desc := "(I)I" } : Jvm.MethodName)) ∈ MW := MW_t 1197 (by decide +kernel) (by decide +kernel)
theorem mw_1198 : (Jvm.Cond.selects "CursorKeepModel" ({ cls := "CursorKeepModel", name := "come", desc := "(I)I" } : Jvm.MethodName) ({ cls := "CursorKeepModel", name := "come", desc := "(I)I" } : Jvm.MethodName)) ∈ MW := MW_t 1198 (by decide +kernel) (by decide +kernel)
theorem mw_1199 : (Jvm.Cond.code ({ cls := "CursorKeepModel", name := "come", desc := "(I)I" } : Jvm.MethodName) prog_13_method_36_code (6 : Nat) (Option.some Jvm.ClassFile.FieldType.int)) ∈ MW := MW_t 1199 (by decide +kernel) (by decide +kernel)
theorem mw_1200 : (Jvm.Cond.methodLink "CursorKeepModel" (177 : Nat) ({ cls := "CursorKeepModel", name := "isFormat", desc := "(I)Z" } : Jvm.MethodName)) ∈ MW := MW_t 1200 (by decide +kernel) (by decide +kernel)
theorem mw_1202 : (Jvm.Cond.instanceMethod ({ cls := "CursorKeepModel", name := "isFormat", desc := "(I)Z" } : Jvm.MethodName)) ∈ MW := MW_t 1202 (by decide +kernel) (by decide +kernel)
theorem mw_1203 : (Jvm.Cond.code ({ cls := "CursorKeepModel", name := "isFormat", desc := "(I)Z" } : Jvm.MethodName) prog_13_method_32_code (2 : Nat) (Option.some Jvm.ClassFile.FieldType.boolean)) ∈ MW := MW_t 1203 (by decide +kernel) (by decide +kernel)
theorem mw_1204 : (Jvm.Cond.methodLink "CursorKeepModel" (180 : Nat) ({ cls := "CursorKeepModel", name := "sparedNow", desc := "(I)I" } : Jvm.MethodName)) ∈ MW := MW_t 1204 (by decide +kernel) (by decide +kernel)
theorem mw_1206 : (Jvm.Cond.instanceMethod ({ cls := "CursorKeepModel", name := "sparedNow", desc := "(I)I" } : Jvm.MethodName)) ∈ MW := MW_t 1206 (by decide +kernel) (by decide +kernel)
theorem mw_1207 : (Jvm.Cond.code ({ cls := "CursorKeepModel", name := "sparedNow", desc := "(I)I" } : Jvm.MethodName) prog_13_method_35_code (4 : Nat) (Option.some Jvm.ClassFile.FieldType.int)) ∈ MW := MW_t 1207 (by decide +kernel) (by decide +kernel)
theorem mw_1208 : (Jvm.Cond.methodLink "CursorKeepModel" (174 : Nat) ({ cls := "CursorKeepModel", name := "isSpared", desc := "(II)Z" } : Jvm.MethodName)) ∈ MW := MW_t 1208 (by decide +kernel) (by decide +kernel)
theorem mw_1210 : (Jvm.Cond.instanceMethod ({ cls := "CursorKeepModel", name := "isSpared", desc := "(II)Z" } : Jvm.MethodName)) ∈ MW := MW_t 1210 (by decide +kernel) (by decide +kernel)
theorem mw_1211 : (Jvm.Cond.code ({ cls := "CursorKeepModel", name := "isSpared", desc := "(II)Z" } : Jvm.MethodName) prog_13_method_34_code (8 : Nat) (Option.some Jvm.ClassFile.FieldType.boolean)) ∈ MW := MW_t 1211 (by decide +kernel) (by decide +kernel)
theorem mw_1212 : (Jvm.Cond.methodLink "CursorKeepModel" (171 : Nat) ({ cls := "CursorKeepModel", name := "hasCursor", desc := "(II)Z" } : Jvm.MethodName)) ∈ MW := MW_t 1212 (by decide +kernel) (by decide +kernel)
theorem mw_1214 : (Jvm.Cond.instanceMethod ({ cls := "CursorKeepModel", name := "hasCursor", desc := "(II)Z" } : Jvm.MethodName)) ∈ MW := MW_t 1214 (by decide +kernel) (by decide +kernel)
theorem mw_1215 : (Jvm.Cond.code ({ cls := "CursorKeepModel", name := "hasCursor", desc := "(II)Z" } : Jvm.MethodName) prog_13_method_33_code (5 : Nat) (Option.some Jvm.ClassFile.FieldType.boolean)) ∈ MW := MW_t 1215 (by decide +kernel) (by decide +kernel)
theorem mw_1216 : (Jvm.Cond.methodLink "CursorKeepLaw" (133 : Nat) ({ cls := "CursorKeepModel", name := "drop", desc := "(I)I" } : Jvm.MethodName)) ∈ MW := MW_t 1216 (by decide +kernel) (by decide +kernel)
theorem mw_1217 : (Jvm.Cond.instanceMethod ({ cls := "CursorKeepModel", name := "drop", desc := "(I)I" } : Jvm.MethodName)) ∈ MW := MW_t 1217 (by decide +kernel) (by decide +kernel)
theorem mw_1218 : (Jvm.Cond.selects "CursorKeepModel" ({ cls := "CursorKeepModel", name := "drop", desc := "(I)I" } : Jvm.MethodName) ({ cls := "CursorKeepModel", name := "drop", desc := "(I)I" } : Jvm.MethodName)) ∈ MW := MW_t 1218 (by decide +kernel) (by decide +kernel)
theorem mw_1219 : (Jvm.Cond.code ({ cls := "CursorKeepModel", name := "drop", desc := "(I)I" } : Jvm.MethodName) prog_13_method_37_code (3 : Nat) (Option.some Jvm.ClassFile.FieldType.int)) ∈ MW := MW_t 1219 (by decide +kernel) (by decide +kernel)
theorem mw_1220 : (Jvm.Cond.methodLink "CursorKeepLaw" (136 : Nat) ({ cls := "CursorKeepModel", name := "state", desc := "(I)I" } : Jvm.MethodName)) ∈ MW := MW_t 1220 (by decide +kernel) (by decide +kernel)
theorem mw_1221 : (Jvm.Cond.instanceMethod ({ cls := "CursorKeepModel", name := "state", desc := "(I)I" } : Jvm.MethodName)) ∈ MW := MW_t 1221 (by decide +kernel) (by decide +kernel)
theorem mw_1222 : (Jvm.Cond.selects "CursorKeepModel" ({ cls := "CursorKeepModel", name := "state", desc := "(I)I" } : Jvm.MethodName) ({ cls := "CursorKeepModel", name := "state", desc := "(I)I" } : Jvm.MethodName)) ∈ MW := MW_t 1222 (by decide +kernel) (by decide +kernel)
theorem mw_1223 : (Jvm.Cond.code ({ cls := "CursorKeepModel", name := "state", desc := "(I)I" } : Jvm.MethodName) prog_13_method_38_code (2 : Nat) (Option.some Jvm.ClassFile.FieldType.int)) ∈ MW := MW_t 1223 (by decide +kernel) (by decide +kernel)
theorem mw_1224 : (Jvm.Cond.methodLink "CursorKeepLaw" (139 : Nat) ({ cls := "CursorKeepModel", name := "spared", desc := "(I)I" } : Jvm.MethodName)) ∈ MW := MW_t 1224 (by decide +kernel) (by decide +kernel)
theorem mw_1225 : (Jvm.Cond.instanceMethod ({ cls := "CursorKeepModel", name := "spared", desc := "(I)I" } : Jvm.MethodName)) ∈ MW := MW_t 1225 (by decide +kernel) (by decide +kernel)
theorem mw_1226 : (Jvm.Cond.selects "CursorKeepModel" ({ cls := "CursorKeepModel", name := "spared", desc := "(I)I" } : Jvm.MethodName) ({ cls := "CursorKeepModel", name := "spared", desc := "(I)I" } : Jvm.MethodName)) ∈ MW := MW_t 1226 (by decide +kernel) (by decide +kernel)
theorem mw_1227 : (Jvm.Cond.code ({ cls := "CursorKeepModel", name := "spared", desc := "(I)I" } : Jvm.MethodName) prog_13_method_39_code (2 : Nat) (Option.some Jvm.ClassFile.FieldType.int)) ∈ MW := MW_t 1227 (by decide +kernel) (by decide +kernel)
theorem mw_1228 : (Jvm.Cond.methodLink "CursorKeepLaw" (142 : Nat) ({ cls := "CursorKeepModel", name := "lock", desc := "(II)Z" } : Jvm.MethodName)) ∈ MW := MW_t 1228 (by decide +kernel) (by decide +kernel)
theorem mw_1229 : (Jvm.Cond.instanceMethod ({ cls := "CursorKeepModel", name := "lock", desc := "(II)Z" } : Jvm.MethodName)) ∈ MW := MW_t 1229 (by decide +kernel) (by decide +kernel)
theorem mw_1230 : (Jvm.Cond.selects "CursorKeepModel" ({ cls := "CursorKeepModel", name := "lock", desc := "(II)Z" } : Jvm.MethodName) ({ cls := "CursorKeepModel", name := "lock", desc := "(II)Z" } : Jvm.MethodName)) ∈ MW := MW_t 1230 (by decide +kernel) (by decide +kernel)
theorem mw_1231 : (Jvm.Cond.code ({ cls := "CursorKeepModel", name := "lock", desc := "(II)Z" } : Jvm.MethodName) prog_13_method_40_code (4 : Nat) (Option.some Jvm.ClassFile.FieldType.boolean)) ∈ MW := MW_t 1231 (by decide +kernel) (by decide +kernel)
theorem mw_1232 : (Jvm.Cond.methodLink "CursorKeepLaw" (145 : Nat) ({ cls := "CursorKeepModel", name := "save", desc := "(III)I" } : Jvm.MethodName)) ∈ MW := MW_t 1232 (by decide +kernel) (by decide +kernel)
theorem mw_1233 : (Jvm.Cond.instanceMethod ({ cls := "CursorKeepModel", name := "save", desc := "(III)I" } : Jvm.MethodName)) ∈ MW := MW_t 1233 (by decide +kernel) (by decide +kernel)
theorem mw_1234 : (Jvm.Cond.selects "CursorKeepModel" ({ cls := "CursorKeepModel", name := "save", desc := "(III)I" } : Jvm.MethodName) ({ cls := "CursorKeepModel", name := "save", desc := "(III)I" } : Jvm.MethodName)) ∈ MW := MW_t 1234 (by decide +kernel) (by decide +kernel)
theorem mw_1235 : (Jvm.Cond.code ({ cls := "CursorKeepModel", name := "save", desc := "(III)I" } : Jvm.MethodName) prog_13_method_41_code (5 : Nat) (Option.some Jvm.ClassFile.FieldType.int)) ∈ MW := MW_t 1235 (by decide +kernel) (by decide +kernel)
theorem mw_1236 : (Jvm.Cond.methodLink "CursorKeepLaw" (149 : Nat) ({ cls := "CursorKeepModel", name := "write", desc := "()I" } : Jvm.MethodName)) ∈ MW := MW_t 1236 (by decide +kernel) (by decide +kernel)
theorem mw_1237 : (Jvm.Cond.instanceMethod ({ cls := "CursorKeepModel", name := "write", desc := "()I" } : Jvm.MethodName)) ∈ MW := MW_t 1237 (by decide +kernel) (by decide +kernel)
theorem mw_1238 : (Jvm.Cond.selects "CursorKeepModel" ({ cls := "CursorKeepModel", name := "write", desc := "()I" } : Jvm.MethodName) ({ cls := "CursorKeepModel", name := "write", desc := "()I" } : Jvm.MethodName)) ∈ MW := MW_t 1238 (by decide +kernel) (by decide +kernel)
theorem mw_1239 : (Jvm.Cond.code ({ cls := "CursorKeepModel", name := "write", desc := "()I" } : Jvm.MethodName) prog_13_method_43_code (4 : Nat) (Option.some Jvm.ClassFile.FieldType.int)) ∈ MW := MW_t 1239 (by decide +kernel) (by decide +kernel)
theorem mw_1240 : (Jvm.Cond.methodLink "CursorKeepModel" (187 : Nat) ({ cls := "CursorKeepModel", name := "canWrite", desc := "(I)Z" } : Jvm.MethodName)) ∈ MW := MW_t 1240 (by decide +kernel) (by decide +kernel)
theorem mw_1242 : (Jvm.Cond.instanceMethod ({ cls := "CursorKeepModel", name := "canWrite", desc := "(I)Z" } : Jvm.MethodName)) ∈ MW := MW_t 1242 (by decide +kernel) (by decide +kernel)
theorem mw_1243 : (Jvm.Cond.code ({ cls := "CursorKeepModel", name := "canWrite", desc := "(I)Z" } : Jvm.MethodName) prog_13_method_42_code (5 : Nat) (Option.some Jvm.ClassFile.FieldType.boolean)) ∈ MW := MW_t 1243 (by decide +kernel) (by decide +kernel)
theorem mw_1244 : (Jvm.Cond.methodLink "CursorKeepLaw" (153 : Nat) ({ cls := "CursorKeepModel", name := "queued", desc := "()I" } : Jvm.MethodName)) ∈ MW := MW_t 1244 (by decide +kernel) (by decide +kernel)
theorem mw_1245 : (Jvm.Cond.instanceMethod ({ cls := "CursorKeepModel", name := "queued", desc := "()I" } : Jvm.MethodName)) ∈ MW := MW_t 1245 (by decide +kernel) (by decide +kernel)
theorem mw_1246 : (Jvm.Cond.selects "CursorKeepModel" ({ cls := "CursorKeepModel", name := "queued", desc := "()I" } : Jvm.MethodName) ({ cls := "CursorKeepModel", name := "queued", desc := "()I" } : Jvm.MethodName)) ∈ MW := MW_t 1246 (by decide +kernel) (by decide +kernel)
theorem mw_1247 : (Jvm.Cond.code ({ cls := "CursorKeepModel", name := "queued", desc := "()I" } : Jvm.MethodName) prog_13_method_44_code (3 : Nat) (Option.some Jvm.ClassFile.FieldType.int)) ∈ MW := MW_t 1247 (by decide +kernel) (by decide +kernel)
theorem mw_1248 : (Jvm.Cond.methodLink "CursorKeepLaw" (156 : Nat) ({ cls := "CursorKeepModel", name := "savedVersion", desc := "(I)I" } : Jvm.MethodName)) ∈ MW := MW_t 1248 (by decide +kernel) (by decide +kernel)
theorem mw_1249 : (Jvm.Cond.instanceMethod ({ cls := "CursorKeepModel", name := "savedVersion", desc := "(I)I" } : Jvm.MethodName)) ∈ MW := MW_t 1249 (by decide +kernel) (by decide +kernel)
theorem mw_1250 : (Jvm.Cond.selects "CursorKeepModel" ({ cls := "CursorKeepModel", name := "savedVersion", desc := "(I)I" } : Jvm.MethodName) ({ cls := "CursorKeepModel", name := "savedVersion", desc := "(I)I" } : Jvm.MethodName)) ∈ MW := MW_t 1250 (by decide +kernel) (by decide +kernel)
theorem mw_1251 : (Jvm.Cond.code ({ cls := "CursorKeepModel", name := "savedVersion", desc := "(I)I" } : Jvm.MethodName) prog_13_method_45_code (2 : Nat) (Option.some Jvm.ClassFile.FieldType.int)) ∈ MW := MW_t 1251 (by decide +kernel) (by decide +kernel)
theorem mw_1252 : (Jvm.Cond.methodLink "CursorKeepLaw" (159 : Nat) ({ cls := "CursorKeepModel", name := "savedLength", desc := "(I)I" } : Jvm.MethodName)) ∈ MW := MW_t 1252 (by decide +kernel) (by decide +kernel)
theorem mw_1253 : (Jvm.Cond.instanceMethod ({ cls := "CursorKeepModel", name := "savedLength", desc := "(I)I" } : Jvm.MethodName)) ∈ MW := MW_t 1253 (by decide +kernel) (by decide +kernel)
theorem mw_1254 : (Jvm.Cond.selects "CursorKeepModel" ({ cls := "CursorKeepModel", name := "savedLength", desc := "(I)I" } : Jvm.MethodName) ({ cls := "CursorKeepModel", name := "savedLength", desc := "(I)I" } : Jvm.MethodName)) ∈ MW := MW_t 1254 (by decide +kernel) (by decide +kernel)
theorem mw_1255 : (Jvm.Cond.code ({ cls := "CursorKeepModel", name := "savedLength", desc := "(I)I" } : Jvm.MethodName) prog_13_method_46_code (2 : Nat) (Option.some Jvm.ClassFile.FieldType.int)) ∈ MW := MW_t 1255 (by decide +kernel) (by decide +kernel)
theorem mw_1256 : (Jvm.Cond.methodLink "CursorKeepLaw" (162 : Nat) ({ cls := "CursorKeepModel", name := "savedLetter", desc := "(II)C" } : Jvm.MethodName)) ∈ MW := MW_t 1256 (by decide +kernel) (by decide +kernel)
theorem mw_1257 : (Jvm.Cond.instanceMethod ({ cls := "CursorKeepModel", name := "savedLetter", desc := "(II)C" } : Jvm.MethodName)) ∈ MW := MW_t 1257 (by decide +kernel) (by decide +kernel)
theorem mw_1258 : (Jvm.Cond.selects "CursorKeepModel" ({ cls := "CursorKeepModel", name := "savedLetter", desc := "(II)C" } : Jvm.MethodName) ({ cls := "CursorKeepModel", name := "savedLetter", desc := "(II)C" } : Jvm.MethodName)) ∈ MW := MW_t 1258 (by decide +kernel) (by decide +kernel)
theorem mw_1259 : (Jvm.Cond.code ({ cls := "CursorKeepModel", name := "savedLetter", desc := "(II)C" } : Jvm.MethodName) prog_13_method_47_code (4 : Nat) (Option.some Jvm.ClassFile.FieldType.char)) ∈ MW := MW_t 1259 (by decide +kernel) (by decide +kernel)
theorem mw_1260 : (Jvm.Cond.arrayClass Jvm.ClassFile.FieldType.long) ∈ MW := MW_t 1260 (by decide +kernel) (by decide +kernel)
theorem mw_1261 : (Jvm.Cond.sameMethod "java/lang/Throwable" "java/lang/Throwable" "fillInStackTrace" "(I)Ljava/lang/Throwable;") ∈ MW := MW_t 1261 (by decide +kernel) (by decide +kernel)
theorem mw_1280 : (Jvm.Cond.sameMethod "[Ljava/lang/Object;" "java/lang/Object" "getClass" "()Ljava/lang/Class;") ∈ MW := MW_t 1280 (by decide +kernel) (by decide +kernel)
theorem mw_1281 : (Jvm.Cond.selects "[Ljava/lang/Object;" ({ cls := "java/lang/Object", name := "getClass", desc := "()Ljava/lang/Class;" } : Jvm.MethodName) ({ cls := "java/lang/Object", name := "getClass", desc := "()Ljava/lang/Class;" } : Jvm.MethodName)) ∈ MW := MW_t 1281 (by decide +kernel) (by decide +kernel)
theorem mp_0 : Cond.selects (⟨"CursorKeep", "isFirstForItsText", "(LCursorKeep$Save;)Z"⟩ : MethodName).cls ⟨"CursorKeep", "isFirstForItsText", "(LCursorKeep$Save;)Z"⟩ ⟨"CursorKeep", "isFirstForItsText", "(LCursorKeep$Save;)Z"⟩ ∈ MW := MW_p 0 (n := _) rfl
theorem mp_1 : Cond.selects (⟨"java/util/ArrayList", "fastRemove", "([Ljava/lang/Object;I)V"⟩ : MethodName).cls ⟨"java/util/ArrayList", "fastRemove", "([Ljava/lang/Object;I)V"⟩ ⟨"java/util/ArrayList", "fastRemove", "([Ljava/lang/Object;I)V"⟩ ∈ MW := MW_p 1 (n := _) rfl
theorem mp_2 : Cond.selects (⟨"CursorKeep", "handAt", "(I)LCursorKeep$Hand;"⟩ : MethodName).cls ⟨"CursorKeep", "handAt", "(I)LCursorKeep$Hand;"⟩ ⟨"CursorKeep", "handAt", "(I)LCursorKeep$Hand;"⟩ ∈ MW := MW_p 2 (n := _) rfl
theorem mp_3 : Cond.selects (⟨"java/lang/Throwable", "fillInStackTrace", "(I)Ljava/lang/Throwable;"⟩ : MethodName).cls ⟨"java/lang/Throwable", "fillInStackTrace", "(I)Ljava/lang/Throwable;"⟩ ⟨"java/lang/Throwable", "fillInStackTrace", "(I)Ljava/lang/Throwable;"⟩ ∈ MW := MW_p 3 (n := _) rfl
theorem mp_4 : Cond.selects (⟨"CursorKeep", "textAt", "(I)LCursorKeep$Text;"⟩ : MethodName).cls ⟨"CursorKeep", "textAt", "(I)LCursorKeep$Text;"⟩ ⟨"CursorKeep", "textAt", "(I)LCursorKeep$Text;"⟩ ∈ MW := MW_p 4 (n := _) rfl
theorem mp_5 : Cond.selects (⟨"CursorKeep$Text", "cursorSpot", "(I)I"⟩ : MethodName).cls ⟨"CursorKeep$Text", "cursorSpot", "(I)I"⟩ ⟨"CursorKeep$Text", "cursorSpot", "(I)I"⟩ ∈ MW := MW_p 5 (n := _) rfl
theorem mp_6 : Cond.selects (⟨"CursorKeep$Text", "perform", "(LCursorKeep$Deed;)V"⟩ : MethodName).cls ⟨"CursorKeep$Text", "perform", "(LCursorKeep$Deed;)V"⟩ ⟨"CursorKeep$Text", "perform", "(LCursorKeep$Deed;)V"⟩ ∈ MW := MW_p 6 (n := _) rfl
theorem mp_7 : Cond.selects (⟨"java/util/ArrayList", "add", "(Ljava/lang/Object;[Ljava/lang/Object;I)V"⟩ : MethodName).cls ⟨"java/util/ArrayList", "add", "(Ljava/lang/Object;[Ljava/lang/Object;I)V"⟩ ⟨"java/util/ArrayList", "add", "(Ljava/lang/Object;[Ljava/lang/Object;I)V"⟩ ∈ MW := MW_p 7 (n := _) rfl
theorem mp_8 : Cond.selects (⟨"java/util/ArrayList", "grow", "()[Ljava/lang/Object;"⟩ : MethodName).cls ⟨"java/util/ArrayList", "grow", "()[Ljava/lang/Object;"⟩ ⟨"java/util/ArrayList", "grow", "()[Ljava/lang/Object;"⟩ ∈ MW := MW_p 8 (n := _) rfl
theorem mp_9 : Cond.selects (⟨"java/util/ArrayList", "grow", "(I)[Ljava/lang/Object;"⟩ : MethodName).cls ⟨"java/util/ArrayList", "grow", "(I)[Ljava/lang/Object;"⟩ ⟨"java/util/ArrayList", "grow", "(I)[Ljava/lang/Object;"⟩ ∈ MW := MW_p 9 (n := _) rfl
theorem mp_10 : Cond.selects (⟨"CursorKeep$Plan", "look", "(LCursorKeep$Row;)V"⟩ : MethodName).cls ⟨"CursorKeep$Plan", "look", "(LCursorKeep$Row;)V"⟩ ⟨"CursorKeep$Plan", "look", "(LCursorKeep$Row;)V"⟩ ∈ MW := MW_p 10 (n := _) rfl
theorem mp_11 : Cond.selects (⟨"CursorKeep$Plan", "wantSingleSpaces", "()V"⟩ : MethodName).cls ⟨"CursorKeep$Plan", "wantSingleSpaces", "()V"⟩ ⟨"CursorKeep$Plan", "wantSingleSpaces", "()V"⟩ ∈ MW := MW_p 11 (n := _) rfl
theorem mp_12 : Cond.selects (⟨"CursorKeep$Plan", "wantBareEnds", "()V"⟩ : MethodName).cls ⟨"CursorKeep$Plan", "wantBareEnds", "()V"⟩ ⟨"CursorKeep$Plan", "wantBareEnds", "()V"⟩ ∈ MW := MW_p 12 (n := _) rfl
theorem mp_13 : Cond.selects (⟨"CursorKeep$Plan", "wantCapitals", "()V"⟩ : MethodName).cls ⟨"CursorKeep$Plan", "wantCapitals", "()V"⟩ ⟨"CursorKeep$Plan", "wantCapitals", "()V"⟩ ∈ MW := MW_p 13 (n := _) rfl
theorem mp_14 : Cond.selects (⟨"CursorKeep$Plan", "wantWrapped", "(I)V"⟩ : MethodName).cls ⟨"CursorKeep$Plan", "wantWrapped", "(I)V"⟩ ⟨"CursorKeep$Plan", "wantWrapped", "(I)V"⟩ ∈ MW := MW_p 14 (n := _) rfl
theorem mp_15 : Cond.selects (⟨"CursorKeep$Neighbours", "pass", "(LCursorKeep$Row;II[I)I"⟩ : MethodName).cls ⟨"CursorKeep$Neighbours", "pass", "(LCursorKeep$Row;II[I)I"⟩ ⟨"CursorKeep$Neighbours", "pass", "(LCursorKeep$Row;II[I)I"⟩ ∈ MW := MW_p 15 (n := _) rfl
theorem mp_16 : Cond.selects (⟨"CursorKeep", "waitingFormatAt", "(I)LCursorKeep$Format;"⟩ : MethodName).cls ⟨"CursorKeep", "waitingFormatAt", "(I)LCursorKeep$Format;"⟩ ⟨"CursorKeep", "waitingFormatAt", "(I)LCursorKeep$Format;"⟩ ∈ MW := MW_p 16 (n := _) rfl
theorem mp_17 : Cond.selects (⟨"CursorKeep", "formatAt", "(I)LCursorKeep$Format;"⟩ : MethodName).cls ⟨"CursorKeep", "formatAt", "(I)LCursorKeep$Format;"⟩ ⟨"CursorKeep", "formatAt", "(I)LCursorKeep$Format;"⟩ ∈ MW := MW_p 17 (n := _) rfl
theorem mp_18 : Cond.selects (⟨"CursorKeep$Format", "spares", "(LCursorKeep$Change;LCursorKeep$Neighbours;)Z"⟩ : MethodName).cls ⟨"CursorKeep$Format", "spares", "(LCursorKeep$Change;LCursorKeep$Neighbours;)Z"⟩ ⟨"CursorKeep$Format", "spares", "(LCursorKeep$Change;LCursorKeep$Neighbours;)Z"⟩ ∈ MW := MW_p 18 (n := _) rfl
theorem mp_19 : Cond.selects (⟨"CursorKeepModel", "goes", "(ZZZ)Z"⟩ : MethodName).cls ⟨"CursorKeepModel", "goes", "(ZZZ)Z"⟩ ⟨"CursorKeepModel", "goes", "(ZZZ)Z"⟩ ∈ MW := MW_p 19 (n := _) rfl
theorem mp_20 : Cond.selects (⟨"CursorKeepModel", "at", "(II)I"⟩ : MethodName).cls ⟨"CursorKeepModel", "at", "(II)I"⟩ ⟨"CursorKeepModel", "at", "(II)I"⟩ ∈ MW := MW_p 20 (n := _) rfl
theorem mp_21 : Cond.selects (⟨"CursorKeepModel", "keeps", "(II)V"⟩ : MethodName).cls ⟨"CursorKeepModel", "keeps", "(II)V"⟩ ⟨"CursorKeepModel", "keeps", "(II)V"⟩ ∈ MW := MW_p 21 (n := _) rfl
theorem mp_22 : Cond.selects (⟨"CursorKeepModel", "placeOf", "(II)I"⟩ : MethodName).cls ⟨"CursorKeepModel", "placeOf", "(II)I"⟩ ⟨"CursorKeepModel", "placeOf", "(II)I"⟩ ∈ MW := MW_p 22 (n := _) rfl
theorem mp_23 : Cond.selects (⟨"CursorKeepModel", "shows", "(I)V"⟩ : MethodName).cls ⟨"CursorKeepModel", "shows", "(I)V"⟩ ⟨"CursorKeepModel", "shows", "(I)V"⟩ ∈ MW := MW_p 23 (n := _) rfl
theorem mp_24 : Cond.selects (⟨"CursorKeepModel", "leaves", "(II)V"⟩ : MethodName).cls ⟨"CursorKeepModel", "leaves", "(II)V"⟩ ⟨"CursorKeepModel", "leaves", "(II)V"⟩ ∈ MW := MW_p 24 (n := _) rfl
theorem mp_25 : Cond.selects (⟨"CursorKeepModel", "turns", "(IZ)I"⟩ : MethodName).cls ⟨"CursorKeepModel", "turns", "(IZ)I"⟩ ⟨"CursorKeepModel", "turns", "(IZ)I"⟩ ∈ MW := MW_p 25 (n := _) rfl
theorem mp_26 : Cond.selects (⟨"CursorKeepModel", "wantsLines", "(II)V"⟩ : MethodName).cls ⟨"CursorKeepModel", "wantsLines", "(II)V"⟩ ⟨"CursorKeepModel", "wantsLines", "(II)V"⟩ ∈ MW := MW_p 26 (n := _) rfl
theorem mp_27 : Cond.selects (⟨"CursorKeepModel", "nextEnd", "(II)I"⟩ : MethodName).cls ⟨"CursorKeepModel", "nextEnd", "(II)I"⟩ ⟨"CursorKeepModel", "nextEnd", "(II)I"⟩ ∈ MW := MW_p 27 (n := _) rfl
theorem mp_28 : Cond.selects (⟨"CursorKeepModel", "signAt", "(II)I"⟩ : MethodName).cls ⟨"CursorKeepModel", "signAt", "(II)I"⟩ ⟨"CursorKeepModel", "signAt", "(II)I"⟩ ∈ MW := MW_p 28 (n := _) rfl
theorem mp_29 : Cond.selects (⟨"CursorKeepModel", "wants", "(III)V"⟩ : MethodName).cls ⟨"CursorKeepModel", "wants", "(III)V"⟩ ⟨"CursorKeepModel", "wants", "(III)V"⟩ ∈ MW := MW_p 29 (n := _) rfl
theorem mp_30 : Cond.selects (⟨"CursorKeepModel", "wantsLetters", "(II)V"⟩ : MethodName).cls ⟨"CursorKeepModel", "wantsLetters", "(II)V"⟩ ⟨"CursorKeepModel", "wantsLetters", "(II)V"⟩ ∈ MW := MW_p 30 (n := _) rfl
theorem mp_31 : Cond.selects (⟨"CursorKeepModel", "marks", "(I)V"⟩ : MethodName).cls ⟨"CursorKeepModel", "marks", "(I)V"⟩ ⟨"CursorKeepModel", "marks", "(I)V"⟩ ∈ MW := MW_p 31 (n := _) rfl
theorem mp_32 : Cond.selects (⟨"CursorKeepModel", "nearest", "(III)I"⟩ : MethodName).cls ⟨"CursorKeepModel", "nearest", "(III)I"⟩ ⟨"CursorKeepModel", "nearest", "(III)I"⟩ ∈ MW := MW_p 32 (n := _) rfl
theorem mp_33 : Cond.selects (⟨"CursorKeepModel", "isFormat", "(I)Z"⟩ : MethodName).cls ⟨"CursorKeepModel", "isFormat", "(I)Z"⟩ ⟨"CursorKeepModel", "isFormat", "(I)Z"⟩ ∈ MW := MW_p 33 (n := _) rfl
theorem mp_34 : Cond.selects (⟨"CursorKeepModel", "sparedNow", "(I)I"⟩ : MethodName).cls ⟨"CursorKeepModel", "sparedNow", "(I)I"⟩ ⟨"CursorKeepModel", "sparedNow", "(I)I"⟩ ∈ MW := MW_p 34 (n := _) rfl
theorem mp_35 : Cond.selects (⟨"CursorKeepModel", "isSpared", "(II)Z"⟩ : MethodName).cls ⟨"CursorKeepModel", "isSpared", "(II)Z"⟩ ⟨"CursorKeepModel", "isSpared", "(II)Z"⟩ ∈ MW := MW_p 35 (n := _) rfl
theorem mp_36 : Cond.selects (⟨"CursorKeepModel", "hasCursor", "(II)Z"⟩ : MethodName).cls ⟨"CursorKeepModel", "hasCursor", "(II)Z"⟩ ⟨"CursorKeepModel", "hasCursor", "(II)Z"⟩ ∈ MW := MW_p 36 (n := _) rfl
theorem mp_37 : Cond.selects (⟨"CursorKeepModel", "canWrite", "(I)Z"⟩ : MethodName).cls ⟨"CursorKeepModel", "canWrite", "(I)Z"⟩ ⟨"CursorKeepModel", "canWrite", "(I)Z"⟩ ∈ MW := MW_p 37 (n := _) rfl
end
section
/-! ===== the abstract heap: kinds, lengths, ints, references (0: null), longs, size, slots used ===== -/
abbrev AH : Type := (Nat → Nat) × (Nat → Nat) × (Nat → Nat → Int32) × (Nat → Nat → Nat) × (Nat → Nat → Int64) × Nat × Nat × Nat × Nat
def aK (h : AH) : Nat → Nat := h.1
def aN (h : AH) : Nat → Nat := h.2.1
def aI (h : AH) : Nat → Nat → Int32 := h.2.2.1
def aR (h : AH) : Nat → Nat → Nat := h.2.2.2.1
def aL (h : AH) : Nat → Nat → Int64 := h.2.2.2.2.1
def aZ (h : AH) : Nat := h.2.2.2.2.2.1
def aU (h : AH) : Nat := h.2.2.2.2.2.2.1
/-- the address of the lists' one empty array -/
def aE (h : AH) : Nat := h.2.2.2.2.2.2.2.1
/-- how many cells there may be -/
def aC (h : AH) : Nat := h.2.2.2.2.2.2.2.2
def up2 {α : Type} (f : Nat → Nat → α) (a k : Nat) (v : α) : Nat → Nat → α := fun b j => if b = a ∧ j = k then v else f b j
def uI (h : AH) (a k : Nat) (v : Int32) : AH := (aK h, aN h, up2 (aI h) a k v, aR h, aL h, aZ h, aU h, aE h, aC h)
def uR (h : AH) (a k : Nat) (v : Nat) : AH := (aK h, aN h, aI h, up2 (aR h) a k v, aL h, aZ h, aU h, aE h, aC h)
def uL (h : AH) (a k : Nat) (v : Int64) : AH := (aK h, aN h, aI h, aR h, up2 (aL h) a k v, aZ h, aU h, aE h, aC h)
/-- a new cell of kind K with n slots, at aZ h -/
def uN (h : AH) (K n : Nat) : AH := (fun b => if b = aZ h then K else aK h b, fun b => if b = aZ h then n else aN h b, fun b j => if b = aZ h then 0 else aI h b j, fun b j => if b = aZ h then 0 else aR h b j, fun b j => if b = aZ h then 0 else aL h b j, aZ h + 1, aU h + n, aE h, aC h)
def zr (r : Nat) : Value := if r = 0 then .null else .ref r
theorem zr_0 : zr 0 = .null := rfl
theorem zr_p {r : Nat} (h : r ≠ 0) : zr r = .ref r := if_neg h
theorem zr_cat (r : Nat) : (zr r).category = 1 := by unfold zr; split <;> rfl
theorem zr_narrow (r : Nat) (t : FieldType) : narrow t (zr r) = zr r := by unfold zr; split <;> cases t <;> rfl
theorem zr_fitsO (r : Nat) (C : String) : fits (.object C) (zr r) = true := by unfold zr; split <;> rfl
theorem zr_fitsA (r : Nat) (t : FieldType) : fits (.array t) (zr r) = true := by unfold zr; split <;> rfl
def vl (t : FieldType) (i : Int32) (r : Nat) (w : Int64) : Value := match t with
  | .long => .long w
  | .object _ => zr r
  | .array _ => zr r
  | _ => .int i
/-- the types of the arrays' elements, by number: an array's kind is 20 + its number -/
def aty : Nat → FieldType
  | 0 => .int
  | 1 => .char
  | 2 => .boolean
  | 3 => .long
  | 4 => .object RX9
  | 5 => .object RX4
  | _ => .object "java/lang/Object"
/-- the fields' types, by the class's number in vwCl: an object's kind is 1 + that -/
def cty : Nat → Nat → FieldType
  | 0 => tyJx4a65c
  | 1 => tyX0
  | 2 => tyX1
  | 3 => tyX2
  | 4 => tyX3
  | 5 => tyX4
  | 6 => tyX5
  | 7 => tyX6
  | 8 => tyX7
  | 9 => tyX8
  | 10 => tyX9
  | 11 => tyX10
  | _ => tyX11
/-- what a run's worlds have in common: the classes' numbers and slots, the array classes' numbers, where our cells begin, the heap of the start -/
abbrev GG : Type := va_G × (Nat → ClassId) × Nat × Heap × Nat
def gD (G : GG) : va_G := G.1
def gA (G : GG) : Nat → ClassId := G.2.1
def gB (G : GG) : Nat := G.2.2.1
def gH (G : GG) : Heap := G.2.2.2.1
def gE (G : GG) : Nat := G.2.2.2.2
def gC (G : GG) : Nat := gB G + 601024
def gS : Nat := 7293034
/-- the slots of the cells from b on -/
def ss (b : Nat) (H : Heap) : Nat := ((H.toList.map (fun c : Cell => c.slots.size)).drop b).sum
def cA (G : GG) (h : AH) (q : Nat) (H : Heap) : Prop :=
  (∀ (ci : Nat) (r : vw_C), vwCl[ci]? = some r → aK h q = ci + 1 → t_OB q ((gD G).1 ci) r.2.2 ((gD G).2 ci) H (fun k => vl (cty ci k) (aI h q k) (aR h q k) (aL h q k))) ∧
  (∀ t : Nat, t < 7 → aK h q = 20 + t → ∃ c : Cell, H[q]? = some c ∧ c.cls = gA G t ∧ (∀ k, c.vm ≠ .statics k) ∧ (0 < aN h q → c.vm = .none) ∧ c.slots.size = aN h q ∧ ∀ k, k < aN h q → c.slots[k]? = some (vl (aty t) (aI h q k) (aR h q k) (aL h q k)))
def Rp (G : GG) (h : AH) (H : Heap) : Prop :=
  H.size = aZ h ∧ gB G ≤ aZ h ∧ 0 < gB G ∧ (∀ q, aK h q ≠ 0 → q ≠ 0 ∧ q < aZ h ∧ (gB G ≤ q ∨ aK h q = 26 ∧ aN h q = 0)) ∧ (∀ q, cA G h q H) ∧ (∀ q, q < gB G → H[q]? = (gH G)[q]?) ∧ aU h = ss (gB G) H ∧ aZ h ≤ gC G ∧ aU h ≤ gS ∧ aE h = gE G ∧ aC h = gC G
def gT (G : GG) : List (ClassId × FieldType) := [(gA G 0, aty 0), (gA G 1, aty 1), (gA G 2, aty 2), (gA G 3, aty 3), (gA G 4, aty 4), (gA G 5, aty 5), (gA G 6, aty 6)]
theorem gT_at (G : GG) {t : Nat} (ht : t < 7) : (gT G)[t]? = some (gA G t, aty t) := by
  match t, ht with
  | 0, _ => rfl
  | 1, _ => rfl
  | 2, _ => rfl
  | 3, _ => rfl
  | 4, _ => rfl
  | 5, _ => rfl
  | 6, _ => rfl
/-! the slots' sum -/
theorem ss_map_get {H H' : Heap} (hz : H'.size = H.size) (hq : ∀ q, q < H.size → (H'[q]?).map (fun c : Cell => c.slots.size) = (H[q]?).map (fun c : Cell => c.slots.size)) : H'.toList.map (fun c : Cell => c.slots.size) = H.toList.map (fun c : Cell => c.slots.size) := by
  apply List.ext_getElem?
  intro i
  rw [List.getElem?_map, List.getElem?_map, Array.getElem?_toList, Array.getElem?_toList]
  rcases Nat.lt_or_ge i H.size with h | h
  · exact hq i h
  · rw [Array.getElem?_eq_none h, Array.getElem?_eq_none (by omega)]
theorem ss_set {b a : Nat} {H H' : Heap} {c c' : Cell} (hz : H'.size = H.size) (ho : ∀ q, q ≠ a → H'[q]? = H[q]?) (h1 : H[a]? = some c) (h2 : H'[a]? = some c') (h3 : c'.slots.size = c.slots.size) : ss b H' = ss b H := by
  unfold ss
  rw [ss_map_get hz (fun q _ => ?_)]
  by_cases hq : q = a
  · subst hq
    rw [h1, h2, Option.map_some, Option.map_some, h3]
  · rw [ho q hq]
theorem ss_push {b n : Nat} {H : Heap} {c : Cell} (hb : b ≤ H.size) (hn : c.slots.size = n) : ss b (H.push c) = ss b H + n := by
  unfold ss
  rw [Array.toList_push, List.map_append, List.drop_append_of_le_length (by simp; exact hb), List.sum_append]
  simp [hn]
theorem push_of {H H' : Heap} {c : Cell} (hz : H'.size = H.size + 1) (h1 : H'[H.size]? = some c) (ho : ∀ q, q < H.size → H'[q]? = H[q]?) : H' = H.push c := by
  apply Array.ext_getElem?
  intro i
  rw [Array.getElem?_push]
  by_cases hi : i = H.size
  · rw [if_pos hi, hi, h1]
  · rw [if_neg hi]
    rcases Nat.lt_or_ge i H.size with h | h
    · exact ho i h
    · rw [Array.getElem?_eq_none (by omega), Array.getElem?_eq_none (by omega)]
theorem ss_split {b : Nat} {Hs H : Heap} (hb : b ≤ Hs.size) (hz : Hs.size ≤ H.size) (hq : ∀ q, q < Hs.size → (H[q]?).map (fun c : Cell => c.slots.size) = (Hs[q]?).map (fun c : Cell => c.slots.size)) : ss b H = ss b Hs + ((H.toList.drop Hs.size).map (fun c : Cell => c.slots.size)).sum := by
  have e : H.toList.map (fun c : Cell => c.slots.size) = Hs.toList.map (fun c : Cell => c.slots.size) ++ ((H.toList.drop Hs.size).map (fun c : Cell => c.slots.size)) := by
    apply List.ext_getElem?
    intro i
    rcases Nat.lt_or_ge i Hs.size with h | h
    · rw [List.getElem?_append_left (by simpa using h), List.getElem?_map, List.getElem?_map, Array.getElem?_toList, Array.getElem?_toList]
      exact hq i h
    · rw [List.getElem?_append_right (by simpa using h), List.getElem?_map, List.getElem?_map, List.getElem?_drop]
      simp only [List.length_map, Array.length_toList]
      rw [show Hs.size + (i - Hs.size) = i by omega]
  unfold ss
  rw [e, List.drop_append_of_le_length (by simpa using hb), List.sum_append]
/-! how the pictures move -/
theorem Rp.cap {G : GG} {h : AH} {H : Heap} (r : Rp G h H) : aC h = gC G := r.2.2.2.2.2.2.2.2.2.2
theorem Rp.size {G : GG} {h : AH} {H : Heap} (r : Rp G h H) : H.size = aZ h := r.1
theorem Rp.nz {G : GG} {h : AH} {H : Heap} (r : Rp G h H) {q : Nat} (hq : aK h q ≠ 0) : q ≠ 0 := (r.2.2.2.1 q hq).1
theorem Rp.lt {G : GG} {h : AH} {H : Heap} (r : Rp G h H) {q : Nat} (hq : aK h q ≠ 0) : q < aZ h := (r.2.2.2.1 q hq).2.1
theorem Rp.hi {G : GG} {h : AH} {H : Heap} (r : Rp G h H) {q : Nat} (hq : aK h q ≠ 0) (h2 : aK h q ≠ 26 ∨ aN h q ≠ 0) : gB G ≤ q := by
  rcases (r.2.2.2.1 q hq).2.2 with z | z
  · exact z
  · omega
theorem Rp.ob {G : GG} {h : AH} {H : Heap} (r : Rp G h H) {q ci : Nat} {C : vw_C} (hc : vwCl[ci]? = some C) (hk : aK h q = ci + 1) : t_OB q ((gD G).1 ci) C.2.2 ((gD G).2 ci) H (fun k => vl (cty ci k) (aI h q k) (aR h q k) (aL h q k)) := (r.2.2.2.2.1 q).1 ci C hc hk
theorem Rp.ar {G : GG} {h : AH} {H : Heap} (r : Rp G h H) {q t : Nat} (ht : t < 7) (hk : aK h q = 20 + t) : ∃ c : Cell, H[q]? = some c ∧ c.cls = gA G t ∧ (∀ k, c.vm ≠ .statics k) ∧ (0 < aN h q → c.vm = .none) ∧ c.slots.size = aN h q ∧ ∀ k, k < aN h q → c.slots[k]? = some (vl (aty t) (aI h q k) (aR h q k) (aL h q k)) := (r.2.2.2.2.1 q).2 t ht hk
theorem vwCl_lt {ci : Nat} {C : vw_C} (hc : vwCl[ci]? = some C) : ci < 13 := (List.getElem?_eq_some_iff.mp hc).1
theorem cA.kept {G : GG} {h h' : AH} {q : Nat} {H H' : Heap} (c : cA G h q H) (hH : H'[q]? = H[q]?) (e1 : aK h' q = aK h q) (e2 : aN h' q = aN h q) (e3 : aI h' q = aI h q) (e4 : aR h' q = aR h q) (e5 : aL h' q = aL h q) : cA G h' q H' := by
  refine ⟨fun ci r hr hk => ?_, fun t ht hk => ?_⟩
  · rw [e3, e4, e5]
    exact (c.1 ci r hr (e1 ▸ hk)).kept hH
  · rw [e2, e3, e4, e5, hH]
    exact c.2 t ht (e1 ▸ hk)
/-- one cell has changed -/
theorem Rp.set {G : GG} {h h' : AH} {H H' : Heap} {a : Nat} {c c' : Cell} (r : Rp G h H) (ha : gB G ≤ a) (hz : H'.size = H.size) (ho : ∀ q, q ≠ a → H'[q]? = H[q]?) (h1 : H[a]? = some c) (h2 : H'[a]? = some c') (h3 : c'.slots.size = c.slots.size)
    (eK : aK h' = aK h) (eN : aN h' = aN h) (eZ : aZ h' = aZ h) (eU : aU h' = aU h) (eI : ∀ q, q ≠ a → aI h' q = aI h q) (eR : ∀ q, q ≠ a → aR h' q = aR h q) (eL : ∀ q, q ≠ a → aL h' q = aL h q) (eE : aE h' = aE h) (eC : aC h' = aC h) (hc : cA G h' a H') : Rp G h' H' := by
  obtain ⟨r1, r2, r3, r4, r5, r6, r7, r8, r9, r10, r11⟩ := r
  refine ⟨by rw [hz, r1, eZ], by rw [eZ]; exact r2, r3, fun q hq => by rw [eZ, eK, eN]; exact r4 q (by rw [← eK]; exact hq), fun q => ?_, fun q hq => ?_, by rw [eU, r7, ss_set hz ho h1 h2 h3], by rw [eZ]; exact r8, by rw [eU]; exact r9, by rw [eE]; exact r10, by rw [eC]; exact r11⟩
  · by_cases hq : q = a
    · rw [hq]; exact hc
    · exact (r5 q).kept (ho q hq) (by rw [eK]) (by rw [eN]) (eI q hq) (eR q hq) (eL q hq)
  · rw [ho q (by omega)]
    exact r6 q hq
/-- one cell is new -/
theorem Rp.new {G : GG} {h : AH} {H H' : Heap} {K n : Nat} {c : Cell} (r : Rp G h H) (hz : H'.size = H.size + 1) (h1 : H'[H.size]? = some c) (ho : ∀ q, q < H.size → H'[q]? = H[q]?) (hn : c.slots.size = n) (hC : aZ h + 1 ≤ aC h) (hS : aU h + n ≤ gS) (hc : cA G (uN h K n) (aZ h) H') : Rp G (uN h K n) H' := by
  obtain ⟨r1, r2, r3, r4, r5, r6, r7, r8, r9, r10, r11⟩ := r
  refine ⟨by rw [hz, r1]; rfl, Nat.le_trans r2 (Nat.le_succ _), r3, fun q hq => ?_, fun q => ?_, fun q hq => ?_, ?_, by rw [← r11]; exact hC, hS, r10, r11⟩
  · by_cases e : q = aZ h
    · exact ⟨by omega, by show q < aZ h + 1; omega, Or.inl (by omega)⟩
    · have h2 : aK (uN h K n) q = aK h q := if_neg e
      have h5 : aN (uN h K n) q = aN h q := if_neg e
      rw [h2] at hq
      have h3 := r4 q hq
      rw [h2, h5]
      exact ⟨h3.1, by show q < aZ h + 1; omega, h3.2.2⟩
  · by_cases e : q = aZ h
    · rw [e]; exact hc
    · rcases Nat.lt_or_ge q H.size with hl | hl
      · exact (r5 q).kept (ho q hl) (if_neg e) (if_neg e) (funext fun j => if_neg e) (funext fun j => if_neg e) (funext fun j => if_neg e)
      · have h2 : aK (uN h K n) q = aK h q := if_neg e
        have h3 : aK h q = 0 := by
          rcases Nat.eq_zero_or_pos (aK h q) with z | z
          · exact z
          · have h4 := r4 q (by omega)
            omega
        exact ⟨fun ci C hC hk => by rw [h2, h3] at hk; omega, fun t ht hk => by rw [h2, h3] at hk; omega⟩
  · rw [ho q (by omega)]
    exact r6 q hq
  · rw [push_of hz h1 ho, ss_push (by omega) hn, ← r7]
    rfl
/-! what is known of the tables -/
def Kk (G : GG) (U : State) : Prop := va_K (gD G) vwCl (gT G) U ∧ vx_Zq Bundle.tN "UNASSIGNED_STACK" Bundle.steD (fun q => gB G ≤ q) U (gH G) ∧ vx_Zq Bundle.tN "SUPPRESSED_SENTINEL" Bundle.listD (fun q => gB G ≤ q) U (gH G) ∧ va_Z "java/util/ArrayList" "DEFAULTCAPACITY_EMPTY_ELEMENTDATA" "[Ljava/lang/Object;" (.ref (gE G)) (fun q => gB G ≤ q) U (gH G) ∧ (gH G).size = gB G
theorem Kk.moved {G : GG} {u U : State} (hvm : u.vm.Alike U.vm) (h : Kk G u) : Kk G U := ⟨va_K.moved hvm h.1, vx_Zq.moved hvm h.2.1, vx_Zq.moved hvm h.2.2.1, va_Z.moved hvm h.2.2.2.1, h.2.2.2.2⟩
theorem Kk.arr {G : GG} {s : State} (hK : Kk G s) {t : Nat} (ht : t < 7) {c : Cell} (h1 : c.cls = gA G t) (h2 : ∀ k, c.vm ≠ .statics k) : s.isArrayOf c (aty t) := by
  obtain ⟨-, k, hk, hkind⟩ := (hK.1.2 t _ (gT_at G ht)).1 0 (fun _ => .null)
  exact ⟨h2, k, by rw [h1]; exact hk, hkind⟩
/-! the counters of new cells and slots are what the sizes say -/
section XEX
variable {p : Program} {l : Launch} {e : Env} {R : Room} {s : State} {m : MethodId} {args : Array Value} {below : List Frame} {meth : Method} {c : Code} {H : Heap} {locs : List Loc} {cells slots : Nat} {Q : State → Prop}
theorem same_exact {G : GG} {hs h : AH} {T : State} {k n : Nat} (rs : Rp G hs s.heap) (r : Rp G h T.heap) (X : s.sameButNew T locs k n) : s.sameButNew T locs (aZ h - aZ hs) (aU h - aU hs) := by
  obtain ⟨x1, x2, x3, x4, x5, x6⟩ := X
  refine ⟨x1, x2, ?_, x4, ?_, x6⟩
  · have h1 := rs.size; have h2 := r.size
    omega
  · have e := ss_split (b := gB G) (Hs := s.heap) (H := T.heap) (by rw [rs.size]; exact rs.2.1) x2 (fun q hq => ?_)
    · have h1 := rs.2.2.2.2.2.2.1; have h2 := r.2.2.2.2.2.2.1
      have e2 : ((T.heap.toList.drop s.heap.size).map (·.slots.size)).sum = ((T.heap.toList.drop s.heap.size).map (fun c : Cell => c.slots.size)).sum := rfl
      rw [e2]
      omega
    · obtain ⟨c', e1, e2, e3, -⟩ := x6 q _ (Array.getElem?_eq_getElem hq)
      rw [e1, Array.getElem?_eq_getElem hq, Option.map_some, Option.map_some, e3]
theorem W_ex {G : GG} {hs h : AH} {g : JFrame} (rs : Rp G hs s.heap) (r : Rp G h H) (k : aZ hs ≤ aZ h → aU hs ≤ aU h → W p l e R s m args below meth c H locs (aZ h - aZ hs) (aU h - aU hs) Q g) : W p l e R s m args below meth c H locs cells slots Q g := by
  intro T hT X
  have r' : Rp G h (T.setVm s.vm).heap := by
    have e0 : (T.setVm s.vm).heap = T.heap := rfl
    rw [e0, hT]; exact r
  have X2 := same_exact rs r' X.same
  have hz : aZ hs ≤ aZ h := by
    have h1 := rs.size; have h2 := r'.size; have h3 := X.same.2.1
    omega
  have hu : aU hs ≤ aU h := by
    have e := ss_split (b := gB G) (Hs := s.heap) (H := (T.setVm s.vm).heap) (by rw [rs.size]; exact rs.2.1) X.same.2.1 (fun q hq => ?_)
    · have h1 := rs.2.2.2.2.2.2.1; have h2 := r'.2.2.2.2.2.2.1
      omega
    · obtain ⟨c', e1, e2, e3, -⟩ := X.same.2.2.2.2.2 q _ (Array.getElem?_eq_getElem hq)
      rw [e1, Array.getElem?_eq_getElem hq, Option.map_some, Option.map_some, e3]
  exact k hz hu T hT { X with same := X2 }
end XEX
end
