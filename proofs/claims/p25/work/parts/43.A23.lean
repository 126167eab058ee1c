
/-- an act is remembered, and the place told -/
theorem act_tail {h h2 : AH} {c x a b l : Nat} {S : Cs} {T' : Tx} {bo : Bool} {lv bv : Int32} (hC : CkR h c S) (hb : b < 3) (ha : a < 5) (hT2 : TxR h2 (tcc c b) b T') (hw2 : Wf h2) (p2 : Prs (fun q => tS h (tcc c b) q ∨ aZ h ≤ q) h h2) (hrn : rn (xR (cX S b)) ≤ rn (xR T')) (kx : aK h2 x = 2) (x1 : aZ h ≤ x) (x2 : x < aZ h2) (hst : (cH S a).2 ≤ 511) (elv : lv = iI l) (ebv : bv = bI bo) (hz : aZ h2 + 1 ≤ aC h2) (hu : aU h2 + 7044 ≤ gS) :
    Okp (bR (p_X0_init x (tcc c b) lv bv h2) fun _ h24 => ck (aK h24 (hcc c a) = 6) <| bR (p_X4_remember (hcc c a) x h24) fun _ h27 => ck (aK h27 (tcc c b) = 11) <| bR (p_X9_cursorPlace (tcc c b) (iI a) h27) fun r29 h30 => some ((.ok r29 : Except Nat Int32), h30)) (fun r h' => r = .ok (iI (cpl T' a)) ∧ CkR h' c (cset (cX S) b T', cset (cH S) a ((cH S a).1.take (cH S a).2 ++ [(b, l, bo)], (cH S a).2 + 1), cF S, cQ S, cN S) ∧ Cst c h2 1 7044 h') := by
  subst elv ebv
  have hzz : c + 62 < aZ h := hC.1.2.2.2.2.2.2.2.2.2.2.2.2.2.2
  have et : tcc c b = c + 13 + 12 * b := rfl
  refine ok_bR (f_X0_init (tc := tcc c) (a := b) (b := bo) (by omega) kx x2 (by omega)) ?_
  rintro _ h3 ⟨y1, y2, y3, y4, y5, y6⟩
  obtain ⟨ds, l1, l2⟩ := hT2.2.2.2.1
  have hT3 : TxR h3 (tcc c b) b T' := txR_pr hT2 y2 (fun q z1 z2 => by omega) (fun z => by have := l1.2.2.2.2.1; rw [z] at this; omega) (fun q z => by rw [z]; omega)
  have hC3 := ck_txG hC hb hT3 (y6 hw2) (pr_trN p2 y2 (fun q _ z => Or.inr (by omega))) hrn
  have hA3 := hC3.2.2.2.2.2.1 a ha
  rw [ck_p hA3.2.1]
  have hcp : hcap h3 (hcc c a) ≤ 1761 := by
    obtain ⟨-, -, -, -, -, -, -, ys, m1, -⟩ := hA3
    exact m1.2.2.2.2.2.2.2.2.1
  refine ok_bR (f_X4_remember hA3 hC3.2.1 y1 hst (by omega) (by omega)) ?_
  intro _ h4 st
  have hC4 := ck_hd hC3 ha st
  have hT4 := hC4.2.2.2.2.1 b hb
  rw [ck_p hT4.1.2.1]
  have eT : cX (cX (cset (cX S) b T', cH S, cF S, cQ S, cN S), cset (cH (cset (cX S) b T', cH S, cF S, cQ S, cN S)) a ((cH S a).1.take (cH S a).2 ++ [(b, l, bo)], (cH S a).2 + 1), cF S, cQ S, cN S) b = T' := if_pos rfl
  have e := f_X9_cursorPlace hT4 ha
  rw [bR_e e]
  refine ok_some ⟨?_, hC4, ?_⟩
  · congr 4
  · have s3 : Cst c h2 0 0 h3 := ⟨pr_mono y2 fun q hq z => ?_, by omega, by omega⟩
    · exact cst_mono (cst_tr s3 (cst_hd hA3 ha st)) (by omega) (by omega)
    · unfold cS; rw [z]; omega

