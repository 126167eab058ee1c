
theorem ck_addF {h h' : AH} {c f : Nat} {S : Cs} {F : Fm} {fs qs : List Nat} (hC : CkR h c S) (f1 : LsR h (c + 3) fs) (f2 : Al (FmR (tcc c) h) fs (cF S)) (f3 : ∀ f ∈ fs, c + 62 < aR h f 1) (f4 : ndp fs) (f5 : LsR h (c + 4) qs) (f6 : Al (SvR c fs h) qs (cQ S)) (f7 : ndp qs ∧ lc h (c + 3) ≤ 98 ∧ lc h (c + 4) ≤ 98) (p : Prs (lS h (c + 3)) h h') (hw : Wf h') (g1 : LsR h' (c + 3) (fs ++ [f])) (glc : lc h' (c + 3) ≤ 98) (hF : FmR (tcc c) h f F) (hd : c + 62 < aR h f 1) (hn : ∀ y ∈ fs, y ≠ f) (hP : FmP S F) (hlen : (cF S).length < 60) : CkR h' c (cX S, cH S, cF S ++ [F], cQ S, cN S) := by
  obtain ⟨b1, b2, b3, b4, b5, b6, b7, b8⟩ := ck_addL hC (Or.inl rfl) f1 p
  have fm : ∀ x G, FmR (tcc c) h x G → c + 62 < aR h x 1 → FmR (tcc c) h' x G ∧ aR h' x = aR h x := by
    intro x G hG hx
    obtain ⟨a1, a2, a3, a4, a5, a6, a7, a8, ys, l1, l2, l3⟩ := hG
    obtain ⟨w1, w2, w3⟩ := b8 x a2 (by omega) (by omega)
    have hz := p.1
    refine ⟨?_, w3⟩
    unfold FmR
    rw [w1, w2, w3]
    refine ⟨a1, by omega, a3, a4, a5, a6, a7, a8, ys, (b7 _ _ l1 (by omega) (by omega)).1, al_mono l2 fun y k _ z => ?_, l3⟩
    obtain ⟨d1, d2, d3, d4⟩ := z
    obtain ⟨u1, u2, u3⟩ := b8 y d2 (by omega) (by omega)
    unfold ChR
    rw [u1, u2]
    exact ⟨d1, by omega, d3, d4⟩
  have q4 := b7 _ _ f5 (by omega) (by omega)
  refine ⟨b1, hw, b2, b3, b4, b5, ⟨fs ++ [f], qs, g1, al_app (al_mono f2 fun x G hx z => (fm x G z (f3 x hx)).1) (fm f F hF hd).1, fun x hx => ?_, ndp_app f4 hn, q4.1, al_mono f6 fun x s _ z => ?_, f7.1, glc, by rw [q4.2]; exact f7.2.2⟩, b6, hC.2.2.2.2.2.2.2.2.1, ?_, hC.2.2.2.2.2.2.2.2.2.2.1, fun G hG => ?_⟩
  · rcases List.mem_append.mp hx with z | z
    · obtain ⟨i, G, -, -, -, hG⟩ := al_in f2 z
      rw [(fm x G hG (f3 x z)).2]; exact f3 x z
    · rw [List.mem_singleton.mp z, (fm f F hF hd).2]; exact hd
  · obtain ⟨a1, a2, a3, a4, a5, a6, a7, a8, a9, a10, a11, a12⟩ := z
    obtain ⟨u1, u2, u3⟩ := b8 x a2 (by omega) (by omega)
    have hz := p.1
    unfold SvR
    rw [u1, u2, u3, List.length_append, List.length_singleton]
    refine ⟨a1, by omega, a3, a4, a5, a6, ?_, a8, a9, a10, a11, by omega⟩
    rw [a7]
    by_cases c0 : s.2.2.2 < 0
    · rw [if_pos c0, if_pos c0]
    · rw [if_neg c0, if_neg c0, gd_1 (by omega)]
  · show (cF S ++ [F]).length ≤ 60
    rw [List.length_append, List.length_singleton]; omega
  · have hG' : G ∈ cF S ++ [F] := hG
    rcases List.mem_append.mp hG' with z | z
    · exact hC.2.2.2.2.2.2.2.2.2.2.2 G z
    · rw [List.mem_singleton.mp z]; exact hP
theorem ck_addQ {h h' : AH} {c x : Nat} {S : Cs} {s : Sv} {fs qs : List Nat} (hC : CkR h c S) (f1 : LsR h (c + 3) fs) (f2 : Al (FmR (tcc c) h) fs (cF S)) (f3 : ∀ f ∈ fs, c + 62 < aR h f 1) (f4 : ndp fs) (f5 : LsR h (c + 4) qs) (f6 : Al (SvR c fs h) qs (cQ S)) (f7 : ndp qs ∧ lc h (c + 3) ≤ 98 ∧ lc h (c + 4) ≤ 98) (p : Prs (lS h (c + 4)) h h') (hw : Wf h') (g1 : LsR h' (c + 4) (qs ++ [x])) (glc : lc h' (c + 4) ≤ 98) (hs : SvR c fs h x s) (hn : ∀ y ∈ qs, y ≠ x) (hlen : (cQ S).length < 60) : CkR h' c (cX S, cH S, cF S, cQ S ++ [s], cN S) := by
  obtain ⟨b1, b2, b3, b4, b5, b6, b7, b8⟩ := ck_addL hC (Or.inr rfl) f5 p
  have fm : ∀ x G, FmR (tcc c) h x G → c + 62 < aR h x 1 → FmR (tcc c) h' x G ∧ aR h' x = aR h x := by
    intro x G hG hx
    obtain ⟨a1, a2, a3, a4, a5, a6, a7, a8, ys, l1, l2, l3⟩ := hG
    obtain ⟨w1, w2, w3⟩ := b8 x a2 (by omega) (by omega)
    have hz := p.1
    refine ⟨?_, w3⟩
    unfold FmR
    rw [w1, w2, w3]
    refine ⟨a1, by omega, a3, a4, a5, a6, a7, a8, ys, (b7 _ _ l1 (by omega) (by omega)).1, al_mono l2 fun y k _ z => ?_, l3⟩
    obtain ⟨d1, d2, d3, d4⟩ := z
    obtain ⟨u1, u2, u3⟩ := b8 y d2 (by omega) (by omega)
    unfold ChR
    rw [u1, u2]
    exact ⟨d1, by omega, d3, d4⟩
  have sv : ∀ y r, SvR c fs h y r → SvR c fs h' y r := by
    intro y r z
    obtain ⟨a1, a2, a3, a4⟩ := z
    obtain ⟨u1, u2, u3⟩ := b8 y a2 (by omega) (by omega)
    have hz := p.1
    unfold SvR
    rw [u1, u2, u3]
    exact ⟨a1, by omega, a3, a4⟩
  have q3 := b7 _ _ f1 (by omega) (by omega)
  refine ⟨b1, hw, b2, b3, b4, b5, ⟨fs, qs ++ [x], q3.1, al_mono f2 fun y G hy z => (fm y G z (f3 y hy)).1, fun y hy => ?_, f4, g1, al_app (al_mono f6 fun y r _ z => sv y r z) (sv x s hs), ndp_app f7.1 hn, by rw [q3.2]; exact f7.2.1, glc⟩, b6, hC.2.2.2.2.2.2.2.2.1, hC.2.2.2.2.2.2.2.2.2.1, ?_, hC.2.2.2.2.2.2.2.2.2.2.2⟩
  · obtain ⟨i, G, -, -, -, hG⟩ := al_in f2 hy
    rw [(fm y G hG (f3 y hy)).2]; exact f3 y hy
  · show (cQ S ++ [s]).length ≤ 60
    rw [List.length_append, List.length_singleton]; omega

