
/-! ===== the model: its object m, and its 28 arrays behind it ===== -/
def MdK (h : AH) (m : Nat) : Prop := ((m = 0) = False ∧ aK h m = 13 ∧ aR h m 0 = m + 1 ∧ aK h (m + 1) = 20 ∧ aN h (m + 1) = 450 ∧ aR h m 1 = m + 2 ∧ aK h (m + 2) = 20 ∧ aN h (m + 2) = 450 ∧ aR h m 2 = m + 3 ∧ aK h (m + 3) = 22 ∧ aN h (m + 3) = 450 ∧ aR h m 3 = m + 4 ∧ aK h (m + 4) = 20 ∧ aN h (m + 4) = 3 ∧ aR h m 4 = m + 5 ∧ aK h (m + 5) = 20 ∧ aN h (m + 5) = 3 ∧ aR h m 5 = m + 6 ∧ aK h (m + 6) = 20 ∧ aN h (m + 6) = 15 ∧ aR h m 6 = m + 7 ∧ aK h (m + 7) = 20 ∧ aN h (m + 7) = 3000 ∧ aR h m 7 = m + 8 ∧ aK h (m + 8) = 20 ∧ aN h (m + 8) = 5 ∧ aR h m 8 = m + 9 ∧ aK h (m + 9) = 20 ∧ aN h (m + 9) = 5 ∧ aR h m 9 = m + 10 ∧ aK h (m + 10) = 20 ∧ aN h (m + 10) = 60 ∧ aR h m 10 = m + 11 ∧ aK h (m + 11) = 20 ∧ aN h (m + 11) = 60 ∧ aR h m 11 = m + 12 ∧ aK h (m + 12) = 20 ∧ aN h (m + 12) = 60 ∧ aR h m 12 = m + 13 ∧ aK h (m + 13) = 20 ∧ aN h (m + 13) = 60 ∧ aR h m 13 = m + 14 ∧ aK h (m + 14) = 20 ∧ aN h (m + 14) = 9000 ∧ aR h m 14 = m + 15 ∧ aK h (m + 15) = 20 ∧ aN h (m + 15) = 9000 ∧ aR h m 15 = m + 16 ∧ aK h (m + 16) = 20 ∧ aN h (m + 16) = 9000 ∧ aR h m 16 = m + 17 ∧ aK h (m + 17) = 20 ∧ aN h (m + 17) = 9000 ∧ aR h m 17 = m + 18 ∧ aK h (m + 18) = 20 ∧ aN h (m + 18) = 9000 ∧ aR h m 19 = m + 19 ∧ aK h (m + 19) = 20 ∧ aN h (m + 19) = 60 ∧ aR h m 20 = m + 20 ∧ aK h (m + 20) = 20 ∧ aN h (m + 20) = 60 ∧ aR h m 21 = m + 21 ∧ aK h (m + 21) = 20 ∧ aN h (m + 21) = 60 ∧ aR h m 22 = m + 22 ∧ aK h (m + 22) = 22 ∧ aN h (m + 22) = 60 ∧ aR h m 24 = m + 23 ∧ aK h (m + 23) = 20 ∧ aN h (m + 23) = 3 ∧ aR h m 25 = m + 24 ∧ aK h (m + 24) = 20 ∧ aN h (m + 24) = 3 ∧ aR h m 26 = m + 25 ∧ aK h (m + 25) = 20 ∧ aN h (m + 25) = 3 ∧ aR h m 27 = m + 26 ∧ aK h (m + 26) = 20 ∧ aN h (m + 26) = 450 ∧ aR h m 28 = m + 27 ∧ aK h (m + 27) = 20 ∧ aN h (m + 27) = 150 ∧ aR h m 30 = m + 28 ∧ aK h (m + 28) = 22 ∧ aN h (m + 28) = 150) ∧ m + 28 < aZ h
theorem mdk {h : AH} {m : Nat} (hK : MdK h m) : (m = 0) = False ∧ aK h m = 13 ∧ aR h m 0 = m + 1 ∧ aK h (m + 1) = 20 ∧ aN h (m + 1) = 450 ∧ aR h m 1 = m + 2 ∧ aK h (m + 2) = 20 ∧ aN h (m + 2) = 450 ∧ aR h m 2 = m + 3 ∧ aK h (m + 3) = 22 ∧ aN h (m + 3) = 450 ∧ aR h m 3 = m + 4 ∧ aK h (m + 4) = 20 ∧ aN h (m + 4) = 3 ∧ aR h m 4 = m + 5 ∧ aK h (m + 5) = 20 ∧ aN h (m + 5) = 3 ∧ aR h m 5 = m + 6 ∧ aK h (m + 6) = 20 ∧ aN h (m + 6) = 15 ∧ aR h m 6 = m + 7 ∧ aK h (m + 7) = 20 ∧ aN h (m + 7) = 3000 ∧ aR h m 7 = m + 8 ∧ aK h (m + 8) = 20 ∧ aN h (m + 8) = 5 ∧ aR h m 8 = m + 9 ∧ aK h (m + 9) = 20 ∧ aN h (m + 9) = 5 ∧ aR h m 9 = m + 10 ∧ aK h (m + 10) = 20 ∧ aN h (m + 10) = 60 ∧ aR h m 10 = m + 11 ∧ aK h (m + 11) = 20 ∧ aN h (m + 11) = 60 ∧ aR h m 11 = m + 12 ∧ aK h (m + 12) = 20 ∧ aN h (m + 12) = 60 ∧ aR h m 12 = m + 13 ∧ aK h (m + 13) = 20 ∧ aN h (m + 13) = 60 ∧ aR h m 13 = m + 14 ∧ aK h (m + 14) = 20 ∧ aN h (m + 14) = 9000 ∧ aR h m 14 = m + 15 ∧ aK h (m + 15) = 20 ∧ aN h (m + 15) = 9000 ∧ aR h m 15 = m + 16 ∧ aK h (m + 16) = 20 ∧ aN h (m + 16) = 9000 ∧ aR h m 16 = m + 17 ∧ aK h (m + 17) = 20 ∧ aN h (m + 17) = 9000 ∧ aR h m 17 = m + 18 ∧ aK h (m + 18) = 20 ∧ aN h (m + 18) = 9000 ∧ aR h m 19 = m + 19 ∧ aK h (m + 19) = 20 ∧ aN h (m + 19) = 60 ∧ aR h m 20 = m + 20 ∧ aK h (m + 20) = 20 ∧ aN h (m + 20) = 60 ∧ aR h m 21 = m + 21 ∧ aK h (m + 21) = 20 ∧ aN h (m + 21) = 60 ∧ aR h m 22 = m + 22 ∧ aK h (m + 22) = 22 ∧ aN h (m + 22) = 60 ∧ aR h m 24 = m + 23 ∧ aK h (m + 23) = 20 ∧ aN h (m + 23) = 3 ∧ aR h m 25 = m + 24 ∧ aK h (m + 24) = 20 ∧ aN h (m + 24) = 3 ∧ aR h m 26 = m + 25 ∧ aK h (m + 25) = 20 ∧ aN h (m + 25) = 3 ∧ aR h m 27 = m + 26 ∧ aK h (m + 26) = 20 ∧ aN h (m + 26) = 450 ∧ aR h m 28 = m + 27 ∧ aK h (m + 27) = 20 ∧ aN h (m + 27) = 150 ∧ aR h m 30 = m + 28 ∧ aK h (m + 28) = 22 ∧ aN h (m + 28) = 150 := hK.1
/-- a step that writes the ints of W alone -/
def Pw (W : Nat → Nat → Prop) (h h' : AH) : Prop := aK h' = aK h ∧ aN h' = aN h ∧ aR h' = aR h ∧ aL h' = aL h ∧ aZ h' = aZ h ∧ aU h' = aU h ∧ aE h' = aE h ∧ aC h' = aC h ∧ aM h' = aM h ∧ ∀ q j, ¬ W q j → aI h' q j = aI h q j
theorem pw_rf {W : Nat → Nat → Prop} {h : AH} : Pw W h h := ⟨rfl, rfl, rfl, rfl, rfl, rfl, rfl, rfl, rfl, fun _ _ _ => rfl⟩
theorem pw_tr {W : Nat → Nat → Prop} {h h1 h2 : AH} (x : Pw W h h1) (y : Pw W h1 h2) : Pw W h h2 := by
  obtain ⟨x1, x2, x3, x4, x5, x6, x7, x8, x9, x10⟩ := x
  obtain ⟨y1, y2, y3, y4, y5, y6, y7, y8, y9, y10⟩ := y
  exact ⟨y1.trans x1, y2.trans x2, y3.trans x3, y4.trans x4, y5.trans x5, y6.trans x6, y7.trans x7, y8.trans x8, y9.trans x9, fun q j hq => (y10 q j hq).trans (x10 q j hq)⟩
theorem pw_mono {W W2 : Nat → Nat → Prop} {h h1 : AH} (x : Pw W h h1) (hs : ∀ q j, W q j → W2 q j) : Pw W2 h h1 := by
  obtain ⟨x1, x2, x3, x4, x5, x6, x7, x8, x9, x10⟩ := x
  exact ⟨x1, x2, x3, x4, x5, x6, x7, x8, x9, fun q j hq => x10 q j fun z => hq (hs q j z)⟩
theorem pw_uI {W : Nat → Nat → Prop} {h : AH} {a k : Nat} {v : Int32} (ha : W a k) : Pw W h (uI h a k v) := by
  refine ⟨rfl, rfl, rfl, rfl, rfl, rfl, rfl, rfl, rfl, fun q j hq => ?_⟩
  exact if_neg fun (z : q = a ∧ j = k) => hq (z.1 ▸ z.2 ▸ ha)
theorem pw_pi {W : Nat → Nat → Prop} {S : Nat → Prop} {h h1 : AH} (x : Pw W h h1) (hs : ∀ q j, W q j → S q) : Pi S h h1 := by
  obtain ⟨x1, x2, x3, x4, x5, x6, x7, x8, x9, x10⟩ := x
  exact ⟨x1, x2, x3, x4, x5, x6, x7, x8, x9, fun q hq => funext fun j => x10 q j fun z => hq (hs q j z)⟩
theorem pw_I {W : Nat → Nat → Prop} {h h1 : AH} (x : Pw W h h1) {q j : Nat} (hq : ¬ W q j) : aI h1 q j = aI h q j := x.2.2.2.2.2.2.2.2.2 q j hq
theorem mdK_pw {W : Nat → Nat → Prop} {h h' : AH} {m : Nat} (hK : MdK h m) (x : Pw W h h') : MdK h' m := by
  unfold MdK at hK ⊢
  rw [x.1, x.2.1, x.2.2.1, x.2.2.2.2.1]
  exact hK
/-- what the model keeps for no longer than a call -/
def scW (m q j : Nat) : Prop := (q = m ∧ (j = 29 ∨ j = 31)) ∨ q = m + 27 ∨ q = m + 28
/-- a text's own -/
def txW (m t q j : Nat) : Prop := ((q = m + 1 ∨ q = m + 2 ∨ q = m + 3 ∨ q = m + 26) ∧ 150 * t ≤ j ∧ j < 150 * t + 150) ∨ ((q = m + 4 ∨ q = m + 5 ∨ q = m + 23 ∨ q = m + 24 ∨ q = m + 25) ∧ j = t) ∨ (q = m + 6 ∧ 5 * t ≤ j ∧ j < 5 * t + 5)
def hdW (m a q j : Nat) : Prop := (q = m + 7 ∧ 600 * a ≤ j ∧ j < 600 * a + 600) ∨ ((q = m + 8 ∨ q = m + 9) ∧ j = a)
def fmW (m f q j : Nat) : Prop := (m + 10 ≤ q ∧ q ≤ m + 13 ∧ j = f) ∨ (m + 14 ≤ q ∧ q ≤ m + 18 ∧ 150 * f ≤ j ∧ j < 150 * f + 150)
def svW (m s q j : Nat) : Prop := m + 19 ≤ q ∧ q ≤ m + 22 ∧ j = s
/-! ===== what it holds ===== -/
def MRw (h : AH) (m t : Nat) (R : Rw) : Prop := aI h (m + 4) t = iI (rn R) ∧ ∀ i, i < rn R → aI h (m + 1) (150 * t + i) = iI (ro R i) ∧ aI h (m + 2) (150 * t + i) = iI (rs R i) ∧ aI h (m + 3) (150 * t + i) = bI (rt R i)
def MCu (h : AH) (m t : Nat) (C : Nat → Int) : Prop := ∀ j, j < 5 → aI h (m + 6) (5 * t + j) = iI (C j)
def MSv (h : AH) (m t : Nat) (T : Tx) : Prop := aI h (m + 5) t = xV T ∧ aI h (m + 23) t = iI (xL T) ∧ aI h (m + 24) t = xW T ∧ aI h (m + 25) t = iI (xN T) ∧ ∀ j, j < xN T → aI h (m + 26) (150 * t + j) = iI (xS T j)
def MTx (h : AH) (m t : Nat) (T : Tx) : Prop := MRw h m t (xR T) ∧ MCu h m t (xC T) ∧ MSv h m t T
def aco (x : Ac) : Int := 1000 * (x.1 : Int) + ((if x.2.2 = true then 0 else 500) + (x.2.1 : Int))
def MHd (h : AH) (m a : Nat) (A : Hd) : Prop := aI h (m + 8) a = iI A.2 ∧ aI h (m + 9) a = iI ((A.1.length : Int) - A.2) ∧ ∀ k x, A.1[k]? = some x → aI h (m + 7) (600 * a + k) = iI (aco x)
def bcm (w : Int) : Int := if w = 1 then 0 else w
def MCh (h : AH) (m g : Nat) (k : Ch) : Prop := aI h (m + 14) g = iI k.1.1 ∧ aI h (m + 16) g = iI (bcm k.1.2.2) ∧ aI h (m + 17) g = iI k.2.1 ∧ aI h (m + 18) g = iI k.2.2
def MFm (h : AH) (m f : Nat) (F : Fm) : Prop := aI h (m + 10) f = iI (fT F) ∧ aI h (m + 11) f = iI (fS F) ∧ aI h (m + 12) f = iI (fC F).length ∧ (fS F = 1 → aI h (m + 13) f = iI (fW F)) ∧ (fS F = 2 → fW F = (fC F).length) ∧ ∀ k, k < (fC F).length → MCh h m (150 * f + k) (crd (fC F) k) ∧ (fS F = 0 → aI h (m + 15) (150 * f + k) = iI (crd (fC F) k).1.2.1)
def MFs (h : AH) (m : Nat) (Fs : List Fm) : Prop := aI h m 18 = iI Fs.length ∧ ∀ f F, Fs[f]? = some F → MFm h m f F
def MSs (h : AH) (m : Nat) (ss : List (Sv × Bool)) : Prop := aI h m 23 = iI ss.length ∧ (∀ k x, ss[k]? = some x → x.1.1 = k ∧ x.1.2.1 < 5 ∧ x.1.2.2.1 < 3 ∧ -1 ≤ x.1.2.2.2 ∧ aI h (m + 19) k = iI x.1.2.1 ∧ aI h (m + 20) k = iI x.1.2.2.1 ∧ aI h (m + 21) k = iI x.1.2.2.2 ∧ aI h (m + 22) k = bI x.2) ∧ ∀ k, ss.length ≤ k → k < 60 → aI h (m + 22) k = bI false
def unw (ss : List (Sv × Bool)) : List Sv := (ss.filter (fun x => !x.2)).map (fun x => x.1)
def MQs (h : AH) (m : Nat) (S : Cs) : Prop := ∃ ss, MSs h m ss ∧ ss.length = cN S ∧ cQ S = unw ss ∧ ∀ x ∈ ss, x.1.2.2.2 < (cF S).length
def MdR (h : AH) (m : Nat) (S : Cs) : Prop := MdK h m ∧ (∀ t, t < 3 → MTx h m t (cX S t)) ∧ (∀ a, a < 5 → MHd h m a (cH S a)) ∧ MFs h m (cF S) ∧ MQs h m S
theorem mRw_pw {W : Nat → Nat → Prop} {h h' : AH} {m t : Nat} {R : Rw} (hr : MRw h m t R) (hn : rn R ≤ 150) (x : Pw W h h') (hd : ∀ q j, W q j → ¬ txW m t q j) : MRw h' m t R := by
  have nw : ∀ q j, txW m t q j → ¬ W q j := fun q j z w => hd q j w z
  unfold MRw
  rw [pw_I x (nw (m + 4) t (by unfold txW; omega))]
  refine ⟨hr.1, fun i hi => ?_⟩
  rw [pw_I x (nw (m + 1) (150 * t + i) (by unfold txW; omega)), pw_I x (nw (m + 2) (150 * t + i) (by unfold txW; omega)), pw_I x (nw (m + 3) (150 * t + i) (by unfold txW; omega))]
  exact hr.2 i hi
theorem mCu_pw {W : Nat → Nat → Prop} {h h' : AH} {m t : Nat} {C : Nat → Int} (hr : MCu h m t C) (x : Pw W h h') (hd : ∀ q j, W q j → ¬ txW m t q j) : MCu h' m t C := by
  intro j hj
  rw [pw_I x (fun w => hd _ _ w (by unfold txW; omega))]
  exact hr j hj
theorem mSv_pw {W : Nat → Nat → Prop} {h h' : AH} {m t : Nat} {T : Tx} (hr : MSv h m t T) (hn : xN T ≤ 150) (x : Pw W h h') (hd : ∀ q j, W q j → ¬ txW m t q j) : MSv h' m t T := by
  have nw : ∀ q j, txW m t q j → ¬ W q j := fun q j z w => hd q j w z
  unfold MSv
  rw [pw_I x (nw (m + 5) t (by unfold txW; omega)), pw_I x (nw (m + 23) t (by unfold txW; omega)), pw_I x (nw (m + 24) t (by unfold txW; omega)), pw_I x (nw (m + 25) t (by unfold txW; omega))]
  refine ⟨hr.1, hr.2.1, hr.2.2.1, hr.2.2.2.1, fun j hj => ?_⟩
  rw [pw_I x (nw (m + 26) (150 * t + j) (by unfold txW; omega))]
  exact hr.2.2.2.2 j hj
theorem mTx_pw {W : Nat → Nat → Prop} {h h' : AH} {m t : Nat} {T : Tx} (hr : MTx h m t T) (hn : rn (xR T) ≤ 150) (hn2 : xN T ≤ 150) (x : Pw W h h') (hd : ∀ q j, W q j → ¬ txW m t q j) : MTx h' m t T := ⟨mRw_pw hr.1 hn x hd, mCu_pw hr.2.1 x hd, mSv_pw hr.2.2 hn2 x hd⟩
theorem mHd_pw {W : Nat → Nat → Prop} {h h' : AH} {m a : Nat} {A : Hd} (hr : MHd h m a A) (hn : A.1.length ≤ 600) (x : Pw W h h') (hd : ∀ q j, W q j → ¬ hdW m a q j) : MHd h' m a A := by
  have nw : ∀ q j, hdW m a q j → ¬ W q j := fun q j z w => hd q j w z
  unfold MHd
  rw [pw_I x (nw (m + 8) a (by unfold hdW; omega)), pw_I x (nw (m + 9) a (by unfold hdW; omega))]
  refine ⟨hr.1, hr.2.1, fun k y hk => ?_⟩
  have hl := (List.getElem?_eq_some_iff.mp hk).1
  rw [pw_I x (nw (m + 7) (600 * a + k) (by unfold hdW; omega))]
  exact hr.2.2 k y hk
theorem mCh_pw {W : Nat → Nat → Prop} {h h' : AH} {m g : Nat} {k : Ch} (hr : MCh h m g k) (x : Pw W h h') (hd : ∀ q, m + 14 ≤ q → q ≤ m + 18 → ¬ W q g) : MCh h' m g k := by
  unfold MCh
  rw [pw_I x (hd (m + 14) (by omega) (by omega)), pw_I x (hd (m + 16) (by omega) (by omega)), pw_I x (hd (m + 17) (by omega) (by omega)), pw_I x (hd (m + 18) (by omega) (by omega))]
  exact hr
theorem mFm_pw {W : Nat → Nat → Prop} {h h' : AH} {m f : Nat} {F : Fm} (hr : MFm h m f F) (hn : (fC F).length ≤ 150) (x : Pw W h h') (hd : ∀ q j, W q j → ¬ fmW m f q j) : MFm h' m f F := by
  have nw : ∀ q j, fmW m f q j → ¬ W q j := fun q j z w => hd q j w z
  unfold MFm
  rw [pw_I x (nw (m + 10) f (by unfold fmW; omega)), pw_I x (nw (m + 11) f (by unfold fmW; omega)), pw_I x (nw (m + 12) f (by unfold fmW; omega)), pw_I x (nw (m + 13) f (by unfold fmW; omega))]
  refine ⟨hr.1, hr.2.1, hr.2.2.1, hr.2.2.2.1, hr.2.2.2.2.1, fun k hk => ?_⟩
  rw [pw_I x (nw (m + 15) (150 * f + k) (by unfold fmW; omega))]
  exact ⟨mCh_pw (hr.2.2.2.2.2 k hk).1 x fun q z1 z2 => nw q _ (by unfold fmW; omega), (hr.2.2.2.2.2 k hk).2⟩
theorem mSs_pw {W : Nat → Nat → Prop} {h h' : AH} {m : Nat} {ss : List (Sv × Bool)} (hr : MSs h m ss) (x : Pw W h h') (h23 : ¬ W m 23) (hd : ∀ q j, m + 19 ≤ q → q ≤ m + 22 → ¬ W q j) : MSs h' m ss := by
  unfold MSs
  rw [pw_I x h23]
  refine ⟨hr.1, fun k y hk => ?_, fun k k1 k2 => ?_⟩
  · rw [pw_I x (hd (m + 19) k (by omega) (by omega)), pw_I x (hd (m + 20) k (by omega) (by omega)), pw_I x (hd (m + 21) k (by omega) (by omega)), pw_I x (hd (m + 22) k (by omega) (by omega))]
    exact hr.2.1 k y hk
  · rw [pw_I x (hd (m + 22) k (by omega) (by omega))]
    exact hr.2.2 k k1 k2
/-! ===== what holds of the class's state by itself ===== -/
def RwG (R : Rw) : Prop := rn R ≤ 150 ∧ (∀ i, i < rn R → ro R i < rn R ∧ 0 ≤ rs R i ∧ rs R i ≤ 65535) ∧ RwP R
def TxG (T : Tx) : Prop := RwG (xR T) ∧ (∀ j, j < 5 → -1 ≤ xC T j ∧ xC T j < rn (xR T)) ∧ xN T ≤ 150 ∧ (∀ j, j < xN T → 0 ≤ xS T j ∧ xS T j ≤ 65535) ∧ -1 ≤ xL T ∧ xL T < 5
theorem txG_of {h : AH} {t i : Nat} {T : Tx} (hT : TxR h t i T) : TxG T := by
  obtain ⟨b1, b2, b3, b4, b5⟩ := hT
  obtain ⟨i1, i2, i3, i4, i5, i6, i7, i8, i9⟩ := b3
  exact ⟨⟨b2.2.2.1, fun i hi => ⟨(b2.2.2.2 i hi).2.1, (b2.2.2.2 i hi).2.2.2.1, (b2.2.2.2 i hi).2.2.2.2.1⟩, b5.1⟩, b5.2.2, i6, fun j hj => (i7 j hj).2, i9⟩
def FmG (F : Fm) : Prop := fT F < 3 ∧ 0 ≤ fS F ∧ fS F ≤ 2 ∧ 0 ≤ fW F ∧ fW F ≤ 150 ∧ (fC F).length ≤ 150 ∧ ∀ k ∈ fC F, ChP k
def CsG (S : Cs) : Prop := (∀ t, t < 3 → TxG (cX S t)) ∧ (∀ a, a < 5 → (cH S a).2 ≤ (cH S a).1.length ∧ (cH S a).1.length ≤ 512) ∧ (∀ F ∈ cF S, FmG F ∧ FmP S F) ∧ cN S ≤ 60 ∧ (cF S).length ≤ 60 ∧ (cQ S).length ≤ 60
theorem csG_of {h : AH} {c : Nat} {S : Cs} (hC : CkR h c S) : CsG S := by
  obtain ⟨hK, hW, hP, hN, hX, hH, hF, hs1, hs2, hf1, hq1, hfp⟩ := hC
  refine ⟨fun t ht => txG_of (hX t ht), fun a ha => ⟨(hH a ha).2.2.2.2.2.1, (hH a ha).2.2.2.2.2.2.1⟩, fun F hF2 => ⟨?_, hfp F hF2⟩, hs2, hf1, hq1⟩
  obtain ⟨fs, qs, f1, f2, -⟩ := hF
  obtain ⟨i, hi, e⟩ := List.getElem_of_mem hF2
  have hf := f2.2 i F (by rw [List.getElem?_eq_getElem hi, e])
  have hp := hfp F hF2
  exact ⟨hp.1, hp.2.1, hp.2.2.1, hp.2.2.2.1, hp.2.2.2.2.1, hf.2.2.2.2.2.2.1, hf.2.2.2.2.2.2.2.1⟩
/-! ===== small methods ===== -/
theorem bI_00 (b : Bool) : (bI b = (0 : Int32)) = (b = false) := by rw [j_0, bI_0]
theorem j_lt0 {a : Int} (h1 : -2147483648 ≤ a) (h2 : a < 2147483648) : (iI a < (0 : Int32)) = (a < 0) := by rw [j_0, j_lt h1 h2 (by decide) (by decide)]
theorem j_le0 {a : Int} (h1 : -2147483648 ≤ a) (h2 : a < 2147483648) : (iI a ≤ (0 : Int32)) = (a ≤ 0) := by rw [j_0, j_le h1 h2 (by decide) (by decide)]
def gcd3 (a b c : Bool) : Int := if a = false then 1 else if b = false then 2 else if c = false then 3 else 0
theorem g_goes {h : AH} {m : Nat} (hK : MdK h m) (a b c : Bool) : p_X11_goes m (bI a) (bI b) (bI c) h = some (bI (a && b && c), uI h m 31 (iI (gcd3 a b c))) := by
  have k0 := hK.1.1
  have k1 := hK.1.2.1
  unfold p_X11_goes p_X11_goes_0 p_X11_goes_26 p_X11_goes_41
  simp (disch := omega) only [ck_t, nm_q, bR_s, j_add, j_sub, j_mul, j_nI, j_0, j_le, j_lt, j_eq, j_nat, j_ixe, bI_0, and_self, and_true, true_and, ne_eq, not_false_eq_true, not_true_eq_false, ite_true, ite_false, if_true, if_false, ck_p z_0, ck_p z_1, K_uI, N_uI, R_uI, L_uI, Z_uI, U_uI, E_uI, C_uI, M_uI, Int.toNat_natCast, k0, k1, w_I1]
  cases a
  · rw [if_pos rfl, if_neg (by decide)]; rfl
  · rw [if_neg (by decide)]
    cases b
    · rw [if_pos rfl, if_neg (by decide)]; rfl
    · rw [if_neg (by decide)]
      cases c
      · rw [if_pos rfl, if_neg (by decide)]; rfl
      · rw [if_neg (by decide)]; rfl
theorem g_goes1 {h : AH} {m : Nat} (hK : MdK h m) (a : Bool) : p_X11_goes m (bI a) (iI 1) (iI 1) h = some (bI a, uI h m 31 (iI (gcd3 a true true))) := by
  have e := g_goes hK a true true
  rw [Bool.and_true, Bool.and_true] at e
  exact e
theorem g_goes2 {h : AH} {m : Nat} (hK : MdK h m) (a b : Bool) : p_X11_goes m (bI a) (bI b) (iI 1) h = some (bI (a && b), uI h m 31 (iI (gcd3 a b true))) := by
  have e := g_goes hK a b true
  rw [Bool.and_true] at e
  exact e
theorem g_isBelow {h : AH} {z w : Int} (z1 : -2147483648 ≤ z) (z2 : z < 2147483648) (w1 : -2147483648 ≤ w) (w2 : w < 2147483648) : p_X11_isBelow (iI z) (iI w) h = some (bI (decide (0 ≤ z ∧ z < w)), h) := by
  unfold p_X11_isBelow p_X11_isBelow_0 p_X11_isBelow_13 p_X11_isBelow_14
  simp (disch := omega) only [ck_t, nm_q, bR_s, j_add, j_sub, j_mul, j_nI, j_0, j_le, j_lt, j_eq, j_nat, j_ixe, bI_0, and_self, and_true, true_and, ne_eq, not_false_eq_true, not_true_eq_false, ite_true, ite_false, if_true, if_false, ck_p z_0, ck_p z_1, K_uI, N_uI, R_uI, L_uI, Z_uI, U_uI, E_uI, C_uI, M_uI, Int.toNat_natCast]
  by_cases c1 : z < 0
  · rw [if_pos c1, decide_eq_false (by omega)]; rfl
  · rw [if_neg c1]
    by_cases c2 : w ≤ z
    · rw [if_pos c2, decide_eq_false (by omega)]; rfl
    · rw [if_neg c2, decide_eq_true (by omega)]; rfl
theorem g_isHand {h : AH} {a b : Int} (a1 : -2147483648 ≤ a) (a2 : a < 2147483648) (b1 : -2147483648 ≤ b) (b2 : b < 2147483648) : p_X11_isHand (iI a) (iI b) h = some (bI (decide (hOk a ∧ tOk b)), h) := by
  unfold p_X11_isHand p_X11_isHand_0 p_X11_isHand_20 p_X11_isHand_21
  rw [bR_e (g_isBelow a1 a2 (by decide) (by decide)), ifc (bI_00 _)]
  by_cases c1 : hOk a
  · rw [if_neg (by rw [decide_eq_true c1]; decide), bR_e (g_isBelow b1 b2 (by decide) (by decide)), ifc (bI_00 _)]
    by_cases c2 : tOk b
    · rw [if_neg (by rw [decide_eq_true c2]; decide), decide_eq_true ⟨c1, c2⟩, ck_p z_1]; rfl
    · rw [if_pos (decide_eq_false c2), decide_eq_false (fun w => c2 w.2), ck_p z_0]; rfl
  · rw [if_pos (decide_eq_false c1), decide_eq_false (fun w => c1 w.1), ck_p z_0]; rfl
theorem g_isText {h : AH} {b : Int} (b1 : -2147483648 ≤ b) (b2 : b < 2147483648) : p_X11_isText (iI b) h = some (bI (decide (tOk b)), h) := by
  unfold p_X11_isText p_X11_isText_0
  rw [bR_e (g_isBelow b1 b2 (by decide) (by decide)), ck_p (bI_z _)]
theorem g_isLetter {h : AH} {z : Int} (z1 : 0 ≤ z) (z2 : z ≤ 65535) : p_X11_isLetter (iI z) h = some (bI (isLet z), h) := by
  unfold p_X11_isLetter p_X11_isLetter_0 p_X11_isLetter_12 p_X11_isLetter_24 p_X11_isLetter_36 p_X11_isLetter_48 p_X11_isLetter_53 isLet
  simp (disch := omega) only [ck_t, nm_q, bR_s, j_add, j_sub, j_mul, j_nI, j_0, j_le, j_lt, j_eq, j_nat, j_ixe, bI_0, and_self, and_true, true_and, ne_eq, not_false_eq_true, not_true_eq_false, ite_true, ite_false, if_true, if_false, ck_p z_0, ck_p z_1, K_uI, N_uI, R_uI, L_uI, Z_uI, U_uI, E_uI, C_uI, M_uI, Int.toNat_natCast]
  by_cases c : (97 ≤ z ∧ z ≤ 122) ∨ (65 ≤ z ∧ z ≤ 90) ∨ (48 ≤ z ∧ z ≤ 57) ∨ z = 32 ∨ z = 47
  · rw [decide_eq_true c]
    show _ = some (iI 1, h)
    repeat' split
    all_goals first | rfl | omega
  · rw [decide_eq_false c]
    show _ = some (iI 0, h)
    repeat' split
    all_goals first | rfl | omega
theorem g_thrown {h : AH} {m : Nat} (hK : MdK h m) : p_X11_thrown m h = some (aI h m 31, h) := by
  have k0 := hK.1.1
  have k1 := hK.1.2.1
  unfold p_X11_thrown p_X11_thrown_0
  simp only [k0, k1, ne_eq, not_false_eq_true, ck_t]

