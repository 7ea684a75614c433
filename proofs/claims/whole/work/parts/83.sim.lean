/-! what the pure part owes: a relation R of the class's state and the reference's -/
def EqO (f : OU) (c : Nat) (a : Int32) : Prop := f.1 = c ∧ (c = 0 → f.2.1 = a)
def SideX (x : XS) : Prop := (∀ s, s < 3 → gTk (cN x) s ≤ gOf (cN x) s ∧ gOf (cN x) s ≤ 1000) ∧ TkOK x ∧ (cJ x 5 = 0 ∨ cJ x 5 = 1) ∧ kP (cK x) ≤ (kL (cK x)).length ∧ gHl (cP x) ≤ 2999 ∧ kP (cK x) + (gWi (cP x)).length ≤ 2900 ∧ (∀ s, s < 3 → sId (cS x) s = 0 ∨ sId (cS x) s = 1) ∧ (kL (cK x)).length + (gWi (cN x)).length ≤ 2900 ∧ kC (cK x) ≤ (kL (cK x)).length ∧ hC (cH x) ≤ (hL (cH x)).length
def SideY (y : XS) (Jd : List Nat) (JK : Nat) : Prop := (∀ s, s < 3 → ¬ (-1 : Int32) < -1 - sSl (cS y) s) ∧ (∀ s, s < 3 → gTk (cN y) s ≤ gOf (cN y) s ∧ gOf (cN y) s ≤ (sEv (cS y) s).length ∧ gOf (cN y) s - gTk (cN y) s ≤ 4) ∧ (∀ s, s < 3 → (sEv (cS y) s).length ≤ 40) ∧ kC (cK y) ≤ (kL (cK y)).length ∧ kP (cK y) ≤ (kL (cK y)).length ∧ JK ≤ Jd.length ∧ kP (cK y) + (gWi (cP y)).length ≤ 3900 ∧ (kL (cK y)).length + (gWi (cN y)).length ≤ 3900 ∧ (∀ s, s < 3 → sId (cS y) s = 0 ∨ sId (cS y) s = 1) ∧ (tW (cT y) = 1 ∨ tW (cT y) = 2 ∨ tW (cT y) = 3) ∧ (∀ j ∈ Jd, j / 40 < 3 ∧ j % 40 < (sEv (cS y) (j / 40)).length) ∧ RTk y Jd ∧ (∀ s, s < 3 → gTk (cN y) s ≤ 40 ∧ gOf (cN y) s ≤ (sEv (cS y) s).length ∧ (sEv (cS y) s).length ≤ 40 ∧ bA (cB y) s ≤ 40) ∧ (¬ bU (cB y) = 0 → ∀ s, s < 3 → ¬ bT (cB y) s = 0 → bA (cB y) s = gTk (cN y) s)
abbrev RX : Type := XS → XS → List Nat → Nat → Prop
def QSide (R : RX) : Prop := ∀ x y Jd JK, R x y Jd JK → SideX x ∧ SideY y Jd JK
def QJob (R : RX) : Prop := ∀ x y Jd JK, R x y Jd JK → ∀ p1 p2 p3 p4 p5 p6 : Int32, (p6 = 0 ∨ p6 = 1) → (fJob x p1 p2 p3 p4 p5 p6).1 = (fJob y p1 p2 p3 p4 p5 p6).1 ∧ R (fJob x p1 p2 p3 p4 p5 p6).2 (fJob y p1 p2 p3 p4 p5 p6).2 Jd JK
def QSlack (R : RX) : Prop := ∀ x y Jd JK, R x y Jd JK → ∀ q v, EqO (fSlack x q v) (fSlack y q v).1 (fSlack y q v).2.1 ∧ R (fSlack x q v).2.2 (fSlack y q v).2.2 Jd JK
def QAppend (R : RX) : Prop := ∀ x y Jd JK, R x y Jd JK → ∀ q t kk v, EqO (fAppend x q t kk v) (fAppend y q t kk v).1 (fAppend y q t kk v).2.1 ∧ R (fAppend x q t kk v).2.2 (fAppend y q t kk v).2.2 Jd JK
def QRead (R : RX) : Prop := ∀ x y Jd JK, R x y Jd JK → ∀ q, EqO (fRead x q) (fRead y q).1 (fRead y q).2.1 ∧ R (fRead x q).2.2 (fRead y q).2.2 Jd JK
def QConfirm (R : RX) : Prop := ∀ x y Jd JK, R x y Jd JK → EqO (fConfirm x) (fConfirm y).1 (fConfirm y).2.1 ∧ R (fConfirm x).2.2 (fConfirm y).2.2 Jd JK
def QSW (R : RX) : Prop := ∀ x y Jd JK, R x y Jd JK → ∀ q, EqO (fSourceWatermark x q) (fSourceWatermark y q).1 (fSourceWatermark y q).2.1
def QOff (R : RX) : Prop := ∀ x y Jd JK, R x y Jd JK → ∀ q, EqO (fOffset x q) (fOffset y q).1 (fOffset y q).2.1
def QIn (R : RX) : Prop := ∀ x y Jd JK, R x y Jd JK → ∀ q, EqO (fInChannel x q) (fInChannel y q).1 (fInChannel y q).2.1
def QOpen (R : RX) : Prop := ∀ x y Jd JK, R x y Jd JK → ∀ q, EqO (fOpen x q) (fOpen y q).1 (fOpen y q).2.1
def QSum (R : RX) : Prop := ∀ x y Jd JK, R x y Jd JK → ∀ q t, EqO (fSumAt x q t) (fSumAt y q t).1 (fSumAt y q t).2.1
def rRes (y : XS) (q s w : Int32) : Nat × Int32 := cRes q s w (resN w (lastR q s none ((kL (cK y)).take (kC (cK y)))))
def QRes (R : RX) : Prop := ∀ x y Jd JK, R x y Jd JK → ∀ q s w, EqO (fResult x q s w) (rRes y q s w).1 (rRes y q s w).2
def QAnew (R : RX) : Prop := ∀ x y Jd JK, R x y Jd JK → ∀ q s w, EqO (fResultAnew x q s w) (rRes y q s w).1 (rRes y q s w).2
def rPairs (y : XS) (Jd : List Nat) : Int32 := jc2 (cJ y 4) (Jd.map (jv (cS y))) 0 (Jd.map (jv (cS y)))
def QAsk (R : RX) : Prop := ∀ x y Jd JK, R x y Jd JK → gMk (cN x) = gMk (cN y) ∧ gDr (cN x) = gDr (cN y) ∧ gPa (cN x) = rPairs y Jd ∧ cntA (cJ x 4) 0 [] ((hL (cH x)).map (hE (cS x))) = rPairs y Jd ∧ nI (kL (cK x)).length - nI (kC (cK x)) = nI (kL (cK y)).length - nI (kC (cK y))
def QIdle (R : RX) : Prop := ∀ x y Jd JK, R x y Jd JK → ∀ q v : Int32, (v = 0 ∨ v = 1) → (¬ sIx q < 3 → (fIdle x q v).1 = 1 ∧ R (fIdle x q v).2.2 y Jd JK) ∧ ∀ s, s < 3 → sIx q = s → ∀ W, W.Perm (grR (idX y s v)) → EqO (fIdle x q v) 0 (sId (cS y) s) ∧ R (fIdle x q v).2.2 (grX (idX y s v) W) Jd JK
def QFail (R : RX) : Prop := ∀ x y Jd JK, R x y Jd JK → ∀ W, W.Perm (grR (rRest y)) → (fFail x).2.1 = nI (kP (cK y)) ∧ R (fFail x).2.2 (grX (rRest y) W) (Jd.take JK) JK
def QWork (R : RX) : Prop := ∀ x y Jd JK, R x y Jd JK → ∀ q : Int32, ((q < 1 ∨ ¬ q ≤ 3) → (fWorkers x q).1 = 1 ∧ R (fWorkers x q).2.2 y Jd JK) ∧ (¬ q < 1 → q ≤ 3 → tS (cT y) = 0 → (fWorkers x q).1 = 2 ∧ R (fWorkers x q).2.2 y Jd JK) ∧ (¬ q < 1 → q ≤ 3 → ¬ tS (cT y) = 0 → ∀ W, W.Perm (grR (rRest (setW y q))) → EqO (fWorkers x q) 0 (movN (tW (cT y)) q 6 0 0) ∧ R (fWorkers x q).2.2 (grX (rRest (setW y q)) W) (Jd.take JK) JK)
def QBar (R : RX) : Prop := ∀ x y Jd JK, R x y Jd JK → (¬ bU (cB y) = 0 → (fBarrier x).1 = 1 ∧ R (fBarrier x).2.2 y Jd JK) ∧ (bU (cB y) = 0 → cJ y 5 = 0 → EqO (fBarrier x) 0 (tS (cT y) + 1) ∧ R (fBarrier x).2.2 (rSnap (brN y) (gOf (cN y))) Jd Jd.length) ∧ (bU (cB y) = 0 → ¬ cJ y 5 = 0 → EqO (fBarrier x) 0 (tS (cT y)) ∧ R (fBarrier x).2.2 (brR y) Jd JK)
def QTake (R : RX) : Prop := ∀ x y Jd JK, R x y Jd JK → ∀ q : Int32, (¬ sIx q < 3 → (fTake x q).1 = 1 ∧ R (fTake x q).2.2 y Jd JK) ∧ ∀ s, s < 3 → sIx q = s →
  ((¬ bU (cB y) = 0 → ¬ bT (cB y) s = 0 ∨ ¬ bA (cB y) s = gTk (cN y) s) → (bU (cB y) = 0 ∨ bT (cB y) s = 0 → ¬ gTk (cN y) s < gOf (cN y) s) → (fTake x q).1 = 2 ∧ R (fTake x q).2.2 y Jd JK) ∧
  (¬ bU (cB y) = 0 → bT (cB y) s = 0 → bA (cB y) s = gTk (cN y) s → (¬ isAll (up1 (bT (cB y)) s 1) → EqO (fTake x q) 0 3 ∧ R (fTake x q).2.2 (rTb3 y s) Jd JK) ∧ (isAll (up1 (bT (cB y)) s 1) → EqO (fTake x q) 0 4 ∧ R (fTake x q).2.2 (rTb4 y s) Jd Jd.length)) ∧
  ((¬ bU (cB y) = 0 → bT (cB y) s = 0 ∧ ¬ bA (cB y) s = gTk (cN y) s) → gTk (cN y) s < gOf (cN y) s → ∀ v, (sEv (cS y) s)[gTk (cN y) s]? = some v → ∀ W' Rr W n, AdR (cJ y) v (gMk (cN y)) (gWi (cN y)) W' Rr n → W.Perm (grR (rtk y s (gTk (cN y) s) v W' Rr n)) → EqO (fTake x q) 0 (rAns (gMk (cN y)) v n) ∧ R (fTake x q).2.2 (grX (rtk y s (gTk (cN y) s) v W' Rr n) W) (Jt Jd (gMk (cN y)) s (gTk (cN y) s) v) JK)
def SimR (R : RX) : Prop := QSide R ∧ QJob R ∧ QSlack R ∧ QAppend R ∧ QRead R ∧ QConfirm R ∧ QSW R ∧ QOff R ∧ QIn R ∧ QOpen R ∧ QSum R ∧ QRes R ∧ QAnew R ∧ QAsk R ∧ QIdle R ∧ QFail R ∧ QWork R ∧ QBar R ∧ QTake R
/-! the law's world -/
def LW (E : EV) (sc : Nat → Int32) (N : Nat) (G : GH) (o A : Nat → Nat) (x : XS) (p : Nat) (y : XS) (Jd : List Nat) (JK : Nat) : Prop :=
  StS E G o A x p ∧ (∃ th, MS G (A 31) (bM (A 31)) th y Jd JK) ∧ OutR G o A ∧ (∀ q, A 31 ≤ q → q < A 31 + 35 → o q = A 31) ∧ (∀ j, j < 34 → A j < gz G) ∧ A 31 + 35 ≤ gz G ∧ (gT G (A 33) = 20 ∨ gT G (A 33) = 25) ∧ gN G (A 33) = N ∧ (∀ i, gA G (A 33) i = sc i) ∧ o (A 33) = A 33
section LAW
variable {E : EV} {sc : Nat → Int32} {N : Nat} {G : GH} {Post : Res → GH → Prop} {o A : Nat → Nat} {x y : XS} {p JK : Nat} {Jd : List Nat}
theorem MoS.kp {G G' : GH} {m : Nat} {o o' : Nat → Nat} {S : List Nat} {F : Nat → Int32} {T : Nat → Nat → Int32} (h : MoS G m (bM m) F T) (s : Stq S G o G' o') (ho : ∀ q, m ≤ q → q < m + 35 → o q = m) (hz : m + 35 ≤ gz G) (hS : m ∉ S) : MoS G' m (bM m) F T := by
  have sm : ∀ q, m ≤ q → q < m + 35 → Sm G G' q := fun q h1 h2 => s.sm (by omega) (by rw [ho q h1 h2]; exact hS)
  have qm := sm m (Nat.le_refl _) (by omega)
  have qb : ∀ k, aK k = true → Sm G G' (bM m k) := fun k hk => sm _ (by unfold bM; omega) (by have := (pK_lt k (aK_lt hk) hk).1; unfold bM; omega)
  obtain ⟨⟨a1, a2⟩, a3, a4⟩ := h
  exact ⟨⟨qm.1.trans a1, fun k hk => ⟨(qm.2.2.2.1 _).trans (a2 k hk).1, (qb k hk).1.trans (a2 k hk).2.1, (qb k hk).2.1.trans (a2 k hk).2.2⟩⟩, fun k hk hk' => (qm.2.2.1 _).trans (a3 k hk hk'), fun k hk i => ((qb k hk).2.2.2.2.1 i).trans (a4 k hk i)⟩
theorem LW.cls {G' : GH} {o' : Nat → Nat} {x' : XS} {p' : Nat} (h : LW E sc N G o A x p y Jd JK) (y1 : StS E G' o' A x' p') (y2 : FrL A G o G' o') (y4 : OutR G' o' A) : LW E sc N G' o' A x' p' y Jd JK := by
  obtain ⟨h1, ⟨th, F, T, h2, ab⟩, h3, h4, h5, h6, h7, h8, h9, h10⟩ := h
  obtain ⟨S, hS, s⟩ := y2
  have q := s.sm (h5 33 (by omega)) (by rw [h10]; exact hS 33 (by simp))
  refine ⟨y1, ⟨th, F, T, h2.kp s h4 h6 (hS 31 (by simp)), ab⟩, y4, fun q h1 h2 => (s.ow (by omega)).trans (h4 q h1 h2), fun j hj => Nat.lt_of_lt_of_le (h5 j hj) s.le, Nat.le_trans h6 s.le, ?_, q.2.1.trans h8, fun i => (q.2.2.2.2.1 i).trans (h9 i), (s.ow (h5 33 (by omega))).trans h10⟩
  rw [q.1]; exact h7
theorem MSt.stq {G G' : GH} {m : Nat} {o : Nat → Nat} (hw : Wf G) (s : MSt G m (bM m) G') (ho : ∀ q, m ≤ q → q < m + 35 → o q = m) : Stq [m] G o G' o := by
  refine ⟨fun q hq => ?_, Nat.le_of_eq s.1.symm, fun q hq => ⟨⟨rfl, s.2.2.1 q, s.2.2.2.1 q⟩, fun hn => s.2.2.2.2.2 q (fun c => ?_) (fun k hk c => ?_)⟩⟩
  · rw [s.1]; exact hw q (by rw [← s.2.2.1 q]; exact hq)
  · rw [c, ho m (Nat.le_refl _) (by omega)] at hn; exact hn in1
  · have := (pK_lt k (aK_lt hk) hk).1
    rw [c, ho (bM m k) (by unfold bM; omega) (by unfold bM; omega)] at hn; exact hn in1
theorem LW.ref {G' : GH} {th : Int32} {y' : XS} {J' : List Nat} {JK' : Nat} (hA : InjA A) (h : LW E sc N G o A x p y Jd JK) (y1 : MS G' (A 31) (bM (A 31)) th y' J' JK') (s : MSt G (A 31) (bM (A 31)) G') : LW E sc N G' o A x p y' J' JK' ∧ (∀ i, gL G' (A 32) i = gL G (A 32) i) ∧ ∀ p', Cs G p G' p' ↔ Cs G p G p' := by
  obtain ⟨h1, -, h3, h4, h5, h6, h7, h8, h9, h10⟩ := h
  have s2 : Stq ([31].map A) G o G' o := s.stq h1.wf h4
  have q33 := s2.sm (h5 33 (by omega)) (by rw [h10]; exact hA.nj (by omega) (by decide) (by decide))
  have q32 := s2.sm (h5 32 (by omega)) (by rw [h3.2.2.1]; exact hA.nj (by omega) (by decide) (by decide))
  refine ⟨⟨h1.ot hA s2 (by decide), ⟨th, y1⟩, h3.stp s2, h4, fun j hj => by rw [s.1]; exact h5 j hj, by rw [s.1]; exact h6, ?_, q33.2.1.trans h8, fun i => (q33.2.2.2.2.1 i).trans (h9 i), h10⟩, fun i => q32.2.2.2.2.2.2 i, fun p' => ?_⟩
  · rw [q33.1]; exact h7
  · unfold Cs; rw [s.1, s.2.1]
end LAW
