section LAWST
variable {x : XS}
theorem fSourceWatermark_st {q : Int32} : (fSourceWatermark x q).2.2 = x := by
  unfold fSourceWatermark
  repeat' split
  all_goals rfl
theorem fOffset_st {q : Int32} : (fOffset x q).2.2 = x := by
  unfold fOffset
  repeat' split
  all_goals rfl
theorem fInChannel_st {q : Int32} : (fInChannel x q).2.2 = x := by
  unfold fInChannel
  repeat' split
  all_goals rfl
theorem fOpen_st {q : Int32} : (fOpen x q).2.2 = x := by
  unfold fOpen
  repeat' split
  all_goals rfl
theorem fSumAt_st {q t : Int32} : (fSumAt x q t).2.2 = x := by
  unfold fSumAt
  repeat' split
  all_goals rfl
theorem fResult_st {q s w : Int32} : (fResult x q s w).2.2 = x := by
  unfold fResult
  repeat' split
  all_goals rfl
theorem fResultAnew_st {q s w : Int32} : (fResultAnew x q s w).2.2 = x := by
  unfold fResultAnew
  repeat' split
  all_goals rfl
end LAWST
section LAWOP
variable {E : EV} {sc : Nat → Int32} {N i : Nat} {G : GH} {Post : Res → GH → Prop} {o A : Nat → Nat} {x y : XS} {p JK : Nat} {Jd : List Nat} {R : RX}
abbrev LL (A : Nat → Nat) (i : Nat) : List (Option Value) := [some (.ref (A 33)), some (.ref (A 0)), some (.ref (A 31)), some (.ref (A 32)), some (.int (nI i)), none, none]
abbrev NX (E : EV) (A : Nat → Nat) (i : Nat) (Post : Res → GH → Prop) (G : GH) : Prop := J E 14 m_La_law 23 [some (.ref (A 33)), some (.ref (A 0)), some (.ref (A 31)), some (.ref (A 32)), some (.int (nI i + 7)), none, none] [] G Post
abbrev KN (E : EV) (sc : Nat → Int32) (N i : Nat) (G : GH) (A : Nat → Nat) (p : Nat) (R : RX) (Post : Res → GH → Prop) : Prop := ∀ G' o' p' x' y' J' JK', LW E sc N G' o' A x' p' y' J' JK' → R x' y' J' JK' → Cs G p G' (p' + 1) → NX E A i Post G'
theorem lg_self (v : Int64) : lg_cmp v v = 0 := by
  unfold lg_cmp
  simp
theorem LW.arg (hW : LW E sc N G o A x p y Jd JK) (hi : i + 7 ≤ N) (hN : N ≤ 3584) (k : Nat) (hk : k ≤ 6) : IX (nI i + nI k) (i + k) (gN G (A 33)) := by
  rw [nI_add, hW.2.2.2.2.2.2.2.1]
  exact IX.nI (by omega) (by omega)
/-- the law compares codes and answers -/
theorem fin1 {G2 : GH} {c : Nat} {a z : Int32} {o2 : Nat → Nat} {x2 y2 : XS} {p2 JK2 : Nat} {J2 : List Nat} (hW : LW E sc N G2 o2 A x2 p2 y2 J2 JK2) (hm : MS G2 (A 31) (bM (A 31)) (nI c) y2 J2 JK2) (hc : c ≤ 9) (hg : c = 0 → gL G2 (A 32) 0 = Int32.toInt64 a) (hz : c = 0 → z = a) (K : NX E A i Post G2) :
    gT G2 (A 31) = 11 ∧ ((gI G2 640 (A 31)) = nI c → (¬ nI c = 0 → NX E A i Post G2) ∧ (nI c = 0 → gT G2 (A 32) = 22 ∧ IX (0 : Int32) 0 (gN G2 (A 32)) ∧ ((lg_cmp ((gL G2 (A 32) 0)) ((Int32.toInt64 z))) = 0 → NX E A i Post G2) ∧ (¬ (lg_cmp ((gL G2 (A 32) 0)) ((Int32.toInt64 z))) = 0 → Post (.inl (some (.int ((0 : Int32))))) G2))) ∧ (¬ (gI G2 640 (A 31)) = nI c → Post (.inl (some (.int ((0 : Int32))))) G2) := by
  obtain ⟨F, T, h1, ha⟩ := hm
  have e : gI G2 640 (A 31) = nI c := (h1.int 0 (by decide) (by decide)).trans ha.1
  refine ⟨h1.tg, fun _ => ⟨fun _ => K, fun h0 => ?_⟩, fun z => absurd e z⟩
  have c0 : c = 0 := (nI_eq (a := c) (b := 0) (by omega) (by omega)).mp h0
  refine ⟨hW.2.2.1.1, by rw [hW.2.2.1.2.1]; exact IX.nI (n := 0) (by omega) (by omega), fun _ => K, fun q => absurd ?_ q⟩
  rw [hg c0, hz c0]; exact lg_self _
abbrev KG (E : EV) (G1 : GH) (m : Nat) (ok : XS → List Nat → Nat → Nat → Int32 → Prop) (P : Res → GH → Prop) : Prop := ∀ G2 y' J' JK' c a, ok y' J' JK' c a → MS G2 m (bM m) (nI c) y' J' JK' → MSt G1 m (bM m) G2 → ∀ z, (c = 0 → z = a) → P (.inl (some (.int z))) G2
/-- a call of the class by the law's own method, then of the reference -/
theorem opW {f : OU} {dL dM pcL pcM : Nat} {mL mM : MI} {aL aM : List Value} (ok : XS → List Nat → Nat → Nat → Int32 → Prop) (hA : InjA A) (hW : LW E sc N G o A x p y Jd JK)
    (hcls : ∀ P, KL E A G o p P f → Cl E dL mL aL G P)
    (hblk : ∀ G1 o1 p1, LW E sc N G1 o1 A f.2.2 p1 y Jd JK → (gT G1 (A 31) = 11 ∧ Cl E dM mM aM G1 (aft E 14 m_La_law pcM [some (.ref (A 33)), some (.ref (A 0)), some (.ref (A 31)), some (.ref (A 32)), some (.int (nI i)), some (.int (nI f.1)), none] [] Post)) → J E 14 m_La_law (pcL + 3) (LL A i) [.int (nI f.1)] G1 Post)
    (href : ∀ G1 P, (∃ th, MS G1 (A 31) (bM (A 31)) th y Jd JK) → KG E G1 (A 31) ok P → Cl E dM mM aM G1 P)
    (hok : ∀ y' J' JK' c a, ok y' J' JK' c a → EqO f c a ∧ c ≤ 9 ∧ R f.2.2 y' J' JK')
    (hfin : ∀ G2 z o2 x2 y2 p2 J2 JK2, LW E sc N G2 o2 A x2 p2 y2 J2 JK2 → MS G2 (A 31) (bM (A 31)) (nI f.1) y2 J2 JK2 → (f.1 ≤ 9) → (f.1 = 0 → gL G2 (A 32) 0 = Int32.toInt64 f.2.1) → (f.1 = 0 → z = f.2.1) → NX E A i Post G2 → J E 14 m_La_law (pcM + 3) [some (.ref (A 33)), some (.ref (A 0)), some (.ref (A 31)), some (.ref (A 32)), some (.int (nI i)), some (.int (nI f.1)), none] [.int z] G2 Post)
    (K : KN E sc N i G A p R Post) : Cl E dL mL aL G (aft E 14 m_La_law pcL (LL A i) [] Post) := by
  refine hcls _ (fun G1 o1 p1 y1 y2 y3 y4 y5 => ?_)
  have hW1 := hW.cls y1 y2 y4
  have tg : gT G1 (A 31) = 11 := by
    obtain ⟨-, ⟨th, h⟩, -⟩ := hW1
    exact h.tg
  refine hblk G1 o1 p1 hW1 ⟨tg, href G1 _ hW1.2.1 (fun G2 y' J' JK' c a ho hm hs z hz => ?_)⟩
  obtain ⟨⟨e1, e2⟩, hc, hR⟩ := hok y' J' JK' c a ho
  obtain ⟨hW2, hL, hC⟩ := hW1.ref hA hm hs
  refine hfin G2 z o1 f.2.2 y' p1 J' JK' hW2 (by rw [e1]; exact hm) (by rw [e1]; exact hc) (fun h0 => (hL 0).trans (y5 h0)) (fun h0 => (hz (e1.symm.trans h0)).trans (e2 (e1.symm.trans h0)).symm) (K G2 o1 p1 f.2.2 y' J' JK' hW2 hR ?_)
  have : Cs G p G1 (p1 + 1) := y3
  unfold Cs at this ⊢
  rw [hs.1, hs.2.1]
  exact this

theorem o_slack (hA : InjA A) (hW : LW E sc N G o A x p y Jd JK) (hi : i + 7 ≤ N) (hN : N ≤ 3584) (hR : R x y Jd JK) (hS : SimR R) (K : KN E sc N i G A p R Post) : Cl E 3 m_La_slack [.ref (A 0), .int (sc (i + 1)), .int (sc (i + 2)), .ref (A 32)] G (aft E 14 m_La_law 272 (LL A i) [] Post) := by
  obtain ⟨X, Y⟩ := hS.1 x y Jd JK hR
  have hq := hS.2.2.1 x y Jd JK hR (sc (i + 1)) (sc (i + 2))
  refine opW (f := fSlack x (sc (i + 1)) (sc (i + 2))) (dM := 3) (mM := m_Mo_slack) (aM := [.ref (A 31), .int (sc (i + 1)), .int (sc (i + 2))]) (pcM := 290) (fun y' J' JK' c a => y' = (fSlack y (sc (i + 1)) (sc (i + 2))).2.2 ∧ J' = Jd ∧ JK' = JK ∧ c = (fSlack y (sc (i + 1)) (sc (i + 2))).1 ∧ a = (fSlack y (sc (i + 1)) (sc (i + 2))).2.1) hA hW (fun P k => l_slack hA hW.1 hW.2.2.1  k) (fun G1 o1 p1 h1 q => wl_La_law_275 _ _ _ _ _ _ ⟨h1.2.2.2.2.2.2.1, i + 1, h1.arg hi hN 1 (by omega), i + 2, h1.arg hi hN 2 (by omega), by rw [h1.2.2.2.2.2.2.2.2.1 (i + 1), h1.2.2.2.2.2.2.2.2.1 (i + 2)]; exact q⟩) (fun G1 P h k => ?_) (fun y' J' JK' c a ho => ?_) (fun G2 z o2 x2 y2 p2 J2 JK2 a1 a2 a3 a4 a5 a6 => wl_La_law_293 _ _ _ _ _ _ z (fin1 a1 a2 a3 a4 a5 a6)) K
  · obtain ⟨th, h⟩ := h
    exact r_slack (injM (A 31)) h  (fun G2 m1 m2 z hz => k G2 _ _ _ _ _ ⟨rfl, rfl, rfl, rfl, rfl⟩ m1 m2 z hz)
  · obtain ⟨e1, e2, e3, e4, e5⟩ := ho
    subst e1 e2 e3 e4 e5
    exact ⟨hq.1, by rw [← hq.1.1]; exact Nat.le_trans fSlack_le (by decide), hq.2⟩
theorem o_append (hA : InjA A) (hW : LW E sc N G o A x p y Jd JK) (hi : i + 7 ≤ N) (hN : N ≤ 3584) (hR : R x y Jd JK) (hS : SimR R) (K : KN E sc N i G A p R Post) : Cl E 8 m_La_append [.ref (A 0), .int (sc (i + 1)), .int (sc (i + 2)), .int (sc (i + 3)), .int (sc (i + 4)), .ref (A 32)] G (aft E 14 m_La_law 352 (LL A i) [] Post) := by
  obtain ⟨X, Y⟩ := hS.1 x y Jd JK hR
  have hq := hS.2.2.2.1 x y Jd JK hR (sc (i + 1)) (sc (i + 2)) (sc (i + 3)) (sc (i + 4))
  refine opW (f := fAppend x (sc (i + 1)) (sc (i + 2)) (sc (i + 3)) (sc (i + 4))) (dM := 3) (mM := m_Mo_append) (aM := [.ref (A 31), .int (sc (i + 1)), .int (sc (i + 2)), .int (sc (i + 3)), .int (sc (i + 4))]) (pcM := 382) (fun y' J' JK' c a => y' = (fAppend y (sc (i + 1)) (sc (i + 2)) (sc (i + 3)) (sc (i + 4))).2.2 ∧ J' = Jd ∧ JK' = JK ∧ c = (fAppend y (sc (i + 1)) (sc (i + 2)) (sc (i + 3)) (sc (i + 4))).1 ∧ a = (fAppend y (sc (i + 1)) (sc (i + 2)) (sc (i + 3)) (sc (i + 4))).2.1) hA hW (fun P k => l_append hA hW.1 hW.2.2.1 hW.2.2.2.2.1 k) (fun G1 o1 p1 h1 q => wl_La_law_355 _ _ _ _ _ _ ⟨h1.2.2.2.2.2.2.1, i + 1, h1.arg hi hN 1 (by omega), i + 2, h1.arg hi hN 2 (by omega), i + 3, h1.arg hi hN 3 (by omega), i + 4, h1.arg hi hN 4 (by omega), by rw [h1.2.2.2.2.2.2.2.2.1 (i + 1), h1.2.2.2.2.2.2.2.2.1 (i + 2), h1.2.2.2.2.2.2.2.2.1 (i + 3), h1.2.2.2.2.2.2.2.2.1 (i + 4)]; exact q⟩) (fun G1 P h k => ?_) (fun y' J' JK' c a ho => ?_) (fun G2 z o2 x2 y2 p2 J2 JK2 a1 a2 a3 a4 a5 a6 => wl_La_law_385 _ _ _ _ _ _ z (fin1 a1 a2 a3 a4 a5 a6)) K
  · obtain ⟨th, h⟩ := h
    exact r_append (injM (A 31)) h Y.2.2.1 (fun G2 m1 m2 z hz => k G2 _ _ _ _ _ ⟨rfl, rfl, rfl, rfl, rfl⟩ m1 m2 z hz)
  · obtain ⟨e1, e2, e3, e4, e5⟩ := ho
    subst e1 e2 e3 e4 e5
    exact ⟨hq.1, by rw [← hq.1.1]; exact Nat.le_trans fAppend_le (by decide), hq.2⟩
theorem o_read (hA : InjA A) (hW : LW E sc N G o A x p y Jd JK) (hi : i + 7 ≤ N) (hN : N ≤ 3584) (hR : R x y Jd JK) (hS : SimR R) (K : KN E sc N i G A p R Post) : Cl E 3 m_La_read [.ref (A 0), .int (sc (i + 1)), .ref (A 32)] G (aft E 14 m_La_law 426 (LL A i) [] Post) := by
  obtain ⟨X, Y⟩ := hS.1 x y Jd JK hR
  have hq := hS.2.2.2.2.1 x y Jd JK hR (sc (i + 1))
  refine opW (f := fRead x (sc (i + 1))) (dM := 3) (mM := m_Mo_read) (aM := [.ref (A 31), .int (sc (i + 1))]) (pcM := 438) (fun y' J' JK' c a => y' = (fRead y (sc (i + 1))).2.2 ∧ J' = Jd ∧ JK' = JK ∧ c = (fRead y (sc (i + 1))).1 ∧ a = (fRead y (sc (i + 1))).2.1) hA hW (fun P k => l_read hA hW.1 hW.2.2.1 X.1 k) (fun G1 o1 p1 h1 q => wl_La_law_429 _ _ _ _ _ _ ⟨h1.2.2.2.2.2.2.1, i + 1, h1.arg hi hN 1 (by omega), by rw [h1.2.2.2.2.2.2.2.2.1 (i + 1)]; exact q⟩) (fun G1 P h k => ?_) (fun y' J' JK' c a ho => ?_) (fun G2 z o2 x2 y2 p2 J2 JK2 a1 a2 a3 a4 a5 a6 => wl_La_law_441 _ _ _ _ _ _ z (fin1 a1 a2 a3 a4 a5 a6)) K
  · obtain ⟨th, h⟩ := h
    exact r_read (injM (A 31)) h Y.2.1 (fun G2 m1 m2 z hz => k G2 _ _ _ _ _ ⟨rfl, rfl, rfl, rfl, rfl⟩ m1 m2 z hz)
  · obtain ⟨e1, e2, e3, e4, e5⟩ := ho
    subst e1 e2 e3 e4 e5
    exact ⟨hq.1, by rw [← hq.1.1]; exact Nat.le_trans fRead_le (by decide), hq.2⟩
theorem o_take (hA : InjA A) (hW : LW E sc N G o A x p y Jd JK) (hi : i + 7 ≤ N) (hN : N ≤ 3584) (hR : R x y Jd JK) (hS : SimR R) (K : KN E sc N i G A p R Post) : Cl E 13 m_La_take [.ref (A 0), .int (sc (i + 1)), .ref (A 32)] G (aft E 14 m_La_law 573 (LL A i) [] Post) := by
  obtain ⟨X, Y⟩ := hS.1 x y Jd JK hR
  have hq := hS.2.2.2.2.2.2.2.2.2.2.2.2.2.2.2.2.2.2 x y Jd JK hR (sc (i + 1))
  refine opW (f := fTake x (sc (i + 1))) (dM := 5) (mM := m_Mo_take) (aM := [.ref (A 31), .int (sc (i + 1))]) (pcM := 585) (fun y' J' JK' c a => EqO (fTake x (sc (i + 1))) c a ∧ c ≤ 9 ∧ R (fTake x (sc (i + 1))).2.2 y' J' JK') hA hW (fun P k => l_take hA hW.1 hW.2.2.1 X.2.1 k) (fun G1 o1 p1 h1 q => wl_La_law_576 _ _ _ _ _ _ ⟨h1.2.2.2.2.2.2.1, i + 1, h1.arg hi hN 1 (by omega), by rw [h1.2.2.2.2.2.2.2.2.1 (i + 1)]; exact q⟩) (fun G1 P h k => ?_) (fun y' J' JK' c a ho => ho) (fun G2 z o2 x2 y2 p2 J2 JK2 a1 a2 a3 a4 a5 a6 => wl_La_law_588 _ _ _ _ _ _ z (fin1 a1 a2 a3 a4 a5 a6)) K
  obtain ⟨th, h⟩ := h
  obtain ⟨q1, q2⟩ := hq
  have ex : ∀ {n : Nat} {a : Int32}, (fTake x (sc (i + 1))).1 = n + 1 → EqO (fTake x (sc (i + 1))) (n + 1) a := fun e => ⟨e, fun z => absurd z (by omega)⟩
  exact r_take (injM (A 31)) h Y.2.2.2.2.2.2.2.2.2.2.2.1 Y.2.2.2.2.2.2.2.2.2.2.2.2.1 Y.2.2.2.2.2.2.2.2.2.2.2.2.2
    (fun hx G2 m1 m2 z hz => k G2 y Jd JK 1 0 ⟨ex (q1 hx).1, by decide, (q1 hx).2⟩ m1 m2 z hz)
    (fun s hs hx a1 a2 G2 m1 m2 z hz => k G2 y Jd JK 2 0 ⟨ex ((q2 s hs hx).1 a1 a2).1, by decide, ((q2 s hs hx).1 a1 a2).2⟩ m1 m2 z hz)
    (fun s hs hx a1 a2 a3 a4 G2 m1 m2 z hz => k G2 _ _ _ 0 3 ⟨(((q2 s hs hx).2.1 a1 a2 a3).1 a4).1, by decide, (((q2 s hs hx).2.1 a1 a2 a3).1 a4).2⟩ m1 m2 z hz)
    (fun s hs hx a1 a2 a3 a4 G2 m1 m2 z hz => k G2 _ _ _ 0 4 ⟨(((q2 s hs hx).2.1 a1 a2 a3).2 a4).1, by decide, (((q2 s hs hx).2.1 a1 a2 a3).2 a4).2⟩ m1 m2 z hz)
    (fun s hs hx a1 a2 v hv G2 W' Rr W n a3 m1 a4 m2 => k G2 _ _ _ 0 _ ⟨((q2 s hs hx).2.2 a1 a2 v hv W' Rr W n a3 a4).1, by decide, ((q2 s hs hx).2.2 a1 a2 v hv W' Rr W n a3 a4).2⟩ m1 m2 _ (fun _ => rfl))
theorem o_barrier (hA : InjA A) (hW : LW E sc N G o A x p y Jd JK) (hi : i + 7 ≤ N) (hN : N ≤ 3584) (hR : R x y Jd JK) (hS : SimR R) (K : KN E sc N i G A p R Post) : Cl E 11 m_La_barrier [.ref (A 0), .ref (A 32)] G (aft E 14 m_La_law 623 (LL A i) [] Post) := by
  obtain ⟨X, Y⟩ := hS.1 x y Jd JK hR
  have hq := hS.2.2.2.2.2.2.2.2.2.2.2.2.2.2.2.2.2.1 x y Jd JK hR
  refine opW (f := fBarrier x) (dM := 3) (mM := m_Mo_barrier) (aM := [.ref (A 31)]) (pcM := 629) (fun y' J' JK' c a => EqO (fBarrier x) c a ∧ c ≤ 9 ∧ R (fBarrier x).2.2 y' J' JK') hA hW (fun P k => l_barrier hA hW.1 hW.2.2.1 X.2.2.1 k) (fun G1 o1 p1 h1 q => wl_La_law_626 _ _ _ _ _ _ q) (fun G1 P h k => ?_) (fun y' J' JK' c a ho => ho) (fun G2 z o2 x2 y2 p2 J2 JK2 a1 a2 a3 a4 a5 a6 => wl_La_law_632 _ _ _ _ _ _ z (fin1 a1 a2 a3 a4 a5 a6)) K
  obtain ⟨th, h⟩ := h
  obtain ⟨q1, q2, q3⟩ := hq
  exact r_barrier (injM (A 31)) h
    (fun hx G2 m1 m2 z hz => k G2 y Jd JK 1 0 ⟨⟨(q1 hx).1, fun z => absurd z (by omega)⟩, by decide, (q1 hx).2⟩ m1 m2 z hz)
    (fun a1 a2 G2 m1 m2 z hz => k G2 _ _ _ 0 _ ⟨(q2 a1 a2).1, by decide, (q2 a1 a2).2⟩ m1 m2 z hz)
    (fun a1 a2 G2 m1 m2 z hz => k G2 _ _ _ 0 _ ⟨(q3 a1 a2).1, by decide, (q3 a1 a2).2⟩ m1 m2 z hz)
theorem o_confirm (hA : InjA A) (hW : LW E sc N G o A x p y Jd JK) (hi : i + 7 ≤ N) (hN : N ≤ 3584) (hR : R x y Jd JK) (hS : SimR R) (K : KN E sc N i G A p R Post) : Cl E 3 m_La_confirm [.ref (A 0), .ref (A 32)] G (aft E 14 m_La_law 667 (LL A i) [] Post) := by
  obtain ⟨X, Y⟩ := hS.1 x y Jd JK hR
  have hq := hS.2.2.2.2.2.1 x y Jd JK hR 
  refine opW (f := fConfirm x) (dM := 2) (mM := m_Mo_confirm) (aM := [.ref (A 31)]) (pcM := 673) (fun y' J' JK' c a => y' = (fConfirm y).2.2 ∧ J' = Jd ∧ JK' = JK ∧ c = (fConfirm y).1 ∧ a = (fConfirm y).2.1) hA hW (fun P k => l_confirm hA hW.1 hW.2.2.1  k) (fun G1 o1 p1 h1 q => wl_La_law_670 _ _ _ _ _ _ q) (fun G1 P h k => ?_) (fun y' J' JK' c a ho => ?_) (fun G2 z o2 x2 y2 p2 J2 JK2 a1 a2 a3 a4 a5 a6 => wl_La_law_676 _ _ _ _ _ _ z (fin1 a1 a2 a3 a4 a5 a6)) K
  · obtain ⟨th, h⟩ := h
    exact r_confirm h  (fun G2 m1 m2 z hz => k G2 _ _ _ _ _ ⟨rfl, rfl, rfl, rfl, rfl⟩ m1 m2 z hz)
  · obtain ⟨e1, e2, e3, e4, e5⟩ := ho
    subst e1 e2 e3 e4 e5
    exact ⟨hq.1, by rw [← hq.1.1]; exact Nat.le_trans fConfirm_le (by decide), hq.2⟩
theorem o_workers (hA : InjA A) (hW : LW E sc N G o A x p y Jd JK) (hi : i + 7 ≤ N) (hN : N ≤ 3584) (hR : R x y Jd JK) (hS : SimR R) (K : KN E sc N i G A p R Post) : Cl E 12 m_La_workers [.ref (A 0), .int (sc (i + 1)), .ref (A 32)] G (aft E 14 m_La_law 730 (LL A i) [] Post) := by
  obtain ⟨X, Y⟩ := hS.1 x y Jd JK hR
  have hq := hS.2.2.2.2.2.2.2.2.2.2.2.2.2.2.2.2.1 x y Jd JK hR (sc (i + 1))
  refine opW (f := fWorkers x (sc (i + 1))) (dM := 5) (mM := m_Mo_workers) (aM := [.ref (A 31), .int (sc (i + 1))]) (pcM := 742) (fun y' J' JK' c a => EqO (fWorkers x (sc (i + 1))) c a ∧ c ≤ 9 ∧ R (fWorkers x (sc (i + 1))).2.2 y' J' JK') hA hW (fun P k => l_workers hA hW.1 hW.2.2.1 X.2.2.2.1 X.2.2.2.2.1 X.2.2.2.2.2.1 k) (fun G1 o1 p1 h1 q => wl_La_law_733 _ _ _ _ _ _ ⟨h1.2.2.2.2.2.2.1, i + 1, h1.arg hi hN 1 (by omega), by rw [h1.2.2.2.2.2.2.2.2.1 (i + 1)]; exact q⟩) (fun G1 P h k => ?_) (fun y' J' JK' c a ho => ho) (fun G2 z o2 x2 y2 p2 J2 JK2 a1 a2 a3 a4 a5 a6 => wl_La_law_745 _ _ _ _ _ _ z (fin1 a1 a2 a3 a4 a5 a6)) K
  obtain ⟨th, h⟩ := h
  obtain ⟨q1, q2, q3⟩ := hq
  exact r_workers (injM (A 31)) h Y.2.2.2.2.1 Y.2.2.2.2.2.1 Y.2.2.2.2.2.2.1 Y.1
    (fun hx G2 m1 m2 z hz => k G2 y Jd JK 1 0 ⟨⟨(q1 hx).1, fun z => absurd z (by omega)⟩, by decide, (q1 hx).2⟩ m1 m2 z hz)
    (fun a1 a2 a3 G2 m1 m2 z hz => k G2 y Jd JK 2 0 ⟨⟨(q2 a1 a2 a3).1, fun z => absurd z (by omega)⟩, by decide, (q2 a1 a2 a3).2⟩ m1 m2 z hz)
    (fun a1 a2 a3 G2 W m1 a4 m2 => k G2 _ _ _ 0 _ ⟨(q3 a1 a2 a3 W a4).1, by decide, (q3 a1 a2 a3 W a4).2⟩ m1 m2 _ (fun _ => rfl))
theorem o_sourceWatermark (hA : InjA A) (hW : LW E sc N G o A x p y Jd JK) (hi : i + 7 ≤ N) (hN : N ≤ 3584) (hR : R x y Jd JK) (hS : SimR R) (K : KN E sc N i G A p R Post) : Cl E 3 m_La_sourceWatermark [.ref (A 0), .int (sc (i + 1)), .ref (A 32)] G (aft E 14 m_La_law 799 (LL A i) [] Post) := by
  obtain ⟨X, Y⟩ := hS.1 x y Jd JK hR
  have hq := hS.2.2.2.2.2.2.1 x y Jd JK hR (sc (i + 1))
  refine opW (f := fSourceWatermark x (sc (i + 1))) (dM := 3) (mM := m_Mo_sourceWatermark) (aM := [.ref (A 31), .int (sc (i + 1))]) (pcM := 811) (fun y' J' JK' c a => y' = y ∧ J' = Jd ∧ JK' = JK ∧ c = (fSourceWatermark y (sc (i + 1))).1 ∧ a = (fSourceWatermark y (sc (i + 1))).2.1) hA hW (fun P k => l_sourceWatermark hA hW.1 hW.2.2.1  k) (fun G1 o1 p1 h1 q => wl_La_law_802 _ _ _ _ _ _ ⟨h1.2.2.2.2.2.2.1, i + 1, h1.arg hi hN 1 (by omega), by rw [h1.2.2.2.2.2.2.2.2.1 (i + 1)]; exact q⟩) (fun G1 P h k => ?_) (fun y' J' JK' c a ho => ?_) (fun G2 z o2 x2 y2 p2 J2 JK2 a1 a2 a3 a4 a5 a6 => wl_La_law_814 _ _ _ _ _ _ z (fin1 a1 a2 a3 a4 a5 a6)) K
  · obtain ⟨th, h⟩ := h
    exact r_sourceWatermark h Y.1 (fun G2 m1 m2 z hz => k G2 _ _ _ _ _ ⟨rfl, rfl, rfl, rfl, rfl⟩ m1 m2 z hz)
  · obtain ⟨e1, e2, e3, e4, e5⟩ := ho
    subst e1 e2 e3 e4 e5
    refine ⟨hq, by rw [← hq.1]; exact Nat.le_trans fSourceWatermark_le (by decide), ?_⟩
    rw [fSourceWatermark_st]; exact hR
theorem o_offset (hA : InjA A) (hW : LW E sc N G o A x p y Jd JK) (hi : i + 7 ≤ N) (hN : N ≤ 3584) (hR : R x y Jd JK) (hS : SimR R) (K : KN E sc N i G A p R Post) : Cl E 3 m_La_offset [.ref (A 0), .int (sc (i + 1)), .ref (A 32)] G (aft E 14 m_La_law 855 (LL A i) [] Post) := by
  obtain ⟨X, Y⟩ := hS.1 x y Jd JK hR
  have hq := hS.2.2.2.2.2.2.2.1 x y Jd JK hR (sc (i + 1))
  refine opW (f := fOffset x (sc (i + 1))) (dM := 3) (mM := m_Mo_offset) (aM := [.ref (A 31), .int (sc (i + 1))]) (pcM := 867) (fun y' J' JK' c a => y' = y ∧ J' = Jd ∧ JK' = JK ∧ c = (fOffset y (sc (i + 1))).1 ∧ a = (fOffset y (sc (i + 1))).2.1) hA hW (fun P k => l_offset hA hW.1 hW.2.2.1  k) (fun G1 o1 p1 h1 q => wl_La_law_858 _ _ _ _ _ _ ⟨h1.2.2.2.2.2.2.1, i + 1, h1.arg hi hN 1 (by omega), by rw [h1.2.2.2.2.2.2.2.2.1 (i + 1)]; exact q⟩) (fun G1 P h k => ?_) (fun y' J' JK' c a ho => ?_) (fun G2 z o2 x2 y2 p2 J2 JK2 a1 a2 a3 a4 a5 a6 => wl_La_law_870 _ _ _ _ _ _ z (fin1 a1 a2 a3 a4 a5 a6)) K
  · obtain ⟨th, h⟩ := h
    exact r_offset h  (fun G2 m1 m2 z hz => k G2 _ _ _ _ _ ⟨rfl, rfl, rfl, rfl, rfl⟩ m1 m2 z hz)
  · obtain ⟨e1, e2, e3, e4, e5⟩ := ho
    subst e1 e2 e3 e4 e5
    refine ⟨hq, by rw [← hq.1]; exact Nat.le_trans fOffset_le (by decide), ?_⟩
    rw [fOffset_st]; exact hR
theorem o_inChannel (hA : InjA A) (hW : LW E sc N G o A x p y Jd JK) (hi : i + 7 ≤ N) (hN : N ≤ 3584) (hR : R x y Jd JK) (hS : SimR R) (K : KN E sc N i G A p R Post) : Cl E 3 m_La_inChannel [.ref (A 0), .int (sc (i + 1)), .ref (A 32)] G (aft E 14 m_La_law 911 (LL A i) [] Post) := by
  obtain ⟨X, Y⟩ := hS.1 x y Jd JK hR
  have hq := hS.2.2.2.2.2.2.2.2.1 x y Jd JK hR (sc (i + 1))
  refine opW (f := fInChannel x (sc (i + 1))) (dM := 3) (mM := m_Mo_inChannel) (aM := [.ref (A 31), .int (sc (i + 1))]) (pcM := 923) (fun y' J' JK' c a => y' = y ∧ J' = Jd ∧ JK' = JK ∧ c = (fInChannel y (sc (i + 1))).1 ∧ a = (fInChannel y (sc (i + 1))).2.1) hA hW (fun P k => l_inChannel hA hW.1 hW.2.2.1  k) (fun G1 o1 p1 h1 q => wl_La_law_914 _ _ _ _ _ _ ⟨h1.2.2.2.2.2.2.1, i + 1, h1.arg hi hN 1 (by omega), by rw [h1.2.2.2.2.2.2.2.2.1 (i + 1)]; exact q⟩) (fun G1 P h k => ?_) (fun y' J' JK' c a ho => ?_) (fun G2 z o2 x2 y2 p2 J2 JK2 a1 a2 a3 a4 a5 a6 => wl_La_law_926 _ _ _ _ _ _ z (fin1 a1 a2 a3 a4 a5 a6)) K
  · obtain ⟨th, h⟩ := h
    exact r_inChannel h  (fun G2 m1 m2 z hz => k G2 _ _ _ _ _ ⟨rfl, rfl, rfl, rfl, rfl⟩ m1 m2 z hz)
  · obtain ⟨e1, e2, e3, e4, e5⟩ := ho
    subst e1 e2 e3 e4 e5
    refine ⟨hq, by rw [← hq.1]; exact Nat.le_trans fInChannel_le (by decide), ?_⟩
    rw [fInChannel_st]; exact hR
theorem o_open (hA : InjA A) (hW : LW E sc N G o A x p y Jd JK) (hi : i + 7 ≤ N) (hN : N ≤ 3584) (hR : R x y Jd JK) (hS : SimR R) (K : KN E sc N i G A p R Post) : Cl E 5 m_La_open [.ref (A 0), .int (sc (i + 1)), .ref (A 32)] G (aft E 14 m_La_law 967 (LL A i) [] Post) := by
  obtain ⟨X, Y⟩ := hS.1 x y Jd JK hR
  have hq := hS.2.2.2.2.2.2.2.2.2.1 x y Jd JK hR (sc (i + 1))
  refine opW (f := fOpen x (sc (i + 1))) (dM := 2) (mM := m_Mo_open) (aM := [.ref (A 31), .int (sc (i + 1))]) (pcM := 979) (fun y' J' JK' c a => y' = y ∧ J' = Jd ∧ JK' = JK ∧ c = (fOpen y (sc (i + 1))).1 ∧ a = (fOpen y (sc (i + 1))).2.1) hA hW (fun P k => l_open hA hW.1 hW.2.2.1  k) (fun G1 o1 p1 h1 q => wl_La_law_970 _ _ _ _ _ _ ⟨h1.2.2.2.2.2.2.1, i + 1, h1.arg hi hN 1 (by omega), by rw [h1.2.2.2.2.2.2.2.2.1 (i + 1)]; exact q⟩) (fun G1 P h k => ?_) (fun y' J' JK' c a ho => ?_) (fun G2 z o2 x2 y2 p2 J2 JK2 a1 a2 a3 a4 a5 a6 => wl_La_law_982 _ _ _ _ _ _ z (fin1 a1 a2 a3 a4 a5 a6)) K
  · obtain ⟨th, h⟩ := h
    exact r_open h Y.2.2.2.2.2.2.2.2.2.1 (fun G2 m1 m2 z hz => k G2 _ _ _ _ _ ⟨rfl, rfl, rfl, rfl, rfl⟩ m1 m2 z hz)
  · obtain ⟨e1, e2, e3, e4, e5⟩ := ho
    subst e1 e2 e3 e4 e5
    refine ⟨hq, by rw [← hq.1]; exact Nat.le_trans fOpen_le (by decide), ?_⟩
    rw [fOpen_st]; exact hR
theorem o_sumAt (hA : InjA A) (hW : LW E sc N G o A x p y Jd JK) (hi : i + 7 ≤ N) (hN : N ≤ 3584) (hR : R x y Jd JK) (hS : SimR R) (K : KN E sc N i G A p R Post) : Cl E 5 m_La_sumAt [.ref (A 0), .int (sc (i + 1)), .int (sc (i + 2)), .ref (A 32)] G (aft E 14 m_La_law 1029 (LL A i) [] Post) := by
  obtain ⟨X, Y⟩ := hS.1 x y Jd JK hR
  have hq := hS.2.2.2.2.2.2.2.2.2.2.1 x y Jd JK hR (sc (i + 1)) (sc (i + 2))
  refine opW (f := fSumAt x (sc (i + 1)) (sc (i + 2))) (dM := 3) (mM := m_Mo_sumAt) (aM := [.ref (A 31), .int (sc (i + 1)), .int (sc (i + 2))]) (pcM := 1047) (fun y' J' JK' c a => y' = y ∧ J' = Jd ∧ JK' = JK ∧ c = (fSumAt y (sc (i + 1)) (sc (i + 2))).1 ∧ a = (fSumAt y (sc (i + 1)) (sc (i + 2))).2.1) hA hW (fun P k => l_sumAt hA hW.1 hW.2.2.1  k) (fun G1 o1 p1 h1 q => wl_La_law_1032 _ _ _ _ _ _ ⟨h1.2.2.2.2.2.2.1, i + 1, h1.arg hi hN 1 (by omega), i + 2, h1.arg hi hN 2 (by omega), by rw [h1.2.2.2.2.2.2.2.2.1 (i + 1), h1.2.2.2.2.2.2.2.2.1 (i + 2)]; exact q⟩) (fun G1 P h k => ?_) (fun y' J' JK' c a ho => ?_) (fun G2 z o2 x2 y2 p2 J2 JK2 a1 a2 a3 a4 a5 a6 => wl_La_law_1050 _ _ _ _ _ _ z (fin1 a1 a2 a3 a4 a5 a6)) K
  · obtain ⟨th, h⟩ := h
    exact r_sumAt h  (fun G2 m1 m2 z hz => k G2 _ _ _ _ _ ⟨rfl, rfl, rfl, rfl, rfl⟩ m1 m2 z hz)
  · obtain ⟨e1, e2, e3, e4, e5⟩ := ho
    subst e1 e2 e3 e4 e5
    refine ⟨hq, by rw [← hq.1]; exact Nat.le_trans fSumAt_le (by decide), ?_⟩
    rw [fSumAt_st]; exact hR
theorem o_result (hA : InjA A) (hW : LW E sc N G o A x p y Jd JK) (hi : i + 7 ≤ N) (hN : N ≤ 3584) (hR : R x y Jd JK) (hS : SimR R) (K : KN E sc N i G A p R Post) : Cl E 6 m_La_result [.ref (A 0), .int (sc (i + 1)), .int (sc (i + 2)), .int (sc (i + 3)), .ref (A 32)] G (aft E 14 m_La_law 1155 (LL A i) [] Post) := by
  obtain ⟨X, Y⟩ := hS.1 x y Jd JK hR
  have hq := hS.2.2.2.2.2.2.2.2.2.2.2.1 x y Jd JK hR (sc (i + 1)) (sc (i + 2)) (sc (i + 3))
  refine opW (f := fResult x (sc (i + 1)) (sc (i + 2)) (sc (i + 3))) (dM := 3) (mM := m_Mo_result) (aM := [.ref (A 31), .int (sc (i + 1)), .int (sc (i + 2)), .int (sc (i + 3))]) (pcM := 1179) (fun y' J' JK' c a => y' = y ∧ J' = Jd ∧ JK' = JK ∧ c = (rRes y (sc (i + 1)) (sc (i + 2)) (sc (i + 3))).1 ∧ a = (rRes y (sc (i + 1)) (sc (i + 2)) (sc (i + 3))).2) hA hW (fun P k => l_result hA hW.1 hW.2.2.1 X.2.2.2.2.2.2.2.2.1 k) (fun G1 o1 p1 h1 q => wl_La_law_1158 _ _ _ _ _ _ ⟨h1.2.2.2.2.2.2.1, i + 1, h1.arg hi hN 1 (by omega), i + 2, h1.arg hi hN 2 (by omega), i + 3, h1.arg hi hN 3 (by omega), by rw [h1.2.2.2.2.2.2.2.2.1 (i + 1), h1.2.2.2.2.2.2.2.2.1 (i + 2), h1.2.2.2.2.2.2.2.2.1 (i + 3)]; exact q⟩) (fun G1 P h k => ?_) (fun y' J' JK' c a ho => ?_) (fun G2 z o2 x2 y2 p2 J2 JK2 a1 a2 a3 a4 a5 a6 => wl_La_law_1182 _ _ _ _ _ _ z (fin1 a1 a2 a3 a4 a5 a6)) K
  · obtain ⟨th, h⟩ := h
    exact r_result h Y.2.2.2.1 (fun G2 m1 m2 z hz => k G2 _ _ _ _ _ ⟨rfl, rfl, rfl, rfl, rfl⟩ m1 m2 z hz)
  · obtain ⟨e1, e2, e3, e4, e5⟩ := ho
    subst e1 e2 e3 e4 e5
    refine ⟨hq, by rw [← hq.1]; exact Nat.le_trans fResult_le (by decide), ?_⟩
    rw [fResult_st]; exact hR
theorem o_resultAnew (hA : InjA A) (hW : LW E sc N G o A x p y Jd JK) (hi : i + 7 ≤ N) (hN : N ≤ 3584) (hR : R x y Jd JK) (hS : SimR R) (K : KN E sc N i G A p R Post) : Cl E 8 m_La_resultAnew [.ref (A 0), .int (sc (i + 1)), .int (sc (i + 2)), .int (sc (i + 3)), .ref (A 32)] G (aft E 14 m_La_law 1235 (LL A i) [] Post) := by
  obtain ⟨X, Y⟩ := hS.1 x y Jd JK hR
  have hq := hS.2.2.2.2.2.2.2.2.2.2.2.2.1 x y Jd JK hR (sc (i + 1)) (sc (i + 2)) (sc (i + 3))
  refine opW (f := fResultAnew x (sc (i + 1)) (sc (i + 2)) (sc (i + 3))) (dM := 3) (mM := m_Mo_resultAnew) (aM := [.ref (A 31), .int (sc (i + 1)), .int (sc (i + 2)), .int (sc (i + 3))]) (pcM := 1259) (fun y' J' JK' c a => y' = y ∧ J' = Jd ∧ JK' = JK ∧ c = (rRes y (sc (i + 1)) (sc (i + 2)) (sc (i + 3))).1 ∧ a = (rRes y (sc (i + 1)) (sc (i + 2)) (sc (i + 3))).2) hA hW (fun P k => l_resultAnew hA hW.1 hW.2.2.1 X.2.2.2.2.2.2.2.2.2 k) (fun G1 o1 p1 h1 q => wl_La_law_1238 _ _ _ _ _ _ ⟨h1.2.2.2.2.2.2.1, i + 1, h1.arg hi hN 1 (by omega), i + 2, h1.arg hi hN 2 (by omega), i + 3, h1.arg hi hN 3 (by omega), by rw [h1.2.2.2.2.2.2.2.2.1 (i + 1), h1.2.2.2.2.2.2.2.2.1 (i + 2), h1.2.2.2.2.2.2.2.2.1 (i + 3)]; exact q⟩) (fun G1 P h k => ?_) (fun y' J' JK' c a ho => ?_) (fun G2 z o2 x2 y2 p2 J2 JK2 a1 a2 a3 a4 a5 a6 => wl_La_law_1262 _ _ _ _ _ _ z (fin1 a1 a2 a3 a4 a5 a6)) K
  · obtain ⟨th, h⟩ := h
    exact r_resultAnew h Y.2.2.2.1 (fun G2 m1 m2 z hz => k G2 _ _ _ _ _ ⟨rfl, rfl, rfl, rfl, rfl⟩ m1 m2 z hz)
  · obtain ⟨e1, e2, e3, e4, e5⟩ := ho
    subst e1 e2 e3 e4 e5
    refine ⟨hq, by rw [← hq.1]; exact Nat.le_trans fResultAnew_le (by decide), ?_⟩
    rw [fResultAnew_st]; exact hR
end LAWOP
