section RFACE6
variable {E : EV} {G : GH} {Post : Res → GH → Prop} {m : Nat} {B : Nat → Nat} {th : Int32} {y : XS} {Jd : List Nat} {JK : Nat}
/-- what lets an event be taken by the reference -/
def RTk (y : XS) (Jd : List Nat) : Prop := UQ (gWi (cN y)) ∧ (kL (cK y)).length + (gWi (cN y)).length + 20 ≤ 3890 ∧ (gWi (cN y)).length + 8 ≤ 989 ∧ (∀ s, s < 3 → ¬ (-1 : Int32) < -1 - sSl (cS y) s) ∧ ∀ s, s < 3 → gTk (cN y) s < gOf (cN y) s → ∀ v, (sEv (cS y) s)[gTk (cN y) s]? = some v → (s < 2 → Jd.length < 80) ∧ (¬ cJ y 0 = 2 → StepOK (cJ y 2) (cJ y 1) (cJ y 3) (gMk (cN y)) v.1) ∧ (cJ y 0 = 2 → GapOK (cJ y) v (gWi (cN y))) ∧ ∀ W' Rr n, AdR (cJ y) v (gMk (cN y)) (gWi (cN y)) W' Rr n → (kL (cK y) ++ Rr).length + W'.length ≤ 3900
def isAll (f : Nat → Int32) : Prop := ¬ f 0 = 0 ∧ ¬ f 1 = 0 ∧ ¬ f 2 = 0
def rTb3 (y : XS) (s : Nat) : XS := setB y (bA (cB y), up1 (bT (cB y)) s 1, bU (cB y))
def rTb4 (y : XS) (s : Nat) : XS := rSnap (setB y (bA (cB y), up1 (bT (cB y)) s 1, 0)) (bA (cB y))
theorem r_takesBarrier {s : Nat} (hB : InjB m B) (h : MS G m B th y Jd JK) (hs : s < 3)
    (k3 : ¬ isAll (up1 (bT (cB y)) s 1) → ∀ G', MS G' m B th (rTb3 y s) Jd JK → MSt G m B G' → Post (.inl (some (.int 3))) G')
    (k4 : isAll (up1 (bT (cB y)) s 1) → ∀ G', MS G' m B th (rTb4 y s) Jd Jd.length → MSt G m B G' → Post (.inl (some (.int 4))) G') : Cl E 3 m_Mo_takesBarrier [.ref m, .int (nI s)] G Post := by
  obtain ⟨F, T, h1, ha⟩ := h
  obtain ⟨x1, x2, x3, x4, x5, x6, x7, x8, x9, x10, x11, x12, x13, x14, x15, x16, x17, x18⟩ := ha
  refine j_enter (L := [some (.ref m), some (.int (nI s))]) me_Mo_takesBarrier (cat_c rfl (cat_c rfl cat_n)) (Nat.le_of_ble_eq_true rfl) rfl (wp_Mo_takesBarrier_0 m (nI s) ⟨h1.tg, B 22, h1.rf 22 rfl, h1.at' 22 rfl, s, h1.ix 22 rfl hs, ?_⟩)
  have h2 := h1.wA hB 22 s 1 rfl
  have s2 : MSt G m B (sA G (B 22) s 1) := MSt.rf.wA rfl
  have e22 : ∀ j, j < 3 → gA (sA G (B 22) s 1) (B 22) j = up1 (bT (cB y)) s 1 j := fun j hj => by
    rw [h2.rd 22 rfl j]
    show up2 T 22 s 1 22 j = if j = s then 1 else bT (cB y) j
    by_cases c : j = s
    · rw [c, u2, if_pos rfl]
    · rw [u2n c, if_neg c]; exact (x18.2 j hj).2
  have b2 : ∀ u, aB (up1 F 20 u) (up2 T 22 s 1) (bA (cB y), up1 (bT (cB y)) s 1, u) := fun u => ⟨rfl, fun j hj => ⟨(x18.2 j hj).1, by
    show up2 T 22 s 1 22 j = if j = s then 1 else bT (cB y) j
    by_cases c : j = s
    · rw [c, u2, if_pos rfl]
    · rw [u2n c, if_neg c]; exact (x18.2 j hj).2⟩⟩
  have no : ¬ isAll (up1 (bT (cB y)) s 1) → Post (.inl (some (.int 3))) (sA G (B 22) s 1) := fun hn => k3 hn _ ⟨_, _, h2, x1, x2, x3, x4, x5, x6, x7, x8, x9, x10, x11, x12, x13, x14, x15, x16, x17, x18.1, (b2 0).2⟩ s2
  rw [e22 0 (by omega), e22 1 (by omega), e22 2 (by omega)]
  refine ⟨h1.ix 22 rfl (n := 0) (by decide), fun c => no (fun z => z.1 c), fun c0 => ⟨h1.ix 22 rfl (n := 1) (by decide), fun c => no (fun z => z.2.1 c), fun c1 => ⟨h1.ix 22 rfl (n := 2) (by decide), fun c2 => ?_, fun c => no (fun z => z.2.2 c)⟩⟩⟩
  refine c_snapR hB (h2.wI 20 0) (y := setB y (bA (cB y), up1 (bT (cB y)) s 1, 0)) (th := th) (Jd := Jd) (JK := JK) ⟨x1, x2, x3, x4, x5, x6, x7, x8, x9, x10, x11, x12, x13, x14, x15, x16, x17, b2 0⟩ (Or.inl rfl) (fun G' y1 y2 => ?_)
  exact wp_Mo_takesBarrier_46 (k4 ⟨c0, c1, c2⟩ G' y1 (s2.wI.tr y2))
theorem r_take {q : Int32} (hB : InjB m B) (h : MS G m B th y Jd JK) (hR : RTk y Jd) (hn : ∀ s, s < 3 → gTk (cN y) s ≤ 40 ∧ gOf (cN y) s ≤ (sEv (cS y) s).length ∧ (sEv (cS y) s).length ≤ 40 ∧ bA (cB y) s ≤ 40) (hbt : ¬ bU (cB y) = 0 → ∀ s, s < 3 → ¬ bT (cB y) s = 0 → bA (cB y) s = gTk (cN y) s)
    (k1 : ¬ sIx q < 3 → KR G m B Post 1 0 y Jd JK)
    (k2 : ∀ s, s < 3 → sIx q = s → (¬ bU (cB y) = 0 → ¬ bT (cB y) s = 0 ∨ ¬ bA (cB y) s = gTk (cN y) s) → (bU (cB y) = 0 ∨ bT (cB y) s = 0 → ¬ gTk (cN y) s < gOf (cN y) s) → KR G m B Post 2 0 y Jd JK)
    (k3 : ∀ s, s < 3 → sIx q = s → ¬ bU (cB y) = 0 → bT (cB y) s = 0 → bA (cB y) s = gTk (cN y) s → ¬ isAll (up1 (bT (cB y)) s 1) → KR G m B Post 0 3 (rTb3 y s) Jd JK)
    (k4 : ∀ s, s < 3 → sIx q = s → ¬ bU (cB y) = 0 → bT (cB y) s = 0 → bA (cB y) s = gTk (cN y) s → isAll (up1 (bT (cB y)) s 1) → KR G m B Post 0 4 (rTb4 y s) Jd Jd.length)
    (k : ∀ s, s < 3 → sIx q = s → (¬ bU (cB y) = 0 → bT (cB y) s = 0 ∧ ¬ bA (cB y) s = gTk (cN y) s) → gTk (cN y) s < gOf (cN y) s → ∀ v, (sEv (cS y) s)[gTk (cN y) s]? = some v → ∀ G' W' Rr R n, AdR (cJ y) v (gMk (cN y)) (gWi (cN y)) W' Rr n → MS G' m B 0 (grX (rtk y s (gTk (cN y) s) v W' Rr n) R) (Jt Jd (gMk (cN y)) s (gTk (cN y) s) v) JK → R.Perm (grR (rtk y s (gTk (cN y) s) v W' Rr n)) → MSt G m B G' → Post (.inl (some (.int (rAns (gMk (cN y)) v n)))) G') : Cl E 5 m_Mo_take [.ref m, .int q] G Post := by
  have h0 := h
  obtain ⟨F, T, h1, ha⟩ := h
  obtain ⟨x1, x2, x3, x4, x5, x6, x7, x8, x9, x10, x11, x12, x13, x14, x15, x16, x17, x18⟩ := id ha
  refine j_enter (L := [some (.ref m), some (.int q), none, none]) me_Mo_take (cat_c rfl (cat_c rfl cat_n)) (Nat.le_of_ble_eq_true rfl) rfl (wp_Mo_take_0 m q (src3R (fun hq => ⟨h1.tg, KR.exc (n := 0) h0 (k1 hq)⟩) (fun s hs hq hx => ⟨h1.tg, ?_⟩)))
  subst hq
  obtain ⟨n1, n2, n3, n4⟩ := hn s hs
  have e20 : gI G 660 m = bU (cB y) := (h1.int 20 (by decide) (by decide)).trans x18.1
  have e13 : gA G (B 13) s = nI (gOf (cN y) s) := (h1.rd 13 rfl s).trans (x5 s hs).1
  have e14 : gA G (B 14) s = nI (gTk (cN y) s) := (h1.rd 14 rfl s).trans (x5 s hs).2.1
  have e21 : gA G (B 21) s = nI (bA (cB y) s) := (h1.rd 21 rfl s).trans (x18.2 s hs).1
  have e22 : gA G (B 22) s = bT (cB y) s := (h1.rd 22 rfl s).trans (x18.2 s hs).2
  have ne : (nI (gTk (cN y) s) = nI (bA (cB y) s)) ↔ bA (cB y) s = gTk (cN y) s := (nI_eq (by omega) (by omega)).trans ⟨fun z => z.symm, fun z => z.symm⟩
  have nl : (nI (gOf (cN y) s) ≤ nI (gTk (cN y) s)) ↔ ¬ gTk (cN y) s < gOf (cN y) s := (nI_leI (by omega) (by omega)).trans Nat.not_lt.symm
  have r14 := h1.rf 14 rfl
  have i14 : IX (nI s) s (gN G (B 14)) := h1.ix 14 rfl hs
  have i13 : IX (nI s) s (gN G (B 13)) := h1.ix 13 rfl hs
  have i21 : IX (nI s) s (gN G (B 21)) := h1.ix 21 rfl hs
  have i22 : IX (nI s) s (gN G (B 22)) := h1.ix 22 rfl hs
  have t14 : gT G (B 14) = 20 ∨ gT G (B 14) = 25 := Or.inl (h1.at' 14 rfl)
  have t13 : gT G (B 13) = 20 ∨ gT G (B 13) = 25 := Or.inl (h1.at' 13 rfl)
  have t21 : gT G (B 21) = 20 ∨ gT G (B 21) = 25 := Or.inl (h1.at' 21 rfl)
  have f14 : gA (sI G 640 m 0) (B 14) s = nI (gTk (cN y) s) := e14
  have f21 : gA (sI G 640 m 0) (B 21) s = nI (bA (cB y) s) := e21
  have ev : (¬ bU (cB y) = 0 → ¬ bA (cB y) s = gTk (cN y) s) → gTk (cN y) s < gOf (cN y) s → Cl E 4 m_Mo_takes [.ref m, .int (nI s)] (sI G 640 m 0) (aft E 5 m_Mo_take 94 [none, none, none, none] [] Post) := fun hu hlt => by
    obtain ⟨v, hv⟩ : ∃ v, (sEv (cS y) s)[gTk (cN y) s]? = some v := ⟨_, List.getElem?_eq_getElem (by omega)⟩
    obtain ⟨p1, p2, p3, p4, p5⟩ := hR
    obtain ⟨q1, q2, q3, q4⟩ := p5 s hs hlt v hv
    refine c_takes (th := 0) (v := v) (i := gTk (cN y) s) hB (h1.wI 0 0) ⟨rfl, x2, x3, x4, x5, x6, x7, x8, x9, x10, x11, x12, x13, x14, x15, x16, x17, x18⟩ hs rfl hv p1 q1 p2 p3 q2 q3 p4 q4 (fun G' W' Rr R n y1 y2 y3 y4 => wp_Mo_take_97 _ ?_)
    exact k s hs hx (fun z => ⟨Classical.byContradiction (fun c => hu z (hbt z s hs c)), hu z⟩) hlt v hv G' W' Rr R n y1 y2 y3 (MSt.rf.wI.tr y4)
  have bar : ¬ bU (cB y) = 0 → bT (cB y) s = 0 → bA (cB y) s = gTk (cN y) s → Cl E 3 m_Mo_takesBarrier [.ref m, .int (nI s)] (sI G 640 m 0) (aft E 5 m_Mo_take 86 [none, none, none, none] [] Post) := fun hu ht hb =>
    r_takesBarrier hB (h0.code 0) hs (fun z G' y1 y2 => wp_Mo_take_89 3 (k3 s hs hx hu ht hb z G' y1 (MSt.rf.wI.tr y2) 3 (fun _ => rfl))) (fun z G' y1 y2 => wp_Mo_take_89 4 (k4 s hs hx hu ht hb z G' y1 (MSt.rf.wI.tr y2) 4 (fun _ => rfl)))
  rw [e20]
  refine ⟨fun c => ⟨B 14, r14, t14, s, i14, B 13, h1.rf 13 rfl, t13, s, i13, ?_⟩, fun c => ⟨B 14, r14, t14, s, i14, B 21, h1.rf 21 rfl, t21, s, i21, ?_⟩⟩
  · rw [e13, e14, f14]
    refine ⟨fun c2 => KR.exc (n := 1) h0 (k2 s hs hx (fun z => absurd c z) (fun _ => nl.mp c2)), fun c2 => ⟨fun _ => ev (fun z => absurd c z) (Classical.not_not.mp (fun z => c2 (nl.mpr z))), fun z => absurd c z⟩⟩
  · rw [e14, e21, f14, f21]
    refine ⟨fun c2 => ⟨B 13, h1.rf 13 rfl, t13, s, i13, ?_⟩, fun c2 => ⟨B 22, h1.rf 22 rfl, h1.at' 22 rfl, s, i22, ?_⟩⟩
    · rw [e13]
      have c2' : ¬ bA (cB y) s = gTk (cN y) s := fun z => c2 (ne.mpr z)
      refine ⟨fun c3 => KR.exc (n := 1) h0 (k2 s hs hx (fun _ => Or.inr c2') (fun _ => nl.mp c3)), fun c3 => ⟨fun z => absurd z c, fun _ => ⟨fun _ => ev (fun _ => c2') (Classical.not_not.mp (fun z => c3 (nl.mpr z))), fun z => absurd z c2⟩⟩⟩
    · rw [e22]
      have c2' := ne.mp c2
      refine ⟨fun c3 => KR.exc (n := 1) h0 (k2 s hs hx (fun _ => Or.inl c3) (fun z => z.elim (fun z => absurd z c) (fun z => absurd z c3))), fun c3 => ⟨fun z => absurd z c, fun _ => ⟨fun z => absurd c2 z, fun _ => bar c c3 c2'⟩⟩⟩
end RFACE6
