section LAWOP2
variable {E : EV} {sc : Nat → Int32} {N i : Nat} {G : GH} {Post : Res → GH → Prop} {o A : Nat → Nat} {x y : XS} {p JK : Nat} {Jd : List Nat} {R : RX}
theorem opD {f : OU} {dL dM pcL pcM : Nat} {mL mM : MI} (ok : XS → List Nat → Nat → Nat → Int32 → Prop) (hA : InjA A) (hW : LW E sc N G o A x p y Jd JK) (hf : f.1 = 0)
    (hcls : ∀ P, KF E A G o p P [] f → Cl E dL mL [.ref (A 0)] G P)
    (hblk : ∀ G1, (gT G1 (A 31) = 11 ∧ Cl E dM mM [.ref (A 31)] G1 (aft E 14 m_La_law pcM (LL A i) [.int f.2.1] Post)) → J E 14 m_La_law (pcL + 3) (LL A i) [.int f.2.1] G1 Post)
    (href : ∀ G1 P, (∃ th, MS G1 (A 31) (bM (A 31)) th y Jd JK) → KG E G1 (A 31) ok P → Cl E dM mM [.ref (A 31)] G1 P)
    (hok : ∀ y' J' JK' c a, ok y' J' JK' c a → c = 0 ∧ f.2.1 = a ∧ R f.2.2 y' J' JK')
    (hfin : ∀ G2 z, (f.2.1 = z → NX E A i Post G2) ∧ (¬ f.2.1 = z → Post (.inl (some (.int 0))) G2) → J E 14 m_La_law (pcM + 3) (LL A i) [.int z, .int f.2.1] G2 Post)
    (K : KN E sc N i G A p R Post) : gT G (A 0) = 10 ∧ Cl E dL mL [.ref (A 0)] G (aft E 14 m_La_law pcL (LL A i) [] Post) := by
  refine ⟨hW.1.tg0, hcls _ (fun G1 o1 p1 y1 y2 y3 => ?_)⟩
  obtain ⟨S, hS, s⟩ := y2
  have hW1 := hW.cls y1 ⟨S, fun j hj => hS j (by simp at hj; simp; omega), s⟩ (hW.2.2.1.stp s)
  have tg : gT G1 (A 31) = 11 := by
    obtain ⟨-, ⟨th, h⟩, -⟩ := hW1
    exact h.tg
  have e : ouT [] f = .inl (some (.int f.2.1)) := by
    unfold ouT
    rw [hf]
  rw [e]
  refine hblk G1 ⟨tg, href G1 _ hW1.2.1 (fun G2 y' J' JK' c a ho hm hs z hz => ?_)⟩
  obtain ⟨hc, ha, hR⟩ := hok y' J' JK' c a ho
  obtain ⟨hW2, hL, hC⟩ := hW1.ref hA hm hs
  have ez : f.2.1 = z := ha.trans (hz hc).symm
  refine hfin G2 z ⟨fun _ => K G2 o1 p1 f.2.2 y' J' JK' hW2 hR ?_, fun q => absurd ez q⟩
  have : Cs G p G1 (p1 + 1) := y3
  unfold Cs at this ⊢
  rw [hs.1, hs.2.1]
  exact this

theorem o_watermark (hA : InjA A) (hW : LW E sc N G o A x p y Jd JK) (hR : R x y Jd JK) (hS : SimR R) (K : KN E sc N i G A p R Post) : gT G (A 0) = 10 ∧ Cl E 1 m_St_watermark [.ref (A 0)] G (aft E 14 m_La_law 779 (LL A i) [] Post) := by
  obtain ⟨X, Y⟩ := hS.1 x y Jd JK hR
  have hq := hS.2.2.2.2.2.2.2.2.2.2.2.2.2.1 x y Jd JK hR
  refine opD (f := fWatermark x) (dM := 1) (mM := m_Mo_watermark) (pcM := 783) (fun y' J' JK' c a => y' = y ∧ J' = Jd ∧ JK' = JK ∧ c = 0 ∧ a = gMk (cN y)) hA hW rfl (fun P k => c_watermark hA hW.1 k) (fun G1 q => wl_La_law_782 _ _ _ _ _ _ q) (fun G1 P h k => ?_) (fun y' J' JK' c a ho => ?_) (fun G2 z q => wl_La_law_786 _ _ _ _ _ _ _ q) K
  · obtain ⟨th, h⟩ := h
    exact r_watermark h (fun G2 m1 m2 z hz => k G2 _ _ _ _ _ ⟨rfl, rfl, rfl, rfl, rfl⟩ m1 m2 z hz)
  · obtain ⟨e1, e2, e3, e4, e5⟩ := ho
    subst e1 e2 e3 e4 e5
    exact ⟨rfl, hq.1, hR⟩
theorem o_dropped (hA : InjA A) (hW : LW E sc N G o A x p y Jd JK) (hR : R x y Jd JK) (hS : SimR R) (K : KN E sc N i G A p R Post) : gT G (A 0) = 10 ∧ Cl E 1 m_St_dropped [.ref (A 0)] G (aft E 14 m_La_law 1084 (LL A i) [] Post) := by
  obtain ⟨X, Y⟩ := hS.1 x y Jd JK hR
  have hq := hS.2.2.2.2.2.2.2.2.2.2.2.2.2.1 x y Jd JK hR
  refine opD (f := fDropped x) (dM := 1) (mM := m_Mo_dropped) (pcM := 1088) (fun y' J' JK' c a => y' = y ∧ J' = Jd ∧ JK' = JK ∧ c = 0 ∧ a = gDr (cN y)) hA hW rfl (fun P k => c_dropped hA hW.1 k) (fun G1 q => wl_La_law_1087 _ _ _ _ _ _ q) (fun G1 P h k => ?_) (fun y' J' JK' c a ho => ?_) (fun G2 z q => wl_La_law_1091 _ _ _ _ _ _ _ q) K
  · obtain ⟨th, h⟩ := h
    exact r_dropped h (fun G2 m1 m2 z hz => k G2 _ _ _ _ _ ⟨rfl, rfl, rfl, rfl, rfl⟩ m1 m2 z hz)
  · obtain ⟨e1, e2, e3, e4, e5⟩ := ho
    subst e1 e2 e3 e4 e5
    exact ⟨rfl, hq.2.1, hR⟩
theorem o_pairs (hA : InjA A) (hW : LW E sc N G o A x p y Jd JK) (hR : R x y Jd JK) (hS : SimR R) (K : KN E sc N i G A p R Post) : gT G (A 0) = 10 ∧ Cl E 1 m_St_pairs [.ref (A 0)] G (aft E 14 m_La_law 1097 (LL A i) [] Post) := by
  obtain ⟨X, Y⟩ := hS.1 x y Jd JK hR
  have hq := hS.2.2.2.2.2.2.2.2.2.2.2.2.2.1 x y Jd JK hR
  refine opD (f := fPairs x) (dM := 2) (mM := m_Mo_pairs) (pcM := 1101) (fun y' J' JK' c a => y' = y ∧ J' = Jd ∧ JK' = JK ∧ c = 0 ∧ a = rPairs y Jd) hA hW rfl (fun P k => c_pairs hA hW.1 k) (fun G1 q => wl_La_law_1100 _ _ _ _ _ _ q) (fun G1 P h k => ?_) (fun y' J' JK' c a ho => ?_) (fun G2 z q => wl_La_law_1104 _ _ _ _ _ _ _ q) K
  · obtain ⟨th, h⟩ := h
    exact r_pairs h Y.2.2.2.2.2.2.2.2.2.2.1 (fun G2 m1 m2 z hz => k G2 _ _ _ _ _ ⟨rfl, rfl, rfl, rfl, rfl⟩ m1 m2 z hz)
  · obtain ⟨e1, e2, e3, e4, e5⟩ := ho
    subst e1 e2 e3 e4 e5
    exact ⟨rfl, hq.2.2.1, hR⟩
theorem o_pairsAnew (hA : InjA A) (hW : LW E sc N G o A x p y Jd JK) (hR : R x y Jd JK) (hS : SimR R) (K : KN E sc N i G A p R Post) : gT G (A 0) = 10 ∧ Cl E 5 m_St_pairsAnew [.ref (A 0)] G (aft E 14 m_La_law 1110 (LL A i) [] Post) := by
  obtain ⟨X, Y⟩ := hS.1 x y Jd JK hR
  have hq := hS.2.2.2.2.2.2.2.2.2.2.2.2.2.1 x y Jd JK hR
  refine opD (f := fPairsAnew x) (dM := 2) (mM := m_Mo_pairsAnew) (pcM := 1114) (fun y' J' JK' c a => y' = y ∧ J' = Jd ∧ JK' = JK ∧ c = 0 ∧ a = rPairs y Jd) hA hW rfl (fun P k => c_pairsAnew hA hW.1 k) (fun G1 q => wl_La_law_1113 _ _ _ _ _ _ q) (fun G1 P h k => ?_) (fun y' J' JK' c a ho => ?_) (fun G2 z q => wl_La_law_1117 _ _ _ _ _ _ _ q) K
  · obtain ⟨th, h⟩ := h
    exact r_pairsAnew h Y.2.2.2.2.2.2.2.2.2.2.1 (fun G2 m1 m2 z hz => k G2 _ _ _ _ _ ⟨rfl, rfl, rfl, rfl, rfl⟩ m1 m2 z hz)
  · obtain ⟨e1, e2, e3, e4, e5⟩ := ho
    subst e1 e2 e3 e4 e5
    exact ⟨rfl, hq.2.2.2.1, hR⟩
theorem o_uncommitted (hA : InjA A) (hW : LW E sc N G o A x p y Jd JK) (hR : R x y Jd JK) (hS : SimR R) (K : KN E sc N i G A p R Post) : gT G (A 0) = 10 ∧ Cl E 1 m_St_uncommitted [.ref (A 0)] G (aft E 14 m_La_law 1123 (LL A i) [] Post) := by
  obtain ⟨X, Y⟩ := hS.1 x y Jd JK hR
  have hq := hS.2.2.2.2.2.2.2.2.2.2.2.2.2.1 x y Jd JK hR
  refine opD (f := fUncommitted x) (dM := 1) (mM := m_Mo_uncommitted) (pcM := 1127) (fun y' J' JK' c a => y' = y ∧ J' = Jd ∧ JK' = JK ∧ c = 0 ∧ a = nI (kL (cK y)).length - nI (kC (cK y))) hA hW rfl (fun P k => c_uncommitted hA hW.1 k) (fun G1 q => wl_La_law_1126 _ _ _ _ _ _ q) (fun G1 P h k => ?_) (fun y' J' JK' c a ho => ?_) (fun G2 z q => wl_La_law_1130 _ _ _ _ _ _ _ q) K
  · obtain ⟨th, h⟩ := h
    exact r_uncommitted h (fun G2 m1 m2 z hz => k G2 _ _ _ _ _ ⟨rfl, rfl, rfl, rfl, rfl⟩ m1 m2 z hz)
  · obtain ⟨e1, e2, e3, e4, e5⟩ := ho
    subst e1 e2 e3 e4 e5
    exact ⟨rfl, hq.2.2.2.2, hR⟩
theorem o_fail (hA : InjA A) (hW : LW E sc N G o A x p y Jd JK) (hR : R x y Jd JK) (hS : SimR R) (K : KN E sc N i G A p R Post) : gT G (A 0) = 10 ∧ Cl E 11 m_St_fail [.ref (A 0)] G (aft E 14 m_La_law 710 (LL A i) [] Post) := by
  obtain ⟨X, Y⟩ := hS.1 x y Jd JK hR
  have hq := hS.2.2.2.2.2.2.2.2.2.2.2.2.2.2.2.1 x y Jd JK hR
  refine opD (f := fFail x) (dM := 5) (mM := m_Mo_fail) (pcM := 714) (fun y' J' JK' c a => c = 0 ∧ (fFail x).2.1 = a ∧ R (fFail x).2.2 y' J' JK') hA hW rfl (fun P k => c_fail hA hW.1 X.2.2.2.1 X.2.2.2.2.1 X.2.2.2.2.2.1 k) (fun G1 q => wl_La_law_713 _ _ _ _ _ _ q) (fun G1 P h k => ?_) (fun y' J' JK' c a ho => ho) (fun G2 z q => wl_La_law_717 _ _ _ _ _ _ _ q) K
  obtain ⟨th, h⟩ := h
  exact r_fail (injM (A 31)) h Y.2.2.2.2.1 Y.2.2.2.2.2.1 Y.2.2.2.2.2.2.1 Y.1 (fun G2 W m1 a4 m2 => k G2 _ _ _ 0 _ ⟨rfl, (hq W a4).1, (hq W a4).2⟩ m1 m2 _ (fun _ => rfl))
theorem o_idle {v : Int32} (hv : v = 0 ∨ v = 1) (hsv : (sc (i + 2) = 0 → v = 0) ∧ (¬ sc (i + 2) = 0 → v = 1)) (hA : InjA A) (hW : LW E sc N G o A x p y Jd JK) (hi : i + 7 ≤ N) (hN : N ≤ 3584) (hR : R x y Jd JK) (hS : SimR R) (K : KN E sc N i G A p R Post) : Cl E 11 m_La_idle [.ref (A 0), .int (sc (i + 1)), .int v, .ref (A 32)] G (aft E 14 m_La_law 496 (LL A i) [] Post) := by
  obtain ⟨X, Y⟩ := hS.1 x y Jd JK hR
  obtain ⟨q1, q2⟩ := hS.2.2.2.2.2.2.2.2.2.2.2.2.2.2.1 x y Jd JK hR (sc (i + 1)) v hv
  have hid := Y.2.2.2.2.2.2.2.2.1
  have h01 : (fIdle x (sc (i + 1)) v).1 = 0 → (fIdle x (sc (i + 1)) v).2.1 = 0 ∨ (fIdle x (sc (i + 1)) v).2.1 = 1 := by
    unfold fIdle
    by_cases c : sIx (sc (i + 1)) < 3
    · rw [if_pos c]; exact fun _ => X.2.2.2.2.2.2.1 _ c
    · rw [if_neg c]; exact fun _ => Or.inl rfl
  refine opW (f := fIdle x (sc (i + 1)) v) (dM := 4) (mM := m_Mo_idle) (aM := [.ref (A 31), .int (sc (i + 1)), .int v]) (pcM := 522) (fun y' J' JK' c a => EqO (fIdle x (sc (i + 1)) v) c a ∧ c ≤ 9 ∧ R (fIdle x (sc (i + 1)) v).2.2 y' J' JK') hA hW (fun P k => l_idle hA hW.1 hW.2.2.1 hv X.2.2.2.2.2.2.1 X.2.2.2.2.2.2.2.1 k)
    (fun G1 o1 p1 h1 q => wl_La_law_499 _ _ _ _ _ _ ⟨h1.2.2.2.2.2.2.1, i + 1, h1.arg hi hN 1 (by omega), i + 2, h1.arg hi hN 2 (by omega), ?_⟩) (fun G1 P h k => ?_) (fun y' J' JK' c a ho => ho)
    (fun G2 z o2 x2 y2 p2 J2 JK2 a1 a2 a3 a4 a5 a6 => ?_) K
  · rw [h1.2.2.2.2.2.2.2.2.1 (i + 1), h1.2.2.2.2.2.2.2.2.1 (i + 2)]
    refine ⟨fun z => ?_, fun z => ?_⟩
    · have e := hsv.1 z
      subst e; exact q
    · have e := hsv.2 z
      subst e; exact q
  · obtain ⟨th, h⟩ := h
    exact r_idle (injM (A 31)) h hv hid Y.2.2.2.2.2.2.2.1 Y.1 (fun hx G2 m1 m2 z hz => k G2 y Jd JK 1 0 ⟨⟨(q1 hx).1, fun z => absurd z (by omega)⟩, by decide, (q1 hx).2⟩ m1 m2 z hz)
      (fun s hs hx G2 W m1 a4 m2 => k G2 _ _ _ 0 _ ⟨(q2 s hs hx W a4).1, by decide, (q2 s hs hx W a4).2⟩ m1 m2 _ (fun _ => rfl))
  · have fb : ∀ w : Int64, ((fIdle x (sc (i + 1)) v).1 = 0 → gL G2 (A 32) 0 = w) → ((lg_cmp (gL G2 (A 32) 0) w) = 0 → NX E A i Post G2) ∧ (((fIdle x (sc (i + 1)) v).1 = 0) → (¬ (lg_cmp (gL G2 (A 32) 0) w) = 0 → Post (.inl (some (.int 0))) G2)) := fun w hw => ⟨fun _ => a6, fun h0 q => absurd (by rw [hw h0]; exact lg_self _) q⟩
    have base := fin1 a1 a2 a3 a4 (z := z) a5 a6
    refine wl_La_law_525 _ _ _ _ _ _ z ⟨base.1, fun e => ⟨fun _ => a6, fun h0 => ?_⟩, base.2.2⟩
    obtain ⟨b1, b2, b3⟩ := (base.2.1 e).2 h0
    have c0 : (fIdle x (sc (i + 1)) v).1 = 0 := (nI_eq (a := (fIdle x (sc (i + 1)) v).1) (b := 0) (by omega) (by omega)).mp h0
    refine ⟨b1, b2, fun z0 => ?_, fun z1 => ?_⟩
    · have e0 : gL G2 (A 32) 0 = 0 := by rw [a4 c0, ← a5 c0, z0]; rfl
      exact ⟨fun _ => a6, fun q => absurd (by rw [e0]; exact lg_self _) q⟩
    · have e0 : gL G2 (A 32) 0 = 1 := by
        rw [a4 c0]
        rcases h01 c0 with h | h
        · exact absurd ((a5 c0).trans h) z1
        · rw [h]; rfl
      exact ⟨fun _ => a6, fun q => absurd (by rw [e0]; exact lg_self _) q⟩
theorem o_job {v : Int32} (hv : v = 0 ∨ v = 1) (hsv : (sc (i + 6) = 0 → v = 0) ∧ (¬ sc (i + 6) = 0 → v = 1)) (hA : InjA A) (hW : LW E sc N G o A x p y Jd JK) (hi : i + 7 ≤ N) (hN : N ≤ 3584) (hR : R x y Jd JK) (hS : SimR R) (K : KN E sc N i G A p R Post) : Cl E 3 m_La_job [.ref (A 0), .int (sc (i + 1)), .int (sc (i + 2)), .int (sc (i + 3)), .int (sc (i + 4)), .int (sc (i + 5)), .int v] G (aft E 14 m_La_law 190 (LL A i) [] Post) := by
  obtain ⟨q1, q2⟩ := hS.2.1 x y Jd JK hR (sc (i + 1)) (sc (i + 2)) (sc (i + 3)) (sc (i + 4)) (sc (i + 5)) v hv
  refine l_job hA hW.1 hW.2.2.1 hv (fun G1 o1 p1 y1 y2 y3 y4 => ?_)
  have hW1 := hW.cls y1 y2 y4
  obtain ⟨th, h⟩ := hW1.2.1
  have fin : ∀ G2, MS G2 (A 31) (bM (A 31)) (nI (fJob y (sc (i + 1)) (sc (i + 2)) (sc (i + 3)) (sc (i + 4)) (sc (i + 5)) v).1) (fJob y (sc (i + 1)) (sc (i + 2)) (sc (i + 3)) (sc (i + 4)) (sc (i + 5)) v).2 Jd JK → MSt G1 (A 31) (bM (A 31)) G2 → J E 14 m_La_law 244 [some (.ref (A 33)), some (.ref (A 0)), some (.ref (A 31)), some (.ref (A 32)), some (.int (nI i)), some (.int (nI (fJob x (sc (i + 1)) (sc (i + 2)) (sc (i + 3)) (sc (i + 4)) (sc (i + 5)) v).1)), none] [] G2 Post := fun G2 m1 m2 => by
    obtain ⟨hW2, hL, hC⟩ := hW1.ref hA m1 m2
    obtain ⟨F, T, f1, f2⟩ := m1
    have e : gI G2 640 (A 31) = nI (fJob y (sc (i + 1)) (sc (i + 2)) (sc (i + 3)) (sc (i + 4)) (sc (i + 5)) v).1 := (f1.int 0 (by decide) (by decide)).trans f2.1
    refine wl_La_law_244 _ _ _ _ _ _ ⟨f1.tg, fun _ => K G2 o1 p1 _ _ _ _ hW2 q2 ?_, fun z => absurd (e.trans (by rw [q1])) z⟩
    have : Cs G p G1 (p1 + 1) := y3
    unfold Cs at this ⊢
    rw [m2.1, m2.2.1]
    exact this
  refine wl_La_law_193 _ _ _ _ _ _ ⟨hW1.2.2.2.2.2.2.1, i + 1, hW1.arg hi hN 1 (by omega), i + 2, hW1.arg hi hN 2 (by omega), i + 3, hW1.arg hi hN 3 (by omega), i + 4, hW1.arg hi hN 4 (by omega), i + 5, hW1.arg hi hN 5 (by omega), i + 6, hW1.arg hi hN 6 (by omega), ?_⟩
  rw [hW1.2.2.2.2.2.2.2.2.1 (i + 1), hW1.2.2.2.2.2.2.2.2.1 (i + 2), hW1.2.2.2.2.2.2.2.2.1 (i + 3), hW1.2.2.2.2.2.2.2.2.1 (i + 4), hW1.2.2.2.2.2.2.2.2.1 (i + 5), hW1.2.2.2.2.2.2.2.2.1 (i + 6)]
  refine ⟨fun z => ?_, fun z => ?_⟩
  · have e := hsv.1 z
    subst e; exact ⟨h.tg, r_job h hv fin⟩
  · have e := hsv.2 z
    subst e; exact ⟨h.tg, r_job h hv fin⟩
end LAWOP2
