section RFACE4
variable {E : EV} {G : GH} {Post : Res → GH → Prop} {m : Nat} {B : Nat → Nat} {th : Int32} {y : XS} {Jd : List Nat} {JK : Nat}
theorem r_confirm (h : MS G m B th y Jd JK) (k : KR G m B Post (fConfirm y).1 (fConfirm y).2.1 (fConfirm y).2.2 Jd JK) : Cl E 2 m_Mo_confirm [.ref m] G Post := by
  have h0 := h
  obtain ⟨F, T, h1, ha⟩ := h
  obtain ⟨x1, x2, x3, x4, x5, x6, x7, x8, x9, x10, x11, x12, x13, x14, x15, x16, x17, x18⟩ := ha
  unfold fConfirm at k
  refine j_enter (L := [some (.ref m)]) me_Mo_confirm (cat_c rfl cat_n) (Nat.le_of_ble_eq_true rfl) rfl (wp_Mo_confirm_0 m ⟨h1.tg, ?_⟩)
  rw [show gI G 684 m = tU (cT y) from (h1.int 44 (by decide) (by decide)).trans x3.2.2.2, show gI G 681 m = nI (kP (cK y)) from (h1.int 41 (by decide) (by decide)).trans x16]
  refine ⟨fun c => ?_, fun c => ?_⟩
  · rw [if_pos c] at k; exact KR.exc (n := 0) h0 k
  · rw [if_neg c] at k
    exact k _ ⟨_, T, ((h1.wI 0 0).wI 44 0).wI 42 (nI (kP (cK y))), rfl, x2, ⟨x3.1, x3.2.1, x3.2.2.1, rfl⟩, x4, x5, x6, x7, x8, x9, x10, x11, x12, x13, x14, x15, x16, rfl, x18⟩ (((MSt.rf.wI).wI).wI) _ (fun _ => rfl)
def idX (y : XS) (s : Nat) (v : Int32) : XS := (cJ y, setId (cS y) s v, cN y, cP y, cH y, cK y, cB y, cT y)
theorem r_idle {q v : Int32} (hB : InjB m B) (h : MS G m B th y Jd JK) (hv : v = 0 ∨ v = 1) (hid : ∀ s, s < 3 → sId (cS y) s = 0 ∨ sId (cS y) s = 1) (hn : (kL (cK y)).length + (gWi (cN y)).length ≤ 3900) (hsl : ∀ s, s < 3 → ¬ (-1 : Int32) < -1 - sSl (cS y) s)
    (k0 : ¬ sIx q < 3 → KR G m B Post 1 0 y Jd JK)
    (k1 : ∀ s, s < 3 → sIx q = s → ∀ G' R, MS G' m B 0 (grX (idX y s v) R) Jd JK → R.Perm (grR (idX y s v)) → MSt G m B G' → Post (.inl (some (.int (sId (cS y) s)))) G') : Cl E 4 m_Mo_idle [.ref m, .int q, .int v] G Post := by
  have h0 := h
  obtain ⟨F, T, h1, ha⟩ := h
  obtain ⟨x1, x2, x3, x4, x5, x6, x7, x8, x9, x10, x11, x12, x13, x14, x15, x16, x17, x18⟩ := ha
  refine j_enter (L := [some (.ref m), some (.int q), some (.int v), none]) me_Mo_idle (cat_c rfl (cat_c rfl (cat_c rfl cat_n))) (Nat.le_of_ble_eq_true rfl) rfl (wp_Mo_idle_0 m q v (src3R (fun hq => ⟨h1.tg, KR.exc (n := 0) h0 (k0 hq)⟩) (fun s hs hq hx => ⟨h1.tg, ?_⟩)))
  subst hq
  have h2 := h1.wI 0 0
  refine ⟨B 16, h1.rf 16 rfl, h1.at' 16 rfl, s, h1.ix 16 rfl hs, hv, ?_⟩
  rw [show gA (sI G 640 m 0) (B 16) s = sId (cS y) s from (h2.rd 16 rfl s).trans (x4 s hs).2.2.2.1]
  refine c_grows hB (h2.wA hB 16 s v rfl) (y := idX y s v) (th := 0) (Jd := Jd) (JK := JK) ⟨rfl, x2, x3, fun j hj => ?_, x5, x6, x7, x8, x9, x10, x11, x12, x13, x14, x15, x16, x17, x18⟩ hn (hslP hsl _) (fun G' R y1 y2 y3 => wp_Mo_idle_39 _ ⟨hid s hs, k1 s hs hx G' R y1 y2 (((MSt.rf.wI).wA rfl).tr y3)⟩)
  obtain ⟨a1, a2, a3, a4, a5⟩ := x4 j hj
  refine ⟨a1, a2, a3, ?_, a5⟩
  show up2 T 16 s v 16 j = if j = s then v else sId (cS y) j
  by_cases c : j = s
  · rw [c, u2, if_pos rfl]
  · rw [u2n c, if_neg c]; exact a4
theorem r_fail (hB : InjB m B) (h : MS G m B th y Jd JK) (hk : kP (cK y) ≤ (kL (cK y)).length) (hj : JK ≤ Jd.length) (hL : kP (cK y) + (gWi (cP y)).length ≤ 3900) (hsl : ∀ s, s < 3 → ¬ (-1 : Int32) < -1 - sSl (cS y) s)
    (k : ∀ G' R, MS G' m B 0 (grX (rRest y) R) (Jd.take JK) JK → R.Perm (grR (rRest y)) → MSt G m B G' → Post (.inl (some (.int (nI (kP (cK y)))))) G') : Cl E 5 m_Mo_fail [.ref m] G Post := by
  refine j_enter (L := [some (.ref m)]) me_Mo_fail (cat_c rfl cat_n) (Nat.le_of_ble_eq_true rfl) rfl (wp_Mo_fail_0 m ⟨h.tg, ?_⟩)
  obtain ⟨F, T, h1, ha⟩ := h.code 0
  refine c_restores hB h1 ha hk hj hL (hslP hsl _) (fun G' R y1 y2 y3 => ?_)
  have kk := k G' R y1 y2 ((MSt.rf.wI).tr y3)
  obtain ⟨F2, T2, h2, a2⟩ := y1
  refine wp_Mo_fail_9 m ⟨h2.tg, ?_⟩
  have x17 : F2 42 = nI (kP (cK y)) := a2.2.2.2.2.2.2.2.2.2.2.2.2.2.2.2.2.1
  rw [show gI G' 682 m = nI (kP (cK y)) from (h2.int 42 (by decide) (by decide)).trans x17]
  exact kk
theorem i32_le3 {q : Int32} : ¬ (3 : Int32) < q ↔ q ≤ 3 := Int32.not_lt
theorem r_workers {q : Int32} (hB : InjB m B) (h : MS G m B th y Jd JK) (hk : kP (cK y) ≤ (kL (cK y)).length) (hj : JK ≤ Jd.length) (hL : kP (cK y) + (gWi (cP y)).length ≤ 3900) (hsl : ∀ s, s < 3 → ¬ (-1 : Int32) < -1 - sSl (cS y) s)
    (k1 : (q < 1 ∨ ¬ q ≤ 3) → KR G m B Post 1 0 y Jd JK) (k2 : ¬ q < 1 → q ≤ 3 → tS (cT y) = 0 → KR G m B Post 2 0 y Jd JK)
    (k : ¬ q < 1 → q ≤ 3 → ¬ tS (cT y) = 0 → ∀ G' R, MS G' m B 0 (grX (rRest (setW y q)) R) (Jd.take JK) JK → R.Perm (grR (rRest (setW y q))) → MSt G m B G' → Post (.inl (some (.int (movN (tW (cT y)) q 6 0 0)))) G') : Cl E 5 m_Mo_workers [.ref m, .int q] G Post := by
  have h0 := h
  obtain ⟨F, T, h1, ha⟩ := h
  obtain ⟨x1, x2, x3, x4, x5, x6, x7, x8, x9, x10, x11, x12, x13, x14, x15, x16, x17, x18⟩ := ha
  refine j_enter (L := [some (.ref m), some (.int q), none, none]) me_Mo_workers (cat_c rfl (cat_c rfl cat_n)) (Nat.le_of_ble_eq_true rfl) rfl (wp_Mo_workers_0 m q ⟨fun c1 => ⟨h1.tg, KR.exc (n := 0) h0 (k1 (Or.inl c1))⟩, fun c1 => ⟨fun c2 => ⟨h1.tg, KR.exc (n := 0) h0 (k1 (Or.inr (Int32.not_le.mpr c2)))⟩, fun c2 => ⟨h1.tg, ?_⟩⟩⟩)
  have c2' := Int32.not_lt.mp c2
  rw [show gI G 683 m = tS (cT y) from (h1.int 43 (by decide) (by decide)).trans x3.2.2.1]
  refine ⟨fun c3 => ?_, fun c3 => KR.exc (n := 1) h0 (k2 c1 c2' c3)⟩
  have h2 := h1.wI 0 0
  have kk := k c1 c2' c3
  have e7 : gI (sI G 640 m 0) 647 m = tW (cT y) := (h2.int 7 (by decide) (by decide)).trans x3.1
  have fin : ∀ c : Int32, c = movN (tW (cT y)) q 6 0 0 → J E 5 m_Mo_workers 38 [some (.ref m), some (.int q), some (.int c), some (.int 6)] [] (sI G 640 m 0) Post := by
    intro c hc
    refine wp_Mo_workers_38 m q c 6 ⟨fun _ => ⟨h2.tg, ?_⟩, fun z => absurd (by decide +kernel) z⟩
    refine c_restores hB (h2.wI 7 q) (y := setW y q) (th := 0) (Jd := Jd) (JK := JK) ⟨rfl, x2, ⟨rfl, x3.2.1, x3.2.2.1, x3.2.2.2⟩, x4, x5, x6, x7, x8, x9, x10, x11, x12, x13, x14, x15, x16, x17, x18⟩ hk hj hL (hslP hsl _) (fun G' R y1 y2 y3 => wp_Mo_workers_85 c ?_)
    rw [hc]
    exact kk G' R y1 y2 (((MSt.rf.wI).wI).tr y3)
  have loop : ∀ (m' i : Nat) (c : Int32), m' + i = 6 → movN (tW (cT y)) q m' i c = movN (tW (cT y)) q 6 0 0 → J E 5 m_Mo_workers 38 [some (.ref m), some (.int q), some (.int c), some (.int (nI i))] [] (sI G 640 m 0) Post := by
    intro m'
    induction m' with
    | zero =>
      intro i c hmi hc
      have e : i = 6 := by omega
      subst e
      exact fin c hc
    | succ m' ih =>
      intro i c hmi hc
      refine wp_Mo_workers_38 m q c (nI i) ⟨fun z => absurd z (show ¬ (6 : Int32) ≤ nI i from nI_ge (b := 6) (by omega) (by omega)), fun _ => ⟨h2.tg, ?_⟩⟩
      rw [e7, nI_1, Int32.add_zero]
      refine ⟨fun z => ih (i + 1) (c + 1) (by omega) ?_, fun z => ih (i + 1) c (by omega) ?_⟩
      · rw [← hc]
        show _ = movN _ _ m' (i + 1) (if _ then _ else _)
        rw [if_neg (fun e => z e.symm)]
      · rw [← hc]
        show _ = movN _ _ m' (i + 1) (if _ then _ else _)
        rw [if_pos z.symm]
  exact loop 6 0 0 rfl rfl
/-- a barrier is put -/
def brR (y : XS) : XS := (cJ y, cS y, cN y, cP y, cH y, cK y, (gOf (cN y), fun _ => 0, 1), (1, tS (cT y), tU (cT y), tW (cT y)))
def brN (y : XS) : XS := (cJ y, cS y, cN y, cP y, cH y, cK y, cB y, (1, tS (cT y), tU (cT y), tW (cT y)))
theorem r_barrier (hB : InjB m B) (h : MS G m B th y Jd JK)
    (k1 : ¬ bU (cB y) = 0 → KR G m B Post 1 0 y Jd JK) (k2 : bU (cB y) = 0 → cJ y 5 = 0 → KR G m B Post 0 (tS (cT y) + 1) (rSnap (brN y) (gOf (cN y))) Jd Jd.length) (k3 : bU (cB y) = 0 → ¬ cJ y 5 = 0 → KR G m B Post 0 (tS (cT y)) (brR y) Jd JK) : Cl E 3 m_Mo_barrier [.ref m] G Post := by
  have h0 := h
  obtain ⟨F, T, h1, ha⟩ := h
  obtain ⟨x1, x2, x3, x4, x5, x6, x7, x8, x9, x10, x11, x12, x13, x14, x15, x16, x17, x18⟩ := ha
  refine j_enter (L := [some (.ref m), none]) me_Mo_barrier (cat_c rfl cat_n) (Nat.le_of_ble_eq_true rfl) rfl (wp_Mo_barrier_0 m ⟨h1.tg, ?_⟩)
  rw [show gI G 660 m = bU (cB y) from (h1.int 20 (by decide) (by decide)).trans x18.1, show gI G 646 m = cJ y 5 from (h1.int 6 (by decide) (by decide)).trans x2.2.2.2.2.2]
  refine ⟨fun c => ⟨fun c2 => ?_, fun c2 => ?_⟩, fun c => KR.exc (n := 0) h0 (k1 c)⟩
  · have h2 := (h1.wI 0 0).wI 8 1
    refine c_snapR hB h2 (y := brN y) (th := 0) (Jd := Jd) (JK := JK) ⟨rfl, x2, ⟨x3.1, rfl, x3.2.2.1, x3.2.2.2⟩, x4, x5, x6, x7, x8, x9, x10, x11, x12, x13, x14, x15, x16, x17, x18⟩ (Or.inr rfl) (fun G' y1 y2 => ?_)
    have kk := k2 c c2 G' (by have e : (if (1 : Int32) = 0 then bA (cB (brN y)) else gOf (cN (brN y))) = gOf (cN y) := if_neg (by decide); rw [e] at y1; exact y1) (((MSt.rf.wI).wI).tr y2) _ (fun _ => rfl)
    obtain ⟨F2, T2, h3, a3⟩ := y1
    refine wp_Mo_barrier_78 m ⟨h3.tg, ?_⟩
    have x43 : F2 43 = tS (cT y) + 1 := a3.2.2.1.2.2.1
    rw [show gI G' 683 m = tS (cT y) + 1 from (h3.int 43 (by decide) (by decide)).trans x43]
    exact kk
  · have h2 := ((h1.wI 0 0).wI 8 1).wI 20 1
    have s2 : MSt G m B (sI (sI (sI G 640 m 0) 648 m 1) 660 m 1) := ((MSt.rf.wI).wI).wI
    have kk := k3 c c2
    generalize sI (sI (sI G 640 m 0) 648 m 1) 660 m 1 = G1 at *
    have loop : ∀ (d q : Nat) (G2 : GH) (T2 : Nat → Nat → Int32), d + q = 3 → MoS G2 m B (up1 (up1 (up1 F 0 0) 8 1) 20 1) T2 → MSt G m B G2 → (∀ j, ¬ (j = 21 ∨ j = 22) → T2 j = T j) → (∀ j, j < q → T2 21 j = nI (gOf (cN y) j) ∧ T2 22 j = 0) → J E 3 m_Mo_barrier 40 [some (.ref m), some (.int (nI q))] [] G2 Post := by
      intro d
      induction d with
      | zero =>
        intro q G2 T2 hdq h3 s3 t3 r3
        have eq : q = 3 := by omega
        subst eq
        refine wp_Mo_barrier_40 m 3 ⟨fun _ => ⟨h3.tg, ?_⟩, fun z => absurd (by decide +kernel) z⟩
        rw [show gI G2 683 m = tS (cT y) from (h3.int 43 (by decide) (by decide)).trans x3.2.2.1]
        exact kk G2 ⟨_, T2, h3, rfl, x2, ⟨x3.1, rfl, x3.2.2.1, x3.2.2.2⟩, x4.cg (fun j hj => t3 j (by omega)), x5.cg (t3 13 (by omega)) (t3 14 (by omega)) (t3 17 (by omega)), x6, x7, x8.cg (fun j _ _ => t3 j (by omega)), x9.cg (t3 32 (by omega)), x10.cg (t3 52 (by omega)) (t3 53 (by omega)) (t3 54 (by omega)), x11, x12, x13.cg (fun j _ _ => t3 j (by omega)), x14, x15.cg (fun j _ _ => t3 j (by omega)), x16, x17, rfl, fun s hs => r3 s hs⟩ s3 _ (fun _ => rfl)
      | succ d ih =>
        intro q G2 T2 hdq h3 s3 t3 r3
        have hq : q < 3 := by omega
        refine wp_Mo_barrier_40 m (nI q) ⟨fun z => absurd z (show ¬ (3 : Int32) ≤ nI q from nI_ge (b := 3) (by omega) (by omega)), fun _ => ⟨h3.tg, B 21, h3.rf 21 rfl, B 13, h3.rf 13 rfl, Or.inl (h3.at' 13 rfl), q, h3.ix 13 rfl hq, h3.at' 21 rfl, q, h3.ix 21 rfl hq, B 22, h3.rf 22 rfl, h3.at' 22 rfl, q, h3.ix 22 rfl hq, ?_⟩⟩
        rw [show gA G2 (B 13) q = nI (gOf (cN y) q) from ((h3.rd 13 rfl q).trans (congrFun (t3 13 (by omega)) q)).trans (x5 q hq).1, nI_1 q]
        refine ih (q + 1) _ _ (by omega) ((h3.wA hB 21 q _ rfl).wA hB 22 q 0 rfl) (s3.tr ((MSt.rf.wA rfl).wA rfl)) (fun j hj => ?_) (fun j hj => ?_)
        · funext z
          show up2 (up2 T2 21 q _) 22 q _ j z = T j z
          unfold up2
          rw [if_neg (by omega), if_neg (by omega)]
          exact congrFun (t3 j hj) z
        · by_cases cj : j = q
          · rw [cj]; exact ⟨u2, u2⟩
          · obtain ⟨a1, a2⟩ := r3 j (by omega)
            exact ⟨(u2n cj).trans a1, (u2n cj).trans a2⟩
    exact loop 3 0 G1 T rfl h2 s2 (fun _ _ => rfl) (fun j hj => absurd hj (Nat.not_lt_zero _))
end RFACE4
