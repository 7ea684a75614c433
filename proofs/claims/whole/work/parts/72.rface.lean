section RFACE
variable {E : EV} {G : GH} {Post : Res → GH → Prop} {m : Nat} {B : Nat → Nat} {th : Int32} {y : XS} {Jd : List Nat} {JK : Nat}
/-- what the law sees of a call of the reference: code, answer, the object behind it -/
abbrev KR (G : GH) (m : Nat) (B : Nat → Nat) (Post : Res → GH → Prop) (c : Nat) (a : Int32) (y' : XS) (J' : List Nat) (JK' : Nat) : Prop :=
  ∀ G', MS G' m B (nI c) y' J' JK' → MSt G m B G' → ∀ z, (c = 0 → z = a) → Post (.inl (some (.int z))) G'
theorem MS.code (h : MS G m B th y Jd JK) (c : Int32) : MS (sI G 640 m c) m B c y Jd JK := by
  obtain ⟨F, T, h1, x1, x2, x3, x4, x5, x6, x7, x8, x9, x10, x11, x12, x13, x14, x15, x16, x17, x18⟩ := h
  exact ⟨_, T, h1.wI 0 c, rfl, x2, x3, x4, x5, x6, x7, x8, x9, x10, x11, x12, x13, x14, x15, x16, x17, x18⟩
theorem MS.tg (h : MS G m B th y Jd JK) : gT G m = 11 := by
  obtain ⟨F, T, h1, -⟩ := h
  exact h1.tg
/-- a refusal -/
theorem KR.exc {n : Nat} {a : Int32} (h : MS G m B th y Jd JK) (k : KR G m B Post (n + 1) a y Jd JK) : Post (.inl (some (.int 0))) (sI G 640 m (nI (n + 1))) :=
  k _ (h.code _) MSt.rf.wI 0 (fun z => absurd z (by omega))
theorem src3R {q : Int32} {X Y : Prop} (hx : ¬ sIx q < 3 → X) (hy : ∀ s, s < 3 → q = nI s → sIx q = s → Y) : (q < 0 → X) ∧ (¬ q < 0 → ((2 : Int32) < q → X) ∧ (¬ (2 : Int32) < q → Y)) := by
  obtain ⟨h1, h2⟩ := src3 hx hy
  refine ⟨h1, fun h => ⟨fun h3 => (h2 h).2 (fun z => ?_), fun h3 => (h2 h).1 ?_⟩⟩
  · have a := Int32.lt_iff_toInt_lt.mp z
    have b := Int32.lt_iff_toInt_lt.mp h3
    have e2 : (2 : Int32).toInt = 2 := by decide +kernel
    have e3 : (3 : Int32).toInt = 3 := by decide +kernel
    rw [e3] at a
    rw [e2] at b
    omega
  · apply Int32.lt_iff_toInt_lt.mpr
    have b : ¬ (2 : Int32).toInt < q.toInt := fun z => h3 (Int32.lt_iff_toInt_lt.mpr z)
    have e2 : (2 : Int32).toInt = 2 := by decide +kernel
    have e3 : (3 : Int32).toInt = 3 := by decide +kernel
    rw [e2] at b
    rw [e3]
    omega
theorem r_watermark (h : MS G m B th y Jd JK) (k : KR G m B Post 0 (gMk (cN y)) y Jd JK) : Cl E 1 m_Mo_watermark [.ref m] G Post := by
  have hc := h.code 0
  obtain ⟨F, T, h1, ha⟩ := h
  refine j_enter (L := [some (.ref m)]) me_Mo_watermark (cat_c rfl cat_n) (Nat.le_of_ble_eq_true rfl) rfl (wp_Mo_watermark_0 m ⟨h1.tg, ?_⟩)
  rw [show gI G 658 m = gMk (cN y) from (h1.int 18 (by decide) (by decide)).trans ha.2.2.2.2.2.1]
  exact k _ hc MSt.rf.wI _ (fun _ => rfl)
theorem r_dropped (h : MS G m B th y Jd JK) (k : KR G m B Post 0 (gDr (cN y)) y Jd JK) : Cl E 1 m_Mo_dropped [.ref m] G Post := by
  have hc := h.code 0
  obtain ⟨F, T, h1, ha⟩ := h
  refine j_enter (L := [some (.ref m)]) me_Mo_dropped (cat_c rfl cat_n) (Nat.le_of_ble_eq_true rfl) rfl (wp_Mo_dropped_0 m ⟨h1.tg, ?_⟩)
  rw [show gI G 659 m = gDr (cN y) from (h1.int 19 (by decide) (by decide)).trans ha.2.2.2.2.2.2.1]
  exact k _ hc MSt.rf.wI _ (fun _ => rfl)
theorem r_uncommitted (h : MS G m B th y Jd JK) (k : KR G m B Post 0 (nI (kL (cK y)).length - nI (kC (cK y))) y Jd JK) : Cl E 1 m_Mo_uncommitted [.ref m] G Post := by
  have hc := h.code 0
  obtain ⟨F, T, h1, ha⟩ := h
  obtain ⟨x1, x2, x3, x4, x5, x6, x7, x8, x9, x10, x11, x12, x13, x14, x15, x16, x17, x18⟩ := ha
  refine j_enter (L := [some (.ref m)]) me_Mo_uncommitted (cat_c rfl cat_n) (Nat.le_of_ble_eq_true rfl) rfl (wp_Mo_uncommitted_0 m ⟨h1.tg, ?_⟩)
  rw [show gI G 680 m = nI (kL (cK y)).length from (h1.int 40 (by decide) (by decide)).trans x15.1, show gI G 682 m = nI (kC (cK y)) from (h1.int 42 (by decide) (by decide)).trans x17]
  exact k _ hc MSt.rf.wI _ (fun _ => rfl)
theorem r_thrown {c : Nat} (h : MS G m B (nI c) y Jd JK) (k : Post (.inl (some (.int (nI c)))) G) : Cl E 1 m_Mo_thrown [.ref m] G Post := by
  obtain ⟨F, T, h1, ha⟩ := h
  refine j_enter (L := [some (.ref m)]) me_Mo_thrown (cat_c rfl cat_n) (Nat.le_of_ble_eq_true rfl) rfl (wp_Mo_thrown_0 m ⟨h1.tg, ?_⟩)
  rw [show gI G 640 m = nI c from (h1.int 0 (by decide) (by decide)).trans ha.1]
  exact k
theorem r_sourceWatermark {q : Int32} (h : MS G m B th y Jd JK) (hsl : ∀ s, s < 3 → ¬ (-1 : Int32) < -1 - sSl (cS y) s) (k : KR G m B Post (fSourceWatermark y q).1 (fSourceWatermark y q).2.1 y Jd JK) : Cl E 3 m_Mo_sourceWatermark [.ref m, .int q] G Post := by
  have h0 := h
  obtain ⟨F, T, h1, ha⟩ := h
  obtain ⟨x1, x2, x3, x4, x5, -⟩ := ha
  refine j_enter (L := [some (.ref m), some (.int q)]) me_Mo_sourceWatermark (cat_c rfl (cat_c rfl cat_n)) (Nat.le_of_ble_eq_true rfl) rfl (wp_Mo_sourceWatermark_0 m q (src3R (fun hq => ?_) (fun s hs hq hx => ?_)))
  · rw [show fSourceWatermark y q = (0 + 1, 0, y) from if_neg hq] at k
    exact ⟨h1.tg, k.exc h0⟩
  · subst hq
    rw [show fSourceWatermark y (nI s) = (0, mkfP (cN y) (cS y) (sIx (nI s)), y) from if_pos (by omega), hx] at k
    have h2 := h1.wI 0 0
    have e17 : gA (sI G 640 m 0) (B 17) s = gGr (cN y) s := (h2.rd 17 rfl s).trans (x5 s hs).2.2
    have e15 : gA (sI G 640 m 0) (B 15) s = sSl (cS y) s := (h2.rd 15 rfl s).trans (x4 s hs).2.2.1
    have go : ∀ z, z = mkfP (cN y) (cS y) s → Post (.inl (some (.int z))) (sI G 640 m 0) := fun z hz => k _ (h0.code 0) MSt.rf.wI z (fun _ => hz)
    refine ⟨h1.tg, B 17, h1.rf 17 rfl, Or.inl (h1.at' 17 rfl), s, h1.ix 17 rfl hs, ?_⟩
    rw [e17]
    refine ⟨fun c => ⟨B 15, h1.rf 15 rfl, Or.inl (h1.at' 15 rfl), s, h1.ix 15 rfl hs, ?_⟩, fun c => go _ (hslP hsl (cN y) s hs c).symm⟩
    rw [e15]
    refine ⟨fun c2 => go _ ?_, fun c2 => go _ ?_⟩
    · unfold mkfP
      by_cases c : (-1 : Int32) < gGr (cN y) s - sSl (cS y) s
      · rw [if_pos c]
      · rw [if_neg c]; exact (i32_antisymm c2 c).symm
    · unfold mkfP
      rw [if_neg (fun z => c2 (Int32.le_of_lt z))]
theorem r_offset {q : Int32} (h : MS G m B th y Jd JK) (k : KR G m B Post (fOffset y q).1 (fOffset y q).2.1 y Jd JK) : Cl E 3 m_Mo_offset [.ref m, .int q] G Post := by
  have h0 := h
  obtain ⟨F, T, h1, ha⟩ := h
  obtain ⟨x1, x2, x3, x4, x5, -⟩ := ha
  refine j_enter (L := [some (.ref m), some (.int q)]) me_Mo_offset (cat_c rfl (cat_c rfl cat_n)) (Nat.le_of_ble_eq_true rfl) rfl (wp_Mo_offset_0 m q (src3R (fun hq => ?_) (fun s hs hq hx => ?_)))
  · rw [show fOffset y q = (0 + 1, 0, y) from if_neg hq] at k
    exact ⟨h1.tg, k.exc h0⟩
  · subst hq
    rw [show fOffset y (nI s) = (0, nI (gOf (cN y) (sIx (nI s))), y) from if_pos (by omega), hx] at k
    have h2 := h1.wI 0 0
    refine ⟨h1.tg, B 13, h1.rf 13 rfl, Or.inl (h1.at' 13 rfl), s, h1.ix 13 rfl hs, ?_⟩
    rw [show gA (sI G 640 m 0) (B 13) s = nI (gOf (cN y) s) from (h2.rd 13 rfl s).trans (x5 s hs).1]
    exact k _ (h0.code 0) MSt.rf.wI _ (fun _ => rfl)
theorem r_inChannel {q : Int32} (h : MS G m B th y Jd JK) (k : KR G m B Post (fInChannel y q).1 (fInChannel y q).2.1 y Jd JK) : Cl E 3 m_Mo_inChannel [.ref m, .int q] G Post := by
  have h0 := h
  obtain ⟨F, T, h1, ha⟩ := h
  obtain ⟨x1, x2, x3, x4, x5, -⟩ := ha
  refine j_enter (L := [some (.ref m), some (.int q)]) me_Mo_inChannel (cat_c rfl (cat_c rfl cat_n)) (Nat.le_of_ble_eq_true rfl) rfl (wp_Mo_inChannel_0 m q (src3R (fun hq => ?_) (fun s hs hq hx => ?_)))
  · rw [show fInChannel y q = (0 + 1, 0, y) from if_neg hq] at k
    exact ⟨h1.tg, k.exc h0⟩
  · subst hq
    rw [show fInChannel y (nI s) = (0, nI (gOf (cN y) (sIx (nI s))) - nI (gTk (cN y) (sIx (nI s))), y) from if_pos (by omega), hx] at k
    have h2 := h1.wI 0 0
    refine ⟨h1.tg, B 13, h1.rf 13 rfl, Or.inl (h1.at' 13 rfl), s, h1.ix 13 rfl hs, B 14, h1.rf 14 rfl, Or.inl (h1.at' 14 rfl), s, h1.ix 14 rfl hs, ?_⟩
    rw [show gA (sI G 640 m 0) (B 13) s = nI (gOf (cN y) s) from (h2.rd 13 rfl s).trans (x5 s hs).1, show gA (sI G 640 m 0) (B 14) s = nI (gTk (cN y) s) from (h2.rd 14 rfl s).trans (x5 s hs).2.1]
    exact k _ (h0.code 0) MSt.rf.wI _ (fun _ => rfl)
theorem r_slack {q v : Int32} (hB : InjB m B) (h : MS G m B th y Jd JK) (k : KR G m B Post (fSlack y q v).1 (fSlack y q v).2.1 (fSlack y q v).2.2 Jd JK) : Cl E 3 m_Mo_slack [.ref m, .int q, .int v] G Post := by
  have h0 := h
  obtain ⟨F, T, h1, ha⟩ := h
  obtain ⟨x1, x2, x3, x4, x5, x6, x7, x8, x9, x10, x11, x12, x13, x14, x15, x16, x17, x18⟩ := ha
  unfold fSlack at k
  refine j_enter (L := [some (.ref m), some (.int q), some (.int v), none]) me_Mo_slack (cat_c rfl (cat_c rfl (cat_c rfl cat_n))) (Nat.le_of_ble_eq_true rfl) rfl (wp_Mo_slack_0 m q v (src3R (fun hq => ?_) (fun s hs hq hx => ⟨fun c1 => ?_, fun c1 => ⟨fun c2 => ?_, fun c2 => ⟨h1.tg, ?_⟩⟩⟩)))
  · rw [if_neg hq] at k
    exact ⟨h1.tg, KR.exc (n := 0) h0 k⟩
  all_goals subst hq; rw [if_pos (by omega), hx] at k
  · rw [if_pos c1] at k
    exact ⟨h1.tg, KR.exc (n := 1) h0 k⟩
  · rw [if_neg c1, if_pos c2] at k
    exact ⟨h1.tg, KR.exc (n := 1) h0 k⟩
  · rw [if_neg c1, if_neg c2] at k
    rw [show gI G 648 m = tB (cT y) from (h1.int 8 (by decide) (by decide)).trans x3.2.1]
    refine ⟨fun c3 => ?_, fun c3 => ?_⟩
    · rw [if_pos c3] at k
      have h2 := h1.wI 0 0
      refine ⟨B 15, h1.rf 15 rfl, Or.inl (h1.at' 15 rfl), s, h1.ix 15 rfl hs, h1.at' 15 rfl, ?_⟩
      rw [show gA (sI G 640 m 0) (B 15) s = sSl (cS y) s from (h2.rd 15 rfl s).trans (x4 s hs).2.2.1]
      refine k _ ⟨_, _, h2.wA hB 15 s v rfl, rfl, x2, x3, fun j hj => ?_, x5, x6, x7, x8, x9, x10, x11, x12, x13, x14, x15, x16, x17, x18⟩ ((MSt.rf.wI).wA rfl) _ (fun _ => rfl)
      obtain ⟨a1, a2, a3, a4, a5⟩ := x4 j hj
      refine ⟨a1, a2, ?_, a4, a5⟩
      show up2 T 15 s v 15 j = if j = s then v else sSl (cS y) j
      by_cases c : j = s
      · rw [c, u2, if_pos rfl]
      · rw [u2n c, if_neg c]; exact a3
    · rw [if_neg c3] at k
      exact KR.exc (n := 2) h0 k
theorem r_read {q : Int32} (hB : InjB m B) (h : MS G m B th y Jd JK) (hb : ∀ s, s < 3 → gTk (cN y) s ≤ gOf (cN y) s ∧ gOf (cN y) s ≤ (sEv (cS y) s).length ∧ gOf (cN y) s - gTk (cN y) s ≤ 4) (k : KR G m B Post (fRead y q).1 (fRead y q).2.1 (fRead y q).2.2 Jd JK) : Cl E 3 m_Mo_read [.ref m, .int q] G Post := by
  have h0 := h
  obtain ⟨F, T, h1, ha⟩ := h
  obtain ⟨x1, x2, x3, x4, x5, x6, x7, x8, x9, x10, x11, x12, x13, x14, x15, x16, x17, x18⟩ := ha
  unfold fRead at k
  refine j_enter (L := [some (.ref m), some (.int q), none]) me_Mo_read (cat_c rfl (cat_c rfl cat_n)) (Nat.le_of_ble_eq_true rfl) rfl (wp_Mo_read_0 m q (src3R (fun hq => ?_) (fun s hs hq hx => ⟨h1.tg, ?_⟩)))
  · rw [if_neg hq] at k
    exact ⟨h1.tg, KR.exc (n := 0) h0 k⟩
  subst hq; rw [if_pos (by omega), hx] at k
  obtain ⟨b1, b2, b3⟩ := hb s hs
  obtain ⟨a1, a2, a3, a4, a5⟩ := x4 s hs
  refine ⟨B 13, h1.rf 13 rfl, Or.inl (h1.at' 13 rfl), s, h1.ix 13 rfl hs, B 12, h1.rf 12 rfl, Or.inl (h1.at' 12 rfl), s, h1.ix 12 rfl hs, ?_⟩
  rw [show gA G (B 13) s = nI (gOf (cN y) s) from (h1.rd 13 rfl s).trans (x5 s hs).1, show gA G (B 12) s = nI (sEv (cS y) s).length from (h1.rd 12 rfl s).trans a1, nI_eq (by omega) (by omega)]
  refine ⟨fun c => ?_, fun c => ⟨B 14, h1.rf 14 rfl, Or.inl (h1.at' 14 rfl), s, h1.ix 14 rfl hs, ?_⟩⟩
  · rw [if_neg (by omega)] at k
    exact KR.exc (n := 1) h0 k
  rw [if_pos (by omega)] at k
  rw [show gA G (B 14) s = nI (gTk (cN y) s) from (h1.rd 14 rfl s).trans (x5 s hs).2.1, nI_sub b1]
  refine ⟨fun c2 => ⟨h1.at' 13 rfl, fun G20 hG20 => ?_⟩, fun c2 => ?_⟩
  · have c3 : ¬ gOf (cN y) s - gTk (cN y) s = 4 := fun z => c2 (by rw [z]; rfl)
    rw [if_pos (by omega)] at k
    have h2 := (h1.wI 0 0).wI 8 1
    rw [show gA (sI (sI G 640 m 0) 648 m 1) (B 13) s = nI (gOf (cN y) s) from (h2.rd 13 rfl s).trans (x5 s hs).1, nI_1] at hG20
    have h3 : MoS G20 m B _ _ := hG20 ▸ h2.wA hB 13 s (nI (gOf (cN y) s + 1)) rfl
    have s3 : MSt G m B G20 := hG20 ▸ ((MSt.rf.wI).wI).wA rfl
    rw [show gA G20 (B 13) s = nI (gOf (cN y) s + 1) from (h3.rd 13 rfl s).trans u2, show gA G20 (B 14) s = nI (gTk (cN y) s) from (h3.rd 14 rfl s).trans (x5 s hs).2.1, nI_sub (by omega)]
    refine k _ ⟨_, _, h3, rfl, x2, ⟨x3.1, rfl, x3.2.2.1, x3.2.2.2⟩, x4, fun j hj => ?_, x6, x7, x8, x9, x10, x11, x12, x13, x14, x15, x16, x17, x18⟩ s3 _ (fun _ => rfl)
    obtain ⟨g1, g2, g3⟩ := x5 j hj
    refine ⟨?_, g2, g3⟩
    show up2 T 13 s (nI (gOf (cN y) s + 1)) 13 j = nI (if j = s then gOf (cN y) s + 1 else gOf (cN y) j)
    by_cases c : j = s
    · rw [c, u2, if_pos rfl]
    · rw [u2n c, if_neg c]; exact g1
  · have c3 : gOf (cN y) s - gTk (cN y) s = 4 := (nI_eq (a := gOf (cN y) s - gTk (cN y) s) (b := 4) (by omega) (by omega)).mp c2
    rw [if_neg (by omega)] at k
    exact KR.exc (n := 1) h0 k
end RFACE
