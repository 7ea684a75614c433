/-! p25: the law's deeds, one by one -/
section ARMS25
variable {E : EV} {G : GH} {Post : Res → GH → Prop} {o A : Nat → Nat} {x : XS} {p N : Nat} {G0 : GH} {t : Nat} {y com sn wk T kd sz sl al : Int32}
theorem LQ.congr {m d m' d' : Nat → Int32} (h : LQ E N G o A x p m d) (e1 : ∀ i, i < 3 → m i = m' i) (e2 : ∀ i, i < 3 → d i = d' i) : LQ E N G o A x p m' d' := by
  obtain ⟨h1, ⟨a1, a2, a3, a4⟩, ⟨b1, b2, b3, b4⟩, h4, h5⟩ := h
  exact ⟨h1, ⟨a1, a2, a3, fun i hi => (a4 i hi).trans (e1 i hi)⟩, ⟨b1, b2, b3, fun i hi => (b4 i hi).trans (e2 i hi)⟩, h4, h5⟩
theorem PI.up (h : PI x t kd sz sl al com sn wk) : PI x (t + 1) kd sz sl al com sn wk := by
  obtain ⟨hI, hk, hz, hsl, hal, hcom, hsn, hwk, k, hkk, hts⟩ := h
  exact ⟨hI, hk, hz, hsl, hal, hcom, hsn, hwk, k, by omega, hts⟩
theorem i13 : (-13 : Int32) < 0 := by decide +kernel
theorem n13 {n : Nat} (h : n < 100000) : ¬ nI n = -13 := fun z => nI_pos (n := n) (by omega) (by rw [z]; exact i13)
/-- append -/
theorem arm_app {s : Nat} {tm : Int32} (hA : InjA A) (hW : LQ E N G o A x p (mF x) (dF x)) (hP : PI x t kd sz sl al com sn wk) (hy : 0 ≤ y.toInt) (hC : Cs G0 0 G (p + 60 * t)) (K : KT E N A G0 Post kd sz sl al T (t + 1)) (hs : s < 3) (tm0 : 0 ≤ tm.toInt) (tm1 : tm.toInt ≤ 999) : J E 15 m_La_law 335 [some (.ref (A 33)), some (.ref (A 0)), some (.ref (A 31)), some (.ref (A 32)), none, some (.int kd), some (.int sz), some (.int sl), some (.int al), none, some (.int com), some (.int sn), some (.int wk), some (.int T), some (.int (nI t)), none, some (.int y), none, some (.int (nI s)), some (.int (gMk (cN x))), none, none, none, none, none, none, none] [.int tm] G Post := by
  have hP' := hP.up
  obtain ⟨hI, hk, hz, hsl, hal, hcom, hsn, hwk, hts⟩ := id hP'
  have c1 : (1000 : Int32).toInt = 1000 := by decide +kernel
  have c2 : (2001 : Int32).toInt = 2001 := by decide +kernel
  have c3 : (6 : Int32).toInt = 6 := by decide +kernel
  have c0 : (0 : Int32).toInt = 0 := by decide +kernel
  have c9 : (999 : Int32).toInt = 999 := by decide +kernel
  have cm : (-1000 : Int32).toInt = -1000 := by decide +kernel
  have y12 : 0 ≤ (y >>> ((12 : Int32) &&& 31)).toInt := (shr_nn hy).1
  have y15 : 0 ≤ (y >>> ((15 : Int32) &&& 31)).toInt := (shr_nn hy).1
  obtain ⟨-, k1, k2⟩ := rm_int (m := (6 : Int32)) y12 (by omega)
  obtain ⟨-, v1, v2⟩ := rm_int (m := (2001 : Int32)) y15 (by omega)
  refine wp_La_law_335 _ _ _ _ _ _ _ _ _ _ _ _ _ _ _ _ _ ?_
  generalize (y >>> ((12 : Int32) &&& 31)) - (y >>> ((12 : Int32) &&& 31)) / (6 : Int32) * (6 : Int32) = ky at *
  generalize (y >>> ((15 : Int32) &&& 31)) - (y >>> ((15 : Int32) &&& 31)) / (2001 : Int32) * (2001 : Int32) = vy at *
  have ev : (vy - 1000).toInt = vy.toInt - 1000 := by rw [i32_sub (by rw [c1]; omega) (by rw [c1]; omega), c1]
  have ok : ¬ apBad tm ky (vy - 1000) := fun z => by
    rcases z with z | z | z | z | z | z
    · have := i32_lt z; omega
    · have := i32_lt z; omega
    · have := i32_lt z; omega
    · have := i32_le z; omega
    · have := i32_lt z; omega
    · have := i32_nle z; omega
  obtain ⟨f1, f2⟩ := iv_app hI hs ok
  have le40 := (hI.1.1.2.1 s hs).1
  refine on_append hA hW.1 hW.2.2.2.2 ?_
  by_cases c : (sEv (cS x) s).length < 40
  · obtain ⟨f1, iv⟩ := f1 c
    rw [f1]
    intro G1 o1 p1 y1 y2 y3
    have h1 : LQ E N G1 o1 A (apX x s (tm, ky, vy - 1000)) p1 (mF x) (dF x) := hW.cls y1 y2
    have C1 := hC.nx y3
    have h2 := h1
    obtain ⟨-, ⟨a1, a2, a3, a4⟩, -, -, -⟩ := h2
    have em : gA G1 (A 31) s = nI (sEv (cS x) s).length := a4 s hs
    refine wp_La_law_367 _ _ _ _ _ _ _ _ _ _ _ _ _ _ _ _ _ ⟨Or.inl a1, s, ix3 hs a2, fun z => ?_, fun _ => ?_⟩
    · rw [em] at z; exact absurd z (nI_ge (b := 40) c (by omega))
    refine wp_La_law_389 _ _ _ _ _ _ _ _ _ _ _ _ _ _ _ _ _ _ _ ⟨fun z => absurd em.symm z, fun _ => wp_La_law_397 _ _ _ _ _ _ _ _ _ _ _ _ _ _ _ _ _ _ ⟨Or.inl a1, s, ix3 hs a2, fun z => absurd z (nI_pos (by omega)), fun _ => wp_La_law_414 _ _ _ _ _ _ _ _ _ _ _ _ _ _ _ _ _ _ _ _ ⟨a1, s, ix3 hs a2, ?_⟩⟩⟩
    refine tail25 (c := 1) hA ((h1.many hA (s := s) (v := gA G1 (A 31) s + 1)).congr (fun i hi => ?_) (fun i hi => rfl)) ⟨iv, hk, hz, hsl, hal, hcom, hsn, hwk, hts⟩ src_rf hy (by omega) (C1.up (by omega)) K
    show (if i = s then gA G1 (A 31) s + 1 else nI (sEv (cS x) i).length) = nI (if i = s then sEv (cS x) s ++ [(tm, ky, vy - 1000)] else sEv (cS x) i).length
    by_cases d : i = s
    · rw [if_pos d, if_pos d, em, nI_1, List.length_append]; rfl
    · rw [if_neg d, if_neg d]
  · rw [f2 c]
    intro G1 o1 p1 y1 y2 y3
    have h1 : LQ E N G1 o1 A x p1 (mF x) (dF x) := hW.cls y1 y2
    have C1 := hC.nx y3
    have h2 := h1
    obtain ⟨-, ⟨a1, a2, a3, a4⟩, -, -, -⟩ := h2
    have em : gA G1 (A 31) s = nI (sEv (cS x) s).length := a4 s hs
    show J E 15 m_La_law 367 _ [.int (exV xIS)] G1 Post
    rw [exV_IS]
    refine wp_La_law_367 _ _ _ _ _ _ _ _ _ _ _ _ _ _ _ _ _ ⟨Or.inl a1, s, ix3 hs a2, fun _ => ?_, fun z => ?_⟩
    · refine wp_La_law_389 _ _ _ _ _ _ _ _ _ _ _ _ _ _ _ _ _ _ _ ⟨fun z => absurd rfl z, fun _ => wp_La_law_397 _ _ _ _ _ _ _ _ _ _ _ _ _ _ _ _ _ _ ⟨Or.inl a1, s, ix3 hs a2, fun _ => wp_La_law_414 _ _ _ _ _ _ _ _ _ _ _ _ _ _ _ _ _ _ _ _ ⟨a1, s, ix3 hs a2, ?_⟩, fun z => absurd i13 z⟩⟩
      refine tail25 (c := 1) hA ((h1.many hA (s := s) (v := gA G1 (A 31) s + 0)).congr (fun i hi => ?_) (fun i hi => rfl)) hP' src_rf hy (by omega) (C1.up (by omega)) K
      show (if i = s then gA G1 (A 31) s + 0 else nI (sEv (cS x) i).length) = nI (sEv (cS x) i).length
      by_cases d : i = s
      · rw [if_pos d, em, Int32.add_zero, d]
      · rw [if_neg d]
    · rw [em] at z; exact absurd (nI_le (a := 40) (by omega) (by omega)) z
/-- read -/
theorem arm_read {s : Nat} (hA : InjA A) (hW : LQ E N G o A x p (mF x) (dF x)) (hP : PI x t kd sz sl al com sn wk) (hy : 0 ≤ y.toInt) (hC : Cs G0 0 G (p + 60 * t)) (K : KT E N A G0 Post kd sz sl al T (t + 1)) (hs : s < 3) : Cl E 14 m_La_on [.ref (A 0), .int 1, .int (nI s), .int 0, .int 0, .int 0] G (aft E 15 m_La_law 449 [some (.ref (A 33)), some (.ref (A 0)), some (.ref (A 31)), some (.ref (A 32)), none, some (.int kd), some (.int sz), some (.int sl), some (.int al), none, some (.int com), some (.int sn), some (.int wk), some (.int T), some (.int (nI t)), none, some (.int y), none, some (.int (nI s)), some (.int (gMk (cN x))), none, none, some (.int (nI (gOf (cN x) s))), some (.int (nI (gOf (cN x) s) - nI (gTk (cN x) s))), none, none, none] [] Post) := by
  have hP' := hP.up
  obtain ⟨hI, hk, hz, hsl, hal, hcom, hsn, hwk, hts⟩ := id hP'
  have X := side_x hI.1
  obtain ⟨q1, q2, q3⟩ := hI.1.1.2.2.1.1 s hs
  have q4 := (hI.1.1.2.1 s hs).1
  have ch : nI (gOf (cN x) s) - nI (gTk (cN x) s) = nI (gOf (cN x) s - gTk (cN x) s) := nI_sub q1
  obtain ⟨f1, f2⟩ := iv_read hI hs
  refine on_read hA hW.1 X.1 ?_
  by_cases c : gOf (cN x) s < (sEv (cS x) s).length ∧ gOf (cN x) s - gTk (cN x) s < 4
  · obtain ⟨f1, iv⟩ := f1 c
    rw [f1]
    intro G1 o1 p1 y1 y2 y3
    have h1 : LQ E N G1 o1 A (rdX x s) p1 (mF x) (dF x) := hW.cls y1 y2
    have C1 := hC.nx y3
    have h2 := h1
    obtain ⟨-, ⟨a1, a2, a3, a4⟩, -, -, -⟩ := h2
    have em : gA G1 (A 31) s = nI (sEv (cS x) s).length := a4 s hs
    have eo : nI (gOf (cN (rdX x s)) s) = nI (gOf (cN x) s) + 1 := by
      rw [show gOf (cN (rdX x s)) s = gOf (cN x) s + 1 from if_pos rfl, nI_1]
    refine wp_La_law_452 _ _ _ _ _ _ _ _ _ _ _ _ _ _ _ _ _ _ _ ⟨Or.inl a1, s, ix3 hs a2, fun z => ?_, fun _ => ⟨fun z => ?_, fun _ => ?_⟩⟩
    · rw [em] at z; exact absurd z (nI_ge c.1 (by omega))
    · rw [ch] at z; exact absurd z (nI_ge (b := 4) c.2 (by omega))
    refine wp_La_law_480 _ _ _ _ _ _ _ _ _ _ _ _ _ _ _ _ _ _ _ _ ⟨fun z => absurd ?_ z, fun _ => ⟨h1.1.tg0, _, a_offset hs h1.1, fun z => ?_, fun _ => wp_La_law_501 _ _ _ _ _ _ _ _ _ _ _ _ _ _ _ _ _ _ ⟨fun z => absurd eo z, fun _ => wp_La_law_510 _ _ _ _ _ _ _ _ _ _ _ _ _ _ _ _ ?_⟩⟩⟩
    · show nI (gOf (cN x) s + 1 - gTk (cN x) s) = nI (gOf (cN x) s) - nI (gTk (cN x) s) + 1
      rw [ch, nI_1]
      congr 1
      omega
    · exact absurd z (nI_nle (by omega) (by omega))
    · exact tail25 (c := 1) hA h1 ⟨iv, hk, hz, hsl, hal, hcom, hsn, hwk, hts⟩ src_rf hy (by omega) (C1.up (by omega)) K
  · rw [f2 c]
    intro G1 o1 p1 y1 y2 y3
    have h1 : LQ E N G1 o1 A x p1 (mF x) (dF x) := hW.cls y1 y2
    have C1 := hC.nx y3
    have h2 := h1
    obtain ⟨-, ⟨a1, a2, a3, a4⟩, -, -, -⟩ := h2
    have em : gA G1 (A 31) s = nI (sEv (cS x) s).length := a4 s hs
    show J E 15 m_La_law 452 _ [.int (exV xIS)] G1 Post
    rw [exV_IS]
    have nx : J E 15 m_La_law 478 [some (.ref (A 33)), some (.ref (A 0)), some (.ref (A 31)), some (.ref (A 32)), none, some (.int kd), some (.int sz), some (.int sl), some (.int al), none, some (.int com), some (.int sn), some (.int wk), some (.int T), some (.int (nI t)), none, some (.int y), none, some (.int (nI s)), some (.int (gMk (cN x))), none, some (.int (-13)), some (.int (nI (gOf (cN x) s))), none, none, none, none] [.int (-13)] G1 Post := by
      refine wp_La_law_478 _ _ _ _ _ _ _ _ _ _ _ _ _ _ _ _ _ _ _ (wp_La_law_480 _ _ _ _ _ _ _ _ _ _ _ _ _ _ _ _ _ _ _ _ ⟨fun z => absurd rfl z, fun _ => ⟨h1.1.tg0, _, a_offset hs h1.1, fun _ => wp_La_law_501 _ _ _ _ _ _ _ _ _ _ _ _ _ _ _ _ _ _ ⟨fun z => absurd (Int32.add_zero _).symm z, fun _ => wp_La_law_510 _ _ _ _ _ _ _ _ _ _ _ _ _ _ _ _ ?_⟩, fun z => absurd (Int32.le_of_lt i13) z⟩⟩)
      exact tail25 (c := 1) hA h1 hP' src_rf hy (by omega) (C1.up (by omega)) K
    refine wp_La_law_452 _ _ _ _ _ _ _ _ _ _ _ _ _ _ _ _ _ _ _ ⟨Or.inl a1, s, ix3 hs a2, fun _ => nx, fun z => ⟨fun _ => nx, fun z2 => ?_⟩⟩
    exfalso
    rw [em] at z
    rw [ch] at z2
    exact c ⟨Nat.lt_of_not_le (fun q => z (nI_le q (by omega))), Nat.lt_of_not_le (fun q => z2 (nI_le (a := 4) q (by omega)))⟩
/-- behind a taking -/
theorem take_fin {s c : Nat} {x' : XS} {m u v w ev ic : Int32} (hA : InjA A) (hs : s < 3) (hW : LQ E N G o A x' p (mF x') (dF x')) (hP : PI x' (t + 1) kd sz sl al com (sn + (if m = 4 then 1 else 0)) wk) (hS : SrcOK x' v) (hy : 0 ≤ y.toInt) (hc : c ≤ 40) (hC : Cs G0 0 G (p + (60 * t + c))) (K : KT E N A G0 Post kd sz sl al T (t + 1))
    (hev : (¬ m < 0 ∧ ¬ (3 : Int32) ≤ m ∧ ev = 1) ∨ ((m < 0 ∨ (3 : Int32) ≤ m) ∧ ev = 0)) (h5 : ¬ m = -13 → ¬ m < 0 ∧ ¬ (5 : Int32) ≤ m) (hic : nI (gOf (cN x') s) - nI (gTk (cN x') s) = ic - ev) (hdr : gDr (cN x') = w + (if m = 2 then 1 else 0)) (hun : ¬ uncV x' < u) {pa : Int32} (hpa : ¬ m = 0 → gPa (cN x') = pa) (h3 : ¬ m < 3 → ¬ al = 0 ∧ gMk (cN x') = v) :
    J E 15 m_La_law 552 [some (.ref (A 33)), some (.ref (A 0)), some (.ref (A 31)), some (.ref (A 32)), none, some (.int kd), some (.int sz), some (.int sl), some (.int al), none, some (.int com), some (.int sn), some (.int wk), some (.int T), some (.int (nI t)), none, some (.int y), none, some (.int (nI s)), some (.int v), some (.int u), none, some (.int ic), some (.int w), some (.int pa), none, none] [.int m] G Post := by
  have e681 : J E 15 m_La_law 681 [some (.ref (A 33)), some (.ref (A 0)), some (.ref (A 31)), some (.ref (A 32)), none, some (.int kd), some (.int sz), some (.int sl), some (.int al), none, some (.int com), some (.int sn), some (.int wk), some (.int T), some (.int (nI t)), none, some (.int y), none, none, some (.int v), none, some (.int m), none, none, none, none, none] [.int 1] G Post := by
    refine wp_La_law_681 _ _ _ _ _ _ _ _ _ _ _ _ _ _ _ _ _ ⟨fun c => wp_La_law_696 _ _ _ _ _ _ _ _ _ _ _ _ _ _ _ _ _ ?_, fun c => wp_La_law_696 _ _ _ _ _ _ _ _ _ _ _ _ _ _ _ _ _ ?_⟩
    · rw [if_neg c] at hP
      exact tail25 hA hW hP hS hy hc hC K
    · rw [if_pos c] at hP
      exact tail25 hA hW hP hS hy hc hC K
  have e656 : J E 15 m_La_law 656 [some (.ref (A 33)), some (.ref (A 0)), some (.ref (A 31)), some (.ref (A 32)), none, some (.int kd), some (.int sz), some (.int sl), some (.int al), none, some (.int com), some (.int sn), some (.int wk), some (.int T), some (.int (nI t)), none, some (.int y), none, none, some (.int v), none, some (.int m), none, none, none, none, none] [] G Post :=
    wp_La_law_656 _ _ _ _ _ _ _ _ _ _ _ _ _ _ _ _ ⟨fun _ => wp_La_law_676 _ _ _ _ _ _ _ _ _ _ _ _ _ _ _ _ e681, fun c => ⟨fun z => absurd z (h3 c).1, fun _ => ⟨hW.1.tg0, _, a_watermark hW.1, fun z => absurd (h3 c).2 z, fun _ => wp_La_law_676 _ _ _ _ _ _ _ _ _ _ _ _ _ _ _ _ e681⟩⟩⟩
  have e629 : ∀ e : Int32, e = (if m = 2 then 1 else 0) → J E 15 m_La_law 629 [some (.ref (A 33)), some (.ref (A 0)), some (.ref (A 31)), some (.ref (A 32)), none, some (.int kd), some (.int sz), some (.int sl), some (.int al), none, some (.int com), some (.int sn), some (.int wk), some (.int T), some (.int (nI t)), none, some (.int y), none, none, some (.int v), some (.int u), some (.int m), none, none, some (.int pa), none, none] [.int e, .int w, .int (gDr (cN x'))] G Post := fun e he => by
    rw [← he] at hdr
    exact wp_La_law_629 _ _ _ _ _ _ _ _ _ _ _ _ _ _ _ _ _ _ _ _ _ ⟨fun z => absurd hdr z, fun _ => ⟨hW.1.tg0, _, a_uncommitted hW.1, fun z => absurd z hun, fun _ => ⟨fun _ => e656, fun c => ⟨_, a_pairs hW.1, fun z => absurd (hpa c) z, fun _ => e656⟩⟩⟩⟩
  have e608 : J E 15 m_La_law 608 [some (.ref (A 33)), some (.ref (A 0)), some (.ref (A 31)), some (.ref (A 32)), none, some (.int kd), some (.int sz), some (.int sl), some (.int al), none, some (.int com), some (.int sn), some (.int wk), some (.int T), some (.int (nI t)), none, some (.int y), none, none, some (.int v), some (.int u), some (.int m), none, some (.int w), some (.int pa), none, none] [.int ev, .int ic, .int (nI (gOf (cN x') s) - nI (gTk (cN x') s))] G Post :=
    wp_La_law_608 _ _ _ _ _ _ _ _ _ _ _ _ _ _ _ _ _ _ _ _ _ _ ⟨fun z => absurd hic z, fun _ => ⟨hW.1.tg0, _, a_dropped hW.1, fun c => e629 _ (if_neg c).symm, fun c => e629 _ (if_pos c).symm⟩⟩
  have e01 : ev = 0 ∨ ev = 1 := by
    rcases hev with h | h
    · exact Or.inr h.2.2
    · exact Or.inl h.2
  have e590 : J E 15 m_La_law 590 [some (.ref (A 33)), some (.ref (A 0)), some (.ref (A 31)), some (.ref (A 32)), none, some (.int kd), some (.int sz), some (.int sl), some (.int al), none, some (.int com), some (.int sn), some (.int wk), some (.int T), some (.int (nI t)), none, some (.int y), none, some (.int (nI s)), some (.int v), some (.int u), some (.int m), some (.int ic), some (.int w), some (.int pa), some (.int ev), none] [] G Post := by
    refine wp_La_law_590 _ _ _ _ _ _ _ _ _ _ _ _ _ _ _ _ _ _ _ _ _ _ ⟨hW.1.tg0, _, a_inChannel hs hW.1, fun c => ?_, fun c => ?_⟩
    · rw [c] at e608; exact e608
    · rw [e01.resolve_left c] at e608; exact e608
  have e570 : J E 15 m_La_law 570 [some (.ref (A 33)), some (.ref (A 0)), some (.ref (A 31)), some (.ref (A 32)), none, some (.int kd), some (.int sz), some (.int sl), some (.int al), none, some (.int com), some (.int sn), some (.int wk), some (.int T), some (.int (nI t)), none, some (.int y), none, some (.int (nI s)), some (.int v), some (.int u), some (.int m), some (.int ic), some (.int w), some (.int pa), none, none] [.int ev] G Post :=
    wp_La_law_570 _ _ _ _ _ _ _ _ _ _ _ _ _ _ _ _ _ _ _ _ _ _ ⟨fun _ => e590, fun c => ⟨fun z => absurd z (h5 c).1, fun _ => ⟨fun z => absurd z (h5 c).2, fun _ => e590⟩⟩⟩
  refine wp_La_law_552 _ _ _ _ _ _ _ _ _ _ _ _ _ _ _ _ _ _ _ _ _ ⟨fun c => wp_La_law_569 _ _ _ _ _ _ _ _ _ _ _ _ _ _ _ _ _ _ _ _ _ ?_, fun c => ⟨fun c2 => wp_La_law_569 _ _ _ _ _ _ _ _ _ _ _ _ _ _ _ _ _ _ _ _ _ ?_, fun c2 => ?_⟩⟩
  · rcases hev with h | h
    · exact absurd c h.1
    · rw [h.2] at e570; exact e570
  · rcases hev with h | h
    · exact absurd c2 h.2.1
    · rw [h.2] at e570; exact e570
  · rcases hev with h | h
    · rw [h.2.2] at e570; exact e570
    · rcases h.1 with z | z
      · exact absurd z c
      · exact absurd z c2
/-- take -/
theorem arm_take {s : Nat} (hA : InjA A) (hW : LQ E N G o A x p (mF x) (dF x)) (hP : PI x t kd sz sl al com sn wk) (hy : 0 ≤ y.toInt) (ht : t ≤ 1000) (hC : Cs G0 0 G (p + 60 * t)) (K : KT E N A G0 Post kd sz sl al T (t + 1)) (hs : s < 3) : Cl E 14 m_La_on [.ref (A 0), .int 2, .int (nI s), .int 0, .int 0, .int 0] G (aft E 15 m_La_law 549 [some (.ref (A 33)), some (.ref (A 0)), some (.ref (A 31)), some (.ref (A 32)), none, some (.int kd), some (.int sz), some (.int sl), some (.int al), none, some (.int com), some (.int sn), some (.int wk), some (.int T), some (.int (nI t)), none, some (.int y), none, some (.int (nI s)), some (.int (gMk (cN x))), some (.int (uncV x)), none, some (.int (nI (gOf (cN x) s) - nI (gTk (cN x) s))), some (.int (gDr (cN x))), some (.int (gPa (cN x))), none, none] [] Post) := by
  have hP' := hP.up
  obtain ⟨hI, hk, hz, hsl, hal, hcom, hsn, hwk, hts⟩ := id hP'
  obtain ⟨k, hkk, htk⟩ := hP.2.2.2.2.2.2.2.2
  have X := side_x hI.1
  have z0 : ∀ a : Int32, a + 0 = a := Int32.add_zero
  have z1 : ∀ a : Int32, a - 0 = a := Int32.sub_zero
  refine on_take hA hW.1 X.2.1 ?_
  rcases take_sp hI hs with f | ⟨v, hv, hl, f, iv⟩ | ⟨hb, f, iv⟩ | ⟨hb, f, iv⟩
  · rw [f]
    intro G1 o1 p1 y1 y2 y3
    have h1 : LQ E N G1 o1 A x p1 (mF x) (dF x) := hW.cls y1 y2
    show J E 15 m_La_law 552 _ [.int (exV xIS)] G1 Post
    rw [exV_IS]
    exact take_fin (c := 1) hA hs h1 (by rw [if_neg (by decide +kernel), z0]; exact hP') src_rf hy (by omega) ((hC.nx y3).up (by omega)) K (Or.inr ⟨Or.inl i13, rfl⟩) (fun z => absurd rfl z) (z1 _).symm (by rw [if_neg (by decide +kernel), z0]) i32_irr (fun _ => rfl) (fun z => absurd (by decide +kernel) z)
  · rw [f]
    intro G1 o1 p1 y1 y2 y3
    have h1 : LQ E N G1 o1 A (tkX x s v) p1 (mF (tkX x s v)) (dF (tkX x s v)) := hW.cls y1 y2
    obtain ⟨g1, g2, g3, g4, g5, g6, g7⟩ := tk_facts hI hs hv hl iv
    show J E 15 m_La_law 552 _ [.int (tkAns x v)] G1 Post
    have b : ¬ tkAns x v < 0 ∧ ¬ (3 : Int32) ≤ tkAns x v ∧ ¬ (5 : Int32) ≤ tkAns x v ∧ tkAns x v < 3 ∧ ¬ tkAns x v = 4 := by
      rcases g3 with e | e | e <;> rw [e] <;> decide +kernel
    exact take_fin (c := 1) hA hs h1 (by rw [if_neg b.2.2.2.2, z0]; exact ⟨g1, hk, hz, hsl, hal, hcom, hsn, hwk, hts⟩) g2 hy (by omega) ((hC.nx y3).up (by omega)) K (Or.inl ⟨b.1, b.2.1, rfl⟩) (fun _ => ⟨b.1, b.2.2.1⟩) g4 g5 g7 g6 (fun z => absurd b.2.2.2.1 z)
  · rw [f]
    intro G1 o1 p1 y1 y2 y3
    have h1 : LQ E N G1 o1 A (tb3X x s) p1 (mF (tb3X x s)) (dF (tb3X x s)) := hW.cls y1 y2
    have a5 := hI.2.1.2.2.2.2 hb
    show J E 15 m_La_law 552 _ [.int 3] G1 Post
    exact take_fin (c := 1) hA hs h1 (by rw [if_neg (by decide +kernel), z0]; exact ⟨(tb_iv hI).1 iv, hk, hz, hsl, hal, hcom, hsn, hwk, hts⟩) src_rf hy (by omega) ((hC.nx y3).up (by omega)) K (Or.inr ⟨Or.inr (by decide +kernel), rfl⟩) (fun _ => by decide +kernel) (z1 _).symm (by rw [if_neg (by decide +kernel), z0]; rfl) i32_irr (fun _ => rfl) (fun _ => ⟨by rw [hal, a5]; exact i32_10, rfl⟩)
  · rw [f]
    intro G1 o1 p1 y1 y2 y3
    have h1 : LQ E N G1 o1 A (tb4X x s) p1 (mF (tb4X x s)) (dF (tb4X x s)) := hW.cls y1 y2
    have a5 := hI.2.1.2.2.2.2 hb
    show J E 15 m_La_law 552 _ [.int 4] G1 Post
    exact take_fin (c := 1) hA hs h1 (by rw [if_pos rfl]; exact ⟨(tb_iv hI).2 iv, hk, hz, hsl, hal, hcom, by rw [hsn]; rfl, hwk, k + 1, by omega, by show tS (cT x) + 1 = _; rw [htk, nI_1]⟩) src_rf hy (by omega) ((hC.nx y3).up (by omega)) K (Or.inr ⟨Or.inr (by decide +kernel), rfl⟩) (fun _ => by decide +kernel) (z1 _).symm (by rw [if_neg (by decide +kernel), z0]; rfl) i32_irr (fun _ => rfl) (fun _ => ⟨by rw [hal, a5]; exact i32_10, rfl⟩)
end ARMS25
