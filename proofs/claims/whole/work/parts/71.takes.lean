section TAKES
variable {E : EV} {G : GH} {Post : Res → GH → Prop} {m : Nat} {B : Nat → Nat} {F : Nat → Int32} {T : Nat → Nat → Int32} {th : Int32} {y : XS} {Jd : List Nat} {JK : Nat}
theorem hslP {sc : SC} (h : ∀ s, s < 3 → ¬ (-1 : Int32) < -1 - sSl sc s) (P : PG) : ∀ s, s < 3 → gGr P s = -1 → mkfP P sc s = -1 := fun s hs hg => by
  unfold mkfP
  rw [hg, if_neg (h s hs)]
/-- how the reference admits an event: windows, records, how many -/
def AdR (jb : Nat → Int32) (v : V3) (mk : Int32) (W : List WT) (W' Rr : List WT) (n : Int32) : Prop :=
  (jb 0 = 2 ∧ v.1 + jb 1 + jb 3 ≤ mk ∧ W' = W ∧ Rr = [] ∧ n = 0) ∨
  (jb 0 = 2 ∧ ¬ v.1 + jb 1 + jb 3 ≤ mk ∧ n = 1 ∧ ∃ M, M.Perm (W.filter (fun w => decide (tou v.2.1 v.1 (v.1 + jb 1) w))) ∧ W' = W.filter (fun w => decide (¬ tou v.2.1 v.1 (v.1 + jb 1) w)) ++ [mkM (v.2.1, v.1, v.1 + jb 1, 1, v.2.2, 0) mk M] ∧ Rr = bkF M ++ mkE (v.2.1, v.1, v.1 + jb 1, 1, v.2.2, 0) mk M) ∨
  (¬ jb 0 = 2 ∧ ∃ ss, ss = sts (bk (jb 2) (jb 1) v.1 7 (laS (jb 2) v.1)) (laS (jb 2) v.1) (jb 2) (jb 1) (jb 3) mk 8 0 ∧ W' = cmW v.2.1 v.2.2 (addN v.2.1 (jb 1) W ss) ss ∧ Rr = cmR1 v.2.1 (addN v.2.1 (jb 1) W ss) ss ++ cmR2 v.2.1 v.2.2 (addN v.2.1 (jb 1) W ss) ss ∧ n = nI ss.length)
/-- what holds of the numbers where windows begin at multiples -/
def StepOK (st sz gr mk t : Int32) : Prop :=
  ¬ st = 0 ∧ laS st t = t / st * st ∧ (sts (bk st sz t 7 (laS st t)) (laS st t) st sz gr mk 8 0).Nodup ∧ (sts (bk st sz t 7 (laS st t)) (laS st t) st sz gr mk 8 0).length ≤ 8 ∧ bkS st sz t (bk st sz t 7 (laS st t)) = bk st sz t 7 (laS st t) ∧ (∀ i, i ≤ 8 → laS st t < bk st sz t 7 (laS st t) + nI i * st → sts (bk st sz t 7 (laS st t)) (laS st t) st sz gr mk (8 - i) i = []) ∧ laS st t < bk st sz t 7 (laS st t) + nI 8 * st
/-- no window stands where a merged one begins -/
def GapOK (jb : Nat → Int32) (v : V3) (W : List WT) : Prop := ∀ M : List WT, M.Perm (W.filter (fun w => decide (tou v.2.1 v.1 (v.1 + jb 1) w))) → ∀ w ∈ W.filter (fun w => decide (¬ tou v.2.1 v.1 (v.1 + jb 1) w)), ¬ isW v.2.1 (wS (mkA (v.2.1, v.1, v.1 + jb 1, 1, v.2.2, 0) M)) w
/-- an event is taken, but for the look -/
def rtk (y : XS) (s i : Nat) (v : V3) (W' Rr : List WT) (n : Int32) : XS := (cJ y, cS y, (gOf (cN y), up1 (gTk (cN y)) s (i + 1), up1 (gGr (cN y)) s (if gGr (cN y) s < v.1 then v.1 else gGr (cN y) s), gMk (cN y), gHl (cN y), if n = 0 then gDr (cN y) + 1 else gDr (cN y), gPa (cN y), W'), cP y, cH y, (kL (cK y) ++ Rr, kC (cK y), kP (cK y)), cB y, cT y)
def Jt (Jd : List Nat) (mk : Int32) (s i : Nat) (v : V3) : List Nat := if mk ≤ v.1 ∧ s < 2 then Jd ++ [40 * s + i] else Jd
def rAns (mk : Int32) (v : V3) (n : Int32) : Int32 := if n = 0 then 2 else if mk ≤ v.1 then 0 else 1
theorem takes_t62 {s i : Nat} {v : V3} {late : Int32} {G2 : GH} {W' Rr : List WT} {n : Int32} (hB : InjB m B) (hs : s < 3) (hi : i < 40) (hJ : s < 2 → Jd.length < 80) (hev : ∀ T' : Nat → Nat → Int32, aS T' (cS y) → T' 9 (40 * s + i) = v.1) (hsl : ∀ s, s < 3 → ¬ (-1 : Int32) < -1 - sSl (cS y) s) (hlate : late = 0 ↔ gMk (cN y) ≤ v.1) (hg : (kL (cK y) ++ Rr).length + W'.length ≤ 3900)
    (h2 : MS G2 m B th (cJ y, cS y, (gOf (cN y), up1 (gTk (cN y)) s (i + 1), gGr (cN y), gMk (cN y), gHl (cN y), gDr (cN y), gPa (cN y), W'), cP y, cH y, (kL (cK y) ++ Rr, kC (cK y), kP (cK y)), cB y, cT y) Jd JK) (s2 : MSt G m B G2)
    (k : ∀ G' R, MS G' m B th (grX (rtk y s i v W' Rr n) R) (Jt Jd (gMk (cN y)) s i v) JK → R.Perm (grR (rtk y s i v W' Rr n)) → MSt G m B G' → Post (.inl (some (.int (rAns (gMk (cN y)) v n)))) G') : J E 4 m_Mo_takes 62 [some (.ref m), some (.int (nI s)), some (.int (nI (40 * s + i))), some (.int late), none] [.int n] G2 Post := by
  obtain ⟨F2, T2, h2, a2⟩ := h2
  have he : 40 * s + i < 120 := by omega
  obtain ⟨x1, x2, x3, x4, x5, x6, x7, x8, x9, x10, x11, x12, x13, x14, x15, x16, x17, x18⟩ := id a2
  have e19 : gI G2 659 m = gDr (cN y) := (h2.int 19 (by decide) (by decide)).trans x7
  have e33 : gI G2 673 m = nI Jd.length := (h2.int 33 (by decide) (by decide)).trans x9.1
  have ixs : IX (nI s) s (gN G2 (B 17)) := h2.ix 17 rfl hs
  have ixe : IX (nI (40 * s + i)) (40 * s + i) (gN G2 (B 9)) := h2.ix 9 rfl he
  have pr : ∀ (Ga : GH) (Fa : Nat → Int32) (Ta : Nat → Nat → Int32), MoS Ga m B Fa Ta → AB Fa Ta th (cJ y, cS y, (gOf (cN y), up1 (gTk (cN y)) s (i + 1), gGr (cN y), gMk (cN y), gHl (cN y), if n = 0 then gDr (cN y) + 1 else gDr (cN y), gPa (cN y), W'), cP y, cH y, (kL (cK y) ++ Rr, kC (cK y), kP (cK y)), cB y, cT y) (Jt Jd (gMk (cN y)) s i v) JK → MSt G m B Ga →
      ((gA Ga (B 17) s ≤ gA Ga (B 9) (40 * s + i) → gT G2 (B 17) = 20 ∧ ∀ G13, G13 = sA Ga (B 17) s (gA Ga (B 9) (40 * s + i)) → Cl E 3 m_Mo_grows [.ref m] G13 (aft E 4 m_Mo_takes 134 [none, none, none, some (.int late), some (.int n)] [] Post)) ∧ (¬ gA Ga (B 17) s ≤ gA Ga (B 9) (40 * s + i) → gT G2 (B 17) = 20 ∧ ∀ G16, G16 = sA Ga (B 17) s (gA Ga (B 17) s) → Cl E 3 m_Mo_grows [.ref m] G16 (aft E 4 m_Mo_takes 134 [none, none, none, some (.int late), some (.int n)] [] Post))) := by
    intro Ga Fa Ta h3 a3 s3
    obtain ⟨z1, z2, z3, z4, z5, z6, z7, z8, z9, z10, z11, z12, z13, z14, z15, z16, z17, z18⟩ := a3
    have e17 : gA Ga (B 17) s = gGr (cN y) s := (h3.rd 17 rfl s).trans (z5 s hs).2.2
    have e9 : gA Ga (B 9) (40 * s + i) = v.1 := (h3.rd 9 rfl _).trans (hev Ta z4)
    rw [e17, e9]
    have go : ∀ u, u = (if gGr (cN y) s < v.1 then v.1 else gGr (cN y) s) → ∀ G13, G13 = sA Ga (B 17) s u → Cl E 3 m_Mo_grows [.ref m] G13 (aft E 4 m_Mo_takes 134 [none, none, none, some (.int late), some (.int n)] [] Post) := by
      intro u hu G13 hG13
      have h4 : MoS G13 m B Fa (up2 Ta 17 s u) := hG13 ▸ h3.wA hB 17 s u rfl
      have s4 : MSt G m B G13 := hG13 ▸ s3.wA rfl
      have p4 : aP (up2 Ta 17 s u) 13 14 17 (cN (rtk y s i v W' Rr n)) := fun j hj => by
        obtain ⟨b1, b2, b3⟩ := z5 j hj
        refine ⟨b1, b2, ?_⟩
        show up2 Ta 17 s u 17 j = if j = s then (if gGr (cN y) s < v.1 then v.1 else gGr (cN y) s) else gGr (cN y) j
        by_cases c : j = s
        · rw [c, u2, if_pos rfl, hu]
        · rw [u2n c, if_neg c]; exact b3
      have a4 : AB Fa (up2 Ta 17 s u) th (rtk y s i v W' Rr n) (Jt Jd (gMk (cN y)) s i v) JK := ⟨z1, z2, z3, z4, p4, z6, z7, z8, z9, z10, z11, z12, z13, z14, z15, z16, z17, z18⟩
      refine c_grows hB h4 a4 hg (hslP hsl _) (fun G' R y1 y2 y3 => ?_)
      have kk := k G' R y1 y2 (s4.tr y3)
      unfold rAns at kk
      refine wp_Mo_takes_137 late n ⟨fun hn => ?_, fun hn => ?_⟩
      · rw [if_neg hn] at kk
        refine ⟨fun hl => ?_, fun hl => ?_⟩
        · rw [if_pos (hlate.mp hl)] at kk; exact kk
        · rw [if_neg (fun z => hl (hlate.mpr z))] at kk; exact kk
      · rw [if_pos hn] at kk; exact kk
    refine ⟨fun c => ⟨h2.at' 17 rfl, go v.1 ?_⟩, fun c => ⟨h2.at' 17 rfl, go (gGr (cN y) s) ?_⟩⟩
    · by_cases c2 : gGr (cN y) s < v.1
      · rw [if_pos c2]
      · rw [if_neg c2]; exact (i32_antisymm c c2).symm
    · rw [if_neg (fun c2 => c (Int32.le_of_lt c2))]
  -- dropped, and joined
  have drop : ∀ dv, (if n = 0 then gDr (cN y) + 1 else gDr (cN y)) = dv → MoS (sI G2 659 m dv) m B (up1 F2 19 dv) T2 ∧ MSt G m B (sI G2 659 m dv) ∧ AB (up1 F2 19 dv) T2 th (cJ y, cS y, (gOf (cN y), up1 (gTk (cN y)) s (i + 1), gGr (cN y), gMk (cN y), gHl (cN y), if n = 0 then gDr (cN y) + 1 else gDr (cN y), gPa (cN y), W'), cP y, cH y, (kL (cK y) ++ Rr, kC (cK y), kP (cK y)), cB y, cT y) Jd JK := fun dv hdv => by
    rw [hdv]
    exact ⟨h2.wI 19 dv, s2.wI, x1, x2, x3, x4, x5, x6, rfl, x8, x9, x10, x11, x12, x13, x14, x15, x16, x17, x18⟩
  have no : ∀ dv, (if n = 0 then gDr (cN y) + 1 else gDr (cN y)) = dv → ¬ (gMk (cN y) ≤ v.1 ∧ s < 2) → AB (up1 F2 19 dv) T2 th (cJ y, cS y, (gOf (cN y), up1 (gTk (cN y)) s (i + 1), gGr (cN y), gMk (cN y), gHl (cN y), if n = 0 then gDr (cN y) + 1 else gDr (cN y), gPa (cN y), W'), cP y, cH y, (kL (cK y) ++ Rr, kC (cK y), kP (cK y)), cB y, cT y) (Jt Jd (gMk (cN y)) s i v) JK := fun dv hdv hc => by
    have e : Jt Jd (gMk (cN y)) s i v = Jd := if_neg hc
    rw [e]; exact (drop dv hdv).2.2
  have yes : ∀ dv, (if n = 0 then gDr (cN y) + 1 else gDr (cN y)) = dv → gMk (cN y) ≤ v.1 ∧ s < 2 → MoS (sI (sA (sI G2 659 m dv) (B 32) Jd.length (nI (40 * s + i))) 673 m (nI (Jd.length + 1))) m B (up1 (up1 F2 19 dv) 33 (nI (Jd.length + 1))) (up2 T2 32 Jd.length (nI (40 * s + i))) ∧ MSt G m B (sI (sA (sI G2 659 m dv) (B 32) Jd.length (nI (40 * s + i))) 673 m (nI (Jd.length + 1))) ∧ AB (up1 (up1 F2 19 dv) 33 (nI (Jd.length + 1))) (up2 T2 32 Jd.length (nI (40 * s + i))) th (cJ y, cS y, (gOf (cN y), up1 (gTk (cN y)) s (i + 1), gGr (cN y), gMk (cN y), gHl (cN y), if n = 0 then gDr (cN y) + 1 else gDr (cN y), gPa (cN y), W'), cP y, cH y, (kL (cK y) ++ Rr, kC (cK y), kP (cK y)), cB y, cT y) (Jt Jd (gMk (cN y)) s i v) JK := fun dv hdv hc => by
    obtain ⟨d1, d2, d3⟩ := drop dv hdv
    have e : Jt Jd (gMk (cN y)) s i v = Jd ++ [40 * s + i] := if_pos hc
    rw [e]
    obtain ⟨z1, z2, z3, z4, z5, z6, z7, z8, z9, z10, z11, z12, z13, z14, z15, z16, z17, z18⟩ := d3
    refine ⟨(d1.wA hB 32 Jd.length (nI (40 * s + i)) rfl).wI 33 _, (d2.wA rfl).wI, z1, z2, z3, z4, z5, z6, z7, z8, ⟨?_, ?_, fun j q hq => ?_⟩, z10, z11, z12, z13, z14, z15, z16, z17, z18⟩
    · rw [List.length_append]; rfl
    · have := hJ hc.2
      rw [List.length_append]; simp; omega
    · rw [getElem?_snoc'] at hq
      by_cases c : j = Jd.length
      · rw [if_pos c] at hq
        cases hq
        rw [c]; exact ⟨u2, by omega⟩
      · rw [if_neg c] at hq
        exact ⟨(u2n c).trans (z9.2.2 j q hq).1, (z9.2.2 j q hq).2⟩
  have r17 := h2.rf 17 rfl
  have r9 := h2.rf 9 rfl
  refine wp_Mo_takes_62 m (nI s) (nI (40 * s + i)) late n ⟨h2.tg, fun hn => ?_, fun hn => ?_⟩
  · have hdv : (if n = 0 then gDr (cN y) + 1 else gDr (cN y)) = gDr (cN y) := if_neg hn
    rw [e19, Int32.add_zero, e33, nI_1]
    refine ⟨fun hl => ⟨B 17, r17, Or.inl (h2.at' 17 rfl), s, ixs, B 9, r9, Or.inl (h2.at' 9 rfl), _, ixe, pr _ _ _ (drop _ hdv).1 (no _ hdv (fun z => hl (hlate.mpr z.1))) (drop _ hdv).2.1⟩, fun hl => ⟨fun c => ⟨B 17, r17, Or.inl (h2.at' 17 rfl), s, ixs, B 9, r9, Or.inl (h2.at' 9 rfl), _, ixe, pr _ _ _ (drop _ hdv).1 (no _ hdv (fun z => absurd c (show ¬ (2 : Int32) ≤ nI s from nI_ge (b := 2) z.2 (by omega)))) (drop _ hdv).2.1⟩, fun c => ?_⟩⟩
    have s2' : s < 2 := Nat.lt_of_not_le (fun z => c (nI_le (a := 2) z (by omega)))
    obtain ⟨y1, y2, y3⟩ := yes _ hdv ⟨hlate.mp hl, s2'⟩
    exact ⟨B 32, h2.rf 32 rfl, h2.at' 32 rfl, Jd.length, h2.ix 32 rfl (hJ s2'), B 17, r17, Or.inl (h2.at' 17 rfl), s, ixs, B 9, r9, Or.inl (h2.at' 9 rfl), _, ixe, pr _ _ _ y1 y3 y2⟩
  · have hdv : (if n = 0 then gDr (cN y) + 1 else gDr (cN y)) = gDr (cN y) + 1 := if_pos hn
    rw [e19, e33, nI_1]
    refine ⟨fun hl => ⟨B 17, r17, Or.inl (h2.at' 17 rfl), s, ixs, B 9, r9, Or.inl (h2.at' 9 rfl), _, ixe, pr _ _ _ (drop _ hdv).1 (no _ hdv (fun z => hl (hlate.mpr z.1))) (drop _ hdv).2.1⟩, fun hl => ⟨fun c => ⟨B 17, r17, Or.inl (h2.at' 17 rfl), s, ixs, B 9, r9, Or.inl (h2.at' 9 rfl), _, ixe, pr _ _ _ (drop _ hdv).1 (no _ hdv (fun z => absurd c (show ¬ (2 : Int32) ≤ nI s from nI_ge (b := 2) z.2 (by omega)))) (drop _ hdv).2.1⟩, fun c => ?_⟩⟩
    have s2' : s < 2 := Nat.lt_of_not_le (fun z => c (nI_le (a := 2) z (by omega)))
    obtain ⟨y1, y2, y3⟩ := yes _ hdv ⟨hlate.mp hl, s2'⟩
    exact ⟨B 32, h2.rf 32 rfl, h2.at' 32 rfl, Jd.length, h2.ix 32 rfl (hJ s2'), B 17, r17, Or.inl (h2.at' 17 rfl), s, ixs, B 9, r9, Or.inl (h2.at' 9 rfl), _, ixe, pr _ _ _ y1 y3 y2⟩
theorem takes_t54 {s i : Nat} {v : V3} {late : Int32} {G2 : GH} {W' Rr : List WT} {n : Int32} (hB : InjB m B) (hs : s < 3) (hi : i < 40) (hJ : s < 2 → Jd.length < 80) (hev : ∀ T' : Nat → Nat → Int32, aS T' (cS y) → T' 9 (40 * s + i) = v.1) (hsl : ∀ s, s < 3 → ¬ (-1 : Int32) < -1 - sSl (cS y) s) (hlate : late = 0 ↔ gMk (cN y) ≤ v.1) (hg : (kL (cK y) ++ Rr).length + W'.length ≤ 3900)
    (h2 : MS G2 m B th (cJ y, cS y, (gOf (cN y), up1 (gTk (cN y)) s (i + 1), gGr (cN y), gMk (cN y), gHl (cN y), gDr (cN y), gPa (cN y), W'), cP y, cH y, (kL (cK y) ++ Rr, kC (cK y), kP (cK y)), cB y, cT y) Jd JK) (s2 : MSt G m B G2)
    (k : ∀ G' R, MS G' m B th (grX (rtk y s i v W' Rr n) R) (Jt Jd (gMk (cN y)) s i v) JK → R.Perm (grR (rtk y s i v W' Rr n)) → MSt G m B G' → Post (.inl (some (.int (rAns (gMk (cN y)) v n)))) G') : J E 4 m_Mo_takes 54 [some (.ref m), some (.int (nI s)), some (.int (nI (40 * s + i))), some (.int late), none] [.int n] G2 Post := by
  obtain ⟨F2, T2, h2, a2⟩ := h2
  have he : 40 * s + i < 120 := by omega
  obtain ⟨x1, x2, x3, x4, x5, x6, x7, x8, x9, x10, x11, x12, x13, x14, x15, x16, x17, x18⟩ := id a2
  have e19 : gI G2 659 m = gDr (cN y) := (h2.int 19 (by decide) (by decide)).trans x7
  have e33 : gI G2 673 m = nI Jd.length := (h2.int 33 (by decide) (by decide)).trans x9.1
  have ixs : IX (nI s) s (gN G2 (B 17)) := h2.ix 17 rfl hs
  have ixe : IX (nI (40 * s + i)) (40 * s + i) (gN G2 (B 9)) := h2.ix 9 rfl he
  have pr : ∀ (Ga : GH) (Fa : Nat → Int32) (Ta : Nat → Nat → Int32), MoS Ga m B Fa Ta → AB Fa Ta th (cJ y, cS y, (gOf (cN y), up1 (gTk (cN y)) s (i + 1), gGr (cN y), gMk (cN y), gHl (cN y), if n = 0 then gDr (cN y) + 1 else gDr (cN y), gPa (cN y), W'), cP y, cH y, (kL (cK y) ++ Rr, kC (cK y), kP (cK y)), cB y, cT y) (Jt Jd (gMk (cN y)) s i v) JK → MSt G m B Ga →
      ((gA Ga (B 17) s ≤ gA Ga (B 9) (40 * s + i) → gT G2 (B 17) = 20 ∧ ∀ G13, G13 = sA Ga (B 17) s (gA Ga (B 9) (40 * s + i)) → Cl E 3 m_Mo_grows [.ref m] G13 (aft E 4 m_Mo_takes 134 [none, none, none, some (.int late), some (.int n)] [] Post)) ∧ (¬ gA Ga (B 17) s ≤ gA Ga (B 9) (40 * s + i) → gT G2 (B 17) = 20 ∧ ∀ G16, G16 = sA Ga (B 17) s (gA Ga (B 17) s) → Cl E 3 m_Mo_grows [.ref m] G16 (aft E 4 m_Mo_takes 134 [none, none, none, some (.int late), some (.int n)] [] Post))) := by
    intro Ga Fa Ta h3 a3 s3
    obtain ⟨z1, z2, z3, z4, z5, z6, z7, z8, z9, z10, z11, z12, z13, z14, z15, z16, z17, z18⟩ := a3
    have e17 : gA Ga (B 17) s = gGr (cN y) s := (h3.rd 17 rfl s).trans (z5 s hs).2.2
    have e9 : gA Ga (B 9) (40 * s + i) = v.1 := (h3.rd 9 rfl _).trans (hev Ta z4)
    rw [e17, e9]
    have go : ∀ u, u = (if gGr (cN y) s < v.1 then v.1 else gGr (cN y) s) → ∀ G13, G13 = sA Ga (B 17) s u → Cl E 3 m_Mo_grows [.ref m] G13 (aft E 4 m_Mo_takes 134 [none, none, none, some (.int late), some (.int n)] [] Post) := by
      intro u hu G13 hG13
      have h4 : MoS G13 m B Fa (up2 Ta 17 s u) := hG13 ▸ h3.wA hB 17 s u rfl
      have s4 : MSt G m B G13 := hG13 ▸ s3.wA rfl
      have p4 : aP (up2 Ta 17 s u) 13 14 17 (cN (rtk y s i v W' Rr n)) := fun j hj => by
        obtain ⟨b1, b2, b3⟩ := z5 j hj
        refine ⟨b1, b2, ?_⟩
        show up2 Ta 17 s u 17 j = if j = s then (if gGr (cN y) s < v.1 then v.1 else gGr (cN y) s) else gGr (cN y) j
        by_cases c : j = s
        · rw [c, u2, if_pos rfl, hu]
        · rw [u2n c, if_neg c]; exact b3
      have a4 : AB Fa (up2 Ta 17 s u) th (rtk y s i v W' Rr n) (Jt Jd (gMk (cN y)) s i v) JK := ⟨z1, z2, z3, z4, p4, z6, z7, z8, z9, z10, z11, z12, z13, z14, z15, z16, z17, z18⟩
      refine c_grows hB h4 a4 hg (hslP hsl _) (fun G' R y1 y2 y3 => ?_)
      have kk := k G' R y1 y2 (s4.tr y3)
      unfold rAns at kk
      refine wp_Mo_takes_137 late n ⟨fun hn => ?_, fun hn => ?_⟩
      · rw [if_neg hn] at kk
        refine ⟨fun hl => ?_, fun hl => ?_⟩
        · rw [if_pos (hlate.mp hl)] at kk; exact kk
        · rw [if_neg (fun z => hl (hlate.mpr z))] at kk; exact kk
      · rw [if_pos hn] at kk; exact kk
    refine ⟨fun c => ⟨h2.at' 17 rfl, go v.1 ?_⟩, fun c => ⟨h2.at' 17 rfl, go (gGr (cN y) s) ?_⟩⟩
    · by_cases c2 : gGr (cN y) s < v.1
      · rw [if_pos c2]
      · rw [if_neg c2]; exact (i32_antisymm c c2).symm
    · rw [if_neg (fun c2 => c (Int32.le_of_lt c2))]
  -- dropped, and joined
  have drop : ∀ dv, (if n = 0 then gDr (cN y) + 1 else gDr (cN y)) = dv → MoS (sI G2 659 m dv) m B (up1 F2 19 dv) T2 ∧ MSt G m B (sI G2 659 m dv) ∧ AB (up1 F2 19 dv) T2 th (cJ y, cS y, (gOf (cN y), up1 (gTk (cN y)) s (i + 1), gGr (cN y), gMk (cN y), gHl (cN y), if n = 0 then gDr (cN y) + 1 else gDr (cN y), gPa (cN y), W'), cP y, cH y, (kL (cK y) ++ Rr, kC (cK y), kP (cK y)), cB y, cT y) Jd JK := fun dv hdv => by
    rw [hdv]
    exact ⟨h2.wI 19 dv, s2.wI, x1, x2, x3, x4, x5, x6, rfl, x8, x9, x10, x11, x12, x13, x14, x15, x16, x17, x18⟩
  have no : ∀ dv, (if n = 0 then gDr (cN y) + 1 else gDr (cN y)) = dv → ¬ (gMk (cN y) ≤ v.1 ∧ s < 2) → AB (up1 F2 19 dv) T2 th (cJ y, cS y, (gOf (cN y), up1 (gTk (cN y)) s (i + 1), gGr (cN y), gMk (cN y), gHl (cN y), if n = 0 then gDr (cN y) + 1 else gDr (cN y), gPa (cN y), W'), cP y, cH y, (kL (cK y) ++ Rr, kC (cK y), kP (cK y)), cB y, cT y) (Jt Jd (gMk (cN y)) s i v) JK := fun dv hdv hc => by
    have e : Jt Jd (gMk (cN y)) s i v = Jd := if_neg hc
    rw [e]; exact (drop dv hdv).2.2
  have yes : ∀ dv, (if n = 0 then gDr (cN y) + 1 else gDr (cN y)) = dv → gMk (cN y) ≤ v.1 ∧ s < 2 → MoS (sI (sA (sI G2 659 m dv) (B 32) Jd.length (nI (40 * s + i))) 673 m (nI (Jd.length + 1))) m B (up1 (up1 F2 19 dv) 33 (nI (Jd.length + 1))) (up2 T2 32 Jd.length (nI (40 * s + i))) ∧ MSt G m B (sI (sA (sI G2 659 m dv) (B 32) Jd.length (nI (40 * s + i))) 673 m (nI (Jd.length + 1))) ∧ AB (up1 (up1 F2 19 dv) 33 (nI (Jd.length + 1))) (up2 T2 32 Jd.length (nI (40 * s + i))) th (cJ y, cS y, (gOf (cN y), up1 (gTk (cN y)) s (i + 1), gGr (cN y), gMk (cN y), gHl (cN y), if n = 0 then gDr (cN y) + 1 else gDr (cN y), gPa (cN y), W'), cP y, cH y, (kL (cK y) ++ Rr, kC (cK y), kP (cK y)), cB y, cT y) (Jt Jd (gMk (cN y)) s i v) JK := fun dv hdv hc => by
    obtain ⟨d1, d2, d3⟩ := drop dv hdv
    have e : Jt Jd (gMk (cN y)) s i v = Jd ++ [40 * s + i] := if_pos hc
    rw [e]
    obtain ⟨z1, z2, z3, z4, z5, z6, z7, z8, z9, z10, z11, z12, z13, z14, z15, z16, z17, z18⟩ := d3
    refine ⟨(d1.wA hB 32 Jd.length (nI (40 * s + i)) rfl).wI 33 _, (d2.wA rfl).wI, z1, z2, z3, z4, z5, z6, z7, z8, ⟨?_, ?_, fun j q hq => ?_⟩, z10, z11, z12, z13, z14, z15, z16, z17, z18⟩
    · rw [List.length_append]; rfl
    · have := hJ hc.2
      rw [List.length_append]; simp; omega
    · rw [getElem?_snoc'] at hq
      by_cases c : j = Jd.length
      · rw [if_pos c] at hq
        cases hq
        rw [c]; exact ⟨u2, by omega⟩
      · rw [if_neg c] at hq
        exact ⟨(u2n c).trans (z9.2.2 j q hq).1, (z9.2.2 j q hq).2⟩
  have r17 := h2.rf 17 rfl
  have r9 := h2.rf 9 rfl
  refine wp_Mo_takes_54 m (nI s) (nI (40 * s + i)) late n ⟨h2.tg, fun hn => ?_, fun hn => ?_⟩
  · have hdv : (if n = 0 then gDr (cN y) + 1 else gDr (cN y)) = gDr (cN y) := if_neg hn
    rw [e19, Int32.add_zero, e33, nI_1]
    refine ⟨fun hl => ⟨B 17, r17, Or.inl (h2.at' 17 rfl), s, ixs, B 9, r9, Or.inl (h2.at' 9 rfl), _, ixe, pr _ _ _ (drop _ hdv).1 (no _ hdv (fun z => hl (hlate.mpr z.1))) (drop _ hdv).2.1⟩, fun hl => ⟨fun c => ⟨B 17, r17, Or.inl (h2.at' 17 rfl), s, ixs, B 9, r9, Or.inl (h2.at' 9 rfl), _, ixe, pr _ _ _ (drop _ hdv).1 (no _ hdv (fun z => absurd c (show ¬ (2 : Int32) ≤ nI s from nI_ge (b := 2) z.2 (by omega)))) (drop _ hdv).2.1⟩, fun c => ?_⟩⟩
    have s2' : s < 2 := Nat.lt_of_not_le (fun z => c (nI_le (a := 2) z (by omega)))
    obtain ⟨y1, y2, y3⟩ := yes _ hdv ⟨hlate.mp hl, s2'⟩
    exact ⟨B 32, h2.rf 32 rfl, h2.at' 32 rfl, Jd.length, h2.ix 32 rfl (hJ s2'), B 17, r17, Or.inl (h2.at' 17 rfl), s, ixs, B 9, r9, Or.inl (h2.at' 9 rfl), _, ixe, pr _ _ _ y1 y3 y2⟩
  · have hdv : (if n = 0 then gDr (cN y) + 1 else gDr (cN y)) = gDr (cN y) + 1 := if_pos hn
    rw [e19, e33, nI_1]
    refine ⟨fun hl => ⟨B 17, r17, Or.inl (h2.at' 17 rfl), s, ixs, B 9, r9, Or.inl (h2.at' 9 rfl), _, ixe, pr _ _ _ (drop _ hdv).1 (no _ hdv (fun z => hl (hlate.mpr z.1))) (drop _ hdv).2.1⟩, fun hl => ⟨fun c => ⟨B 17, r17, Or.inl (h2.at' 17 rfl), s, ixs, B 9, r9, Or.inl (h2.at' 9 rfl), _, ixe, pr _ _ _ (drop _ hdv).1 (no _ hdv (fun z => absurd c (show ¬ (2 : Int32) ≤ nI s from nI_ge (b := 2) z.2 (by omega)))) (drop _ hdv).2.1⟩, fun c => ?_⟩⟩
    have s2' : s < 2 := Nat.lt_of_not_le (fun z => c (nI_le (a := 2) z (by omega)))
    obtain ⟨y1, y2, y3⟩ := yes _ hdv ⟨hlate.mp hl, s2'⟩
    exact ⟨B 32, h2.rf 32 rfl, h2.at' 32 rfl, Jd.length, h2.ix 32 rfl (hJ s2'), B 17, r17, Or.inl (h2.at' 17 rfl), s, ixs, B 9, r9, Or.inl (h2.at' 9 rfl), _, ixe, pr _ _ _ y1 y3 y2⟩
theorem c_takes {s i : Nat} {v : V3} (hB : InjB m B) (h : MoS G m B F T) (ha : AB F T th y Jd JK) (hs : s < 3) (hi : gTk (cN y) s = i) (hv : (sEv (cS y) s)[i]? = some v) (hu : UQ (gWi (cN y))) (hJ : s < 2 → Jd.length < 80) (hL : (kL (cK y)).length + (gWi (cN y)).length + 20 ≤ 3890) (hl : (gWi (cN y)).length + 8 ≤ 989)
    (hst : ¬ cJ y 0 = 2 → StepOK (cJ y 2) (cJ y 1) (cJ y 3) (gMk (cN y)) v.1) (hgp : cJ y 0 = 2 → GapOK (cJ y) v (gWi (cN y))) (hsl : ∀ s, s < 3 → ¬ (-1 : Int32) < -1 - sSl (cS y) s)
    (hg : ∀ W' Rr n, AdR (cJ y) v (gMk (cN y)) (gWi (cN y)) W' Rr n → (kL (cK y) ++ Rr).length + W'.length ≤ 3900)
    (k : ∀ G' W' Rr R n, AdR (cJ y) v (gMk (cN y)) (gWi (cN y)) W' Rr n → MS G' m B th (grX (rtk y s i v W' Rr n) R) (Jt Jd (gMk (cN y)) s i v) JK → R.Perm (grR (rtk y s i v W' Rr n)) → MSt G m B G' → Post (.inl (some (.int (rAns (gMk (cN y)) v n)))) G') : Cl E 4 m_Mo_takes [.ref m, .int (nI s)] G Post := by
  obtain ⟨x1, x2, x3, x4, x5, x6, x7, x8, x9, x10, x11, x12, x13, x14, x15, x16, x17, x18⟩ := id ha
  obtain ⟨v1, v2, v3, v4, v5⟩ := x4 s hs
  have il := (List.getElem?_eq_some_iff.mp hv).1
  obtain ⟨v9, v10, v11⟩ := v5 i v hv
  have he : 40 * s + i < 120 := by omega
  have e14 : T 14 s = nI i := (x5 s hs).2.1.trans (by rw [hi])
  have e40 : (40 : Int32) * nI s + nI i = nI (40 * s + i) := by
    have c : s = 0 ∨ s = 1 ∨ s = 2 := by omega
    rw [← nI_add]
    congr 1
    rcases c with c | c | c <;> subst c <;> decide +kernel
  have i14 : IX (nI s) s (gN G (B 14)) := h.ix 14 rfl hs
  refine j_enter (L := [some (.ref m), some (.int (nI s)), none, none, none]) me_Mo_takes (cat_c rfl (cat_c rfl cat_n)) (Nat.le_of_ble_eq_true rfl) rfl (wp_Mo_takes_0 m (nI s) ⟨h.tg, B 14, h.rf 14 rfl, Or.inl (h.at' 14 rfl), s, i14, B 9, h.rf 9 rfl, Or.inl (h.at' 9 rfl), ?_⟩)
  rw [show gA G (B 14) s = nI i from (h.rd 14 rfl s).trans e14, e40]
  refine ⟨40 * s + i, h.ix 9 rfl he, ?_⟩
  rw [show gA G (B 9) (40 * s + i) = v.1 from (h.rd 9 rfl _).trans v9, show gI G 658 m = gMk (cN y) from (h.int 18 (by decide) (by decide)).trans x6, nI_1 i, show gI G 641 m = cJ y 0 from (h.int 1 (by decide) (by decide)).trans x2.1]
  -- one more is taken
  have h1 := h.wA hB 14 s (nI (i + 1)) rfl
  have s1 : MSt G m B (sA G (B 14) s (nI (i + 1))) := MSt.rf.wA rfl
  have p1 : aP (up2 T 14 s (nI (i + 1))) 13 14 17 (gOf (cN y), up1 (gTk (cN y)) s (i + 1), gGr (cN y), gMk (cN y), gHl (cN y), gDr (cN y), gPa (cN y), gWi (cN y)) := fun j hj => by
    obtain ⟨a1, a2, a3⟩ := x5 j hj
    refine ⟨a1, ?_, a3⟩
    show up2 T 14 s (nI (i + 1)) 14 j = nI (if j = s then i + 1 else gTk (cN y) j)
    by_cases c : j = s
    · rw [c, u2, if_pos rfl]
    · rw [u2n c, if_neg c]; exact a2
  have a1 : AB F (up2 T 14 s (nI (i + 1))) th (cJ y, cS y, (gOf (cN y), up1 (gTk (cN y)) s (i + 1), gGr (cN y), gMk (cN y), gHl (cN y), gDr (cN y), gPa (cN y), gWi (cN y)), cP y, cH y, cK y, cB y, cT y) Jd JK :=
    ⟨x1, x2, x3, x4, p1, x6, x7, x8, x9, x10, x11, x12, x13, x14, x15, x16, x17, x18⟩
  have hev : ∀ T' : Nat → Nat → Int32, aS T' (cS y) → T' 9 (40 * s + i) = v.1 := fun T' hT => ((hT s hs).2.2.2.2 i v hv).1
  have i40 : i < 40 := by omega
  have both : ∀ late : Int32, (late = 0 ↔ gMk (cN y) ≤ v.1) → (gT G (B 14) = 20 ∧ (¬ cJ y 0 = 2 → Cl E 2 m_Mo_comes [.ref m, .int (nI (40 * s + i))] (sA G (B 14) s (nI (i + 1))) (aft E 4 m_Mo_takes 59 [some (.ref m), some (.int (nI s)), some (.int (nI (40 * s + i))), some (.int late), none] [] Post)) ∧ (cJ y 0 = 2 → Cl E 2 m_Mo_makes [.ref m, .int (nI (40 * s + i))] (sA G (B 14) s (nI (i + 1))) (aft E 4 m_Mo_takes 51 [some (.ref m), some (.int (nI s)), some (.int (nI (40 * s + i))), some (.int late), none] [] Post))) := by
    intro late hlate
    refine ⟨h.at' 14 rfl, fun hc => ?_, fun hc => ?_⟩
    · obtain ⟨t1, t2, t3, t4, t5, t6, t7⟩ := hst hc
      refine c_comes (v := v) hB h1 a1 ⟨rfl, rfl, rfl, rfl⟩ ⟨v9, v10, v11⟩ hu t3 he t4 (by show (kL (cK y)).length + 16 ≤ 3890; omega) (by show (gWi (cN y)).length + 8 ≤ 989; omega) t1 t2 rfl t5 t6 t7 (fun G2 y1 y2 => ?_)
      have had : AdR (cJ y) v (gMk (cN y)) (gWi (cN y)) _ _ _ := Or.inr (Or.inr ⟨hc, _, rfl, rfl, rfl, rfl⟩)
      refine takes_t62 (W' := cmW v.2.1 v.2.2 (addN v.2.1 (cJ y 1) (gWi (cN y)) (sts (bk (cJ y 2) (cJ y 1) v.1 7 (laS (cJ y 2) v.1)) (laS (cJ y 2) v.1) (cJ y 2) (cJ y 1) (cJ y 3) (gMk (cN y)) 8 0)) (sts (bk (cJ y 2) (cJ y 1) v.1 7 (laS (cJ y 2) v.1)) (laS (cJ y 2) v.1) (cJ y 2) (cJ y 1) (cJ y 3) (gMk (cN y)) 8 0)) (Rr := cmR1 v.2.1 (addN v.2.1 (cJ y 1) (gWi (cN y)) (sts (bk (cJ y 2) (cJ y 1) v.1 7 (laS (cJ y 2) v.1)) (laS (cJ y 2) v.1) (cJ y 2) (cJ y 1) (cJ y 3) (gMk (cN y)) 8 0)) (sts (bk (cJ y 2) (cJ y 1) v.1 7 (laS (cJ y 2) v.1)) (laS (cJ y 2) v.1) (cJ y 2) (cJ y 1) (cJ y 3) (gMk (cN y)) 8 0) ++ cmR2 v.2.1 v.2.2 (addN v.2.1 (cJ y 1) (gWi (cN y)) (sts (bk (cJ y 2) (cJ y 1) v.1 7 (laS (cJ y 2) v.1)) (laS (cJ y 2) v.1) (cJ y 2) (cJ y 1) (cJ y 3) (gMk (cN y)) 8 0)) (sts (bk (cJ y 2) (cJ y 1) v.1 7 (laS (cJ y 2) v.1)) (laS (cJ y 2) v.1) (cJ y 2) (cJ y 1) (cJ y 3) (gMk (cN y)) 8 0)) hB hs i40 hJ hev hsl hlate (hg _ _ _ had) ?_ (s1.tr y2) (fun G' R z1 z2 z3 => k G' _ _ R _ had z1 z2 z3)
      rw [← List.append_assoc]
      exact y1
    · refine c_makes (v := v) (w0 := (v.2.1, v.1, v.1 + cJ y 1, 1, v.2.2, 0)) hB h1 a1 ⟨rfl, rfl, rfl⟩ ⟨v9, v10, v11⟩ he rfl (by show (kL (cK y)).length + (gWi (cN y)).length + 1 ≤ 3890; omega) (by show (gWi (cN y)).length + 1 ≤ 989; omega) (hgp hc) (fun c => ?_) (fun c G2 M hM y1 y2 => ?_)
      · have had : AdR (cJ y) v (gMk (cN y)) (gWi (cN y)) (gWi (cN y)) [] 0 := Or.inl ⟨hc, c, rfl, rfl, rfl⟩
        refine takes_t54 (W' := gWi (cN y)) (Rr := []) hB hs i40 hJ hev hsl hlate (hg _ _ _ had) ⟨F, _, h1, ?_⟩ s1 (fun G' R z1 z2 z3 => k G' _ _ R _ had z1 z2 z3)
        rw [List.append_nil]
        exact a1
      · have had : AdR (cJ y) v (gMk (cN y)) (gWi (cN y)) ((gWi (cN y)).filter (fun w => decide (¬ tou v.2.1 v.1 (v.1 + cJ y 1) w)) ++ [mkM (v.2.1, v.1, v.1 + cJ y 1, 1, v.2.2, 0) (gMk (cN y)) M]) (bkF M ++ mkE (v.2.1, v.1, v.1 + cJ y 1, 1, v.2.2, 0) (gMk (cN y)) M) 1 := Or.inr (Or.inl ⟨hc, c, rfl, M, hM, rfl, rfl⟩)
        refine takes_t54 (W' := (gWi (cN y)).filter (fun w => decide (¬ tou v.2.1 v.1 (v.1 + cJ y 1) w)) ++ [mkM (v.2.1, v.1, v.1 + cJ y 1, 1, v.2.2, 0) (gMk (cN y)) M]) (Rr := bkF M ++ mkE (v.2.1, v.1, v.1 + cJ y 1, 1, v.2.2, 0) (gMk (cN y)) M) hB hs i40 hJ hev hsl hlate (hg _ _ _ had) ?_ (s1.tr y2) (fun G' R z1 z2 z3 => k G' _ _ R _ had z1 z2 z3)
        rw [← List.append_assoc]
        exact y1
  exact ⟨fun c => both 0 ⟨fun _ => c, fun _ => rfl⟩, fun c => both 1 ⟨fun z => absurd z (by decide +kernel), fun z => absurd z c⟩⟩
end TAKES
