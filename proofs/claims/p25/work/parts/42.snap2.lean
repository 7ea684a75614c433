theorem gI_ne {G : GH} {f a x y : Nat} {v : Int32} (h : x ≠ f) : gI (sI G f a v) x y = gI G x y := if_neg (fun z => h z.1)
theorem gI_eq {G : GH} {f a : Nat} {v : Int32} : gI (sI G f a v) f a = v := if_pos ⟨rfl, rfl⟩
/-- the sink's numbers are set -/
theorem SiR.sets {E : EV} {S : List Nat} {G G' : GH} {o : Nat → Nat} {si ls n n' p : Nat} {rows : List Nat} {cm pr cm' pr' : Int32} (h : SiR E G o si ls rows cm pr n p) (hw : Wf G) (s : Stq S G o G' o) (hl : ls ∉ S) (hR : ∀ f, gR G' f si = gR G f si) (hq : ∀ q, gT G q = 8 → Sm G G' q) (h1 : gI G' 321 si = cm') (h2 : gI G' 322 si = pr') (h3 : gI G' 323 si = nI n') (hn : n' ≤ rows.length) : SiR E G' o si ls rows cm' pr' n' p ∧ ∀ m, recs G' rows m = recs G rows m := by
  obtain ⟨a1, a2, a3, a4, a5, a6, a7, a8, a9, c, b1, b2⟩ := h
  refine ⟨⟨s.tg' hw a1 (by omega), a2, (hR _).trans a3, h1, h2, h3, hn, a8, ⟨a9.1, fun b hb' => ?_⟩, c, b1.stp hw s hl, b2⟩, fun m => List.map_congr_left (fun b hb' => rW_sm (hq b (a9.2 b (List.mem_of_mem_take hb')).1))⟩
  obtain ⟨c1, c2, c3⟩ := a9.2 b hb'
  have q := hq b c1
  exact ⟨q.1.trans c1, c2, by rw [q.2.2.1]; exact c3⟩
theorem HiR.sets {E : EV} {S : List Nat} {G G' : GH} {o : Nat → Nat} {hi lh ga cl cl' c : Nat} {evs : List Nat} {cw cw' : Int32} (h : HiR E G o hi lh ga evs cl cw c) (hw : Wf G) (s : Stq S G o G' o) (hl : lh ∉ S) (hR : ∀ f, gR G' f hi = gR G f hi) (h1 : gI G' 129 hi = nI cl') (h2 : gI G' 130 hi = cw') : HiR E G' o hi lh ga evs cl' cw' c := by
  obtain ⟨a1, a2, a3, a4, a5, a6, a7, a8, a9, b1, b2⟩ := h
  exact ⟨s.tg' hw a1 (by omega), a2, (hR _).trans a3, h1, h2, (hR _).trans a6, s.tg' hw a7 (by omega), a8, a9, b1.stp hw s hl, fun x hx => s.tg' hw (b2 x hx) (by omega)⟩
/-- Progress.copyFrom, in these words -/
theorem c_copyPg {E : EV} {G : GH} {Post : Res → GH → Prop} {o A : Nat → Nat} {b c p q : Nat} {P Q : PG} (hA : InjA A) (hb : b + 6 < 34) (hc : c + 6 < 34) (hd : b + 6 < c ∨ c + 6 < b) (hw : Wf G) (h1 : PgS E G o A b P p) (h2 : PgS E G o A c Q q)
    (k : ∀ G' o' p', PgS E G' o' A b Q p' → Stq ([b, b + 4, b + 5, b + 6].map A) G o G' o' → Cs G p G' p' → Post (.inl none) G') : Cl E 8 m_Pr_copyFrom [.ref (A b), .ref (A c)] G Post := by
  obtain ⟨a1, a2, a3, a4, a5, a6, rows, spare, a7, a8, a9⟩ := h1
  obtain ⟨b1, b2, b3, b4, b5, b6, rowsB, spareB, b7, b8, b9⟩ := h2
  exact c_PrCopy a1 b1 (hA.ne (by omega) (by omega) (by omega)) hw a7 b7 ⟨hA.nm (i := c + 4) (js := [b + 4, b + 5, b + 6]) (by omega) (by intro j hj; simp at hj; omega), hA.nm (i := c + 5) (js := [b + 4, b + 5, b + 6]) (by omega) (by intro j hj; simp at hj; omega), hA.nm (i := c + 6) (js := [b + 4, b + 5, b + 6]) (by omega) (by intro j hj; simp at hj; omega)⟩ (hA.nm (i := b) (js := [b + 4, b + 5, b + 6, c + 4, c + 5, c + 6]) (by omega) (by intro j hj; simp at hj; omega)) (hA.nm (i := c) (js := [b + 4, b + 5, b + 6]) (by omega) (by intro j hj; simp at hj; omega)) (by omega) (by omega) (fun G' o' p' rows' spare' y1 y2 y3 y4 y5 y6 y7 y8 s cs len => k G' o' p' ⟨y1, fun j hj => ⟨(y4 j hj).1.trans (b2 j hj).1, (y4 j hj).2.1.trans (b2 j hj).2.1, (y4 j hj).2.2.trans (b2 j hj).2.2⟩, y5.trans b3, y6.trans b4, y7.trans b5, y8.trans b6, rows', spare', y2, y3.trans b8, by omega⟩ s cs)
/-- takeSnapshot -/
def snapS (x : XS) : XS := (cJ x, cS x, cN x, (bA (cB x), gTk (cN x), gGr (cN x), gMk (cN x), gHl (cN x), gDr (cN x), gPa (cN x), gWi (cN x)), cH x, (kL (cK x), kC (cK x), (kL (cK x)).length), cB x, (tB (cT x), tS (cT x) + 1, 1, tW (cT x)))
theorem c_snapS {E : EV} {G : GH} {Post : Res → GH → Prop} {o A : Nat → Nat} {x : XS} {p : Nat} (hA : InjA A) (h : StS E G o A x p)
    (k : ∀ G' o' p', StS E G' o' A (snapS x) p' → Stq ([0, 16, 20, 21, 22, 26].map A) G o G' o' → Cs G p G' p' → Post (.inl none) G') : Cl E 9 m_St_takeSnapshot [.ref (A 0)] G Post := by
  obtain ⟨ea, p1, p2, p3, p4, p5, h, hp⟩ := h
  obtain ⟨hw, hR, hJ, hT, hB, hSo, hPg, hPs, hHi, hSi⟩ := id h
  obtain ⟨r1, r2, r3, r4, r5, r6, r7, r8, r9, r10, r11⟩ := id hR
  refine j_enter (L := [some (.ref (A 0)), none]) me_St_takeSnapshot (cat_c rfl cat_n) (Nat.le_of_ble_eq_true rfl) rfl (wp_St_takeSnapshot_0 (A 0) ⟨r1, A 16, r8, A 9, r7, hPs.1.1, ?_⟩)
  refine c_copyPg (b := 16) (c := 9) hA (by omega) (by omega) (by omega) hw hPs hPg (fun G1 o1 q1 y1 s1 c1 => wp_St_takeSnapshot_11 (A 0) ?_)
  have s1' : Stq ([16, 20, 21, 22].map A) G o G1 o1 := s1
  have f := h.fr hA s1' (by decide)
  obtain ⟨hR1, hT1⟩ := f.1 (by decide)
  have hB1 := f.2.2.1 (by decide)
  have hSi1 := f.2.2.2.2.2.2.2 (by decide)
  have h1 : StO E G1 o1 A ea (cJ x, cS x, cN x, cN x, cH x, cK x, cB x, cT x) p1 p2 q1 p4 p5 := ⟨s1.wf, hR1, f.2.1 (by decide), hT1, hB1, f.2.2.2.1 (by decide), f.2.2.2.2.1 (by decide), y1, f.2.2.2.2.2.2.1 (by decide), hSi1⟩
  obtain ⟨srw, b1, b2, b3⟩ := id hSi1
  refine c_snap_loop (o := o1) (ps := A 16) (so := A 17) (ba := A 28) (bt := A 29) (si := A 26) s1.wf hR1.1 hR1.2.2.2.2.2.2.2.1 y1.1.1 y1.1.2.2.1 y1.1.2.2.2.2.2.2.1 hR1.2.2.2.2.2.2.2.2.2.2 hB1.1.1 hB1.1.2.2.1 hB1.1.2.2.2.2.1 hR1.2.2.2.2.2.2.2.2.2.1 b1.1 (hA.ne (by omega) (by omega) (by omega)) hR1.2.1 b1.2.1 (fun G2 hO s2 e1 e2 => ?_) 3 0 G1 rfl ⟨fun _ => rfl, fun _ => rfl, fun _ _ => rfl, fun _ _ => rfl, rfl, rfl⟩ (Stq.rf s1.wf) (fun j hj => absurd hj (Nat.not_lt_zero _)) (fun _ _ _ => rfl)
  have s2' : Stq ([16].map A) G1 o1 G2 o1 := s2
  have f2 := h1.fr hA s2' (by decide)
  obtain ⟨a1, a2, a3, a4, a5, a6, rows, spare, a7, a8, a9⟩ := y1
  have ws := hA.nm (i := 20) (js := [16]) (by omega) (by decide)
  have h2 : StO E G2 o1 A ea (cJ x, cS x, cN x, (bA (cB x), gTk (cN x), gGr (cN x), gMk (cN x), gHl (cN x), gDr (cN x), gPa (cN x), gWi (cN x)), cH x, cK x, cB x, cT x) p1 p2 q1 p4 p5 := by
    refine ⟨s2.wf, (f2.1 (by decide)).1, f2.2.1 (by decide), (f2.1 (by decide)).2, f2.2.2.1 (by decide), f2.2.2.2.1 (by decide), f2.2.2.2.2.1 (by decide), ⟨a1.stp s1.wf s2 (fun f => hO.2.2.2.1 f _), fun j hj => ⟨(e1 j hj).trans (hB1.2.1 j hj).1, (e2 (A 18) j (hA.ne (by omega) (by omega) (by omega))).trans (a2 j hj).2.1, (e2 (A 19) j (hA.ne (by omega) (by omega) (by omega))).trans (a2 j hj).2.2⟩, (hO.2.2.1 _ _).trans a3, (hO.2.2.1 _ _).trans a4, (hO.2.2.1 _ _).trans a5, (hO.2.2.1 _ _).trans a6, rows, spare, a7.stp s1.wf s2' ws (hA.nm (i := 21) (js := [16]) (by omega) (by decide)) (hA.nm (i := 22) (js := [16]) (by omega) (by decide)), ?_, a9⟩, f2.2.2.2.2.2.2.1 (by decide), f2.2.2.2.2.2.2.2 (by decide)⟩
    exact ((a7.2.2.2.2.2.1.sub (List.sublist_append_left _ _)).map s1.wf s2' ws).trans a8
  obtain ⟨srw2, d1, d2, d3⟩ := id (f2.2.2.2.2.2.2.2 (by decide))
  have hR2 := (f2.1 (by decide)).1
  have hT2 := (f2.1 (by decide)).2
  have e3 : gI G1 323 (A 26) = nI (kL (cK x)).length := b1.2.2.2.2.2.1
  have e4 : gI G1 584 (A 0) = tS (cT x) := hT1.2.1
  rw [e3, e4]
  have s3 : Stq ([26].map A) G2 o1 (sI G2 322 (A 26) (nI (kL (cK x)).length)) o1 := (Stq.rf s2.wf).wI (fun _ => by rw [d1.2.1]; exact in1)
  have f3 := h2.fr hA s3 (by decide)
  have hs3 := d1.sets (cm' := nI (kC (cK x))) (pr' := nI (kL (cK x)).length) (n' := (kL (cK x)).length) s2.wf s3 (hA.nm (i := 27) (js := [26]) (by omega) (by decide)) (fun _ => rfl) (fun q hq => sI_sm (fun z => by rw [z, d1.1] at hq; omega)) ((gI_ne (by decide)).trans d1.2.2.2.1) gI_eq ((gI_ne (by decide)).trans d1.2.2.2.2.2.1) d1.2.2.2.2.2.2.1
  have h3 : StO E (sI G2 322 (A 26) (nI (kL (cK x)).length)) o1 A ea (cJ x, cS x, cN x, (bA (cB x), gTk (cN x), gGr (cN x), gMk (cN x), gHl (cN x), gDr (cN x), gPa (cN x), gWi (cN x)), cH x, (kL (cK x), kC (cK x), (kL (cK x)).length), cB x, cT x) p1 p2 q1 p4 p5 :=
    ⟨s3.wf, (f3.1 (by decide)).1, f3.2.1 (by decide), (f3.1 (by decide)).2, f3.2.2.1 (by decide), f3.2.2.2.1 (by decide), f3.2.2.2.2.1 (by decide), f3.2.2.2.2.2.1 (by decide), f3.2.2.2.2.2.2.1 (by decide), srw2, hs3.1, (hs3.2 _).trans d2, d3⟩
  generalize hG3 : sI G2 322 (A 26) (nI (kL (cK x)).length) = G3 at *
  have hR3 := (f3.1 (by decide)).1
  have hT3 := (f3.1 (by decide)).2
  have s4 : Stq ([0].map A) G3 o1 (sI (sI G3 584 (A 0) (tS (cT x) + 1)) 585 (A 0) 1) o1 := ((Stq.rf s3.wf).wI (fun _ => by rw [hR3.2.1]; exact in1)).wI (fun _ => by rw [hR3.2.1]; exact in1)
  have f4 := h3.fr hA s4 (by decide)
  have sub : ∀ js : List Nat, (∀ j ∈ js, j ∈ [0, 16, 20, 21, 22, 26]) → ∀ z, z ∈ js.map A → z ∈ [0, 16, 20, 21, 22, 26].map A := fun js hj z hz => by
    obtain ⟨j, hj1, hj2⟩ := List.mem_map.mp hz
    exact List.mem_map.mpr ⟨j, hj j hj1, hj2⟩
  refine k _ o1 (p1 + p2 + q1 + p4 + p5) ⟨ea, p1, p2, q1, p4, p5, ⟨s4.wf, hR3.stp s3.wf s4 (fun _ => rfl), f4.2.1 (by decide), ⟨?_, ?_, gI_eq, ?_⟩, f4.2.2.1 (by decide), f4.2.2.2.1 (by decide), f4.2.2.2.2.1 (by decide), f4.2.2.2.2.2.1 (by decide), f4.2.2.2.2.2.2.1 (by decide), f4.2.2.2.2.2.2.2 (by decide)⟩, rfl⟩ ((s1'.mono (sub _ (by decide))).tr ((s2'.mono (sub _ (by decide))).tr ((s3.mono (sub _ (by decide))).tr (s4.mono (sub _ (by decide)))))) ?_
  · rw [gI_ne (by decide), gI_ne (by decide)]; exact hT3.1
  · rw [gI_ne (by decide), gI_eq]; rfl
  · rw [gI_ne (by decide), gI_ne (by decide)]; exact hT3.2.2.2
  · have v1 := c1.1
    have v2 := c1.2
    have v3 := hO.2.2.2.2.1
    have v4 := hO.2.2.2.2.2
    have v5 : gz G3 = gz G2 := by rw [← hG3]; rfl
    have v6 : gs G3 = gs G2 := by rw [← hG3]; rfl
    refine ⟨?_, ?_⟩
    · show gz G3 + _ ≤ _; omega
    · show gs G3 + _ ≤ _; omega
