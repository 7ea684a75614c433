theorem fl1_01 (ss : List Int32) : fl1 0 ss = 0 ∨ fl1 0 ss = 1 := by
  cases ss with
  | nil => exact Or.inl rfl
  | cons a l => exact Or.inr rfl
theorem admP_01 (jb : Nat → Int32) (v : V3) (mk : Int32) (W : List WT) : (admP jb v mk W).2.2 = 0 ∨ (admP jb v mk W).2.2 = 1 := by
  unfold admP
  by_cases c : jb 0 = 2
  · rw [if_pos c]
    by_cases c2 : v.1 + jb 1 + jb 3 ≤ mk
    · rw [if_pos c2]; exact Or.inl rfl
    · rw [if_neg c2]; exact Or.inr rfl
  · rw [if_neg c]; exact fl1_01 _
theorem PgS.win {E : EV} {S : List Nat} {G G' : GH} {o o' A : Nat → Nat} {b p p' : Nat} {P : PG} {rows spare : List Nat} {W : List WT} (h : PgS E G o A b P p) (hw : Wf G) (s : Stq S G o G' o') (h0 : A b ∉ S) (hW : WsR E G' o' (A (b + 4)) (A (b + 5)) (A (b + 6)) rows spare p') (hm : rows.map (rW G') = W) (hl : rows.length + spare.length ≤ 2000) : PgS E G' o' A b (gOf P, gTk P, gGr P, gMk P, gHl P, gDr P, gPa P, W) p' := by
  obtain ⟨a1, a2, a3, a4, a5, a6, -⟩ := h
  have q := s.sm (hw (A b) (by rw [a1.1]; omega)) (by rw [a1.2.1]; exact h0)
  obtain ⟨b1, b2, b3, b4, b5, b6, b7, b8, b9, b10⟩ := id a1
  have q1 := s.sm (hw (A (b + 1)) (by rw [b7.1]; omega)) (by rw [b7.2.2]; exact h0)
  have q2 := s.sm (hw (A (b + 2)) (by rw [b8.1]; omega)) (by rw [b8.2.2]; exact h0)
  have q3 := s.sm (hw (A (b + 3)) (by rw [b9.1]; omega)) (by rw [b9.2.2]; exact h0)
  exact ⟨a1.stp hw s q.2.2.2.1, fun j hj => ⟨(q1.2.2.2.2.1 j).trans (a2 j hj).1, (q2.2.2.2.2.1 j).trans (a2 j hj).2.1, (q3.2.2.2.2.1 j).trans (a2 j hj).2.2⟩, (q.2.2.1 _).trans a3, (q.2.2.1 _).trans a4, (q.2.2.1 _).trans a5, (q.2.2.1 _).trans a6, rows, spare, hW, hm, hl⟩
theorem SiS.rows {E : EV} {G G' : GH} {o' A : Nat → Nat} {L R : List WT} {c p n' q' : Nat} {rows sr' : List Nat} (h : SiR E G' o' (A 26) (A 27) sr' (nI c) (nI p) n' q') (hr : recs G' sr' n' = recs G rows L.length ++ R) (h0 : recs G rows L.length = L) (hl : sr'.length ≤ max rows.length n') (h1 : rows.length ≤ 2900) (h2 : (L ++ R).length ≤ 2900) : SiS E G' o' A (L ++ R, c, p) q' := by
  rw [h0] at hr
  have hn : n' = (L ++ R).length := by
    have e := congrArg List.length hr
    rwa [recs_len h.2.2.2.2.2.2.1] at e
  subst hn
  exact ⟨sr', h, hr, by omega⟩
theorem c_takeEv {E : EV} {G : GH} {Post : Res → GH → Prop} {o A : Nat → Nat} {ea : Nat → List Nat} {x : XS} {p p1 p2 p3 p4 p5 s i b : Nat} {v : V3} (hA : InjA A) (h : StO E G o A ea x p1 p2 p3 p4 p5) (hp : p = p1 + p2 + p3 + p4 + p5) (hs : s < 3) (hb : (ea s)[i]? = some b) (hv : (sEv (cS x) s)[i]? = some v) (hi : gTk (cN x) s = i)
    (hH : (hL (cH x)).length ≤ 2000) (hWl : (gWi (cN x)).length ≤ 1900) (hLl : (kL (cK x)).length + (gWi (cN x)).length ≤ 2900) (hUQ : UQ (gWi (cN x))) (hfin : (kL (cK (tkEv x s i v))).length + (gWi (cN (tkEv x s i v))).length ≤ 2900)
    (k : ∀ G' o' p', StS E G' o' A (lookS (tkEv x s i v)) p' → Stq (b :: [9, 13, 14, 15, 24, 26, 27].map A) G o G' o' → Cs G p G' p' → Post (.inl (some (.int (tkAns x v)))) G') : Cl E 11 m_St_takeEvent [.ref (A 0), .int (nI s), .ref b] G Post := by
  obtain ⟨hw, hR, hJ, hT, hB, hSo, hPg, hPs, hHi, hSi⟩ := id h
  obtain ⟨r1, r2, r3, r4, r5, r6, r7, r8, r9, r10, r11⟩ := id hR
  obtain ⟨w, ew, eb, tb, ob, nb⟩ := hSo.ev hs hb
  have hwv : w = v := by rw [ew] at hv; exact Option.some.inj hv
  subst hwv
  have e64 : gI G 64 b = nI s := congrArg (fun z : ET => z.1) eb
  refine j_enter (L := [some (.ref (A 0)), some (.int (nI s)), some (.ref b), none]) me_St_takeEvent (cat_c rfl (cat_c rfl (cat_c rfl cat_n))) (Nat.le_of_ble_eq_true rfl) rfl (wp_St_takeEvent_0 (A 0) (nI s) b ⟨r1, A 9, r7, hPg.1.1, tb, A 23, r9, A 1, r5, r3, hHi.1.1, ?_⟩)
  rw [hPg.2.2.1, hPg.2.2.2.2.2.1, show gI G 196 (A 1) = cJ x 4 from hJ 4 (by omega)]
  have nbl : ∀ j, j < 34 → A j ∉ [b] := fun j hj => by rw [List.mem_singleton]; exact fun z => nb j hj z.symm
  have s1 : Stq [b] G o (sI G 68 b (gMk (cN x))) o := (Stq.rf hw).wI (fun _ => by rw [ob]; exact in1)
  have h1 : StO E (sI G 68 b (gMk (cN x))) o A ea (cJ x, setEm (cS x) s i (gMk (cN x)), cN x, cP x, cH x, cK x, cB x, cT x) p1 p2 p3 p4 p5 :=
    ⟨s1.wf, hR.stp' hw s1 (nbl 0 (by omega)), hJ.stp hR hw s1 (nbl 1 (by omega)), hT.stp hR hw s1 (nbl 0 (by omega)), hB.stp hw s1 (nbl 28 (by omega)), hSo.setEm hw hs hb, hPg.stp hw s1 (nbl 9 (by omega)) (nbl 13 (by omega)) (nbl 14 (by omega)) (nbl 15 (by omega)), hPs.stp hw s1 (nbl 16 (by omega)) (nbl 20 (by omega)) (nbl 21 (by omega)) (nbl 22 (by omega)), hHi.stp hw s1 (nbl 23 (by omega)) (nbl 24 (by omega)), hSi.stp hw s1 (nbl 26 (by omega)) (nbl 27 (by omega))⟩
  have t1 : gT (sI G 68 b (gMk (cN x))) b = 2 := tb
  have eb1 : rE (sI G 68 b (gMk (cN x))) b = (nI s, w.1, w.2.1, w.2.2, gMk (cN x)) := by
    have q2 : gI G 65 b = w.1 := congrArg (fun z : ET => z.2.1) eb
    have q3 : gI G 66 b = w.2.1 := congrArg (fun z : ET => z.2.2.1) eb
    have q4 : gI G 67 b = w.2.2 := congrArg (fun z : ET => z.2.2.2.1) eb
    rw [rE_68, e64, q2, q3, q4]
  have z1 : gz (sI G 68 b (gMk (cN x))) = gz G := rfl
  have z1' : gs (sI G 68 b (gMk (cN x))) = gs G := rfl
  have e262 : gI (sI G 68 b (gMk (cN x))) 262 (A 9) = gPa (cN x) := h1.2.2.2.2.2.2.1.2.2.2.2.2.1
  generalize hG1 : sI G 68 b (gMk (cN x)) = G1 at *
  obtain ⟨hw1, hR1, hJ1, hT1, hB1, hSo1, hPg1, hPs1, hHi1, hSi1⟩ := id h1
  refine c_countPairsOf hHi1.1 t1 ?_
  rw [eb1, hist_map hSo1 hHi1]
  refine wp_St_takeEvent_34 (A 0) (nI s) b (A 9) (gPa (cN x)) _ ⟨hPg1.1.1, hR1.1, A 23, hR1.2.2.2.2.2.2.2.2.1, hHi1.1.1, A 24, hHi1.1.2.2.1, hHi1.1.2.2.2.2.2.2.2.2.2.1.tg, ?_⟩
  show Cl E 6 m_AL_add [.ref (A 24), .ref b] (sI G1 262 (A 9) (gPa (cN x) + cntP (cJ x 4) (nI s, w.1, w.2.1, w.2.2, gMk (cN x)) 0 ((hL (cH x)).map (hE (setEm (cS x) s i (gMk (cN x))))))) _
  generalize hpa : gPa (cN x) + cntP (cJ x 4) (nI s, w.1, w.2.1, w.2.2, gMk (cN x)) 0 ((hL (cH x)).map (hE (setEm (cS x) s i (gMk (cN x))))) = pa
  have s2 : Stq ([9].map A) G1 o (sI G1 262 (A 9) pa) o := (Stq.rf hw1).wI (fun _ => by rw [hPg1.1.2.1]; exact in1)
  have f2 := h1.fr hA s2 (by decide)
  have hHi2 := f2.2.2.2.2.2.2.1 (by decide)
  refine c_AL_add hHi2.1.2.2.2.2.2.2.2.2.2.1 s2.wf (fun z hz => OB.of2 (hHi2.1.2.2.2.2.2.2.2.2.2.2 z hz)) (OB.of2 (show gT G1 b = 2 from t1)) (by rw [List.length_map]; exact Nat.le_trans hH (by omega)) (fun G3 o3 q4 y3 s3 c3 => ?_)
  have s3' : Stq ([24].map A) (sI G1 262 (A 9) pa) o G3 o3 := s3
  -- the progress at G2
  obtain ⟨a1, a2, a3, a4, a5, a6, rows, spare, a7, a8, a9⟩ := id hPg1
  have hPg2 : PgS E (sI G1 262 (A 9) pa) o A 9 (gOf (cN x), gTk (cN x), gGr (cN x), gMk (cN x), gHl (cN x), gDr (cN x), pa, gWi (cN x)) p2 :=
    ⟨a1.stp hw1 s2 (fun _ => rfl), a2, (gI_ne (by decide)).trans a3, (gI_ne (by decide)).trans a4, (gI_ne (by decide)).trans a5, gI_eq, rows, spare, a7.stp hw1 s2 (hA.nm (i := 13) (js := [9]) (by omega) (by decide)) (hA.nm (i := 14) (js := [9]) (by omega) (by decide)) (hA.nm (i := 15) (js := [9]) (by omega) (by decide)), ((a7.2.2.2.2.2.1.sub (List.sublist_append_left _ _)).map hw1 s2 (hA.nm (i := 13) (js := [9]) (by omega) (by decide))).trans a8, a9⟩
  have h2 : StO E (sI G1 262 (A 9) pa) o A ea (cJ x, setEm (cS x) s i (gMk (cN x)), (gOf (cN x), gTk (cN x), gGr (cN x), gMk (cN x), gHl (cN x), gDr (cN x), pa, gWi (cN x)), cP x, cH x, cK x, cB x, cT x) p1 p2 p3 p4 p5 :=
    ⟨s2.wf, (f2.1 (by decide)).1, f2.2.1 (by decide), (f2.1 (by decide)).2, f2.2.2.1 (by decide), f2.2.2.2.1 (by decide), hPg2, f2.2.2.2.2.2.1 (by decide), hHi2, f2.2.2.2.2.2.2.2 (by decide)⟩
  have z2 : gz (sI G1 262 (A 9) pa) = gz G := z1
  have z2' : gs (sI G1 262 (A 9) pa) = gs G := z1'
  generalize sI G1 262 (A 9) pa = G2 at *
  have f3 := h2.fr hA s3' (by decide)
  obtain ⟨u1, u2, u3, u4, u5, u6, u7, u8, u9, u10, u11⟩ := id hHi2.1
  have sm23 := s3'.sm (q := A 23) (s2.wf _ (by rw [u1]; omega)) (by rw [u2]; exact hA.nm (i := 23) (js := [24]) (by omega) (by decide))
  have t2 : gT G2 b = 2 := (s2.tg' hw1 t1 (by omega))
  have t3 : gT G3 b = 2 := s3.tg' s2.wf t2 (by omega)
  have hal : ∀ z ∈ (hL (cH x)).map (aOf ea) ++ [b], gT G3 z = 2 := fun z hz => by
    rcases List.mem_append.mp hz with hz | hz
    · exact s3.tg' s2.wf (u11 z hz) (by omega)
    · rw [List.mem_singleton.mp hz]; exact t3
  have hib : aOf ea (s, i) = b := by
    unfold aOf
    rw [List.getD_eq_getElem?_getD, hb]; rfl
  have hHi3 : HiS E G3 o3 A ea (hL (cH x) ++ [(s, i)], hC (cH x), hW (cH x)) q4 := by
    refine ⟨?_, fun z hz => ?_⟩
    · show HiR E G3 o3 (A 23) (A 24) (A 25) ((hL (cH x) ++ [(s, i)]).map (aOf ea)) _ _ q4
      rw [List.map_append, List.map_singleton, hib]
      exact ⟨sm23.1.trans u1, (s3.ow (s2.wf _ (by rw [u1]; omega))).trans u2, (sm23.2.2.2.1 _).trans u3, (sm23.2.2.1 _).trans u4, (sm23.2.2.1 _).trans u5, (sm23.2.2.2.1 _).trans u6, s3.tg' s2.wf u7 (by omega), (s3.ow (s2.wf _ (by rw [u7]; omega))).trans u8, u9, y3, hal⟩
    · rcases List.mem_append.mp hz with hz | hz
      · exact hHi1.2 z hz
      · rw [List.mem_singleton.mp hz]
        exact ⟨hs, (List.getElem?_eq_some_iff.mp hb).1⟩
  have h3 : StO E G3 o3 A ea (cJ x, setEm (cS x) s i (gMk (cN x)), (gOf (cN x), gTk (cN x), gGr (cN x), gMk (cN x), gHl (cN x), gDr (cN x), pa, gWi (cN x)), cP x, (hL (cH x) ++ [(s, i)], hC (cH x), hW (cH x)), cK x, cB x, cT x) p1 p2 p3 q4 p5 :=
    ⟨s3.wf, (f3.1 (by decide)).1, f3.2.1 (by decide), (f3.1 (by decide)).2, f3.2.2.1 (by decide), f3.2.2.2.1 (by decide), f3.2.2.2.2.1 (by decide), f3.2.2.2.2.2.1 (by decide), hHi3, f3.2.2.2.2.2.2.2 (by decide)⟩
  obtain ⟨hw3, hR3, hJ3, hT3, hB3, hSo3, hPg3, hPs3, -, hSi3⟩ := id h3
  obtain ⟨g1, g2, g3, g4, g5, g6, rw3, sp3, g7, g8, g9⟩ := id hPg3
  obtain ⟨-, -, -, -, -, -, l10, l11, l12, l1, l2, l3⟩ := id g1
  refine wp_St_takeEvent_49 (A 0) (nI s) b 1 ⟨hR3.1, A 9, hR3.2.2.2.2.2.2.1, g1.1, A 11, g1.2.2.2.1, Or.inl l11.1, s, IX.nI (by rw [l11.2.1]; exact hs) (by rw [l11.2.1]; omega), l11.1, fun G11 hG11 => ⟨A 12, g1.2.2.2.2.1, Or.inl l12.1, s, IX.nI (by rw [l12.2.1]; exact hs) (by rw [l12.2.1]; omega), t3, l12.1, A 1, hR3.2.2.2.2.1, hR3.2.2.1, ?_⟩⟩
  have ev3 := (hSo3.ev hs hb)
  obtain ⟨w3, ew3, eb3, -, ob3, -⟩ := ev3
  have hww : w3 = w := by
    have q : (sEv (cS x) s)[i]? = some w3 := ew3
    rw [hv] at q
    exact (Option.some.inj q).symm
  subst hww
  have e65 : gI G3 65 b = w3.1 := congrArg (fun z : ET => z.2.1) eb3
  have e66 : gI G3 66 b = w3.2.1 := congrArg (fun z : ET => z.2.2.1) eb3
  have e67 : gI G3 67 b = w3.2.2 := congrArg (fun z : ET => z.2.2.2.1) eb3
  have e68 : gI G3 68 b = gMk (cN x) := by
    have q := congrArg (fun z : ET => z.2.2.2.2) eb3
    refine q.trans ?_
    show up2 (sEm (cS x)) s i (gMk (cN x)) s i = _
    exact if_pos ⟨rfl, rfl⟩
  have hgr : gA G11 (A 12) s = gGr (cN x) s := by
    subst hG11
    rw [gA_sA, if_neg (fun z => l3 z.1.symm)]
    exact (g2 s hs).2.2
  rw [hgr, e65]
  have i9 : ∀ q, o3 q = A 9 → q < gz G3 → o3 q ∈ [9].map A := fun q hq _ => by rw [hq]; exact in1
  have s4 : Stq ([9].map A) G3 o3 (sA G11 (A 12) s (if gGr (cN x) s < w3.1 then w3.1 else gGr (cN x) s)) o3 := hG11 ▸ (((Stq.rf hw3).wI (i9 _ g1.2.1)).wA (i9 _ l11.2.2)).wA (i9 _ l12.2.2)
  have f4 := h3.fr hA s4 (by decide)
  have gi : ∀ f y, f ≠ 260 → gI (sA G11 (A 12) s (if gGr (cN x) s < w3.1 then w3.1 else gGr (cN x) s)) f y = gI G3 f y := by
    subst hG11
    intro f y hf
    show gI (sI G3 260 (A 9) (gI G3 260 (A 9) + 1)) f y = _
    exact gI_ne hf
  have hPg4 : PgS E (sA G11 (A 12) s (if gGr (cN x) s < w3.1 then w3.1 else gGr (cN x) s)) o3 A 9 (gOf (cN x), up1 (gTk (cN x)) s (i + 1), up1 (gGr (cN x)) s (if gGr (cN x) s < w3.1 then w3.1 else gGr (cN x) s), gMk (cN x), gHl (cN x) + 1, gDr (cN x), pa, gWi (cN x)) p2 := by
    refine ⟨g1.stp hw3 s4 (by subst hG11; exact fun _ => rfl), fun j hj => ⟨?_, ?_, ?_⟩, (gi 259 _ (by decide)).trans g3, ?_, (gi 261 _ (by decide)).trans g5, (gi 262 _ (by decide)).trans g6, rw3, sp3, g7.stp hw3 s4 (hA.nm (i := 13) (js := [9]) (by omega) (by decide)) (hA.nm (i := 14) (js := [9]) (by omega) (by decide)) (hA.nm (i := 15) (js := [9]) (by omega) (by decide)), ((g7.2.2.2.2.2.1.sub (List.sublist_append_left _ _)).map hw3 s4 (hA.nm (i := 13) (js := [9]) (by omega) (by decide))).trans g8, g9⟩
    · subst hG11
      rw [gA_sA, if_neg (fun z => l2 z.1), gA_sA, if_neg (fun z => l1 z.1)]
      exact (g2 j hj).1
    · subst hG11
      rw [gA_sA, if_neg (fun z => l3 z.1), gA_sA]
      show _ = nI (if j = s then i + 1 else gTk (cN x) j)
      by_cases c : j = s
      · rw [if_pos ⟨rfl, c⟩, if_pos c]
        show gA G3 (A 11) s + 1 = _
        have q : gA G3 (A 11) s = nI (gTk (cN x) s) := (g2 s hs).2.1
        rw [q, hi, nI_1]
      · rw [if_neg (fun z => c z.2), if_neg c]
        exact (g2 j hj).2.1
    · subst hG11
      rw [gA_sA]
      show _ = if j = s then _ else gGr (cN x) j
      by_cases c : j = s
      · rw [if_pos ⟨rfl, c⟩, if_pos c]
      · rw [if_neg (fun z => c z.2), if_neg c, gA_sA, if_neg (fun z => l3 z.1.symm)]
        exact (g2 j hj).2.2
    · subst hG11
      show gI (sI G3 260 (A 9) (gI G3 260 (A 9) + 1)) 260 (A 9) = nI (gHl (cN x) + 1)
      have q : gI G3 260 (A 9) = nI (gHl (cN x)) := g4
      rw [gI_eq, q, nI_1]
  have h4 : StO E (sA G11 (A 12) s (if gGr (cN x) s < w3.1 then w3.1 else gGr (cN x) s)) o3 A ea (cJ x, setEm (cS x) s i (gMk (cN x)), (gOf (cN x), up1 (gTk (cN x)) s (i + 1), up1 (gGr (cN x)) s (if gGr (cN x) s < w3.1 then w3.1 else gGr (cN x) s), gMk (cN x), gHl (cN x) + 1, gDr (cN x), pa, gWi (cN x)), cP x, (hL (cH x) ++ [(s, i)], hC (cH x), hW (cH x)), cK x, cB x, cT x) p1 p2 p3 q4 p5 :=
    ⟨s4.wf, (f4.1 (by decide)).1, f4.2.1 (by decide), (f4.1 (by decide)).2, f4.2.2.1 (by decide), f4.2.2.2.1 (by decide), hPg4, f4.2.2.2.2.2.1 (by decide), f4.2.2.2.2.2.2.1 (by decide), f4.2.2.2.2.2.2.2 (by decide)⟩
  have z4 : gz (sA G11 (A 12) s (if gGr (cN x) s < w3.1 then w3.1 else gGr (cN x) s)) = gz G3 := by subst hG11; rfl
  have z4' : gs (sA G11 (A 12) s (if gGr (cN x) s < w3.1 then w3.1 else gGr (cN x) s)) = gs G3 := by subst hG11; rfl
  have x65 : gI (sA G11 (A 12) s (if gGr (cN x) s < w3.1 then w3.1 else gGr (cN x) s)) 65 b = w3.1 := (gi 65 b (by decide)).trans e65
  have x66 : gI (sA G11 (A 12) s (if gGr (cN x) s < w3.1 then w3.1 else gGr (cN x) s)) 66 b = w3.2.1 := (gi 66 b (by decide)).trans e66
  have x67 : gI (sA G11 (A 12) s (if gGr (cN x) s < w3.1 then w3.1 else gGr (cN x) s)) 67 b = w3.2.2 := (gi 67 b (by decide)).trans e67
  have x68 : gI (sA G11 (A 12) s (if gGr (cN x) s < w3.1 then w3.1 else gGr (cN x) s)) 68 b = gMk (cN x) := (gi 68 b (by decide)).trans e68
  generalize sA G11 (A 12) s (if gGr (cN x) s < w3.1 then w3.1 else gGr (cN x) s) = G4 at *
  have tb4 : gT G4 b = 2 := s4.tg' hw3 t3 (by omega)
  obtain ⟨hw4, hR4, hJ4, hT4, hB4, hSo4, hPg4', hPs4, hHi4, hSi4⟩ := id h4
  have nbm : ∀ js : List Nat, (∀ j ∈ js, j < 34) → b ∉ js.map A := fun js hj => hSo4.eo hs (List.mem_of_getElem? hb) hj
  have zb : b < gz G4 := hw4 b (by rw [tb4]; omega)
  have b0 : b ∈ b :: [9, 13, 14, 15, 24, 26, 27].map A := List.mem_cons_self
  have sub : ∀ js : List Nat, (∀ j ∈ js, j ∈ [9, 13, 14, 15, 24, 26, 27]) → ∀ z, z ∈ js.map A → z ∈ b :: [9, 13, 14, 15, 24, 26, 27].map A := fun js hj z hz => List.mem_cons_of_mem _ (subA hj z hz)
  have sall : Stq (b :: [9, 13, 14, 15, 24, 26, 27].map A) G o G4 o3 := (s1.mono (fun z hz => by rw [List.mem_singleton.mp hz]; exact b0)).tr ((s2.mono (sub _ (by decide))).tr ((s3'.mono (sub _ (by decide))).tr (s4.mono (sub _ (by decide)))))
  -- the last look
  have fin2 : ∀ (G6 : GH) (o6 : Nat → Nat) (q2 q5 : Nat), StO E G6 o6 A ea (tkEv x s i w3) p1 q2 p3 q4 q5 → Stq ([9, 13, 14, 15, 26, 27].map A) G4 o3 G6 o6 → Cs G4 (p2 + p5) G6 (q2 + q5) →
      Cl E 9 m_St_lookAtWatermark [.ref (A 0)] G6 (aft E 11 m_St_takeEvent 172 [none, none, some (.ref b), some (.int (admP (cJ x) w3 (gMk (cN x)) (gWi (cN x))).2.2)] [] Post) := by
    intro G6 o6 q2 q5 h6 s6 c6
    refine c_lookS hA ⟨ea, _, _, _, _, _, h6, rfl⟩ hfin (fun G7 o7 p7 y7 s7 c7 => ?_)
    have s47 : Stq ([9, 13, 14, 15, 26, 27].map A) G4 o3 G7 o7 := s6.tr (s7.mono (subA (by decide)))
    have smb := s47.sm zb (by rw [ob3]; exact nbm _ (by decide))
    have e1 : gI G7 68 b = gMk (cN x) := (smb.2.2.1 _).trans x68
    have e2 : gI G7 65 b = w3.1 := (smb.2.2.1 _).trans x65
    have kk := k G7 o7 p7 y7 (sall.tr (s47.mono (sub _ (by decide)))) (by
      have v1 := c3.1
      have v2 := c3.2
      have v3 := c6.1
      have v4 := c6.2
      have v5 := c7.1
      have v6 := c7.2
      exact ⟨by omega, by omega⟩)
    unfold tkAns at kk
    refine wp_St_takeEvent_175 b _ ⟨fun hc => ⟨smb.1.trans tb4, ?_⟩, fun hc => ?_⟩
    · rw [if_neg hc] at kk
      rw [e1, e2]
      refine ⟨fun z => ?_, fun z => ?_⟩
      · rw [if_pos z] at kk; exact kk
      · rw [if_neg z] at kk; exact kk
    · rw [if_pos hc] at kk; exact kk
  have fin : ∀ (G5 : GH) (o5 : Nat → Nat) (q2 q5 : Nat) (c : Int32), c = (admP (cJ x) w3 (gMk (cN x)) (gWi (cN x))).2.2 → StO E G5 o5 A ea (tkB x s i w3 (admP (cJ x) w3 (gMk (cN x)) (gWi (cN x))).1 (admP (cJ x) w3 (gMk (cN x)) (gWi (cN x))).2.1 (gDr (cN x))) p1 q2 p3 q4 q5 → Stq ([13, 14, 15, 26, 27].map A) G4 o3 G5 o5 → Cs G4 (p2 + p5) G5 (q2 + q5) →
      ((¬ c = 0 → gT G5 (A 0) = 10 ∧ Cl E 9 m_St_lookAtWatermark [.ref (A 0)] G5 (aft E 11 m_St_takeEvent 172 [none, none, some (.ref b), some (.int c)] [] Post)) ∧ (c = 0 → gT G5 (A 0) = 10 ∧ ∃ b3, gR G5 578 (A 0) = some b3 ∧ gT G5 b3 = 5 ∧ Cl E 9 m_St_lookAtWatermark [.ref (A 0)] (sI G5 261 b3 (gI G5 261 b3 + (1 : Int32))) (aft E 11 m_St_takeEvent 172 [none, none, some (.ref b), some (.int c)] [] Post))) := by
    intro G5 o5 q2 q5 c hc h5 s5 c5
    obtain ⟨hw5, hR5, hJ5, hT5, hB5, hSo5, hPg5, hPs5, hHi5, hSi5⟩ := id h5
    refine ⟨fun z => ⟨hR5.1, ?_⟩, fun z => ⟨hR5.1, A 9, hR5.2.2.2.2.2.2.1, hPg5.1.1, ?_⟩⟩
    · rw [hc] at z ⊢
      refine fin2 G5 o5 q2 q5 ?_ (s5.mono (subA (by decide))) c5
      unfold tkEv
      rw [if_neg z]
      exact h5
    · have e261 : gI G5 261 (A 9) = gDr (cN x) := hPg5.2.2.2.2.1
      rw [e261]
      rw [hc] at z ⊢
      have s6 : Stq ([9].map A) G5 o5 (sI G5 261 (A 9) (gDr (cN x) + 1)) o5 := (Stq.rf hw5).wI (fun _ => by rw [hPg5.1.2.1]; exact in1)
      have f6 := h5.fr hA s6 (by decide)
      obtain ⟨m1, m2, m3, m4, m5, m6, mr, ms, m7, m8, m9⟩ := id hPg5
      refine fin2 _ o5 q2 q5 ?_ ((s5.mono (subA (by decide))).tr (s6.mono (subA (by decide)))) c5
      unfold tkEv
      rw [if_pos z]
      exact ⟨s6.wf, (f6.1 (by decide)).1, f6.2.1 (by decide), (f6.1 (by decide)).2, f6.2.2.1 (by decide), f6.2.2.2.1 (by decide), ⟨m1.stp hw5 s6 (fun _ => rfl), m2, (gI_ne (by decide)).trans m3, (gI_ne (by decide)).trans m4, gI_eq, (gI_ne (by decide)).trans m6, mr, ms, m7.stp hw5 s6 (hA.nm (i := 13) (js := [9]) (by omega) (by decide)) (hA.nm (i := 14) (js := [9]) (by omega) (by decide)) (hA.nm (i := 15) (js := [9]) (by omega) (by decide)), ((m7.2.2.2.2.2.1.sub (List.sublist_append_left _ _)).map hw5 s6 (hA.nm (i := 13) (js := [9]) (by omega) (by decide))).trans m8, m9⟩, f6.2.2.2.2.2.1 (by decide), f6.2.2.2.2.2.2.1 (by decide), f6.2.2.2.2.2.2.2 (by decide)⟩
  obtain ⟨m1, m2, m3, m4, m5, m6, mr, ms, m7, m8, m9⟩ := id hPg4'
  obtain ⟨sr, d1, d2, d3⟩ := id hSi4
  have hmr : mr.length = (gWi (cN x)).length := by
    have q : mr.map (rW G4) = gWi (cN x) := m8
    rw [← q]; simp
  have hd : A 13 ≠ A 26 ∧ A 13 ≠ A 27 ∧ A 14 ≠ A 26 ∧ A 14 ≠ A 27 ∧ A 15 ≠ A 26 ∧ A 15 ≠ A 27 := ⟨hA.ne (by omega) (by omega) (by omega), hA.ne (by omega) (by omega) (by omega), hA.ne (by omega) (by omega) (by omega), hA.ne (by omega) (by omega) (by omega), hA.ne (by omega) (by omega) (by omega), hA.ne (by omega) (by omega) (by omega)⟩
  have hrec : recs G4 sr (kL (cK x)).length = kL (cK x) := d2
  have hfin' : (kL (cK x) ++ (admP (cJ x) w3 (gMk (cN x)) (gWi (cN x))).2.1).length ≤ 2900 := Nat.le_trans (Nat.le_add_right _ _) hfin
  -- behind the admission
  have done : ∀ G5 o5 rows' spare' q2 q5 n' sr', WsR E G5 o5 (A 13) (A 14) (A 15) rows' spare' q2 → SiR E G5 o5 (A 26) (A 27) sr' (nI (kC (cK x))) (nI (kP (cK x))) n' q5 → rows'.map (rW G5) = (admP (cJ x) w3 (gMk (cN x)) (gWi (cN x))).1 → recs G5 sr' n' = recs G4 sr (kL (cK x)).length ++ (admP (cJ x) w3 (gMk (cN x)) (gWi (cN x))).2.1 → Stq ([13, 14, 15, 26, 27].map A) G4 o3 G5 o5 → sr'.length ≤ max sr.length n' → rows'.length + spare'.length ≤ 2000 → StO E G5 o5 A ea (tkB x s i w3 (admP (cJ x) w3 (gMk (cN x)) (gWi (cN x))).1 (admP (cJ x) w3 (gMk (cN x)) (gWi (cN x))).2.1 (gDr (cN x))) p1 q2 p3 q4 q5 := by
    intro G5 o5 rows' spare' q2 q5 n' sr' y1 y2 y3 y4 s5 y5 y6
    have f5 := h4.fr hA s5 (by decide)
    unfold tkB
    rw [hpa]
    exact ⟨s5.wf, (f5.1 (by decide)).1, f5.2.1 (by decide), (f5.1 (by decide)).2, f5.2.2.1 (by decide), f5.2.2.2.1 (by decide), hPg4'.win hw4 s5 (hA.nm (i := 9) (by omega) (by decide)) y1 y3 y6, f5.2.2.2.2.2.1 (by decide), f5.2.2.2.2.2.2.1 (by decide), SiS.rows y2 y4 hrec y5 d3 hfin'⟩
  have hk : gI G3 192 (A 1) = cJ x 0 := hJ3 0 (by omega)
  rw [hk]
  refine ⟨fun hc => ⟨A 13, g1.2.2.2.2.2.1, A 26, hR3.2.2.2.2.2.2.2.2.2.1, g7.1, ?_⟩, fun hc => ⟨A 13, g1.2.2.2.2.2.1, A 26, hR3.2.2.2.2.2.2.2.2.2.1, g7.1, ?_⟩⟩
  · have ead : admP (cJ x) w3 (gMk (cN x)) (gWi (cN x)) = _ := if_neg hc
    have m8' : mr.map (rW G4) = gWi (cN x) := m8
    refine c_admitBySteps m7 d1 hw4 hd tb4 (by rw [ob3]; exact nbm [13, 14, 15, 26, 27] (by decide)) hR4.2.2.1 (by rw [hR4.2.2.2.1]; exact hA.nm (i := 1) (js := [13, 14, 15, 26, 27]) (by omega) (by decide)) x65 x66 x67 x68 (hJ4 1 (by omega)) (hJ4 2 (by omega)) (hJ4 3 (by omega)) (by rw [m8']; exact hUQ) (Nat.le_trans (show (kL (cK x)).length ≤ 2900 by omega) (by omega)) (by omega) (by omega) (fun G5 o5 rows' spare' q2 q5 n' sr' ss hss y1 y2 y3 y4 y5 y6 y7 y8 y9 y10 => ?_)
    rw [m8', hss] at y3 y4
    rw [hss]
    exact wp_St_takeEvent_153 (A 0) b _ (fin G5 o5 q2 q5 _ (by rw [ead]) (done G5 o5 rows' spare' q2 q5 n' sr' y1 y2 (by rw [ead]; exact y3) (by rw [ead]; exact y4) y5 y9 (by omega)) y5 y6)
  · have m8' : mr.map (rW G4) = gWi (cN x) := m8
    refine c_admitByGap m7 d1 hw4 hd tb4 (by rw [ob3]; exact nbm [13, 14, 15, 26, 27] (by decide)) hR4.2.2.1 x65 x66 x67 x68 (hJ4 1 (by omega)) (hJ4 3 (by omega)) (by rw [hmr]; exact Nat.le_trans hLl (by omega)) (by omega) (by omega) (fun c0 => ?_) (fun c0 G5 o5 rows' spare' q2 q5 n' sr' y1 y2 y3 y4 y5 y6 y7 y8 y9 y10 => ?_)
    · have ead : admP (cJ x) w3 (gMk (cN x)) (gWi (cN x)) = (gWi (cN x), [], 0) := by
        unfold admP
        rw [if_pos hc, if_pos c0]
      refine wp_St_takeEvent_131 (A 0) b 0 (fin G4 o3 p2 p5 0 (by rw [ead]) ?_ (Stq.rf hw4) Cs.rf)
      rw [ead]
      unfold tkB
      rw [hpa, List.append_nil]
      exact h4
    · have ead : admP (cJ x) w3 (gMk (cN x)) (gWi (cN x)) = (gapL (w3.2.1, w3.1, w3.1 + cJ x 1, 0 + 1, 0 + w3.2.2, 0) (gMk (cN x)) (gWi (cN x)), gapR (w3.2.1, w3.1, w3.1 + cJ x 1, 0 + 1, 0 + w3.2.2, 0) (gMk (cN x)) (gWi (cN x)), 1) := by
        unfold admP
        rw [if_pos hc, if_neg c0]
      rw [m8'] at y3 y4
      exact wp_St_takeEvent_131 (A 0) b 1 (fin G5 o5 q2 q5 1 (by rw [ead]) (done G5 o5 rows' spare' q2 q5 n' sr' y1 y2 (by rw [ead]; exact y3) (by rw [ead]; exact y4) y5 y9 (by omega)) y5 y6)
