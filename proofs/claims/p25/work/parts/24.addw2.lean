theorem map_ins {f : Nat → WT} {b : Nat} : ∀ (n : Nat) (L : List Nat), (L.insertIdx n b).map f = (L.map f).insertIdx n (f b)
  | 0, L => rfl
  | n + 1, [] => rfl
  | n + 1, x :: L => by
    show f x :: (L.insertIdx n b).map f = f x :: (L.map f).insertIdx n (f b)
    rw [map_ins n L]
theorem flat_one {f : Nat → List WT} {b : Nat} : ∀ {rows : List Nat}, b ∈ rows → rows.Nodup → (∀ x ∈ rows, x ≠ b → f x = []) → rows.flatMap f = f b
  | [], h, _, _ => absurd h List.not_mem_nil
  | r :: rows, h, hn, hx => by
    have hn' := List.nodup_cons.mp hn
    rw [List.flatMap_cons]
    by_cases c : r = b
    · subst c
      have : rows.flatMap f = [] := List.flatMap_eq_nil_iff.mpr (fun x h => hx x (List.mem_cons_of_mem _ h) (fun z => hn'.1 (z ▸ h)))
      rw [this, List.append_nil]
    · rw [hx r List.mem_cons_self c, List.nil_append]
      exact flat_one ((List.mem_cons.mp h).resolve_left (fun z => c z.symm)) hn'.2 (fun x h => hx x (List.mem_cons_of_mem _ h))
/-- where one window of the rows is another now -/
theorem addL_at {G G' : GH} {rows : List Nat} {b : Nat} {k s e v mk : Int32} (hb : b ∈ rows) (hn : rows.Nodup) (hu : UQ (rows.map (rW G))) (hw : isW k s (rW G b)) (h1 : rW G' b = tch v mk (rW G b)) (h2 : ∀ x ∈ rows, x ≠ b → rW G' x = rW G x) :
    rows.map (rW G') = addL k s e v mk (rows.map (rW G)) ∧ addR k s v mk (rows.map (rW G)) = tchR v mk (rW G b) := by
  have hne : ∀ x ∈ rows, x ≠ b → ¬ isW k s (rW G x) := fun x hx hxb z => hu.adr hn x b hx hb hxb ⟨z.1.trans hw.1.symm, z.2.trans hw.2.symm⟩
  refine ⟨?_, ?_⟩
  · unfold addL
    rw [if_pos ⟨_, List.mem_map_of_mem hb, hw⟩, List.map_map]
    refine List.map_congr_left (fun x hx => ?_)
    show rW G' x = if isW k s (rW G x) then tch v mk (rW G x) else rW G x
    by_cases c : x = b
    · rw [c, if_pos hw]; exact h1
    · rw [if_neg (hne x hx c)]; exact h2 x hx c
  · unfold addR
    rw [List.flatMap_map, flat_one hb hn (fun x hx c => if_neg (hne x hx c)), if_pos hw]
theorem c_addToWindow {E : EV} {G : GH} {Post : Res → GH → Prop} {o : Nat → Nat} {ws lr lp p ev si ls n q : Nat} {rows spare sr : List Nat} {cm pr kk v mk s e : Int32}
    (hW : WsR E G o ws lr lp rows spare p) (hS : SiR E G o si ls sr cm pr n q) (hw : Wf G) (hd : ws ≠ si ∧ ws ≠ ls ∧ lr ≠ si ∧ lr ≠ ls ∧ lp ≠ si ∧ lp ≠ ls) (hev : gT G ev = 2) (hoe : o ev ∉ [ws, lr, lp, si, ls]) (hk : gI G 66 ev = kk) (hv : gI G 67 ev = v) (hm : gI G 68 ev = mk) (hu : UQ (rows.map (rW G))) (hn : n ≤ 2990) (hl : sr.length ≤ 2990) (hr : rows.length ≤ 2990)
    (k : ∀ G' o' rows' spare' p' q' n' sr', WsR E G' o' ws lr lp rows' spare' p' → SiR E G' o' si ls sr' cm pr n' q' → rows'.map (rW G') = addL kk s e v mk (rows.map (rW G)) → recs G' sr' n' = recs G sr n ++ addR kk s v mk (rows.map (rW G)) → Stq [ws, lr, lp, si, ls] G o G' o' → Cs G (p + q) G' (p' + q') → (n ≤ n' ∧ n' ≤ n + 2) → (∀ m, m ≤ n → recs G' sr' m = recs G sr m) → sr'.length ≤ max sr.length n' → rows'.length + spare'.length ≤ max (rows.length + spare.length) (rows.length + 1) ∧ rows'.length ≤ rows.length + 1 → Post (.inl none) G') : Cl E 9 m_Ws_addToWindow [.ref ws, .ref ev, .int s, .int e, .ref si] G Post := by
  obtain ⟨a1, a2, a3, a4, a5, a6, cr, cp, a7, a8, a9⟩ := id hW
  have hdw : ws ∉ [si, ls] ∧ lr ∉ [si, ls] ∧ lp ∉ [si, ls] := by simp; exact ⟨⟨hd.1, hd.2.1⟩, ⟨hd.2.2.1, hd.2.2.2.1⟩, hd.2.2.2.2.1, hd.2.2.2.2.2⟩
  have hds : si ∉ [ws, lr, lp] ∧ ls ∉ [ws, lr, lp] := by simp; exact ⟨⟨fun z => hd.1 z.symm, fun z => hd.2.2.1 z.symm, fun z => hd.2.2.2.2.1 z.symm⟩, fun z => hd.2.1 z.symm, fun z => hd.2.2.2.1 z.symm, fun z => hd.2.2.2.2.2 z.symm⟩
  have hez := hw ev (by omega)
  have nd : rows.Nodup := (List.nodup_append.mp a6.1).1
  have hSub : ∀ x, x ∈ [si, ls] → x ∈ [ws, lr, lp, si, ls] := fun x hx => by simp at hx ⊢; rcases hx with h | h <;> simp [h]
  have hSub2 : ∀ x, x ∈ [ws] → x ∈ [ws, lr, lp, si, ls] := fun x hx => by simp at hx ⊢; simp [hx]
  refine j_enter (L := [some (.ref ws), some (.ref ev), some (.int s), some (.int e), some (.ref si), none, none]) me_Ws_addToWindow (cat_c rfl (cat_c rfl (cat_c rfl (cat_c rfl (cat_c rfl cat_n))))) (Nat.le_of_ble_eq_true rfl) rfl (wp_Ws_addToWindow_0 ws ev s e si ⟨hev, a1, ?_⟩)
  rw [hk]
  refine c_find hW (fun b hb e1 e2 => ?_) (fun hno => ?_)
  · obtain ⟨x1, x2, x3⟩ := a6.2 b (List.mem_append_left _ hb)
    refine wp_Ws_addToWindow_9 ws ev s e si (some b) ⟨fun r1 hr1 => ?_, fun z => by cases z⟩
    cases hr1
    refine ⟨x1, fun c => ⟨hev, fun _ => ?_, fun c' => absurd c c'⟩, fun c => ⟨hS.1, ?_⟩⟩
    · rw [hv]
      obtain ⟨h1, h2, h3, h4⟩ := addV_heap (v := v) hW hw x2
      have hx := addL_at (e := e) (v := v) (mk := mk) (G' := sI (sI G 451 b (gI G 451 b + 1)) 452 b (gI G 452 b + v)) hb nd hu ⟨e1, e2⟩ (by rw [h3]; exact (if_pos c).symm) (fun x _ hne => h4 x hne)
      have hT : tchR v mk (rW G b) = [] := if_pos c
      exact k _ o rows spare p q n sr h2 (hS.stp hw h1 (by rw [List.mem_singleton]; exact fun z => hd.1 z.symm) (by rw [List.mem_singleton]; exact fun z => hd.2.1 z.symm)) hx.1 (by rw [hx.2, hT, List.append_nil]; exact hS.rec hw h1 (by rw [List.mem_singleton]; exact fun z => hd.1 z.symm) n) (h1.mono hSub2) ⟨Nat.le_refl _, Nat.le_refl _⟩ ⟨Nat.le_refl _, by omega⟩ (fun m hm => hS.rec hw h1 (by rw [List.mem_singleton]; exact fun z => hd.1 z.symm) m) (Nat.le_max_left _ _) ⟨Nat.le_max_left _ _, by omega⟩
    · have st0 : Stq [ws] G o (sI G 453 b 0) o := (Stq.rf hw).wI (fun _ => by rw [x2]; exact in1)
      have n1 : si ∉ [ws] := by rw [List.mem_singleton]; exact fun z => hd.1 z.symm
      have n2 : ls ∉ [ws] := by rw [List.mem_singleton]; exact fun z => hd.2.1 z.symm
      refine c_write (hS.stp hw st0 n1 n2) hw x1 (by rw [x2]; exact hd.1) (by rw [x2]; exact hd.2.1) (Or.inl rfl) (by omega) (by omega) (fun G1 o1 sr1 q1 y1 y2 y3 y4 y5 y6 => ?_)
      have hW0 := hW.wI (f := 453) (v := 0) hw x2 ⟨hW.ne.1, hW.ne.2.1⟩ (fun _ => Or.inl rfl)
      have hW1 := hW0.stp st0.wf y3 hdw.1 hdw.2.1 hdw.2.2
      have s1 : Stq [ws, lr, lp, si, ls] G o G1 o1 := (st0.mono hSub2).tr (y3.mono hSub)
      have ev1 : Sm G G1 ev := s1.sm hez hoe
      have hx1 : ∀ x ∈ rows, rW G1 x = rW (sI G 453 b 0) x := fun x hx => rW_sm (y3.sm (st0.wf x (by rw [(hW0.2.2.2.2.2.1.2 x (List.mem_append_left _ hx)).1]; omega)) (by rw [(a6.2 x (List.mem_append_left _ hx)).2.1]; exact hdw.1))
      have hb1 : rW G1 b = setO (rW G b) 0 := (hx1 b hb).trans rW_sO
      have wb1 := hW1.2.2.2.2.2.1.2 b (List.mem_append_left _ hb)
      refine wp_Ws_addToWindow_59 ws ev si b (gI G 453 b) ⟨by rw [ev1.1]; exact hev, wb1.1, fun c' => absurd c' c, fun _ => ⟨hW1.1, ?_⟩⟩
      rw [ev1.2.2.1, ev1.2.2.1, hv, hm]
      obtain ⟨h1, h2, h3, h4⟩ := addV_heap (v := v) hW1 y3.wf wb1.2.1
      generalize hG2 : sI (sI G1 451 b (gI G1 451 b + 1)) 452 b (gI G1 452 b + v) = G2 at *
      have hS2 := y1.stp y3.wf h1 n1 n2
      have wb2 := h2.2.2.2.2.2.1.2 b (List.mem_append_left _ hb)
      have s2 : Stq [ws, lr, lp, si, ls] G o G2 o1 := s1.tr (h1.mono hSub2)
      have hz2 : gz G2 = gz G1 ∧ gs G2 = gs G1 := by subst hG2; exact ⟨rfl, rfl⟩
      have hoth : ∀ x ∈ rows, x ≠ b → rW G2 x = rW G x := fun x hx hxb => by rw [h4 x hxb, hx1 x hx, rW_sI_ne hxb]
      have hb2 : rW G2 b = addV (setO (rW G b) 0) v := by rw [h3, hb1]
      have c : ¬ wO (rW G b) = 0 := c
      have hr2 : ∀ m, m ≤ n → recs G2 sr1 m = recs G sr m := fun m hm => by
        rw [y1.rec y3.wf h1 n1 m, y5 m hm]; exact hS.rec hw st0 n1 m
      have hr2' : recs G2 sr1 (n + 1) = recs G sr n ++ [setO (rW G b) 0] := by
        rw [y1.rec y3.wf h1 n1 (n + 1), y2, hS.rec hw st0 n1 n, rW_sO]
      refine c_emitIfDue wb2.1 (by rw [wb2.2.1]; exact hd.1) (by rw [wb2.2.1]; exact hd.2.1) h1.wf hS2 (by omega) (by omega) (fun hgt => ?_) (fun hle G3 o3 sr3 q3 z1 z2 z3 z4 z5 z6 => ?_)
      · have hgt' : ¬ wE (rW G b) ≤ mk := by rw [hb2] at hgt; exact Int32.not_le.mpr hgt
        have hx := addL_at (e := e) (v := v) (mk := mk) (G' := G2) hb nd hu ⟨e1, e2⟩ (by rw [hb2]; unfold tch; rw [if_neg c, if_neg hgt']; rfl) hoth
        refine wp_Ws_addToWindow_85 (k G2 o1 rows spare p q1 (n + 1) sr1 h2 hS2 hx.1 ?_ s2 ?_ ⟨by omega, by omega⟩ hr2 y6 ⟨Nat.le_max_left _ _, by omega⟩)
        · rw [hx.2]
          unfold tchR
          rw [if_neg c, if_neg hgt', hr2']
        · exact ⟨by have := y4.1; omega, by have := y4.2; omega⟩
      · have hle' : wE (rW G b) ≤ mk := by rw [hb2] at hle; exact Int32.not_lt.mp hle
        have st3 : Stq [ws] G2 o1 (sI G2 453 b 1) o1 := (Stq.rf h1.wf).wI (fun _ => by rw [wb2.2.1]; exact in1)
        have hW3' := h2.wI (f := 453) (v := 1) h1.wf wb2.2.1 ⟨hW.ne.1, hW.ne.2.1⟩ (fun _ => Or.inr rfl)
        have hW3 := hW3'.stp st3.wf z3 hdw.1 hdw.2.1 hdw.2.2
        have hx3 : ∀ x ∈ rows, rW G3 x = rW (sI G2 453 b 1) x := fun x hx => rW_sm (z3.sm (st3.wf x (by rw [(hW3'.2.2.2.2.2.1.2 x (List.mem_append_left _ hx)).1]; omega)) (by rw [(h2.2.2.2.2.2.1.2 x (List.mem_append_left _ hx)).2.1]; exact hdw.1))
        have hb3 : rW G3 b = setO (addV (setO (rW G b) 0) v) 1 := by rw [hx3 b hb, rW_sO, hb2]
        have hx := addL_at (e := e) (v := v) (mk := mk) (G' := G3) hb nd hu ⟨e1, e2⟩ (by rw [hb3]; unfold tch; rw [if_neg c, if_pos hle']; rfl) (fun x hx hxb => by rw [hx3 x hx, rW_sI_ne hxb]; exact hoth x hx hxb)
        refine wp_Ws_addToWindow_85 (k G3 o3 rows spare p q3 (n + 1 + 1) sr3 hW3 z1 hx.1 ?_ ((s2.tr (st3.mono hSub2)).tr (z3.mono hSub)) ?_ ⟨by omega, by omega⟩ (fun m hm => (z5 m (by omega)).trans (hr2 m hm)) (by omega) ⟨Nat.le_max_left _ _, by omega⟩)
        · rw [hx.2]
          unfold tchR
          rw [if_neg c, if_pos hle', z2, hr2', hb2, List.append_assoc]
          rfl
        · exact ⟨by have := y4.1; have := z4.1; omega, by have := y4.2; have := z4.2; omega⟩
  · show J E 9 m_Ws_addToWindow 9 [some (.ref ws), some (.ref ev), some (.int s), some (.int e), some (.ref si), none, none] [va_rf none] G Post
    refine wp_Ws_addToWindow_9 ws ev s e si none ⟨fun r1 hr1 => (by cases hr1), fun _ => ⟨a1, ?_⟩⟩
    refine c_unusedRow hW hw (fun G1 o1 b sp1 p1 y1 y2 y3 y4 y5 y6 y7 y8 => ?_)
    have hSlp : ∀ x, x ∈ [lp] → x ∈ [ws, lr, lp, si, ls] := fun x hx => by simp at hx ⊢; simp [hx]
    have s1 : Stq [ws, lr, lp, si, ls] G o G1 o1 := y6.mono hSlp
    have ev1 : Sm G G1 ev := s1.sm hez hoe
    refine wp_Ws_addToWindow_20 ws ev s e si b ⟨by rw [ev1.1]; exact hev, y3, fun G3 h3 => ?_⟩
    rw [ev1.2.2.1, hk] at h3
    have hb' : b < gz G1 → o1 b ∈ [ws] := fun _ => by rw [y4]; exact in1
    have s3 : Stq [ws] G1 o1 (sI G3 453 b 0) o1 := by rw [h3]; exact ((((((Stq.rf s1.wf).wI hb').wI hb').wI hb').wI hb').wI hb').wI hb'
    have f3 : ∀ x, x ≠ b → rW (sI G3 453 b 0) x = rW G1 x := fun x hx => by rw [rW_sI_ne hx, h3, rW_sI_ne hx, rW_sI_ne hx, rW_sI_ne hx, rW_sI_ne hx, rW_sI_ne hx]
    have fb3 : rW (sI G3 453 b 0) b = (kk, s, e, 0, 0, 0) := by
      have r3 : ∀ f, gI (sI G3 453 b 0) f b = if f = 453 then 0 else if f = 452 then 0 else if f = 451 then 0 else if f = 450 then e else if f = 449 then s else if f = 448 then kk else gI G1 f b := fun f => by
        rw [h3]
        simp only [gI_sI, and_true]
      exact rW_mk (r3 448) (r3 449) (r3 450) (r3 451) (r3 452) (r3 453)
    have hW3 : WsR E (sI G3 453 b 0) o1 ws lr lp rows sp1 p1 := by
      rw [h3]
      have ne := hW.ne
      exact ((((((y1.wI s1.wf y4 ⟨ne.1, ne.2.1⟩ (fun z => absurd z (by omega))).wI s1.wf y4 ⟨ne.1, ne.2.1⟩ (fun z => absurd z (by omega))).wI s1.wf y4 ⟨ne.1, ne.2.1⟩ (fun z => absurd z (by omega))).wI s1.wf y4 ⟨ne.1, ne.2.1⟩ (fun z => absurd z (by omega))).wI s1.wf y4 ⟨ne.1, ne.2.1⟩ (fun z => absurd z (by omega))).wI s1.wf y4 ⟨ne.1, ne.2.1⟩ (fun _ => Or.inl rfl))
    have hbt : gT (sI G3 453 b 0) b = 8 := by rw [h3]; exact y3
    have hz3 : gz (sI G3 453 b 0) = gz G1 ∧ gs (sI G3 453 b 0) = gs G1 := by rw [h3]; exact ⟨rfl, rfl⟩
    refine ⟨y1.1, ?_⟩
    have hfb : gI (sI G3 453 b 0) 453 b = 0 := gI_sI_eq
    generalize sI G3 453 b 0 = G4 at *
    refine c_insert hW3 s3.wf y2 hbt y4 (Or.inl hfb) (by omega) (fun G5 o5 n5 p5 z1 z2 z3 z4 z5 z6 => ?_)
    have hlrb : Sm G4 G5 b := z5.sm (s3.wf b (by omega)) (by rw [y4, List.mem_singleton]; exact fun z => hW.ne.1 z.symm)
    have wb5 : gT G5 b = 8 := by rw [hlrb.1]; exact hbt
    have s5 : Stq [ws, lr, lp, si, ls] G o G5 o5 := (s1.tr (s3.mono hSub2)).tr (z5.mono (fun x hx => by simp at hx ⊢; simp [hx]))
    have ev5 : Sm G G5 ev := s5.sm hez hoe
    refine wp_Ws_addToWindow_39 ws ev si b ⟨wb5, fun c => ⟨by rw [ev5.1]; exact hev, fun _ => ?_, fun c' => absurd c c'⟩, fun c => absurd (by rw [hlrb.2.2.1]; exact hfb) c⟩
    rw [ev5.2.2.1, hv]
    have ob5 : o5 b = ws := (z5.ow (s3.wf b (by omega))).trans y4
    obtain ⟨h1, h2, h3', h4⟩ := addV_heap (v := v) z4 z5.wf ob5
    have n1 : si ∉ [ws] := by rw [List.mem_singleton]; exact fun z => hd.1 z.symm
    have n2 : ls ∉ [ws] := by rw [List.mem_singleton]; exact fun z => hd.2.1 z.symm
    have sA : Stq [lp] G o G1 o1 := y6
    have sB : Stq [ws, lr, lp] G o G5 o5 := ((y6.mono (by simp)).tr (s3.mono (by simp))).tr (z5.mono (by simp))
    have sC : Stq [ws, lr, lp] G o _ o5 := sB.tr (h1.mono (by simp))
    have hS5 := hS.stp hw sC hds.1 hds.2
    have ndr : b ∉ rows := fun z => y2 (List.mem_append_left _ z)
    have hrow : ∀ x ∈ rows, rW G5 x = rW G x ∧ rW G4 x = rW G x := fun x hx => by
      have hxb : x ≠ b := fun z => ndr (z ▸ hx)
      obtain ⟨t1, t2, t3⟩ := a6.2 x (List.mem_append_left _ hx)
      have q1 : rW G1 x = rW G x := rW_sm (y6.sm (hw x (by omega)) (by rw [t2, List.mem_singleton]; exact fun z => hW.ne.2.1 z.symm))
      have q4 : rW G4 x = rW G1 x := f3 x hxb
      have t4 := hW3.2.2.2.2.2.1.2 x (List.mem_append_left _ hx)
      have q5 : rW G5 x = rW G4 x := rW_sm (z5.sm (s3.wf x (by omega)) (by rw [t4.2.1, List.mem_singleton]; exact fun z => hW.ne.1 z.symm))
      exact ⟨by rw [q5, q4, q1], by rw [q4, q1]⟩
    have hb5 : rW G5 b = (kk, s, e, 0, 0, 0) := by rw [rW_sm hlrb]; exact fb3
    have hno' : ¬ ∃ w ∈ rows.map (rW G), isW kk s w := fun ⟨w, hw1, hw2⟩ => by
      obtain ⟨x, hx, hxe⟩ := List.mem_map.mp hw1
      exact hno x hx (by rw [hxe]; exact hw2)
    have hmapG : ∀ G6 : GH, (∀ x, x ≠ b → rW G6 x = rW G5 x) → rW G6 b = addV (kk, s, e, 0, 0, 0) v → (rows.insertIdx n5 b).map (rW G6) = addL kk s e v mk (rows.map (rW G)) := by
      intro G6 q1 q2
      have e0 : (rows.insertIdx n5 b).map (rW G6) = (rows.map (rW G)).insertIdx n5 (addV (kk, s, e, 0, 0, 0) v) := by
        rw [map_ins, q2]
        congr 1
        exact List.map_congr_left (fun x hx => by rw [q1 x (fun z => ndr (z ▸ hx)), (hrow x hx).1])
      rw [e0]
      unfold addL
      rw [if_neg hno']
      refine insS_at n5 _ (by rw [List.length_map]; exact z1) (fun i x hi hx => ?_) (fun x hx => ?_)
      · rw [List.getElem?_map] at hx
        obtain ⟨a, ha, hae⟩ := Option.map_eq_some_iff.mp hx
        have := z2 i a hi ha
        rw [(hrow a (List.mem_of_getElem? ha)).2, fb3, hae] at this
        exact this
      · rw [List.getElem?_map] at hx
        obtain ⟨a, ha, hae⟩ := Option.map_eq_some_iff.mp hx
        have := z3 a ha
        rw [(hrow a (List.mem_of_getElem? ha)).2, fb3, hae] at this
        exact this
    have hRn : addR kk s v mk (rows.map (rW G)) = [] := List.flatMap_eq_nil_iff.mpr (fun w hw1 => if_neg (fun hw2 => hno' ⟨w, hw1, hw2⟩))
    refine k _ o5 (rows.insertIdx n5 b) sp1 p5 q n sr h2 hS5 (hmapG _ h4 (by rw [h3', hb5])) ?_ (s5.tr (h1.mono hSub2)) ?_ ⟨Nat.le_refl _, by omega⟩ (fun m _ => hS.rec hw sC hds.1 m) (Nat.le_max_left _ _) ?_
    · rw [hRn, List.append_nil]; exact hS.rec hw sC hds.1 n
    · have u1 := y7.1
      have u2 := y7.2
      have u3 := z6.1
      have u4 := z6.2
      exact ⟨by show gz G5 + _ ≤ _; omega, by show gs G5 + _ ≤ _; omega⟩
    · rw [List.length_insertIdx_of_le_length z1]; exact ⟨by omega, by omega⟩
