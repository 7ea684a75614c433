theorem Wf.wI {G : GH} {f a : Nat} {v : Int32} (h : Wf G) : Wf (sI G f a v) := h
/-- admitByGap -/
def gapC (w : WT) (mk : Int32) (L : List WT) : Prop := ¬ absF 0 w L = 0 ∧ wE (absW w L) ≤ mk
abbrev gapW (w : WT) (mk : Int32) (L : List WT) : WT := if absF 0 w L = 0 then absW w L else if wE (absW w L) ≤ mk then setO (absW w L) 1 else absW w L
def gapL (w : WT) (mk : Int32) (L : List WT) : List WT := insS (gapW w mk L) (absL w L)
def gapR (w : WT) (mk : Int32) (L : List WT) : List WT := absR w L ++ (if absF 0 w L = 0 then [] else if wE (absW w L) ≤ mk then [setO (absW w L) 1] else [])
theorem absW_O : ∀ (L : List WT) (w : WT), wO (absW w L) = wO w
  | [], _ => rfl
  | x :: L, w => by
    show wO (if meets w x then absW (absorb w x) L else absW w L) = _
    by_cases c : meets w x
    · rw [if_pos c, absW_O L]; rfl
    · rw [if_neg c, absW_O L]
theorem c_admitByGap {E : EV} {G : GH} {Post : Res → GH → Prop} {o : Nat → Nat} {ws lr lp p ev jb si ls n q : Nat} {rows spare sr : List Nat} {cm pr kk t v mk sz gr : Int32}
    (hW : WsR E G o ws lr lp rows spare p) (hS : SiR E G o si ls sr cm pr n q) (hw : Wf G) (hd : ws ≠ si ∧ ws ≠ ls ∧ lr ≠ si ∧ lr ≠ ls ∧ lp ≠ si ∧ lp ≠ ls) (hev : gT G ev = 2) (hoe : o ev ∉ [ws, lr, lp, si, ls]) (hjb : gT G jb = 4) (ht : gI G 65 ev = t) (hk : gI G 66 ev = kk) (hv : gI G 67 ev = v) (hm : gI G 68 ev = mk) (hsz : gI G 193 jb = sz) (hgr : gI G 195 jb = gr) (hn : n + rows.length ≤ 2990) (hl : sr.length ≤ 2990) (hr : rows.length + spare.length ≤ 2990)
    (k0 : t + sz + gr ≤ mk → Post (.inl (some (.int 0))) G)
    (k1 : ¬ t + sz + gr ≤ mk → ∀ G' o' rows' spare' p' q' n' sr', WsR E G' o' ws lr lp rows' spare' p' → SiR E G' o' si ls sr' cm pr n' q' → rows'.map (rW G') = gapL (kk, t, t + sz, 0 + 1, 0 + v, 0) mk (rows.map (rW G)) → recs G' sr' n' = recs G sr n ++ gapR (kk, t, t + sz, 0 + 1, 0 + v, 0) mk (rows.map (rW G)) → Stq [ws, lr, lp, si, ls] G o G' o' → Cs G (p + q) G' (p' + q') → n ≤ n' → (∀ m, m ≤ n → recs G' sr' m = recs G sr m) → sr'.length ≤ max sr.length n' → rows'.length + spare'.length ≤ max (rows.length + spare.length) (rows.length + 1) → Post (.inl (some (.int 1))) G') : Cl E 9 m_Ws_admitByGap [.ref ws, .ref ev, .ref jb, .ref si] G Post := by
  obtain ⟨a1, a2, a3, a4, a5, a6, cr, cp, a7, a8, a9⟩ := id hW
  have hdw : ws ∉ [si, ls] ∧ lr ∉ [si, ls] ∧ lp ∉ [si, ls] := by simp; exact ⟨⟨hd.1, hd.2.1⟩, ⟨hd.2.2.1, hd.2.2.2.1⟩, hd.2.2.2.2.1, hd.2.2.2.2.2⟩
  have hez := hw ev (by omega)
  have hSub : ∀ x, x ∈ [si, ls] → x ∈ [ws, lr, lp, si, ls] := fun x hx => by simp at hx ⊢; rcases hx with h | h <;> simp [h]
  have hSub2 : ∀ x, x ∈ [ws] → x ∈ [ws, lr, lp, si, ls] := fun x hx => by simp at hx ⊢; simp [hx]
  have n1 : si ∉ [ws] := by rw [List.mem_singleton]; exact fun z => hd.1 z.symm
  have n2 : ls ∉ [ws] := by rw [List.mem_singleton]; exact fun z => hd.2.1 z.symm
  refine j_enter (L := [some (.ref ws), some (.ref ev), some (.ref jb), some (.ref si), none, none, none]) me_Ws_admitByGap (cat_c rfl (cat_c rfl (cat_c rfl (cat_c rfl cat_n)))) (Nat.le_of_ble_eq_true rfl) rfl (wp_Ws_admitByGap_0 ws ev jb si ⟨hev, hjb, ?_⟩)
  rw [ht, hsz, hgr, hm]
  refine ⟨k0, fun hin => ⟨a1, ?_⟩⟩
  replace k1 := k1 hin
  refine c_unusedRow hW hw (fun G1 o1 b sp1 p1 y1 y2 y3 y4 y5 y6 y7 y8 => ?_)
  have hSlp : ∀ x, x ∈ [lp] → x ∈ [ws, lr, lp, si, ls] := fun x hx => by simp at hx ⊢; simp [hx]
  have s1 : Stq [ws, lr, lp, si, ls] G o G1 o1 := y6.mono hSlp
  have ev1 : Sm G G1 ev := s1.sm hez hoe
  refine wp_Ws_admitByGap_30 ws ev si (t + sz) b ⟨by rw [ev1.1]; exact hev, y3, fun G3 h3 G5 h5 => ?_⟩
  rw [ev1.2.2.1, ev1.2.2.1, hk, ht] at h3
  rw [ev1.2.2.1, hv] at h5
  have hb' : b < gz G1 → o1 b ∈ [ws] := fun _ => by rw [y4]; exact in1
  have s5 : Stq [ws] G1 o1 G5 o1 := by rw [h5, h3]; exact ((((((((Stq.rf s1.wf).wI hb').wI hb').wI hb').wI hb').wI hb').wI hb').wI hb').wI hb'
  have f5 : ∀ x, x ≠ b → rW G5 x = rW G1 x := fun x hx => by rw [h5, h3]; rw [rW_sI_ne hx, rW_sI_ne hx, rW_sI_ne hx, rW_sI_ne hx, rW_sI_ne hx, rW_sI_ne hx, rW_sI_ne hx, rW_sI_ne hx]
  have fb5 : rW G5 b = (kk, t, t + sz, 0 + 1, 0 + v, 0) := by
    have r5 : ∀ f, gI G5 f b = if f = 452 then 0 + v else if f = 451 then 0 + 1 else if f = 453 then 0 else if f = 452 then 0 else if f = 451 then 0 else if f = 450 then t + sz else if f = 449 then t else if f = 448 then kk else gI G1 f b := fun f => by
      rw [h5, h3]
      simp only [gI_sI, and_true]
    exact rW_mk (r5 448) (r5 449) (r5 450) (r5 451) (r5 452) (r5 453)
  have hW5 : WsR E G5 o1 ws lr lp rows sp1 p1 := by
    rw [h5, h3]
    have ne : lr ≠ ws ∧ lp ≠ ws := ⟨hW.ne.1, hW.ne.2.1⟩
    have w := fun (G : GH) (hw : Wf G) (h : WsR E G o1 ws lr lp rows sp1 p1) (f : Nat) (v : Int32) (hf : f ≠ 453) => h.wI (f := f) (v := v) hw y4 ne (fun z => absurd z hf)
    have v1 := Wf.wI (f := 448) (a := b) (v := kk) s1.wf
    have v2 := Wf.wI (f := 449) (a := b) (v := t) v1
    have v3 := Wf.wI (f := 450) (a := b) (v := t + sz) v2
    have v4 := Wf.wI (f := 451) (a := b) (v := 0) v3
    have v5 := Wf.wI (f := 452) (a := b) (v := 0) v4
    have v6 := Wf.wI (f := 453) (a := b) (v := 0) v5
    have v7 := Wf.wI (f := 451) (a := b) (v := 0 + 1) v6
    have c1 := w _ s1.wf y1 448 kk (by omega)
    have c2 := w _ v1 c1 449 t (by omega)
    have c3 := w _ v2 c2 450 (t + sz) (by omega)
    have c4 := w _ v3 c3 451 0 (by omega)
    have c5 := w _ v4 c4 452 0 (by omega)
    have c6 := c5.wI (f := 453) (v := 0) v5 y4 ne (fun _ => Or.inl rfl)
    have c7 := w _ v6 c6 451 (0 + 1) (by omega)
    exact w _ v7 c7 452 (0 + v) (by omega)
  have hz5 : gz G5 = gz G1 ∧ gs G5 = gs G1 := by rw [h5, h3]; exact ⟨rfl, rfl⟩
  have hbt : gT G5 b = 8 := by rw [h5, h3]; exact y3
  have sB5 : Stq [ws, lr, lp] G o G5 o1 := (y6.mono (by simp)).tr (s5.mono (by simp))
  have s5' : Stq [ws, lr, lp, si, ls] G o G5 o1 := s1.tr (s5.mono hSub2)
  have hds : si ∉ [ws, lr, lp] ∧ ls ∉ [ws, lr, lp] := by simp; exact ⟨⟨fun z => hd.1 z.symm, fun z => hd.2.2.1 z.symm, fun z => hd.2.2.2.2.1 z.symm⟩, fun z => hd.2.1 z.symm, fun z => hd.2.2.2.1 z.symm, fun z => hd.2.2.2.2.2 z.symm⟩
  have hS5 := hS.stp hw sB5 hds.1 hds.2
  refine ⟨y1.1, ?_⟩
  have e65 : ∀ m, recs G5 sr m = recs G sr m := fun m => hS.rec hw sB5 hds.1 m
  clear h5 h3 G3
  have ndr : b ∉ rows := fun z => y2 (List.mem_append_left _ z)
  have hrow : rows.map (rW G5) = rows.map (rW G) := List.map_congr_left (fun x hx => by
    have hxb : x ≠ b := fun z => ndr (z ▸ hx)
    obtain ⟨t1, t2, t3⟩ := a6.2 x (List.mem_append_left _ hx)
    rw [f5 x hxb]
    exact rW_sm (y6.sm (hw x (by omega)) (by rw [t2, List.mem_singleton]; exact fun z => hW.ne.2.1 z.symm)))
  have o5b : o1 b = ws := y4
  obtain ⟨x5a, x5b, x5c, x5d, x5e, x5f, cr5, cp5, x5g, x5h, x5i⟩ := id hW5
  refine j_enter (L := [some (.ref ws), some (.ref b), some (.ref si), none, none, none, none]) me_Ws_absorbMet (cat_c rfl (cat_c rfl (cat_c rfl cat_n))) (Nat.le_of_ble_eq_true rfl) rfl (wp_Ws_absorbMet_0 ws b si ⟨x5a, lr, x5c, x5g.tg, ?_⟩)
  rw [x5g.sz]
  refine c_absorbMet hd rows [] G5 o1 p1 q n sp1 sr 0 hW5 hS5 s5.wf hbt o5b y2 (Or.inl rfl) (by omega) (by omega) (by simp; omega) (fun G6 o6 p6 q6 n6 rows6 sp6 sr6 z1 z2 z3 z4 z5 z6 z7 z8 z9 z10 z11 z12 z13 z14 z15 z16 => ?_)
  rw [hrow, fb5] at z4 z5 z10 z16 ⊢
  rw [List.nil_append] at z1 z8 z9
  rw [List.nil_append] at z8
  rw [List.nil_append] at z9
  rw [e65] at z10
  generalize hw0 : ((kk, t, t + sz, 0 + 1, 0 + v, 0) : WT) = w0 at *
  generalize hL : rows.map (rW G) = L at *
  have s6 : Stq [ws, lr, lp, si, ls] G o G6 o6 := s5'.tr z11
  have nb6 : b ∉ rows6 ++ sp6 := fun z => y2 (z8 b z)
  have hfl : gI G6 453 b = 0 := by
    have e1 : wO (rW G6 b) = 0 := by rw [z5, absW_O, ← hw0]
    exact e1
  refine wp_Ws_admitByGap_63 ws ev si b (absF 0 w0 L) ⟨z1.1, ?_⟩
  have len6 : rows6.length ≤ rows.length := by
    have e1 := congrArg List.length z4
    rw [List.length_map] at e1
    have aux : ∀ (L : List WT) (w : WT), (absL w L).length ≤ L.length := by
      intro L
      induction L with
      | nil => exact fun _ => Nat.le_refl _
      | cons x L ih =>
        intro w
        show (if meets w x then absL (absorb w x) L else x :: absL w L).length ≤ _
        by_cases c : meets w x
        · rw [if_pos c]; exact Nat.le_succ_of_le (ih _)
        · rw [if_neg c]; exact Nat.succ_le_succ (ih _)
    have e2 := aux L w0
    have e3 : L.length = rows.length := by rw [← hL, List.length_map]
    omega
  refine c_insert z1 z11.wf nb6 z6 z7 (Or.inl hfl) (by omega) (fun G7 o7 n7 p7 u1 u2 u3 u4 u5 u6 => ?_)
  have s7 : Stq [ws, lr, lp, si, ls] G o G7 o7 := s6.tr (u5.mono (fun x hx => by simp at hx ⊢; simp [hx]))
  have hzb : b < gz G6 := z11.wf b (by omega)
  have b7 : Sm G6 G7 b := u5.sm hzb (by rw [z7, List.mem_singleton]; exact fun z => hW.ne.1 z.symm)
  have ob7 : o7 b = ws := (u5.ow hzb).trans z7
  have wlr : ws ∉ [lr] ∧ si ∉ [lr] ∧ ls ∉ [lr] := by simp; exact ⟨fun z => hW.ne.1 z.symm, fun z => hd.2.2.1 z.symm, fun z => hd.2.2.2.1 z.symm⟩
  have hS7 := z2.stp z11.wf u5 wlr.2.1 wlr.2.2
  have ndr6 : b ∉ rows6 := fun z => nb6 (List.mem_append_left _ z)
  have row7 : ∀ x ∈ rows6, rW G7 x = rW G6 x := fun x hx => by
    have tx := z1.2.2.2.2.2.1.2 x (List.mem_append_left _ hx)
    exact rW_sm (u5.sm (z11.wf x (by omega)) (by rw [tx.2.1]; exact wlr.1))
  have hbw : rW G7 b = absW w0 L := by rw [rW_sm b7]; exact z5
  have fin : ∀ (G8 : GH) (w : WT), (∀ x, x ≠ b → x ∈ rows6 → rW G8 x = rW G7 x) → rW G8 b = w → wE w = wE (absW w0 L) → wK w = wK (absW w0 L) → wS w = wS (absW w0 L) → (rows6.insertIdx n7 b).map (rW G8) = insS w (absL w0 L) := by
    intro G8 w q1 q2 q3 q4 q5
    have e0 : (rows6.insertIdx n7 b).map (rW G8) = (absL w0 L).insertIdx n7 w := by
      rw [map_ins, q2, ← z4]
      congr 1
      exact List.map_congr_left (fun x hx => by rw [q1 x (fun z => ndr6 (z ▸ hx)) hx, row7 x hx])
    rw [e0]
    have ha : ∀ x, ahd x w ↔ ahd x (rW G6 b) := fun x => by
      rw [z5]
      unfold ahd
      rw [q3, q4, q5]
    refine insS_at n7 _ (by rw [← z4, List.length_map]; exact u1) (fun i x hi hx => ?_) (fun x hx => ?_)
    · rw [← z4, List.getElem?_map] at hx
      obtain ⟨a, ha', hae⟩ := Option.map_eq_some_iff.mp hx
      rw [ha, ← hae]
      exact u2 i a hi ha'
    · rw [← z4, List.getElem?_map] at hx
      obtain ⟨a, ha', hae⟩ := Option.map_eq_some_iff.mp hx
      rw [ha, ← hae]
      exact u3 a ha'
  have cc7 : Cs G (p + q) G7 (p7 + q6) := by
    have v1 := y7.1
    have v2 := y7.2
    have v3 := z12.1
    have v4 := z12.2
    have v5 := u6.1
    have v6 := u6.2
    exact ⟨by omega, by omega⟩
  have hlen7 : (rows6.insertIdx n7 b).length + sp6.length ≤ max (rows.length + spare.length) (rows.length + 1) := by
    rw [List.length_insertIdx_of_le_length u1]
    omega
  have r7 : ∀ m, recs G7 sr6 m = recs G6 sr6 m := fun m => z2.rec z11.wf u5 wlr.2.1 m
  refine wp_Ws_admitByGap_71 ws ev si b (absF 0 w0 L) ⟨fun hf0 => ?_, fun hf0 => ?_⟩
  · refine k1 G7 o7 _ sp6 p7 q6 n6 sr6 u4 hS7 ?_ ?_ s7 cc7 z13 (fun m hm' => by rw [r7, z14 m hm', e65]) z15 hlen7
    · unfold gapL
      have e1 : gapW w0 mk L = absW w0 L := if_pos hf0
      rw [e1]
      exact fin G7 _ (fun _ _ _ => rfl) hbw rfl rfl rfl
    · unfold gapR
      rw [if_pos hf0, List.append_nil, r7]
      exact z10
  · have ev7 : Sm G G7 ev := s7.sm hez hoe
    refine ⟨by rw [ev7.1]; exact hev, u4.1, ?_⟩
    rw [ev7.2.2.1, hm]
    have hb7 : gT G7 b = 8 := by rw [b7.1]; exact z6
    have nn : n6 ≤ n + rows.length := by
      have e1 := congrArg List.length z10
      rw [List.length_append, recs_len z2.2.2.2.2.2.2.1, recs_len hS.2.2.2.2.2.2.1] at e1
      have aux : ∀ (L : List WT) (w : WT), (absR w L).length ≤ L.length := by
        intro L
        induction L with
        | nil => exact fun _ => Nat.le_refl _
        | cons x L ih =>
          intro w
          show (if meets w x then (if wO x = 0 then [] else [setO x 0]) ++ absR (absorb w x) L else absR w L).length ≤ _
          have := ih (absorb w x)
          have := ih w
          by_cases c : meets w x
          · rw [if_pos c]
            by_cases c2 : wO x = 0
            · rw [if_pos c2]; simp; omega
            · rw [if_neg c2]; simp; omega
          · rw [if_neg c]; simp; omega
      have e2 := aux L w0
      have e3 : L.length = rows.length := by rw [← hL, List.length_map]
      omega
    refine c_emitIfDue hb7 (by rw [ob7]; exact hd.1) (by rw [ob7]; exact hd.2.1) s7.wf hS7 (by omega) (by omega) (fun hgt => ?_) (fun hle G8 o8 sr8 q8 x1 x2 x3 x4 x5 x6 => ?_)
    · have hgt' : ¬ wE (absW w0 L) ≤ mk := by rw [hbw] at hgt; exact Int32.not_le.mpr hgt
      refine wp_Ws_admitByGap_87 (k1 G7 o7 _ sp6 p7 q6 n6 sr6 u4 hS7 ?_ ?_ s7 cc7 z13 (fun m hm' => by rw [r7, z14 m hm', e65]) z15 hlen7)
      · unfold gapL
        have e1 : gapW w0 mk L = absW w0 L := by unfold gapW; rw [if_neg hf0, if_neg hgt']
        rw [e1]
        exact fin G7 _ (fun _ _ _ => rfl) hbw rfl rfl rfl
      · unfold gapR
        rw [if_neg hf0, if_neg hgt', List.append_nil, r7]
        exact z10
    · have hle' : wE (absW w0 L) ≤ mk := by rw [hbw] at hle; exact Int32.not_lt.mp hle
      have st8 : Stq [ws] G7 o7 (sI G7 453 b 1) o7 := (Stq.rf s7.wf).wI (fun _ => by rw [ob7]; exact in1)
      have hW8' := u4.wI (f := 453) (v := 1) s7.wf ob7 ⟨hW.ne.1, hW.ne.2.1⟩ (fun _ => Or.inr rfl)
      have hW8 := hW8'.stp st8.wf x3 hdw.1 hdw.2.1 hdw.2.2
      have hx8 : ∀ x ∈ rows6.insertIdx n7 b, rW G8 x = rW (sI G7 453 b 1) x := fun x hx => by
        have tx := hW8'.2.2.2.2.2.1.2 x (List.mem_append_left _ hx)
        exact rW_sm (x3.sm (st8.wf x (by omega)) (by rw [tx.2.1]; exact hdw.1))
      have hbm : b ∈ rows6.insertIdx n7 b := (List.perm_insertIdx b rows6 u1).mem_iff.mpr List.mem_cons_self
      refine wp_Ws_admitByGap_87 (k1 G8 o8 _ sp6 p7 q8 (n6 + 1) sr8 hW8 x1 ?_ ?_ ((s7.tr (st8.mono hSub2)).tr (x3.mono hSub)) ?_ (by omega) (fun m hm' => by rw [x5 m (by omega), r7, z14 m hm', e65]) (by omega) hlen7)
      · unfold gapL
        have e1 : gapW w0 mk L = setO (absW w0 L) 1 := by unfold gapW; rw [if_neg hf0, if_pos hle']
        rw [e1]
        refine fin G8 _ (fun x hxb hx => ?_) (by rw [hx8 b hbm, rW_sO, hbw]) rfl rfl rfl
        rw [hx8 x ((List.perm_insertIdx b rows6 u1).mem_iff.mpr (List.mem_cons_of_mem _ hx)), rW_sI_ne hxb]
      · unfold gapR
        rw [if_neg hf0, if_pos hle', x2, hbw, r7, z10, List.append_assoc]
      · have v1 := cc7.1
        have v2 := cc7.2
        have v3 := x4.1
        have v4 := x4.2
        exact ⟨by omega, by omega⟩
