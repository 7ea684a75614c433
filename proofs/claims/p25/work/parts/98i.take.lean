section GAPC
theorem part_cnt {w : WT} : ∀ W : List WT, (mtF w W).length + (apF w W).length = W.length ∧ nOut (mtF w W) + nOut (apF w W) = nOut W
  | [] => ⟨rfl, rfl⟩
  | x :: W => by
    obtain ⟨h1, h2⟩ := part_cnt (w := w) W
    have n1 : ∀ (M : List WT), nOut (x :: M) = (if wO x = 0 then 1 else 0) + nOut M := fun M => by
      unfold nOut
      by_cases c : wO x = 0
      · rw [List.filter_cons_of_pos (by simpa using c), if_pos c, List.length_cons]; omega
      · rw [List.filter_cons_of_neg (by simpa using c), if_neg c]; omega
    by_cases c : meets w x
    · have e3 : mtF w (x :: W) = x :: mtF w W := List.filter_cons_of_pos (decide_eq_true c)
      have e4 : apF w (x :: W) = apF w W := List.filter_cons_of_neg (by rw [decide_eq_true_eq]; exact fun z => z c)
      rw [e3, e4, n1, n1, List.length_cons, List.length_cons]
      omega
    · have e3 : mtF w (x :: W) = mtF w W := List.filter_cons_of_neg (by rw [decide_eq_true_eq]; exact c)
      have e4 : apF w (x :: W) = x :: apF w W := List.filter_cons_of_pos (by rw [decide_eq_true_eq]; exact c)
      rw [e3, e4, n1, n1, List.length_cons, List.length_cons]
      omega
theorem bk_cnt : ∀ M : List WT, (bkF M).length + nOut M = M.length
  | [] => rfl
  | x :: M => by
    have ih := bk_cnt M
    have e : bkF (x :: M) = (if wO x = 0 then [] else [setO x 0]) ++ bkF M := rfl
    unfold nOut at ih ⊢
    rw [e, List.length_append, List.length_cons]
    by_cases c : wO x = 0
    · rw [if_pos c, List.filter_cons_of_pos (by simpa using c), List.length_cons, List.length_nil]; omega
    · rw [if_neg c, List.filter_cons_of_neg (by simpa using c)]
      simp only [List.length_cons, List.length_nil]; omega
theorem take_gap {jb : Nat → Int32} {H : List ET} {mk : Int32} {L W : List WT} {v : V3} {src : Int32} (hj : JOK jb) (hH : HNum H) (hv : VOK v) (hk : jb 0 = 2) (h : WOK jb H mk L W) : WOK jb (H ++ [(src, v.1, v.2.1, v.2.2, mk)]) mk (L ++ (admP jb v mk W).2.1) (admP jb v mk W).1 := by
  by_cases c : v.1 + jb 1 + jb 3 ≤ mk
  · have e : admP jb v mk W = (W, [], 0) := by
      unfold admP
      rw [if_pos hk, if_pos c]
    rw [e]
    exact gap_late hk c h
  obtain ⟨h1, h2, h3, h4, h5, h6, h7⟩ := h
  have hz1 := hj.2.1
  have hv1 := hv.1
  have hv2 := hv.2.1
  have hz : (v.1 + jb 1).toInt = v.1.toInt + (jb 1).toInt := i32_add (by omega) (by omega)
  have hn : ∀ x ∈ W, (wS x).toInt < (wE x).toInt := fun x hx => (h3 x hx).1.2.2.2.1
  have hd := h4.2 hk
  have dg := gap_dgp (src := src) hk hz hz1.1 (fun e he => by have := (hH e he).1; exact i32_add (by omega) (by omega)) c hn hd
  have lt0 : (wS ((v.2.1, v.1, v.1 + jb 1, 1, v.2.2, 0) : WT)).toInt < (wE ((v.2.1, v.1, v.1 + jb 1, 1, v.2.2, 0) : WT)).toInt := by show v.1.toInt < (v.1 + jb 1).toInt; omega
  obtain ⟨a1, a2, a3, a4⟩ := abs_all W (v.2.1, v.1, v.1 + jb 1, 1, v.2.2, 0) 0 hd.2.2 hn lt0
  have eP : admP jb v mk W = (insS (mkM (v.2.1, v.1, v.1 + jb 1, 1, v.2.2, 0) mk (mtF (v.2.1, v.1, v.1 + jb 1, 1, v.2.2, 0) W)) (apF (v.2.1, v.1, v.1 + jb 1, 1, v.2.2, 0) W), bkF (mtF (v.2.1, v.1, v.1 + jb 1, 1, v.2.2, 0) W) ++ mkE (v.2.1, v.1, v.1 + jb 1, 1, v.2.2, 0) mk (mtF (v.2.1, v.1, v.1 + jb 1, 1, v.2.2, 0) W), 1) := by
    unfold admP
    rw [if_pos hk, if_neg c, Int32.zero_add, Int32.zero_add]
    unfold gapL gapR gapW mkM mkE
    rw [a1, a2, a3, a4]
    by_cases d : wsF 0 (mtF (v.2.1, v.1, v.1 + jb 1, 1, v.2.2, 0) W) = 0
    · rw [if_pos d, if_pos d, if_neg (fun z => z.1 d), if_neg (fun z => z.1 d)]
    · rw [if_neg d, if_neg d]
      by_cases d2 : wE (mkA (v.2.1, v.1, v.1 + jb 1, 1, v.2.2, 0) (mtF (v.2.1, v.1, v.1 + jb 1, 1, v.2.2, 0) W)) ≤ mk
      · rw [if_pos d2, if_pos d2, if_pos ⟨d, d2⟩, if_pos ⟨d, d2⟩]
      · rw [if_neg d2, if_neg d2, if_neg (fun z => d2 z.2), if_neg (fun z => d2 z.2)]
  rw [eP]
  have go := gap_ok (V := W) (jb := jb) (v := v) (by omega) h2 hn
  generalize hw0 : ((v.2.1, v.1, v.1 + jb 1, 1, v.2.2, 0) : WT) = w0 at *
  have k0 : wK w0 = v.2.1 := by rw [← hw0]
  have s0 : wS w0 = v.1 := by rw [← hw0]
  have e0 : wE w0 = v.1 + jb 1 := by rw [← hw0]
  have o0 : wO w0 = 0 := by rw [← hw0]
  obtain ⟨f1, f2, f3, f4, f5⟩ := mkM_f (w0 := w0) (mk := mk) (M := mtF w0 W)
  obtain ⟨kA, oA⟩ := mkA_K (mtF w0 W) w0
  obtain ⟨⟨le1, le2⟩, le3⟩ := mkA_le (mtF w0 W) w0
  have hM : ∀ x ∈ mtF w0 W, x ∈ W ∧ meets w0 x := fun x hx => ⟨(List.mem_filter.mp hx).1, of_decide_eq_true (List.mem_filter.mp hx).2⟩
  have hA : ∀ x ∈ apF w0 W, x ∈ W ∧ ¬ meets w0 x := fun x hx => ⟨(List.mem_filter.mp hx).1, of_decide_eq_true (List.mem_filter.mp hx).2⟩
  have kh : wK (mkM w0 mk (mtF w0 W)) = v.2.1 := f1.trans (kA.trans k0)
  have tm : ∀ x : WT, tou v.2.1 v.1 (v.1 + jb 1) x ↔ meets w0 x := fun x => by rw [← hw0]; exact tou_meets
  have ff1 : W.filter (fun w => decide (tou v.2.1 v.1 (v.1 + jb 1) w)) = mtF w0 W := List.filter_congr (fun y _ => by rw [decide_eq_decide]; exact tm y)
  have ff2 : W.filter (fun w => decide (¬ tou v.2.1 v.1 (v.1 + jb 1) w)) = apF w0 W := List.filter_congr (fun y _ => by rw [decide_eq_decide]; exact not_congr (tm y))
  have no : ∀ x ∈ apF w0 W, ¬ isW v.2.1 (wS (mkA w0 (mtF w0 W))) x := fun x hx => by
    have := go (mtF w0 W) (List.Perm.of_eq ff1.symm) x (by rw [ff2]; exact hx)
    rw [hw0] at this
    exact this
  have pm := insS_pm (mkM w0 mk (mtF w0 W)) (apF w0 W)
  -- the merged one is out or not
  have oh : (wO (mkM w0 mk (mtF w0 W)) = 0 ∧ mkE w0 mk (mtF w0 W) = []) ∨ (wO (mkM w0 mk (mtF w0 W)) = 1 ∧ wE (mkA w0 (mtF w0 W)) ≤ mk ∧ mkE w0 mk (mtF w0 W) = [setO (mkA w0 (mtF w0 W)) 1]) := by
    unfold mkM mkE
    by_cases d : ¬ wsF 0 (mtF w0 W) = 0 ∧ wE (mkA w0 (mtF w0 W)) ≤ mk
    · rw [if_pos d, if_pos d]; exact Or.inr ⟨rfl, d.2, rfl⟩
    · rw [if_neg d, if_neg d]; exact Or.inl ⟨oA.trans o0, rfl⟩
  obtain ⟨p1, p2⟩ := part_cnt (w := w0) W
  have p3 := bk_cnt (mtF w0 W)
  refine ⟨?_, ?_, fun x hx => ?_, ⟨fun z => absurd hk z, fun _ => Dgp.perm dg pm.symm⟩, Tl.perm ?_ pm.symm, ?_, ?_⟩
  · refine SO.ins (h1.filter _) (fun x hx hc => no x hx ⟨hc.1.trans kh, hc.2.trans f2⟩)
  · exact UQ.perm (L := _ :: _) (List.pairwise_cons.mpr ⟨fun x hx hc => no x hx ⟨hc.1.symm.trans kh, hc.2.symm.trans f2⟩, h2.filter _⟩) pm.symm
  · rcases List.mem_cons.mp (pm.mem_iff.mp hx) with e | hx
    · rw [e]
      refine ⟨⟨by rw [kh]; exact hv.2.2, ?_, ?_, by rw [f2, f3]; omega, ?_, ?_⟩, fun q => ?_, ?_⟩
      · rw [f2]
        rcases mkA_S (mtF w0 W) w0 with e | ⟨y, hy, e⟩
        · rw [e, s0]; exact hv1
        · rw [e]; exact (h3 y (hM y hy).1).1.2.1
      · rw [f2]
        rcases mkA_S (mtF w0 W) w0 with e | ⟨y, hy, e⟩
        · rw [e, s0]; exact hv2
        · rw [e]; exact (h3 y (hM y hy).1).1.2.2.1
      · rw [f3]
        rcases mkA_E (mtF w0 W) w0 with e | ⟨y, hy, e⟩
        · rw [e, e0]; omega
        · rw [e]; exact (h3 y (hM y hy).1).1.2.2.2.2.1
      · rcases oh with q | q
        · exact Or.inl q.1
        · exact Or.inr q.1
      · rcases oh with z | z
        · exact absurd z.1 q
        · rw [f3]; exact z.2.1
      · have g := (dg.1 _ List.mem_cons_self).2.2
        have gs := gz_snoc hk H (src, v.1, v.2.1, v.2.2, mk) (mkM w0 mk (mtF w0 W))
        obtain ⟨m, m1, m2⟩ := gz_cnt hk (mkM w0 mk (mtF w0 W)) H.length H rfl
        rw [if_pos ⟨⟨kh.symm, c⟩, by
          show (wS (mkM w0 mk (mtF w0 W))).toInt ≤ v.1.toInt ∧ v.1.toInt < (wE (mkM w0 mk (mtF w0 W))).toInt
          rw [f2, f3]
          rw [s0] at le1
          rw [e0] at le2
          omega⟩] at gs
        have gg := congrArg wC (gs.symm.trans g)
        refine ⟨m + 1, by omega, by rw [List.length_append]; simp; omega, ?_⟩
        rw [← nI_1, ← m2]
        exact gg.symm
    · obtain ⟨b1, b2, n, n1, n2, n3⟩ := h3 x (hA x hx).1
      exact ⟨b1, b2, n, n1, by rw [List.length_append]; omega, n3⟩
  · refine ⟨fun x hx ho => ?_, fun k' s' hk' r hr => ?_⟩
    · rcases List.mem_cons.mp hx with e | hx
      · rw [e] at ho ⊢
        rcases oh with q | q
        · exact absurd q.1 ho
        · rw [q.2.2, ← List.append_assoc, lastR_app, f5, f1, f2]
          show (if isW _ _ (setO (mkA w0 (mtF w0 W)) 1) then some (setO (mkA w0 (mtF w0 W)) 1) else _) = _
          rw [if_pos ⟨rfl, rfl⟩]
      · rw [lastR_app, h5.1 x (hA x hx).1 ho]
        refine lastR_nil (fun r hr hc => ?_)
        rcases List.mem_append.mp hr with hr | hr
        · obtain ⟨y, hy, -, e⟩ := bkF_mem.mp hr
          rw [e] at hc
          have := h2.eq (hM y hy).1 (hA x hx).1 hc.1 hc.2
          exact (hA x hx).2 (this ▸ (hM y hy).2)
        · rcases oh with q | q
          · rw [q.2] at hr; exact absurd hr (by simp)
          · rw [q.2.2] at hr
            rw [List.mem_singleton.mp hr] at hc
            exact no x hx ⟨hc.1.symm.trans (kA.trans k0), hc.2.symm⟩
    · rw [← List.append_assoc, lastR_app] at hr
      have hr2 : lastR k' s' none (L ++ bkF (mtF w0 W)) = some r := by
        rcases oh with q | q
        · rw [q.2] at hr; exact hr
        · rw [q.2.2, lastR_nil (fun z hz hc => ?_)] at hr
          · exact hr
          · rw [List.mem_singleton.mp hz] at hc
            have := hk' _ List.mem_cons_self ⟨f1.trans hc.1, f2.trans hc.2⟩
            rw [q.1] at this
            exact absurd this (by decide +kernel)
      rw [lastR_app] at hr2
      rcases lastR_mem _ _ hr2 with ⟨q1, q2⟩ | q
      · refine h5.2 k' s' (fun w hw hc => ?_) r q1
        by_cases m : meets w0 w
        · by_cases o : wO w = 0
          · exact o
          · exact absurd hc (q2 (setO w 0) (bkF_mem.mpr ⟨w, List.mem_filter.mpr ⟨hw, decide_eq_true m⟩, o, rfl⟩))
        · exact hk' w (List.mem_cons_of_mem _ (List.mem_filter.mpr ⟨hw, decide_eq_true m⟩)) hc
      · obtain ⟨y, -, -, e⟩ := bkF_mem.mp q
        rw [e]; rfl
  · have n1 : nOut (insS (mkM w0 mk (mtF w0 W)) (apF w0 W)) = nOut (mkM w0 mk (mtF w0 W) :: apF w0 W) := nOut_perm pm
    have n2 : nOut (mkM w0 mk (mtF w0 W) :: apF w0 W) + (mkE w0 mk (mtF w0 W)).length ≤ nOut (apF w0 W) + 1 := by
      unfold nOut
      rcases oh with q | q
      · rw [q.2, List.filter_cons_of_pos (by simpa using q.1), List.length_cons]; simp
      · rw [q.2.2, List.filter_cons_of_neg (by rw [decide_eq_true_eq, q.1]; decide)]; simp
    rw [n1, pm.length_eq, List.length_append, List.length_append, List.length_append, List.length_cons]
    simp only [List.length_cons, List.length_nil]
    omega
  · rw [pm.length_eq, List.length_append, List.length_cons]
    simp only [List.length_cons, List.length_nil]
    omega
theorem takeLem : TakeLem := by
  intro jb H mk L W v src hj hH hv h ho
  have hz1 := hj.2.1
  have hv1 := hv.1
  have hv2 := hv.2.1
  have hz : (v.1 + jb 1).toInt = v.1.toInt + (jb 1).toInt := i32_add (by omega) (by omega)
  have hn : ∀ x ∈ W, (wS x).toInt < (wE x).toInt := fun x hx => (h.2.2.1 x hx).1.2.2.2.1
  refine ⟨?_, fun _ => (stA_facts mk hj hv).1, fun V p => ⟨fun hk => gap_ok (by omega) (h.2.1.perm p) (fun x hx => hn x (p.mem_iff.mpr hx)), fun W' Rr n ha => ?_⟩⟩
  · by_cases hk : jb 0 = 2
    · exact take_gap hj hH hv hk h
    · exact (take_step hj hv hk h).1
  · by_cases hk : jb 0 = 2
    · exact gap_rel hk (by omega) h.2.1 (h.2.2.2.1.2 hk).2.2 hn p ha
    · exact (take_step (src := src) hj hv hk h).2 V p W' Rr n ha
end GAPC
