section STEPR
theorem fK_flat_out {k k' s' : Int32} {c : Int32 → List WT} (hc : ∀ s, ∀ r ∈ c s, isW k s r) {ss : List Int32} (h : ¬ (k' = k ∧ s' ∈ ss)) : fK k' s' (ss.flatMap c) = [] := by
  refine List.filter_eq_nil_iff.mpr (fun r hr hd => ?_)
  obtain ⟨z, hz, hr⟩ := List.mem_flatMap.mp hr
  have e1 := hc z r hr
  have e2 : isW k' s' r := by simpa using hd
  exact h ⟨e2.1.symm.trans e1.1, by rw [← e2.2, e1.2]; exact hz⟩
theorem fK_flat_in {k s : Int32} {c : Int32 → List WT} (hc : ∀ s, ∀ r ∈ c s, isW k s r) : ∀ {ss : List Int32}, ss.Nodup → s ∈ ss → fK k s (ss.flatMap c) = c s
  | [], _, h => absurd h (by simp)
  | z :: ss, hn, h => by
    obtain ⟨n1, n2⟩ := List.nodup_cons.mp hn
    rw [List.flatMap_cons]
    show List.filter _ (_ ++ _) = _
    rw [List.filter_append]
    by_cases d : s = z
    · subst d
      have e1 : List.filter (fun w => decide (isW k s w)) (c s) = c s := List.filter_eq_self.mpr (fun r hr => by simpa using hc s r hr)
      have e2 : List.filter (fun w => decide (isW k s w)) (ss.flatMap c) = [] := fK_flat_out hc (fun q => n1 q.2)
      rw [e1, e2, List.append_nil]
    · have e1 : List.filter (fun w => decide (isW k s w)) (c z) = [] := List.filter_eq_nil_iff.mpr (fun r hr hd => d (by
        have e2 : isW k s r := by simpa using hd
        rw [← e2.2, (hc z r hr).2]))
      rw [e1, List.nil_append]
      exact fK_flat_in hc n2 ((List.mem_cons.mp h).resolve_left d)
theorem trO_w {k v s : Int32} {L : List WT} : ∀ r ∈ (fK k s L).flatMap (trO v), isW k s r := fun r hr => by
  obtain ⟨w, hw, hr⟩ := List.mem_flatMap.mp hr
  have c : isW k s w := by simpa using (List.mem_filter.mp hw).2
  unfold trO at hr
  split at hr
  · exact absurd hr (by simp)
  · rcases List.mem_cons.mp hr with e | hr
    · rw [e]; exact c
    · rw [List.mem_singleton.mp hr]; exact c
theorem Tl.perm {L W V : List WT} (h : Tl L W) (p : W.Perm V) : Tl L V := ⟨fun w hw => h.1 w (p.mem_iff.mpr hw), fun k s hk => h.2 k s (fun w hw => hk w (p.mem_iff.mp hw))⟩
theorem Tl.step {Lr W : List WT} {k sz v mk : Int32} {ss : List Int32} (h : Tl Lr W) (hn : ss.Nodup) (hu : UQ W) (ho : O1 mk W) : Tl (Lr ++ addsR k sz v mk ss W) (addsL k sz v mk ss W) := by
  refine Tl.perm ?_ (addsL_pm ss hn ho (List.Perm.refl W)).symm
  rw [addsR_eq ss hn hu ho]
  obtain ⟨M, eM, -, hM⟩ := addN_app k sz ss W
  rw [cmW_eq, eM]
  refine ⟨fun w' hw' ho' => ?_, fun k' s' hk r hr => ?_⟩
  · obtain ⟨w, hw, e⟩ := List.mem_map.mp hw'
    subst e
    obtain ⟨e1, e2, e3, e4⟩ := gA1_k (k := k) (v := v) (ss := ss) w
    rw [e4] at ho'
    have hwW : w ∈ W := by
      rcases List.mem_append.mp hw with z | z
      · exact z
      · exact absurd (by rw [(hM w z).2.2]) ho'
    rw [e1, e2, lastR_app, lastR_f (ss.flatMap _)]
    by_cases c : wK w = k ∧ wS w ∈ ss
    · have eg : gA1 k v ss w = addV w v := if_pos c
      rw [eg, c.1, fK_flat_in (fun s => trO_w) hn c.2]
      rcases fK_one (k := k) (s := wS w) hu with e | ⟨u, hu1, hc, e⟩
      · have : w ∈ fK k (wS w) W := List.mem_filter.mpr ⟨hwW, by simpa using c.1⟩
        rw [e] at this
        exact absurd this (by simp)
      · have eu : u = w := hu.eq hu1 hwW (hc.1.trans c.1.symm) hc.2
        subst eu
        rw [e]
        show lastR k (wS u) _ (trO v u ++ []) = _
        unfold trO
        rw [if_neg ho', List.append_nil]
        show (if isW k (wS u) (setO (addV u v) 1) then some (setO (addV u v) 1) else _) = _
        rw [if_pos ⟨c.1, rfl⟩]
    · have eg : gA1 k v ss w = w := if_neg c
      rw [eg, fK_flat_out (fun s => trO_w) c]
      exact h.1 w hwW ho'
  · have no : ∀ w ∈ W, isW k' s' w → wO w = 0 := fun w hw hc => by
      obtain ⟨e1, e2, e3, e4⟩ := gA1_k (k := k) (v := v) (ss := ss) w
      have := hk (gA1 k v ss w) (List.mem_map.mpr ⟨w, List.mem_append_left _ hw, rfl⟩) ⟨e1.trans hc.1, e2.trans hc.2⟩
      rw [e4] at this
      exact this
    have em : fK k' s' (ss.flatMap (fun s => (fK k s W).flatMap (trO v))) = [] := by
      by_cases c : k' = k ∧ s' ∈ ss
      · obtain ⟨c1, c2⟩ := c
        subst c1
        rw [fK_flat_in (fun s => trO_w) hn c2]
        refine List.flatMap_eq_nil_iff.mpr (fun w hw => ?_)
        have hc : isW k' s' w := by simpa using (List.mem_filter.mp hw).2
        exact if_pos (no w (List.mem_filter.mp hw).1 hc)
      · exact fK_flat_out (fun s => trO_w) c
    rw [lastR_app, lastR_f (ss.flatMap _), em] at hr
    exact h.2 k' s' no r hr
theorem gat_snoc {kd sz gr key en : Int32} {e : ET} : ∀ (H : List ET) (w : WT), gat kd sz gr key en w (H ++ [e]) = if admE kd sz gr key en e then (if eT e < wS (gat kd sz gr key en w H) then gat kd sz gr key en w H else if wE (gat kd sz gr key en w H) ≤ eT e then gat kd sz gr key en w H else addV (gat kd sz gr key en w H) (eV e)) else gat kd sz gr key en w H
  | [], _ => rfl
  | _ :: H, _ => gat_snoc H _
theorem step_dst {jb : Nat → Int32} {H : List ET} {mk : Int32} {W : List WT} {v : V3} {src : Int32} (hj : JOK jb) (hv : VOK v) (hk : ¬ jb 0 = 2) (hd : Dst jb H W) (hw : ∀ w ∈ W, WNum w) : Dst jb (H ++ [(src, v.1, v.2.1, v.2.2, mk)]) ((addN v.2.1 (jb 1) W (stA jb v mk)).map (gA1 v.2.1 v.2.2 (stA jb v mk))) := by
  obtain ⟨d1, d2⟩ := hd
  obtain ⟨-, hm⟩ := stA_facts mk hj hv
  have hz := hj.2.1
  obtain ⟨M, eM, -, hM⟩ := addN_app v.2.1 (jb 1) (stA jb v mk) W
  rw [eM]
  have en : ∀ s : Int32, 0 ≤ s.toInt → s.toInt ≤ 999 → (s + jb 1).toInt = s.toInt + (jb 1).toInt := fun s h1 h2 => i32_add (by omega) (by omega)
  -- when the event is counted
  have cnt : ∀ (k s : Int32), 0 ≤ s.toInt → s.toInt ≤ 999 → laS (jb 2) s = s → ∀ c m o : Int32, (if admE (jb 0) (jb 1) (jb 3) k (s + jb 1) (src, v.1, v.2.1, v.2.2, mk) then (if v.1 < s then (k, s, s + jb 1, c, m, o) else if s + jb 1 ≤ v.1 then (k, s, s + jb 1, c, m, o) else addV (k, s, s + jb 1, c, m, o) v.2.2) else (k, s, s + jb 1, c, m, o)) = gA1 v.2.1 v.2.2 (stA jb v mk) (k, s, s + jb 1, c, m, o) := fun k s h1 h2 h3 c m o => by
    have e := en s h1 h2
    unfold gA1
    by_cases q : k = v.2.1 ∧ s ∈ stA jb v mk
    · obtain ⟨b1, b2, b3, b4, b5⟩ := (hm s).mp q.2
      rw [if_pos (c := wK (k, s, s + jb 1, c, m, o) = v.2.1 ∧ wS (k, s, s + jb 1, c, m, o) ∈ stA jb v mk) q, if_pos ⟨q.1.symm, by rw [if_neg hk]; exact b5⟩, if_neg (fun z => by have := i32_lt z; omega), if_neg (fun z => by have := i32_le z; omega)]
    · rw [if_neg (c := wK (k, s, s + jb 1, c, m, o) = v.2.1 ∧ wS (k, s, s + jb 1, c, m, o) ∈ stA jb v mk) q]
      by_cases a : admE (jb 0) (jb 1) (jb 3) k (s + jb 1) (src, v.1, v.2.1, v.2.2, mk)
      · rw [if_pos a]
        by_cases b1 : v.1 < s
        · rw [if_pos b1]
        · rw [if_neg b1]
          by_cases b2 : s + jb 1 ≤ v.1
          · rw [if_pos b2]
          · exfalso
            have f1 := i32_nlt b1
            have f2 := i32_nle b2
            have a2 := a.2
            rw [if_neg hk] at a2
            exact q ⟨a.1.symm, (hm s).mpr ⟨h3, h1, f1, by omega, a2⟩⟩
      · rw [if_neg a]
  refine ⟨fun w' hw' => ?_, fun k s a1 a2 a3 a4 => ?_⟩
  · obtain ⟨w, hwm, e⟩ := List.mem_map.mp hw'
    subst e
    obtain ⟨e1, e2, e3, -⟩ := gA1_k (k := v.2.1) (v := v.2.2) (ss := stA jb v mk) w
    rw [e1, e2, e3, gat_snoc]
    have base : wE w = wS w + jb 1 ∧ laS (jb 2) (wS w) = wS w ∧ gat (jb 0) (jb 1) (jb 3) (wK w) (wE w) (wK w, wS w, wE w, 0, 0, 0) H = setO w 0 ∧ 0 ≤ (wS w).toInt ∧ (wS w).toInt ≤ 999 := by
      rcases List.mem_append.mp hwm with z | z
      · obtain ⟨c1, c2, c3⟩ := d1 w z
        exact ⟨c1, c2, c3, (hw w z).2.1, (hw w z).2.2.1⟩
      · obtain ⟨c1, c2, c3⟩ := hM w z
        obtain ⟨b1, b2, b3, b4, b5⟩ := (hm _).mp c2
        have h9 : (wS w).toInt ≤ 999 := by have := hv.2.1; omega
        by_cases q : ∃ u ∈ W, isW v.2.1 (wS w) u
        · -- a window that was there would not have been made
          exfalso
          have : ∀ (ss : List Int32) (V : List WT), (∃ u ∈ V, isW v.2.1 (wS w) u) → ∀ M', addN v.2.1 (jb 1) V ss = V ++ M' → w ∉ M' := by
            intro ss
            induction ss with
            | nil =>
              intro V _ M' h
              have h : V = V ++ M' := h
              have l := congrArg List.length h
              rw [List.length_append] at l
              rw [List.length_eq_zero_iff.mp (by omega : M'.length = 0)]
              simp
            | cons s ss ih =>
              intro V hV M' h
              have h : addN v.2.1 (jb 1) (if ∃ w ∈ V, isW v.2.1 s w then V else V ++ [(v.2.1, s, s + jb 1, 0, 0, 0)]) ss = V ++ M' := h
              by_cases d : ∃ w ∈ V, isW v.2.1 s w
              · rw [if_pos d] at h; exact ih V hV M' h
              · rw [if_neg d] at h
                obtain ⟨M2, e2, -, -⟩ := addN_app v.2.1 (jb 1) ss (V ++ [(v.2.1, s, s + jb 1, 0, 0, 0)])
                have n2 := ih (V ++ [(v.2.1, s, s + jb 1, 0, 0, 0)]) (by obtain ⟨u, u1, u2⟩ := hV; exact ⟨u, List.mem_append_left _ u1, u2⟩) M2 e2
                rw [e2, List.append_assoc] at h
                have h := List.append_cancel_left h
                rw [← h]
                intro z
                rcases List.mem_append.mp z with z | z
                · have ew := List.mem_singleton.mp z
                  have es : wS w = s := by rw [ew]
                  rw [es] at hV
                  exact d hV
                · exact n2 z
          exact this (stA jb v mk) W q M eM z
        · have eE : wE w = wS w + jb 1 := by rw [c3]
          refine ⟨eE, b1, ?_, b2, h9⟩
          have := d2 (wK w) (wS w) b2 h9 b1 (fun u hu hc => q ⟨u, hu, hc.1.trans c1, hc.2⟩)
          rw [eE, this]
          rw [c3]
          rfl
    obtain ⟨c1, c2, c3, c4, c5⟩ := base
    rw [c3]
    have := cnt (wK w) (wS w) c4 c5 c2 (wC w) (wM w) 0
    rw [← c1] at this
    refine ⟨c1, c2, this.trans ?_⟩
    unfold gA1
    by_cases q : wK w = v.2.1 ∧ wS w ∈ stA jb v mk
    · rw [if_pos q, if_pos q]; rfl
    · rw [if_neg q, if_neg q]; rfl
  · rw [gat_snoc]
    have h0 := d2 k s a1 a2 a3 (fun w hw hc => by
      obtain ⟨e1, e2, -, -⟩ := gA1_k (k := v.2.1) (v := v.2.2) (ss := stA jb v mk) w
      exact a4 _ (List.mem_map.mpr ⟨w, List.mem_append_left _ hw, rfl⟩) ⟨e1.trans hc.1, e2.trans hc.2⟩)
    rw [h0]
    have := cnt k s a1 a2 a3 0 0 0
    refine this.trans ?_
    unfold gA1
    rw [if_neg (fun q => ?_)]
    have q1 : k = v.2.1 := q.1
    have q2 : s ∈ stA jb v mk := q.2
    -- then a window stands there
    have : ∀ (ss : List Int32) (V : List WT), s ∈ ss → ∃ u ∈ addN v.2.1 (jb 1) V ss, isW v.2.1 s u := by
      intro ss
      induction ss with
      | nil => intro V h; exact absurd h (by simp)
      | cons z ss ih =>
        intro V h
        show ∃ u ∈ addN v.2.1 (jb 1) (if ∃ w ∈ V, isW v.2.1 z w then V else V ++ [(v.2.1, z, z + jb 1, 0, 0, 0)]) ss, _
        rcases List.mem_cons.mp h with e | h
        · have : ∃ u ∈ (if ∃ w ∈ V, isW v.2.1 z w then V else V ++ [(v.2.1, z, z + jb 1, 0, 0, 0)]), isW v.2.1 s u := by
            subst e
            split
            · rename_i d; exact d
            · exact ⟨(v.2.1, s, s + jb 1, 0, 0, 0), by simp, rfl, rfl⟩
          obtain ⟨u, u1, u2⟩ := this
          obtain ⟨M2, e2, -, -⟩ := addN_app v.2.1 (jb 1) ss (if ∃ w ∈ V, isW v.2.1 z w then V else V ++ [(v.2.1, z, z + jb 1, 0, 0, 0)])
          exact ⟨u, by rw [e2]; exact List.mem_append_left _ u1, u2⟩
        · exact ih _ h
    obtain ⟨u, u1, u2⟩ := this (stA jb v mk) W q2
    rw [eM] at u1
    obtain ⟨e1, e2, -, -⟩ := gA1_k (k := v.2.1) (v := v.2.2) (ss := stA jb v mk) u
    exact a4 _ (List.mem_map.mpr ⟨u, u1, rfl⟩) ⟨e1.trans (u2.1.trans q1.symm), e2.trans u2.2⟩
end STEPR
