section STEPP
theorem insS_pm (w : WT) : ∀ L : List WT, (insS w L).Perm (w :: L)
  | [] => List.Perm.refl _
  | x :: L => by
    unfold insS
    split
    · exact ((insS_pm w L).cons x).trans (List.Perm.swap w x L)
    · exact List.Perm.refl _
def gA1 (k v : Int32) (ss : List Int32) (w : WT) : WT := if wK w = k ∧ wS w ∈ ss then addV w v else w
theorem cmW_eq {k v : Int32} {W : List WT} {ss : List Int32} : cmW k v W ss = W.map (gA1 k v ss) := rfl
theorem gA1_k {k v : Int32} {ss : List Int32} (w : WT) : wK (gA1 k v ss w) = wK w ∧ wS (gA1 k v ss w) = wS w ∧ wE (gA1 k v ss w) = wE w ∧ wO (gA1 k v ss w) = wO w := by
  unfold gA1
  split <;> exact ⟨rfl, rfl, rfl, rfl⟩
theorem ex_perm {k s : Int32} {W V : List WT} (h : W.Perm V) : (∃ w ∈ W, isW k s w) ↔ ∃ w ∈ V, isW k s w := ⟨fun ⟨w, h1, h2⟩ => ⟨w, h.mem_iff.mp h1, h2⟩, fun ⟨w, h1, h2⟩ => ⟨w, h.mem_iff.mpr h1, h2⟩⟩
theorem addN_perm {k sz : Int32} : ∀ (ss : List Int32) {W V : List WT}, W.Perm V → (addN k sz W ss).Perm (addN k sz V ss)
  | [], _, _, h => h
  | s :: ss, W, V, h => by
    show (addN k sz (if ∃ w ∈ W, isW k s w then W else W ++ [(k, s, s + sz, 0, 0, 0)]) ss).Perm (addN k sz (if ∃ w ∈ V, isW k s w then V else V ++ [(k, s, s + sz, 0, 0, 0)]) ss)
    by_cases c : ∃ w ∈ W, isW k s w
    · rw [if_pos c, if_pos ((ex_perm h).mp c)]; exact addN_perm ss h
    · rw [if_neg c, if_neg (fun z => c ((ex_perm h).mpr z))]; exact addN_perm ss (h.append_right _)
/-- to add in one window changes nothing of what is there -/
theorem addN_map {k sz : Int32} {f : WT → WT} (hf : ∀ w, wK (f w) = wK w ∧ wS (f w) = wS w) : ∀ (ss : List Int32) {W : List WT}, (∀ s ∈ ss, f (k, s, s + sz, 0, 0, 0) = (k, s, s + sz, 0, 0, 0)) → addN k sz (W.map f) ss = (addN k sz W ss).map f
  | [], _, _ => rfl
  | s :: ss, W, hn => by
    have e : (∃ w ∈ W.map f, isW k s w) ↔ ∃ w ∈ W, isW k s w := by
      constructor
      · rintro ⟨w, h1, h2⟩
        obtain ⟨u, hu, e⟩ := List.mem_map.mp h1
        subst e
        exact ⟨u, hu, (hf u).1.symm.trans h2.1, (hf u).2.symm.trans h2.2⟩
      · rintro ⟨w, h1, h2⟩
        exact ⟨f w, List.mem_map.mpr ⟨w, h1, rfl⟩, (hf w).1.trans h2.1, (hf w).2.trans h2.2⟩
    show addN k sz (if ∃ w ∈ W.map f, isW k s w then W.map f else W.map f ++ [(k, s, s + sz, 0, 0, 0)]) ss = (addN k sz (if ∃ w ∈ W, isW k s w then W else W ++ [(k, s, s + sz, 0, 0, 0)]) ss).map f
    by_cases c : ∃ w ∈ W, isW k s w
    · rw [if_pos c, if_pos (e.mpr c)]; exact addN_map hf ss (fun z hz => hn z (by simp [hz]))
    · rw [if_neg c, if_neg (fun z => c (e.mp z))]
      have e2 : W.map f ++ [(k, s, s + sz, 0, 0, 0)] = (W ++ [(k, s, s + sz, 0, 0, 0)]).map f := by
        rw [List.map_append, List.map_cons, List.map_nil, hn s (by simp)]
      rw [e2]
      exact addN_map hf ss (fun z hz => hn z (by simp [hz]))
theorem gA1_two {k v s : Int32} {ss : List Int32} (h : s ∉ ss) (w : WT) : gA1 k v ss (gA1 k v [s] w) = gA1 k v (s :: ss) w := by
  unfold gA1
  by_cases c1 : wK w = k
  · by_cases c2 : wS w = s
    · rw [if_pos (c := wK w = k ∧ wS w ∈ [s]) ⟨c1, by simp [c2]⟩, if_pos (c := wK w = k ∧ wS w ∈ s :: ss) ⟨c1, by simp [c2]⟩, if_neg (fun z => h (by have := z.2; rw [show wS (addV w v) = wS w from rfl, c2] at this; exact this))]
    · rw [if_neg (c := wK w = k ∧ wS w ∈ [s]) (fun z => c2 (by simpa using z.2))]
      by_cases c3 : wS w ∈ ss
      · rw [if_pos ⟨c1, c3⟩, if_pos ⟨c1, by simp [c3]⟩]
      · rw [if_neg (fun z => c3 z.2), if_neg (fun z => (List.mem_cons.mp z.2).elim c2 c3)]
  · rw [if_neg (c := wK w = k ∧ wS w ∈ [s]) (fun z => c1 z.1), if_neg (fun z => c1 z.1), if_neg (fun z => c1 z.1)]
/-- what is out is at its end -/
def O1 (mk : Int32) (W : List WT) : Prop := ∀ w ∈ W, (wO w = 0 ∨ wO w = 1) ∧ (¬ wO w = 0 → wE w ≤ mk)
theorem tch_add {v mk : Int32} {w : WT} (h : (wO w = 0 ∨ wO w = 1) ∧ (¬ wO w = 0 → wE w ≤ mk)) : tch v mk w = addV w v := by
  unfold tch
  by_cases c : wO w = 0
  · rw [if_pos c]
  · rw [if_neg c, if_pos (h.2 c)]
    have e : wO w = 1 := h.1.resolve_left c
    show (wK w, wS w, wE w, wC w + 1, wM w + v, 1) = (wK w, wS w, wE w, wC w + 1, wM w + v, wO w)
    rw [e]
theorem addL_pm {k s sz v mk : Int32} {L : List WT} (ho : O1 mk L) : (addL k s (s + sz) v mk L).Perm ((addN k sz L [s]).map (gA1 k v [s])) := by
  show List.Perm _ (List.map _ (if ∃ w ∈ L, isW k s w then L else L ++ [(k, s, s + sz, 0, 0, 0)]))
  unfold addL
  by_cases c : ∃ w ∈ L, isW k s w
  · rw [if_pos c, if_pos c]
    refine List.Perm.of_eq (List.map_congr_left (fun w hw => ?_))
    unfold gA1
    by_cases d : isW k s w
    · rw [if_pos d, if_pos ⟨d.1, by simp [d.2]⟩]; exact tch_add (ho w hw)
    · rw [if_neg d, if_neg (fun z => d ⟨z.1, by simpa using z.2⟩)]
  · rw [if_neg c, if_neg c]
    refine (insS_pm _ L).trans ?_
    rw [List.map_append]
    have e : L.map (gA1 k v [s]) = L := by
      have : L.map (gA1 k v [s]) = L.map id := List.map_congr_left (fun w hw => by
        unfold gA1
        rw [if_neg (fun z => c ⟨w, hw, z.1, by simpa using z.2⟩)]; rfl)
      rw [this, List.map_id]
    rw [e]
    have e2 : [(k, s, s + sz, 0, 0, 0)].map (gA1 k v [s]) = [addV (k, s, s + sz, 0, 0, 0) v] := by
      show [gA1 k v [s] (k, s, s + sz, 0, 0, 0)] = _
      unfold gA1
      rw [if_pos ⟨rfl, by simp⟩]
    rw [e2]
    exact (List.perm_append_comm (l₁ := [addV (k, s, s + sz, 0, 0, 0) v]) (l₂ := L))
theorem O1.perm {mk : Int32} {W V : List WT} (h : O1 mk W) (p : W.Perm V) : O1 mk V := fun w hw => h w (p.mem_iff.mpr hw)
theorem O1.addN {mk k sz : Int32} : ∀ (ss : List Int32) {W : List WT}, O1 mk W → O1 mk (addN k sz W ss)
  | [], _, h => h
  | s :: ss, W, h => by
    refine O1.addN ss (W := if ∃ w ∈ W, isW k s w then W else W ++ [(k, s, s + sz, 0, 0, 0)]) ?_
    split
    · exact h
    · intro w hw
      rcases List.mem_append.mp hw with hw | hw
      · exact h w hw
      · rw [List.mem_singleton.mp hw]; exact ⟨Or.inl rfl, fun z => absurd rfl z⟩
theorem O1.mapg {mk k v : Int32} {ss : List Int32} {W : List WT} (h : O1 mk W) : O1 mk (W.map (gA1 k v ss)) := fun w hw => by
  obtain ⟨u, hu, e⟩ := List.mem_map.mp hw
  subst e
  obtain ⟨-, -, e3, e4⟩ := gA1_k (k := k) (v := v) (ss := ss) u
  rw [e3, e4]; exact h u hu
theorem addsL_pm {k sz v mk : Int32} : ∀ (ss : List Int32) {L W : List WT}, ss.Nodup → O1 mk L → L.Perm W → (addsL k sz v mk ss L).Perm (cmW k v (addN k sz W ss) ss)
  | [], L, W, _, _, p => by
    have e : W.map (gA1 k v []) = W := by
      have : W.map (gA1 k v []) = W.map id := List.map_congr_left (fun w _ => by
        unfold gA1
        rw [if_neg (fun z => absurd z.2 (by simp))]; rfl)
      rw [this, List.map_id]
    show L.Perm (W.map (gA1 k v []))
    rw [e]; exact p
  | s :: ss, L, W, hn, ho, p => by
    obtain ⟨n1, n2⟩ := List.nodup_cons.mp hn
    have p1 : (addL k s (s + sz) v mk L).Perm ((addN k sz W [s]).map (gA1 k v [s])) := (addL_pm ho).trans ((addN_perm [s] p).map _)
    have o1 : O1 mk (addL k s (s + sz) v mk L) := ((((ho.perm p).addN [s]).mapg (k := k) (v := v) (ss := [s]))).perm p1.symm
    have ih := addsL_pm (k := k) (sz := sz) (v := v) (mk := mk) ss n2 o1 p1
    show (addsL k sz v mk ss (addL k s (s + sz) v mk L)).Perm _
    refine ih.trans (List.Perm.of_eq ?_)
    rw [cmW_eq, cmW_eq, addN_map (fun w => ⟨(gA1_k w).1, (gA1_k w).2.1⟩) ss (fun z hz => ?_), List.map_map]
    · show List.map _ (addN k sz (addN k sz W [s]) ss) = List.map _ (addN k sz (addN k sz W [s]) ss)
      exact List.map_congr_left (fun w _ => gA1_two n1 w)
    · unfold gA1
      rw [if_neg (fun q => n1 (by have : z ∈ [s] := q.2; rw [List.mem_singleton.mp this] at hz; exact hz))]
/-- records of two sorts, by their windows -/
theorem REq.two {k : Int32} {a b : Int32 → List WT} (ha : ∀ s, ∀ r ∈ a s, isW k s r) (hb : ∀ s, ∀ r ∈ b s, isW k s r) : ∀ (ss : List Int32), ss.Nodup → REq (ss.flatMap (fun s => a s ++ b s)) (ss.flatMap a ++ ss.flatMap b)
  | [], _ => REq.rf
  | s :: ss, hn => by
    obtain ⟨n1, n2⟩ := List.nodup_cons.mp hn
    obtain ⟨l, f⟩ := REq.two ha hb ss n2
    refine ⟨?_, fun k' s' => ?_⟩
    · rw [List.length_append] at l
      simp only [List.flatMap_cons, List.length_append] at l ⊢
      omega
    · have no : ∀ (c : Int32 → List WT), (∀ s, ∀ r ∈ c s, isW k s r) → fK k s (ss.flatMap c) = [] := fun c hc => by
        refine List.filter_eq_nil_iff.mpr (fun r hr hd => ?_)
        obtain ⟨z, hz, hr⟩ := List.mem_flatMap.mp hr
        have e1 := (hc z r hr).2
        have e2 : isW k s r := by simpa using hd
        exact n1 (by rw [← e2.2, e1]; exact hz)
      have out : ∀ (c : Int32 → List WT), (∀ s, ∀ r ∈ c s, isW k s r) → ¬ (k' = k ∧ s' = s) → fK k' s' (c s) = [] := fun c hc hne => by
        refine List.filter_eq_nil_iff.mpr (fun r hr hd => ?_)
        have e1 := hc s r hr
        have e2 : isW k' s' r := by simpa using hd
        exact hne ⟨e2.1.symm.trans e1.1, e2.2.symm.trans e1.2⟩
      have fl : ∀ (c : Int32 → List WT), (s :: ss).flatMap c = c s ++ ss.flatMap c := fun c => List.flatMap_cons
      rw [fl, fl, fl]
      show List.filter _ _ = List.filter _ _
      simp only [List.filter_append]
      by_cases c : k' = k ∧ s' = s
      · obtain ⟨e1, e2⟩ := c
        subst e1 e2
        have q1 : List.filter (fun w => decide (isW k' s' w)) (ss.flatMap a) = [] := no a ha
        have q2 : List.filter (fun w => decide (isW k' s' w)) (ss.flatMap b) = [] := no b hb
        have q3 : List.filter (fun w => decide (isW k' s' w)) (ss.flatMap (fun s => a s ++ b s)) = [] := no _ (fun s r hr => (List.mem_append.mp hr).elim (ha s r) (hb s r))
        rw [q1, q2, q3]
        simp
      · have q1 : List.filter (fun w => decide (isW k' s' w)) (a s) = [] := out a ha c
        have q2 : List.filter (fun w => decide (isW k' s' w)) (b s) = [] := out b hb c
        rw [q1, q2]
        have f' := f k' s'
        have f' : List.filter (fun w => decide (isW k' s' w)) (ss.flatMap (fun s => a s ++ b s)) = List.filter (fun w => decide (isW k' s' w)) (ss.flatMap a ++ ss.flatMap b) := f'
        rw [f', List.filter_append]
        simp
end STEPP
