section STEPQ
theorem fK_one {k s : Int32} {L : List WT} (hu : UQ L) : fK k s L = [] ∨ ∃ w, w ∈ L ∧ isW k s w ∧ fK k s L = [w] := by
  have hp : (fK k s L).Pairwise (fun a b => ¬ (wK a = wK b ∧ wS a = wS b)) := hu.filter _
  have hm : ∀ w ∈ fK k s L, w ∈ L ∧ isW k s w := fun w hw => ⟨(List.mem_filter.mp hw).1, by simpa using (List.mem_filter.mp hw).2⟩
  match hl : fK k s L with
  | [] => exact Or.inl rfl
  | [a] => exact Or.inr ⟨a, (hm a (by rw [hl]; simp)).1, (hm a (by rw [hl]; simp)).2, rfl⟩
  | a :: b :: l =>
    exfalso
    have ha := (hm a (by rw [hl]; simp)).2
    have hb := (hm b (by rw [hl]; simp)).2
    rw [hl] at hp
    exact (List.pairwise_cons.mp hp).1 b (by simp) ⟨ha.1.trans hb.1.symm, ha.2.trans hb.2.symm⟩
def trO (v : Int32) (w : WT) : List WT := if wO w = 0 then [] else [setO w 0, setO (addV w v) 1]
def bkO (w : WT) : List WT := if wO w = 0 then [] else [setO w 0]
def emO (v : Int32) (w : WT) : List WT := if wO w = 0 then [] else [setO (addV w v) 1]
theorem addR_eq {k s v mk : Int32} : ∀ {L : List WT}, O1 mk L → addR k s v mk L = (fK k s L).flatMap (trO v)
  | [], _ => rfl
  | w :: L, ho => by
    have ih := addR_eq (k := k) (s := s) (v := v) (L := L) (fun z hz => ho z (by simp [hz]))
    show (if isW k s w then tchR v mk w else []) ++ addR k s v mk L = (List.filter _ (w :: L)).flatMap (trO v)
    rw [ih]
    by_cases c : isW k s w
    · rw [if_pos c, List.filter_cons_of_pos (by simpa using c), List.flatMap_cons]
      congr 1
      unfold tchR trO
      by_cases d : wO w = 0
      · rw [if_pos d, if_pos d]
      · rw [if_neg d, if_neg d, if_pos ((ho w (by simp)).2 d)]
    · rw [if_neg c, List.filter_cons_of_neg (by simpa using c)]; rfl
theorem fK_map {k v s s' : Int32} (h : ¬ s' = s) : ∀ L : List WT, fK k s' (L.map (gA1 k v [s])) = fK k s' L
  | [] => rfl
  | w :: L => by
    have ih := fK_map (k := k) (v := v) h L
    have e : isW k s' (gA1 k v [s] w) ↔ isW k s' w := by
      obtain ⟨e1, e2, -, -⟩ := gA1_k (k := k) (v := v) (ss := [s]) w
      unfold isW
      rw [e1, e2]
    show List.filter _ (gA1 k v [s] w :: L.map _) = List.filter _ (w :: L)
    by_cases c : isW k s' w
    · have eg : gA1 k v [s] w = w := by
        unfold gA1
        rw [if_neg (fun z => h (by have := z.2; rw [List.mem_singleton] at this; rw [← this, c.2]))]
      rw [eg, List.filter_cons_of_pos (by simpa using c), List.filter_cons_of_pos (by simpa using c)]
      exact congrArg _ ih
    · rw [List.filter_cons_of_neg (by simpa using fun z => c (e.mp z)), List.filter_cons_of_neg (by simpa using c)]
      exact ih
theorem fK_addL {k s s' sz v mk : Int32} {L : List WT} (hu : UQ L) (ho : O1 mk L) (h : ¬ s' = s) : fK k s' (addL k s (s + sz) v mk L) = fK k s' L := by
  rw [fK_perm (addL_pm (v := v) (sz := sz) ho) hu.add, fK_map h]
  show fK k s' (if ∃ w ∈ L, isW k s w then L else L ++ [(k, s, s + sz, 0, 0, 0)]) = _
  split
  · rfl
  · show List.filter _ (L ++ _) = _
    rw [List.filter_append, List.filter_cons_of_neg (by simpa using fun z => h z.symm)]
    exact List.append_nil _
theorem O1.addL {k s sz v mk : Int32} {L : List WT} (ho : O1 mk L) : O1 mk (addL k s (s + sz) v mk L) := (((ho.addN [s]).mapg (k := k) (v := v) (ss := [s]))).perm (addL_pm ho).symm
theorem addsR_eq {k sz v mk : Int32} : ∀ (ss : List Int32) {L : List WT}, ss.Nodup → UQ L → O1 mk L → addsR k sz v mk ss L = ss.flatMap (fun s => (fK k s L).flatMap (trO v))
  | [], _, _, _, _ => rfl
  | s :: ss, L, hn, hu, ho => by
    obtain ⟨n1, n2⟩ := List.nodup_cons.mp hn
    show addR k s v mk L ++ addsR k sz v mk ss (addL k s (s + sz) v mk L) = _
    rw [addR_eq ho, addsR_eq ss n2 hu.add ho.addL, List.flatMap_cons]
    congr 1
    have : ∀ (l : List Int32), (∀ z ∈ l, z ∈ ss) → l.flatMap (fun s' => (fK k s' (addL k s (s + sz) v mk L)).flatMap (trO v)) = l.flatMap (fun s' => (fK k s' L).flatMap (trO v)) := by
      intro l
      induction l with
      | nil => exact fun _ => rfl
      | cons z l ih =>
        intro hz
        rw [List.flatMap_cons, List.flatMap_cons, ih (fun y hy => hz y (by simp [hy])), fK_addL hu ho (fun e => n1 (by rw [← e]; exact hz z (by simp)))]
    exact this ss (fun _ h => h)
theorem trO_two {k s v : Int32} {L : List WT} (hu : UQ L) : (fK k s L).flatMap (trO v) = (fK k s L).flatMap bkO ++ (fK k s L).flatMap (emO v) := by
  rcases fK_one (k := k) (s := s) hu with e | ⟨w, -, -, e⟩
  · rw [e]; rfl
  · rw [e]
    show trO v w ++ [] = (bkO w ++ []) ++ (emO v w ++ [])
    unfold trO bkO emO
    split <;> rfl
theorem fK_addN {k sz s : Int32} {β : Type} {f : WT → List β} (hf : ∀ w : WT, wO w = 0 → f w = []) {W : List WT} {ss : List Int32} : (fK k s (addN k sz W ss)).flatMap f = (fK k s W).flatMap f := by
  obtain ⟨M, e, -, hM⟩ := addN_app k sz ss W
  rw [e]
  show (List.filter _ (W ++ M)).flatMap f = _
  rw [List.filter_append, List.flatMap_append]
  have : (List.filter (fun w => decide (isW k s w)) M).flatMap f = [] := by
    refine List.flatMap_eq_nil_iff.mpr (fun w hw => hf w ?_)
    rw [(hM w (List.mem_filter.mp hw).1).2.2]
  rw [this, List.append_nil]
theorem step_req {k sz v mk : Int32} {ss : List Int32} {L V : List WT} (hn : ss.Nodup) (hu : UQ L) (ho : O1 mk L) (p : L.Perm V) : REq (addsR k sz v mk ss L) (cmR1 k (addN k sz V ss) ss ++ cmR2 k v (addN k sz V ss) ss) := by
  have e1 : cmR1 k (addN k sz V ss) ss = ss.flatMap (fun s => (fK k s L).flatMap bkO) := by
    unfold cmR1
    congr 1
    funext s
    rw [fK_perm p hu]
    exact fK_addN (f := bkO) (fun w h => if_pos h)
  have e2 : cmR2 k v (addN k sz V ss) ss = ss.flatMap (fun s => (fK k s L).flatMap (emO v)) := by
    unfold cmR2
    congr 1
    funext s
    rw [fK_perm p hu]
    exact fK_addN (f := emO v) (fun w h => if_pos h)
  have e3 : ss.flatMap (fun s => (fK k s L).flatMap (trO v)) = ss.flatMap (fun s => (fK k s L).flatMap bkO ++ (fK k s L).flatMap (emO v)) := by
    congr 1
    funext s
    exact trO_two hu
  rw [addsR_eq ss hn hu ho, e1, e2, e3]
  refine REq.two (k := k) (fun s r hr => ?_) (fun s r hr => ?_) ss hn
  · obtain ⟨w, hw, hr⟩ := List.mem_flatMap.mp hr
    have c : isW k s w := by simpa using (List.mem_filter.mp hw).2
    unfold bkO at hr
    split at hr
    · exact absurd hr (by simp)
    · rw [List.mem_singleton.mp hr]; exact c
  · obtain ⟨w, hw, hr⟩ := List.mem_flatMap.mp hr
    have c : isW k s w := by simpa using (List.mem_filter.mp hw).2
    unfold emO at hr
    split at hr
    · exact absurd hr (by simp)
    · rw [List.mem_singleton.mp hr]; exact c
theorem nOut_perm {W V : List WT} (p : W.Perm V) : nOut W = nOut V := (p.filter _).length_eq
theorem nOut_map {k v : Int32} {ss : List Int32} : ∀ W : List WT, nOut (W.map (gA1 k v ss)) = nOut W
  | [] => rfl
  | w :: W => by
    have ih := nOut_map (k := k) (v := v) (ss := ss) W
    unfold nOut at ih ⊢
    have e := (gA1_k (k := k) (v := v) (ss := ss) w).2.2.2
    rw [List.map_cons]
    by_cases c : wO w = 0
    · rw [List.filter_cons_of_pos (by rw [e]; simpa using c), List.filter_cons_of_pos (by simpa using c), List.length_cons, List.length_cons, ih]
    · rw [List.filter_cons_of_neg (by rw [e]; simpa using c), List.filter_cons_of_neg (by simpa using c), ih]
theorem addL_cnt {k s sz v mk : Int32} {L : List WT} (hu : UQ L) (ho : O1 mk L) : (addR k s v mk L).length + nOut (addL k s (s + sz) v mk L) + (addL k s (s + sz) v mk L).length ≤ nOut L + L.length + 2 ∧ (addL k s (s + sz) v mk L).length ≤ L.length + 1 := by
  have p := addL_pm (k := k) (s := s) (sz := sz) (v := v) ho
  have l := p.length_eq
  have n := nOut_perm p
  rw [nOut_map] at n
  rw [List.length_map] at l
  rw [addR_eq ho, n, l]
  show ((fK k s L).flatMap (trO v)).length + nOut (if ∃ w ∈ L, isW k s w then L else L ++ [(k, s, s + sz, 0, 0, 0)]) + (if ∃ w ∈ L, isW k s w then L else L ++ [(k, s, s + sz, 0, 0, 0)]).length ≤ _ ∧ (if ∃ w ∈ L, isW k s w then L else L ++ [(k, s, s + sz, 0, 0, 0)]).length ≤ _
  rcases fK_one (k := k) (s := s) hu with e | ⟨w, hw, hc, e⟩
  · have c : ¬ ∃ w ∈ L, isW k s w := fun ⟨w, h1, h2⟩ => by
      have : w ∈ fK k s L := List.mem_filter.mpr ⟨h1, by simpa using h2⟩
      rw [e] at this
      exact absurd this (by simp)
    rw [if_neg c, e]
    unfold nOut
    rw [List.filter_append, List.length_append, List.length_append]
    have : (List.filter (fun w : WT => decide (wO w = 0)) [(k, s, s + sz, 0, 0, 0)]).length ≤ 1 := List.length_filter_le _ _
    simp only [List.flatMap_nil, List.length_nil, List.length_cons]
    omega
  · rw [if_pos ⟨w, hw, hc⟩, e]
    have : (List.flatMap (trO v) [w]).length ≤ 2 := by
      show (trO v w ++ []).length ≤ 2
      unfold trO
      split <;> simp
    omega
theorem adds_cnt {k sz v mk : Int32} : ∀ (ss : List Int32) {L : List WT}, UQ L → O1 mk L → (addsR k sz v mk ss L).length + nOut (addsL k sz v mk ss L) + (addsL k sz v mk ss L).length ≤ nOut L + L.length + 2 * ss.length ∧ (addsL k sz v mk ss L).length ≤ L.length + ss.length
  | [], L, _, _ => ⟨by show 0 + nOut L + L.length ≤ _; simp, Nat.le_refl _⟩
  | s :: ss, L, hu, ho => by
    obtain ⟨a1, a2⟩ := addL_cnt (k := k) (s := s) (sz := sz) (v := v) hu ho
    obtain ⟨b1, b2⟩ := adds_cnt (k := k) (sz := sz) (v := v) ss (L := addL k s (s + sz) v mk L) hu.add ho.addL
    show (addR k s v mk L ++ addsR k sz v mk ss _).length + nOut (addsL k sz v mk ss (addL k s (s + sz) v mk L)) + (addsL k sz v mk ss (addL k s (s + sz) v mk L)).length ≤ _ ∧ (addsL k sz v mk ss (addL k s (s + sz) v mk L)).length ≤ _
    rw [List.length_append, List.length_cons]
    omega
end STEPQ
